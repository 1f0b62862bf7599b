/-! The methods of the class walked (2). -/
set_option maxHeartbeats 4000000 in
theorem e_77 {xs : Nat → Int32} {L d : Nat} {J K : jZ} {P : Int → jZ → jZ → Prop} (h : l_77_36 xs L d (jm_up (jm_up (jm_up (jm_up (jm_up (jm_up J 146 4 0) 146 5 0) 146 6 0) 146 7 (-1)) 146 8 1) 146 9 (J 9 1)) K P) : q_77 xs L (d + 1) J K P := by
  unfold q_77
  refine jq_in (ls := [some (.ref 146), none]) rfl (Nat.le_of_ble_eq_true rfl) rfl ?_
  refine jw_aload_n rfl rfl ?_
  refine jw_iconst rfl ?_
  refine jw_pf rfl rfl ?_
  refine jw_aload_n rfl rfl ?_
  refine jw_iconst rfl ?_
  refine jw_pf rfl rfl ?_
  refine jw_aload_n rfl rfl ?_
  refine jw_iconst rfl ?_
  refine jw_pf rfl rfl ?_
  refine jw_aload_n rfl rfl ?_
  refine jw_iconst rfl ?_
  refine jw_pf rfl rfl ?_
  refine jw_aload_n rfl rfl ?_
  refine jw_iconst rfl ?_
  refine jw_pfz rfl rfl (by omega) ?_
  refine jw_aload_n rfl rfl ?_
  refine jw_aload_n rfl rfl ?_
  refine jw_gr (q := 9) rfl rfl rfl ?_
  refine jw_gf (v := (J 9 1)) rfl (by decide) rfl (by simp [jm_up]) ?_
  refine jw_pf rfl rfl ?_
  exact jz_fg (l := [some (.ref 146), none]) ⟨rfl, jz_n0, trivial⟩ h
set_option maxHeartbeats 4000000 in
theorem e_77_36 {xs : Nat → Int32} {L d : Nat} {J K : jZ} {P : Int → jZ → jZ → Prop} (h : (-2147483648 ≤ J 146 6 ∧ J 146 6 < 2147483648) ∧ (-2147483648 ≤ J 144 1 ∧ J 144 1 < 2147483648) ∧ ((J 144 1) ≤ (J 146 6) → l_77_113 xs L d J K P) ∧ ((J 146 6) < (J 144 1) → (-2147483648 ≤ J 146 7 ∧ J 146 7 < 2147483648) ∧ (¬ (J 146 7) = (-1) → l_77_113 xs L d J K P) ∧ ((J 146 7) = (-1) → ((0 : Int) ≤ J 146 6 ∧ J 146 6 < 250) ∧ (-2147483648 ≤ J 145 (J 146 6).toNat ∧ J 145 (J 146 6).toNat < 2147483648) ∧ (¬ (J 145 (J 146 6).toNat) = 32 → (-2147483648 ≤ J 146 8 ∧ J 146 8 < 2147483648) ∧ ((J 146 8) = 0 → q_86 xs L d (J 145 (J 146 6).toNat) (jm_up J 146 6 ((J 146 6) + 1)) K (fun J11 K12 => l_77_110 xs L d J11 K12 P)) ∧ (¬ (J 146 8) = 0 → q_78 xs L d (J 145 (J 146 6).toNat) (jm_up J 146 6 ((J 146 6) + 1)) K (fun J13 K14 => l_77_110 xs L d J13 K14 P))) ∧ ((J 145 (J 146 6).toNat) = 32 → l_77_36 xs L d (jm_up J 146 6 ((J 146 6) + 1)) K P)))) : l_77_36 xs L d J K P := by
  unfold l_77_36
  refine jw_aload_n rfl rfl ?_
  refine jw_gf (v := (J 146 6)) rfl (by decide) rfl rfl ?_
  refine jw_aload_n rfl rfl ?_
  refine jw_gr (q := 144) rfl rfl rfl ?_
  refine jw_gf (v := (J 144 1)) rfl (by decide) rfl rfl ?_
  obtain ⟨o1, h⟩ := h
  obtain ⟨o2, h⟩ := h
  refine jw_ic_ge rfl o1 o2 (fun c3 => ?_) (fun c3 => ?_)
  · replace h := h.1 c3
    exact jz_fg (l := [some (.ref 146), none]) ⟨rfl, jz_n0, trivial⟩ h
  · replace h := h.2 c3
    refine jw_aload_n rfl rfl ?_
    refine jw_gf (v := (J 146 7)) rfl (by decide) rfl rfl ?_
    refine jw_iconst rfl ?_
    obtain ⟨o4, h⟩ := h
    refine jw_ic_ne rfl o4 (by omega) (fun c5 => ?_) (fun c5 => ?_)
    · replace h := h.1 c5
      exact jz_fg (l := [some (.ref 146), none]) ⟨rfl, jz_n0, trivial⟩ h
    · replace h := h.2 c5
      refine jw_aload_n rfl rfl ?_
      refine jw_gr (q := 144) rfl rfl rfl ?_
      refine jw_gr (q := 145) rfl rfl rfl ?_
      refine jw_aload_n rfl rfl ?_
      refine jw_gf (v := (J 146 6)) rfl (by decide) rfl rfl ?_
      obtain ⟨o6, h⟩ := h
      refine jw_iald (v := (J 145 (J 146 6).toNat)) (N := 250) rfl rfl rfl (by omega) o6 rfl ?_
      refine jw_istore_n (ls' := [some (.ref 146), some (.int (Int32.ofInt (J 145 (J 146 6).toNat)))]) rfl rfl ?_
      refine jw_aload_n rfl rfl ?_
      refine jw_dup_r rfl ?_
      refine jw_gf (v := (J 146 6)) rfl (by decide) rfl rfl ?_
      refine jw_iconst rfl ?_
      refine jw_iadd rfl ?_
      refine jw_pf rfl rfl ?_
      refine jw_iload_n rfl rfl ?_
      refine jw_bipush rfl (by decide) ?_
      obtain ⟨o7, h⟩ := h
      refine jw_ic_ne rfl o7 (by omega) (fun c8 => ?_) (fun c8 => ?_)
      · replace h := h.1 c8
        refine jw_aload_n rfl rfl ?_
        refine jw_gf (v := (J 146 8)) rfl (by decide) rfl (by simp [jm_up]) ?_
        obtain ⟨o9, h⟩ := h
        refine jw_if_eq rfl o9 (fun c10 => ?_) (fun c10 => ?_)
        · replace h := h.1 c10
          refine jw_aload_n rfl rfl ?_
          refine jw_iload_n rfl rfl ?_
          refine jw_virt (k := 1) (c := 10) (as := [.int (Int32.ofInt (J 145 (J 146 6).toNat))]) rfl rfl rfl (Nat.le_of_ble_eq_true rfl) rfl (Nat.le_of_ble_eq_true rfl) rfl rfl (jz_cv ?_)
          refine jm_Q.mono h (jp_v_mono (fun J11 K12 h => ?_))
          exact jz_fg (l := [some (.ref 146), none]) ⟨rfl, jz_ni, trivial⟩ h
        · replace h := h.2 c10
          refine jw_aload_n rfl rfl ?_
          refine jw_iload_n rfl rfl ?_
          refine jw_virt (k := 1) (c := 10) (as := [.int (Int32.ofInt (J 145 (J 146 6).toNat))]) rfl rfl rfl (Nat.le_of_ble_eq_true rfl) rfl (Nat.le_of_ble_eq_true rfl) rfl rfl (jz_cv ?_)
          refine jm_Q.mono h (jp_v_mono (fun J13 K14 h => ?_))
          refine jw_goto rfl ?_
          exact jz_fg (l := [some (.ref 146), none]) ⟨rfl, jz_ni, trivial⟩ h
      · replace h := h.2 c8
        refine jw_goto rfl ?_
        exact jz_fg (l := [some (.ref 146), none]) ⟨rfl, jz_ni, trivial⟩ h
set_option maxHeartbeats 4000000 in
theorem e_77_110 {xs : Nat → Int32} {L d : Nat} {J K : jZ} {P : Int → jZ → jZ → Prop} (h : l_77_36 xs L d J K P) : l_77_110 xs L d J K P := by
  unfold l_77_110
  refine jw_goto rfl ?_
  exact jz_fg (l := [some (.ref 146), none]) ⟨rfl, jz_n0, trivial⟩ h
set_option maxHeartbeats 4000000 in
theorem e_77_113 {xs : Nat → Int32} {L d : Nat} {J K : jZ} {P : Int → jZ → jZ → Prop} (h : (-2147483648 ≤ J 146 7 ∧ J 146 7 < 2147483648) ∧ (¬ (J 146 7) = (-1) → l_77_133 xs L d J K P) ∧ ((J 146 7) = (-1) → (-2147483648 ≤ J 146 8 ∧ J 146 8 < 2147483648) ∧ (¬ (J 146 8) = 0 → l_77_133 xs L d J K P) ∧ ((J 146 8) = 0 → q_88 xs L d 2 J K (fun J5 K6 => l_77_133 xs L d J5 K6 P)))) : l_77_113 xs L d J K P := by
  unfold l_77_113
  refine jw_aload_n rfl rfl ?_
  refine jw_gf (v := (J 146 7)) rfl (by decide) rfl rfl ?_
  refine jw_iconst rfl ?_
  obtain ⟨o1, h⟩ := h
  refine jw_ic_ne rfl o1 (by omega) (fun c2 => ?_) (fun c2 => ?_)
  · replace h := h.1 c2
    exact jz_fg (l := [some (.ref 146), none]) ⟨rfl, jz_n0, trivial⟩ h
  · replace h := h.2 c2
    refine jw_aload_n rfl rfl ?_
    refine jw_gf (v := (J 146 8)) rfl (by decide) rfl rfl ?_
    obtain ⟨o3, h⟩ := h
    refine jw_if_ne rfl o3 (fun c4 => ?_) (fun c4 => ?_)
    · replace h := h.1 c4
      exact jz_fg (l := [some (.ref 146), none]) ⟨rfl, jz_n0, trivial⟩ h
    · replace h := h.2 c4
      refine jw_aload_n rfl rfl ?_
      refine jw_iconst rfl ?_
      refine jw_virt (k := 1) (c := 10) (as := [.int (Int32.ofInt 2)]) rfl rfl rfl (Nat.le_of_ble_eq_true rfl) rfl (Nat.le_of_ble_eq_true rfl) rfl rfl (jz_cv ?_)
      refine jm_Q.mono h (jp_v_mono (fun J5 K6 h => ?_))
      exact jz_fg (l := [some (.ref 146), none]) ⟨rfl, jz_n0, trivial⟩ h
set_option maxHeartbeats 4000000 in
theorem e_77_133 {xs : Nat → Int32} {L d : Nat} {J K : jZ} {P : Int → jZ → jZ → Prop} (h : (-2147483648 ≤ J 146 7 ∧ J 146 7 < 2147483648) ∧ (¬ (J 146 7) = (-1) → l_77_166 xs L d J K P) ∧ ((J 146 7) = (-1) → (-2147483648 ≤ J 146 8 ∧ J 146 8 < 2147483648) ∧ (¬ (J 146 8) = 0 → l_77_155 xs L d J K P) ∧ ((J 146 8) = 0 → (-2147483648 ≤ J 146 5 ∧ J 146 5 < 2147483648) ∧ ((J 146 5) ≤ 0 → l_77_166 xs L d J K P) ∧ (0 < (J 146 5) → l_77_155 xs L d J K P)))) : l_77_133 xs L d J K P := by
  unfold l_77_133
  refine jw_aload_n rfl rfl ?_
  refine jw_gf (v := (J 146 7)) rfl (by decide) rfl rfl ?_
  refine jw_iconst rfl ?_
  obtain ⟨o1, h⟩ := h
  refine jw_ic_ne rfl o1 (by omega) (fun c2 => ?_) (fun c2 => ?_)
  · replace h := h.1 c2
    exact jz_fg (l := [some (.ref 146), none]) ⟨rfl, jz_n0, trivial⟩ h
  · replace h := h.2 c2
    refine jw_aload_n rfl rfl ?_
    refine jw_gf (v := (J 146 8)) rfl (by decide) rfl rfl ?_
    obtain ⟨o3, h⟩ := h
    refine jw_if_ne rfl o3 (fun c4 => ?_) (fun c4 => ?_)
    · replace h := h.1 c4
      exact jz_fg (l := [some (.ref 146), none]) ⟨rfl, jz_n0, trivial⟩ h
    · replace h := h.2 c4
      refine jw_aload_n rfl rfl ?_
      refine jw_gf (v := (J 146 5)) rfl (by decide) rfl rfl ?_
      obtain ⟨o5, h⟩ := h
      refine jw_if_le rfl o5 (fun c6 => ?_) (fun c6 => ?_)
      · replace h := h.1 c6
        exact jz_fg (l := [some (.ref 146), none]) ⟨rfl, jz_n0, trivial⟩ h
      · replace h := h.2 c6
        exact jz_fg (l := [some (.ref 146), none]) ⟨rfl, jz_n0, trivial⟩ h
set_option maxHeartbeats 4000000 in
theorem e_77_155 {xs : Nat → Int32} {L d : Nat} {J K : jZ} {P : Int → jZ → jZ → Prop} (h : l_77_166 xs L d (jm_up J 146 7 (J 144 1)) K P) : l_77_155 xs L d J K P := by
  unfold l_77_155
  refine jw_aload_n rfl rfl ?_
  refine jw_aload_n rfl rfl ?_
  refine jw_gr (q := 144) rfl rfl rfl ?_
  refine jw_gf (v := (J 144 1)) rfl (by decide) rfl rfl ?_
  refine jw_pf rfl rfl ?_
  exact jz_fg (l := [some (.ref 146), none]) ⟨rfl, jz_n0, trivial⟩ h
set_option maxHeartbeats 4000000 in
theorem e_77_166 {xs : Nat → Int32} {L d : Nat} {J K : jZ} {P : Int → jZ → jZ → Prop} (h : P (J 146 7) J K) : l_77_166 xs L d J K P := by
  unfold l_77_166
  refine jw_aload_n rfl rfl ?_
  refine jw_gf (v := (J 146 7)) rfl (by decide) rfl rfl ?_
  refine jw_iret rfl ?_
  exact h
set_option maxHeartbeats 4000000 in
theorem e_78 {xs : Nat → Int32} {L d : Nat} {v1 : Int} {J K : jZ} {P : jZ → jZ → Prop} (h : (-2147483648 ≤ v1 ∧ v1 < 2147483648) ∧ ((97 ≤ v1 ∧ v1 < 113) → q_79 xs L (d + 1) 0 (v1 - 97) 1 J K (fun J3 K4 => P J3 K4)) ∧ (¬ (97 ≤ v1 ∧ v1 < 113) → (¬ v1 = 83 → (¬ v1 = 80 → (¬ v1 = 84 → (¬ v1 = 39 → (¬ v1 = 40 → (¬ v1 = 123 → P (jm_up J 146 7 ((J 146 6) - 1)) K) ∧ (v1 = 123 → q_85 xs L (d + 1) 3 J K (fun r13 J11 K12 => q_84 xs L (d + 1) (100 + (10 * r13)) J11 K12 (fun J14 K15 => P J14 K15)))) ∧ (v1 = 40 → q_84 xs L (d + 1) 20 J K (fun J16 K17 => P J16 K17))) ∧ (v1 = 39 → q_83 xs L (d + 1) J K (fun J18 K19 => P J18 K19))) ∧ (v1 = 84 → q_79 xs L (d + 1) 9 2 0 J K (fun J20 K21 => P J20 K21))) ∧ (v1 = 80 → q_79 xs L (d + 1) 9 1 0 J K (fun J22 K23 => P J22 K23))) ∧ (v1 = 83 → q_79 xs L (d + 1) 9 0 0 J K (fun J24 K25 => P J24 K25)))) : q_78 xs L (d + 2) v1 J K P := by
  unfold q_78
  refine jq_in (ls := [some (.ref 146), some (.int (Int32.ofInt v1)), none]) rfl (Nat.le_of_ble_eq_true rfl) rfl ?_
  refine jw_aload_n rfl rfl ?_
  refine jw_gf (v := (J 146 6)) rfl (by decide) rfl rfl ?_
  refine jw_iconst rfl ?_
  refine jw_isub rfl ?_
  refine jw_istore_n (ls' := [some (.ref 146), some (.int (Int32.ofInt v1)), some (.int (Int32.ofInt ((J 146 6) - 1)))]) rfl rfl ?_
  refine jw_iload_n rfl rfl ?_
  refine jw_stat (k := 1) (as := [.int (Int32.ofInt v1)]) rfl (by decide) rfl rfl (Nat.le_of_ble_eq_true rfl) rfl (Nat.le_of_ble_eq_true rfl) (jz_ci ?_)
  obtain ⟨o1, h⟩ := h
  refine sb_71 o1 (fun c2 => ?_) (fun c2 => ?_)
  · replace h := h.1 c2
    refine jw_if_eq rfl (by omega) (fun hc => by exfalso; omega) (fun _ => ?_)
    refine jw_aload_n rfl rfl ?_
    refine jw_iconst rfl ?_
    refine jw_iload_n rfl rfl ?_
    refine jw_bipush rfl (by decide) ?_
    refine jw_isub rfl ?_
    refine jw_iconst rfl ?_
    refine jw_virt (k := 3) (c := 10) (as := [.int (Int32.ofInt 0), .int (Int32.ofInt (v1 - 97)), .int (Int32.ofInt 1)]) rfl rfl rfl (Nat.le_of_ble_eq_true rfl) rfl (Nat.le_of_ble_eq_true rfl) rfl rfl (jz_cv ?_)
    refine jm_Q.mono h (jp_v_mono (fun J3 K4 h => ?_))
    refine jw_goto rfl ?_
    refine jw_vret rfl ?_
    exact h
  · replace h := h.2 c2
    refine jw_if_eq rfl (by omega) (fun _ => ?_) (fun hc => by exfalso; omega)
    refine jw_iload_n rfl rfl ?_
    refine jw_bipush rfl (by decide) ?_
    refine jw_ic_ne rfl o1 (by omega) (fun c5 => ?_) (fun c5 => ?_)
    · replace h := h.1 c5
      refine jw_iload_n rfl rfl ?_
      refine jw_bipush rfl (by decide) ?_
      refine jw_ic_ne rfl o1 (by omega) (fun c6 => ?_) (fun c6 => ?_)
      · replace h := h.1 c6
        refine jw_iload_n rfl rfl ?_
        refine jw_bipush rfl (by decide) ?_
        refine jw_ic_ne rfl o1 (by omega) (fun c7 => ?_) (fun c7 => ?_)
        · replace h := h.1 c7
          refine jw_iload_n rfl rfl ?_
          refine jw_bipush rfl (by decide) ?_
          refine jw_ic_ne rfl o1 (by omega) (fun c8 => ?_) (fun c8 => ?_)
          · replace h := h.1 c8
            refine jw_iload_n rfl rfl ?_
            refine jw_bipush rfl (by decide) ?_
            refine jw_ic_ne rfl o1 (by omega) (fun c9 => ?_) (fun c9 => ?_)
            · replace h := h.1 c9
              refine jw_iload_n rfl rfl ?_
              refine jw_bipush rfl (by decide) ?_
              refine jw_ic_ne rfl o1 (by omega) (fun c10 => ?_) (fun c10 => ?_)
              · replace h := h.1 c10
                refine jw_aload_n rfl rfl ?_
                refine jw_iload_n rfl rfl ?_
                refine jw_pf rfl rfl ?_
                refine jw_vret rfl ?_
                exact h
              · replace h := h.2 c10
                refine jw_aload_n rfl rfl ?_
                refine jw_bipush rfl (by decide) ?_
                refine jw_bipush rfl (by decide) ?_
                refine jw_aload_n rfl rfl ?_
                refine jw_iconst rfl ?_
                refine jw_virt (k := 1) (c := 10) (as := [.int (Int32.ofInt 3)]) rfl rfl rfl (Nat.le_of_ble_eq_true rfl) rfl (Nat.le_of_ble_eq_true rfl) rfl rfl (jz_ci ?_)
                refine jm_Q.mono h (jp_i_mono (fun r13 J11 K12 h => ?_))
                refine jw_imul rfl ?_
                refine jw_iadd rfl ?_
                refine jw_virt (k := 1) (c := 10) (as := [.int (Int32.ofInt (100 + (10 * r13)))]) rfl rfl rfl (Nat.le_of_ble_eq_true rfl) rfl (Nat.le_of_ble_eq_true rfl) rfl rfl (jz_cv ?_)
                refine jm_Q.mono h (jp_v_mono (fun J14 K15 h => ?_))
                refine jw_goto rfl ?_
                refine jw_vret rfl ?_
                exact h
            · replace h := h.2 c9
              refine jw_aload_n rfl rfl ?_
              refine jw_bipush rfl (by decide) ?_
              refine jw_virt (k := 1) (c := 10) (as := [.int (Int32.ofInt 20)]) rfl rfl rfl (Nat.le_of_ble_eq_true rfl) rfl (Nat.le_of_ble_eq_true rfl) rfl rfl (jz_cv ?_)
              refine jm_Q.mono h (jp_v_mono (fun J16 K17 h => ?_))
              refine jw_goto rfl ?_
              refine jw_vret rfl ?_
              exact h
          · replace h := h.2 c8
            refine jw_aload_n rfl rfl ?_
            refine jw_virt (k := 0) (c := 10) (as := []) rfl rfl rfl (Nat.le_of_ble_eq_true rfl) rfl (Nat.le_of_ble_eq_true rfl) rfl rfl (jz_cv ?_)
            refine jm_Q.mono h (jp_v_mono (fun J18 K19 h => ?_))
            refine jw_goto rfl ?_
            refine jw_vret rfl ?_
            exact h
        · replace h := h.2 c7
          refine jw_aload_n rfl rfl ?_
          refine jw_bipush rfl (by decide) ?_
          refine jw_iconst rfl ?_
          refine jw_iconst rfl ?_
          refine jw_virt (k := 3) (c := 10) (as := [.int (Int32.ofInt 9), .int (Int32.ofInt 2), .int (Int32.ofInt 0)]) rfl rfl rfl (Nat.le_of_ble_eq_true rfl) rfl (Nat.le_of_ble_eq_true rfl) rfl rfl (jz_cv ?_)
          refine jm_Q.mono h (jp_v_mono (fun J20 K21 h => ?_))
          refine jw_goto rfl ?_
          refine jw_vret rfl ?_
          exact h
      · replace h := h.2 c6
        refine jw_aload_n rfl rfl ?_
        refine jw_bipush rfl (by decide) ?_
        refine jw_iconst rfl ?_
        refine jw_iconst rfl ?_
        refine jw_virt (k := 3) (c := 10) (as := [.int (Int32.ofInt 9), .int (Int32.ofInt 1), .int (Int32.ofInt 0)]) rfl rfl rfl (Nat.le_of_ble_eq_true rfl) rfl (Nat.le_of_ble_eq_true rfl) rfl rfl (jz_cv ?_)
        refine jm_Q.mono h (jp_v_mono (fun J22 K23 h => ?_))
        refine jw_goto rfl ?_
        refine jw_vret rfl ?_
        exact h
    · replace h := h.2 c5
      refine jw_aload_n rfl rfl ?_
      refine jw_bipush rfl (by decide) ?_
      refine jw_iconst rfl ?_
      refine jw_iconst rfl ?_
      refine jw_virt (k := 3) (c := 10) (as := [.int (Int32.ofInt 9), .int (Int32.ofInt 0), .int (Int32.ofInt 0)]) rfl rfl rfl (Nat.le_of_ble_eq_true rfl) rfl (Nat.le_of_ble_eq_true rfl) rfl rfl (jz_cv ?_)
      refine jm_Q.mono h (jp_v_mono (fun J24 K25 h => ?_))
      refine jw_goto rfl ?_
      refine jw_vret rfl ?_
      exact h
set_option maxHeartbeats 4000000 in
theorem e_79 {xs : Nat → Int32} {L d : Nat} {v1 : Int} {v2 : Int} {v3 : Int} {J K : jZ} {P : jZ → jZ → Prop} (h : q_80 xs L d 9 (J 146 9) v1 v2 v3 J K (fun J1 K2 => q_82 xs L d J1 K2 (fun J3 K4 => P (jm_up J3 146 8 0) K4))) : q_79 xs L (d + 1) v1 v2 v3 J K P := by
  unfold q_79
  refine jq_in (ls := [some (.ref 146), some (.int (Int32.ofInt v1)), some (.int (Int32.ofInt v2)), some (.int (Int32.ofInt v3))]) rfl (Nat.le_of_ble_eq_true rfl) rfl ?_
  refine jw_aload_n rfl rfl ?_
  refine jw_gr (q := 9) rfl rfl rfl ?_
  refine jw_aload_n rfl rfl ?_
  refine jw_gf (v := (J 146 9)) rfl (by decide) rfl rfl ?_
  refine jw_iload_n rfl rfl ?_
  refine jw_iload_n rfl rfl ?_
  refine jw_iload_n rfl rfl ?_
  refine jw_virt (k := 4) (c := 11) (as := [.int (Int32.ofInt (J 146 9)), .int (Int32.ofInt v1), .int (Int32.ofInt v2), .int (Int32.ofInt v3)]) rfl rfl rfl (Nat.le_of_ble_eq_true rfl) rfl (Nat.le_of_ble_eq_true rfl) rfl rfl (jz_cv ?_)
  refine jm_Q.mono h (jp_v_mono (fun J1 K2 h => ?_))
  refine jw_aload_n rfl rfl ?_
  refine jw_virt (k := 0) (c := 10) (as := []) rfl rfl rfl (Nat.le_of_ble_eq_true rfl) rfl (Nat.le_of_ble_eq_true rfl) rfl rfl (jz_cv ?_)
  refine jm_Q.mono h (jp_v_mono (fun J3 K4 h => ?_))
  refine jw_aload_n rfl rfl ?_
  refine jw_iconst rfl ?_
  refine jw_pfz rfl rfl (by omega) ?_
  refine jw_vret rfl ?_
  exact h
set_option maxHeartbeats 4000000 in
theorem e_80 {xs : Nat → Int32} {L d : Nat} {v0 : Nat} {v1 : Int} {v2 : Int} {v3 : Int} {v4 : Int} {J K : jZ} {P : jZ → jZ → Prop} (hk0 : jz_kd v0 = 12) (h : (-2147483648 ≤ v1 ∧ v1 < 2147483648) ∧ (v1 < 0 → P J K) ∧ (0 ≤ v1 → (v1 < 24 → ((0 : Int) ≤ v1 ∧ v1 < 24) ∧ q_81 xs L d (v0 + 2 + v1.toNat) v2 (jz_and v3 15) v1 J K (fun J5 K6 => l_80_46 xs L d v3 v4 (v0 + 2 + v1.toNat) 0 (jm_up (jm_up J5 (v0 + 2 + v1.toNat) 5 v3) (v0 + 2 + v1.toNat) 6 v4) K6 P)) ∧ (24 ≤ v1 → P J K))) : q_80 xs L (d + 1) v0 v1 v2 v3 v4 J K P := by
  unfold q_80
  refine jq_in (ls := [some (.ref v0), some (.int (Int32.ofInt v1)), some (.int (Int32.ofInt v2)), some (.int (Int32.ofInt v3)), some (.int (Int32.ofInt v4)), none, none]) rfl (Nat.le_of_ble_eq_true rfl) rfl ?_
  refine jw_iload_n rfl rfl ?_
  obtain ⟨o1, h⟩ := h
  refine jw_if_lt rfl o1 (fun c2 => ?_) (fun c2 => ?_)
  · replace h := h.1 c2
    refine jw_vret rfl ?_
    exact h
  · replace h := h.2 c2
    refine jw_iload_n rfl rfl ?_
    refine jw_bipush rfl (by decide) ?_
    refine jw_ic_lt rfl o1 (by omega) (fun c3 => ?_) (fun c3 => ?_)
    · replace h := h.1 c3
      refine jw_aload_n rfl rfl ?_
      refine jw_gr (q := (v0 + 1)) rfl hk0 (jzr_12_1 hk0) ?_
      refine jw_iload_n rfl rfl ?_
      obtain ⟨o4, h⟩ := h
      refine jw_aald (k := 3) (q := (v0 + 2 + v1.toNat)) (N := 24) rfl (jzk_12_1 hk0) (by omega) (jzn_12_1 hk0) (by omega) o4 (jzr_12e hk0 o4) ?_
      refine jw_astore (ls' := [some (.ref v0), some (.int (Int32.ofInt v1)), some (.int (Int32.ofInt v2)), some (.int (Int32.ofInt v3)), some (.int (Int32.ofInt v4)), some (.ref (v0 + 2 + v1.toNat)), none]) rfl rfl ?_
      refine jw_aload rfl rfl ?_
      refine jw_iload_n rfl rfl ?_
      refine jw_iload_n rfl rfl ?_
      refine jw_bipush rfl (by decide) ?_
      refine jw_iand rfl ?_
      refine jw_iload_n rfl rfl ?_
      refine jw_virt (k := 3) (c := 9) (as := [.int (Int32.ofInt v2), .int (Int32.ofInt (jz_and v3 15)), .int (Int32.ofInt v1)]) rfl rfl rfl (Nat.le_of_ble_eq_true rfl) rfl (Nat.le_of_ble_eq_true rfl) (jze_12e hk0 o4) rfl (jz_cv ?_)
      refine jm_Q.mono h (jp_v_mono (fun J5 K6 h => ?_))
      refine jw_aload rfl rfl ?_
      refine jw_iload_n rfl rfl ?_
      refine jw_pf rfl (jze_12e hk0 o4) ?_
      refine jw_aload rfl rfl ?_
      refine jw_iload rfl rfl ?_
      refine jw_pf rfl (jze_12e hk0 o4) ?_
      refine jw_iconst rfl ?_
      refine jw_istore (ls' := [some (.ref v0), some (.int (Int32.ofInt v1)), some (.int (Int32.ofInt v2)), some (.int (Int32.ofInt v3)), some (.int (Int32.ofInt v4)), some (.ref (v0 + 2 + v1.toNat)), some (.int (Int32.ofInt 0))]) rfl rfl ?_
      exact jz_fg (l := [none, none, none, some (.int (Int32.ofInt v3)), some (.int (Int32.ofInt v4)), some (.ref (v0 + 2 + v1.toNat)), some (.int (Int32.ofInt 0))]) ⟨jz_nr, jz_ni, jz_ni, rfl, rfl, rfl, rfl, trivial⟩ h
    · replace h := h.2 c3
      refine jw_vret rfl ?_
      exact h
set_option maxHeartbeats 4000000 in
theorem e_80_46 {xs : Nat → Int32} {L d : Nat} {v3 : Int} {v4 : Int} {v5 : Nat} {v6 : Int} {J K : jZ} {P : jZ → jZ → Prop} (hk5 : jz_kd v5 = 10) (h : (-2147483648 ≤ v6 ∧ v6 < 2147483648) ∧ (-2147483648 ≤ v4 ∧ v4 < 2147483648) ∧ (v4 ≤ v6 → P J K) ∧ (v6 < v4 → l_80_46 xs L d v3 v4 v5 (v6 + 1) (jm_up J v5 9 (jz_or (J v5 9) (jz_shl 1 (jz_and (jz_shr v3 (4 * v6)) 15)))) K P)) : l_80_46 xs L d v3 v4 v5 v6 J K P := by
  unfold l_80_46
  refine jw_iload rfl rfl ?_
  refine jw_iload rfl rfl ?_
  obtain ⟨o1, h⟩ := h
  obtain ⟨o2, h⟩ := h
  refine jw_ic_ge rfl o1 o2 (fun c3 => ?_) (fun c3 => ?_)
  · replace h := h.1 c3
    refine jw_vret rfl ?_
    exact h
  · replace h := h.2 c3
    refine jw_aload rfl rfl ?_
    refine jw_dup_r rfl ?_
    refine jw_gf (v := (J v5 9)) rfl (by decide) hk5 rfl ?_
    refine jw_iconst rfl ?_
    refine jw_iload_n rfl rfl ?_
    refine jw_iconst rfl ?_
    refine jw_iload rfl rfl ?_
    refine jw_imul rfl ?_
    refine jw_ishr rfl ?_
    refine jw_bipush rfl (by decide) ?_
    refine jw_iand rfl ?_
    refine jw_ishl rfl ?_
    refine jw_ior rfl ?_
    refine jw_pf rfl hk5 ?_
    refine jw_iinc (ls' := [none, none, none, some (.int (Int32.ofInt v3)), some (.int (Int32.ofInt v4)), some (.ref v5), some (.int (Int32.ofInt (v6 + 1)))]) rfl rfl rfl ?_
    refine jw_goto rfl ?_
    exact jz_fg (l := [none, none, none, some (.int (Int32.ofInt v3)), some (.int (Int32.ofInt v4)), some (.ref v5), some (.int (Int32.ofInt (v6 + 1)))]) ⟨jz_n0, jz_n0, jz_n0, rfl, rfl, rfl, rfl, trivial⟩ h
set_option maxHeartbeats 4000000 in
theorem e_81 {xs : Nat → Int32} {L d : Nat} {v0 : Nat} {v1 : Int} {v2 : Int} {v3 : Int} {J K : jZ} {P : jZ → jZ → Prop} (hk0 : jz_kd v0 = 10) (h : P (jm_up (jm_up (jm_up (jm_up (jm_up (jm_up (jm_up (jm_up (jm_up (jm_up (jm_up J v0 0 v1) v0 4 v2) v0 1 (-1)) v0 2 (-1)) v0 3 (-1)) v0 5 0) v0 6 0) v0 7 1) v0 8 0) v0 9 0) v0 10 (jz_shl 1 v3)) K) : q_81 xs L (d + 1) v0 v1 v2 v3 J K P := by
  unfold q_81
  refine jq_in (ls := [some (.ref v0), some (.int (Int32.ofInt v1)), some (.int (Int32.ofInt v2)), some (.int (Int32.ofInt v3))]) rfl (Nat.le_of_ble_eq_true rfl) rfl ?_
  refine jw_aload_n rfl rfl ?_
  refine jw_iload_n rfl rfl ?_
  refine jw_pf rfl hk0 ?_
  refine jw_aload_n rfl rfl ?_
  refine jw_iload_n rfl rfl ?_
  refine jw_pf rfl hk0 ?_
  refine jw_aload_n rfl rfl ?_
  refine jw_iconst rfl ?_
  refine jw_pf rfl hk0 ?_
  refine jw_aload_n rfl rfl ?_
  refine jw_iconst rfl ?_
  refine jw_pf rfl hk0 ?_
  refine jw_aload_n rfl rfl ?_
  refine jw_iconst rfl ?_
  refine jw_pf rfl hk0 ?_
  refine jw_aload_n rfl rfl ?_
  refine jw_iconst rfl ?_
  refine jw_pf rfl hk0 ?_
  refine jw_aload_n rfl rfl ?_
  refine jw_iconst rfl ?_
  refine jw_pf rfl hk0 ?_
  refine jw_aload_n rfl rfl ?_
  refine jw_iconst rfl ?_
  refine jw_pf rfl hk0 ?_
  refine jw_aload_n rfl rfl ?_
  refine jw_iconst rfl ?_
  refine jw_pf rfl hk0 ?_
  refine jw_aload_n rfl rfl ?_
  refine jw_iconst rfl ?_
  refine jw_pf rfl hk0 ?_
  refine jw_aload_n rfl rfl ?_
  refine jw_iconst rfl ?_
  refine jw_iload_n rfl rfl ?_
  refine jw_ishl rfl ?_
  refine jw_pf rfl hk0 ?_
  refine jw_vret rfl ?_
  exact h
set_option maxHeartbeats 4000000 in
theorem e_82 {xs : Nat → Int32} {L d : Nat} {J K : jZ} {P : jZ → jZ → Prop} (h : (-2147483648 ≤ J 146 4 ∧ J 146 4 < 2147483648) ∧ (250 ≤ (J 146 4) → P (jm_up J 146 9 ((J 146 9) + 1)) K) ∧ ((J 146 4) < 250 → ((0 : Int) ≤ J 146 4 ∧ J 146 4 < 250) ∧ P (jm_up (jm_up (jm_up J 147 (J 146 4).toNat (J 146 9)) 146 4 ((J 146 4) + 1)) 146 9 ((J 146 9) + 1)) K)) : q_82 xs L (d + 1) J K P := by
  unfold q_82
  refine jq_in (ls := [some (.ref 146)]) rfl (Nat.le_of_ble_eq_true rfl) rfl ?_
  refine jw_aload_n rfl rfl ?_
  refine jw_gf (v := (J 146 4)) rfl (by decide) rfl rfl ?_
  refine jw_sipush rfl (by decide) ?_
  obtain ⟨o1, h⟩ := h
  refine jw_ic_ge rfl o1 (by omega) (fun c2 => ?_) (fun c2 => ?_)
  · replace h := h.1 c2
    refine jw_aload_n rfl rfl ?_
    refine jw_dup_r rfl ?_
    refine jw_gf (v := (J 146 9)) rfl (by decide) rfl rfl ?_
    refine jw_iconst rfl ?_
    refine jw_iadd rfl ?_
    refine jw_pf rfl rfl ?_
    refine jw_vret rfl ?_
    exact h
  · replace h := h.2 c2
    refine jw_aload_n rfl rfl ?_
    refine jw_gr (q := 147) rfl rfl rfl ?_
    refine jw_aload_n rfl rfl ?_
    refine jw_gf (v := (J 146 4)) rfl (by decide) rfl rfl ?_
    refine jw_aload_n rfl rfl ?_
    refine jw_gf (v := (J 146 9)) rfl (by decide) rfl rfl ?_
    obtain ⟨o3, h⟩ := h
    refine jw_iast (N := 250) rfl rfl rfl (by omega) o3 ?_
    refine jw_aload_n rfl rfl ?_
    refine jw_dup_r rfl ?_
    refine jw_gf (v := (J 146 4)) rfl (by decide) rfl (by simp [jm_up]) ?_
    refine jw_iconst rfl ?_
    refine jw_iadd rfl ?_
    refine jw_pf rfl rfl ?_
    refine jw_aload_n rfl rfl ?_
    refine jw_dup_r rfl ?_
    refine jw_gf (v := (J 146 9)) rfl (by decide) rfl (by simp [jm_up]) ?_
    refine jw_iconst rfl ?_
    refine jw_iadd rfl ?_
    refine jw_pf rfl rfl ?_
    refine jw_vret rfl ?_
    exact h
set_option maxHeartbeats 4000000 in
theorem e_83 {xs : Nat → Int32} {L d : Nat} {J K : jZ} {P : jZ → jZ → Prop} (h : l_83_4 xs L (d + 1) 0 0 J K P) : q_83 xs L (d + 2) J K P := by
  unfold q_83
  refine jq_in (ls := [some (.ref 146), none, none, none]) rfl (Nat.le_of_ble_eq_true rfl) rfl ?_
  refine jw_iconst rfl ?_
  refine jw_istore_n (ls' := [some (.ref 146), some (.int (Int32.ofInt 0)), none, none]) rfl rfl ?_
  refine jw_iconst rfl ?_
  refine jw_istore_n (ls' := [some (.ref 146), some (.int (Int32.ofInt 0)), some (.int (Int32.ofInt 0)), none]) rfl rfl ?_
  exact jz_fg (l := [some (.ref 146), some (.int (Int32.ofInt 0)), some (.int (Int32.ofInt 0)), none]) ⟨rfl, rfl, rfl, jz_n0, trivial⟩ h
set_option maxHeartbeats 4000000 in
theorem e_83_4 {xs : Nat → Int32} {L d : Nat} {v1 : Int} {v2 : Int} {J K : jZ} {P : jZ → jZ → Prop} (h : (-2147483648 ≤ J 146 6 ∧ J 146 6 < 2147483648) ∧ (-2147483648 ≤ J 144 1 ∧ J 144 1 < 2147483648) ∧ ((J 144 1) ≤ (J 146 6) → P (jm_up J 146 7 (J 144 1)) K) ∧ ((J 146 6) < (J 144 1) → ((0 : Int) ≤ J 146 6 ∧ J 146 6 < 250) ∧ (-2147483648 ≤ J 145 (J 146 6).toNat ∧ J 145 (J 146 6).toNat < 2147483648) ∧ ((97 ≤ J 145 (J 146 6).toNat ∧ J 145 (J 146 6).toNat < 113) → (-2147483648 ≤ v2 ∧ v2 < 2147483648) ∧ (4 ≤ v2 → l_83_60 xs L (d + 1) v1 v2 (J 145 (J 146 6).toNat) J K P) ∧ (v2 < 4 → l_83_104 xs L (d + 1) (jz_or v1 (jz_shl ((J 145 (J 146 6).toNat) - 97) (4 * v2))) (v2 + 1) J K P)) ∧ (¬ (97 ≤ J 145 (J 146 6).toNat ∧ J 145 (J 146 6).toNat < 113) → l_83_60 xs L (d + 1) v1 v2 (J 145 (J 146 6).toNat) J K P))) : l_83_4 xs L (d + 1) v1 v2 J K P := by
  unfold l_83_4
  refine jw_aload_n rfl rfl ?_
  refine jw_gf (v := (J 146 6)) rfl (by decide) rfl rfl ?_
  refine jw_aload_n rfl rfl ?_
  refine jw_gr (q := 144) rfl rfl rfl ?_
  refine jw_gf (v := (J 144 1)) rfl (by decide) rfl rfl ?_
  obtain ⟨o1, h⟩ := h
  obtain ⟨o2, h⟩ := h
  refine jw_ic_ge rfl o1 o2 (fun c3 => ?_) (fun c3 => ?_)
  · replace h := h.1 c3
    refine jw_aload_n rfl rfl ?_
    refine jw_aload_n rfl rfl ?_
    refine jw_gr (q := 144) rfl rfl rfl ?_
    refine jw_gf (v := (J 144 1)) rfl (by decide) rfl rfl ?_
    refine jw_pf rfl rfl ?_
    refine jw_vret rfl ?_
    exact h
  · replace h := h.2 c3
    refine jw_aload_n rfl rfl ?_
    refine jw_gr (q := 144) rfl rfl rfl ?_
    refine jw_gr (q := 145) rfl rfl rfl ?_
    refine jw_aload_n rfl rfl ?_
    refine jw_gf (v := (J 146 6)) rfl (by decide) rfl rfl ?_
    obtain ⟨o4, h⟩ := h
    refine jw_iald (v := (J 145 (J 146 6).toNat)) (N := 250) rfl rfl rfl (by omega) o4 rfl ?_
    refine jw_istore_n (ls' := [some (.ref 146), some (.int (Int32.ofInt v1)), some (.int (Int32.ofInt v2)), some (.int (Int32.ofInt (J 145 (J 146 6).toNat)))]) rfl rfl ?_
    refine jw_iload_n rfl rfl ?_
    refine jw_stat (k := 1) (as := [.int (Int32.ofInt (J 145 (J 146 6).toNat))]) rfl (by decide) rfl rfl (Nat.le_of_ble_eq_true rfl) rfl (Nat.le_of_ble_eq_true rfl) (jz_ci ?_)
    obtain ⟨o5, h⟩ := h
    refine sb_71 o5 (fun c6 => ?_) (fun c6 => ?_)
    · replace h := h.1 c6
      refine jw_if_eq rfl (by omega) (fun hc => by exfalso; omega) (fun _ => ?_)
      refine jw_iload_n rfl rfl ?_
      refine jw_iconst rfl ?_
      obtain ⟨o7, h⟩ := h
      refine jw_ic_ge rfl o7 (by omega) (fun c8 => ?_) (fun c8 => ?_)
      · replace h := h.1 c8
        exact jz_fg (l := [some (.ref 146), some (.int (Int32.ofInt v1)), some (.int (Int32.ofInt v2)), some (.int (Int32.ofInt (J 145 (J 146 6).toNat)))]) ⟨rfl, rfl, rfl, rfl, trivial⟩ h
      · replace h := h.2 c8
        refine jw_iload_n rfl rfl ?_
        refine jw_iload_n rfl rfl ?_
        refine jw_bipush rfl (by decide) ?_
        refine jw_isub rfl ?_
        refine jw_iconst rfl ?_
        refine jw_iload_n rfl rfl ?_
        refine jw_imul rfl ?_
        refine jw_ishl rfl ?_
        refine jw_ior rfl ?_
        refine jw_istore_n (ls' := [some (.ref 146), some (.int (Int32.ofInt (jz_or v1 (jz_shl ((J 145 (J 146 6).toNat) - 97) (4 * v2))))), some (.int (Int32.ofInt v2)), some (.int (Int32.ofInt (J 145 (J 146 6).toNat)))]) rfl rfl ?_
        refine jw_iinc (ls' := [some (.ref 146), some (.int (Int32.ofInt (jz_or v1 (jz_shl ((J 145 (J 146 6).toNat) - 97) (4 * v2))))), some (.int (Int32.ofInt (v2 + 1))), some (.int (Int32.ofInt (J 145 (J 146 6).toNat)))]) rfl rfl rfl ?_
        refine jw_goto rfl ?_
        exact jz_fg (l := [some (.ref 146), some (.int (Int32.ofInt (jz_or v1 (jz_shl ((J 145 (J 146 6).toNat) - 97) (4 * v2))))), some (.int (Int32.ofInt (v2 + 1))), none]) ⟨rfl, rfl, rfl, jz_ni, trivial⟩ h
    · replace h := h.2 c6
      refine jw_if_eq rfl (by omega) (fun _ => ?_) (fun hc => by exfalso; omega)
      exact jz_fg (l := [some (.ref 146), some (.int (Int32.ofInt v1)), some (.int (Int32.ofInt v2)), some (.int (Int32.ofInt (J 145 (J 146 6).toNat)))]) ⟨rfl, rfl, rfl, rfl, trivial⟩ h
set_option maxHeartbeats 4000000 in
theorem e_83_60 {xs : Nat → Int32} {L d : Nat} {v1 : Int} {v2 : Int} {v3 : Int} {J K : jZ} {P : jZ → jZ → Prop} (h : (-2147483648 ≤ v3 ∧ v3 < 2147483648) ∧ (¬ v3 = 39 → l_83_89 xs L (d + 1) v1 v2 v3 J K P) ∧ (v3 = 39 → (-2147483648 ≤ v2 ∧ v2 < 2147483648) ∧ (v2 < 2 → l_83_89 xs L (d + 1) v1 v2 v3 J K P) ∧ (2 ≤ v2 → q_79 xs L (d + 1) 1 v1 v2 (jm_up J 146 6 ((J 146 6) + 1)) K (fun J5 K6 => P J5 K6)))) : l_83_60 xs L (d + 1) v1 v2 v3 J K P := by
  unfold l_83_60
  refine jw_iload_n rfl rfl ?_
  refine jw_bipush rfl (by decide) ?_
  obtain ⟨o1, h⟩ := h
  refine jw_ic_ne rfl o1 (by omega) (fun c2 => ?_) (fun c2 => ?_)
  · replace h := h.1 c2
    exact jz_fg (l := [some (.ref 146), some (.int (Int32.ofInt v1)), some (.int (Int32.ofInt v2)), some (.int (Int32.ofInt v3))]) ⟨rfl, rfl, rfl, rfl, trivial⟩ h
  · replace h := h.2 c2
    refine jw_iload_n rfl rfl ?_
    refine jw_iconst rfl ?_
    obtain ⟨o3, h⟩ := h
    refine jw_ic_lt rfl o3 (by omega) (fun c4 => ?_) (fun c4 => ?_)
    · replace h := h.1 c4
      exact jz_fg (l := [some (.ref 146), some (.int (Int32.ofInt v1)), some (.int (Int32.ofInt v2)), some (.int (Int32.ofInt v3))]) ⟨rfl, rfl, rfl, rfl, trivial⟩ h
    · replace h := h.2 c4
      refine jw_aload_n rfl rfl ?_
      refine jw_dup_r rfl ?_
      refine jw_gf (v := (J 146 6)) rfl (by decide) rfl rfl ?_
      refine jw_iconst rfl ?_
      refine jw_iadd rfl ?_
      refine jw_pf rfl rfl ?_
      refine jw_aload_n rfl rfl ?_
      refine jw_iconst rfl ?_
      refine jw_iload_n rfl rfl ?_
      refine jw_iload_n rfl rfl ?_
      refine jw_virt (k := 3) (c := 10) (as := [.int (Int32.ofInt 1), .int (Int32.ofInt v1), .int (Int32.ofInt v2)]) rfl rfl rfl (Nat.le_of_ble_eq_true rfl) rfl (Nat.le_of_ble_eq_true rfl) rfl rfl (jz_cv ?_)
      refine jm_Q.mono h (jp_v_mono (fun J5 K6 h => ?_))
      refine jw_vret rfl ?_
      exact h
set_option maxHeartbeats 4000000 in
theorem e_83_89 {xs : Nat → Int32} {L d : Nat} {v1 : Int} {v2 : Int} {v3 : Int} {J K : jZ} {P : jZ → jZ → Prop} (h : (-2147483648 ≤ v3 ∧ v3 < 2147483648) ∧ (v3 = 32 → l_83_104 xs L (d + 1) v1 v2 J K P) ∧ (¬ v3 = 32 → P (jm_up J 146 7 (J 146 6)) K)) : l_83_89 xs L (d + 1) v1 v2 v3 J K P := by
  unfold l_83_89
  refine jw_iload_n rfl rfl ?_
  refine jw_bipush rfl (by decide) ?_
  obtain ⟨o1, h⟩ := h
  refine jw_ic_eq rfl o1 (by omega) (fun c2 => ?_) (fun c2 => ?_)
  · replace h := h.1 c2
    exact jz_fg (l := [some (.ref 146), some (.int (Int32.ofInt v1)), some (.int (Int32.ofInt v2)), none]) ⟨rfl, rfl, rfl, jz_ni, trivial⟩ h
  · replace h := h.2 c2
    refine jw_aload_n rfl rfl ?_
    refine jw_aload_n rfl rfl ?_
    refine jw_gf (v := (J 146 6)) rfl (by decide) rfl rfl ?_
    refine jw_pf rfl rfl ?_
    refine jw_vret rfl ?_
    exact h
set_option maxHeartbeats 4000000 in
theorem e_83_104 {xs : Nat → Int32} {L d : Nat} {v1 : Int} {v2 : Int} {J K : jZ} {P : jZ → jZ → Prop} (h : l_83_4 xs L (d + 1) v1 v2 (jm_up J 146 6 ((J 146 6) + 1)) K P) : l_83_104 xs L (d + 1) v1 v2 J K P := by
  unfold l_83_104
  refine jw_aload_n rfl rfl ?_
  refine jw_dup_r rfl ?_
  refine jw_gf (v := (J 146 6)) rfl (by decide) rfl rfl ?_
  refine jw_iconst rfl ?_
  refine jw_iadd rfl ?_
  refine jw_pf rfl rfl ?_
  refine jw_goto rfl ?_
  exact jz_fg (l := [some (.ref 146), some (.int (Int32.ofInt v1)), some (.int (Int32.ofInt v2)), none]) ⟨rfl, rfl, rfl, jz_n0, trivial⟩ h
set_option maxHeartbeats 4000000 in
theorem e_84 {xs : Nat → Int32} {L d : Nat} {v1 : Int} {J K : jZ} {P : jZ → jZ → Prop} (h : (-2147483648 ≤ J 146 5 ∧ J 146 5 < 2147483648) ∧ (250 ≤ (J 146 5) → P J K) ∧ ((J 146 5) < 250 → ((0 : Int) ≤ J 146 5 ∧ J 146 5 < 250) ∧ P (jm_up (jm_up J 148 (J 146 5).toNat v1) 146 5 ((J 146 5) + 1)) K)) : q_84 xs L (d + 1) v1 J K P := by
  unfold q_84
  refine jq_in (ls := [some (.ref 146), some (.int (Int32.ofInt v1))]) rfl (Nat.le_of_ble_eq_true rfl) rfl ?_
  refine jw_aload_n rfl rfl ?_
  refine jw_gf (v := (J 146 5)) rfl (by decide) rfl rfl ?_
  refine jw_sipush rfl (by decide) ?_
  obtain ⟨o1, h⟩ := h
  refine jw_ic_ge rfl o1 (by omega) (fun c2 => ?_) (fun c2 => ?_)
  · replace h := h.1 c2
    refine jw_vret rfl ?_
    exact h
  · replace h := h.2 c2
    refine jw_aload_n rfl rfl ?_
    refine jw_gr (q := 148) rfl rfl rfl ?_
    refine jw_aload_n rfl rfl ?_
    refine jw_gf (v := (J 146 5)) rfl (by decide) rfl rfl ?_
    refine jw_iload_n rfl rfl ?_
    obtain ⟨o3, h⟩ := h
    refine jw_iast (N := 250) rfl rfl rfl (by omega) o3 ?_
    refine jw_aload_n rfl rfl ?_
    refine jw_dup_r rfl ?_
    refine jw_gf (v := (J 146 5)) rfl (by decide) rfl (by simp [jm_up]) ?_
    refine jw_iconst rfl ?_
    refine jw_iadd rfl ?_
    refine jw_pf rfl rfl ?_
    refine jw_vret rfl ?_
    exact h
set_option maxHeartbeats 4000000 in
theorem e_85 {xs : Nat → Int32} {L d : Nat} {v1 : Int} {J K : jZ} {P : Int → jZ → jZ → Prop} (h : (-2147483648 ≤ J 146 6 ∧ J 146 6 < 2147483648) ∧ (-2147483648 ≤ J 144 1 ∧ J 144 1 < 2147483648) ∧ ((J 144 1) ≤ (J 146 6) → l_85_44 xs L d v1 J K P) ∧ ((J 146 6) < (J 144 1) → ((0 : Int) ≤ J 146 6 ∧ J 146 6 < 250) ∧ (-2147483648 ≤ J 145 (J 146 6).toNat ∧ J 145 (J 146 6).toNat < 2147483648) ∧ (¬ (J 145 (J 146 6).toNat) = 32 → l_85_44 xs L d v1 J K P) ∧ ((J 145 (J 146 6).toNat) = 32 → l_85_0 xs L d v1 (jm_up J 146 6 ((J 146 6) + 1)) K P))) : q_85 xs L (d + 1) v1 J K P := by
  unfold q_85
  refine jq_in (ls := [some (.ref 146), some (.int (Int32.ofInt v1)), none, none]) rfl (Nat.le_of_ble_eq_true rfl) rfl ?_
  refine jw_aload_n rfl rfl ?_
  refine jw_gf (v := (J 146 6)) rfl (by decide) rfl rfl ?_
  refine jw_aload_n rfl rfl ?_
  refine jw_gr (q := 144) rfl rfl rfl ?_
  refine jw_gf (v := (J 144 1)) rfl (by decide) rfl rfl ?_
  obtain ⟨o1, h⟩ := h
  obtain ⟨o2, h⟩ := h
  refine jw_ic_ge rfl o1 o2 (fun c3 => ?_) (fun c3 => ?_)
  · replace h := h.1 c3
    exact jz_fg (l := [some (.ref 146), some (.int (Int32.ofInt v1)), none, none]) ⟨rfl, rfl, jz_n0, jz_n0, trivial⟩ h
  · replace h := h.2 c3
    refine jw_aload_n rfl rfl ?_
    refine jw_gr (q := 144) rfl rfl rfl ?_
    refine jw_gr (q := 145) rfl rfl rfl ?_
    refine jw_aload_n rfl rfl ?_
    refine jw_gf (v := (J 146 6)) rfl (by decide) rfl rfl ?_
    obtain ⟨o4, h⟩ := h
    refine jw_iald (v := (J 145 (J 146 6).toNat)) (N := 250) rfl rfl rfl (by omega) o4 rfl ?_
    refine jw_bipush rfl (by decide) ?_
    obtain ⟨o5, h⟩ := h
    refine jw_ic_ne rfl o5 (by omega) (fun c6 => ?_) (fun c6 => ?_)
    · replace h := h.1 c6
      exact jz_fg (l := [some (.ref 146), some (.int (Int32.ofInt v1)), none, none]) ⟨rfl, rfl, jz_n0, jz_n0, trivial⟩ h
    · replace h := h.2 c6
      refine jw_aload_n rfl rfl ?_
      refine jw_dup_r rfl ?_
      refine jw_gf (v := (J 146 6)) rfl (by decide) rfl rfl ?_
      refine jw_iconst rfl ?_
      refine jw_iadd rfl ?_
      refine jw_pf rfl rfl ?_
      refine jw_goto rfl ?_
      exact jz_fg (l := [some (.ref 146), some (.int (Int32.ofInt v1)), none, none]) ⟨rfl, rfl, jz_n0, jz_n0, trivial⟩ h
set_option maxHeartbeats 4000000 in
theorem e_85_0 {xs : Nat → Int32} {L d : Nat} {v1 : Int} {J K : jZ} {P : Int → jZ → jZ → Prop} (h : (-2147483648 ≤ J 146 6 ∧ J 146 6 < 2147483648) ∧ (-2147483648 ≤ J 144 1 ∧ J 144 1 < 2147483648) ∧ ((J 144 1) ≤ (J 146 6) → l_85_44 xs L d v1 J K P) ∧ ((J 146 6) < (J 144 1) → ((0 : Int) ≤ J 146 6 ∧ J 146 6 < 250) ∧ (-2147483648 ≤ J 145 (J 146 6).toNat ∧ J 145 (J 146 6).toNat < 2147483648) ∧ (¬ (J 145 (J 146 6).toNat) = 32 → l_85_44 xs L d v1 J K P) ∧ ((J 145 (J 146 6).toNat) = 32 → l_85_0 xs L d v1 (jm_up J 146 6 ((J 146 6) + 1)) K P))) : l_85_0 xs L d v1 J K P := by
  unfold l_85_0
  refine jw_aload_n rfl rfl ?_
  refine jw_gf (v := (J 146 6)) rfl (by decide) rfl rfl ?_
  refine jw_aload_n rfl rfl ?_
  refine jw_gr (q := 144) rfl rfl rfl ?_
  refine jw_gf (v := (J 144 1)) rfl (by decide) rfl rfl ?_
  obtain ⟨o1, h⟩ := h
  obtain ⟨o2, h⟩ := h
  refine jw_ic_ge rfl o1 o2 (fun c3 => ?_) (fun c3 => ?_)
  · replace h := h.1 c3
    exact jz_fg (l := [some (.ref 146), some (.int (Int32.ofInt v1)), none, none]) ⟨rfl, rfl, jz_n0, jz_n0, trivial⟩ h
  · replace h := h.2 c3
    refine jw_aload_n rfl rfl ?_
    refine jw_gr (q := 144) rfl rfl rfl ?_
    refine jw_gr (q := 145) rfl rfl rfl ?_
    refine jw_aload_n rfl rfl ?_
    refine jw_gf (v := (J 146 6)) rfl (by decide) rfl rfl ?_
    obtain ⟨o4, h⟩ := h
    refine jw_iald (v := (J 145 (J 146 6).toNat)) (N := 250) rfl rfl rfl (by omega) o4 rfl ?_
    refine jw_bipush rfl (by decide) ?_
    obtain ⟨o5, h⟩ := h
    refine jw_ic_ne rfl o5 (by omega) (fun c6 => ?_) (fun c6 => ?_)
    · replace h := h.1 c6
      exact jz_fg (l := [some (.ref 146), some (.int (Int32.ofInt v1)), none, none]) ⟨rfl, rfl, jz_n0, jz_n0, trivial⟩ h
    · replace h := h.2 c6
      refine jw_aload_n rfl rfl ?_
      refine jw_dup_r rfl ?_
      refine jw_gf (v := (J 146 6)) rfl (by decide) rfl rfl ?_
      refine jw_iconst rfl ?_
      refine jw_iadd rfl ?_
      refine jw_pf rfl rfl ?_
      refine jw_goto rfl ?_
      exact jz_fg (l := [some (.ref 146), some (.int (Int32.ofInt v1)), none, none]) ⟨rfl, rfl, jz_n0, jz_n0, trivial⟩ h
set_option maxHeartbeats 4000000 in
theorem e_85_44 {xs : Nat → Int32} {L d : Nat} {v1 : Int} {J K : jZ} {P : Int → jZ → jZ → Prop} (h : l_85_51 xs L d v1 (J 146 6) 0 J K P) : l_85_44 xs L d v1 J K P := by
  unfold l_85_44
  refine jw_aload_n rfl rfl ?_
  refine jw_gf (v := (J 146 6)) rfl (by decide) rfl rfl ?_
  refine jw_istore_n (ls' := [some (.ref 146), some (.int (Int32.ofInt v1)), some (.int (Int32.ofInt (J 146 6))), none]) rfl rfl ?_
  refine jw_iconst rfl ?_
  refine jw_istore_n (ls' := [some (.ref 146), some (.int (Int32.ofInt v1)), some (.int (Int32.ofInt (J 146 6))), some (.int (Int32.ofInt 0))]) rfl rfl ?_
  exact jz_fg (l := [some (.ref 146), some (.int (Int32.ofInt v1)), some (.int (Int32.ofInt (J 146 6))), some (.int (Int32.ofInt 0))]) ⟨rfl, rfl, rfl, rfl, trivial⟩ h
set_option maxHeartbeats 4000000 in
theorem e_85_51 {xs : Nat → Int32} {L d : Nat} {v1 : Int} {v2 : Int} {v3 : Int} {J K : jZ} {P : Int → jZ → jZ → Prop} (h : (-2147483648 ≤ J 146 6 ∧ J 146 6 < 2147483648) ∧ (-2147483648 ≤ J 144 1 ∧ J 144 1 < 2147483648) ∧ ((J 144 1) ≤ (J 146 6) → l_85_149 xs L d v1 v2 v3 J K P) ∧ ((J 146 6) < (J 144 1) → ((0 : Int) ≤ J 146 6 ∧ J 146 6 < 250) ∧ (-2147483648 ≤ J 145 (J 146 6).toNat ∧ J 145 (J 146 6).toNat < 2147483648) ∧ ((J 145 (J 146 6).toNat) < 48 → l_85_149 xs L d v1 v2 v3 J K P) ∧ (48 ≤ (J 145 (J 146 6).toNat) → (57 < (J 145 (J 146 6).toNat) → l_85_149 xs L d v1 v2 v3 J K P) ∧ ((J 145 (J 146 6).toNat) ≤ 57 → (-2147483648 ≤ ((J 146 6) - v2) ∧ ((J 146 6) - v2) < 2147483648) ∧ (2 ≤ ((J 146 6) - v2) → l_85_51 xs L d v1 v2 (v1 + 1) (jm_up J 146 6 ((J 146 6) + 1)) K P) ∧ (((J 146 6) - v2) < 2 → l_85_51 xs L d v1 v2 (((10 * v3) + (J 145 (J 146 6).toNat)) - 48) (jm_up J 146 6 ((J 146 6) + 1)) K P))))) : l_85_51 xs L d v1 v2 v3 J K P := by
  unfold l_85_51
  refine jw_aload_n rfl rfl ?_
  refine jw_gf (v := (J 146 6)) rfl (by decide) rfl rfl ?_
  refine jw_aload_n rfl rfl ?_
  refine jw_gr (q := 144) rfl rfl rfl ?_
  refine jw_gf (v := (J 144 1)) rfl (by decide) rfl rfl ?_
  obtain ⟨o1, h⟩ := h
  obtain ⟨o2, h⟩ := h
  refine jw_ic_ge rfl o1 o2 (fun c3 => ?_) (fun c3 => ?_)
  · replace h := h.1 c3
    exact jz_fg (l := [some (.ref 146), some (.int (Int32.ofInt v1)), some (.int (Int32.ofInt v2)), some (.int (Int32.ofInt v3))]) ⟨rfl, rfl, rfl, rfl, trivial⟩ h
  · replace h := h.2 c3
    refine jw_aload_n rfl rfl ?_
    refine jw_gr (q := 144) rfl rfl rfl ?_
    refine jw_gr (q := 145) rfl rfl rfl ?_
    refine jw_aload_n rfl rfl ?_
    refine jw_gf (v := (J 146 6)) rfl (by decide) rfl rfl ?_
    obtain ⟨o4, h⟩ := h
    refine jw_iald (v := (J 145 (J 146 6).toNat)) (N := 250) rfl rfl rfl (by omega) o4 rfl ?_
    refine jw_bipush rfl (by decide) ?_
    obtain ⟨o5, h⟩ := h
    refine jw_ic_lt rfl o5 (by omega) (fun c6 => ?_) (fun c6 => ?_)
    · replace h := h.1 c6
      exact jz_fg (l := [some (.ref 146), some (.int (Int32.ofInt v1)), some (.int (Int32.ofInt v2)), some (.int (Int32.ofInt v3))]) ⟨rfl, rfl, rfl, rfl, trivial⟩ h
    · replace h := h.2 c6
      refine jw_aload_n rfl rfl ?_
      refine jw_gr (q := 144) rfl rfl rfl ?_
      refine jw_gr (q := 145) rfl rfl rfl ?_
      refine jw_aload_n rfl rfl ?_
      refine jw_gf (v := (J 146 6)) rfl (by decide) rfl rfl ?_
      refine jw_iald (v := (J 145 (J 146 6).toNat)) (N := 250) rfl rfl rfl (by omega) o4 rfl ?_
      refine jw_bipush rfl (by decide) ?_
      refine jw_ic_gt rfl o5 (by omega) (fun c7 => ?_) (fun c7 => ?_)
      · replace h := h.1 c7
        exact jz_fg (l := [some (.ref 146), some (.int (Int32.ofInt v1)), some (.int (Int32.ofInt v2)), some (.int (Int32.ofInt v3))]) ⟨rfl, rfl, rfl, rfl, trivial⟩ h
      · replace h := h.2 c7
        refine jw_aload_n rfl rfl ?_
        refine jw_gf (v := (J 146 6)) rfl (by decide) rfl rfl ?_
        refine jw_iload_n rfl rfl ?_
        refine jw_isub rfl ?_
        refine jw_iconst rfl ?_
        obtain ⟨o8, h⟩ := h
        refine jw_ic_ge rfl o8 (by omega) (fun c9 => ?_) (fun c9 => ?_)
        · replace h := h.1 c9
          refine jw_iload_n rfl rfl ?_
          refine jw_iconst rfl ?_
          refine jw_iadd rfl ?_
          refine jw_istore_n (ls' := [some (.ref 146), some (.int (Int32.ofInt v1)), some (.int (Int32.ofInt v2)), some (.int (Int32.ofInt (v1 + 1)))]) rfl rfl ?_
          refine jw_aload_n rfl rfl ?_
          refine jw_dup_r rfl ?_
          refine jw_gf (v := (J 146 6)) rfl (by decide) rfl rfl ?_
          refine jw_iconst rfl ?_
          refine jw_iadd rfl ?_
          refine jw_pf rfl rfl ?_
          refine jw_goto rfl ?_
          exact jz_fg (l := [some (.ref 146), some (.int (Int32.ofInt v1)), some (.int (Int32.ofInt v2)), some (.int (Int32.ofInt (v1 + 1)))]) ⟨rfl, rfl, rfl, rfl, trivial⟩ h
        · replace h := h.2 c9
          refine jw_bipush rfl (by decide) ?_
          refine jw_iload_n rfl rfl ?_
          refine jw_imul rfl ?_
          refine jw_aload_n rfl rfl ?_
          refine jw_gr (q := 144) rfl rfl rfl ?_
          refine jw_gr (q := 145) rfl rfl rfl ?_
          refine jw_aload_n rfl rfl ?_
          refine jw_gf (v := (J 146 6)) rfl (by decide) rfl rfl ?_
          refine jw_iald (v := (J 145 (J 146 6).toNat)) (N := 250) rfl rfl rfl (by omega) o4 rfl ?_
          refine jw_iadd rfl ?_
          refine jw_bipush rfl (by decide) ?_
          refine jw_isub rfl ?_
          refine jw_goto rfl ?_
          refine jw_istore_n (ls' := [some (.ref 146), some (.int (Int32.ofInt v1)), some (.int (Int32.ofInt v2)), some (.int (Int32.ofInt (((10 * v3) + (J 145 (J 146 6).toNat)) - 48)))]) rfl rfl ?_
          refine jw_aload_n rfl rfl ?_
          refine jw_dup_r rfl ?_
          refine jw_gf (v := (J 146 6)) rfl (by decide) rfl rfl ?_
          refine jw_iconst rfl ?_
          refine jw_iadd rfl ?_
          refine jw_pf rfl rfl ?_
          refine jw_goto rfl ?_
          exact jz_fg (l := [some (.ref 146), some (.int (Int32.ofInt v1)), some (.int (Int32.ofInt v2)), some (.int (Int32.ofInt (((10 * v3) + (J 145 (J 146 6).toNat)) - 48)))]) ⟨rfl, rfl, rfl, rfl, trivial⟩ h
set_option maxHeartbeats 4000000 in
theorem e_85_149 {xs : Nat → Int32} {L d : Nat} {v1 : Int} {v2 : Int} {v3 : Int} {J K : jZ} {P : Int → jZ → jZ → Prop} (h : (-2147483648 ≤ v3 ∧ v3 < 2147483648) ∧ (v3 < 1 → l_85_159 xs L d v2 J K P) ∧ (1 ≤ v3 → (-2147483648 ≤ v1 ∧ v1 < 2147483648) ∧ (v3 ≤ v1 → P v3 J K) ∧ (v1 < v3 → l_85_159 xs L d v2 J K P))) : l_85_149 xs L d v1 v2 v3 J K P := by
  unfold l_85_149
  refine jw_iload_n rfl rfl ?_
  refine jw_iconst rfl ?_
  obtain ⟨o1, h⟩ := h
  refine jw_ic_lt rfl o1 (by omega) (fun c2 => ?_) (fun c2 => ?_)
  · replace h := h.1 c2
    exact jz_fg (l := [some (.ref 146), none, some (.int (Int32.ofInt v2)), none]) ⟨rfl, jz_ni, rfl, jz_ni, trivial⟩ h
  · replace h := h.2 c2
    refine jw_iload_n rfl rfl ?_
    refine jw_iload_n rfl rfl ?_
    obtain ⟨o3, h⟩ := h
    refine jw_ic_le rfl o1 o3 (fun c4 => ?_) (fun c4 => ?_)
    · replace h := h.1 c4
      refine jw_iload_n rfl rfl ?_
      refine jw_iret rfl ?_
      exact h
    · replace h := h.2 c4
      exact jz_fg (l := [some (.ref 146), none, some (.int (Int32.ofInt v2)), none]) ⟨rfl, jz_ni, rfl, jz_ni, trivial⟩ h
set_option maxHeartbeats 4000000 in
theorem e_85_159 {xs : Nat → Int32} {L d : Nat} {v2 : Int} {J K : jZ} {P : Int → jZ → jZ → Prop} (h : P 0 (jm_up J 146 7 v2) K) : l_85_159 xs L d v2 J K P := by
  unfold l_85_159
  refine jw_aload_n rfl rfl ?_
  refine jw_iload_n rfl rfl ?_
  refine jw_pf rfl rfl ?_
  refine jw_iconst rfl ?_
  refine jw_iret rfl ?_
  exact h
set_option maxHeartbeats 4000000 in
theorem e_86 {xs : Nat → Int32} {L d : Nat} {v1 : Int} {J K : jZ} {P : jZ → jZ → Prop} (h : q_87 xs L d v1 J K (fun r3 J1 K2 => (-2147483648 ≤ r3 ∧ r3 < 2147483648) ∧ (r3 = (-1) → (-2147483648 ≤ v1 ∧ v1 < 2147483648) ∧ (¬ v1 = 94 → q_88 xs L d 2 J1 K2 (fun J8 K9 => q_96 xs L d v1 J8 K9 (fun r12 J10 K11 => (-2147483648 ≤ r12 ∧ r12 < 2147483648) ∧ (¬ r12 = 0 → P J10 K11) ∧ (r12 = 0 → P (jm_up J10 146 7 ((J 146 6) - 1)) K11)))) ∧ (v1 = 94 → q_88 xs L d 5 J1 K2 (fun J15 K16 => q_95 xs L d J15 K16 (fun J17 K18 => P J17 K18)))) ∧ (¬ r3 = (-1) → q_88 xs L d r3 J1 K2 (fun J19 K20 => q_84 xs L d r3 J19 K20 (fun J21 K22 => P (jm_up J21 146 8 1) K22))))) : q_86 xs L (d + 1) v1 J K P := by
  unfold q_86
  refine jq_in (ls := [some (.ref 146), some (.int (Int32.ofInt v1)), none, none]) rfl (Nat.le_of_ble_eq_true rfl) rfl ?_
  refine jw_aload_n rfl rfl ?_
  refine jw_gf (v := (J 146 6)) rfl (by decide) rfl rfl ?_
  refine jw_iconst rfl ?_
  refine jw_isub rfl ?_
  refine jw_istore_n (ls' := [some (.ref 146), some (.int (Int32.ofInt v1)), some (.int (Int32.ofInt ((J 146 6) - 1))), none]) rfl rfl ?_
  refine jw_iload_n rfl rfl ?_
  refine jw_stat (k := 1) (as := [.int (Int32.ofInt v1)]) rfl (by decide) rfl rfl (Nat.le_of_ble_eq_true rfl) rfl (Nat.le_of_ble_eq_true rfl) (jz_ci ?_)
  refine jm_Q.mono h (jp_i_mono (fun r3 J1 K2 h => ?_))
  refine jw_istore_n (ls' := [some (.ref 146), some (.int (Int32.ofInt v1)), some (.int (Int32.ofInt ((J 146 6) - 1))), some (.int (Int32.ofInt r3))]) rfl rfl ?_
  refine jw_iload_n rfl rfl ?_
  refine jw_iconst rfl ?_
  obtain ⟨o4, h⟩ := h
  refine jw_ic_eq rfl o4 (by omega) (fun c5 => ?_) (fun c5 => ?_)
  · replace h := h.1 c5
    refine jw_iload_n rfl rfl ?_
    refine jw_bipush rfl (by decide) ?_
    obtain ⟨o6, h⟩ := h
    refine jw_ic_ne rfl o6 (by omega) (fun c7 => ?_) (fun c7 => ?_)
    · replace h := h.1 c7
      refine jw_aload_n rfl rfl ?_
      refine jw_iconst rfl ?_
      refine jw_virt (k := 1) (c := 10) (as := [.int (Int32.ofInt 2)]) rfl rfl rfl (Nat.le_of_ble_eq_true rfl) rfl (Nat.le_of_ble_eq_true rfl) rfl rfl (jz_cv ?_)
      refine jm_Q.mono h (jp_v_mono (fun J8 K9 h => ?_))
      refine jw_aload_n rfl rfl ?_
      refine jw_iload_n rfl rfl ?_
      refine jw_virt (k := 1) (c := 10) (as := [.int (Int32.ofInt v1)]) rfl rfl rfl (Nat.le_of_ble_eq_true rfl) rfl (Nat.le_of_ble_eq_true rfl) rfl rfl (jz_ci ?_)
      refine jm_Q.mono h (jp_i_mono (fun r12 J10 K11 h => ?_))
      obtain ⟨o13, h⟩ := h
      refine jw_if_ne rfl o13 (fun c14 => ?_) (fun c14 => ?_)
      · replace h := h.1 c14
        refine jw_vret rfl ?_
        exact h
      · replace h := h.2 c14
        refine jw_aload_n rfl rfl ?_
        refine jw_iload_n rfl rfl ?_
        refine jw_pf rfl rfl ?_
        refine jw_vret rfl ?_
        exact h
    · replace h := h.2 c7
      refine jw_aload_n rfl rfl ?_
      refine jw_iconst rfl ?_
      refine jw_virt (k := 1) (c := 10) (as := [.int (Int32.ofInt 5)]) rfl rfl rfl (Nat.le_of_ble_eq_true rfl) rfl (Nat.le_of_ble_eq_true rfl) rfl rfl (jz_cv ?_)
      refine jm_Q.mono h (jp_v_mono (fun J15 K16 h => ?_))
      refine jw_aload_n rfl rfl ?_
      refine jw_virt (k := 0) (c := 10) (as := []) rfl rfl rfl (Nat.le_of_ble_eq_true rfl) rfl (Nat.le_of_ble_eq_true rfl) rfl rfl (jz_cv ?_)
      refine jm_Q.mono h (jp_v_mono (fun J17 K18 h => ?_))
      refine jw_goto rfl ?_
      refine jw_vret rfl ?_
      exact h
  · replace h := h.2 c5
    refine jw_aload_n rfl rfl ?_
    refine jw_iload_n rfl rfl ?_
    refine jw_virt (k := 1) (c := 10) (as := [.int (Int32.ofInt r3)]) rfl rfl rfl (Nat.le_of_ble_eq_true rfl) rfl (Nat.le_of_ble_eq_true rfl) rfl rfl (jz_cv ?_)
    refine jm_Q.mono h (jp_v_mono (fun J19 K20 h => ?_))
    refine jw_aload_n rfl rfl ?_
    refine jw_iload_n rfl rfl ?_
    refine jw_virt (k := 1) (c := 10) (as := [.int (Int32.ofInt r3)]) rfl rfl rfl (Nat.le_of_ble_eq_true rfl) rfl (Nat.le_of_ble_eq_true rfl) rfl rfl (jz_cv ?_)
    refine jm_Q.mono h (jp_v_mono (fun J21 K22 h => ?_))
    refine jw_aload_n rfl rfl ?_
    refine jw_iconst rfl ?_
    refine jw_pfz rfl rfl (by omega) ?_
    refine jw_goto rfl ?_
    refine jw_vret rfl ?_
    exact h
set_option maxHeartbeats 4000000 in
theorem e_87 {xs : Nat → Int32} {L d : Nat} {v0 : Int} {J K : jZ} {P : Int → jZ → jZ → Prop} (h : (-2147483648 ≤ v0 ∧ v0 < 2147483648) ∧ (v0 = 33 → P 6 J K) ∧ (¬ v0 = 33 → (v0 = 35 → P 7 J K) ∧ (¬ v0 = 35 → (v0 = 38 → P 3 J K) ∧ (¬ v0 = 38 → (v0 = 45 → P 8 J K) ∧ (¬ v0 = 45 → (v0 = 60 → P 4 J K) ∧ (¬ v0 = 60 → (v0 = 64 → P 5 J K) ∧ (¬ v0 = 64 → (v0 = 124 → P 2 J K) ∧ (¬ v0 = 124 → P (-1) J K)))))))) : q_87 xs L (d + 1) v0 J K P := by
  unfold q_87
  refine jq_in (ls := [some (.int (Int32.ofInt v0))]) rfl (Nat.le_of_ble_eq_true rfl) rfl ?_
  refine jw_iload_n rfl rfl ?_
  obtain ⟨o1, h⟩ := h
  by_cases c3 : v0 = 33
  · replace h := h.1 c3
    refine jw_look (o := 75) (pc2 := 76) rfl o1 (by rw [c3]; rfl) (by omega) ?_
    refine jw_bipush rfl (by decide) ?_
    refine jw_iret rfl ?_
    exact h
  · replace h := h.2 c3
    by_cases c4 : v0 = 35
    · replace h := h.1 c4
      refine jw_look (o := 78) (pc2 := 79) rfl o1 (by rw [c4]; rfl) (by omega) ?_
      refine jw_bipush rfl (by decide) ?_
      refine jw_iret rfl ?_
      exact h
    · replace h := h.2 c4
      by_cases c5 : v0 = 38
      · replace h := h.1 c5
        refine jw_look (o := 69) (pc2 := 70) rfl o1 (by rw [c5]; rfl) (by omega) ?_
        refine jw_iconst rfl ?_
        refine jw_iret rfl ?_
        exact h
      · replace h := h.2 c5
        by_cases c6 : v0 = 45
        · replace h := h.1 c6
          refine jw_look (o := 81) (pc2 := 82) rfl o1 (by rw [c6]; rfl) (by omega) ?_
          refine jw_bipush rfl (by decide) ?_
          refine jw_iret rfl ?_
          exact h
        · replace h := h.2 c6
          by_cases c7 : v0 = 60
          · replace h := h.1 c7
            refine jw_look (o := 71) (pc2 := 72) rfl o1 (by rw [c7]; rfl) (by omega) ?_
            refine jw_iconst rfl ?_
            refine jw_iret rfl ?_
            exact h
          · replace h := h.2 c7
            by_cases c8 : v0 = 64
            · replace h := h.1 c8
              refine jw_look (o := 73) (pc2 := 74) rfl o1 (by rw [c8]; rfl) (by omega) ?_
              refine jw_iconst rfl ?_
              refine jw_iret rfl ?_
              exact h
            · replace h := h.2 c8
              by_cases c9 : v0 = 124
              · replace h := h.1 c9
                refine jw_look (o := 67) (pc2 := 68) rfl o1 (by rw [c9]; rfl) (by omega) ?_
                refine jw_iconst rfl ?_
                refine jw_iret rfl ?_
                exact h
              · replace h := h.2 c9
                refine jw_look (o := 84) (pc2 := 85) rfl o1 (by simp [Op.lookupswitch.offset]; (repeat' split) <;> omega) (by omega) ?_
                refine jw_iconst rfl ?_
                refine jw_iret rfl ?_
                exact h
set_option maxHeartbeats 4000000 in
theorem e_88 {xs : Nat → Int32} {L d : Nat} {v1 : Int} {J K : jZ} {P : jZ → jZ → Prop} (h : (-2147483648 ≤ v1 ∧ v1 < 2147483648) ∧ l_88_5 xs L (d + 1) (min v1 5) J K P) : q_88 xs L (d + 2) v1 J K P := by
  unfold q_88
  refine jq_in (ls := [some (.ref 146), some (.int (Int32.ofInt v1)), none, none, none, none]) rfl (Nat.le_of_ble_eq_true rfl) rfl ?_
  refine jw_iload_n rfl rfl ?_
  refine jw_stat (k := 1) (as := [.int (Int32.ofInt v1)]) rfl (by decide) rfl rfl (Nat.le_of_ble_eq_true rfl) rfl (Nat.le_of_ble_eq_true rfl) (jz_ci ?_)
  refine jq_in (ls := [some (.int (Int32.ofInt v1))]) rfl (Nat.le_of_ble_eq_true rfl) rfl ?_
  refine jw_iload_n rfl rfl ?_
  refine jw_iconst rfl ?_
  obtain ⟨o1, h⟩ := h
  refine jw_min rfl o1 (by omega) (Nat.le_of_ble_eq_true rfl) ?_
  refine jw_iret rfl ?_
  refine jw_istore_n (ls' := [some (.ref 146), some (.int (Int32.ofInt v1)), some (.int (Int32.ofInt (min v1 5))), none, none, none]) rfl rfl ?_
  exact jz_fg (l := [some (.ref 146), none, some (.int (Int32.ofInt (min v1 5))), none, none, none]) ⟨rfl, jz_ni, rfl, jz_n0, jz_n0, jz_n0, trivial⟩ h
set_option maxHeartbeats 4000000 in
theorem e_88_5 {xs : Nat → Int32} {L d : Nat} {v2 : Int} {J K : jZ} {P : jZ → jZ → Prop} (h : (-2147483648 ≤ J 146 5 ∧ J 146 5 < 2147483648) ∧ ((J 146 5) ≤ 0 → P J K) ∧ (0 < (J 146 5) → q_90 xs L (d + 1) J K (fun r5 J3 K4 => (-2147483648 ≤ r5 ∧ r5 < 2147483648) ∧ ((2 ≤ r5 ∧ r5 ≤ 8) → q_90 xs L (d + 1) J3 K4 (fun r10 J8 K9 => (-2147483648 ≤ r10 ∧ r10 < 2147483648) ∧ (-2147483648 ≤ (min r10 5) ∧ (min r10 5) < 2147483648) ∧ (-2147483648 ≤ v2 ∧ v2 < 2147483648) ∧ ((min r10 5) < v2 → P J8 K9) ∧ (v2 ≤ (min r10 5) → q_90 xs L (d + 1) J8 K9 (fun r17 J15 K16 => q_91 xs L (d + 1) (jm_up J15 146 5 ((J15 146 5) - 1)) K16 (fun r20 J18 K19 => q_91 xs L (d + 1) J18 K19 (fun r23 J21 K22 => q_92 xs L (d + 1) r17 (-1) r23 r20 (-1) J21 K22 (fun J24 K25 => l_88_5 xs L (d + 1) v2 J24 K25 P))))))) ∧ (¬ (2 ≤ r5 ∧ r5 ≤ 8) → P J3 K4)))) : l_88_5 xs L (d + 1) v2 J K P := by
  unfold l_88_5
  refine jw_aload_n rfl rfl ?_
  refine jw_gf (v := (J 146 5)) rfl (by decide) rfl rfl ?_
  obtain ⟨o1, h⟩ := h
  refine jw_if_le rfl o1 (fun c2 => ?_) (fun c2 => ?_)
  · replace h := h.1 c2
    refine jw_vret rfl ?_
    exact h
  · replace h := h.2 c2
    refine jw_aload_n rfl rfl ?_
    refine jw_virt (k := 0) (c := 10) (as := []) rfl rfl rfl (Nat.le_of_ble_eq_true rfl) rfl (Nat.le_of_ble_eq_true rfl) rfl rfl (jz_ci ?_)
    refine jm_Q.mono h (jp_i_mono (fun r5 J3 K4 h => ?_))
    refine jw_stat (k := 1) (as := [.int (Int32.ofInt r5)]) rfl (by decide) rfl rfl (Nat.le_of_ble_eq_true rfl) rfl (Nat.le_of_ble_eq_true rfl) (jz_ci ?_)
    obtain ⟨o6, h⟩ := h
    refine sb_30 o6 (fun c7 => ?_) (fun c7 => ?_)
    · replace h := h.1 c7
      refine jw_if_eq rfl (by omega) (fun hc => by exfalso; omega) (fun _ => ?_)
      refine jw_aload_n rfl rfl ?_
      refine jw_virt (k := 0) (c := 10) (as := []) rfl rfl rfl (Nat.le_of_ble_eq_true rfl) rfl (Nat.le_of_ble_eq_true rfl) rfl rfl (jz_ci ?_)
      refine jm_Q.mono h (jp_i_mono (fun r10 J8 K9 h => ?_))
      refine jw_stat (k := 1) (as := [.int (Int32.ofInt r10)]) rfl (by decide) rfl rfl (Nat.le_of_ble_eq_true rfl) rfl (Nat.le_of_ble_eq_true rfl) (jz_ci ?_)
      refine jq_in (ls := [some (.int (Int32.ofInt r10))]) rfl (Nat.le_of_ble_eq_true rfl) rfl ?_
      refine jw_iload_n rfl rfl ?_
      refine jw_iconst rfl ?_
      obtain ⟨o11, h⟩ := h
      refine jw_min rfl o11 (by omega) (Nat.le_of_ble_eq_true rfl) ?_
      refine jw_iret rfl ?_
      refine jw_iload_n rfl rfl ?_
      obtain ⟨o12, h⟩ := h
      obtain ⟨o13, h⟩ := h
      refine jw_ic_lt rfl o12 o13 (fun c14 => ?_) (fun c14 => ?_)
      · replace h := h.1 c14
        refine jw_vret rfl ?_
        exact h
      · replace h := h.2 c14
        refine jw_aload_n rfl rfl ?_
        refine jw_virt (k := 0) (c := 10) (as := []) rfl rfl rfl (Nat.le_of_ble_eq_true rfl) rfl (Nat.le_of_ble_eq_true rfl) rfl rfl (jz_ci ?_)
        refine jm_Q.mono h (jp_i_mono (fun r17 J15 K16 h => ?_))
        refine jw_istore_n (ls' := [some (.ref 146), none, some (.int (Int32.ofInt v2)), some (.int (Int32.ofInt r17)), none, none]) rfl rfl ?_
        refine jw_aload_n rfl rfl ?_
        refine jw_dup_r rfl ?_
        refine jw_gf (v := (J15 146 5)) rfl (by decide) rfl rfl ?_
        refine jw_iconst rfl ?_
        refine jw_isub rfl ?_
        refine jw_pf rfl rfl ?_
        refine jw_aload_n rfl rfl ?_
        refine jw_virt (k := 0) (c := 10) (as := []) rfl rfl rfl (Nat.le_of_ble_eq_true rfl) rfl (Nat.le_of_ble_eq_true rfl) rfl rfl (jz_ci ?_)
        refine jm_Q.mono h (jp_i_mono (fun r20 J18 K19 h => ?_))
        refine jw_istore (ls' := [some (.ref 146), none, some (.int (Int32.ofInt v2)), some (.int (Int32.ofInt r17)), some (.int (Int32.ofInt r20)), none]) rfl rfl ?_
        refine jw_aload_n rfl rfl ?_
        refine jw_virt (k := 0) (c := 10) (as := []) rfl rfl rfl (Nat.le_of_ble_eq_true rfl) rfl (Nat.le_of_ble_eq_true rfl) rfl rfl (jz_ci ?_)
        refine jm_Q.mono h (jp_i_mono (fun r23 J21 K22 h => ?_))
        refine jw_istore (ls' := [some (.ref 146), none, some (.int (Int32.ofInt v2)), some (.int (Int32.ofInt r17)), some (.int (Int32.ofInt r20)), some (.int (Int32.ofInt r23))]) rfl rfl ?_
        refine jw_aload_n rfl rfl ?_
        refine jw_iload_n rfl rfl ?_
        refine jw_iconst rfl ?_
        refine jw_iload rfl rfl ?_
        refine jw_iload rfl rfl ?_
        refine jw_iconst rfl ?_
        refine jw_virt (k := 5) (c := 10) (as := [.int (Int32.ofInt r17), .int (Int32.ofInt (-1)), .int (Int32.ofInt r23), .int (Int32.ofInt r20), .int (Int32.ofInt (-1))]) rfl rfl rfl (Nat.le_of_ble_eq_true rfl) rfl (Nat.le_of_ble_eq_true rfl) rfl rfl (jz_cv ?_)
        refine jm_Q.mono h (jp_v_mono (fun J24 K25 h => ?_))
        refine jw_goto rfl ?_
        exact jz_fg (l := [some (.ref 146), none, some (.int (Int32.ofInt v2)), none, none, none]) ⟨rfl, jz_n0, rfl, jz_ni, jz_ni, jz_ni, trivial⟩ h
    · replace h := h.2 c7
      refine jw_if_eq rfl (by omega) (fun _ => ?_) (fun hc => by exfalso; omega)
      refine jw_vret rfl ?_
      exact h
set_option maxHeartbeats 4000000 in
theorem e_89 {xs : Nat → Int32} {L d : Nat} {v0 : Int} {J K : jZ} {P : Int → jZ → jZ → Prop} (h : (-2147483648 ≤ v0 ∧ v0 < 2147483648) ∧ P (min v0 5) J K) : q_89 xs L (d + 1) v0 J K P := by
  unfold q_89
  refine jq_in (ls := [some (.int (Int32.ofInt v0))]) rfl (Nat.le_of_ble_eq_true rfl) rfl ?_
  refine jw_iload_n rfl rfl ?_
  refine jw_iconst rfl ?_
  obtain ⟨o1, h⟩ := h
  refine jw_min rfl o1 (by omega) (Nat.le_of_ble_eq_true rfl) ?_
  refine jw_iret rfl ?_
  exact h
set_option maxHeartbeats 4000000 in
theorem e_90 {xs : Nat → Int32} {L d : Nat} {J K : jZ} {P : Int → jZ → jZ → Prop} (h : (-2147483648 ≤ J 146 5 ∧ J 146 5 < 2147483648) ∧ ((J 146 5) ≤ 0 → P (-1) J K) ∧ (0 < (J 146 5) → ((0 : Int) ≤ ((J 146 5) - 1) ∧ ((J 146 5) - 1) < 250) ∧ P (J 148 ((J 146 5) - 1).toNat) J K)) : q_90 xs L (d + 1) J K P := by
  unfold q_90
  refine jq_in (ls := [some (.ref 146)]) rfl (Nat.le_of_ble_eq_true rfl) rfl ?_
  refine jw_aload_n rfl rfl ?_
  refine jw_gf (v := (J 146 5)) rfl (by decide) rfl rfl ?_
  obtain ⟨o1, h⟩ := h
  refine jw_if_le rfl o1 (fun c2 => ?_) (fun c2 => ?_)
  · replace h := h.1 c2
    refine jw_iconst rfl ?_
    refine jw_iret rfl ?_
    exact h
  · replace h := h.2 c2
    refine jw_aload_n rfl rfl ?_
    refine jw_gr (q := 148) rfl rfl rfl ?_
    refine jw_aload_n rfl rfl ?_
    refine jw_gf (v := (J 146 5)) rfl (by decide) rfl rfl ?_
    refine jw_iconst rfl ?_
    refine jw_isub rfl ?_
    obtain ⟨o3, h⟩ := h
    refine jw_iald (v := (J 148 ((J 146 5) - 1).toNat)) (N := 250) rfl rfl rfl (by omega) o3 rfl ?_
    refine jw_goto rfl ?_
    refine jw_iret rfl ?_
    exact h
set_option maxHeartbeats 4000000 in
theorem e_91 {xs : Nat → Int32} {L d : Nat} {J K : jZ} {P : Int → jZ → jZ → Prop} (h : (-2147483648 ≤ J 146 4 ∧ J 146 4 < 2147483648) ∧ (1 ≤ (J 146 4) → ((0 : Int) ≤ ((J 146 4) - 1) ∧ ((J 146 4) - 1) < 250) ∧ P (J 147 ((J 146 4) - 1).toNat) (jm_up J 146 4 ((J 146 4) - 1)) K) ∧ ((J 146 4) < 1 → P (-1) J K)) : q_91 xs L (d + 1) J K P := by
  unfold q_91
  refine jq_in (ls := [some (.ref 146)]) rfl (Nat.le_of_ble_eq_true rfl) rfl ?_
  refine jw_aload_n rfl rfl ?_
  refine jw_gf (v := (J 146 4)) rfl (by decide) rfl rfl ?_
  refine jw_iconst rfl ?_
  obtain ⟨o1, h⟩ := h
  refine jw_ic_ge rfl o1 (by omega) (fun c2 => ?_) (fun c2 => ?_)
  · replace h := h.1 c2
    refine jw_aload_n rfl rfl ?_
    refine jw_dup_r rfl ?_
    refine jw_gf (v := (J 146 4)) rfl (by decide) rfl rfl ?_
    refine jw_iconst rfl ?_
    refine jw_isub rfl ?_
    refine jw_pf rfl rfl ?_
    refine jw_aload_n rfl rfl ?_
    refine jw_gr (q := 147) rfl rfl rfl ?_
    refine jw_aload_n rfl rfl ?_
    refine jw_gf (v := ((J 146 4) - 1)) rfl (by decide) rfl (by simp [jm_up]) ?_
    obtain ⟨o3, h⟩ := h
    refine jw_iald (v := (J 147 ((J 146 4) - 1).toNat)) (N := 250) rfl rfl rfl (by omega) o3 (by simp [jm_up]) ?_
    refine jw_iret rfl ?_
    exact h
  · replace h := h.2 c2
    refine jw_iconst rfl ?_
    refine jw_iret rfl ?_
    exact h
set_option maxHeartbeats 4000000 in
theorem e_92 {xs : Nat → Int32} {L d : Nat} {v1 : Int} {v2 : Int} {v3 : Int} {v4 : Int} {v5 : Int} {J K : jZ} {P : jZ → jZ → Prop} (h : q_93 xs L d 9 (J 146 9) v1 v2 v3 v4 v5 J K (fun J1 K2 => q_82 xs L d J1 K2 (fun J3 K4 => P J3 K4))) : q_92 xs L (d + 1) v1 v2 v3 v4 v5 J K P := by
  unfold q_92
  refine jq_in (ls := [some (.ref 146), some (.int (Int32.ofInt v1)), some (.int (Int32.ofInt v2)), some (.int (Int32.ofInt v3)), some (.int (Int32.ofInt v4)), some (.int (Int32.ofInt v5))]) rfl (Nat.le_of_ble_eq_true rfl) rfl ?_
  refine jw_aload_n rfl rfl ?_
  refine jw_gr (q := 9) rfl rfl rfl ?_
  refine jw_aload_n rfl rfl ?_
  refine jw_gf (v := (J 146 9)) rfl (by decide) rfl rfl ?_
  refine jw_iload_n rfl rfl ?_
  refine jw_iload_n rfl rfl ?_
  refine jw_iload_n rfl rfl ?_
  refine jw_iload rfl rfl ?_
  refine jw_iload rfl rfl ?_
  refine jw_virt (k := 6) (c := 11) (as := [.int (Int32.ofInt (J 146 9)), .int (Int32.ofInt v1), .int (Int32.ofInt v2), .int (Int32.ofInt v3), .int (Int32.ofInt v4), .int (Int32.ofInt v5)]) rfl rfl rfl (Nat.le_of_ble_eq_true rfl) rfl (Nat.le_of_ble_eq_true rfl) rfl rfl (jz_cv ?_)
  refine jm_Q.mono h (jp_v_mono (fun J1 K2 h => ?_))
  refine jw_aload_n rfl rfl ?_
  refine jw_virt (k := 0) (c := 10) (as := []) rfl rfl rfl (Nat.le_of_ble_eq_true rfl) rfl (Nat.le_of_ble_eq_true rfl) rfl rfl (jz_cv ?_)
  refine jm_Q.mono h (jp_v_mono (fun J3 K4 h => ?_))
  refine jw_vret rfl ?_
  exact h
set_option maxHeartbeats 4000000 in
theorem e_93 {xs : Nat → Int32} {L d : Nat} {v0 : Nat} {v1 : Int} {v2 : Int} {v3 : Int} {v4 : Int} {v5 : Int} {v6 : Int} {J K : jZ} {P : jZ → jZ → Prop} (hk0 : jz_kd v0 = 12) (h : (-2147483648 ≤ v1 ∧ v1 < 2147483648) ∧ (v1 < 0 → l_93_10 xs L d J K P) ∧ (0 ≤ v1 → (v1 < 24 → ((0 : Int) ≤ v1 ∧ v1 < 24) ∧ q_81 xs L d (v0 + 2 + v1.toNat) v2 v3 v1 J K (fun J5 K6 => (-2147483648 ≤ v4 ∧ v4 < 2147483648) ∧ (v4 < 0 → l_93_71 xs L d v0 v1 v5 v6 (v0 + 2 + v1.toNat) (jm_up (jm_up (jm_up J5 (v0 + 2 + v1.toNat) 1 v4) (v0 + 2 + v1.toNat) 2 v5) (v0 + 2 + v1.toNat) 3 v6) K6 P) ∧ (0 ≤ v4 → (v1 ≤ v4 → l_93_71 xs L d v0 v1 v5 v6 (v0 + 2 + v1.toNat) (jm_up (jm_up (jm_up J5 (v0 + 2 + v1.toNat) 1 v4) (v0 + 2 + v1.toNat) 2 v5) (v0 + 2 + v1.toNat) 3 v6) K6 P) ∧ (v4 < v1 → ((0 : Int) ≤ v4 ∧ v4 < 24) ∧ q_94 xs L d (v0 + 2 + v1.toNat) (v0 + 2 + v4.toNat) (jm_up (jm_up (jm_up J5 (v0 + 2 + v1.toNat) 1 v4) (v0 + 2 + v1.toNat) 2 v5) (v0 + 2 + v1.toNat) 3 v6) K6 (fun J11 K12 => l_93_71 xs L d v0 v1 v5 v6 (v0 + 2 + v1.toNat) J11 K12 P))))) ∧ (24 ≤ v1 → l_93_10 xs L d J K P))) : q_93 xs L (d + 1) v0 v1 v2 v3 v4 v5 v6 J K P := by
  unfold q_93
  refine jq_in (ls := [some (.ref v0), some (.int (Int32.ofInt v1)), some (.int (Int32.ofInt v2)), some (.int (Int32.ofInt v3)), some (.int (Int32.ofInt v4)), some (.int (Int32.ofInt v5)), some (.int (Int32.ofInt v6)), none]) rfl (Nat.le_of_ble_eq_true rfl) rfl ?_
  refine jw_iload_n rfl rfl ?_
  obtain ⟨o1, h⟩ := h
  refine jw_if_lt rfl o1 (fun c2 => ?_) (fun c2 => ?_)
  · replace h := h.1 c2
    exact jz_fg (l := [none, none, none, none, none, none, none, none]) ⟨jz_nr, jz_ni, jz_ni, jz_ni, jz_ni, jz_ni, jz_ni, jz_n0, trivial⟩ h
  · replace h := h.2 c2
    refine jw_iload_n rfl rfl ?_
    refine jw_bipush rfl (by decide) ?_
    refine jw_ic_lt rfl o1 (by omega) (fun c3 => ?_) (fun c3 => ?_)
    · replace h := h.1 c3
      refine jw_aload_n rfl rfl ?_
      refine jw_gr (q := (v0 + 1)) rfl hk0 (jzr_12_1 hk0) ?_
      refine jw_iload_n rfl rfl ?_
      obtain ⟨o4, h⟩ := h
      refine jw_aald (k := 3) (q := (v0 + 2 + v1.toNat)) (N := 24) rfl (jzk_12_1 hk0) (by omega) (jzn_12_1 hk0) (by omega) o4 (jzr_12e hk0 o4) ?_
      refine jw_astore (ls' := [some (.ref v0), some (.int (Int32.ofInt v1)), some (.int (Int32.ofInt v2)), some (.int (Int32.ofInt v3)), some (.int (Int32.ofInt v4)), some (.int (Int32.ofInt v5)), some (.int (Int32.ofInt v6)), some (.ref (v0 + 2 + v1.toNat))]) rfl rfl ?_
      refine jw_aload rfl rfl ?_
      refine jw_iload_n rfl rfl ?_
      refine jw_iload_n rfl rfl ?_
      refine jw_iload_n rfl rfl ?_
      refine jw_virt (k := 3) (c := 9) (as := [.int (Int32.ofInt v2), .int (Int32.ofInt v3), .int (Int32.ofInt v1)]) rfl rfl rfl (Nat.le_of_ble_eq_true rfl) rfl (Nat.le_of_ble_eq_true rfl) (jze_12e hk0 o4) rfl (jz_cv ?_)
      refine jm_Q.mono h (jp_v_mono (fun J5 K6 h => ?_))
      refine jw_aload rfl rfl ?_
      refine jw_iload rfl rfl ?_
      refine jw_pf rfl (jze_12e hk0 o4) ?_
      refine jw_aload rfl rfl ?_
      refine jw_iload rfl rfl ?_
      refine jw_pf rfl (jze_12e hk0 o4) ?_
      refine jw_aload rfl rfl ?_
      refine jw_iload rfl rfl ?_
      refine jw_pf rfl (jze_12e hk0 o4) ?_
      refine jw_iload rfl rfl ?_
      obtain ⟨o7, h⟩ := h
      refine jw_if_lt rfl o7 (fun c8 => ?_) (fun c8 => ?_)
      · replace h := h.1 c8
        exact jz_fg (l := [some (.ref v0), some (.int (Int32.ofInt v1)), none, none, none, some (.int (Int32.ofInt v5)), some (.int (Int32.ofInt v6)), some (.ref (v0 + 2 + v1.toNat))]) ⟨rfl, rfl, jz_ni, jz_ni, jz_ni, rfl, rfl, rfl, trivial⟩ h
      · replace h := h.2 c8
        refine jw_iload rfl rfl ?_
        refine jw_iload_n rfl rfl ?_
        refine jw_ic_ge rfl o7 o1 (fun c9 => ?_) (fun c9 => ?_)
        · replace h := h.1 c9
          exact jz_fg (l := [some (.ref v0), some (.int (Int32.ofInt v1)), none, none, none, some (.int (Int32.ofInt v5)), some (.int (Int32.ofInt v6)), some (.ref (v0 + 2 + v1.toNat))]) ⟨rfl, rfl, jz_ni, jz_ni, jz_ni, rfl, rfl, rfl, trivial⟩ h
        · replace h := h.2 c9
          refine jw_aload rfl rfl ?_
          refine jw_aload_n rfl rfl ?_
          refine jw_gr (q := (v0 + 1)) rfl hk0 (jzr_12_1 hk0) ?_
          refine jw_iload rfl rfl ?_
          obtain ⟨o10, h⟩ := h
          refine jw_aald (k := 3) (q := (v0 + 2 + v4.toNat)) (N := 24) rfl (jzk_12_1 hk0) (by omega) (jzn_12_1 hk0) (by omega) o10 (jzr_12e hk0 o10) ?_
          refine jw_virt (k := 1) (c := 9) (as := [.ref (v0 + 2 + v4.toNat)]) rfl rfl rfl (Nat.le_of_ble_eq_true rfl) rfl (Nat.le_of_ble_eq_true rfl) (jze_12e hk0 o4) rfl (jz_cv ?_)
          refine jm_Q.mono h (jp_v_mono (fun J11 K12 h => ?_))
          exact jz_fg (l := [some (.ref v0), some (.int (Int32.ofInt v1)), none, none, none, some (.int (Int32.ofInt v5)), some (.int (Int32.ofInt v6)), some (.ref (v0 + 2 + v1.toNat))]) ⟨rfl, rfl, jz_ni, jz_ni, jz_ni, rfl, rfl, rfl, trivial⟩ h
    · replace h := h.2 c3
      exact jz_fg (l := [none, none, none, none, none, none, none, none]) ⟨jz_nr, jz_ni, jz_ni, jz_ni, jz_ni, jz_ni, jz_ni, jz_n0, trivial⟩ h
set_option maxHeartbeats 4000000 in
theorem e_93_10 {xs : Nat → Int32} {L d : Nat} {J K : jZ} {P : jZ → jZ → Prop} (h : P J K) : l_93_10 xs L d J K P := by
  unfold l_93_10
  refine jw_vret rfl ?_
  exact h
set_option maxHeartbeats 4000000 in
theorem e_93_71 {xs : Nat → Int32} {L d : Nat} {v0 : Nat} {v1 : Int} {v5 : Int} {v6 : Int} {v7 : Nat} {J K : jZ} {P : jZ → jZ → Prop} (hk0 : jz_kd v0 = 12) (hk7 : jz_kd v7 = 10) (h : (-2147483648 ≤ v5 ∧ v5 < 2147483648) ∧ (v5 < 0 → l_93_94 xs L d v0 v1 v6 v7 J K P) ∧ (0 ≤ v5 → (-2147483648 ≤ v1 ∧ v1 < 2147483648) ∧ (v1 ≤ v5 → l_93_94 xs L d v0 v1 v6 v7 J K P) ∧ (v5 < v1 → ((0 : Int) ≤ v5 ∧ v5 < 24) ∧ q_94 xs L d v7 (v0 + 2 + v5.toNat) J K (fun J6 K7 => l_93_94 xs L d v0 v1 v6 v7 J6 K7 P)))) : l_93_71 xs L d v0 v1 v5 v6 v7 J K P := by
  unfold l_93_71
  refine jw_iload rfl rfl ?_
  obtain ⟨o1, h⟩ := h
  refine jw_if_lt rfl o1 (fun c2 => ?_) (fun c2 => ?_)
  · replace h := h.1 c2
    exact jz_fg (l := [some (.ref v0), some (.int (Int32.ofInt v1)), none, none, none, none, some (.int (Int32.ofInt v6)), some (.ref v7)]) ⟨rfl, rfl, jz_n0, jz_n0, jz_n0, jz_ni, rfl, rfl, trivial⟩ h
  · replace h := h.2 c2
    refine jw_iload rfl rfl ?_
    refine jw_iload_n rfl rfl ?_
    obtain ⟨o3, h⟩ := h
    refine jw_ic_ge rfl o1 o3 (fun c4 => ?_) (fun c4 => ?_)
    · replace h := h.1 c4
      exact jz_fg (l := [some (.ref v0), some (.int (Int32.ofInt v1)), none, none, none, none, some (.int (Int32.ofInt v6)), some (.ref v7)]) ⟨rfl, rfl, jz_n0, jz_n0, jz_n0, jz_ni, rfl, rfl, trivial⟩ h
    · replace h := h.2 c4
      refine jw_aload rfl rfl ?_
      refine jw_aload_n rfl rfl ?_
      refine jw_gr (q := (v0 + 1)) rfl hk0 (jzr_12_1 hk0) ?_
      refine jw_iload rfl rfl ?_
      obtain ⟨o5, h⟩ := h
      refine jw_aald (k := 3) (q := (v0 + 2 + v5.toNat)) (N := 24) rfl (jzk_12_1 hk0) (by omega) (jzn_12_1 hk0) (by omega) o5 (jzr_12e hk0 o5) ?_
      refine jw_virt (k := 1) (c := 9) (as := [.ref (v0 + 2 + v5.toNat)]) rfl rfl rfl (Nat.le_of_ble_eq_true rfl) rfl (Nat.le_of_ble_eq_true rfl) hk7 rfl (jz_cv ?_)
      refine jm_Q.mono h (jp_v_mono (fun J6 K7 h => ?_))
      exact jz_fg (l := [some (.ref v0), some (.int (Int32.ofInt v1)), none, none, none, none, some (.int (Int32.ofInt v6)), some (.ref v7)]) ⟨rfl, rfl, jz_n0, jz_n0, jz_n0, jz_ni, rfl, rfl, trivial⟩ h
set_option maxHeartbeats 4000000 in
theorem e_93_94 {xs : Nat → Int32} {L d : Nat} {v0 : Nat} {v1 : Int} {v6 : Int} {v7 : Nat} {J K : jZ} {P : jZ → jZ → Prop} (hk0 : jz_kd v0 = 12) (hk7 : jz_kd v7 = 10) (h : (-2147483648 ≤ v6 ∧ v6 < 2147483648) ∧ (v6 < 0 → l_93_117 xs L d J K P) ∧ (0 ≤ v6 → (-2147483648 ≤ v1 ∧ v1 < 2147483648) ∧ (v1 ≤ v6 → l_93_117 xs L d J K P) ∧ (v6 < v1 → ((0 : Int) ≤ v6 ∧ v6 < 24) ∧ q_94 xs L d v7 (v0 + 2 + v6.toNat) J K (fun J6 K7 => l_93_117 xs L d J6 K7 P)))) : l_93_94 xs L d v0 v1 v6 v7 J K P := by
  unfold l_93_94
  refine jw_iload rfl rfl ?_
  obtain ⟨o1, h⟩ := h
  refine jw_if_lt rfl o1 (fun c2 => ?_) (fun c2 => ?_)
  · replace h := h.1 c2
    exact jz_fg (l := [none, none, none, none, none, none, none, none]) ⟨jz_nr, jz_ni, jz_n0, jz_n0, jz_n0, jz_n0, jz_ni, jz_nr, trivial⟩ h
  · replace h := h.2 c2
    refine jw_iload rfl rfl ?_
    refine jw_iload_n rfl rfl ?_
    obtain ⟨o3, h⟩ := h
    refine jw_ic_ge rfl o1 o3 (fun c4 => ?_) (fun c4 => ?_)
    · replace h := h.1 c4
      exact jz_fg (l := [none, none, none, none, none, none, none, none]) ⟨jz_nr, jz_ni, jz_n0, jz_n0, jz_n0, jz_n0, jz_ni, jz_nr, trivial⟩ h
    · replace h := h.2 c4
      refine jw_aload rfl rfl ?_
      refine jw_aload_n rfl rfl ?_
      refine jw_gr (q := (v0 + 1)) rfl hk0 (jzr_12_1 hk0) ?_
      refine jw_iload rfl rfl ?_
      obtain ⟨o5, h⟩ := h
      refine jw_aald (k := 3) (q := (v0 + 2 + v6.toNat)) (N := 24) rfl (jzk_12_1 hk0) (by omega) (jzn_12_1 hk0) (by omega) o5 (jzr_12e hk0 o5) ?_
      refine jw_virt (k := 1) (c := 9) (as := [.ref (v0 + 2 + v6.toNat)]) rfl rfl rfl (Nat.le_of_ble_eq_true rfl) rfl (Nat.le_of_ble_eq_true rfl) hk7 rfl (jz_cv ?_)
      refine jm_Q.mono h (jp_v_mono (fun J6 K7 h => ?_))
      exact jz_fg (l := [none, none, none, none, none, none, none, none]) ⟨jz_nr, jz_ni, jz_n0, jz_n0, jz_n0, jz_n0, jz_ni, jz_nr, trivial⟩ h
set_option maxHeartbeats 4000000 in
theorem e_93_117 {xs : Nat → Int32} {L d : Nat} {J K : jZ} {P : jZ → jZ → Prop} (h : P J K) : l_93_117 xs L d J K P := by
  unfold l_93_117
  refine jw_vret rfl ?_
  exact h
set_option maxHeartbeats 4000000 in
theorem e_94 {xs : Nat → Int32} {L d : Nat} {v0 : Nat} {v1 : Nat} {J K : jZ} {P : jZ → jZ → Prop} (hk0 : jz_kd v0 = 10) (hk1 : jz_kd v1 = 10) (h : (-2147483648 ≤ ((J v0 7) + (J v1 7)) ∧ ((J v0 7) + (J v1 7)) < 2147483648) ∧ (-2147483648 ≤ J v0 8 ∧ J v0 8 < 2147483648) ∧ (-2147483648 ≤ ((J v1 8) + 1) ∧ ((J v1 8) + 1) < 2147483648) ∧ P (jm_up (jm_up (jm_up (jm_up J v0 7 (min 1000000 ((J v0 7) + (J v1 7)))) v0 8 (max (J v0 8) ((J v1 8) + 1))) v0 9 (jz_or (J v0 9) (J v1 9))) v0 10 (jz_or (J v0 10) (J v1 10))) K) : q_94 xs L (d + 1) v0 v1 J K P := by
  unfold q_94
  refine jq_in (ls := [some (.ref v0), some (.ref v1)]) rfl (Nat.le_of_ble_eq_true rfl) rfl ?_
  refine jw_aload_n rfl rfl ?_
  refine jw_ldc rfl ?_
  refine jw_aload_n rfl rfl ?_
  refine jw_gf (v := (J v0 7)) rfl (by decide) hk0 rfl ?_
  refine jw_aload_n rfl rfl ?_
  refine jw_gf (v := (J v1 7)) rfl (by decide) hk1 rfl ?_
  refine jw_iadd rfl ?_
  obtain ⟨o1, h⟩ := h
  refine jw_min rfl (by omega) o1 (Nat.le_of_ble_eq_true rfl) ?_
  refine jw_pf rfl hk0 ?_
  refine jw_aload_n rfl rfl ?_
  refine jw_aload_n rfl rfl ?_
  refine jw_gf (v := (J v0 8)) rfl (by decide) hk0 (by simp [jm_up]) ?_
  refine jw_aload_n rfl rfl ?_
  refine jw_gf (v := (J v1 8)) rfl (by decide) hk1 (by simp [jm_up]) ?_
  refine jw_iconst rfl ?_
  refine jw_iadd rfl ?_
  obtain ⟨o2, h⟩ := h
  obtain ⟨o3, h⟩ := h
  refine jw_max rfl o2 o3 (Nat.le_of_ble_eq_true rfl) ?_
  refine jw_pf rfl hk0 ?_
  refine jw_aload_n rfl rfl ?_
  refine jw_dup_r rfl ?_
  refine jw_gf (v := (J v0 9)) rfl (by decide) hk0 (by simp [jm_up]) ?_
  refine jw_aload_n rfl rfl ?_
  refine jw_gf (v := (J v1 9)) rfl (by decide) hk1 (by simp [jm_up]) ?_
  refine jw_ior rfl ?_
  refine jw_pf rfl hk0 ?_
  refine jw_aload_n rfl rfl ?_
  refine jw_dup_r rfl ?_
  refine jw_gf (v := (J v0 10)) rfl (by decide) hk0 (by simp [jm_up]) ?_
  refine jw_aload_n rfl rfl ?_
  refine jw_gf (v := (J v1 10)) rfl (by decide) hk1 (by simp [jm_up]) ?_
  refine jw_ior rfl ?_
  refine jw_pf rfl hk0 ?_
  refine jw_vret rfl ?_
  exact h
set_option maxHeartbeats 4000000 in
theorem e_95 {xs : Nat → Int32} {L d : Nat} {J K : jZ} {P : jZ → jZ → Prop} (h : q_85 xs L d 60 J K (fun r3 J1 K2 => (-2147483648 ≤ J1 146 7 ∧ J1 146 7 < 2147483648) ∧ (¬ (J1 146 7) = (-1) → P J1 K2) ∧ ((J1 146 7) = (-1) → q_91 xs L d J1 K2 (fun r8 J6 K7 => q_92 xs L d 10 r3 r8 (-1) (-1) J6 K7 (fun J9 K10 => P J9 K10))))) : q_95 xs L (d + 1) J K P := by
  unfold q_95
  refine jq_in (ls := [some (.ref 146), none]) rfl (Nat.le_of_ble_eq_true rfl) rfl ?_
  refine jw_aload_n rfl rfl ?_
  refine jw_bipush rfl (by decide) ?_
  refine jw_virt (k := 1) (c := 10) (as := [.int (Int32.ofInt 60)]) rfl rfl rfl (Nat.le_of_ble_eq_true rfl) rfl (Nat.le_of_ble_eq_true rfl) rfl rfl (jz_ci ?_)
  refine jm_Q.mono h (jp_i_mono (fun r3 J1 K2 h => ?_))
  refine jw_istore_n (ls' := [some (.ref 146), some (.int (Int32.ofInt r3))]) rfl rfl ?_
  refine jw_aload_n rfl rfl ?_
  refine jw_gf (v := (J1 146 7)) rfl (by decide) rfl rfl ?_
  refine jw_iconst rfl ?_
  obtain ⟨o4, h⟩ := h
  refine jw_ic_ne rfl o4 (by omega) (fun c5 => ?_) (fun c5 => ?_)
  · replace h := h.1 c5
    refine jw_vret rfl ?_
    exact h
  · replace h := h.2 c5
    refine jw_aload_n rfl rfl ?_
    refine jw_bipush rfl (by decide) ?_
    refine jw_iload_n rfl rfl ?_
    refine jw_aload_n rfl rfl ?_
    refine jw_virt (k := 0) (c := 10) (as := []) rfl rfl rfl (Nat.le_of_ble_eq_true rfl) rfl (Nat.le_of_ble_eq_true rfl) rfl rfl (jz_ci ?_)
    refine jm_Q.mono h (jp_i_mono (fun r8 J6 K7 h => ?_))
    refine jw_iconst rfl ?_
    refine jw_iconst rfl ?_
    refine jw_virt (k := 5) (c := 10) (as := [.int (Int32.ofInt 10), .int (Int32.ofInt r3), .int (Int32.ofInt r8), .int (Int32.ofInt (-1)), .int (Int32.ofInt (-1))]) rfl rfl rfl (Nat.le_of_ble_eq_true rfl) rfl (Nat.le_of_ble_eq_true rfl) rfl rfl (jz_cv ?_)
    refine jm_Q.mono h (jp_v_mono (fun J9 K10 h => ?_))
    refine jw_vret rfl ?_
    exact h
set_option maxHeartbeats 4000000 in
theorem e_96 {xs : Nat → Int32} {L d : Nat} {v1 : Int} {J K : jZ} {P : Int → jZ → jZ → Prop} (h : q_90 xs L d J K (fun r3 J1 K2 => (-2147483648 ≤ r3 ∧ r3 < 2147483648) ∧ (r3 < 100 → (-2147483648 ≤ v1 ∧ v1 < 2147483648) ∧ (¬ v1 = 41 → l_96_41 xs L d v1 r3 0 J1 K2 P) ∧ (v1 = 41 → (¬ r3 = 20 → l_96_41 xs L d v1 r3 0 J1 K2 P) ∧ (r3 = 20 → P 1 (jm_up J1 146 5 ((J1 146 5) - 1)) K2))) ∧ (100 ≤ r3 → (-2147483648 ≤ v1 ∧ v1 < 2147483648) ∧ (¬ v1 = 41 → l_96_41 xs L d v1 r3 1 J1 K2 P) ∧ (v1 = 41 → (¬ r3 = 20 → l_96_41 xs L d v1 r3 1 J1 K2 P) ∧ (r3 = 20 → P 1 (jm_up J1 146 5 ((J1 146 5) - 1)) K2))))) : q_96 xs L (d + 1) v1 J K P := by
  unfold q_96
  refine jq_in (ls := [some (.ref 146), some (.int (Int32.ofInt v1)), none, none, none, none, none]) rfl (Nat.le_of_ble_eq_true rfl) rfl ?_
  refine jw_aload_n rfl rfl ?_
  refine jw_virt (k := 0) (c := 10) (as := []) rfl rfl rfl (Nat.le_of_ble_eq_true rfl) rfl (Nat.le_of_ble_eq_true rfl) rfl rfl (jz_ci ?_)
  refine jm_Q.mono h (jp_i_mono (fun r3 J1 K2 h => ?_))
  refine jw_istore_n (ls' := [some (.ref 146), some (.int (Int32.ofInt v1)), some (.int (Int32.ofInt r3)), none, none, none, none]) rfl rfl ?_
  refine jw_iload_n rfl rfl ?_
  refine jw_bipush rfl (by decide) ?_
  obtain ⟨o4, h⟩ := h
  refine jw_ic_lt rfl o4 (by omega) (fun c5 => ?_) (fun c5 => ?_)
  · replace h := h.1 c5
    refine jw_iconst rfl ?_
    refine jw_istore_n (ls' := [some (.ref 146), some (.int (Int32.ofInt v1)), some (.int (Int32.ofInt r3)), some (.int (Int32.ofInt 0)), none, none, none]) rfl rfl ?_
    refine jw_iload_n rfl rfl ?_
    refine jw_bipush rfl (by decide) ?_
    obtain ⟨o6, h⟩ := h
    refine jw_ic_ne rfl o6 (by omega) (fun c7 => ?_) (fun c7 => ?_)
    · replace h := h.1 c7
      exact jz_fg (l := [some (.ref 146), some (.int (Int32.ofInt v1)), some (.int (Int32.ofInt r3)), some (.int (Int32.ofInt 0)), none, none, none]) ⟨rfl, rfl, rfl, rfl, jz_n0, jz_n0, jz_n0, trivial⟩ h
    · replace h := h.2 c7
      refine jw_iload_n rfl rfl ?_
      refine jw_bipush rfl (by decide) ?_
      refine jw_ic_ne rfl o4 (by omega) (fun c8 => ?_) (fun c8 => ?_)
      · replace h := h.1 c8
        exact jz_fg (l := [some (.ref 146), some (.int (Int32.ofInt v1)), some (.int (Int32.ofInt r3)), some (.int (Int32.ofInt 0)), none, none, none]) ⟨rfl, rfl, rfl, rfl, jz_n0, jz_n0, jz_n0, trivial⟩ h
      · replace h := h.2 c8
        refine jw_aload_n rfl rfl ?_
        refine jw_dup_r rfl ?_
        refine jw_gf (v := (J1 146 5)) rfl (by decide) rfl rfl ?_
        refine jw_iconst rfl ?_
        refine jw_isub rfl ?_
        refine jw_pf rfl rfl ?_
        refine jw_iconst rfl ?_
        refine jw_zret rfl (by omega) ?_
        exact h
  · replace h := h.2 c5
    refine jw_iconst rfl ?_
    refine jw_goto rfl ?_
    refine jw_istore_n (ls' := [some (.ref 146), some (.int (Int32.ofInt v1)), some (.int (Int32.ofInt r3)), some (.int (Int32.ofInt 1)), none, none, none]) rfl rfl ?_
    refine jw_iload_n rfl rfl ?_
    refine jw_bipush rfl (by decide) ?_
    obtain ⟨o9, h⟩ := h
    refine jw_ic_ne rfl o9 (by omega) (fun c10 => ?_) (fun c10 => ?_)
    · replace h := h.1 c10
      exact jz_fg (l := [some (.ref 146), some (.int (Int32.ofInt v1)), some (.int (Int32.ofInt r3)), some (.int (Int32.ofInt 1)), none, none, none]) ⟨rfl, rfl, rfl, rfl, jz_n0, jz_n0, jz_n0, trivial⟩ h
    · replace h := h.2 c10
      refine jw_iload_n rfl rfl ?_
      refine jw_bipush rfl (by decide) ?_
      refine jw_ic_ne rfl o4 (by omega) (fun c11 => ?_) (fun c11 => ?_)
      · replace h := h.1 c11
        exact jz_fg (l := [some (.ref 146), some (.int (Int32.ofInt v1)), some (.int (Int32.ofInt r3)), some (.int (Int32.ofInt 1)), none, none, none]) ⟨rfl, rfl, rfl, rfl, jz_n0, jz_n0, jz_n0, trivial⟩ h
      · replace h := h.2 c11
        refine jw_aload_n rfl rfl ?_
        refine jw_dup_r rfl ?_
        refine jw_gf (v := (J1 146 5)) rfl (by decide) rfl rfl ?_
        refine jw_iconst rfl ?_
        refine jw_isub rfl ?_
        refine jw_pf rfl rfl ?_
        refine jw_iconst rfl ?_
        refine jw_zret rfl (by omega) ?_
        exact h
set_option maxHeartbeats 4000000 in
theorem e_96_41 {xs : Nat → Int32} {L d : Nat} {v1 : Int} {v2 : Int} {v3 : Int} {J K : jZ} {P : Int → jZ → jZ → Prop} (h : (-2147483648 ≤ v1 ∧ v1 < 2147483648) ∧ (¬ v1 = 44 → l_96_83 xs L d v1 v2 v3 J K P) ∧ (v1 = 44 → (-2147483648 ≤ v3 ∧ v3 < 2147483648) ∧ (v3 = 0 → l_96_83 xs L d v1 v2 v3 J K P) ∧ (¬ v3 = 0 → (-2147483648 ≤ (jz_rem v2 10) ∧ (jz_rem v2 10) < 2147483648) ∧ (2 ≤ (jz_rem v2 10) → l_96_83 xs L d v1 v2 v3 J K P) ∧ ((jz_rem v2 10) < 2 → q_84 xs L d (v2 + 1) (jm_up J 146 5 ((J 146 5) - 1)) K (fun J7 K8 => P 1 (jm_up J7 146 8 1) K8))))) : l_96_41 xs L d v1 v2 v3 J K P := by
  unfold l_96_41
  refine jw_iload_n rfl rfl ?_
  refine jw_bipush rfl (by decide) ?_
  obtain ⟨o1, h⟩ := h
  refine jw_ic_ne rfl o1 (by omega) (fun c2 => ?_) (fun c2 => ?_)
  · replace h := h.1 c2
    exact jz_fg (l := [some (.ref 146), some (.int (Int32.ofInt v1)), some (.int (Int32.ofInt v2)), some (.int (Int32.ofInt v3)), none, none, none]) ⟨rfl, rfl, rfl, rfl, jz_n0, jz_n0, jz_n0, trivial⟩ h
  · replace h := h.2 c2
    refine jw_iload_n rfl rfl ?_
    obtain ⟨o3, h⟩ := h
    refine jw_if_eq rfl o3 (fun c4 => ?_) (fun c4 => ?_)
    · replace h := h.1 c4
      exact jz_fg (l := [some (.ref 146), some (.int (Int32.ofInt v1)), some (.int (Int32.ofInt v2)), some (.int (Int32.ofInt v3)), none, none, none]) ⟨rfl, rfl, rfl, rfl, jz_n0, jz_n0, jz_n0, trivial⟩ h
    · replace h := h.2 c4
      refine jw_iload_n rfl rfl ?_
      refine jw_bipush rfl (by decide) ?_
      refine jw_irem rfl (by omega) (by omega) ?_
      refine jw_iconst rfl ?_
      obtain ⟨o5, h⟩ := h
      refine jw_ic_ge rfl o5 (by omega) (fun c6 => ?_) (fun c6 => ?_)
      · replace h := h.1 c6
        exact jz_fg (l := [some (.ref 146), some (.int (Int32.ofInt v1)), some (.int (Int32.ofInt v2)), some (.int (Int32.ofInt v3)), none, none, none]) ⟨rfl, rfl, rfl, rfl, jz_n0, jz_n0, jz_n0, trivial⟩ h
      · replace h := h.2 c6
        refine jw_aload_n rfl rfl ?_
        refine jw_dup_r rfl ?_
        refine jw_gf (v := (J 146 5)) rfl (by decide) rfl rfl ?_
        refine jw_iconst rfl ?_
        refine jw_isub rfl ?_
        refine jw_pf rfl rfl ?_
        refine jw_aload_n rfl rfl ?_
        refine jw_iload_n rfl rfl ?_
        refine jw_iconst rfl ?_
        refine jw_iadd rfl ?_
        refine jw_virt (k := 1) (c := 10) (as := [.int (Int32.ofInt (v2 + 1))]) rfl rfl rfl (Nat.le_of_ble_eq_true rfl) rfl (Nat.le_of_ble_eq_true rfl) rfl rfl (jz_cv ?_)
        refine jm_Q.mono h (jp_v_mono (fun J7 K8 h => ?_))
        refine jw_aload_n rfl rfl ?_
        refine jw_iconst rfl ?_
        refine jw_pfz rfl rfl (by omega) ?_
        refine jw_iconst rfl ?_
        refine jw_zret rfl (by omega) ?_
        exact h
set_option maxHeartbeats 4000000 in
theorem e_96_83 {xs : Nat → Int32} {L d : Nat} {v1 : Int} {v2 : Int} {v3 : Int} {J K : jZ} {P : Int → jZ → jZ → Prop} (h : (-2147483648 ≤ v1 ∧ v1 < 2147483648) ∧ (¬ v1 = 125 → l_96_150 xs L d J K P) ∧ (v1 = 125 → (-2147483648 ≤ v3 ∧ v3 < 2147483648) ∧ (v3 = 0 → l_96_150 xs L d J K P) ∧ (¬ v3 = 0 → (-2147483648 ≤ (jz_rem v2 10) ∧ (jz_rem v2 10) < 2147483648) ∧ (¬ (jz_rem v2 10) = 2 → l_96_150 xs L d J K P) ∧ ((jz_rem v2 10) = 2 → q_91 xs L d (jm_up J 146 5 ((J 146 5) - 1)) K (fun r9 J7 K8 => q_91 xs L d J7 K8 (fun r12 J10 K11 => q_91 xs L d J10 K11 (fun r15 J13 K14 => q_92 xs L d 11 (jz_div (v2 - 100) 10) r15 r12 r9 J13 K14 (fun J16 K17 => P 1 J16 K17)))))))) : l_96_83 xs L d v1 v2 v3 J K P := by
  unfold l_96_83
  refine jw_iload_n rfl rfl ?_
  refine jw_bipush rfl (by decide) ?_
  obtain ⟨o1, h⟩ := h
  refine jw_ic_ne rfl o1 (by omega) (fun c2 => ?_) (fun c2 => ?_)
  · replace h := h.1 c2
    exact jz_fg (l := [none, none, none, none, none, none, none]) ⟨jz_nr, jz_ni, jz_ni, jz_ni, jz_n0, jz_n0, jz_n0, trivial⟩ h
  · replace h := h.2 c2
    refine jw_iload_n rfl rfl ?_
    obtain ⟨o3, h⟩ := h
    refine jw_if_eq rfl o3 (fun c4 => ?_) (fun c4 => ?_)
    · replace h := h.1 c4
      exact jz_fg (l := [none, none, none, none, none, none, none]) ⟨jz_nr, jz_ni, jz_ni, jz_ni, jz_n0, jz_n0, jz_n0, trivial⟩ h
    · replace h := h.2 c4
      refine jw_iload_n rfl rfl ?_
      refine jw_bipush rfl (by decide) ?_
      refine jw_irem rfl (by omega) (by omega) ?_
      refine jw_iconst rfl ?_
      obtain ⟨o5, h⟩ := h
      refine jw_ic_ne rfl o5 (by omega) (fun c6 => ?_) (fun c6 => ?_)
      · replace h := h.1 c6
        exact jz_fg (l := [none, none, none, none, none, none, none]) ⟨jz_nr, jz_ni, jz_ni, jz_ni, jz_n0, jz_n0, jz_n0, trivial⟩ h
      · replace h := h.2 c6
        refine jw_aload_n rfl rfl ?_
        refine jw_dup_r rfl ?_
        refine jw_gf (v := (J 146 5)) rfl (by decide) rfl rfl ?_
        refine jw_iconst rfl ?_
        refine jw_isub rfl ?_
        refine jw_pf rfl rfl ?_
        refine jw_aload_n rfl rfl ?_
        refine jw_virt (k := 0) (c := 10) (as := []) rfl rfl rfl (Nat.le_of_ble_eq_true rfl) rfl (Nat.le_of_ble_eq_true rfl) rfl rfl (jz_ci ?_)
        refine jm_Q.mono h (jp_i_mono (fun r9 J7 K8 h => ?_))
        refine jw_istore (ls' := [some (.ref 146), some (.int (Int32.ofInt v1)), some (.int (Int32.ofInt v2)), some (.int (Int32.ofInt v3)), some (.int (Int32.ofInt r9)), none, none]) rfl rfl ?_
        refine jw_aload_n rfl rfl ?_
        refine jw_virt (k := 0) (c := 10) (as := []) rfl rfl rfl (Nat.le_of_ble_eq_true rfl) rfl (Nat.le_of_ble_eq_true rfl) rfl rfl (jz_ci ?_)
        refine jm_Q.mono h (jp_i_mono (fun r12 J10 K11 h => ?_))
        refine jw_istore (ls' := [some (.ref 146), some (.int (Int32.ofInt v1)), some (.int (Int32.ofInt v2)), some (.int (Int32.ofInt v3)), some (.int (Int32.ofInt r9)), some (.int (Int32.ofInt r12)), none]) rfl rfl ?_
        refine jw_aload_n rfl rfl ?_
        refine jw_virt (k := 0) (c := 10) (as := []) rfl rfl rfl (Nat.le_of_ble_eq_true rfl) rfl (Nat.le_of_ble_eq_true rfl) rfl rfl (jz_ci ?_)
        refine jm_Q.mono h (jp_i_mono (fun r15 J13 K14 h => ?_))
        refine jw_istore (ls' := [some (.ref 146), some (.int (Int32.ofInt v1)), some (.int (Int32.ofInt v2)), some (.int (Int32.ofInt v3)), some (.int (Int32.ofInt r9)), some (.int (Int32.ofInt r12)), some (.int (Int32.ofInt r15))]) rfl rfl ?_
        refine jw_aload_n rfl rfl ?_
        refine jw_bipush rfl (by decide) ?_
        refine jw_iload_n rfl rfl ?_
        refine jw_bipush rfl (by decide) ?_
        refine jw_isub rfl ?_
        refine jw_bipush rfl (by decide) ?_
        refine jw_idiv rfl (by omega) (by omega) ?_
        refine jw_iload rfl rfl ?_
        refine jw_iload rfl rfl ?_
        refine jw_iload rfl rfl ?_
        refine jw_virt (k := 5) (c := 10) (as := [.int (Int32.ofInt 11), .int (Int32.ofInt (jz_div (v2 - 100) 10)), .int (Int32.ofInt r15), .int (Int32.ofInt r12), .int (Int32.ofInt r9)]) rfl rfl rfl (Nat.le_of_ble_eq_true rfl) rfl (Nat.le_of_ble_eq_true rfl) rfl rfl (jz_cv ?_)
        refine jm_Q.mono h (jp_v_mono (fun J16 K17 h => ?_))
        refine jw_iconst rfl ?_
        refine jw_zret rfl (by omega) ?_
        exact h
set_option maxHeartbeats 4000000 in
theorem e_96_150 {xs : Nat → Int32} {L d : Nat} {J K : jZ} {P : Int → jZ → jZ → Prop} (h : P 0 J K) : l_96_150 xs L d J K P := by
  unfold l_96_150
  refine jw_iconst rfl ?_
  refine jw_zret rfl (by omega) ?_
  exact h
set_option maxHeartbeats 4000000 in
theorem e_97 {xs : Nat → Int32} {L d : Nat} {v1 : Int} {J K : jZ} {P : Int → jZ → jZ → Prop} (h : (-2147483648 ≤ v1 ∧ v1 < 2147483648) ∧ (((0 : Int) ≤ v1 ∧ v1 < 16) → q_98 xs L (d + 1) 0 v1 1 J K (fun r5 J3 K4 => P r5 J3 K4)) ∧ (¬ ((0 : Int) ≤ v1 ∧ v1 < 16) → q_13 xs L (d + 1) (-2) J K (fun r8 J6 K7 => P r8 J6 K7))) : q_97 xs L (d + 2) v1 J K P := by
  unfold q_97
  refine jq_in (ls := [some (.ref 0), some (.int (Int32.ofInt v1))]) rfl (Nat.le_of_ble_eq_true rfl) rfl ?_
  refine jw_iload_n rfl rfl ?_
  refine jw_stat (k := 1) (as := [.int (Int32.ofInt v1)]) rfl (by decide) rfl rfl (Nat.le_of_ble_eq_true rfl) rfl (Nat.le_of_ble_eq_true rfl) (jz_ci ?_)
  obtain ⟨o1, h⟩ := h
  refine sb_57 o1 (fun c2 => ?_) (fun c2 => ?_)
  · replace h := h.1 c2
    refine jw_if_eq rfl (by omega) (fun hc => by exfalso; omega) (fun _ => ?_)
    refine jw_aload_n rfl rfl ?_
    refine jw_iconst rfl ?_
    refine jw_iload_n rfl rfl ?_
    refine jw_iconst rfl ?_
    refine jw_virt (k := 3) (c := 18) (as := [.int (Int32.ofInt 0), .int (Int32.ofInt v1), .int (Int32.ofInt 1)]) rfl rfl rfl (Nat.le_of_ble_eq_true rfl) rfl (Nat.le_of_ble_eq_true rfl) rfl rfl (jz_ci ?_)
    refine jm_Q.mono h (jp_i_mono (fun r5 J3 K4 h => ?_))
    refine jw_goto rfl ?_
    refine jw_iret rfl ?_
    exact h
  · replace h := h.2 c2
    refine jw_if_eq rfl (by omega) (fun _ => ?_) (fun hc => by exfalso; omega)
    refine jw_aload_n rfl rfl ?_
    refine jw_bipush rfl (by decide) ?_
    refine jw_virt (k := 1) (c := 18) (as := [.int (Int32.ofInt (-2))]) rfl rfl rfl (Nat.le_of_ble_eq_true rfl) rfl (Nat.le_of_ble_eq_true rfl) rfl rfl (jz_ci ?_)
    refine jm_Q.mono h (jp_i_mono (fun r8 J6 K7 h => ?_))
    refine jw_iret rfl ?_
    exact h
set_option maxHeartbeats 4000000 in
theorem e_99 {xs : Nat → Int32} {L d : Nat} {v0 : Nat} {J K : jZ} {P : Int → jZ → jZ → Prop} (hk0 : jz_kd v0 = 12) (h : (-2147483648 ≤ J v0 1 ∧ J v0 1 < 2147483648) ∧ ((J v0 1) < 24 → P 0 J K) ∧ (24 ≤ (J v0 1) → P 1 J K)) : q_99 xs L (d + 1) v0 J K P := by
  unfold q_99
  refine jq_in (ls := [some (.ref v0)]) rfl (Nat.le_of_ble_eq_true rfl) rfl ?_
  refine jw_aload_n rfl rfl ?_
  refine jw_gf (v := (J v0 1)) rfl (by decide) hk0 rfl ?_
  refine jw_bipush rfl (by decide) ?_
  obtain ⟨o1, h⟩ := h
  refine jw_ic_lt rfl o1 (by omega) (fun c2 => ?_) (fun c2 => ?_)
  · replace h := h.1 c2
    refine jw_iconst rfl ?_
    refine jw_zret rfl (by omega) ?_
    exact h
  · replace h := h.2 c2
    refine jw_iconst rfl ?_
    refine jw_goto rfl ?_
    refine jw_zret rfl (by omega) ?_
    exact h
set_option maxHeartbeats 4000000 in
theorem sb_99 {xs : Nat → Int32} {L d : Nat} {v0 : Nat} {J K : jZ} {P : Int → jZ → jZ → Prop} (hk0 : jz_kd v0 = 12) (o0 : -2147483648 ≤ J v0 1 ∧ J v0 1 < 2147483648) (h1 : (24 ≤ (J v0 1)) → P 1 J K) (h0 : ¬ (24 ≤ (J v0 1)) → P 0 J K) : q_99 xs L (d + 1) v0 J K P := by
  refine e_99 hk0 ?_
  repeat' (first | exact h1 (by omega) | exact h0 (by omega) | refine ⟨by omega, ?_⟩ | refine ⟨fun _ => ?_, fun _ => ?_⟩)
set_option maxHeartbeats 4000000 in
theorem e_98 {xs : Nat → Int32} {L d : Nat} {v1 : Int} {v2 : Int} {v3 : Int} {J K : jZ} {P : Int → jZ → jZ → Prop} (h : (-2147483648 ≤ J 9 1 ∧ J 9 1 < 2147483648) ∧ ((24 ≤ (J 9 1)) → q_13 xs L (d + 1) (-6) J K (fun r5 J3 K4 => P r5 J3 K4)) ∧ (¬ (24 ≤ (J 9 1)) → q_80 xs L (d + 1) 9 (J 9 1) v1 v2 v3 J K (fun J6 K7 => P (((J6 9 1) + 1) - 1) (jm_up J6 9 1 ((J6 9 1) + 1)) K7))) : q_98 xs L (d + 2) v1 v2 v3 J K P := by
  unfold q_98
  refine jq_in (ls := [some (.ref 0), some (.int (Int32.ofInt v1)), some (.int (Int32.ofInt v2)), some (.int (Int32.ofInt v3))]) rfl (Nat.le_of_ble_eq_true rfl) rfl ?_
  refine jw_aload_n rfl rfl ?_
  refine jw_gr (q := 9) rfl rfl rfl ?_
  refine jw_virt (k := 0) (c := 11) (as := []) rfl rfl rfl (Nat.le_of_ble_eq_true rfl) rfl (Nat.le_of_ble_eq_true rfl) rfl rfl (jz_ci ?_)
  obtain ⟨o1, h⟩ := h
  refine sb_99 rfl o1 (fun c2 => ?_) (fun c2 => ?_)
  · replace h := h.1 c2
    refine jw_if_eq rfl (by omega) (fun hc => by exfalso; omega) (fun _ => ?_)
    refine jw_aload_n rfl rfl ?_
    refine jw_bipush rfl (by decide) ?_
    refine jw_virt (k := 1) (c := 18) (as := [.int (Int32.ofInt (-6))]) rfl rfl rfl (Nat.le_of_ble_eq_true rfl) rfl (Nat.le_of_ble_eq_true rfl) rfl rfl (jz_ci ?_)
    refine jm_Q.mono h (jp_i_mono (fun r5 J3 K4 h => ?_))
    refine jw_iret rfl ?_
    exact h
  · replace h := h.2 c2
    refine jw_if_eq rfl (by omega) (fun _ => ?_) (fun hc => by exfalso; omega)
    refine jw_aload_n rfl rfl ?_
    refine jw_gr (q := 9) rfl rfl rfl ?_
    refine jw_aload_n rfl rfl ?_
    refine jw_gr (q := 9) rfl rfl rfl ?_
    refine jw_gf (v := (J 9 1)) rfl (by decide) rfl rfl ?_
    refine jw_iload_n rfl rfl ?_
    refine jw_iload_n rfl rfl ?_
    refine jw_iload_n rfl rfl ?_
    refine jw_virt (k := 4) (c := 11) (as := [.int (Int32.ofInt (J 9 1)), .int (Int32.ofInt v1), .int (Int32.ofInt v2), .int (Int32.ofInt v3)]) rfl rfl rfl (Nat.le_of_ble_eq_true rfl) rfl (Nat.le_of_ble_eq_true rfl) rfl rfl (jz_cv ?_)
    refine jm_Q.mono h (jp_v_mono (fun J6 K7 h => ?_))
    refine jw_aload_n rfl rfl ?_
    refine jw_gr (q := 9) rfl rfl rfl ?_
    refine jw_virt (k := 0) (c := 11) (as := []) rfl rfl rfl (Nat.le_of_ble_eq_true rfl) rfl (Nat.le_of_ble_eq_true rfl) rfl rfl (jz_ci ?_)
    refine jq_in (ls := [some (.ref 9)]) rfl (Nat.le_of_ble_eq_true rfl) rfl ?_
    refine jw_aload_n rfl rfl ?_
    refine jw_dup_r rfl ?_
    refine jw_gf (v := (J6 9 1)) rfl (by decide) rfl rfl ?_
    refine jw_iconst rfl ?_
    refine jw_iadd rfl ?_
    refine jw_pf rfl rfl ?_
    refine jw_aload_n rfl rfl ?_
    refine jw_gf (v := ((J6 9 1) + 1)) rfl (by decide) rfl (by simp [jm_up]) ?_
    refine jw_iconst rfl ?_
    refine jw_isub rfl ?_
    refine jw_iret rfl ?_
    refine jw_iret rfl ?_
    exact h
set_option maxHeartbeats 4000000 in
theorem e_100 {xs : Nat → Int32} {L d : Nat} {v0 : Nat} {J K : jZ} {P : Int → jZ → jZ → Prop} (hk0 : jz_kd v0 = 12) (h : P (((J v0 1) + 1) - 1) (jm_up J v0 1 ((J v0 1) + 1)) K) : q_100 xs L (d + 1) v0 J K P := by
  unfold q_100
  refine jq_in (ls := [some (.ref v0)]) rfl (Nat.le_of_ble_eq_true rfl) rfl ?_
  refine jw_aload_n rfl rfl ?_
  refine jw_dup_r rfl ?_
  refine jw_gf (v := (J v0 1)) rfl (by decide) hk0 rfl ?_
  refine jw_iconst rfl ?_
  refine jw_iadd rfl ?_
  refine jw_pf rfl hk0 ?_
  refine jw_aload_n rfl rfl ?_
  refine jw_gf (v := ((J v0 1) + 1)) rfl (by decide) hk0 (by simp [jm_up]) ?_
  refine jw_iconst rfl ?_
  refine jw_isub rfl ?_
  refine jw_iret rfl ?_
  exact h
set_option maxHeartbeats 4000000 in
theorem e_102 {xs : Nat → Int32} {L d : Nat} {v1 : Int} {v2 : Int} {v3 : Int} {J K : jZ} {P : Int → jZ → jZ → Prop} (h : (-2147483648 ≤ v1 ∧ v1 < 2147483648) ∧ ((2 ≤ v1 ∧ v1 ≤ 8) → (-2147483648 ≤ v2 ∧ v2 < 2147483648) ∧ (-2147483648 ≤ J 9 1 ∧ J 9 1 < 2147483648) ∧ (((0 : Int) ≤ v2 ∧ v2 < (J 9 1)) → (-2147483648 ≤ v3 ∧ v3 < 2147483648) ∧ (((0 : Int) ≤ v3 ∧ v3 < (J 9 1)) → q_103 xs L (d + 1) v1 (-1) v2 v3 (-1) J K (fun r10 J8 K9 => P r10 J8 K9)) ∧ (¬ ((0 : Int) ≤ v3 ∧ v3 < (J 9 1)) → q_13 xs L (d + 1) (-2) J K (fun r13 J11 K12 => P r13 J11 K12))) ∧ (¬ ((0 : Int) ≤ v2 ∧ v2 < (J 9 1)) → q_13 xs L (d + 1) (-2) J K (fun r16 J14 K15 => P r16 J14 K15))) ∧ (¬ (2 ≤ v1 ∧ v1 ≤ 8) → q_13 xs L (d + 1) (-2) J K (fun r19 J17 K18 => P r19 J17 K18))) : q_102 xs L (d + 2) v1 v2 v3 J K P := by
  unfold q_102
  refine jq_in (ls := [some (.ref 0), some (.int (Int32.ofInt v1)), some (.int (Int32.ofInt v2)), some (.int (Int32.ofInt v3))]) rfl (Nat.le_of_ble_eq_true rfl) rfl ?_
  refine jw_iload_n rfl rfl ?_
  refine jw_stat (k := 1) (as := [.int (Int32.ofInt v1)]) rfl (by decide) rfl rfl (Nat.le_of_ble_eq_true rfl) rfl (Nat.le_of_ble_eq_true rfl) (jz_ci ?_)
  obtain ⟨o1, h⟩ := h
  refine sb_30 o1 (fun c2 => ?_) (fun c2 => ?_)
  · replace h := h.1 c2
    refine jw_if_eq rfl (by omega) (fun hc => by exfalso; omega) (fun _ => ?_)
    refine jw_aload_n rfl rfl ?_
    refine jw_gr (q := 9) rfl rfl rfl ?_
    refine jw_iload_n rfl rfl ?_
    refine jw_virt (k := 1) (c := 11) (as := [.int (Int32.ofInt v2)]) rfl rfl rfl (Nat.le_of_ble_eq_true rfl) rfl (Nat.le_of_ble_eq_true rfl) rfl rfl (jz_ci ?_)
    obtain ⟨o3, h⟩ := h
    obtain ⟨o4, h⟩ := h
    refine sb_27 rfl o3 o4 (fun c5 => ?_) (fun c5 => ?_)
    · replace h := h.1 c5
      refine jw_if_eq rfl (by omega) (fun hc => by exfalso; omega) (fun _ => ?_)
      refine jw_aload_n rfl rfl ?_
      refine jw_gr (q := 9) rfl rfl rfl ?_
      refine jw_iload_n rfl rfl ?_
      refine jw_virt (k := 1) (c := 11) (as := [.int (Int32.ofInt v3)]) rfl rfl rfl (Nat.le_of_ble_eq_true rfl) rfl (Nat.le_of_ble_eq_true rfl) rfl rfl (jz_ci ?_)
      obtain ⟨o6, h⟩ := h
      refine sb_27 rfl o6 o4 (fun c7 => ?_) (fun c7 => ?_)
      · replace h := h.1 c7
        refine jw_if_ne rfl (by omega) (fun _ => ?_) (fun hc => by exfalso; omega)
        refine jw_aload_n rfl rfl ?_
        refine jw_iload_n rfl rfl ?_
        refine jw_iconst rfl ?_
        refine jw_iload_n rfl rfl ?_
        refine jw_iload_n rfl rfl ?_
        refine jw_iconst rfl ?_
        refine jw_virt (k := 5) (c := 18) (as := [.int (Int32.ofInt v1), .int (Int32.ofInt (-1)), .int (Int32.ofInt v2), .int (Int32.ofInt v3), .int (Int32.ofInt (-1))]) rfl rfl rfl (Nat.le_of_ble_eq_true rfl) rfl (Nat.le_of_ble_eq_true rfl) rfl rfl (jz_ci ?_)
        refine jm_Q.mono h (jp_i_mono (fun r10 J8 K9 h => ?_))
        refine jw_iret rfl ?_
        exact h
      · replace h := h.2 c7
        refine jw_if_ne rfl (by omega) (fun hc => by exfalso; omega) (fun _ => ?_)
        refine jw_aload_n rfl rfl ?_
        refine jw_bipush rfl (by decide) ?_
        refine jw_virt (k := 1) (c := 18) (as := [.int (Int32.ofInt (-2))]) rfl rfl rfl (Nat.le_of_ble_eq_true rfl) rfl (Nat.le_of_ble_eq_true rfl) rfl rfl (jz_ci ?_)
        refine jm_Q.mono h (jp_i_mono (fun r13 J11 K12 h => ?_))
        refine jw_iret rfl ?_
        exact h
    · replace h := h.2 c5
      refine jw_if_eq rfl (by omega) (fun _ => ?_) (fun hc => by exfalso; omega)
      refine jw_aload_n rfl rfl ?_
      refine jw_bipush rfl (by decide) ?_
      refine jw_virt (k := 1) (c := 18) (as := [.int (Int32.ofInt (-2))]) rfl rfl rfl (Nat.le_of_ble_eq_true rfl) rfl (Nat.le_of_ble_eq_true rfl) rfl rfl (jz_ci ?_)
      refine jm_Q.mono h (jp_i_mono (fun r16 J14 K15 h => ?_))
      refine jw_iret rfl ?_
      exact h
  · replace h := h.2 c2
    refine jw_if_eq rfl (by omega) (fun _ => ?_) (fun hc => by exfalso; omega)
    refine jw_aload_n rfl rfl ?_
    refine jw_bipush rfl (by decide) ?_
    refine jw_virt (k := 1) (c := 18) (as := [.int (Int32.ofInt (-2))]) rfl rfl rfl (Nat.le_of_ble_eq_true rfl) rfl (Nat.le_of_ble_eq_true rfl) rfl rfl (jz_ci ?_)
    refine jm_Q.mono h (jp_i_mono (fun r19 J17 K18 h => ?_))
    refine jw_iret rfl ?_
    exact h
set_option maxHeartbeats 4000000 in
theorem e_103 {xs : Nat → Int32} {L d : Nat} {v1 : Int} {v2 : Int} {v3 : Int} {v4 : Int} {v5 : Int} {J K : jZ} {P : Int → jZ → jZ → Prop} (h : (-2147483648 ≤ J 9 1 ∧ J 9 1 < 2147483648) ∧ ((24 ≤ (J 9 1)) → q_13 xs L (d + 1) (-6) J K (fun r5 J3 K4 => P r5 J3 K4)) ∧ (¬ (24 ≤ (J 9 1)) → q_93 xs L (d + 1) 9 (J 9 1) v1 v2 v3 v4 v5 J K (fun J6 K7 => P (((J6 9 1) + 1) - 1) (jm_up J6 9 1 ((J6 9 1) + 1)) K7))) : q_103 xs L (d + 2) v1 v2 v3 v4 v5 J K P := by
  unfold q_103
  refine jq_in (ls := [some (.ref 0), some (.int (Int32.ofInt v1)), some (.int (Int32.ofInt v2)), some (.int (Int32.ofInt v3)), some (.int (Int32.ofInt v4)), some (.int (Int32.ofInt v5))]) rfl (Nat.le_of_ble_eq_true rfl) rfl ?_
  refine jw_aload_n rfl rfl ?_
  refine jw_gr (q := 9) rfl rfl rfl ?_
  refine jw_virt (k := 0) (c := 11) (as := []) rfl rfl rfl (Nat.le_of_ble_eq_true rfl) rfl (Nat.le_of_ble_eq_true rfl) rfl rfl (jz_ci ?_)
  obtain ⟨o1, h⟩ := h
  refine sb_99 rfl o1 (fun c2 => ?_) (fun c2 => ?_)
  · replace h := h.1 c2
    refine jw_if_eq rfl (by omega) (fun hc => by exfalso; omega) (fun _ => ?_)
    refine jw_aload_n rfl rfl ?_
    refine jw_bipush rfl (by decide) ?_
    refine jw_virt (k := 1) (c := 18) (as := [.int (Int32.ofInt (-6))]) rfl rfl rfl (Nat.le_of_ble_eq_true rfl) rfl (Nat.le_of_ble_eq_true rfl) rfl rfl (jz_ci ?_)
    refine jm_Q.mono h (jp_i_mono (fun r5 J3 K4 h => ?_))
    refine jw_iret rfl ?_
    exact h
  · replace h := h.2 c2
    refine jw_if_eq rfl (by omega) (fun _ => ?_) (fun hc => by exfalso; omega)
    refine jw_aload_n rfl rfl ?_
    refine jw_gr (q := 9) rfl rfl rfl ?_
    refine jw_aload_n rfl rfl ?_
    refine jw_gr (q := 9) rfl rfl rfl ?_
    refine jw_gf (v := (J 9 1)) rfl (by decide) rfl rfl ?_
    refine jw_iload_n rfl rfl ?_
    refine jw_iload_n rfl rfl ?_
    refine jw_iload_n rfl rfl ?_
    refine jw_iload rfl rfl ?_
    refine jw_iload rfl rfl ?_
    refine jw_virt (k := 6) (c := 11) (as := [.int (Int32.ofInt (J 9 1)), .int (Int32.ofInt v1), .int (Int32.ofInt v2), .int (Int32.ofInt v3), .int (Int32.ofInt v4), .int (Int32.ofInt v5)]) rfl rfl rfl (Nat.le_of_ble_eq_true rfl) rfl (Nat.le_of_ble_eq_true rfl) rfl rfl (jz_cv ?_)
    refine jm_Q.mono h (jp_v_mono (fun J6 K7 h => ?_))
    refine jw_aload_n rfl rfl ?_
    refine jw_gr (q := 9) rfl rfl rfl ?_
    refine jw_virt (k := 0) (c := 11) (as := []) rfl rfl rfl (Nat.le_of_ble_eq_true rfl) rfl (Nat.le_of_ble_eq_true rfl) rfl rfl (jz_ci ?_)
    refine jq_in (ls := [some (.ref 9)]) rfl (Nat.le_of_ble_eq_true rfl) rfl ?_
    refine jw_aload_n rfl rfl ?_
    refine jw_dup_r rfl ?_
    refine jw_gf (v := (J6 9 1)) rfl (by decide) rfl rfl ?_
    refine jw_iconst rfl ?_
    refine jw_iadd rfl ?_
    refine jw_pf rfl rfl ?_
    refine jw_aload_n rfl rfl ?_
    refine jw_gf (v := ((J6 9 1) + 1)) rfl (by decide) rfl (by simp [jm_up]) ?_
    refine jw_iconst rfl ?_
    refine jw_isub rfl ?_
    refine jw_iret rfl ?_
    refine jw_iret rfl ?_
    exact h
set_option maxHeartbeats 4000000 in
theorem e_104 {xs : Nat → Int32} {L d : Nat} {v1 : Int} {J K : jZ} {P : Int → jZ → jZ → Prop} (h : (-2147483648 ≤ v1 ∧ v1 < 2147483648) ∧ (v1 < 0 → q_13 xs L d (-2) J K (fun r5 J3 K4 => P r5 J3 K4)) ∧ (0 ≤ v1 → (v1 ≤ 2 → q_98 xs L d 9 v1 0 J K (fun r9 J7 K8 => P r9 J7 K8)) ∧ (2 < v1 → q_13 xs L d (-2) J K (fun r12 J10 K11 => P r12 J10 K11)))) : q_104 xs L (d + 1) v1 J K P := by
  unfold q_104
  refine jq_in (ls := [some (.ref 0), some (.int (Int32.ofInt v1))]) rfl (Nat.le_of_ble_eq_true rfl) rfl ?_
  refine jw_iload_n rfl rfl ?_
  obtain ⟨o1, h⟩ := h
  refine jw_if_lt rfl o1 (fun c2 => ?_) (fun c2 => ?_)
  · replace h := h.1 c2
    refine jw_aload_n rfl rfl ?_
    refine jw_bipush rfl (by decide) ?_
    refine jw_virt (k := 1) (c := 18) (as := [.int (Int32.ofInt (-2))]) rfl rfl rfl (Nat.le_of_ble_eq_true rfl) rfl (Nat.le_of_ble_eq_true rfl) rfl rfl (jz_ci ?_)
    refine jm_Q.mono h (jp_i_mono (fun r5 J3 K4 h => ?_))
    refine jw_goto rfl ?_
    refine jw_iret rfl ?_
    exact h
  · replace h := h.2 c2
    refine jw_iload_n rfl rfl ?_
    refine jw_iconst rfl ?_
    refine jw_ic_le rfl o1 (by omega) (fun c6 => ?_) (fun c6 => ?_)
    · replace h := h.1 c6
      refine jw_aload_n rfl rfl ?_
      refine jw_bipush rfl (by decide) ?_
      refine jw_iload_n rfl rfl ?_
      refine jw_iconst rfl ?_
      refine jw_virt (k := 3) (c := 18) (as := [.int (Int32.ofInt 9), .int (Int32.ofInt v1), .int (Int32.ofInt 0)]) rfl rfl rfl (Nat.le_of_ble_eq_true rfl) rfl (Nat.le_of_ble_eq_true rfl) rfl rfl (jz_ci ?_)
      refine jm_Q.mono h (jp_i_mono (fun r9 J7 K8 h => ?_))
      refine jw_iret rfl ?_
      exact h
    · replace h := h.2 c6
      refine jw_aload_n rfl rfl ?_
      refine jw_bipush rfl (by decide) ?_
      refine jw_virt (k := 1) (c := 18) (as := [.int (Int32.ofInt (-2))]) rfl rfl rfl (Nat.le_of_ble_eq_true rfl) rfl (Nat.le_of_ble_eq_true rfl) rfl rfl (jz_ci ?_)
      refine jm_Q.mono h (jp_i_mono (fun r12 J10 K11 h => ?_))
      refine jw_goto rfl ?_
      refine jw_iret rfl ?_
      exact h
set_option maxHeartbeats 4000000 in
theorem e_105 {xs : Nat → Int32} {L d : Nat} {v1 : Int} {v2 : Int} {J K : jZ} {P : Int → jZ → jZ → Prop} (h : (-2147483648 ≤ v1 ∧ v1 < 2147483648) ∧ (-2147483648 ≤ J 9 1 ∧ J 9 1 < 2147483648) ∧ (((0 : Int) ≤ v1 ∧ v1 < (J 9 1)) → (-2147483648 ≤ v2 ∧ v2 < 2147483648) ∧ (v2 < 1 → q_13 xs L (d + 1) (-2) J K (fun r8 J6 K7 => P r8 J6 K7)) ∧ (1 ≤ v2 → (v2 ≤ 60 → q_103 xs L (d + 1) 10 v2 v1 (-1) (-1) J K (fun r12 J10 K11 => P r12 J10 K11)) ∧ (60 < v2 → q_13 xs L (d + 1) (-2) J K (fun r15 J13 K14 => P r15 J13 K14)))) ∧ (¬ ((0 : Int) ≤ v1 ∧ v1 < (J 9 1)) → q_13 xs L (d + 1) (-2) J K (fun r18 J16 K17 => P r18 J16 K17))) : q_105 xs L (d + 2) v1 v2 J K P := by
  unfold q_105
  refine jq_in (ls := [some (.ref 0), some (.int (Int32.ofInt v1)), some (.int (Int32.ofInt v2))]) rfl (Nat.le_of_ble_eq_true rfl) rfl ?_
  refine jw_aload_n rfl rfl ?_
  refine jw_gr (q := 9) rfl rfl rfl ?_
  refine jw_iload_n rfl rfl ?_
  refine jw_virt (k := 1) (c := 11) (as := [.int (Int32.ofInt v1)]) rfl rfl rfl (Nat.le_of_ble_eq_true rfl) rfl (Nat.le_of_ble_eq_true rfl) rfl rfl (jz_ci ?_)
  obtain ⟨o1, h⟩ := h
  obtain ⟨o2, h⟩ := h
  refine sb_27 rfl o1 o2 (fun c3 => ?_) (fun c3 => ?_)
  · replace h := h.1 c3
    refine jw_if_eq rfl (by omega) (fun hc => by exfalso; omega) (fun _ => ?_)
    refine jw_iload_n rfl rfl ?_
    refine jw_iconst rfl ?_
    obtain ⟨o4, h⟩ := h
    refine jw_ic_lt rfl o4 (by omega) (fun c5 => ?_) (fun c5 => ?_)
    · replace h := h.1 c5
      refine jw_aload_n rfl rfl ?_
      refine jw_bipush rfl (by decide) ?_
      refine jw_virt (k := 1) (c := 18) (as := [.int (Int32.ofInt (-2))]) rfl rfl rfl (Nat.le_of_ble_eq_true rfl) rfl (Nat.le_of_ble_eq_true rfl) rfl rfl (jz_ci ?_)
      refine jm_Q.mono h (jp_i_mono (fun r8 J6 K7 h => ?_))
      refine jw_iret rfl ?_
      exact h
    · replace h := h.2 c5
      refine jw_iload_n rfl rfl ?_
      refine jw_bipush rfl (by decide) ?_
      refine jw_ic_le rfl o4 (by omega) (fun c9 => ?_) (fun c9 => ?_)
      · replace h := h.1 c9
        refine jw_aload_n rfl rfl ?_
        refine jw_bipush rfl (by decide) ?_
        refine jw_iload_n rfl rfl ?_
        refine jw_iload_n rfl rfl ?_
        refine jw_iconst rfl ?_
        refine jw_iconst rfl ?_
        refine jw_virt (k := 5) (c := 18) (as := [.int (Int32.ofInt 10), .int (Int32.ofInt v2), .int (Int32.ofInt v1), .int (Int32.ofInt (-1)), .int (Int32.ofInt (-1))]) rfl rfl rfl (Nat.le_of_ble_eq_true rfl) rfl (Nat.le_of_ble_eq_true rfl) rfl rfl (jz_ci ?_)
        refine jm_Q.mono h (jp_i_mono (fun r12 J10 K11 h => ?_))
        refine jw_iret rfl ?_
        exact h
      · replace h := h.2 c9
        refine jw_aload_n rfl rfl ?_
        refine jw_bipush rfl (by decide) ?_
        refine jw_virt (k := 1) (c := 18) (as := [.int (Int32.ofInt (-2))]) rfl rfl rfl (Nat.le_of_ble_eq_true rfl) rfl (Nat.le_of_ble_eq_true rfl) rfl rfl (jz_ci ?_)
        refine jm_Q.mono h (jp_i_mono (fun r15 J13 K14 h => ?_))
        refine jw_iret rfl ?_
        exact h
  · replace h := h.2 c3
    refine jw_if_eq rfl (by omega) (fun _ => ?_) (fun hc => by exfalso; omega)
    refine jw_aload_n rfl rfl ?_
    refine jw_bipush rfl (by decide) ?_
    refine jw_virt (k := 1) (c := 18) (as := [.int (Int32.ofInt (-2))]) rfl rfl rfl (Nat.le_of_ble_eq_true rfl) rfl (Nat.le_of_ble_eq_true rfl) rfl rfl (jz_ci ?_)
    refine jm_Q.mono h (jp_i_mono (fun r18 J16 K17 h => ?_))
    refine jw_iret rfl ?_
    exact h
set_option maxHeartbeats 4000000 in
theorem e_106 {xs : Nat → Int32} {L d : Nat} {v1 : Int} {v2 : Int} {v3 : Int} {v4 : Int} {J K : jZ} {P : Int → jZ → jZ → Prop} (h : (-2147483648 ≤ v1 ∧ v1 < 2147483648) ∧ (v1 < 1 → q_13 xs L (d + 1) (-2) J K (fun r5 J3 K4 => P r5 J3 K4)) ∧ (1 ≤ v1 → (3 < v1 → q_13 xs L (d + 1) (-2) J K (fun r9 J7 K8 => P r9 J7 K8)) ∧ (v1 ≤ 3 → (-2147483648 ≤ v2 ∧ v2 < 2147483648) ∧ (-2147483648 ≤ J 9 1 ∧ J 9 1 < 2147483648) ∧ (((0 : Int) ≤ v2 ∧ v2 < (J 9 1)) → (-2147483648 ≤ v3 ∧ v3 < 2147483648) ∧ (((0 : Int) ≤ v3 ∧ v3 < (J 9 1)) → (-2147483648 ≤ v4 ∧ v4 < 2147483648) ∧ (((0 : Int) ≤ v4 ∧ v4 < (J 9 1)) → q_103 xs L (d + 1) 11 v1 v2 v3 v4 J K (fun r19 J17 K18 => P r19 J17 K18)) ∧ (¬ ((0 : Int) ≤ v4 ∧ v4 < (J 9 1)) → q_13 xs L (d + 1) (-2) J K (fun r22 J20 K21 => P r22 J20 K21))) ∧ (¬ ((0 : Int) ≤ v3 ∧ v3 < (J 9 1)) → q_13 xs L (d + 1) (-2) J K (fun r25 J23 K24 => P r25 J23 K24))) ∧ (¬ ((0 : Int) ≤ v2 ∧ v2 < (J 9 1)) → q_13 xs L (d + 1) (-2) J K (fun r28 J26 K27 => P r28 J26 K27))))) : q_106 xs L (d + 2) v1 v2 v3 v4 J K P := by
  unfold q_106
  refine jq_in (ls := [some (.ref 0), some (.int (Int32.ofInt v1)), some (.int (Int32.ofInt v2)), some (.int (Int32.ofInt v3)), some (.int (Int32.ofInt v4))]) rfl (Nat.le_of_ble_eq_true rfl) rfl ?_
  refine jw_iload_n rfl rfl ?_
  refine jw_iconst rfl ?_
  obtain ⟨o1, h⟩ := h
  refine jw_ic_lt rfl o1 (by omega) (fun c2 => ?_) (fun c2 => ?_)
  · replace h := h.1 c2
    refine jw_aload_n rfl rfl ?_
    refine jw_bipush rfl (by decide) ?_
    refine jw_virt (k := 1) (c := 18) (as := [.int (Int32.ofInt (-2))]) rfl rfl rfl (Nat.le_of_ble_eq_true rfl) rfl (Nat.le_of_ble_eq_true rfl) rfl rfl (jz_ci ?_)
    refine jm_Q.mono h (jp_i_mono (fun r5 J3 K4 h => ?_))
    refine jw_iret rfl ?_
    exact h
  · replace h := h.2 c2
    refine jw_iload_n rfl rfl ?_
    refine jw_iconst rfl ?_
    refine jw_ic_gt rfl o1 (by omega) (fun c6 => ?_) (fun c6 => ?_)
    · replace h := h.1 c6
      refine jw_aload_n rfl rfl ?_
      refine jw_bipush rfl (by decide) ?_
      refine jw_virt (k := 1) (c := 18) (as := [.int (Int32.ofInt (-2))]) rfl rfl rfl (Nat.le_of_ble_eq_true rfl) rfl (Nat.le_of_ble_eq_true rfl) rfl rfl (jz_ci ?_)
      refine jm_Q.mono h (jp_i_mono (fun r9 J7 K8 h => ?_))
      refine jw_iret rfl ?_
      exact h
    · replace h := h.2 c6
      refine jw_aload_n rfl rfl ?_
      refine jw_gr (q := 9) rfl rfl rfl ?_
      refine jw_iload_n rfl rfl ?_
      refine jw_virt (k := 1) (c := 11) (as := [.int (Int32.ofInt v2)]) rfl rfl rfl (Nat.le_of_ble_eq_true rfl) rfl (Nat.le_of_ble_eq_true rfl) rfl rfl (jz_ci ?_)
      obtain ⟨o10, h⟩ := h
      obtain ⟨o11, h⟩ := h
      refine sb_27 rfl o10 o11 (fun c12 => ?_) (fun c12 => ?_)
      · replace h := h.1 c12
        refine jw_if_eq rfl (by omega) (fun hc => by exfalso; omega) (fun _ => ?_)
        refine jw_aload_n rfl rfl ?_
        refine jw_gr (q := 9) rfl rfl rfl ?_
        refine jw_iload_n rfl rfl ?_
        refine jw_virt (k := 1) (c := 11) (as := [.int (Int32.ofInt v3)]) rfl rfl rfl (Nat.le_of_ble_eq_true rfl) rfl (Nat.le_of_ble_eq_true rfl) rfl rfl (jz_ci ?_)
        obtain ⟨o13, h⟩ := h
        refine sb_27 rfl o13 o11 (fun c14 => ?_) (fun c14 => ?_)
        · replace h := h.1 c14
          refine jw_if_eq rfl (by omega) (fun hc => by exfalso; omega) (fun _ => ?_)
          refine jw_aload_n rfl rfl ?_
          refine jw_gr (q := 9) rfl rfl rfl ?_
          refine jw_iload rfl rfl ?_
          refine jw_virt (k := 1) (c := 11) (as := [.int (Int32.ofInt v4)]) rfl rfl rfl (Nat.le_of_ble_eq_true rfl) rfl (Nat.le_of_ble_eq_true rfl) rfl rfl (jz_ci ?_)
          obtain ⟨o15, h⟩ := h
          refine sb_27 rfl o15 o11 (fun c16 => ?_) (fun c16 => ?_)
          · replace h := h.1 c16
            refine jw_if_ne rfl (by omega) (fun _ => ?_) (fun hc => by exfalso; omega)
            refine jw_aload_n rfl rfl ?_
            refine jw_bipush rfl (by decide) ?_
            refine jw_iload_n rfl rfl ?_
            refine jw_iload_n rfl rfl ?_
            refine jw_iload_n rfl rfl ?_
            refine jw_iload rfl rfl ?_
            refine jw_virt (k := 5) (c := 18) (as := [.int (Int32.ofInt 11), .int (Int32.ofInt v1), .int (Int32.ofInt v2), .int (Int32.ofInt v3), .int (Int32.ofInt v4)]) rfl rfl rfl (Nat.le_of_ble_eq_true rfl) rfl (Nat.le_of_ble_eq_true rfl) rfl rfl (jz_ci ?_)
            refine jm_Q.mono h (jp_i_mono (fun r19 J17 K18 h => ?_))
            refine jw_iret rfl ?_
            exact h
          · replace h := h.2 c16
            refine jw_if_ne rfl (by omega) (fun hc => by exfalso; omega) (fun _ => ?_)
            refine jw_aload_n rfl rfl ?_
            refine jw_bipush rfl (by decide) ?_
            refine jw_virt (k := 1) (c := 18) (as := [.int (Int32.ofInt (-2))]) rfl rfl rfl (Nat.le_of_ble_eq_true rfl) rfl (Nat.le_of_ble_eq_true rfl) rfl rfl (jz_ci ?_)
            refine jm_Q.mono h (jp_i_mono (fun r22 J20 K21 h => ?_))
            refine jw_iret rfl ?_
            exact h
        · replace h := h.2 c14
          refine jw_if_eq rfl (by omega) (fun _ => ?_) (fun hc => by exfalso; omega)
          refine jw_aload_n rfl rfl ?_
          refine jw_bipush rfl (by decide) ?_
          refine jw_virt (k := 1) (c := 18) (as := [.int (Int32.ofInt (-2))]) rfl rfl rfl (Nat.le_of_ble_eq_true rfl) rfl (Nat.le_of_ble_eq_true rfl) rfl rfl (jz_ci ?_)
          refine jm_Q.mono h (jp_i_mono (fun r25 J23 K24 h => ?_))
          refine jw_iret rfl ?_
          exact h
      · replace h := h.2 c12
        refine jw_if_eq rfl (by omega) (fun _ => ?_) (fun hc => by exfalso; omega)
        refine jw_aload_n rfl rfl ?_
        refine jw_bipush rfl (by decide) ?_
        refine jw_virt (k := 1) (c := 18) (as := [.int (Int32.ofInt (-2))]) rfl rfl rfl (Nat.le_of_ble_eq_true rfl) rfl (Nat.le_of_ble_eq_true rfl) rfl rfl (jz_ci ?_)
        refine jm_Q.mono h (jp_i_mono (fun r28 J26 K27 h => ?_))
        refine jw_iret rfl ?_
        exact h
set_option maxHeartbeats 4000000 in
theorem e_107 {xs : Nat → Int32} {L d : Nat} {J K : jZ} {P : Int → jZ → jZ → Prop} (h : (-2147483648 ≤ J 9 1 ∧ J 9 1 < 2147483648) ∧ (1 ≤ (J 9 1) → q_108 xs L d ((J 9 1) - 1) (jm_up J 9 1 ((J 9 1) - 1)) K (fun J3 K4 => q_109 xs L d J3 K4 (fun J5 K6 => P (J5 9 1) J5 K6))) ∧ ((J 9 1) < 1 → q_13 xs L d (-5) J K (fun r9 J7 K8 => P r9 J7 K8))) : q_107 xs L (d + 1) J K P := by
  unfold q_107
  refine jq_in (ls := [some (.ref 0)]) rfl (Nat.le_of_ble_eq_true rfl) rfl ?_
  refine jw_aload_n rfl rfl ?_
  refine jw_gr (q := 9) rfl rfl rfl ?_
  refine jw_gf (v := (J 9 1)) rfl (by decide) rfl rfl ?_
  refine jw_iconst rfl ?_
  obtain ⟨o1, h⟩ := h
  refine jw_ic_ge rfl o1 (by omega) (fun c2 => ?_) (fun c2 => ?_)
  · replace h := h.1 c2
    refine jw_aload_n rfl rfl ?_
    refine jw_gr (q := 9) rfl rfl rfl ?_
    refine jw_dup_r rfl ?_
    refine jw_gf (v := (J 9 1)) rfl (by decide) rfl rfl ?_
    refine jw_iconst rfl ?_
    refine jw_isub rfl ?_
    refine jw_pf rfl rfl ?_
    refine jw_aload_n rfl rfl ?_
    refine jw_gr (q := 61) rfl rfl rfl ?_
    refine jw_aload_n rfl rfl ?_
    refine jw_gr (q := 9) rfl rfl rfl ?_
    refine jw_gf (v := ((J 9 1) - 1)) rfl (by decide) rfl (by simp [jm_up]) ?_
    refine jw_virt (k := 1) (c := 13) (as := [.int (Int32.ofInt ((J 9 1) - 1))]) rfl rfl rfl (Nat.le_of_ble_eq_true rfl) rfl (Nat.le_of_ble_eq_true rfl) rfl rfl (jz_cv ?_)
    refine jm_Q.mono h (jp_v_mono (fun J3 K4 h => ?_))
    refine jw_aload_n rfl rfl ?_
    refine jw_virt (k := 0) (c := 18) (as := []) rfl rfl rfl (Nat.le_of_ble_eq_true rfl) rfl (Nat.le_of_ble_eq_true rfl) rfl rfl (jz_cv ?_)
    refine jm_Q.mono h (jp_v_mono (fun J5 K6 h => ?_))
    refine jw_aload_n rfl rfl ?_
    refine jw_gr (q := 9) rfl rfl rfl ?_
    refine jw_gf (v := (J5 9 1)) rfl (by decide) rfl rfl ?_
    refine jw_iret rfl ?_
    exact h
  · replace h := h.2 c2
    refine jw_aload_n rfl rfl ?_
    refine jw_bipush rfl (by decide) ?_
    refine jw_virt (k := 1) (c := 18) (as := [.int (Int32.ofInt (-5))]) rfl rfl rfl (Nat.le_of_ble_eq_true rfl) rfl (Nat.le_of_ble_eq_true rfl) rfl rfl (jz_ci ?_)
    refine jm_Q.mono h (jp_i_mono (fun r9 J7 K8 h => ?_))
    refine jw_iret rfl ?_
    exact h
set_option maxHeartbeats 4000000 in
theorem e_108 {xs : Nat → Int32} {L d : Nat} {v1 : Int} {J K : jZ} {P : jZ → jZ → Prop} (h : P (jm_up J 61 5 (jz_and (J 61 5) (jz_xor (jz_shl 1 v1) (-1)))) K) : q_108 xs L (d + 1) v1 J K P := by
  unfold q_108
  refine jq_in (ls := [some (.ref 61), some (.int (Int32.ofInt v1))]) rfl (Nat.le_of_ble_eq_true rfl) rfl ?_
  refine jw_aload_n rfl rfl ?_
  refine jw_dup_r rfl ?_
  refine jw_gf (v := (J 61 5)) rfl (by decide) rfl rfl ?_
  refine jw_iconst rfl ?_
  refine jw_iload_n rfl rfl ?_
  refine jw_ishl rfl ?_
  refine jw_iconst rfl ?_
  refine jw_ixor rfl ?_
  refine jw_iand rfl ?_
  refine jw_pf rfl rfl ?_
  refine jw_vret rfl ?_
  exact h
set_option maxHeartbeats 4000000 in
theorem e_109 {xs : Nat → Int32} {L d : Nat} {J K : jZ} {P : jZ → jZ → Prop} (h : l_109_2 xs L d 0 J K P) : q_109 xs L (d + 1) J K P := by
  unfold q_109
  refine jq_in (ls := [some (.ref 0), none]) rfl (Nat.le_of_ble_eq_true rfl) rfl ?_
  refine jw_iconst rfl ?_
  refine jw_istore_n (ls' := [some (.ref 0), some (.int (Int32.ofInt 0))]) rfl rfl ?_
  exact jz_fg (l := [some (.ref 0), some (.int (Int32.ofInt 0))]) ⟨rfl, rfl, trivial⟩ h
set_option maxHeartbeats 4000000 in
theorem e_109_2 {xs : Nat → Int32} {L d : Nat} {v1 : Int} {J K : jZ} {P : jZ → jZ → Prop} (h : (-2147483648 ≤ v1 ∧ v1 < 2147483648) ∧ (8 ≤ v1 → P J K) ∧ (v1 < 8 → ((0 : Int) ≤ v1 ∧ v1 < 8) ∧ (-2147483648 ≤ J (151 + 2 * v1.toNat) 2 ∧ J (151 + 2 * v1.toNat) 2 < 2147483648) ∧ (-2147483648 ≤ (10 + (J 9 1)) ∧ (10 + (J 9 1)) < 2147483648) ∧ ((J (151 + 2 * v1.toNat) 2) < (10 + (J 9 1)) → l_109_2 xs L d (v1 + 1) J K P) ∧ ((10 + (J 9 1)) ≤ (J (151 + 2 * v1.toNat) 2) → l_109_2 xs L d (v1 + 1) (jm_up J (151 + 2 * v1.toNat) 2 (-1)) K P))) : l_109_2 xs L d v1 J K P := by
  unfold l_109_2
  refine jw_iload_n rfl rfl ?_
  refine jw_bipush rfl (by decide) ?_
  obtain ⟨o1, h⟩ := h
  refine jw_ic_ge rfl o1 (by omega) (fun c2 => ?_) (fun c2 => ?_)
  · replace h := h.1 c2
    refine jw_vret rfl ?_
    exact h
  · replace h := h.2 c2
    refine jw_aload_n rfl rfl ?_
    refine jw_gr (q := 149) rfl rfl rfl ?_
    refine jw_iload_n rfl rfl ?_
    obtain ⟨o3, h⟩ := h
    refine jw_aald (k := 2) (q := (151 + 2 * v1.toNat)) (N := 8) rfl rfl (by omega) rfl (by omega) o3 (jzr_149 o3) ?_
    refine jw_gf (v := (J (151 + 2 * v1.toNat) 2)) rfl (by decide) (jze_149 o3) rfl ?_
    refine jw_bipush rfl (by decide) ?_
    refine jw_aload_n rfl rfl ?_
    refine jw_gr (q := 9) rfl rfl rfl ?_
    refine jw_gf (v := (J 9 1)) rfl (by decide) rfl rfl ?_
    refine jw_iadd rfl ?_
    obtain ⟨o4, h⟩ := h
    obtain ⟨o5, h⟩ := h
    refine jw_ic_lt rfl o4 o5 (fun c6 => ?_) (fun c6 => ?_)
    · replace h := h.1 c6
      refine jw_iinc (ls' := [some (.ref 0), some (.int (Int32.ofInt (v1 + 1)))]) rfl rfl rfl ?_
      refine jw_goto rfl ?_
      exact jz_fg (l := [some (.ref 0), some (.int (Int32.ofInt (v1 + 1)))]) ⟨rfl, rfl, trivial⟩ h
    · replace h := h.2 c6
      refine jw_aload_n rfl rfl ?_
      refine jw_gr (q := 149) rfl rfl rfl ?_
      refine jw_iload_n rfl rfl ?_
      refine jw_aald (k := 2) (q := (151 + 2 * v1.toNat)) (N := 8) rfl rfl (by omega) rfl (by omega) o3 (jzr_149 o3) ?_
      refine jw_iconst rfl ?_
      refine jw_pf rfl (jze_149 o3) ?_
      refine jw_iinc (ls' := [some (.ref 0), some (.int (Int32.ofInt (v1 + 1)))]) rfl rfl rfl ?_
      refine jw_goto rfl ?_
      exact jz_fg (l := [some (.ref 0), some (.int (Int32.ofInt (v1 + 1)))]) ⟨rfl, rfl, trivial⟩ h
set_option maxHeartbeats 4000000 in
theorem e_110 {xs : Nat → Int32} {L d : Nat} {v1 : Int} {v2 : Int} {J K : jZ} {P : Int → jZ → jZ → Prop} (h : (-2147483648 ≤ v1 ∧ v1 < 2147483648) ∧ (-2147483648 ≤ J 9 1 ∧ J 9 1 < 2147483648) ∧ (((0 : Int) ≤ v1 ∧ v1 < (J 9 1)) → ((0 : Int) ≤ v1 ∧ v1 < 24) ∧ (-2147483648 ≤ v2 ∧ v2 < 2147483648) ∧ (v2 = 0 → P (J (11 + v1.toNat) 0) J K) ∧ (¬ v2 = 0 → (v2 = 1 → P (J (11 + v1.toNat) 1) J K) ∧ (¬ v2 = 1 → (v2 = 2 → P (J (11 + v1.toNat) 2) J K) ∧ (¬ v2 = 2 → (v2 = 3 → P (J (11 + v1.toNat) 3) J K) ∧ (¬ v2 = 3 → (v2 = 4 → P (J (11 + v1.toNat) 4) J K) ∧ (¬ v2 = 4 → (v2 = 5 → P (J (11 + v1.toNat) 7) J K) ∧ (¬ v2 = 5 → (v2 = 6 → P (J (11 + v1.toNat) 8) J K) ∧ (¬ v2 = 6 → (v2 = 7 → P (J (11 + v1.toNat) 9) J K) ∧ (¬ v2 = 7 → q_13 xs L (d + 1) (-2) J K (fun r17 J15 K16 => P r17 J15 K16)))))))))) ∧ (¬ ((0 : Int) ≤ v1 ∧ v1 < (J 9 1)) → q_13 xs L (d + 1) (-2) J K (fun r20 J18 K19 => P r20 J18 K19))) : q_110 xs L (d + 2) v1 v2 J K P := by
  unfold q_110
  refine jq_in (ls := [some (.ref 0), some (.int (Int32.ofInt v1)), some (.int (Int32.ofInt v2)), none]) rfl (Nat.le_of_ble_eq_true rfl) rfl ?_
  refine jw_aload_n rfl rfl ?_
  refine jw_gr (q := 9) rfl rfl rfl ?_
  refine jw_iload_n rfl rfl ?_
  refine jw_virt (k := 1) (c := 11) (as := [.int (Int32.ofInt v1)]) rfl rfl rfl (Nat.le_of_ble_eq_true rfl) rfl (Nat.le_of_ble_eq_true rfl) rfl rfl (jz_ci ?_)
  obtain ⟨o1, h⟩ := h
  obtain ⟨o2, h⟩ := h
  refine sb_27 rfl o1 o2 (fun c3 => ?_) (fun c3 => ?_)
  · replace h := h.1 c3
    refine jw_if_ne rfl (by omega) (fun _ => ?_) (fun hc => by exfalso; omega)
    refine jw_aload_n rfl rfl ?_
    refine jw_gr (q := 9) rfl rfl rfl ?_
    refine jw_gr (q := 10) rfl rfl rfl ?_
    refine jw_iload_n rfl rfl ?_
    obtain ⟨o4, h⟩ := h
    refine jw_aald (k := 3) (q := (11 + v1.toNat)) (N := 24) rfl rfl (by omega) rfl (by omega) o4 (jzr_10 o4) ?_
    refine jw_astore_n (ls' := [some (.ref 0), some (.int (Int32.ofInt v1)), some (.int (Int32.ofInt v2)), some (.ref (11 + v1.toNat))]) rfl rfl ?_
    refine jw_iload_n rfl rfl ?_
    obtain ⟨o5, h⟩ := h
    by_cases c7 : v2 = 0
    · replace h := h.1 c7
      refine jw_tab_in (pc2 := 76) (v := 0) (o := 47) rfl o5 c7 (by omega) rfl (by omega) ?_
      refine jw_aload_n rfl rfl ?_
      refine jw_gf (v := (J (11 + v1.toNat) 0)) rfl (by decide) (jze_10 o4) rfl ?_
      refine jw_iret rfl ?_
      exact h
    · replace h := h.2 c7
      by_cases c8 : v2 = 1
      · replace h := h.1 c8
        refine jw_tab_in (pc2 := 81) (v := 1) (o := 52) rfl o5 c8 (by omega) rfl (by omega) ?_
        refine jw_aload_n rfl rfl ?_
        refine jw_gf (v := (J (11 + v1.toNat) 1)) rfl (by decide) (jze_10 o4) rfl ?_
        refine jw_iret rfl ?_
        exact h
      · replace h := h.2 c8
        by_cases c9 : v2 = 2
        · replace h := h.1 c9
          refine jw_tab_in (pc2 := 86) (v := 2) (o := 57) rfl o5 c9 (by omega) rfl (by omega) ?_
          refine jw_aload_n rfl rfl ?_
          refine jw_gf (v := (J (11 + v1.toNat) 2)) rfl (by decide) (jze_10 o4) rfl ?_
          refine jw_iret rfl ?_
          exact h
        · replace h := h.2 c9
          by_cases c10 : v2 = 3
          · replace h := h.1 c10
            refine jw_tab_in (pc2 := 91) (v := 3) (o := 62) rfl o5 c10 (by omega) rfl (by omega) ?_
            refine jw_aload_n rfl rfl ?_
            refine jw_gf (v := (J (11 + v1.toNat) 3)) rfl (by decide) (jze_10 o4) rfl ?_
            refine jw_iret rfl ?_
            exact h
          · replace h := h.2 c10
            by_cases c11 : v2 = 4
            · replace h := h.1 c11
              refine jw_tab_in (pc2 := 96) (v := 4) (o := 67) rfl o5 c11 (by omega) rfl (by omega) ?_
              refine jw_aload_n rfl rfl ?_
              refine jw_gf (v := (J (11 + v1.toNat) 4)) rfl (by decide) (jze_10 o4) rfl ?_
              refine jw_iret rfl ?_
              exact h
            · replace h := h.2 c11
              by_cases c12 : v2 = 5
              · replace h := h.1 c12
                refine jw_tab_in (pc2 := 101) (v := 5) (o := 72) rfl o5 c12 (by omega) rfl (by omega) ?_
                refine jw_aload_n rfl rfl ?_
                refine jw_gf (v := (J (11 + v1.toNat) 7)) rfl (by decide) (jze_10 o4) rfl ?_
                refine jw_iret rfl ?_
                exact h
              · replace h := h.2 c12
                by_cases c13 : v2 = 6
                · replace h := h.1 c13
                  refine jw_tab_in (pc2 := 106) (v := 6) (o := 77) rfl o5 c13 (by omega) rfl (by omega) ?_
                  refine jw_aload_n rfl rfl ?_
                  refine jw_gf (v := (J (11 + v1.toNat) 8)) rfl (by decide) (jze_10 o4) rfl ?_
                  refine jw_iret rfl ?_
                  exact h
                · replace h := h.2 c13
                  by_cases c14 : v2 = 7
                  · replace h := h.1 c14
                    refine jw_tab_in (pc2 := 111) (v := 7) (o := 82) rfl o5 c14 (by omega) rfl (by omega) ?_
                    refine jw_aload_n rfl rfl ?_
                    refine jw_gf (v := (J (11 + v1.toNat) 9)) rfl (by decide) (jze_10 o4) rfl ?_
                    refine jw_iret rfl ?_
                    exact h
                  · replace h := h.2 c14
                    refine jw_tab_out (pc2 := 116) rfl o5 (by omega) (by omega) ?_
                    refine jw_aload_n rfl rfl ?_
                    refine jw_bipush rfl (by decide) ?_
                    refine jw_virt (k := 1) (c := 18) (as := [.int (Int32.ofInt (-2))]) rfl rfl rfl (Nat.le_of_ble_eq_true rfl) rfl (Nat.le_of_ble_eq_true rfl) rfl rfl (jz_ci ?_)
                    refine jm_Q.mono h (jp_i_mono (fun r17 J15 K16 h => ?_))
                    refine jw_iret rfl ?_
                    exact h
  · replace h := h.2 c3
    refine jw_if_ne rfl (by omega) (fun hc => by exfalso; omega) (fun _ => ?_)
    refine jw_aload_n rfl rfl ?_
    refine jw_bipush rfl (by decide) ?_
    refine jw_virt (k := 1) (c := 18) (as := [.int (Int32.ofInt (-2))]) rfl rfl rfl (Nat.le_of_ble_eq_true rfl) rfl (Nat.le_of_ble_eq_true rfl) rfl rfl (jz_ci ?_)
    refine jm_Q.mono h (jp_i_mono (fun r20 J18 K19 h => ?_))
    refine jw_iret rfl ?_
    exact h
set_option maxHeartbeats 4000000 in
theorem e_111 {xs : Nat → Int32} {L d : Nat} {v1 : Int} {v2 : Int} {J K : jZ} {P : Int → jZ → jZ → Prop} (h : (-2147483648 ≤ v1 ∧ v1 < 2147483648) ∧ (-2147483648 ≤ J 1 3 ∧ J 1 3 < 2147483648) ∧ (((0 : Int) ≤ v1 ∧ v1 < (J 1 3)) → (-2147483648 ≤ v2 ∧ v2 < 2147483648) ∧ (v2 = 0 → ((0 : Int) ≤ v1 ∧ v1 < 60) ∧ P (J 2 v1.toNat) J K) ∧ (¬ v2 = 0 → (v2 = 1 → ((0 : Int) ≤ v1 ∧ v1 < 60) ∧ P (J 3 v1.toNat) J K) ∧ (¬ v2 = 1 → (v2 = 2 → q_112 xs L (d + 1) 1 v1 1 J K (fun r13 J11 K12 => P r13 J11 K12)) ∧ (¬ v2 = 2 → (v2 = 3 → q_112 xs L (d + 1) 1 v1 2 J K (fun r17 J15 K16 => P r17 J15 K16)) ∧ (¬ v2 = 3 → (v2 = 4 → ((0 : Int) ≤ v1 ∧ v1 < 60) ∧ ((0 : Int) ≤ J 2 v1.toNat ∧ J 2 v1.toNat < 16) ∧ P (jz_or (jz_shl 1 (J 2 v1.toNat)) (J 4 (J 2 v1.toNat).toNat)) J K) ∧ (¬ v2 = 4 → q_13 xs L (d + 1) (-2) J K (fun r23 J21 K22 => P r23 J21 K22))))))) ∧ (¬ ((0 : Int) ≤ v1 ∧ v1 < (J 1 3)) → q_13 xs L (d + 1) (-2) J K (fun r26 J24 K25 => P r26 J24 K25))) : q_111 xs L (d + 2) v1 v2 J K P := by
  unfold q_111
  refine jq_in (ls := [some (.ref 0), some (.int (Int32.ofInt v1)), some (.int (Int32.ofInt v2))]) rfl (Nat.le_of_ble_eq_true rfl) rfl ?_
  refine jw_aload_n rfl rfl ?_
  refine jw_gr (q := 1) rfl rfl rfl ?_
  refine jw_iload_n rfl rfl ?_
  refine jw_virt (k := 1) (c := 17) (as := [.int (Int32.ofInt v1)]) rfl rfl rfl (Nat.le_of_ble_eq_true rfl) rfl (Nat.le_of_ble_eq_true rfl) rfl rfl (jz_ci ?_)
  obtain ⟨o1, h⟩ := h
  obtain ⟨o2, h⟩ := h
  refine sb_64 rfl o1 o2 (fun c3 => ?_) (fun c3 => ?_)
  · replace h := h.1 c3
    refine jw_if_ne rfl (by omega) (fun _ => ?_) (fun hc => by exfalso; omega)
    refine jw_iload_n rfl rfl ?_
    obtain ⟨o4, h⟩ := h
    by_cases c6 : v2 = 0
    · replace h := h.1 c6
      refine jw_tab_in (pc2 := 52) (v := 0) (o := 33) rfl o4 c6 (by omega) rfl (by omega) ?_
      refine jw_aload_n rfl rfl ?_
      refine jw_gr (q := 1) rfl rfl rfl ?_
      refine jw_gr (q := 2) rfl rfl rfl ?_
      refine jw_iload_n rfl rfl ?_
      obtain ⟨o7, h⟩ := h
      refine jw_iald (v := (J 2 v1.toNat)) (N := 60) rfl rfl rfl (by omega) o7 rfl ?_
      refine jw_iret rfl ?_
      exact h
    · replace h := h.2 c6
      by_cases c8 : v2 = 1
      · replace h := h.1 c8
        refine jw_tab_in (pc2 := 62) (v := 1) (o := 43) rfl o4 c8 (by omega) rfl (by omega) ?_
        refine jw_aload_n rfl rfl ?_
        refine jw_gr (q := 1) rfl rfl rfl ?_
        refine jw_gr (q := 3) rfl rfl rfl ?_
        refine jw_iload_n rfl rfl ?_
        obtain ⟨o9, h⟩ := h
        refine jw_iald (v := (J 3 v1.toNat)) (N := 60) rfl rfl rfl (by omega) o9 rfl ?_
        refine jw_iret rfl ?_
        exact h
      · replace h := h.2 c8
        by_cases c10 : v2 = 2
        · replace h := h.1 c10
          refine jw_tab_in (pc2 := 72) (v := 2) (o := 53) rfl o4 c10 (by omega) rfl (by omega) ?_
          refine jw_aload_n rfl rfl ?_
          refine jw_gr (q := 1) rfl rfl rfl ?_
          refine jw_iload_n rfl rfl ?_
          refine jw_iconst rfl ?_
          refine jw_virt (k := 2) (c := 17) (as := [.int (Int32.ofInt v1), .int (Int32.ofInt 1)]) rfl rfl rfl (Nat.le_of_ble_eq_true rfl) rfl (Nat.le_of_ble_eq_true rfl) rfl rfl (jz_ci ?_)
          refine jm_Q.mono h (jp_i_mono (fun r13 J11 K12 h => ?_))
          refine jw_iret rfl ?_
          exact h
        · replace h := h.2 c10
          by_cases c14 : v2 = 3
          · replace h := h.1 c14
            refine jw_tab_in (pc2 := 82) (v := 3) (o := 63) rfl o4 c14 (by omega) rfl (by omega) ?_
            refine jw_aload_n rfl rfl ?_
            refine jw_gr (q := 1) rfl rfl rfl ?_
            refine jw_iload_n rfl rfl ?_
            refine jw_iconst rfl ?_
            refine jw_virt (k := 2) (c := 17) (as := [.int (Int32.ofInt v1), .int (Int32.ofInt 2)]) rfl rfl rfl (Nat.le_of_ble_eq_true rfl) rfl (Nat.le_of_ble_eq_true rfl) rfl rfl (jz_ci ?_)
            refine jm_Q.mono h (jp_i_mono (fun r17 J15 K16 h => ?_))
            refine jw_iret rfl ?_
            exact h
          · replace h := h.2 c14
            by_cases c18 : v2 = 4
            · replace h := h.1 c18
              refine jw_tab_in (pc2 := 92) (v := 4) (o := 73) rfl o4 c18 (by omega) rfl (by omega) ?_
              refine jw_aload_n rfl rfl ?_
              refine jw_gr (q := 1) rfl rfl rfl ?_
              refine jw_iload_n rfl rfl ?_
              refine jw_virt (k := 1) (c := 17) (as := [.int (Int32.ofInt v1)]) rfl rfl rfl (Nat.le_of_ble_eq_true rfl) rfl (Nat.le_of_ble_eq_true rfl) rfl rfl (jz_ci ?_)
              refine jq_in (ls := [some (.ref 1), some (.int (Int32.ofInt v1)), none]) rfl (Nat.le_of_ble_eq_true rfl) rfl ?_
              refine jw_aload_n rfl rfl ?_
              refine jw_gr (q := 2) rfl rfl rfl ?_
              refine jw_iload_n rfl rfl ?_
              obtain ⟨o19, h⟩ := h
              refine jw_iald (v := (J 2 v1.toNat)) (N := 60) rfl rfl rfl (by omega) o19 rfl ?_
              refine jw_istore_n (ls' := [some (.ref 1), some (.int (Int32.ofInt v1)), some (.int (Int32.ofInt (J 2 v1.toNat)))]) rfl rfl ?_
              refine jw_iconst rfl ?_
              refine jw_iload_n rfl rfl ?_
              refine jw_ishl rfl ?_
              refine jw_aload_n rfl rfl ?_
              refine jw_gr (q := 4) rfl rfl rfl ?_
              refine jw_iload_n rfl rfl ?_
              obtain ⟨o20, h⟩ := h
              refine jw_iald (v := (J 4 (J 2 v1.toNat).toNat)) (N := 16) rfl rfl rfl (by omega) o20 rfl ?_
              refine jw_ior rfl ?_
              refine jw_iret rfl ?_
              refine jw_iret rfl ?_
              exact h
            · replace h := h.2 c18
              refine jw_tab_out (pc2 := 101) rfl o4 (by omega) (by omega) ?_
              refine jw_aload_n rfl rfl ?_
              refine jw_bipush rfl (by decide) ?_
              refine jw_virt (k := 1) (c := 18) (as := [.int (Int32.ofInt (-2))]) rfl rfl rfl (Nat.le_of_ble_eq_true rfl) rfl (Nat.le_of_ble_eq_true rfl) rfl rfl (jz_ci ?_)
              refine jm_Q.mono h (jp_i_mono (fun r23 J21 K22 h => ?_))
              refine jw_iret rfl ?_
              exact h
  · replace h := h.2 c3
    refine jw_if_ne rfl (by omega) (fun hc => by exfalso; omega) (fun _ => ?_)
    refine jw_aload_n rfl rfl ?_
    refine jw_bipush rfl (by decide) ?_
    refine jw_virt (k := 1) (c := 18) (as := [.int (Int32.ofInt (-2))]) rfl rfl rfl (Nat.le_of_ble_eq_true rfl) rfl (Nat.le_of_ble_eq_true rfl) rfl rfl (jz_ci ?_)
    refine jm_Q.mono h (jp_i_mono (fun r26 J24 K25 h => ?_))
    refine jw_iret rfl ?_
    exact h
set_option maxHeartbeats 4000000 in
theorem e_112 {xs : Nat → Int32} {L d : Nat} {v0 : Nat} {v1 : Int} {v2 : Int} {J K : jZ} {P : Int → jZ → jZ → Prop} (hk0 : jz_kd v0 = 18) (h : l_112_5 xs L d v0 v1 v2 0 0 J K P) : q_112 xs L (d + 1) v0 v1 v2 J K P := by
  unfold q_112
  refine jq_in (ls := [some (.ref v0), some (.int (Int32.ofInt v1)), some (.int (Int32.ofInt v2)), none, none]) rfl (Nat.le_of_ble_eq_true rfl) rfl ?_
  refine jw_iconst rfl ?_
  refine jw_istore_n (ls' := [some (.ref v0), some (.int (Int32.ofInt v1)), some (.int (Int32.ofInt v2)), some (.int (Int32.ofInt 0)), none]) rfl rfl ?_
  refine jw_iconst rfl ?_
  refine jw_istore (ls' := [some (.ref v0), some (.int (Int32.ofInt v1)), some (.int (Int32.ofInt v2)), some (.int (Int32.ofInt 0)), some (.int (Int32.ofInt 0))]) rfl rfl ?_
  exact jz_fg (l := [some (.ref v0), some (.int (Int32.ofInt v1)), some (.int (Int32.ofInt v2)), some (.int (Int32.ofInt 0)), some (.int (Int32.ofInt 0))]) ⟨rfl, rfl, rfl, rfl, rfl, trivial⟩ h
set_option maxHeartbeats 4000000 in
theorem e_112_5 {xs : Nat → Int32} {L d : Nat} {v0 : Nat} {v1 : Int} {v2 : Int} {v3 : Int} {v4 : Int} {J K : jZ} {P : Int → jZ → jZ → Prop} (hk0 : jz_kd v0 = 18) (h : (-2147483648 ≤ v4 ∧ v4 < 2147483648) ∧ (-2147483648 ≤ v1 ∧ v1 < 2147483648) ∧ (v1 ≤ v4 → P v3 J K) ∧ (v4 < v1 → ((0 : Int) ≤ v4 ∧ v4 < 60) ∧ (-2147483648 ≤ J (v0 + 2) v4.toNat ∧ J (v0 + 2) v4.toNat < 2147483648) ∧ (-2147483648 ≤ v2 ∧ v2 < 2147483648) ∧ ((J (v0 + 2) v4.toNat) < v2 → l_112_5 xs L d v0 v1 v2 (v3 + 0) (v4 + 1) J K P) ∧ (v2 ≤ (J (v0 + 2) v4.toNat) → l_112_5 xs L d v0 v1 v2 (v3 + 1) (v4 + 1) J K P))) : l_112_5 xs L d v0 v1 v2 v3 v4 J K P := by
  unfold l_112_5
  refine jw_iload rfl rfl ?_
  refine jw_iload_n rfl rfl ?_
  obtain ⟨o1, h⟩ := h
  obtain ⟨o2, h⟩ := h
  refine jw_ic_ge rfl o1 o2 (fun c3 => ?_) (fun c3 => ?_)
  · replace h := h.1 c3
    refine jw_iload_n rfl rfl ?_
    refine jw_iret rfl ?_
    exact h
  · replace h := h.2 c3
    refine jw_iload_n rfl rfl ?_
    refine jw_aload_n rfl rfl ?_
    refine jw_gr (q := (v0 + 2)) rfl hk0 (jzr_18_2 hk0) ?_
    refine jw_iload rfl rfl ?_
    obtain ⟨o4, h⟩ := h
    refine jw_iald (v := (J (v0 + 2) v4.toNat)) (N := 60) rfl (jzk_18_2 hk0) (jzn_18_2 hk0) (by omega) o4 rfl ?_
    refine jw_iload_n rfl rfl ?_
    obtain ⟨o5, h⟩ := h
    obtain ⟨o6, h⟩ := h
    refine jw_ic_lt rfl o5 o6 (fun c7 => ?_) (fun c7 => ?_)
    · replace h := h.1 c7
      refine jw_iconst rfl ?_
      refine jw_iadd rfl ?_
      refine jw_istore_n (ls' := [some (.ref v0), some (.int (Int32.ofInt v1)), some (.int (Int32.ofInt v2)), some (.int (Int32.ofInt (v3 + 0))), some (.int (Int32.ofInt v4))]) rfl rfl ?_
      refine jw_iinc (ls' := [some (.ref v0), some (.int (Int32.ofInt v1)), some (.int (Int32.ofInt v2)), some (.int (Int32.ofInt (v3 + 0))), some (.int (Int32.ofInt (v4 + 1)))]) rfl rfl rfl ?_
      refine jw_goto rfl ?_
      exact jz_fg (l := [some (.ref v0), some (.int (Int32.ofInt v1)), some (.int (Int32.ofInt v2)), some (.int (Int32.ofInt (v3 + 0))), some (.int (Int32.ofInt (v4 + 1)))]) ⟨rfl, rfl, rfl, rfl, rfl, trivial⟩ h
    · replace h := h.2 c7
      refine jw_iconst rfl ?_
      refine jw_goto rfl ?_
      refine jw_iadd rfl ?_
      refine jw_istore_n (ls' := [some (.ref v0), some (.int (Int32.ofInt v1)), some (.int (Int32.ofInt v2)), some (.int (Int32.ofInt (v3 + 1))), some (.int (Int32.ofInt v4))]) rfl rfl ?_
      refine jw_iinc (ls' := [some (.ref v0), some (.int (Int32.ofInt v1)), some (.int (Int32.ofInt v2)), some (.int (Int32.ofInt (v3 + 1))), some (.int (Int32.ofInt (v4 + 1)))]) rfl rfl rfl ?_
      refine jw_goto rfl ?_
      exact jz_fg (l := [some (.ref v0), some (.int (Int32.ofInt v1)), some (.int (Int32.ofInt v2)), some (.int (Int32.ofInt (v3 + 1))), some (.int (Int32.ofInt (v4 + 1)))]) ⟨rfl, rfl, rfl, rfl, rfl, trivial⟩ h
set_option maxHeartbeats 4000000 in
theorem e_113 {xs : Nat → Int32} {L d : Nat} {v1 : Int} {J K : jZ} {P : Int → jZ → jZ → Prop} (h : (-2147483648 ≤ v1 ∧ v1 < 2147483648) ∧ (-2147483648 ≤ J 9 1 ∧ J 9 1 < 2147483648) ∧ (((0 : Int) ≤ v1 ∧ v1 < (J 9 1)) → q_32 xs L (d + 1) v1 J K (fun r6 J4 K5 => (jz_kd r6 = 16) ∧ P (J4 r6 2) J4 K5)) ∧ (¬ ((0 : Int) ≤ v1 ∧ v1 < (J 9 1)) → q_13 xs L (d + 1) (-2) J K (fun r10 J8 K9 => P r10 J8 K9))) : q_113 xs L (d + 2) v1 J K P := by
  unfold q_113
  refine jq_in (ls := [some (.ref 0), some (.int (Int32.ofInt v1))]) rfl (Nat.le_of_ble_eq_true rfl) rfl ?_
  refine jw_aload_n rfl rfl ?_
  refine jw_gr (q := 9) rfl rfl rfl ?_
  refine jw_iload_n rfl rfl ?_
  refine jw_virt (k := 1) (c := 11) (as := [.int (Int32.ofInt v1)]) rfl rfl rfl (Nat.le_of_ble_eq_true rfl) rfl (Nat.le_of_ble_eq_true rfl) rfl rfl (jz_ci ?_)
  obtain ⟨o1, h⟩ := h
  obtain ⟨o2, h⟩ := h
  refine sb_27 rfl o1 o2 (fun c3 => ?_) (fun c3 => ?_)
  · replace h := h.1 c3
    refine jw_if_eq rfl (by omega) (fun hc => by exfalso; omega) (fun _ => ?_)
    refine jw_aload_n rfl rfl ?_
    refine jw_gr (q := 61) rfl rfl rfl ?_
    refine jw_iload_n rfl rfl ?_
    refine jw_virt (k := 1) (c := 13) (as := [.int (Int32.ofInt v1)]) rfl rfl rfl (Nat.le_of_ble_eq_true rfl) rfl (Nat.le_of_ble_eq_true rfl) rfl rfl (jz_cr ?_)
    refine jm_Q.mono h (jp_r_mono (fun r6 J4 K5 h => ?_))
    obtain ⟨o7, h⟩ := h
    refine jw_gf (v := (J4 r6 2)) rfl (by decide) o7 rfl ?_
    refine jw_goto rfl ?_
    refine jw_iret rfl ?_
    exact h
  · replace h := h.2 c3
    refine jw_if_eq rfl (by omega) (fun _ => ?_) (fun hc => by exfalso; omega)
    refine jw_aload_n rfl rfl ?_
    refine jw_bipush rfl (by decide) ?_
    refine jw_virt (k := 1) (c := 18) (as := [.int (Int32.ofInt (-2))]) rfl rfl rfl (Nat.le_of_ble_eq_true rfl) rfl (Nat.le_of_ble_eq_true rfl) rfl rfl (jz_ci ?_)
    refine jm_Q.mono h (jp_i_mono (fun r10 J8 K9 h => ?_))
    refine jw_iret rfl ?_
    exact h
set_option maxHeartbeats 4000000 in
theorem e_114 {xs : Nat → Int32} {L d : Nat} {v1 : Int} {v2 : Int} {J K : jZ} {P : Int → jZ → jZ → Prop} (h : (-2147483648 ≤ v1 ∧ v1 < 2147483648) ∧ (-2147483648 ≤ J 9 1 ∧ J 9 1 < 2147483648) ∧ (((0 : Int) ≤ v1 ∧ v1 < (J 9 1)) → q_32 xs L (d + 1) v1 J K (fun r6 J4 K5 => (jz_kd r6 = 16) ∧ (-2147483648 ≤ v2 ∧ v2 < 2147483648) ∧ (-2147483648 ≤ J4 r6 2 ∧ J4 r6 2 < 2147483648) ∧ (((0 : Int) ≤ v2 ∧ v2 < (J4 r6 2)) → q_32 xs L (d + 1) v1 J4 K5 (fun r13 J11 K12 => (jz_kd r13 = 16) ∧ ((0 : Int) ≤ v2 ∧ v2 < 60) ∧ P ((100 * (J11 (r13 + 1) v2.toNat)) + (J11 (r13 + 2) v2.toNat)) J11 K12)) ∧ (¬ ((0 : Int) ≤ v2 ∧ v2 < (J4 r6 2)) → q_13 xs L (d + 1) (-2) J4 K5 (fun r18 J16 K17 => P r18 J16 K17)))) ∧ (¬ ((0 : Int) ≤ v1 ∧ v1 < (J 9 1)) → q_13 xs L (d + 1) (-2) J K (fun r21 J19 K20 => P r21 J19 K20))) : q_114 xs L (d + 2) v1 v2 J K P := by
  unfold q_114
  refine jq_in (ls := [some (.ref 0), some (.int (Int32.ofInt v1)), some (.int (Int32.ofInt v2))]) rfl (Nat.le_of_ble_eq_true rfl) rfl ?_
  refine jw_aload_n rfl rfl ?_
  refine jw_gr (q := 9) rfl rfl rfl ?_
  refine jw_iload_n rfl rfl ?_
  refine jw_virt (k := 1) (c := 11) (as := [.int (Int32.ofInt v1)]) rfl rfl rfl (Nat.le_of_ble_eq_true rfl) rfl (Nat.le_of_ble_eq_true rfl) rfl rfl (jz_ci ?_)
  obtain ⟨o1, h⟩ := h
  obtain ⟨o2, h⟩ := h
  refine sb_27 rfl o1 o2 (fun c3 => ?_) (fun c3 => ?_)
  · replace h := h.1 c3
    refine jw_if_eq rfl (by omega) (fun hc => by exfalso; omega) (fun _ => ?_)
    refine jw_aload_n rfl rfl ?_
    refine jw_gr (q := 61) rfl rfl rfl ?_
    refine jw_iload_n rfl rfl ?_
    refine jw_virt (k := 1) (c := 13) (as := [.int (Int32.ofInt v1)]) rfl rfl rfl (Nat.le_of_ble_eq_true rfl) rfl (Nat.le_of_ble_eq_true rfl) rfl rfl (jz_cr ?_)
    refine jm_Q.mono h (jp_r_mono (fun r6 J4 K5 h => ?_))
    obtain ⟨o7, h⟩ := h
    refine jw_iload_n rfl rfl ?_
    refine jw_virt (k := 1) (c := 15) (as := [.int (Int32.ofInt v2)]) rfl rfl rfl (Nat.le_of_ble_eq_true rfl) rfl (Nat.le_of_ble_eq_true rfl) o7 rfl (jz_ci ?_)
    obtain ⟨o8, h⟩ := h
    obtain ⟨o9, h⟩ := h
    refine sb_47 o7 o8 o9 (fun c10 => ?_) (fun c10 => ?_)
    · replace h := h.1 c10
      refine jw_if_ne rfl (by omega) (fun _ => ?_) (fun hc => by exfalso; omega)
      refine jw_aload_n rfl rfl ?_
      refine jw_gr (q := 61) rfl rfl rfl ?_
      refine jw_iload_n rfl rfl ?_
      refine jw_virt (k := 1) (c := 13) (as := [.int (Int32.ofInt v1)]) rfl rfl rfl (Nat.le_of_ble_eq_true rfl) rfl (Nat.le_of_ble_eq_true rfl) rfl rfl (jz_cr ?_)
      refine jm_Q.mono h (jp_r_mono (fun r13 J11 K12 h => ?_))
      obtain ⟨o14, h⟩ := h
      refine jw_iload_n rfl rfl ?_
      refine jw_virt (k := 1) (c := 15) (as := [.int (Int32.ofInt v2)]) rfl rfl rfl (Nat.le_of_ble_eq_true rfl) rfl (Nat.le_of_ble_eq_true rfl) o14 rfl (jz_ci ?_)
      refine jq_in (ls := [some (.ref r13), some (.int (Int32.ofInt v2))]) rfl (Nat.le_of_ble_eq_true rfl) rfl ?_
      refine jw_bipush rfl (by decide) ?_
      refine jw_aload_n rfl rfl ?_
      refine jw_gr (q := (r13 + 1)) rfl o14 (jzr_16_1 o14) ?_
      refine jw_iload_n rfl rfl ?_
      obtain ⟨o15, h⟩ := h
      refine jw_iald (v := (J11 (r13 + 1) v2.toNat)) (N := 60) rfl (jzk_16_1 o14) (jzn_16_1 o14) (by omega) o15 rfl ?_
      refine jw_imul rfl ?_
      refine jw_aload_n rfl rfl ?_
      refine jw_gr (q := (r13 + 2)) rfl o14 (jzr_16_2 o14) ?_
      refine jw_iload_n rfl rfl ?_
      refine jw_iald (v := (J11 (r13 + 2) v2.toNat)) (N := 60) rfl (jzk_16_2 o14) (jzn_16_2 o14) (by omega) o15 rfl ?_
      refine jw_iadd rfl ?_
      refine jw_iret rfl ?_
      refine jw_iret rfl ?_
      exact h
    · replace h := h.2 c10
      refine jw_if_ne rfl (by omega) (fun hc => by exfalso; omega) (fun _ => ?_)
      refine jw_aload_n rfl rfl ?_
      refine jw_bipush rfl (by decide) ?_
      refine jw_virt (k := 1) (c := 18) (as := [.int (Int32.ofInt (-2))]) rfl rfl rfl (Nat.le_of_ble_eq_true rfl) rfl (Nat.le_of_ble_eq_true rfl) rfl rfl (jz_ci ?_)
      refine jm_Q.mono h (jp_i_mono (fun r18 J16 K17 h => ?_))
      refine jw_iret rfl ?_
      exact h
  · replace h := h.2 c3
    refine jw_if_eq rfl (by omega) (fun _ => ?_) (fun hc => by exfalso; omega)
    refine jw_aload_n rfl rfl ?_
    refine jw_bipush rfl (by decide) ?_
    refine jw_virt (k := 1) (c := 18) (as := [.int (Int32.ofInt (-2))]) rfl rfl rfl (Nat.le_of_ble_eq_true rfl) rfl (Nat.le_of_ble_eq_true rfl) rfl rfl (jz_ci ?_)
    refine jm_Q.mono h (jp_i_mono (fun r21 J19 K20 h => ?_))
    refine jw_iret rfl ?_
    exact h
set_option maxHeartbeats 4000000 in
theorem e_115 {xs : Nat → Int32} {L d : Nat} {v0 : Nat} {v1 : Int} {J K : jZ} {P : Int → jZ → jZ → Prop} (hk0 : jz_kd v0 = 16) (h : ((0 : Int) ≤ v1 ∧ v1 < 60) ∧ P ((100 * (J (v0 + 1) v1.toNat)) + (J (v0 + 2) v1.toNat)) J K) : q_115 xs L (d + 1) v0 v1 J K P := by
  unfold q_115
  refine jq_in (ls := [some (.ref v0), some (.int (Int32.ofInt v1))]) rfl (Nat.le_of_ble_eq_true rfl) rfl ?_
  refine jw_bipush rfl (by decide) ?_
  refine jw_aload_n rfl rfl ?_
  refine jw_gr (q := (v0 + 1)) rfl hk0 (jzr_16_1 hk0) ?_
  refine jw_iload_n rfl rfl ?_
  obtain ⟨o1, h⟩ := h
  refine jw_iald (v := (J (v0 + 1) v1.toNat)) (N := 60) rfl (jzk_16_1 hk0) (jzn_16_1 hk0) (by omega) o1 rfl ?_
  refine jw_imul rfl ?_
  refine jw_aload_n rfl rfl ?_
  refine jw_gr (q := (v0 + 2)) rfl hk0 (jzr_16_2 hk0) ?_
  refine jw_iload_n rfl rfl ?_
  refine jw_iald (v := (J (v0 + 2) v1.toNat)) (N := 60) rfl (jzk_16_2 hk0) (jzn_16_2 hk0) (by omega) o1 rfl ?_
  refine jw_iadd rfl ?_
  refine jw_iret rfl ?_
  exact h
set_option maxHeartbeats 4000000 in
theorem e_116 {xs : Nat → Int32} {L d : Nat} {v1 : Int} {v2 : Int} {v3 : Int} {J K : jZ} {P : Int → jZ → jZ → Prop} (h : (-2147483648 ≤ v1 ∧ v1 < 2147483648) ∧ (-2147483648 ≤ J 9 1 ∧ J 9 1 < 2147483648) ∧ (((0 : Int) ≤ v1 ∧ v1 < (J 9 1)) → (-2147483648 ≤ v3 ∧ v3 < 2147483648) ∧ (v3 < 0 → q_13 xs L (d + 1) (-2) J K (fun r8 J6 K7 => P r8 J6 K7)) ∧ (0 ≤ v3 → (v3 ≤ 3 → q_32 xs L (d + 1) v1 J K (fun r12 J10 K11 => (jz_kd r12 = 16) ∧ (-2147483648 ≤ v2 ∧ v2 < 2147483648) ∧ (-2147483648 ≤ (min v2 60) ∧ (min v2 60) < 2147483648) ∧ (v3 = 0 → (-2147483648 ≤ (max (-1) (min v2 60)) ∧ (max (-1) (min v2 60)) < 2147483648) ∧ q_45 xs L (d + 1) r12 0 (max (-1) (min v2 60)) J10 K11 (fun r21 J19 K20 => q_117 xs L (d + 1) r12 r21 J19 K20 (fun r24 J22 K23 => P r24 J22 K23))) ∧ (¬ v3 = 0 → (v3 = 1 → q_118 xs L (d + 1) r12 (max (-1) (min v2 60)) J10 K11 (fun r28 J26 K27 => q_117 xs L (d + 1) r12 r28 J26 K27 (fun r31 J29 K30 => P r31 J29 K30))) ∧ (¬ v3 = 1 → (v3 = 2 → q_118 xs L (d + 1) r12 ((max (-1) (min v2 60)) + 1) J10 K11 (fun r35 J33 K34 => P (r35 - 1) J33 K34)) ∧ (¬ v3 = 2 → (-2147483648 ≤ ((max (-1) (min v2 60)) + 1) ∧ ((max (-1) (min v2 60)) + 1) < 2147483648) ∧ q_45 xs L (d + 1) r12 0 ((max (-1) (min v2 60)) + 1) J10 K11 (fun r39 J37 K38 => P (r39 - 1) J37 K38)))))) ∧ (3 < v3 → q_13 xs L (d + 1) (-2) J K (fun r42 J40 K41 => P r42 J40 K41)))) ∧ (¬ ((0 : Int) ≤ v1 ∧ v1 < (J 9 1)) → q_13 xs L (d + 1) (-2) J K (fun r45 J43 K44 => P r45 J43 K44))) : q_116 xs L (d + 2) v1 v2 v3 J K P := by
  unfold q_116
  refine jq_in (ls := [some (.ref 0), some (.int (Int32.ofInt v1)), some (.int (Int32.ofInt v2)), some (.int (Int32.ofInt v3)), none, none]) rfl (Nat.le_of_ble_eq_true rfl) rfl ?_
  refine jw_aload_n rfl rfl ?_
  refine jw_gr (q := 9) rfl rfl rfl ?_
  refine jw_iload_n rfl rfl ?_
  refine jw_virt (k := 1) (c := 11) (as := [.int (Int32.ofInt v1)]) rfl rfl rfl (Nat.le_of_ble_eq_true rfl) rfl (Nat.le_of_ble_eq_true rfl) rfl rfl (jz_ci ?_)
  obtain ⟨o1, h⟩ := h
  obtain ⟨o2, h⟩ := h
  refine sb_27 rfl o1 o2 (fun c3 => ?_) (fun c3 => ?_)
  · replace h := h.1 c3
    refine jw_if_eq rfl (by omega) (fun hc => by exfalso; omega) (fun _ => ?_)
    refine jw_iload_n rfl rfl ?_
    obtain ⟨o4, h⟩ := h
    refine jw_if_lt rfl o4 (fun c5 => ?_) (fun c5 => ?_)
    · replace h := h.1 c5
      refine jw_aload_n rfl rfl ?_
      refine jw_bipush rfl (by decide) ?_
      refine jw_virt (k := 1) (c := 18) (as := [.int (Int32.ofInt (-2))]) rfl rfl rfl (Nat.le_of_ble_eq_true rfl) rfl (Nat.le_of_ble_eq_true rfl) rfl rfl (jz_ci ?_)
      refine jm_Q.mono h (jp_i_mono (fun r8 J6 K7 h => ?_))
      refine jw_iret rfl ?_
      exact h
    · replace h := h.2 c5
      refine jw_iload_n rfl rfl ?_
      refine jw_iconst rfl ?_
      refine jw_ic_le rfl o4 (by omega) (fun c9 => ?_) (fun c9 => ?_)
      · replace h := h.1 c9
        refine jw_aload_n rfl rfl ?_
        refine jw_gr (q := 61) rfl rfl rfl ?_
        refine jw_iload_n rfl rfl ?_
        refine jw_virt (k := 1) (c := 13) (as := [.int (Int32.ofInt v1)]) rfl rfl rfl (Nat.le_of_ble_eq_true rfl) rfl (Nat.le_of_ble_eq_true rfl) rfl rfl (jz_cr ?_)
        refine jm_Q.mono h (jp_r_mono (fun r12 J10 K11 h => ?_))
        obtain ⟨o13, h⟩ := h
        refine jw_astore (ls' := [some (.ref 0), some (.int (Int32.ofInt v1)), some (.int (Int32.ofInt v2)), some (.int (Int32.ofInt v3)), some (.ref r12), none]) rfl rfl ?_
        refine jw_iconst rfl ?_
        refine jw_iload_n rfl rfl ?_
        refine jw_bipush rfl (by decide) ?_
        obtain ⟨o14, h⟩ := h
        refine jw_min rfl o14 (by omega) (Nat.le_of_ble_eq_true rfl) ?_
        obtain ⟨o15, h⟩ := h
        refine jw_max rfl (by omega) o15 (Nat.le_of_ble_eq_true rfl) ?_
        refine jw_istore (ls' := [some (.ref 0), some (.int (Int32.ofInt v1)), some (.int (Int32.ofInt v2)), some (.int (Int32.ofInt v3)), some (.ref r12), some (.int (Int32.ofInt (max (-1) (min v2 60))))]) rfl rfl ?_
        refine jw_iload_n rfl rfl ?_
        by_cases c17 : v3 = 0
        · replace h := h.1 c17
          refine jw_tab_in (pc2 := 76) (v := 0) (o := 26) rfl o4 c17 (by omega) rfl (by omega) ?_
          refine jw_aload rfl rfl ?_
          refine jw_aload rfl rfl ?_
          refine jw_iconst rfl ?_
          refine jw_iload rfl rfl ?_
          obtain ⟨o18, h⟩ := h
          refine jw_i2l rfl o18 ?_
          refine jw_virt (k := 2) (c := 15) (as := [.int (Int32.ofInt 0), .long (Int64.ofInt (max (-1) (min v2 60)))]) rfl rfl rfl (Nat.le_of_ble_eq_true rfl) rfl (Nat.le_of_ble_eq_true rfl) o13 rfl (jz_ci ?_)
          refine jm_Q.mono h (jp_i_mono (fun r21 J19 K20 h => ?_))
          refine jw_virt (k := 1) (c := 15) (as := [.int (Int32.ofInt r21)]) rfl rfl rfl (Nat.le_of_ble_eq_true rfl) rfl (Nat.le_of_ble_eq_true rfl) o13 rfl (jz_ci ?_)
          refine jm_Q.mono h (jp_i_mono (fun r24 J22 K23 h => ?_))
          refine jw_iret rfl ?_
          exact h
        · replace h := h.2 c17
          by_cases c25 : v3 = 1
          · replace h := h.1 c25
            refine jw_tab_in (pc2 := 91) (v := 1) (o := 41) rfl o4 c25 (by omega) rfl (by omega) ?_
            refine jw_aload rfl rfl ?_
            refine jw_aload rfl rfl ?_
            refine jw_iload rfl rfl ?_
            refine jw_virt (k := 1) (c := 15) (as := [.int (Int32.ofInt (max (-1) (min v2 60)))]) rfl rfl rfl (Nat.le_of_ble_eq_true rfl) rfl (Nat.le_of_ble_eq_true rfl) o13 rfl (jz_ci ?_)
            refine jm_Q.mono h (jp_i_mono (fun r28 J26 K27 h => ?_))
            refine jw_virt (k := 1) (c := 15) (as := [.int (Int32.ofInt r28)]) rfl rfl rfl (Nat.le_of_ble_eq_true rfl) rfl (Nat.le_of_ble_eq_true rfl) o13 rfl (jz_ci ?_)
            refine jm_Q.mono h (jp_i_mono (fun r31 J29 K30 h => ?_))
            refine jw_iret rfl ?_
            exact h
          · replace h := h.2 c25
            by_cases c32 : v3 = 2
            · replace h := h.1 c32
              refine jw_tab_in (pc2 := 104) (v := 2) (o := 54) rfl o4 c32 (by omega) rfl (by omega) ?_
              refine jw_aload rfl rfl ?_
              refine jw_iload rfl rfl ?_
              refine jw_iconst rfl ?_
              refine jw_iadd rfl ?_
              refine jw_virt (k := 1) (c := 15) (as := [.int (Int32.ofInt ((max (-1) (min v2 60)) + 1))]) rfl rfl rfl (Nat.le_of_ble_eq_true rfl) rfl (Nat.le_of_ble_eq_true rfl) o13 rfl (jz_ci ?_)
              refine jm_Q.mono h (jp_i_mono (fun r35 J33 K34 h => ?_))
              refine jw_iconst rfl ?_
              refine jw_isub rfl ?_
              refine jw_iret rfl ?_
              exact h
            · replace h := h.2 c32
              refine jw_tab_out (pc2 := 116) rfl o4 (by omega) (by omega) ?_
              refine jw_aload rfl rfl ?_
              refine jw_iconst rfl ?_
              refine jw_iload rfl rfl ?_
              refine jw_iconst rfl ?_
              refine jw_iadd rfl ?_
              obtain ⟨o36, h⟩ := h
              refine jw_i2l rfl o36 ?_
              refine jw_virt (k := 2) (c := 15) (as := [.int (Int32.ofInt 0), .long (Int64.ofInt ((max (-1) (min v2 60)) + 1))]) rfl rfl rfl (Nat.le_of_ble_eq_true rfl) rfl (Nat.le_of_ble_eq_true rfl) o13 rfl (jz_ci ?_)
              refine jm_Q.mono h (jp_i_mono (fun r39 J37 K38 h => ?_))
              refine jw_iconst rfl ?_
              refine jw_isub rfl ?_
              refine jw_iret rfl ?_
              exact h
      · replace h := h.2 c9
        refine jw_aload_n rfl rfl ?_
        refine jw_bipush rfl (by decide) ?_
        refine jw_virt (k := 1) (c := 18) (as := [.int (Int32.ofInt (-2))]) rfl rfl rfl (Nat.le_of_ble_eq_true rfl) rfl (Nat.le_of_ble_eq_true rfl) rfl rfl (jz_ci ?_)
        refine jm_Q.mono h (jp_i_mono (fun r42 J40 K41 h => ?_))
        refine jw_iret rfl ?_
        exact h
  · replace h := h.2 c3
    refine jw_if_eq rfl (by omega) (fun _ => ?_) (fun hc => by exfalso; omega)
    refine jw_aload_n rfl rfl ?_
    refine jw_bipush rfl (by decide) ?_
    refine jw_virt (k := 1) (c := 18) (as := [.int (Int32.ofInt (-2))]) rfl rfl rfl (Nat.le_of_ble_eq_true rfl) rfl (Nat.le_of_ble_eq_true rfl) rfl rfl (jz_ci ?_)
    refine jm_Q.mono h (jp_i_mono (fun r45 J43 K44 h => ?_))
    refine jw_iret rfl ?_
    exact h
set_option maxHeartbeats 4000000 in
theorem e_117 {xs : Nat → Int32} {L d : Nat} {v0 : Nat} {v1 : Int} {J K : jZ} {P : Int → jZ → jZ → Prop} (hk0 : jz_kd v0 = 16) (h : (-2147483648 ≤ v1 ∧ v1 < 2147483648) ∧ (-2147483648 ≤ J v0 2 ∧ J v0 2 < 2147483648) ∧ (((0 : Int) ≤ v1 ∧ v1 < (J v0 2)) → P v1 J K) ∧ (¬ ((0 : Int) ≤ v1 ∧ v1 < (J v0 2)) → P (-1) J K)) : q_117 xs L (d + 2) v0 v1 J K P := by
  unfold q_117
  refine jq_in (ls := [some (.ref v0), some (.int (Int32.ofInt v1))]) rfl (Nat.le_of_ble_eq_true rfl) rfl ?_
  refine jw_aload_n rfl rfl ?_
  refine jw_iload_n rfl rfl ?_
  refine jw_virt (k := 1) (c := 15) (as := [.int (Int32.ofInt v1)]) rfl rfl rfl (Nat.le_of_ble_eq_true rfl) rfl (Nat.le_of_ble_eq_true rfl) hk0 rfl (jz_ci ?_)
  obtain ⟨o1, h⟩ := h
  obtain ⟨o2, h⟩ := h
  refine sb_47 hk0 o1 o2 (fun c3 => ?_) (fun c3 => ?_)
  · replace h := h.1 c3
    refine jw_if_eq rfl (by omega) (fun hc => by exfalso; omega) (fun _ => ?_)
    refine jw_iload_n rfl rfl ?_
    refine jw_goto rfl ?_
    refine jw_iret rfl ?_
    exact h
  · replace h := h.2 c3
    refine jw_if_eq rfl (by omega) (fun _ => ?_) (fun hc => by exfalso; omega)
    refine jw_iconst rfl ?_
    refine jw_iret rfl ?_
    exact h
set_option maxHeartbeats 4000000 in
theorem e_118 {xs : Nat → Int32} {L d : Nat} {v0 : Nat} {v1 : Int} {J K : jZ} {P : Int → jZ → jZ → Prop} (hk0 : jz_kd v0 = 16) (h : l_118_2 xs L d v0 v1 0 J K P) : q_118 xs L (d + 1) v0 v1 J K P := by
  unfold q_118
  refine jq_in (ls := [some (.ref v0), some (.int (Int32.ofInt v1)), none]) rfl (Nat.le_of_ble_eq_true rfl) rfl ?_
  refine jw_iconst rfl ?_
  refine jw_istore_n (ls' := [some (.ref v0), some (.int (Int32.ofInt v1)), some (.int (Int32.ofInt 0))]) rfl rfl ?_
  exact jz_fg (l := [some (.ref v0), some (.int (Int32.ofInt v1)), some (.int (Int32.ofInt 0))]) ⟨rfl, rfl, rfl, trivial⟩ h
set_option maxHeartbeats 4000000 in
theorem e_118_2 {xs : Nat → Int32} {L d : Nat} {v0 : Nat} {v1 : Int} {v2 : Int} {J K : jZ} {P : Int → jZ → jZ → Prop} (hk0 : jz_kd v0 = 16) (h : (-2147483648 ≤ v2 ∧ v2 < 2147483648) ∧ (-2147483648 ≤ J v0 2 ∧ J v0 2 < 2147483648) ∧ ((J v0 2) ≤ v2 → P v2 J K) ∧ (v2 < (J v0 2) → ((0 : Int) ≤ v2 ∧ v2 < 60) ∧ (-2147483648 ≤ J (v0 + 2) v2.toNat ∧ J (v0 + 2) v2.toNat < 2147483648) ∧ (-2147483648 ≤ v1 ∧ v1 < 2147483648) ∧ (v1 ≤ (J (v0 + 2) v2.toNat) → P v2 J K) ∧ ((J (v0 + 2) v2.toNat) < v1 → l_118_2 xs L d v0 v1 (v2 + 1) J K P))) : l_118_2 xs L d v0 v1 v2 J K P := by
  unfold l_118_2
  refine jw_iload_n rfl rfl ?_
  refine jw_aload_n rfl rfl ?_
  refine jw_gf (v := (J v0 2)) rfl (by decide) hk0 rfl ?_
  obtain ⟨o1, h⟩ := h
  obtain ⟨o2, h⟩ := h
  refine jw_ic_ge rfl o1 o2 (fun c3 => ?_) (fun c3 => ?_)
  · replace h := h.1 c3
    refine jw_iload_n rfl rfl ?_
    refine jw_iret rfl ?_
    exact h
  · replace h := h.2 c3
    refine jw_aload_n rfl rfl ?_
    refine jw_gr (q := (v0 + 2)) rfl hk0 (jzr_16_2 hk0) ?_
    refine jw_iload_n rfl rfl ?_
    obtain ⟨o4, h⟩ := h
    refine jw_iald (v := (J (v0 + 2) v2.toNat)) (N := 60) rfl (jzk_16_2 hk0) (jzn_16_2 hk0) (by omega) o4 rfl ?_
    refine jw_iload_n rfl rfl ?_
    obtain ⟨o5, h⟩ := h
    obtain ⟨o6, h⟩ := h
    refine jw_ic_ge rfl o5 o6 (fun c7 => ?_) (fun c7 => ?_)
    · replace h := h.1 c7
      refine jw_iload_n rfl rfl ?_
      refine jw_iret rfl ?_
      exact h
    · replace h := h.2 c7
      refine jw_iinc (ls' := [some (.ref v0), some (.int (Int32.ofInt v1)), some (.int (Int32.ofInt (v2 + 1)))]) rfl rfl rfl ?_
      refine jw_goto rfl ?_
      exact jz_fg (l := [some (.ref v0), some (.int (Int32.ofInt v1)), some (.int (Int32.ofInt (v2 + 1)))]) ⟨rfl, rfl, rfl, trivial⟩ h
