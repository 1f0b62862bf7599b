/-! The methods of the reference walked (2). -/
set_option maxHeartbeats 4000000 in
theorem e_211 {xs : Nat → Int32} {L d : Nat} {J K : jZ} {P : Int → jZ → jZ → Prop} (h : q_212 xs L d (jm_up (jm_up (jm_up J 167 38 0) 167 39 (-1)) 167 40 (J 167 10)) K (fun r3 J1 K2 => (-2147483648 ≤ J1 167 39 ∧ J1 167 39 < 2147483648) ∧ (¬ (J1 167 39) = (-1) → q_170 xs L d (-2) (jm_up J1 167 7 0) K2 (fun r8 J6 K7 => P ((-20) - (J6 167 39)) J6 K7)) ∧ ((J1 167 39) = (-1) → q_217 xs L d J1 K2 (fun r11 J9 K10 => (-2147483648 ≤ r11 ∧ r11 < 2147483648) ∧ (r11 = (-1) → (-2147483648 ≤ J9 167 39 ∧ J9 167 39 < 2147483648) ∧ ((J9 167 39) = (-1) → (-2147483648 ≤ J9 167 40 ∧ J9 167 40 < 2147483648) ∧ ((J9 167 40) ≤ 24 → P ((J9 167 40) - 1) (jm_up (jm_up (jm_up J9 167 7 0) 167 10 (J9 167 40)) 167 26 0) K10) ∧ (24 < (J9 167 40) → q_170 xs L d (-6) (jm_up J9 167 7 0) K10 (fun r20 J18 K19 => P r20 J18 K19))) ∧ (¬ (J9 167 39) = (-1) → q_170 xs L d (-2) (jm_up J9 167 7 0) K10 (fun r23 J21 K22 => P ((-20) - (J21 167 39)) J21 K22))) ∧ (¬ r11 = (-1) → q_220 xs L d (J9 167 38) J9 K10 (fun r26 J24 K25 => (-2147483648 ≤ J24 167 39 ∧ J24 167 39 < 2147483648) ∧ ((J24 167 39) = (-1) → (-2147483648 ≤ J24 167 40 ∧ J24 167 40 < 2147483648) ∧ ((J24 167 40) ≤ 24 → P ((J24 167 40) - 1) (jm_up (jm_up (jm_up J24 167 7 0) 167 10 (J24 167 40)) 167 26 0) K25) ∧ (24 < (J24 167 40) → q_170 xs L d (-6) (jm_up J24 167 7 0) K25 (fun r33 J31 K32 => P r33 J31 K32))) ∧ (¬ (J24 167 39) = (-1) → q_170 xs L d (-2) (jm_up J24 167 7 0) K25 (fun r36 J34 K35 => P ((-20) - (J34 167 39)) J34 K35)))))))) : q_211 xs L (d + 1) J K P := by
  unfold q_211
  refine jq_in (ls := [some (.ref 167)]) rfl (Nat.le_of_ble_eq_true rfl) rfl ?_
  refine jw_aload_n rfl rfl ?_
  refine jw_iconst rfl ?_
  refine jw_pf rfl rfl ?_
  refine jw_aload_n rfl rfl ?_
  refine jw_iconst rfl ?_
  refine jw_pf rfl rfl ?_
  refine jw_aload_n rfl rfl ?_
  refine jw_aload_n rfl rfl ?_
  refine jw_gf (v := (J 167 10)) rfl (by decide) rfl (by simp [jm_up]) ?_
  refine jw_pf rfl rfl ?_
  refine jw_aload_n rfl rfl ?_
  refine jw_virt (k := 0) (c := 19) (as := []) rfl rfl rfl (Nat.le_of_ble_eq_true rfl) rfl (Nat.le_of_ble_eq_true rfl) rfl rfl (jz_ci ?_)
  refine jm_Q.mono h (jp_i_mono (fun r3 J1 K2 h => ?_))
  refine jw_pop_i rfl ?_
  refine jw_aload_n rfl rfl ?_
  refine jw_gf (v := (J1 167 39)) rfl (by decide) rfl rfl ?_
  refine jw_iconst rfl ?_
  obtain ⟨o4, h⟩ := h
  refine jw_ic_ne rfl o4 (by omega) (fun c5 => ?_) (fun c5 => ?_)
  · replace h := h.1 c5
    refine jw_aload_n rfl rfl ?_
    refine jw_iconst rfl ?_
    refine jw_pf rfl rfl ?_
    refine jw_aload_n rfl rfl ?_
    refine jw_gf (v := (J1 167 39)) rfl (by decide) rfl (by simp [jm_up]) ?_
    refine jw_iconst rfl ?_
    refine jw_ic_eq rfl o4 (by omega) (fun hc => by exfalso; omega) (fun _ => ?_)
    refine jw_aload_n rfl rfl ?_
    refine jw_bipush rfl (by decide) ?_
    refine jw_virt (k := 1) (c := 19) (as := [.int (Int32.ofInt (-2))]) rfl rfl rfl (Nat.le_of_ble_eq_true rfl) rfl (Nat.le_of_ble_eq_true rfl) rfl rfl (jz_ci ?_)
    refine jm_Q.mono h (jp_i_mono (fun r8 J6 K7 h => ?_))
    refine jw_pop_i rfl ?_
    refine jw_bipush rfl (by decide) ?_
    refine jw_aload_n rfl rfl ?_
    refine jw_gf (v := (J6 167 39)) rfl (by decide) rfl rfl ?_
    refine jw_isub rfl ?_
    refine jw_iret rfl ?_
    exact h
  · replace h := h.2 c5
    refine jw_aload_n rfl rfl ?_
    refine jw_virt (k := 0) (c := 19) (as := []) rfl rfl rfl (Nat.le_of_ble_eq_true rfl) rfl (Nat.le_of_ble_eq_true rfl) rfl rfl (jz_ci ?_)
    refine jm_Q.mono h (jp_i_mono (fun r11 J9 K10 h => ?_))
    refine jw_iconst rfl ?_
    obtain ⟨o12, h⟩ := h
    refine jw_ic_eq rfl o12 (by omega) (fun c13 => ?_) (fun c13 => ?_)
    · replace h := h.1 c13
      refine jw_aload_n rfl rfl ?_
      refine jw_iconst rfl ?_
      refine jw_pf rfl rfl ?_
      refine jw_aload_n rfl rfl ?_
      refine jw_gf (v := (J9 167 39)) rfl (by decide) rfl (by simp [jm_up]) ?_
      refine jw_iconst rfl ?_
      obtain ⟨o14, h⟩ := h
      refine jw_ic_eq rfl o14 (by omega) (fun c15 => ?_) (fun c15 => ?_)
      · replace h := h.1 c15
        refine jw_aload_n rfl rfl ?_
        refine jw_gf (v := (J9 167 40)) rfl (by decide) rfl (by simp [jm_up]) ?_
        refine jw_bipush rfl (by decide) ?_
        obtain ⟨o16, h⟩ := h
        refine jw_ic_le rfl o16 (by omega) (fun c17 => ?_) (fun c17 => ?_)
        · replace h := h.1 c17
          refine jw_aload_n rfl rfl ?_
          refine jw_aload_n rfl rfl ?_
          refine jw_gf (v := (J9 167 40)) rfl (by decide) rfl (by simp [jm_up]) ?_
          refine jw_pf rfl rfl ?_
          refine jw_aload_n rfl rfl ?_
          refine jw_iconst rfl ?_
          refine jw_pfz rfl rfl (by omega) ?_
          refine jw_aload_n rfl rfl ?_
          refine jw_gf (v := (J9 167 40)) rfl (by decide) rfl (by simp [jm_up]) ?_
          refine jw_iconst rfl ?_
          refine jw_isub rfl ?_
          refine jw_iret rfl ?_
          exact h
        · replace h := h.2 c17
          refine jw_aload_n rfl rfl ?_
          refine jw_bipush rfl (by decide) ?_
          refine jw_virt (k := 1) (c := 19) (as := [.int (Int32.ofInt (-6))]) rfl rfl rfl (Nat.le_of_ble_eq_true rfl) rfl (Nat.le_of_ble_eq_true rfl) rfl rfl (jz_ci ?_)
          refine jm_Q.mono h (jp_i_mono (fun r20 J18 K19 h => ?_))
          refine jw_iret rfl ?_
          exact h
      · replace h := h.2 c15
        refine jw_aload_n rfl rfl ?_
        refine jw_bipush rfl (by decide) ?_
        refine jw_virt (k := 1) (c := 19) (as := [.int (Int32.ofInt (-2))]) rfl rfl rfl (Nat.le_of_ble_eq_true rfl) rfl (Nat.le_of_ble_eq_true rfl) rfl rfl (jz_ci ?_)
        refine jm_Q.mono h (jp_i_mono (fun r23 J21 K22 h => ?_))
        refine jw_pop_i rfl ?_
        refine jw_bipush rfl (by decide) ?_
        refine jw_aload_n rfl rfl ?_
        refine jw_gf (v := (J21 167 39)) rfl (by decide) rfl rfl ?_
        refine jw_isub rfl ?_
        refine jw_iret rfl ?_
        exact h
    · replace h := h.2 c13
      refine jw_aload_n rfl rfl ?_
      refine jw_aload_n rfl rfl ?_
      refine jw_gf (v := (J9 167 38)) rfl (by decide) rfl rfl ?_
      refine jw_virt (k := 1) (c := 19) (as := [.int (Int32.ofInt (J9 167 38))]) rfl rfl rfl (Nat.le_of_ble_eq_true rfl) rfl (Nat.le_of_ble_eq_true rfl) rfl rfl (jz_ci ?_)
      refine jm_Q.mono h (jp_i_mono (fun r26 J24 K25 h => ?_))
      refine jw_pop_i rfl ?_
      refine jw_aload_n rfl rfl ?_
      refine jw_iconst rfl ?_
      refine jw_pf rfl rfl ?_
      refine jw_aload_n rfl rfl ?_
      refine jw_gf (v := (J24 167 39)) rfl (by decide) rfl (by simp [jm_up]) ?_
      refine jw_iconst rfl ?_
      obtain ⟨o27, h⟩ := h
      refine jw_ic_eq rfl o27 (by omega) (fun c28 => ?_) (fun c28 => ?_)
      · replace h := h.1 c28
        refine jw_aload_n rfl rfl ?_
        refine jw_gf (v := (J24 167 40)) rfl (by decide) rfl (by simp [jm_up]) ?_
        refine jw_bipush rfl (by decide) ?_
        obtain ⟨o29, h⟩ := h
        refine jw_ic_le rfl o29 (by omega) (fun c30 => ?_) (fun c30 => ?_)
        · replace h := h.1 c30
          refine jw_aload_n rfl rfl ?_
          refine jw_aload_n rfl rfl ?_
          refine jw_gf (v := (J24 167 40)) rfl (by decide) rfl (by simp [jm_up]) ?_
          refine jw_pf rfl rfl ?_
          refine jw_aload_n rfl rfl ?_
          refine jw_iconst rfl ?_
          refine jw_pfz rfl rfl (by omega) ?_
          refine jw_aload_n rfl rfl ?_
          refine jw_gf (v := (J24 167 40)) rfl (by decide) rfl (by simp [jm_up]) ?_
          refine jw_iconst rfl ?_
          refine jw_isub rfl ?_
          refine jw_iret rfl ?_
          exact h
        · replace h := h.2 c30
          refine jw_aload_n rfl rfl ?_
          refine jw_bipush rfl (by decide) ?_
          refine jw_virt (k := 1) (c := 19) (as := [.int (Int32.ofInt (-6))]) rfl rfl rfl (Nat.le_of_ble_eq_true rfl) rfl (Nat.le_of_ble_eq_true rfl) rfl rfl (jz_ci ?_)
          refine jm_Q.mono h (jp_i_mono (fun r33 J31 K32 h => ?_))
          refine jw_iret rfl ?_
          exact h
      · replace h := h.2 c28
        refine jw_aload_n rfl rfl ?_
        refine jw_bipush rfl (by decide) ?_
        refine jw_virt (k := 1) (c := 19) (as := [.int (Int32.ofInt (-2))]) rfl rfl rfl (Nat.le_of_ble_eq_true rfl) rfl (Nat.le_of_ble_eq_true rfl) rfl rfl (jz_ci ?_)
        refine jm_Q.mono h (jp_i_mono (fun r36 J34 K35 h => ?_))
        refine jw_pop_i rfl ?_
        refine jw_bipush rfl (by decide) ?_
        refine jw_aload_n rfl rfl ?_
        refine jw_gf (v := (J34 167 39)) rfl (by decide) rfl rfl ?_
        refine jw_isub rfl ?_
        refine jw_iret rfl ?_
        exact h
set_option maxHeartbeats 4000000 in
theorem e_212 {xs : Nat → Int32} {L d : Nat} {J K : jZ} {P : Int → jZ → jZ → Prop} (h : q_213 xs L d J K (fun r3 J1 K2 => l_212_5 xs L d r3 J1 K2 P)) : q_212 xs L (d + 1) J K P := by
  unfold q_212
  refine jq_in (ls := [some (.ref 167), none, none]) rfl (Nat.le_of_ble_eq_true rfl) rfl ?_
  refine jw_aload_n rfl rfl ?_
  refine jw_virt (k := 0) (c := 19) (as := []) rfl rfl rfl (Nat.le_of_ble_eq_true rfl) rfl (Nat.le_of_ble_eq_true rfl) rfl rfl (jz_ci ?_)
  refine jm_Q.mono h (jp_i_mono (fun r3 J1 K2 h => ?_))
  refine jw_istore_n (ls' := [some (.ref 167), some (.int (Int32.ofInt r3)), none]) rfl rfl ?_
  exact jz_fg (l := [some (.ref 167), some (.int (Int32.ofInt r3)), none]) ⟨rfl, rfl, jz_n0, trivial⟩ h
set_option maxHeartbeats 4000000 in
theorem e_212_5 {xs : Nat → Int32} {L d : Nat} {v1 : Int} {J K : jZ} {P : Int → jZ → jZ → Prop} (h : q_222 xs L d 124 J K (fun r3 J1 K2 => (-2147483648 ≤ r3 ∧ r3 < 2147483648) ∧ (r3 = 0 → P v1 J1 K2) ∧ (¬ r3 = 0 → q_213 xs L d J1 K2 (fun r8 J6 K7 => (-2147483648 ≤ J6 167 39 ∧ J6 167 39 < 2147483648) ∧ ((J6 167 39) = (-1) → q_218 xs L d 2 v1 r8 (-1) (-1) J6 K7 (fun r13 J11 K12 => l_212_5 xs L d r13 J11 K12 P)) ∧ (¬ (J6 167 39) = (-1) → l_212_5 xs L d 0 J6 K7 P))))) : l_212_5 xs L d v1 J K P := by
  unfold l_212_5
  refine jw_aload_n rfl rfl ?_
  refine jw_bipush rfl (by decide) ?_
  refine jw_virt (k := 1) (c := 19) (as := [.int (Int32.ofInt 124)]) rfl rfl rfl (Nat.le_of_ble_eq_true rfl) rfl (Nat.le_of_ble_eq_true rfl) rfl rfl (jz_ci ?_)
  refine jm_Q.mono h (jp_i_mono (fun r3 J1 K2 h => ?_))
  obtain ⟨o4, h⟩ := h
  refine jw_if_eq rfl o4 (fun c5 => ?_) (fun c5 => ?_)
  · replace h := h.1 c5
    refine jw_iload_n rfl rfl ?_
    refine jw_iret rfl ?_
    exact h
  · replace h := h.2 c5
    refine jw_aload_n rfl rfl ?_
    refine jw_virt (k := 0) (c := 19) (as := []) rfl rfl rfl (Nat.le_of_ble_eq_true rfl) rfl (Nat.le_of_ble_eq_true rfl) rfl rfl (jz_ci ?_)
    refine jm_Q.mono h (jp_i_mono (fun r8 J6 K7 h => ?_))
    refine jw_istore_n (ls' := [some (.ref 167), some (.int (Int32.ofInt v1)), some (.int (Int32.ofInt r8))]) rfl rfl ?_
    refine jw_aload_n rfl rfl ?_
    refine jw_gf (v := (J6 167 39)) rfl (by decide) rfl rfl ?_
    refine jw_iconst rfl ?_
    obtain ⟨o9, h⟩ := h
    refine jw_ic_eq rfl o9 (by omega) (fun c10 => ?_) (fun c10 => ?_)
    · replace h := h.1 c10
      refine jw_aload_n rfl rfl ?_
      refine jw_iconst rfl ?_
      refine jw_iload_n rfl rfl ?_
      refine jw_iload_n rfl rfl ?_
      refine jw_iconst rfl ?_
      refine jw_iconst rfl ?_
      refine jw_virt (k := 5) (c := 19) (as := [.int (Int32.ofInt 2), .int (Int32.ofInt v1), .int (Int32.ofInt r8), .int (Int32.ofInt (-1)), .int (Int32.ofInt (-1))]) rfl rfl rfl (Nat.le_of_ble_eq_true rfl) rfl (Nat.le_of_ble_eq_true rfl) rfl rfl (jz_ci ?_)
      refine jm_Q.mono h (jp_i_mono (fun r13 J11 K12 h => ?_))
      refine jw_istore_n (ls' := [some (.ref 167), some (.int (Int32.ofInt r13)), some (.int (Int32.ofInt r8))]) rfl rfl ?_
      refine jw_goto rfl ?_
      exact jz_fg (l := [some (.ref 167), some (.int (Int32.ofInt r13)), none]) ⟨rfl, rfl, jz_ni, trivial⟩ h
    · replace h := h.2 c10
      refine jw_iconst rfl ?_
      refine jw_goto rfl ?_
      refine jw_istore_n (ls' := [some (.ref 167), some (.int (Int32.ofInt 0)), some (.int (Int32.ofInt r8))]) rfl rfl ?_
      refine jw_goto rfl ?_
      exact jz_fg (l := [some (.ref 167), some (.int (Int32.ofInt 0)), none]) ⟨rfl, rfl, jz_ni, trivial⟩ h
set_option maxHeartbeats 4000000 in
theorem e_213 {xs : Nat → Int32} {L d : Nat} {J K : jZ} {P : Int → jZ → jZ → Prop} (h : q_214 xs L d J K (fun r3 J1 K2 => l_213_5 xs L d r3 J1 K2 P)) : q_213 xs L (d + 1) J K P := by
  unfold q_213
  refine jq_in (ls := [some (.ref 167), none, none]) rfl (Nat.le_of_ble_eq_true rfl) rfl ?_
  refine jw_aload_n rfl rfl ?_
  refine jw_virt (k := 0) (c := 19) (as := []) rfl rfl rfl (Nat.le_of_ble_eq_true rfl) rfl (Nat.le_of_ble_eq_true rfl) rfl rfl (jz_ci ?_)
  refine jm_Q.mono h (jp_i_mono (fun r3 J1 K2 h => ?_))
  refine jw_istore_n (ls' := [some (.ref 167), some (.int (Int32.ofInt r3)), none]) rfl rfl ?_
  exact jz_fg (l := [some (.ref 167), some (.int (Int32.ofInt r3)), none]) ⟨rfl, rfl, jz_n0, trivial⟩ h
set_option maxHeartbeats 4000000 in
theorem e_213_5 {xs : Nat → Int32} {L d : Nat} {v1 : Int} {J K : jZ} {P : Int → jZ → jZ → Prop} (h : q_222 xs L d 38 J K (fun r3 J1 K2 => (-2147483648 ≤ r3 ∧ r3 < 2147483648) ∧ (r3 = 0 → P v1 J1 K2) ∧ (¬ r3 = 0 → q_214 xs L d J1 K2 (fun r8 J6 K7 => (-2147483648 ≤ J6 167 39 ∧ J6 167 39 < 2147483648) ∧ ((J6 167 39) = (-1) → q_218 xs L d 3 v1 r8 (-1) (-1) J6 K7 (fun r13 J11 K12 => l_213_5 xs L d r13 J11 K12 P)) ∧ (¬ (J6 167 39) = (-1) → l_213_5 xs L d 0 J6 K7 P))))) : l_213_5 xs L d v1 J K P := by
  unfold l_213_5
  refine jw_aload_n rfl rfl ?_
  refine jw_bipush rfl (by decide) ?_
  refine jw_virt (k := 1) (c := 19) (as := [.int (Int32.ofInt 38)]) rfl rfl rfl (Nat.le_of_ble_eq_true rfl) rfl (Nat.le_of_ble_eq_true rfl) rfl rfl (jz_ci ?_)
  refine jm_Q.mono h (jp_i_mono (fun r3 J1 K2 h => ?_))
  obtain ⟨o4, h⟩ := h
  refine jw_if_eq rfl o4 (fun c5 => ?_) (fun c5 => ?_)
  · replace h := h.1 c5
    refine jw_iload_n rfl rfl ?_
    refine jw_iret rfl ?_
    exact h
  · replace h := h.2 c5
    refine jw_aload_n rfl rfl ?_
    refine jw_virt (k := 0) (c := 19) (as := []) rfl rfl rfl (Nat.le_of_ble_eq_true rfl) rfl (Nat.le_of_ble_eq_true rfl) rfl rfl (jz_ci ?_)
    refine jm_Q.mono h (jp_i_mono (fun r8 J6 K7 h => ?_))
    refine jw_istore_n (ls' := [some (.ref 167), some (.int (Int32.ofInt v1)), some (.int (Int32.ofInt r8))]) rfl rfl ?_
    refine jw_aload_n rfl rfl ?_
    refine jw_gf (v := (J6 167 39)) rfl (by decide) rfl rfl ?_
    refine jw_iconst rfl ?_
    obtain ⟨o9, h⟩ := h
    refine jw_ic_eq rfl o9 (by omega) (fun c10 => ?_) (fun c10 => ?_)
    · replace h := h.1 c10
      refine jw_aload_n rfl rfl ?_
      refine jw_iconst rfl ?_
      refine jw_iload_n rfl rfl ?_
      refine jw_iload_n rfl rfl ?_
      refine jw_iconst rfl ?_
      refine jw_iconst rfl ?_
      refine jw_virt (k := 5) (c := 19) (as := [.int (Int32.ofInt 3), .int (Int32.ofInt v1), .int (Int32.ofInt r8), .int (Int32.ofInt (-1)), .int (Int32.ofInt (-1))]) rfl rfl rfl (Nat.le_of_ble_eq_true rfl) rfl (Nat.le_of_ble_eq_true rfl) rfl rfl (jz_ci ?_)
      refine jm_Q.mono h (jp_i_mono (fun r13 J11 K12 h => ?_))
      refine jw_istore_n (ls' := [some (.ref 167), some (.int (Int32.ofInt r13)), some (.int (Int32.ofInt r8))]) rfl rfl ?_
      refine jw_goto rfl ?_
      exact jz_fg (l := [some (.ref 167), some (.int (Int32.ofInt r13)), none]) ⟨rfl, rfl, jz_ni, trivial⟩ h
    · replace h := h.2 c10
      refine jw_iconst rfl ?_
      refine jw_goto rfl ?_
      refine jw_istore_n (ls' := [some (.ref 167), some (.int (Int32.ofInt 0)), some (.int (Int32.ofInt r8))]) rfl rfl ?_
      refine jw_goto rfl ?_
      exact jz_fg (l := [some (.ref 167), some (.int (Int32.ofInt 0)), none]) ⟨rfl, rfl, jz_ni, trivial⟩ h
set_option maxHeartbeats 4000000 in
theorem e_214 {xs : Nat → Int32} {L d : Nat} {J K : jZ} {P : Int → jZ → jZ → Prop} (h : q_215 xs L d J K (fun r3 J1 K2 => l_214_5 xs L d r3 J1 K2 P)) : q_214 xs L (d + 1) J K P := by
  unfold q_214
  refine jq_in (ls := [some (.ref 167), none, none]) rfl (Nat.le_of_ble_eq_true rfl) rfl ?_
  refine jw_aload_n rfl rfl ?_
  refine jw_virt (k := 0) (c := 19) (as := []) rfl rfl rfl (Nat.le_of_ble_eq_true rfl) rfl (Nat.le_of_ble_eq_true rfl) rfl rfl (jz_ci ?_)
  refine jm_Q.mono h (jp_i_mono (fun r3 J1 K2 h => ?_))
  refine jw_istore_n (ls' := [some (.ref 167), some (.int (Int32.ofInt r3)), none]) rfl rfl ?_
  exact jz_fg (l := [some (.ref 167), some (.int (Int32.ofInt r3)), none]) ⟨rfl, rfl, jz_n0, trivial⟩ h
set_option maxHeartbeats 4000000 in
theorem e_214_5 {xs : Nat → Int32} {L d : Nat} {v1 : Int} {J K : jZ} {P : Int → jZ → jZ → Prop} (h : q_222 xs L d 60 J K (fun r3 J1 K2 => (-2147483648 ≤ r3 ∧ r3 < 2147483648) ∧ (r3 = 0 → P v1 J1 K2) ∧ (¬ r3 = 0 → q_215 xs L d J1 K2 (fun r8 J6 K7 => (-2147483648 ≤ J6 167 39 ∧ J6 167 39 < 2147483648) ∧ ((J6 167 39) = (-1) → q_218 xs L d 4 v1 r8 (-1) (-1) J6 K7 (fun r13 J11 K12 => l_214_5 xs L d r13 J11 K12 P)) ∧ (¬ (J6 167 39) = (-1) → l_214_5 xs L d 0 J6 K7 P))))) : l_214_5 xs L d v1 J K P := by
  unfold l_214_5
  refine jw_aload_n rfl rfl ?_
  refine jw_bipush rfl (by decide) ?_
  refine jw_virt (k := 1) (c := 19) (as := [.int (Int32.ofInt 60)]) rfl rfl rfl (Nat.le_of_ble_eq_true rfl) rfl (Nat.le_of_ble_eq_true rfl) rfl rfl (jz_ci ?_)
  refine jm_Q.mono h (jp_i_mono (fun r3 J1 K2 h => ?_))
  obtain ⟨o4, h⟩ := h
  refine jw_if_eq rfl o4 (fun c5 => ?_) (fun c5 => ?_)
  · replace h := h.1 c5
    refine jw_iload_n rfl rfl ?_
    refine jw_iret rfl ?_
    exact h
  · replace h := h.2 c5
    refine jw_aload_n rfl rfl ?_
    refine jw_virt (k := 0) (c := 19) (as := []) rfl rfl rfl (Nat.le_of_ble_eq_true rfl) rfl (Nat.le_of_ble_eq_true rfl) rfl rfl (jz_ci ?_)
    refine jm_Q.mono h (jp_i_mono (fun r8 J6 K7 h => ?_))
    refine jw_istore_n (ls' := [some (.ref 167), some (.int (Int32.ofInt v1)), some (.int (Int32.ofInt r8))]) rfl rfl ?_
    refine jw_aload_n rfl rfl ?_
    refine jw_gf (v := (J6 167 39)) rfl (by decide) rfl rfl ?_
    refine jw_iconst rfl ?_
    obtain ⟨o9, h⟩ := h
    refine jw_ic_eq rfl o9 (by omega) (fun c10 => ?_) (fun c10 => ?_)
    · replace h := h.1 c10
      refine jw_aload_n rfl rfl ?_
      refine jw_iconst rfl ?_
      refine jw_iload_n rfl rfl ?_
      refine jw_iload_n rfl rfl ?_
      refine jw_iconst rfl ?_
      refine jw_iconst rfl ?_
      refine jw_virt (k := 5) (c := 19) (as := [.int (Int32.ofInt 4), .int (Int32.ofInt v1), .int (Int32.ofInt r8), .int (Int32.ofInt (-1)), .int (Int32.ofInt (-1))]) rfl rfl rfl (Nat.le_of_ble_eq_true rfl) rfl (Nat.le_of_ble_eq_true rfl) rfl rfl (jz_ci ?_)
      refine jm_Q.mono h (jp_i_mono (fun r13 J11 K12 h => ?_))
      refine jw_istore_n (ls' := [some (.ref 167), some (.int (Int32.ofInt r13)), some (.int (Int32.ofInt r8))]) rfl rfl ?_
      refine jw_goto rfl ?_
      exact jz_fg (l := [some (.ref 167), some (.int (Int32.ofInt r13)), none]) ⟨rfl, rfl, jz_ni, trivial⟩ h
    · replace h := h.2 c10
      refine jw_iconst rfl ?_
      refine jw_goto rfl ?_
      refine jw_istore_n (ls' := [some (.ref 167), some (.int (Int32.ofInt 0)), some (.int (Int32.ofInt r8))]) rfl rfl ?_
      refine jw_goto rfl ?_
      exact jz_fg (l := [some (.ref 167), some (.int (Int32.ofInt 0)), none]) ⟨rfl, rfl, jz_ni, trivial⟩ h
set_option maxHeartbeats 4000000 in
theorem e_215 {xs : Nat → Int32} {L d : Nat} {J K : jZ} {P : Int → jZ → jZ → Prop} (h : q_216 xs L d J K (fun r3 J1 K2 => (-2147483648 ≤ J1 167 39 ∧ J1 167 39 < 2147483648) ∧ (¬ (J1 167 39) = (-1) → l_215_25 xs L d r3 (-1) J1 K2 P) ∧ ((J1 167 39) = (-1) → q_217 xs L d J1 K2 (fun r8 J6 K7 => q_225 xs L d r8 J6 K7 (fun r11 J9 K10 => l_215_25 xs L d r3 r11 J9 K10 P))))) : q_215 xs L (d + 1) J K P := by
  unfold q_215
  refine jq_in (ls := [some (.ref 167), none, none, none]) rfl (Nat.le_of_ble_eq_true rfl) rfl ?_
  refine jw_aload_n rfl rfl ?_
  refine jw_virt (k := 0) (c := 19) (as := []) rfl rfl rfl (Nat.le_of_ble_eq_true rfl) rfl (Nat.le_of_ble_eq_true rfl) rfl rfl (jz_ci ?_)
  refine jm_Q.mono h (jp_i_mono (fun r3 J1 K2 h => ?_))
  refine jw_istore_n (ls' := [some (.ref 167), some (.int (Int32.ofInt r3)), none, none]) rfl rfl ?_
  refine jw_aload_n rfl rfl ?_
  refine jw_gf (v := (J1 167 39)) rfl (by decide) rfl rfl ?_
  refine jw_iconst rfl ?_
  obtain ⟨o4, h⟩ := h
  refine jw_ic_ne rfl o4 (by omega) (fun c5 => ?_) (fun c5 => ?_)
  · replace h := h.1 c5
    refine jw_iconst rfl ?_
    refine jw_istore_n (ls' := [some (.ref 167), some (.int (Int32.ofInt r3)), some (.int (Int32.ofInt (-1))), none]) rfl rfl ?_
    exact jz_fg (l := [some (.ref 167), some (.int (Int32.ofInt r3)), some (.int (Int32.ofInt (-1))), none]) ⟨rfl, rfl, rfl, jz_n0, trivial⟩ h
  · replace h := h.2 c5
    refine jw_aload_n rfl rfl ?_
    refine jw_virt (k := 0) (c := 19) (as := []) rfl rfl rfl (Nat.le_of_ble_eq_true rfl) rfl (Nat.le_of_ble_eq_true rfl) rfl rfl (jz_ci ?_)
    refine jm_Q.mono h (jp_i_mono (fun r8 J6 K7 h => ?_))
    refine jw_stat (k := 1) (as := [.int (Int32.ofInt r8)]) rfl (by decide) rfl rfl (Nat.le_of_ble_eq_true rfl) rfl (Nat.le_of_ble_eq_true rfl) (jz_ci ?_)
    refine jm_Q.mono h (jp_i_mono (fun r11 J9 K10 h => ?_))
    refine jw_goto rfl ?_
    refine jw_istore_n (ls' := [some (.ref 167), some (.int (Int32.ofInt r3)), some (.int (Int32.ofInt r11)), none]) rfl rfl ?_
    exact jz_fg (l := [some (.ref 167), some (.int (Int32.ofInt r3)), some (.int (Int32.ofInt r11)), none]) ⟨rfl, rfl, rfl, jz_n0, trivial⟩ h
set_option maxHeartbeats 4000000 in
theorem e_215_25 {xs : Nat → Int32} {L d : Nat} {v1 : Int} {v2 : Int} {J K : jZ} {P : Int → jZ → jZ → Prop} (h : (-2147483648 ≤ v2 ∧ v2 < 2147483648) ∧ (v2 = (-1) → P v1 J K) ∧ (¬ v2 = (-1) → (¬ v2 = 10 → q_216 xs L d (jm_up J 167 38 ((J 167 38) + 1)) K (fun r6 J4 K5 => (-2147483648 ≤ J4 167 39 ∧ J4 167 39 < 2147483648) ∧ ((J4 167 39) = (-1) → q_218 xs L d v2 v1 r6 (-1) (-1) J4 K5 (fun r11 J9 K10 => (-2147483648 ≤ J9 167 39 ∧ J9 167 39 < 2147483648) ∧ (¬ (J9 167 39) = (-1) → l_215_25 xs L d r11 (-1) J9 K10 P) ∧ ((J9 167 39) = (-1) → q_217 xs L d J9 K10 (fun r16 J14 K15 => q_225 xs L d r16 J14 K15 (fun r19 J17 K18 => l_215_25 xs L d r11 r19 J17 K18 P))))) ∧ (¬ (J4 167 39) = (-1) → l_215_25 xs L d 0 (-1) J4 K5 P))) ∧ (v2 = 10 → q_224 xs L d 1 60 (jm_up J 167 38 ((J 167 38) + 1)) K (fun r22 J20 K21 => (-2147483648 ≤ J20 167 39 ∧ J20 167 39 < 2147483648) ∧ ((J20 167 39) = (-1) → q_218 xs L d v2 v1 r22 (-1) (-1) J20 K21 (fun r27 J25 K26 => (-2147483648 ≤ J25 167 39 ∧ J25 167 39 < 2147483648) ∧ (¬ (J25 167 39) = (-1) → l_215_25 xs L d r27 (-1) J25 K26 P) ∧ ((J25 167 39) = (-1) → q_217 xs L d J25 K26 (fun r32 J30 K31 => q_225 xs L d r32 J30 K31 (fun r35 J33 K34 => l_215_25 xs L d r27 r35 J33 K34 P))))) ∧ (¬ (J20 167 39) = (-1) → l_215_25 xs L d 0 (-1) J20 K21 P))))) : l_215_25 xs L d v1 v2 J K P := by
  unfold l_215_25
  refine jw_iload_n rfl rfl ?_
  refine jw_iconst rfl ?_
  obtain ⟨o1, h⟩ := h
  refine jw_ic_eq rfl o1 (by omega) (fun c2 => ?_) (fun c2 => ?_)
  · replace h := h.1 c2
    refine jw_iload_n rfl rfl ?_
    refine jw_iret rfl ?_
    exact h
  · replace h := h.2 c2
    refine jw_aload_n rfl rfl ?_
    refine jw_dup_r rfl ?_
    refine jw_gf (v := (J 167 38)) rfl (by decide) rfl rfl ?_
    refine jw_iconst rfl ?_
    refine jw_iadd rfl ?_
    refine jw_pf rfl rfl ?_
    refine jw_iload_n rfl rfl ?_
    refine jw_bipush rfl (by decide) ?_
    refine jw_ic_ne rfl o1 (by omega) (fun c3 => ?_) (fun c3 => ?_)
    · replace h := h.1 c3
      refine jw_aload_n rfl rfl ?_
      refine jw_virt (k := 0) (c := 19) (as := []) rfl rfl rfl (Nat.le_of_ble_eq_true rfl) rfl (Nat.le_of_ble_eq_true rfl) rfl rfl (jz_ci ?_)
      refine jm_Q.mono h (jp_i_mono (fun r6 J4 K5 h => ?_))
      refine jw_istore_n (ls' := [some (.ref 167), some (.int (Int32.ofInt v1)), some (.int (Int32.ofInt v2)), some (.int (Int32.ofInt r6))]) rfl rfl ?_
      refine jw_aload_n rfl rfl ?_
      refine jw_gf (v := (J4 167 39)) rfl (by decide) rfl rfl ?_
      refine jw_iconst rfl ?_
      obtain ⟨o7, h⟩ := h
      refine jw_ic_eq rfl o7 (by omega) (fun c8 => ?_) (fun c8 => ?_)
      · replace h := h.1 c8
        refine jw_aload_n rfl rfl ?_
        refine jw_iload_n rfl rfl ?_
        refine jw_iload_n rfl rfl ?_
        refine jw_iload_n rfl rfl ?_
        refine jw_iconst rfl ?_
        refine jw_iconst rfl ?_
        refine jw_virt (k := 5) (c := 19) (as := [.int (Int32.ofInt v2), .int (Int32.ofInt v1), .int (Int32.ofInt r6), .int (Int32.ofInt (-1)), .int (Int32.ofInt (-1))]) rfl rfl rfl (Nat.le_of_ble_eq_true rfl) rfl (Nat.le_of_ble_eq_true rfl) rfl rfl (jz_ci ?_)
        refine jm_Q.mono h (jp_i_mono (fun r11 J9 K10 h => ?_))
        refine jw_istore_n (ls' := [some (.ref 167), some (.int (Int32.ofInt r11)), some (.int (Int32.ofInt v2)), some (.int (Int32.ofInt r6))]) rfl rfl ?_
        refine jw_aload_n rfl rfl ?_
        refine jw_gf (v := (J9 167 39)) rfl (by decide) rfl rfl ?_
        refine jw_iconst rfl ?_
        obtain ⟨o12, h⟩ := h
        refine jw_ic_ne rfl o12 (by omega) (fun c13 => ?_) (fun c13 => ?_)
        · replace h := h.1 c13
          refine jw_iconst rfl ?_
          refine jw_istore_n (ls' := [some (.ref 167), some (.int (Int32.ofInt r11)), some (.int (Int32.ofInt (-1))), some (.int (Int32.ofInt r6))]) rfl rfl ?_
          refine jw_goto rfl ?_
          exact jz_fg (l := [some (.ref 167), some (.int (Int32.ofInt r11)), some (.int (Int32.ofInt (-1))), none]) ⟨rfl, rfl, rfl, jz_ni, trivial⟩ h
        · replace h := h.2 c13
          refine jw_aload_n rfl rfl ?_
          refine jw_virt (k := 0) (c := 19) (as := []) rfl rfl rfl (Nat.le_of_ble_eq_true rfl) rfl (Nat.le_of_ble_eq_true rfl) rfl rfl (jz_ci ?_)
          refine jm_Q.mono h (jp_i_mono (fun r16 J14 K15 h => ?_))
          refine jw_stat (k := 1) (as := [.int (Int32.ofInt r16)]) rfl (by decide) rfl rfl (Nat.le_of_ble_eq_true rfl) rfl (Nat.le_of_ble_eq_true rfl) (jz_ci ?_)
          refine jm_Q.mono h (jp_i_mono (fun r19 J17 K18 h => ?_))
          refine jw_goto rfl ?_
          refine jw_istore_n (ls' := [some (.ref 167), some (.int (Int32.ofInt r11)), some (.int (Int32.ofInt r19)), some (.int (Int32.ofInt r6))]) rfl rfl ?_
          refine jw_goto rfl ?_
          exact jz_fg (l := [some (.ref 167), some (.int (Int32.ofInt r11)), some (.int (Int32.ofInt r19)), none]) ⟨rfl, rfl, rfl, jz_ni, trivial⟩ h
      · replace h := h.2 c8
        refine jw_iconst rfl ?_
        refine jw_goto rfl ?_
        refine jw_istore_n (ls' := [some (.ref 167), some (.int (Int32.ofInt 0)), some (.int (Int32.ofInt v2)), some (.int (Int32.ofInt r6))]) rfl rfl ?_
        refine jw_aload_n rfl rfl ?_
        refine jw_gf (v := (J4 167 39)) rfl (by decide) rfl rfl ?_
        refine jw_iconst rfl ?_
        refine jw_ic_ne rfl o7 (by omega) (fun _ => ?_) (fun hc => by exfalso; omega)
        refine jw_iconst rfl ?_
        refine jw_istore_n (ls' := [some (.ref 167), some (.int (Int32.ofInt 0)), some (.int (Int32.ofInt (-1))), some (.int (Int32.ofInt r6))]) rfl rfl ?_
        refine jw_goto rfl ?_
        exact jz_fg (l := [some (.ref 167), some (.int (Int32.ofInt 0)), some (.int (Int32.ofInt (-1))), none]) ⟨rfl, rfl, rfl, jz_ni, trivial⟩ h
    · replace h := h.2 c3
      refine jw_aload_n rfl rfl ?_
      refine jw_iconst rfl ?_
      refine jw_bipush rfl (by decide) ?_
      refine jw_virt (k := 2) (c := 19) (as := [.int (Int32.ofInt 1), .int (Int32.ofInt 60)]) rfl rfl rfl (Nat.le_of_ble_eq_true rfl) rfl (Nat.le_of_ble_eq_true rfl) rfl rfl (jz_ci ?_)
      refine jm_Q.mono h (jp_i_mono (fun r22 J20 K21 h => ?_))
      refine jw_goto rfl ?_
      refine jw_istore_n (ls' := [some (.ref 167), some (.int (Int32.ofInt v1)), some (.int (Int32.ofInt v2)), some (.int (Int32.ofInt r22))]) rfl rfl ?_
      refine jw_aload_n rfl rfl ?_
      refine jw_gf (v := (J20 167 39)) rfl (by decide) rfl rfl ?_
      refine jw_iconst rfl ?_
      obtain ⟨o23, h⟩ := h
      refine jw_ic_eq rfl o23 (by omega) (fun c24 => ?_) (fun c24 => ?_)
      · replace h := h.1 c24
        refine jw_aload_n rfl rfl ?_
        refine jw_iload_n rfl rfl ?_
        refine jw_iload_n rfl rfl ?_
        refine jw_iload_n rfl rfl ?_
        refine jw_iconst rfl ?_
        refine jw_iconst rfl ?_
        refine jw_virt (k := 5) (c := 19) (as := [.int (Int32.ofInt v2), .int (Int32.ofInt v1), .int (Int32.ofInt r22), .int (Int32.ofInt (-1)), .int (Int32.ofInt (-1))]) rfl rfl rfl (Nat.le_of_ble_eq_true rfl) rfl (Nat.le_of_ble_eq_true rfl) rfl rfl (jz_ci ?_)
        refine jm_Q.mono h (jp_i_mono (fun r27 J25 K26 h => ?_))
        refine jw_istore_n (ls' := [some (.ref 167), some (.int (Int32.ofInt r27)), some (.int (Int32.ofInt v2)), some (.int (Int32.ofInt r22))]) rfl rfl ?_
        refine jw_aload_n rfl rfl ?_
        refine jw_gf (v := (J25 167 39)) rfl (by decide) rfl rfl ?_
        refine jw_iconst rfl ?_
        obtain ⟨o28, h⟩ := h
        refine jw_ic_ne rfl o28 (by omega) (fun c29 => ?_) (fun c29 => ?_)
        · replace h := h.1 c29
          refine jw_iconst rfl ?_
          refine jw_istore_n (ls' := [some (.ref 167), some (.int (Int32.ofInt r27)), some (.int (Int32.ofInt (-1))), some (.int (Int32.ofInt r22))]) rfl rfl ?_
          refine jw_goto rfl ?_
          exact jz_fg (l := [some (.ref 167), some (.int (Int32.ofInt r27)), some (.int (Int32.ofInt (-1))), none]) ⟨rfl, rfl, rfl, jz_ni, trivial⟩ h
        · replace h := h.2 c29
          refine jw_aload_n rfl rfl ?_
          refine jw_virt (k := 0) (c := 19) (as := []) rfl rfl rfl (Nat.le_of_ble_eq_true rfl) rfl (Nat.le_of_ble_eq_true rfl) rfl rfl (jz_ci ?_)
          refine jm_Q.mono h (jp_i_mono (fun r32 J30 K31 h => ?_))
          refine jw_stat (k := 1) (as := [.int (Int32.ofInt r32)]) rfl (by decide) rfl rfl (Nat.le_of_ble_eq_true rfl) rfl (Nat.le_of_ble_eq_true rfl) (jz_ci ?_)
          refine jm_Q.mono h (jp_i_mono (fun r35 J33 K34 h => ?_))
          refine jw_goto rfl ?_
          refine jw_istore_n (ls' := [some (.ref 167), some (.int (Int32.ofInt r27)), some (.int (Int32.ofInt r35)), some (.int (Int32.ofInt r22))]) rfl rfl ?_
          refine jw_goto rfl ?_
          exact jz_fg (l := [some (.ref 167), some (.int (Int32.ofInt r27)), some (.int (Int32.ofInt r35)), none]) ⟨rfl, rfl, rfl, jz_ni, trivial⟩ h
      · replace h := h.2 c24
        refine jw_iconst rfl ?_
        refine jw_goto rfl ?_
        refine jw_istore_n (ls' := [some (.ref 167), some (.int (Int32.ofInt 0)), some (.int (Int32.ofInt v2)), some (.int (Int32.ofInt r22))]) rfl rfl ?_
        refine jw_aload_n rfl rfl ?_
        refine jw_gf (v := (J20 167 39)) rfl (by decide) rfl rfl ?_
        refine jw_iconst rfl ?_
        refine jw_ic_ne rfl o23 (by omega) (fun _ => ?_) (fun hc => by exfalso; omega)
        refine jw_iconst rfl ?_
        refine jw_istore_n (ls' := [some (.ref 167), some (.int (Int32.ofInt 0)), some (.int (Int32.ofInt (-1))), some (.int (Int32.ofInt r22))]) rfl rfl ?_
        refine jw_goto rfl ?_
        exact jz_fg (l := [some (.ref 167), some (.int (Int32.ofInt 0)), some (.int (Int32.ofInt (-1))), none]) ⟨rfl, rfl, rfl, jz_ni, trivial⟩ h
set_option maxHeartbeats 4000000 in
theorem e_216 {xs : Nat → Int32} {L d : Nat} {J K : jZ} {P : Int → jZ → jZ → Prop} (h : (-2147483648 ≤ J 167 39 ∧ J 167 39 < 2147483648) ∧ ((J 167 39) = (-1) → q_217 xs L (d + 1) J K (fun r5 J3 K4 => (-2147483648 ≤ r5 ∧ r5 < 2147483648) ∧ ((97 ≤ r5 ∧ r5 ≤ 112) → q_218 xs L (d + 1) 0 (r5 - 97) (-1) (-1) (-1) (jm_up J3 167 38 ((J3 167 38) + 1)) K4 (fun r10 J8 K9 => P r10 J8 K9)) ∧ (¬ (97 ≤ r5 ∧ r5 ≤ 112) → (r5 = 39 → q_219 xs L (d + 1) (jm_up J3 167 38 ((J3 167 38) + 1)) K4 (fun r15 J13 K14 => P r15 J13 K14)) ∧ (¬ r5 = 39 → (r5 = 40 → q_212 xs L (d + 1) (jm_up J3 167 38 ((J3 167 38) + 1)) K4 (fun r19 J17 K18 => q_221 xs L (d + 1) 41 J17 K18 (fun J20 K21 => P r19 J20 K21))) ∧ (¬ r5 = 40 → (r5 = 80 → q_218 xs L (d + 1) 9 1 (-1) (-1) (-1) (jm_up J3 167 38 ((J3 167 38) + 1)) K4 (fun r25 J23 K24 => P r25 J23 K24)) ∧ (¬ r5 = 80 → (r5 = 83 → q_218 xs L (d + 1) 9 0 (-1) (-1) (-1) (jm_up J3 167 38 ((J3 167 38) + 1)) K4 (fun r29 J27 K28 => P r29 J27 K28)) ∧ (¬ r5 = 83 → (r5 = 84 → q_218 xs L (d + 1) 9 2 (-1) (-1) (-1) (jm_up J3 167 38 ((J3 167 38) + 1)) K4 (fun r33 J31 K32 => P r33 J31 K32)) ∧ (¬ r5 = 84 → (r5 = 123 → q_223 xs L (d + 1) (jm_up J3 167 38 ((J3 167 38) + 1)) K4 (fun r37 J35 K36 => P r37 J35 K36)) ∧ (¬ r5 = 123 → q_220 xs L (d + 1) (((J3 167 38) + 1) - 1) (jm_up (jm_up J3 167 38 ((J3 167 38) + 1)) 167 38 (((J3 167 38) + 1) - 1)) K4 (fun r40 J38 K39 => P r40 J38 K39)))))))))) ∧ (¬ (J 167 39) = (-1) → P 0 J K)) : q_216 xs L (d + 2) J K P := by
  unfold q_216
  refine jq_in (ls := [some (.ref 167), none, none]) rfl (Nat.le_of_ble_eq_true rfl) rfl ?_
  refine jw_aload_n rfl rfl ?_
  refine jw_gf (v := (J 167 39)) rfl (by decide) rfl rfl ?_
  refine jw_iconst rfl ?_
  obtain ⟨o1, h⟩ := h
  refine jw_ic_eq rfl o1 (by omega) (fun c2 => ?_) (fun c2 => ?_)
  · replace h := h.1 c2
    refine jw_aload_n rfl rfl ?_
    refine jw_virt (k := 0) (c := 19) (as := []) rfl rfl rfl (Nat.le_of_ble_eq_true rfl) rfl (Nat.le_of_ble_eq_true rfl) rfl rfl (jz_ci ?_)
    refine jm_Q.mono h (jp_i_mono (fun r5 J3 K4 h => ?_))
    refine jw_istore_n (ls' := [some (.ref 167), some (.int (Int32.ofInt r5)), none]) rfl rfl ?_
    refine jw_aload_n rfl rfl ?_
    refine jw_dup_r rfl ?_
    refine jw_gf (v := (J3 167 38)) rfl (by decide) rfl rfl ?_
    refine jw_iconst rfl ?_
    refine jw_iadd rfl ?_
    refine jw_pf rfl rfl ?_
    refine jw_iload_n rfl rfl ?_
    obtain ⟨o6, h⟩ := h
    refine jw_i2l rfl o6 ?_
    refine jw_ldc2_w rfl ?_
    refine jw_ldc2_w rfl ?_
    refine jw_stat (k := 3) (as := [.long (Int64.ofInt r5), .long (Int64.ofInt 97), .long (Int64.ofInt 112)]) rfl (by decide) rfl rfl (Nat.le_of_ble_eq_true rfl) rfl (Nat.le_of_ble_eq_true rfl) (jz_ci ?_)
    refine sb_169 (by omega) (by omega) (by omega) (fun c7 => ?_) (fun c7 => ?_)
    · replace h := h.1 c7
      refine jw_if_eq rfl (by omega) (fun hc => by exfalso; omega) (fun _ => ?_)
      refine jw_aload_n rfl rfl ?_
      refine jw_iconst rfl ?_
      refine jw_iload_n rfl rfl ?_
      refine jw_bipush rfl (by decide) ?_
      refine jw_isub rfl ?_
      refine jw_iconst rfl ?_
      refine jw_iconst rfl ?_
      refine jw_iconst rfl ?_
      refine jw_virt (k := 5) (c := 19) (as := [.int (Int32.ofInt 0), .int (Int32.ofInt (r5 - 97)), .int (Int32.ofInt (-1)), .int (Int32.ofInt (-1)), .int (Int32.ofInt (-1))]) rfl rfl rfl (Nat.le_of_ble_eq_true rfl) rfl (Nat.le_of_ble_eq_true rfl) rfl rfl (jz_ci ?_)
      refine jm_Q.mono h (jp_i_mono (fun r10 J8 K9 h => ?_))
      refine jw_iret rfl ?_
      exact h
    · replace h := h.2 c7
      refine jw_if_eq rfl (by omega) (fun _ => ?_) (fun hc => by exfalso; omega)
      refine jw_iload_n rfl rfl ?_
      by_cases c12 : r5 = 39
      · replace h := h.1 c12
        refine jw_look (o := 59) (pc2 := 112) rfl o6 (by rw [c12]; rfl) (by omega) ?_
        refine jw_aload_n rfl rfl ?_
        refine jw_virt (k := 0) (c := 19) (as := []) rfl rfl rfl (Nat.le_of_ble_eq_true rfl) rfl (Nat.le_of_ble_eq_true rfl) rfl rfl (jz_ci ?_)
        refine jm_Q.mono h (jp_i_mono (fun r15 J13 K14 h => ?_))
        refine jw_iret rfl ?_
        exact h
      · replace h := h.2 c12
        by_cases c16 : r5 = 40
        · replace h := h.1 c16
          refine jw_look (o := 97) (pc2 := 150) rfl o6 (by rw [c16]; rfl) (by omega) ?_
          refine jw_aload_n rfl rfl ?_
          refine jw_virt (k := 0) (c := 19) (as := []) rfl rfl rfl (Nat.le_of_ble_eq_true rfl) rfl (Nat.le_of_ble_eq_true rfl) rfl rfl (jz_ci ?_)
          refine jm_Q.mono h (jp_i_mono (fun r19 J17 K18 h => ?_))
          refine jw_istore_n (ls' := [some (.ref 167), some (.int (Int32.ofInt r5)), some (.int (Int32.ofInt r19))]) rfl rfl ?_
          refine jw_aload_n rfl rfl ?_
          refine jw_bipush rfl (by decide) ?_
          refine jw_virt (k := 1) (c := 19) (as := [.int (Int32.ofInt 41)]) rfl rfl rfl (Nat.le_of_ble_eq_true rfl) rfl (Nat.le_of_ble_eq_true rfl) rfl rfl (jz_cv ?_)
          refine jm_Q.mono h (jp_v_mono (fun J20 K21 h => ?_))
          refine jw_iload_n rfl rfl ?_
          refine jw_iret rfl ?_
          exact h
        · replace h := h.2 c16
          by_cases c22 : r5 = 80
          · replace h := h.1 c22
            refine jw_look (o := 75) (pc2 := 128) rfl o6 (by rw [c22]; rfl) (by omega) ?_
            refine jw_aload_n rfl rfl ?_
            refine jw_bipush rfl (by decide) ?_
            refine jw_iconst rfl ?_
            refine jw_iconst rfl ?_
            refine jw_iconst rfl ?_
            refine jw_iconst rfl ?_
            refine jw_virt (k := 5) (c := 19) (as := [.int (Int32.ofInt 9), .int (Int32.ofInt 1), .int (Int32.ofInt (-1)), .int (Int32.ofInt (-1)), .int (Int32.ofInt (-1))]) rfl rfl rfl (Nat.le_of_ble_eq_true rfl) rfl (Nat.le_of_ble_eq_true rfl) rfl rfl (jz_ci ?_)
            refine jm_Q.mono h (jp_i_mono (fun r25 J23 K24 h => ?_))
            refine jw_iret rfl ?_
            exact h
          · replace h := h.2 c22
            by_cases c26 : r5 = 83
            · replace h := h.1 c26
              refine jw_look (o := 64) (pc2 := 117) rfl o6 (by rw [c26]; rfl) (by omega) ?_
              refine jw_aload_n rfl rfl ?_
              refine jw_bipush rfl (by decide) ?_
              refine jw_iconst rfl ?_
              refine jw_iconst rfl ?_
              refine jw_iconst rfl ?_
              refine jw_iconst rfl ?_
              refine jw_virt (k := 5) (c := 19) (as := [.int (Int32.ofInt 9), .int (Int32.ofInt 0), .int (Int32.ofInt (-1)), .int (Int32.ofInt (-1)), .int (Int32.ofInt (-1))]) rfl rfl rfl (Nat.le_of_ble_eq_true rfl) rfl (Nat.le_of_ble_eq_true rfl) rfl rfl (jz_ci ?_)
              refine jm_Q.mono h (jp_i_mono (fun r29 J27 K28 h => ?_))
              refine jw_iret rfl ?_
              exact h
            · replace h := h.2 c26
              by_cases c30 : r5 = 84
              · replace h := h.1 c30
                refine jw_look (o := 86) (pc2 := 139) rfl o6 (by rw [c30]; rfl) (by omega) ?_
                refine jw_aload_n rfl rfl ?_
                refine jw_bipush rfl (by decide) ?_
                refine jw_iconst rfl ?_
                refine jw_iconst rfl ?_
                refine jw_iconst rfl ?_
                refine jw_iconst rfl ?_
                refine jw_virt (k := 5) (c := 19) (as := [.int (Int32.ofInt 9), .int (Int32.ofInt 2), .int (Int32.ofInt (-1)), .int (Int32.ofInt (-1)), .int (Int32.ofInt (-1))]) rfl rfl rfl (Nat.le_of_ble_eq_true rfl) rfl (Nat.le_of_ble_eq_true rfl) rfl rfl (jz_ci ?_)
                refine jm_Q.mono h (jp_i_mono (fun r33 J31 K32 h => ?_))
                refine jw_iret rfl ?_
                exact h
              · replace h := h.2 c30
                by_cases c34 : r5 = 123
                · replace h := h.1 c34
                  refine jw_look (o := 110) (pc2 := 163) rfl o6 (by rw [c34]; rfl) (by omega) ?_
                  refine jw_aload_n rfl rfl ?_
                  refine jw_virt (k := 0) (c := 19) (as := []) rfl rfl rfl (Nat.le_of_ble_eq_true rfl) rfl (Nat.le_of_ble_eq_true rfl) rfl rfl (jz_ci ?_)
                  refine jm_Q.mono h (jp_i_mono (fun r37 J35 K36 h => ?_))
                  refine jw_iret rfl ?_
                  exact h
                · replace h := h.2 c34
                  refine jw_look (o := 115) (pc2 := 168) rfl o6 (by simp [Op.lookupswitch.offset]; (repeat' split) <;> omega) (by omega) ?_
                  refine jw_aload_n rfl rfl ?_
                  refine jw_dup_r rfl ?_
                  refine jw_gf (v := ((J3 167 38) + 1)) rfl (by decide) rfl (by simp [jm_up]) ?_
                  refine jw_iconst rfl ?_
                  refine jw_isub rfl ?_
                  refine jw_pf rfl rfl ?_
                  refine jw_aload_n rfl rfl ?_
                  refine jw_aload_n rfl rfl ?_
                  refine jw_gf (v := (((J3 167 38) + 1) - 1)) rfl (by decide) rfl (by simp [jm_up]) ?_
                  refine jw_virt (k := 1) (c := 19) (as := [.int (Int32.ofInt (((J3 167 38) + 1) - 1))]) rfl rfl rfl (Nat.le_of_ble_eq_true rfl) rfl (Nat.le_of_ble_eq_true rfl) rfl rfl (jz_ci ?_)
                  refine jm_Q.mono h (jp_i_mono (fun r40 J38 K39 h => ?_))
                  refine jw_iret rfl ?_
                  exact h
  · replace h := h.2 c2
    refine jw_iconst rfl ?_
    refine jw_iret rfl ?_
    exact h
set_option maxHeartbeats 4000000 in
theorem e_217 {xs : Nat → Int32} {L d : Nat} {J K : jZ} {P : Int → jZ → jZ → Prop} (h : (-2147483648 ≤ J 167 38 ∧ J 167 38 < 2147483648) ∧ (-2147483648 ≤ J 167 7 ∧ J 167 7 < 2147483648) ∧ ((J 167 7) ≤ (J 167 38) → P (-1) J K) ∧ ((J 167 38) < (J 167 7) → ((0 : Int) ≤ J 167 38 ∧ J 167 38 < 250) ∧ (-2147483648 ≤ J 182 (J 167 38).toNat ∧ J 182 (J 167 38).toNat < 2147483648) ∧ (¬ (J 182 (J 167 38).toNat) = 32 → P (J 182 (J 167 38).toNat) J K) ∧ ((J 182 (J 167 38).toNat) = 32 → l_217_0 xs L d (jm_up J 167 38 ((J 167 38) + 1)) K P))) : q_217 xs L (d + 1) J K P := by
  unfold q_217
  refine jq_in (ls := [some (.ref 167)]) rfl (Nat.le_of_ble_eq_true rfl) rfl ?_
  refine jw_aload_n rfl rfl ?_
  refine jw_gf (v := (J 167 38)) rfl (by decide) rfl rfl ?_
  refine jw_aload_n rfl rfl ?_
  refine jw_gf (v := (J 167 7)) rfl (by decide) rfl rfl ?_
  obtain ⟨o1, h⟩ := h
  obtain ⟨o2, h⟩ := h
  refine jw_ic_ge rfl o1 o2 (fun c3 => ?_) (fun c3 => ?_)
  · replace h := h.1 c3
    refine jw_aload_n rfl rfl ?_
    refine jw_gf (v := (J 167 38)) rfl (by decide) rfl rfl ?_
    refine jw_aload_n rfl rfl ?_
    refine jw_gf (v := (J 167 7)) rfl (by decide) rfl rfl ?_
    refine jw_ic_ge rfl o1 o2 (fun _ => ?_) (fun hc => by exfalso; omega)
    refine jw_iconst rfl ?_
    refine jw_iret rfl ?_
    exact h
  · replace h := h.2 c3
    refine jw_aload_n rfl rfl ?_
    refine jw_gr (q := 182) rfl rfl rfl ?_
    refine jw_aload_n rfl rfl ?_
    refine jw_gf (v := (J 167 38)) rfl (by decide) rfl rfl ?_
    obtain ⟨o4, h⟩ := h
    refine jw_iald (v := (J 182 (J 167 38).toNat)) (N := 250) rfl rfl rfl (by omega) o4 rfl ?_
    refine jw_bipush rfl (by decide) ?_
    obtain ⟨o5, h⟩ := h
    refine jw_ic_ne rfl o5 (by omega) (fun c6 => ?_) (fun c6 => ?_)
    · replace h := h.1 c6
      refine jw_aload_n rfl rfl ?_
      refine jw_gf (v := (J 167 38)) rfl (by decide) rfl rfl ?_
      refine jw_aload_n rfl rfl ?_
      refine jw_gf (v := (J 167 7)) rfl (by decide) rfl rfl ?_
      refine jw_ic_ge rfl o1 o2 (fun hc => by exfalso; omega) (fun _ => ?_)
      refine jw_aload_n rfl rfl ?_
      refine jw_gr (q := 182) rfl rfl rfl ?_
      refine jw_aload_n rfl rfl ?_
      refine jw_gf (v := (J 167 38)) rfl (by decide) rfl rfl ?_
      refine jw_iald (v := (J 182 (J 167 38).toNat)) (N := 250) rfl rfl rfl (by omega) o4 rfl ?_
      refine jw_goto rfl ?_
      refine jw_iret rfl ?_
      exact h
    · replace h := h.2 c6
      refine jw_aload_n rfl rfl ?_
      refine jw_dup_r rfl ?_
      refine jw_gf (v := (J 167 38)) rfl (by decide) rfl rfl ?_
      refine jw_iconst rfl ?_
      refine jw_iadd rfl ?_
      refine jw_pf rfl rfl ?_
      refine jw_goto rfl ?_
      exact jz_fg (l := [some (.ref 167)]) ⟨rfl, trivial⟩ h
set_option maxHeartbeats 4000000 in
theorem e_217_0 {xs : Nat → Int32} {L d : Nat} {J K : jZ} {P : Int → jZ → jZ → Prop} (h : (-2147483648 ≤ J 167 38 ∧ J 167 38 < 2147483648) ∧ (-2147483648 ≤ J 167 7 ∧ J 167 7 < 2147483648) ∧ ((J 167 7) ≤ (J 167 38) → P (-1) J K) ∧ ((J 167 38) < (J 167 7) → ((0 : Int) ≤ J 167 38 ∧ J 167 38 < 250) ∧ (-2147483648 ≤ J 182 (J 167 38).toNat ∧ J 182 (J 167 38).toNat < 2147483648) ∧ (¬ (J 182 (J 167 38).toNat) = 32 → P (J 182 (J 167 38).toNat) J K) ∧ ((J 182 (J 167 38).toNat) = 32 → l_217_0 xs L d (jm_up J 167 38 ((J 167 38) + 1)) K P))) : l_217_0 xs L d J K P := by
  unfold l_217_0
  refine jw_aload_n rfl rfl ?_
  refine jw_gf (v := (J 167 38)) rfl (by decide) rfl rfl ?_
  refine jw_aload_n rfl rfl ?_
  refine jw_gf (v := (J 167 7)) rfl (by decide) rfl rfl ?_
  obtain ⟨o1, h⟩ := h
  obtain ⟨o2, h⟩ := h
  refine jw_ic_ge rfl o1 o2 (fun c3 => ?_) (fun c3 => ?_)
  · replace h := h.1 c3
    refine jw_aload_n rfl rfl ?_
    refine jw_gf (v := (J 167 38)) rfl (by decide) rfl rfl ?_
    refine jw_aload_n rfl rfl ?_
    refine jw_gf (v := (J 167 7)) rfl (by decide) rfl rfl ?_
    refine jw_ic_ge rfl o1 o2 (fun _ => ?_) (fun hc => by exfalso; omega)
    refine jw_iconst rfl ?_
    refine jw_iret rfl ?_
    exact h
  · replace h := h.2 c3
    refine jw_aload_n rfl rfl ?_
    refine jw_gr (q := 182) rfl rfl rfl ?_
    refine jw_aload_n rfl rfl ?_
    refine jw_gf (v := (J 167 38)) rfl (by decide) rfl rfl ?_
    obtain ⟨o4, h⟩ := h
    refine jw_iald (v := (J 182 (J 167 38).toNat)) (N := 250) rfl rfl rfl (by omega) o4 rfl ?_
    refine jw_bipush rfl (by decide) ?_
    obtain ⟨o5, h⟩ := h
    refine jw_ic_ne rfl o5 (by omega) (fun c6 => ?_) (fun c6 => ?_)
    · replace h := h.1 c6
      refine jw_aload_n rfl rfl ?_
      refine jw_gf (v := (J 167 38)) rfl (by decide) rfl rfl ?_
      refine jw_aload_n rfl rfl ?_
      refine jw_gf (v := (J 167 7)) rfl (by decide) rfl rfl ?_
      refine jw_ic_ge rfl o1 o2 (fun hc => by exfalso; omega) (fun _ => ?_)
      refine jw_aload_n rfl rfl ?_
      refine jw_gr (q := 182) rfl rfl rfl ?_
      refine jw_aload_n rfl rfl ?_
      refine jw_gf (v := (J 167 38)) rfl (by decide) rfl rfl ?_
      refine jw_iald (v := (J 182 (J 167 38).toNat)) (N := 250) rfl rfl rfl (by omega) o4 rfl ?_
      refine jw_goto rfl ?_
      refine jw_iret rfl ?_
      exact h
    · replace h := h.2 c6
      refine jw_aload_n rfl rfl ?_
      refine jw_dup_r rfl ?_
      refine jw_gf (v := (J 167 38)) rfl (by decide) rfl rfl ?_
      refine jw_iconst rfl ?_
      refine jw_iadd rfl ?_
      refine jw_pf rfl rfl ?_
      refine jw_goto rfl ?_
      exact jz_fg (l := [some (.ref 167)]) ⟨rfl, trivial⟩ h
set_option maxHeartbeats 4000000 in
theorem e_218 {xs : Nat → Int32} {L d : Nat} {v1 : Int} {v2 : Int} {v3 : Int} {v4 : Int} {v5 : Int} {J K : jZ} {P : Int → jZ → jZ → Prop} (h : (-2147483648 ≤ J 167 40 ∧ J 167 40 < 2147483648) ∧ (24 ≤ (J 167 40) → P (((J 167 40) + 1) - 1) (jm_up J 167 40 ((J 167 40) + 1)) K) ∧ ((J 167 40) < 24 → ((0 : Int) ≤ J 167 40 ∧ J 167 40 < 24) ∧ ((0 : Int) ≤ (4 * (J 167 40)) ∧ (4 * (J 167 40)) < 96) ∧ ((0 : Int) ≤ ((4 * (J 167 40)) + 1) ∧ ((4 * (J 167 40)) + 1) < 96) ∧ ((0 : Int) ≤ ((4 * (J 167 40)) + 2) ∧ ((4 * (J 167 40)) + 2) < 96) ∧ ((0 : Int) ≤ ((4 * (J 167 40)) + 3) ∧ ((4 * (J 167 40)) + 3) < 96) ∧ P (((J 167 40) + 1) - 1) (jm_up (jm_up (jm_up (jm_up (jm_up (jm_up J 187 (J 167 40).toNat v1) 188 (4 * (J 167 40)).toNat v2) 188 ((4 * (J 167 40)) + 1).toNat v3) 188 ((4 * (J 167 40)) + 2).toNat v4) 188 ((4 * (J 167 40)) + 3).toNat v5) 167 40 ((J 167 40) + 1)) K)) : q_218 xs L (d + 1) v1 v2 v3 v4 v5 J K P := by
  unfold q_218
  refine jq_in (ls := [some (.ref 167), some (.int (Int32.ofInt v1)), some (.int (Int32.ofInt v2)), some (.int (Int32.ofInt v3)), some (.int (Int32.ofInt v4)), some (.int (Int32.ofInt v5))]) rfl (Nat.le_of_ble_eq_true rfl) rfl ?_
  refine jw_aload_n rfl rfl ?_
  refine jw_gf (v := (J 167 40)) rfl (by decide) rfl rfl ?_
  refine jw_bipush rfl (by decide) ?_
  obtain ⟨o1, h⟩ := h
  refine jw_ic_ge rfl o1 (by omega) (fun c2 => ?_) (fun c2 => ?_)
  · replace h := h.1 c2
    refine jw_aload_n rfl rfl ?_
    refine jw_dup_r rfl ?_
    refine jw_gf (v := (J 167 40)) rfl (by decide) rfl rfl ?_
    refine jw_iconst rfl ?_
    refine jw_iadd rfl ?_
    refine jw_pf rfl rfl ?_
    refine jw_aload_n rfl rfl ?_
    refine jw_gf (v := ((J 167 40) + 1)) rfl (by decide) rfl (by simp [jm_up]) ?_
    refine jw_iconst rfl ?_
    refine jw_isub rfl ?_
    refine jw_iret rfl ?_
    exact h
  · replace h := h.2 c2
    refine jw_aload_n rfl rfl ?_
    refine jw_gr (q := 187) rfl rfl rfl ?_
    refine jw_aload_n rfl rfl ?_
    refine jw_gf (v := (J 167 40)) rfl (by decide) rfl rfl ?_
    refine jw_iload_n rfl rfl ?_
    obtain ⟨o3, h⟩ := h
    refine jw_iast (N := 24) rfl rfl rfl (by omega) o3 ?_
    refine jw_aload_n rfl rfl ?_
    refine jw_gr (q := 188) rfl rfl rfl ?_
    refine jw_iconst rfl ?_
    refine jw_aload_n rfl rfl ?_
    refine jw_gf (v := (J 167 40)) rfl (by decide) rfl (by simp [jm_up]) ?_
    refine jw_imul rfl ?_
    refine jw_iload_n rfl rfl ?_
    obtain ⟨o4, h⟩ := h
    refine jw_iast (N := 96) rfl rfl rfl (by omega) o4 ?_
    refine jw_aload_n rfl rfl ?_
    refine jw_gr (q := 188) rfl rfl rfl ?_
    refine jw_iconst rfl ?_
    refine jw_aload_n rfl rfl ?_
    refine jw_gf (v := (J 167 40)) rfl (by decide) rfl (by simp [jm_up]) ?_
    refine jw_imul rfl ?_
    refine jw_iconst rfl ?_
    refine jw_iadd rfl ?_
    refine jw_iload_n rfl rfl ?_
    obtain ⟨o5, h⟩ := h
    refine jw_iast (N := 96) rfl rfl rfl (by omega) o5 ?_
    refine jw_aload_n rfl rfl ?_
    refine jw_gr (q := 188) rfl rfl rfl ?_
    refine jw_iconst rfl ?_
    refine jw_aload_n rfl rfl ?_
    refine jw_gf (v := (J 167 40)) rfl (by decide) rfl (by simp [jm_up]) ?_
    refine jw_imul rfl ?_
    refine jw_iconst rfl ?_
    refine jw_iadd rfl ?_
    refine jw_iload rfl rfl ?_
    obtain ⟨o6, h⟩ := h
    refine jw_iast (N := 96) rfl rfl rfl (by omega) o6 ?_
    refine jw_aload_n rfl rfl ?_
    refine jw_gr (q := 188) rfl rfl rfl ?_
    refine jw_iconst rfl ?_
    refine jw_aload_n rfl rfl ?_
    refine jw_gf (v := (J 167 40)) rfl (by decide) rfl (by simp [jm_up]) ?_
    refine jw_imul rfl ?_
    refine jw_iconst rfl ?_
    refine jw_iadd rfl ?_
    refine jw_iload rfl rfl ?_
    obtain ⟨o7, h⟩ := h
    refine jw_iast (N := 96) rfl rfl rfl (by omega) o7 ?_
    refine jw_aload_n rfl rfl ?_
    refine jw_dup_r rfl ?_
    refine jw_gf (v := (J 167 40)) rfl (by decide) rfl (by simp [jm_up]) ?_
    refine jw_iconst rfl ?_
    refine jw_iadd rfl ?_
    refine jw_pf rfl rfl ?_
    refine jw_aload_n rfl rfl ?_
    refine jw_gf (v := ((J 167 40) + 1)) rfl (by decide) rfl (by simp [jm_up]) ?_
    refine jw_iconst rfl ?_
    refine jw_isub rfl ?_
    refine jw_iret rfl ?_
    exact h
set_option maxHeartbeats 4000000 in
theorem e_219 {xs : Nat → Int32} {L d : Nat} {J K : jZ} {P : Int → jZ → jZ → Prop} (h : l_219_4 xs L (d + 1) 0 0 J K P) : q_219 xs L (d + 2) J K P := by
  unfold q_219
  refine jq_in (ls := [some (.ref 167), none, none]) rfl (Nat.le_of_ble_eq_true rfl) rfl ?_
  refine jw_iconst rfl ?_
  refine jw_istore_n (ls' := [some (.ref 167), some (.int (Int32.ofInt 0)), none]) rfl rfl ?_
  refine jw_iconst rfl ?_
  refine jw_istore_n (ls' := [some (.ref 167), some (.int (Int32.ofInt 0)), some (.int (Int32.ofInt 0))]) rfl rfl ?_
  exact jz_fg (l := [some (.ref 167), some (.int (Int32.ofInt 0)), some (.int (Int32.ofInt 0))]) ⟨rfl, rfl, rfl, trivial⟩ h
set_option maxHeartbeats 4000000 in
theorem e_219_4 {xs : Nat → Int32} {L d : Nat} {v1 : Int} {v2 : Int} {J K : jZ} {P : Int → jZ → jZ → Prop} (h : (-2147483648 ≤ v2 ∧ v2 < 2147483648) ∧ (4 ≤ v2 → l_219_22 xs L (d + 1) v1 J K P) ∧ (v2 < 4 → ((0 : Int) ≤ v2 ∧ v2 < 4) ∧ l_219_4 xs L (d + 1) v1 (v2 + 1) (jm_up J 204 v2.toNat (-1)) K P)) : l_219_4 xs L (d + 1) v1 v2 J K P := by
  unfold l_219_4
  refine jw_iload_n rfl rfl ?_
  refine jw_iconst rfl ?_
  obtain ⟨o1, h⟩ := h
  refine jw_ic_ge rfl o1 (by omega) (fun c2 => ?_) (fun c2 => ?_)
  · replace h := h.1 c2
    exact jz_fg (l := [some (.ref 167), some (.int (Int32.ofInt v1)), none]) ⟨rfl, rfl, jz_ni, trivial⟩ h
  · replace h := h.2 c2
    refine jw_aload_n rfl rfl ?_
    refine jw_gr (q := 204) rfl rfl rfl ?_
    refine jw_iload_n rfl rfl ?_
    refine jw_iconst rfl ?_
    obtain ⟨o3, h⟩ := h
    refine jw_iast (N := 4) rfl rfl rfl (by omega) o3 ?_
    refine jw_iinc (ls' := [some (.ref 167), some (.int (Int32.ofInt v1)), some (.int (Int32.ofInt (v2 + 1)))]) rfl rfl rfl ?_
    refine jw_goto rfl ?_
    exact jz_fg (l := [some (.ref 167), some (.int (Int32.ofInt v1)), some (.int (Int32.ofInt (v2 + 1)))]) ⟨rfl, rfl, rfl, trivial⟩ h
set_option maxHeartbeats 4000000 in
theorem e_219_22 {xs : Nat → Int32} {L d : Nat} {v1 : Int} {J K : jZ} {P : Int → jZ → jZ → Prop} (h : (-2147483648 ≤ v1 ∧ v1 < 2147483648) ∧ (4 ≤ v1 → (2 ≤ v1 → q_221 xs L (d + 1) 39 J K (fun J4 K5 => (-2147483648 ≤ J4 167 39 ∧ J4 167 39 < 2147483648) ∧ ((J4 167 39) = (-1) → q_218 xs L (d + 1) 1 (J4 204 (Int.toNat 0)) (J4 204 (Int.toNat 1)) (J4 204 (Int.toNat 2)) (J4 204 (Int.toNat 3)) J4 K5 (fun r10 J8 K9 => P r10 J8 K9)) ∧ (¬ (J4 167 39) = (-1) → P 0 J4 K5))) ∧ (v1 < 2 → q_220 xs L (d + 1) (J 167 38) J K (fun r13 J11 K12 => P r13 J11 K12))) ∧ (v1 < 4 → q_217 xs L (d + 1) J K (fun r16 J14 K15 => (-2147483648 ≤ r16 ∧ r16 < 2147483648) ∧ ((97 ≤ r16 ∧ r16 ≤ 112) → ((0 : Int) ≤ J14 167 38 ∧ J14 167 38 < 250) ∧ ((0 : Int) ≤ v1 ∧ v1 < 4) ∧ l_219_22 xs L (d + 1) (v1 + 1) (jm_up (jm_up J14 167 38 ((J14 167 38) + 1)) 204 v1.toNat ((J14 182 (J14 167 38).toNat) - 97)) K15 P) ∧ (¬ (97 ≤ r16 ∧ r16 ≤ 112) → (2 ≤ v1 → q_221 xs L (d + 1) 39 J14 K15 (fun J22 K23 => (-2147483648 ≤ J22 167 39 ∧ J22 167 39 < 2147483648) ∧ ((J22 167 39) = (-1) → q_218 xs L (d + 1) 1 (J22 204 (Int.toNat 0)) (J22 204 (Int.toNat 1)) (J22 204 (Int.toNat 2)) (J22 204 (Int.toNat 3)) J22 K23 (fun r28 J26 K27 => P r28 J26 K27)) ∧ (¬ (J22 167 39) = (-1) → P 0 J22 K23))) ∧ (v1 < 2 → q_220 xs L (d + 1) (J14 167 38) J14 K15 (fun r31 J29 K30 => P r31 J29 K30)))))) : l_219_22 xs L (d + 1) v1 J K P := by
  unfold l_219_22
  refine jw_iload_n rfl rfl ?_
  refine jw_iconst rfl ?_
  obtain ⟨o1, h⟩ := h
  refine jw_ic_ge rfl o1 (by omega) (fun c2 => ?_) (fun c2 => ?_)
  · replace h := h.1 c2
    refine jw_iload_n rfl rfl ?_
    refine jw_iconst rfl ?_
    refine jw_ic_ge rfl o1 (by omega) (fun c3 => ?_) (fun c3 => ?_)
    · replace h := h.1 c3
      refine jw_aload_n rfl rfl ?_
      refine jw_bipush rfl (by decide) ?_
      refine jw_virt (k := 1) (c := 19) (as := [.int (Int32.ofInt 39)]) rfl rfl rfl (Nat.le_of_ble_eq_true rfl) rfl (Nat.le_of_ble_eq_true rfl) rfl rfl (jz_cv ?_)
      refine jm_Q.mono h (jp_v_mono (fun J4 K5 h => ?_))
      refine jw_aload_n rfl rfl ?_
      refine jw_gf (v := (J4 167 39)) rfl (by decide) rfl rfl ?_
      refine jw_iconst rfl ?_
      obtain ⟨o6, h⟩ := h
      refine jw_ic_eq rfl o6 (by omega) (fun c7 => ?_) (fun c7 => ?_)
      · replace h := h.1 c7
        refine jw_aload_n rfl rfl ?_
        refine jw_iconst rfl ?_
        refine jw_aload_n rfl rfl ?_
        refine jw_gr (q := 204) rfl rfl rfl ?_
        refine jw_iconst rfl ?_
        refine jw_iald (v := (J4 204 (Int.toNat 0))) (N := 4) rfl rfl rfl (by omega) (by omega) rfl ?_
        refine jw_aload_n rfl rfl ?_
        refine jw_gr (q := 204) rfl rfl rfl ?_
        refine jw_iconst rfl ?_
        refine jw_iald (v := (J4 204 (Int.toNat 1))) (N := 4) rfl rfl rfl (by omega) (by omega) rfl ?_
        refine jw_aload_n rfl rfl ?_
        refine jw_gr (q := 204) rfl rfl rfl ?_
        refine jw_iconst rfl ?_
        refine jw_iald (v := (J4 204 (Int.toNat 2))) (N := 4) rfl rfl rfl (by omega) (by omega) rfl ?_
        refine jw_aload_n rfl rfl ?_
        refine jw_gr (q := 204) rfl rfl rfl ?_
        refine jw_iconst rfl ?_
        refine jw_iald (v := (J4 204 (Int.toNat 3))) (N := 4) rfl rfl rfl (by omega) (by omega) rfl ?_
        refine jw_virt (k := 5) (c := 19) (as := [.int (Int32.ofInt 1), .int (Int32.ofInt (J4 204 (Int.toNat 0))), .int (Int32.ofInt (J4 204 (Int.toNat 1))), .int (Int32.ofInt (J4 204 (Int.toNat 2))), .int (Int32.ofInt (J4 204 (Int.toNat 3)))]) rfl rfl rfl (Nat.le_of_ble_eq_true rfl) rfl (Nat.le_of_ble_eq_true rfl) rfl rfl (jz_ci ?_)
        refine jm_Q.mono h (jp_i_mono (fun r10 J8 K9 h => ?_))
        refine jw_iret rfl ?_
        exact h
      · replace h := h.2 c7
        refine jw_iconst rfl ?_
        refine jw_goto rfl ?_
        refine jw_iret rfl ?_
        exact h
    · replace h := h.2 c3
      refine jw_aload_n rfl rfl ?_
      refine jw_aload_n rfl rfl ?_
      refine jw_gf (v := (J 167 38)) rfl (by decide) rfl rfl ?_
      refine jw_virt (k := 1) (c := 19) (as := [.int (Int32.ofInt (J 167 38))]) rfl rfl rfl (Nat.le_of_ble_eq_true rfl) rfl (Nat.le_of_ble_eq_true rfl) rfl rfl (jz_ci ?_)
      refine jm_Q.mono h (jp_i_mono (fun r13 J11 K12 h => ?_))
      refine jw_iret rfl ?_
      exact h
  · replace h := h.2 c2
    refine jw_aload_n rfl rfl ?_
    refine jw_virt (k := 0) (c := 19) (as := []) rfl rfl rfl (Nat.le_of_ble_eq_true rfl) rfl (Nat.le_of_ble_eq_true rfl) rfl rfl (jz_ci ?_)
    refine jm_Q.mono h (jp_i_mono (fun r16 J14 K15 h => ?_))
    obtain ⟨o17, h⟩ := h
    refine jw_i2l rfl o17 ?_
    refine jw_ldc2_w rfl ?_
    refine jw_ldc2_w rfl ?_
    refine jw_stat (k := 3) (as := [.long (Int64.ofInt r16), .long (Int64.ofInt 97), .long (Int64.ofInt 112)]) rfl (by decide) rfl rfl (Nat.le_of_ble_eq_true rfl) rfl (Nat.le_of_ble_eq_true rfl) (jz_ci ?_)
    refine sb_169 (by omega) (by omega) (by omega) (fun c18 => ?_) (fun c18 => ?_)
    · replace h := h.1 c18
      refine jw_if_eq rfl (by omega) (fun hc => by exfalso; omega) (fun _ => ?_)
      refine jw_aload_n rfl rfl ?_
      refine jw_gr (q := 204) rfl rfl rfl ?_
      refine jw_iload_n rfl rfl ?_
      refine jw_iinc (ls' := [some (.ref 167), some (.int (Int32.ofInt (v1 + 1))), none]) rfl rfl rfl ?_
      refine jw_aload_n rfl rfl ?_
      refine jw_gr (q := 182) rfl rfl rfl ?_
      refine jw_aload_n rfl rfl ?_
      refine jw_dup_r rfl ?_
      refine jw_gf (v := (J14 167 38)) rfl (by decide) rfl rfl ?_
      refine jw_dup_x1 rfl ?_
      refine jw_iconst rfl ?_
      refine jw_iadd rfl ?_
      refine jw_pf rfl rfl ?_
      obtain ⟨o19, h⟩ := h
      refine jw_iald (v := (J14 182 (J14 167 38).toNat)) (N := 250) rfl rfl rfl (by omega) o19 (by simp [jm_up]) ?_
      refine jw_bipush rfl (by decide) ?_
      refine jw_isub rfl ?_
      obtain ⟨o20, h⟩ := h
      refine jw_iast (N := 4) rfl rfl rfl (by omega) o20 ?_
      refine jw_goto rfl ?_
      exact jz_fg (l := [some (.ref 167), some (.int (Int32.ofInt (v1 + 1))), none]) ⟨rfl, rfl, jz_n0, trivial⟩ h
    · replace h := h.2 c18
      refine jw_if_eq rfl (by omega) (fun _ => ?_) (fun hc => by exfalso; omega)
      refine jw_iload_n rfl rfl ?_
      refine jw_iconst rfl ?_
      refine jw_ic_ge rfl o1 (by omega) (fun c21 => ?_) (fun c21 => ?_)
      · replace h := h.1 c21
        refine jw_aload_n rfl rfl ?_
        refine jw_bipush rfl (by decide) ?_
        refine jw_virt (k := 1) (c := 19) (as := [.int (Int32.ofInt 39)]) rfl rfl rfl (Nat.le_of_ble_eq_true rfl) rfl (Nat.le_of_ble_eq_true rfl) rfl rfl (jz_cv ?_)
        refine jm_Q.mono h (jp_v_mono (fun J22 K23 h => ?_))
        refine jw_aload_n rfl rfl ?_
        refine jw_gf (v := (J22 167 39)) rfl (by decide) rfl rfl ?_
        refine jw_iconst rfl ?_
        obtain ⟨o24, h⟩ := h
        refine jw_ic_eq rfl o24 (by omega) (fun c25 => ?_) (fun c25 => ?_)
        · replace h := h.1 c25
          refine jw_aload_n rfl rfl ?_
          refine jw_iconst rfl ?_
          refine jw_aload_n rfl rfl ?_
          refine jw_gr (q := 204) rfl rfl rfl ?_
          refine jw_iconst rfl ?_
          refine jw_iald (v := (J22 204 (Int.toNat 0))) (N := 4) rfl rfl rfl (by omega) (by omega) rfl ?_
          refine jw_aload_n rfl rfl ?_
          refine jw_gr (q := 204) rfl rfl rfl ?_
          refine jw_iconst rfl ?_
          refine jw_iald (v := (J22 204 (Int.toNat 1))) (N := 4) rfl rfl rfl (by omega) (by omega) rfl ?_
          refine jw_aload_n rfl rfl ?_
          refine jw_gr (q := 204) rfl rfl rfl ?_
          refine jw_iconst rfl ?_
          refine jw_iald (v := (J22 204 (Int.toNat 2))) (N := 4) rfl rfl rfl (by omega) (by omega) rfl ?_
          refine jw_aload_n rfl rfl ?_
          refine jw_gr (q := 204) rfl rfl rfl ?_
          refine jw_iconst rfl ?_
          refine jw_iald (v := (J22 204 (Int.toNat 3))) (N := 4) rfl rfl rfl (by omega) (by omega) rfl ?_
          refine jw_virt (k := 5) (c := 19) (as := [.int (Int32.ofInt 1), .int (Int32.ofInt (J22 204 (Int.toNat 0))), .int (Int32.ofInt (J22 204 (Int.toNat 1))), .int (Int32.ofInt (J22 204 (Int.toNat 2))), .int (Int32.ofInt (J22 204 (Int.toNat 3)))]) rfl rfl rfl (Nat.le_of_ble_eq_true rfl) rfl (Nat.le_of_ble_eq_true rfl) rfl rfl (jz_ci ?_)
          refine jm_Q.mono h (jp_i_mono (fun r28 J26 K27 h => ?_))
          refine jw_iret rfl ?_
          exact h
        · replace h := h.2 c25
          refine jw_iconst rfl ?_
          refine jw_goto rfl ?_
          refine jw_iret rfl ?_
          exact h
      · replace h := h.2 c21
        refine jw_aload_n rfl rfl ?_
        refine jw_aload_n rfl rfl ?_
        refine jw_gf (v := (J14 167 38)) rfl (by decide) rfl rfl ?_
        refine jw_virt (k := 1) (c := 19) (as := [.int (Int32.ofInt (J14 167 38))]) rfl rfl rfl (Nat.le_of_ble_eq_true rfl) rfl (Nat.le_of_ble_eq_true rfl) rfl rfl (jz_ci ?_)
        refine jm_Q.mono h (jp_i_mono (fun r31 J29 K30 h => ?_))
        refine jw_iret rfl ?_
        exact h
set_option maxHeartbeats 4000000 in
theorem e_220 {xs : Nat → Int32} {L d : Nat} {v1 : Int} {J K : jZ} {P : Int → jZ → jZ → Prop} (h : (-2147483648 ≤ J 167 39 ∧ J 167 39 < 2147483648) ∧ (¬ (J 167 39) = (-1) → P 0 (jm_up J 167 39 (J 167 39)) K) ∧ ((J 167 39) = (-1) → P 0 (jm_up J 167 39 v1) K)) : q_220 xs L (d + 1) v1 J K P := by
  unfold q_220
  refine jq_in (ls := [some (.ref 167), some (.int (Int32.ofInt v1))]) rfl (Nat.le_of_ble_eq_true rfl) rfl ?_
  refine jw_aload_n rfl rfl ?_
  refine jw_aload_n rfl rfl ?_
  refine jw_gf (v := (J 167 39)) rfl (by decide) rfl rfl ?_
  refine jw_iconst rfl ?_
  obtain ⟨o1, h⟩ := h
  refine jw_ic_ne rfl o1 (by omega) (fun c2 => ?_) (fun c2 => ?_)
  · replace h := h.1 c2
    refine jw_aload_n rfl rfl ?_
    refine jw_gf (v := (J 167 39)) rfl (by decide) rfl rfl ?_
    refine jw_pf rfl rfl ?_
    refine jw_iconst rfl ?_
    refine jw_iret rfl ?_
    exact h
  · replace h := h.2 c2
    refine jw_iload_n rfl rfl ?_
    refine jw_goto rfl ?_
    refine jw_pf rfl rfl ?_
    refine jw_iconst rfl ?_
    refine jw_iret rfl ?_
    exact h
set_option maxHeartbeats 4000000 in
theorem e_221 {xs : Nat → Int32} {L d : Nat} {v1 : Int} {J K : jZ} {P : jZ → jZ → Prop} (h : (-2147483648 ≤ J 167 39 ∧ J 167 39 < 2147483648) ∧ (¬ (J 167 39) = (-1) → P J K) ∧ ((J 167 39) = (-1) → q_222 xs L d v1 J K (fun r5 J3 K4 => (-2147483648 ≤ r5 ∧ r5 < 2147483648) ∧ (¬ r5 = 0 → P J3 K4) ∧ (r5 = 0 → q_220 xs L d (J3 167 38) J3 K4 (fun r10 J8 K9 => P J8 K9))))) : q_221 xs L (d + 1) v1 J K P := by
  unfold q_221
  refine jq_in (ls := [some (.ref 167), some (.int (Int32.ofInt v1))]) rfl (Nat.le_of_ble_eq_true rfl) rfl ?_
  refine jw_aload_n rfl rfl ?_
  refine jw_gf (v := (J 167 39)) rfl (by decide) rfl rfl ?_
  refine jw_iconst rfl ?_
  obtain ⟨o1, h⟩ := h
  refine jw_ic_ne rfl o1 (by omega) (fun c2 => ?_) (fun c2 => ?_)
  · replace h := h.1 c2
    refine jw_vret rfl ?_
    exact h
  · replace h := h.2 c2
    refine jw_aload_n rfl rfl ?_
    refine jw_iload_n rfl rfl ?_
    refine jw_virt (k := 1) (c := 19) (as := [.int (Int32.ofInt v1)]) rfl rfl rfl (Nat.le_of_ble_eq_true rfl) rfl (Nat.le_of_ble_eq_true rfl) rfl rfl (jz_ci ?_)
    refine jm_Q.mono h (jp_i_mono (fun r5 J3 K4 h => ?_))
    obtain ⟨o6, h⟩ := h
    refine jw_if_ne rfl o6 (fun c7 => ?_) (fun c7 => ?_)
    · replace h := h.1 c7
      refine jw_vret rfl ?_
      exact h
    · replace h := h.2 c7
      refine jw_aload_n rfl rfl ?_
      refine jw_aload_n rfl rfl ?_
      refine jw_gf (v := (J3 167 38)) rfl (by decide) rfl rfl ?_
      refine jw_virt (k := 1) (c := 19) (as := [.int (Int32.ofInt (J3 167 38))]) rfl rfl rfl (Nat.le_of_ble_eq_true rfl) rfl (Nat.le_of_ble_eq_true rfl) rfl rfl (jz_ci ?_)
      refine jm_Q.mono h (jp_i_mono (fun r10 J8 K9 h => ?_))
      refine jw_pop_i rfl ?_
      refine jw_vret rfl ?_
      exact h
set_option maxHeartbeats 4000000 in
theorem e_222 {xs : Nat → Int32} {L d : Nat} {v1 : Int} {J K : jZ} {P : Int → jZ → jZ → Prop} (h : (-2147483648 ≤ J 167 39 ∧ J 167 39 < 2147483648) ∧ (¬ (J 167 39) = (-1) → P 0 (jm_up J 167 38 ((J 167 38) + 0)) K) ∧ ((J 167 39) = (-1) → q_217 xs L d J K (fun r5 J3 K4 => (-2147483648 ≤ r5 ∧ r5 < 2147483648) ∧ (-2147483648 ≤ v1 ∧ v1 < 2147483648) ∧ (¬ r5 = v1 → P 0 (jm_up J3 167 38 ((J3 167 38) + 0)) K4) ∧ (r5 = v1 → P 1 (jm_up J3 167 38 ((J3 167 38) + 1)) K4)))) : q_222 xs L (d + 1) v1 J K P := by
  unfold q_222
  refine jq_in (ls := [some (.ref 167), some (.int (Int32.ofInt v1)), none]) rfl (Nat.le_of_ble_eq_true rfl) rfl ?_
  refine jw_aload_n rfl rfl ?_
  refine jw_gf (v := (J 167 39)) rfl (by decide) rfl rfl ?_
  refine jw_iconst rfl ?_
  obtain ⟨o1, h⟩ := h
  refine jw_ic_ne rfl o1 (by omega) (fun c2 => ?_) (fun c2 => ?_)
  · replace h := h.1 c2
    refine jw_iconst rfl ?_
    refine jw_istore_n (ls' := [some (.ref 167), some (.int (Int32.ofInt v1)), some (.int (Int32.ofInt 0))]) rfl rfl ?_
    refine jw_aload_n rfl rfl ?_
    refine jw_dup_r rfl ?_
    refine jw_gf (v := (J 167 38)) rfl (by decide) rfl rfl ?_
    refine jw_iload_n rfl rfl ?_
    refine jw_if_eq rfl (by omega) (fun _ => ?_) (fun hc => by exfalso; omega)
    refine jw_iconst rfl ?_
    refine jw_iadd rfl ?_
    refine jw_pf rfl rfl ?_
    refine jw_iload_n rfl rfl ?_
    refine jw_zret rfl (by omega) ?_
    exact h
  · replace h := h.2 c2
    refine jw_aload_n rfl rfl ?_
    refine jw_virt (k := 0) (c := 19) (as := []) rfl rfl rfl (Nat.le_of_ble_eq_true rfl) rfl (Nat.le_of_ble_eq_true rfl) rfl rfl (jz_ci ?_)
    refine jm_Q.mono h (jp_i_mono (fun r5 J3 K4 h => ?_))
    refine jw_iload_n rfl rfl ?_
    obtain ⟨o6, h⟩ := h
    obtain ⟨o7, h⟩ := h
    refine jw_ic_ne rfl o6 o7 (fun c8 => ?_) (fun c8 => ?_)
    · replace h := h.1 c8
      refine jw_iconst rfl ?_
      refine jw_istore_n (ls' := [some (.ref 167), some (.int (Int32.ofInt v1)), some (.int (Int32.ofInt 0))]) rfl rfl ?_
      refine jw_aload_n rfl rfl ?_
      refine jw_dup_r rfl ?_
      refine jw_gf (v := (J3 167 38)) rfl (by decide) rfl rfl ?_
      refine jw_iload_n rfl rfl ?_
      refine jw_if_eq rfl (by omega) (fun _ => ?_) (fun hc => by exfalso; omega)
      refine jw_iconst rfl ?_
      refine jw_iadd rfl ?_
      refine jw_pf rfl rfl ?_
      refine jw_iload_n rfl rfl ?_
      refine jw_zret rfl (by omega) ?_
      exact h
    · replace h := h.2 c8
      refine jw_iconst rfl ?_
      refine jw_goto rfl ?_
      refine jw_istore_n (ls' := [some (.ref 167), some (.int (Int32.ofInt v1)), some (.int (Int32.ofInt 1))]) rfl rfl ?_
      refine jw_aload_n rfl rfl ?_
      refine jw_dup_r rfl ?_
      refine jw_gf (v := (J3 167 38)) rfl (by decide) rfl rfl ?_
      refine jw_iload_n rfl rfl ?_
      refine jw_if_eq rfl (by omega) (fun hc => by exfalso; omega) (fun _ => ?_)
      refine jw_iconst rfl ?_
      refine jw_goto rfl ?_
      refine jw_iadd rfl ?_
      refine jw_pf rfl rfl ?_
      refine jw_iload_n rfl rfl ?_
      refine jw_zret rfl (by omega) ?_
      exact h
set_option maxHeartbeats 4000000 in
theorem e_223 {xs : Nat → Int32} {L d : Nat} {J K : jZ} {P : Int → jZ → jZ → Prop} (h : q_224 xs L d 1 3 J K (fun r3 J1 K2 => q_212 xs L d J1 K2 (fun r6 J4 K5 => q_221 xs L d 44 J4 K5 (fun J7 K8 => q_212 xs L d J7 K8 (fun r11 J9 K10 => q_221 xs L d 44 J9 K10 (fun J12 K13 => q_212 xs L d J12 K13 (fun r16 J14 K15 => q_221 xs L d 125 J14 K15 (fun J17 K18 => (-2147483648 ≤ J17 167 39 ∧ J17 167 39 < 2147483648) ∧ ((J17 167 39) = (-1) → q_218 xs L d 11 r6 r11 r16 r3 J17 K18 (fun r23 J21 K22 => P r23 J21 K22)) ∧ (¬ (J17 167 39) = (-1) → P 0 J17 K18))))))))) : q_223 xs L (d + 1) J K P := by
  unfold q_223
  refine jq_in (ls := [some (.ref 167), none, none, none, none]) rfl (Nat.le_of_ble_eq_true rfl) rfl ?_
  refine jw_aload_n rfl rfl ?_
  refine jw_iconst rfl ?_
  refine jw_iconst rfl ?_
  refine jw_virt (k := 2) (c := 19) (as := [.int (Int32.ofInt 1), .int (Int32.ofInt 3)]) rfl rfl rfl (Nat.le_of_ble_eq_true rfl) rfl (Nat.le_of_ble_eq_true rfl) rfl rfl (jz_ci ?_)
  refine jm_Q.mono h (jp_i_mono (fun r3 J1 K2 h => ?_))
  refine jw_istore_n (ls' := [some (.ref 167), some (.int (Int32.ofInt r3)), none, none, none]) rfl rfl ?_
  refine jw_aload_n rfl rfl ?_
  refine jw_virt (k := 0) (c := 19) (as := []) rfl rfl rfl (Nat.le_of_ble_eq_true rfl) rfl (Nat.le_of_ble_eq_true rfl) rfl rfl (jz_ci ?_)
  refine jm_Q.mono h (jp_i_mono (fun r6 J4 K5 h => ?_))
  refine jw_istore_n (ls' := [some (.ref 167), some (.int (Int32.ofInt r3)), some (.int (Int32.ofInt r6)), none, none]) rfl rfl ?_
  refine jw_aload_n rfl rfl ?_
  refine jw_bipush rfl (by decide) ?_
  refine jw_virt (k := 1) (c := 19) (as := [.int (Int32.ofInt 44)]) rfl rfl rfl (Nat.le_of_ble_eq_true rfl) rfl (Nat.le_of_ble_eq_true rfl) rfl rfl (jz_cv ?_)
  refine jm_Q.mono h (jp_v_mono (fun J7 K8 h => ?_))
  refine jw_aload_n rfl rfl ?_
  refine jw_virt (k := 0) (c := 19) (as := []) rfl rfl rfl (Nat.le_of_ble_eq_true rfl) rfl (Nat.le_of_ble_eq_true rfl) rfl rfl (jz_ci ?_)
  refine jm_Q.mono h (jp_i_mono (fun r11 J9 K10 h => ?_))
  refine jw_istore_n (ls' := [some (.ref 167), some (.int (Int32.ofInt r3)), some (.int (Int32.ofInt r6)), some (.int (Int32.ofInt r11)), none]) rfl rfl ?_
  refine jw_aload_n rfl rfl ?_
  refine jw_bipush rfl (by decide) ?_
  refine jw_virt (k := 1) (c := 19) (as := [.int (Int32.ofInt 44)]) rfl rfl rfl (Nat.le_of_ble_eq_true rfl) rfl (Nat.le_of_ble_eq_true rfl) rfl rfl (jz_cv ?_)
  refine jm_Q.mono h (jp_v_mono (fun J12 K13 h => ?_))
  refine jw_aload_n rfl rfl ?_
  refine jw_virt (k := 0) (c := 19) (as := []) rfl rfl rfl (Nat.le_of_ble_eq_true rfl) rfl (Nat.le_of_ble_eq_true rfl) rfl rfl (jz_ci ?_)
  refine jm_Q.mono h (jp_i_mono (fun r16 J14 K15 h => ?_))
  refine jw_istore (ls' := [some (.ref 167), some (.int (Int32.ofInt r3)), some (.int (Int32.ofInt r6)), some (.int (Int32.ofInt r11)), some (.int (Int32.ofInt r16))]) rfl rfl ?_
  refine jw_aload_n rfl rfl ?_
  refine jw_bipush rfl (by decide) ?_
  refine jw_virt (k := 1) (c := 19) (as := [.int (Int32.ofInt 125)]) rfl rfl rfl (Nat.le_of_ble_eq_true rfl) rfl (Nat.le_of_ble_eq_true rfl) rfl rfl (jz_cv ?_)
  refine jm_Q.mono h (jp_v_mono (fun J17 K18 h => ?_))
  refine jw_aload_n rfl rfl ?_
  refine jw_gf (v := (J17 167 39)) rfl (by decide) rfl rfl ?_
  refine jw_iconst rfl ?_
  obtain ⟨o19, h⟩ := h
  refine jw_ic_eq rfl o19 (by omega) (fun c20 => ?_) (fun c20 => ?_)
  · replace h := h.1 c20
    refine jw_aload_n rfl rfl ?_
    refine jw_bipush rfl (by decide) ?_
    refine jw_iload_n rfl rfl ?_
    refine jw_iload_n rfl rfl ?_
    refine jw_iload rfl rfl ?_
    refine jw_iload_n rfl rfl ?_
    refine jw_virt (k := 5) (c := 19) (as := [.int (Int32.ofInt 11), .int (Int32.ofInt r6), .int (Int32.ofInt r11), .int (Int32.ofInt r16), .int (Int32.ofInt r3)]) rfl rfl rfl (Nat.le_of_ble_eq_true rfl) rfl (Nat.le_of_ble_eq_true rfl) rfl rfl (jz_ci ?_)
    refine jm_Q.mono h (jp_i_mono (fun r23 J21 K22 h => ?_))
    refine jw_iret rfl ?_
    exact h
  · replace h := h.2 c20
    refine jw_iconst rfl ?_
    refine jw_goto rfl ?_
    refine jw_iret rfl ?_
    exact h
set_option maxHeartbeats 4000000 in
theorem e_224 {xs : Nat → Int32} {L d : Nat} {v1 : Int} {v2 : Int} {J K : jZ} {P : Int → jZ → jZ → Prop} (h : (-2147483648 ≤ J 167 39 ∧ J 167 39 < 2147483648) ∧ ((J 167 39) = (-1) → q_217 xs L (d + 1) J K (fun r5 J3 K4 => l_224_23 xs L (d + 1) v1 v2 (J3 167 38) 0 J3 K4 P)) ∧ (¬ (J 167 39) = (-1) → P 0 J K)) : q_224 xs L (d + 2) v1 v2 J K P := by
  unfold q_224
  refine jq_in (ls := [some (.ref 167), some (.int (Int32.ofInt v1)), some (.int (Int32.ofInt v2)), none, none]) rfl (Nat.le_of_ble_eq_true rfl) rfl ?_
  refine jw_aload_n rfl rfl ?_
  refine jw_gf (v := (J 167 39)) rfl (by decide) rfl rfl ?_
  refine jw_iconst rfl ?_
  obtain ⟨o1, h⟩ := h
  refine jw_ic_eq rfl o1 (by omega) (fun c2 => ?_) (fun c2 => ?_)
  · replace h := h.1 c2
    refine jw_aload_n rfl rfl ?_
    refine jw_virt (k := 0) (c := 19) (as := []) rfl rfl rfl (Nat.le_of_ble_eq_true rfl) rfl (Nat.le_of_ble_eq_true rfl) rfl rfl (jz_ci ?_)
    refine jm_Q.mono h (jp_i_mono (fun r5 J3 K4 h => ?_))
    refine jw_pop_i rfl ?_
    refine jw_aload_n rfl rfl ?_
    refine jw_gf (v := (J3 167 38)) rfl (by decide) rfl rfl ?_
    refine jw_istore_n (ls' := [some (.ref 167), some (.int (Int32.ofInt v1)), some (.int (Int32.ofInt v2)), some (.int (Int32.ofInt (J3 167 38))), none]) rfl rfl ?_
    refine jw_iconst rfl ?_
    refine jw_istore (ls' := [some (.ref 167), some (.int (Int32.ofInt v1)), some (.int (Int32.ofInt v2)), some (.int (Int32.ofInt (J3 167 38))), some (.int (Int32.ofInt 0))]) rfl rfl ?_
    exact jz_fg (l := [some (.ref 167), some (.int (Int32.ofInt v1)), some (.int (Int32.ofInt v2)), some (.int (Int32.ofInt (J3 167 38))), some (.int (Int32.ofInt 0))]) ⟨rfl, rfl, rfl, rfl, rfl, trivial⟩ h
  · replace h := h.2 c2
    refine jw_iconst rfl ?_
    refine jw_iret rfl ?_
    exact h
set_option maxHeartbeats 4000000 in
theorem e_224_23 {xs : Nat → Int32} {L d : Nat} {v1 : Int} {v2 : Int} {v3 : Int} {v4 : Int} {J K : jZ} {P : Int → jZ → jZ → Prop} (h : (-2147483648 ≤ J 167 38 ∧ J 167 38 < 2147483648) ∧ (-2147483648 ≤ J 167 7 ∧ J 167 7 < 2147483648) ∧ ((J 167 7) ≤ (J 167 38) → l_224_104 xs L (d + 1) v1 v2 v3 v4 J K P) ∧ ((J 167 38) < (J 167 7) → ((0 : Int) ≤ J 167 38 ∧ J 167 38 < 250) ∧ (-2147483648 ≤ J 182 (J 167 38).toNat ∧ J 182 (J 167 38).toNat < 2147483648) ∧ ((48 ≤ (J 182 (J 167 38).toNat) ∧ (J 182 (J 167 38).toNat) ≤ 57) → (-2147483648 ≤ ((J 167 38) - v3) ∧ ((J 167 38) - v3) < 2147483648) ∧ (2 ≤ ((J 167 38) - v3) → l_224_23 xs L (d + 1) v1 v2 v3 v4 (jm_up J 167 38 ((J 167 38) + 1)) K P) ∧ (((J 167 38) - v3) < 2 → l_224_23 xs L (d + 1) v1 v2 v3 (((10 * v4) + (J 182 (J 167 38).toNat)) - 48) (jm_up J 167 38 ((J 167 38) + 1)) K P)) ∧ (¬ (48 ≤ (J 182 (J 167 38).toNat) ∧ (J 182 (J 167 38).toNat) ≤ 57) → l_224_104 xs L (d + 1) v1 v2 v3 v4 J K P))) : l_224_23 xs L (d + 1) v1 v2 v3 v4 J K P := by
  unfold l_224_23
  refine jw_aload_n rfl rfl ?_
  refine jw_gf (v := (J 167 38)) rfl (by decide) rfl rfl ?_
  refine jw_aload_n rfl rfl ?_
  refine jw_gf (v := (J 167 7)) rfl (by decide) rfl rfl ?_
  obtain ⟨o1, h⟩ := h
  obtain ⟨o2, h⟩ := h
  refine jw_ic_ge rfl o1 o2 (fun c3 => ?_) (fun c3 => ?_)
  · replace h := h.1 c3
    exact jz_fg (l := [some (.ref 167), some (.int (Int32.ofInt v1)), some (.int (Int32.ofInt v2)), some (.int (Int32.ofInt v3)), some (.int (Int32.ofInt v4))]) ⟨rfl, rfl, rfl, rfl, rfl, trivial⟩ h
  · replace h := h.2 c3
    refine jw_aload_n rfl rfl ?_
    refine jw_gr (q := 182) rfl rfl rfl ?_
    refine jw_aload_n rfl rfl ?_
    refine jw_gf (v := (J 167 38)) rfl (by decide) rfl rfl ?_
    obtain ⟨o4, h⟩ := h
    refine jw_iald (v := (J 182 (J 167 38).toNat)) (N := 250) rfl rfl rfl (by omega) o4 rfl ?_
    obtain ⟨o5, h⟩ := h
    refine jw_i2l rfl o5 ?_
    refine jw_ldc2_w rfl ?_
    refine jw_ldc2_w rfl ?_
    refine jw_stat (k := 3) (as := [.long (Int64.ofInt (J 182 (J 167 38).toNat)), .long (Int64.ofInt 48), .long (Int64.ofInt 57)]) rfl (by decide) rfl rfl (Nat.le_of_ble_eq_true rfl) rfl (Nat.le_of_ble_eq_true rfl) (jz_ci ?_)
    refine sb_169 (by omega) (by omega) (by omega) (fun c6 => ?_) (fun c6 => ?_)
    · replace h := h.1 c6
      refine jw_if_eq rfl (by omega) (fun hc => by exfalso; omega) (fun _ => ?_)
      refine jw_aload_n rfl rfl ?_
      refine jw_gf (v := (J 167 38)) rfl (by decide) rfl rfl ?_
      refine jw_iload_n rfl rfl ?_
      refine jw_isub rfl ?_
      refine jw_iconst rfl ?_
      obtain ⟨o7, h⟩ := h
      refine jw_ic_ge rfl o7 (by omega) (fun c8 => ?_) (fun c8 => ?_)
      · replace h := h.1 c8
        refine jw_iload rfl rfl ?_
        refine jw_istore (ls' := [some (.ref 167), some (.int (Int32.ofInt v1)), some (.int (Int32.ofInt v2)), some (.int (Int32.ofInt v3)), some (.int (Int32.ofInt v4))]) rfl rfl ?_
        refine jw_aload_n rfl rfl ?_
        refine jw_dup_r rfl ?_
        refine jw_gf (v := (J 167 38)) rfl (by decide) rfl rfl ?_
        refine jw_iconst rfl ?_
        refine jw_iadd rfl ?_
        refine jw_pf rfl rfl ?_
        refine jw_goto rfl ?_
        exact jz_fg (l := [some (.ref 167), some (.int (Int32.ofInt v1)), some (.int (Int32.ofInt v2)), some (.int (Int32.ofInt v3)), some (.int (Int32.ofInt v4))]) ⟨rfl, rfl, rfl, rfl, rfl, trivial⟩ h
      · replace h := h.2 c8
        refine jw_bipush rfl (by decide) ?_
        refine jw_iload rfl rfl ?_
        refine jw_imul rfl ?_
        refine jw_aload_n rfl rfl ?_
        refine jw_gr (q := 182) rfl rfl rfl ?_
        refine jw_aload_n rfl rfl ?_
        refine jw_gf (v := (J 167 38)) rfl (by decide) rfl rfl ?_
        refine jw_iald (v := (J 182 (J 167 38).toNat)) (N := 250) rfl rfl rfl (by omega) o4 rfl ?_
        refine jw_iadd rfl ?_
        refine jw_bipush rfl (by decide) ?_
        refine jw_isub rfl ?_
        refine jw_goto rfl ?_
        refine jw_istore (ls' := [some (.ref 167), some (.int (Int32.ofInt v1)), some (.int (Int32.ofInt v2)), some (.int (Int32.ofInt v3)), some (.int (Int32.ofInt (((10 * v4) + (J 182 (J 167 38).toNat)) - 48)))]) rfl rfl ?_
        refine jw_aload_n rfl rfl ?_
        refine jw_dup_r rfl ?_
        refine jw_gf (v := (J 167 38)) rfl (by decide) rfl rfl ?_
        refine jw_iconst rfl ?_
        refine jw_iadd rfl ?_
        refine jw_pf rfl rfl ?_
        refine jw_goto rfl ?_
        exact jz_fg (l := [some (.ref 167), some (.int (Int32.ofInt v1)), some (.int (Int32.ofInt v2)), some (.int (Int32.ofInt v3)), some (.int (Int32.ofInt (((10 * v4) + (J 182 (J 167 38).toNat)) - 48)))]) ⟨rfl, rfl, rfl, rfl, rfl, trivial⟩ h
    · replace h := h.2 c6
      refine jw_if_eq rfl (by omega) (fun _ => ?_) (fun hc => by exfalso; omega)
      exact jz_fg (l := [some (.ref 167), some (.int (Int32.ofInt v1)), some (.int (Int32.ofInt v2)), some (.int (Int32.ofInt v3)), some (.int (Int32.ofInt v4))]) ⟨rfl, rfl, rfl, rfl, rfl, trivial⟩ h
set_option maxHeartbeats 4000000 in
theorem e_224_104 {xs : Nat → Int32} {L d : Nat} {v1 : Int} {v2 : Int} {v3 : Int} {v4 : Int} {J K : jZ} {P : Int → jZ → jZ → Prop} (h : (-2147483648 ≤ J 167 38 ∧ J 167 38 < 2147483648) ∧ (-2147483648 ≤ v3 ∧ v3 < 2147483648) ∧ ((J 167 38) = v3 → l_224_135 xs L (d + 1) v3 J K P) ∧ (¬ (J 167 38) = v3 → (-2147483648 ≤ ((J 167 38) - v3) ∧ ((J 167 38) - v3) < 2147483648) ∧ (2 < ((J 167 38) - v3) → l_224_135 xs L (d + 1) v3 J K P) ∧ (((J 167 38) - v3) ≤ 2 → (-2147483648 ≤ v4 ∧ v4 < 2147483648) ∧ (-2147483648 ≤ v1 ∧ v1 < 2147483648) ∧ (-2147483648 ≤ v2 ∧ v2 < 2147483648) ∧ ((v1 ≤ v4 ∧ v4 ≤ v2) → P v4 J K) ∧ (¬ (v1 ≤ v4 ∧ v4 ≤ v2) → l_224_135 xs L (d + 1) v3 J K P)))) : l_224_104 xs L (d + 1) v1 v2 v3 v4 J K P := by
  unfold l_224_104
  refine jw_aload_n rfl rfl ?_
  refine jw_gf (v := (J 167 38)) rfl (by decide) rfl rfl ?_
  refine jw_iload_n rfl rfl ?_
  obtain ⟨o1, h⟩ := h
  obtain ⟨o2, h⟩ := h
  refine jw_ic_eq rfl o1 o2 (fun c3 => ?_) (fun c3 => ?_)
  · replace h := h.1 c3
    exact jz_fg (l := [some (.ref 167), none, none, some (.int (Int32.ofInt v3)), none]) ⟨rfl, jz_ni, jz_ni, rfl, jz_ni, trivial⟩ h
  · replace h := h.2 c3
    refine jw_aload_n rfl rfl ?_
    refine jw_gf (v := (J 167 38)) rfl (by decide) rfl rfl ?_
    refine jw_iload_n rfl rfl ?_
    refine jw_isub rfl ?_
    refine jw_iconst rfl ?_
    obtain ⟨o4, h⟩ := h
    refine jw_ic_gt rfl o4 (by omega) (fun c5 => ?_) (fun c5 => ?_)
    · replace h := h.1 c5
      exact jz_fg (l := [some (.ref 167), none, none, some (.int (Int32.ofInt v3)), none]) ⟨rfl, jz_ni, jz_ni, rfl, jz_ni, trivial⟩ h
    · replace h := h.2 c5
      refine jw_iload rfl rfl ?_
      obtain ⟨o6, h⟩ := h
      refine jw_i2l rfl o6 ?_
      refine jw_iload_n rfl rfl ?_
      obtain ⟨o7, h⟩ := h
      refine jw_i2l rfl o7 ?_
      refine jw_iload_n rfl rfl ?_
      obtain ⟨o8, h⟩ := h
      refine jw_i2l rfl o8 ?_
      refine jw_stat (k := 3) (as := [.long (Int64.ofInt v4), .long (Int64.ofInt v1), .long (Int64.ofInt v2)]) rfl (by decide) rfl rfl (Nat.le_of_ble_eq_true rfl) rfl (Nat.le_of_ble_eq_true rfl) (jz_ci ?_)
      refine sb_169 (by omega) (by omega) (by omega) (fun c9 => ?_) (fun c9 => ?_)
      · replace h := h.1 c9
        refine jw_if_ne rfl (by omega) (fun _ => ?_) (fun hc => by exfalso; omega)
        refine jw_iload rfl rfl ?_
        refine jw_iret rfl ?_
        exact h
      · replace h := h.2 c9
        refine jw_if_ne rfl (by omega) (fun hc => by exfalso; omega) (fun _ => ?_)
        exact jz_fg (l := [some (.ref 167), none, none, some (.int (Int32.ofInt v3)), none]) ⟨rfl, jz_ni, jz_ni, rfl, jz_ni, trivial⟩ h
set_option maxHeartbeats 4000000 in
theorem e_224_135 {xs : Nat → Int32} {L d : Nat} {v3 : Int} {J K : jZ} {P : Int → jZ → jZ → Prop} (h : q_220 xs L (d + 1) v3 J K (fun r3 J1 K2 => P r3 J1 K2)) : l_224_135 xs L (d + 1) v3 J K P := by
  unfold l_224_135
  refine jw_aload_n rfl rfl ?_
  refine jw_iload_n rfl rfl ?_
  refine jw_virt (k := 1) (c := 19) (as := [.int (Int32.ofInt v3)]) rfl rfl rfl (Nat.le_of_ble_eq_true rfl) rfl (Nat.le_of_ble_eq_true rfl) rfl rfl (jz_ci ?_)
  refine jm_Q.mono h (jp_i_mono (fun r3 J1 K2 h => ?_))
  refine jw_goto rfl ?_
  refine jw_iret rfl ?_
  exact h
set_option maxHeartbeats 4000000 in
theorem e_225 {xs : Nat → Int32} {L d : Nat} {v0 : Int} {J K : jZ} {P : Int → jZ → jZ → Prop} (h : (-2147483648 ≤ v0 ∧ v0 < 2147483648) ∧ (¬ v0 = 64 → (¬ v0 = 33 → (¬ v0 = 35 → (¬ v0 = 45 → (¬ v0 = 94 → P (-1) J K) ∧ (v0 = 94 → P 10 J K)) ∧ (v0 = 45 → P 8 J K)) ∧ (v0 = 35 → P 7 J K)) ∧ (v0 = 33 → P 6 J K)) ∧ (v0 = 64 → P 5 J K)) : q_225 xs L (d + 1) v0 J K P := by
  unfold q_225
  refine jq_in (ls := [some (.int (Int32.ofInt v0))]) rfl (Nat.le_of_ble_eq_true rfl) rfl ?_
  refine jw_iload_n rfl rfl ?_
  refine jw_bipush rfl (by decide) ?_
  obtain ⟨o1, h⟩ := h
  refine jw_ic_ne rfl o1 (by omega) (fun c2 => ?_) (fun c2 => ?_)
  · replace h := h.1 c2
    refine jw_iload_n rfl rfl ?_
    refine jw_bipush rfl (by decide) ?_
    refine jw_ic_ne rfl o1 (by omega) (fun c3 => ?_) (fun c3 => ?_)
    · replace h := h.1 c3
      refine jw_iload_n rfl rfl ?_
      refine jw_bipush rfl (by decide) ?_
      refine jw_ic_ne rfl o1 (by omega) (fun c4 => ?_) (fun c4 => ?_)
      · replace h := h.1 c4
        refine jw_iload_n rfl rfl ?_
        refine jw_bipush rfl (by decide) ?_
        refine jw_ic_ne rfl o1 (by omega) (fun c5 => ?_) (fun c5 => ?_)
        · replace h := h.1 c5
          refine jw_iload_n rfl rfl ?_
          refine jw_bipush rfl (by decide) ?_
          refine jw_ic_ne rfl o1 (by omega) (fun c6 => ?_) (fun c6 => ?_)
          · replace h := h.1 c6
            refine jw_iconst rfl ?_
            refine jw_iret rfl ?_
            exact h
          · replace h := h.2 c6
            refine jw_bipush rfl (by decide) ?_
            refine jw_goto rfl ?_
            refine jw_iret rfl ?_
            exact h
        · replace h := h.2 c5
          refine jw_bipush rfl (by decide) ?_
          refine jw_goto rfl ?_
          refine jw_iret rfl ?_
          exact h
      · replace h := h.2 c4
        refine jw_bipush rfl (by decide) ?_
        refine jw_goto rfl ?_
        refine jw_iret rfl ?_
        exact h
    · replace h := h.2 c3
      refine jw_bipush rfl (by decide) ?_
      refine jw_goto rfl ?_
      refine jw_iret rfl ?_
      exact h
  · replace h := h.2 c2
    refine jw_iconst rfl ?_
    refine jw_goto rfl ?_
    refine jw_iret rfl ?_
    exact h
set_option maxHeartbeats 4000000 in
theorem e_226 {xs : Nat → Int32} {L d : Nat} {v1 : Int} {J K : jZ} {P : Int → jZ → jZ → Prop} (h : (-2147483648 ≤ v1 ∧ v1 < 2147483648) ∧ ((0 ≤ v1 ∧ v1 ≤ 15) → q_227 xs L (d + 1) 0 v1 (-1) (-1) (-1) J K (fun r5 J3 K4 => P r5 J3 K4)) ∧ (¬ (0 ≤ v1 ∧ v1 ≤ 15) → q_170 xs L (d + 1) (-2) J K (fun r8 J6 K7 => P r8 J6 K7))) : q_226 xs L (d + 2) v1 J K P := by
  unfold q_226
  refine jq_in (ls := [some (.ref 167), some (.int (Int32.ofInt v1))]) rfl (Nat.le_of_ble_eq_true rfl) rfl ?_
  refine jw_iload_n rfl rfl ?_
  obtain ⟨o1, h⟩ := h
  refine jw_i2l rfl o1 ?_
  refine jw_lconst (x := 0) rfl rfl ?_
  refine jw_ldc2_w rfl ?_
  refine jw_stat (k := 3) (as := [.long (Int64.ofInt v1), .long (Int64.ofInt 0), .long (Int64.ofInt 15)]) rfl (by decide) rfl rfl (Nat.le_of_ble_eq_true rfl) rfl (Nat.le_of_ble_eq_true rfl) (jz_ci ?_)
  refine sb_169 (by omega) (by omega) (by omega) (fun c2 => ?_) (fun c2 => ?_)
  · replace h := h.1 c2
    refine jw_if_eq rfl (by omega) (fun hc => by exfalso; omega) (fun _ => ?_)
    refine jw_aload_n rfl rfl ?_
    refine jw_iconst rfl ?_
    refine jw_iload_n rfl rfl ?_
    refine jw_iconst rfl ?_
    refine jw_iconst rfl ?_
    refine jw_iconst rfl ?_
    refine jw_virt (k := 5) (c := 19) (as := [.int (Int32.ofInt 0), .int (Int32.ofInt v1), .int (Int32.ofInt (-1)), .int (Int32.ofInt (-1)), .int (Int32.ofInt (-1))]) rfl rfl rfl (Nat.le_of_ble_eq_true rfl) rfl (Nat.le_of_ble_eq_true rfl) rfl rfl (jz_ci ?_)
    refine jm_Q.mono h (jp_i_mono (fun r5 J3 K4 h => ?_))
    refine jw_goto rfl ?_
    refine jw_iret rfl ?_
    exact h
  · replace h := h.2 c2
    refine jw_if_eq rfl (by omega) (fun _ => ?_) (fun hc => by exfalso; omega)
    refine jw_aload_n rfl rfl ?_
    refine jw_bipush rfl (by decide) ?_
    refine jw_virt (k := 1) (c := 19) (as := [.int (Int32.ofInt (-2))]) rfl rfl rfl (Nat.le_of_ble_eq_true rfl) rfl (Nat.le_of_ble_eq_true rfl) rfl rfl (jz_ci ?_)
    refine jm_Q.mono h (jp_i_mono (fun r8 J6 K7 h => ?_))
    refine jw_iret rfl ?_
    exact h
set_option maxHeartbeats 4000000 in
theorem e_227 {xs : Nat → Int32} {L d : Nat} {v1 : Int} {v2 : Int} {v3 : Int} {v4 : Int} {v5 : Int} {J K : jZ} {P : Int → jZ → jZ → Prop} (h : (-2147483648 ≤ J 167 10 ∧ J 167 10 < 2147483648) ∧ (¬ (J 167 10) = 24 → q_218 xs L d v1 v2 v3 v4 v5 (jm_up J 167 40 (J 167 10)) K (fun r5 J3 K4 => P (((J3 167 10) + 1) - 1) (jm_up (jm_up J3 167 10 ((J3 167 10) + 1)) 167 26 0) K4)) ∧ ((J 167 10) = 24 → q_170 xs L d (-6) J K (fun r8 J6 K7 => P r8 J6 K7))) : q_227 xs L (d + 1) v1 v2 v3 v4 v5 J K P := by
  unfold q_227
  refine jq_in (ls := [some (.ref 167), some (.int (Int32.ofInt v1)), some (.int (Int32.ofInt v2)), some (.int (Int32.ofInt v3)), some (.int (Int32.ofInt v4)), some (.int (Int32.ofInt v5))]) rfl (Nat.le_of_ble_eq_true rfl) rfl ?_
  refine jw_aload_n rfl rfl ?_
  refine jw_gf (v := (J 167 10)) rfl (by decide) rfl rfl ?_
  refine jw_bipush rfl (by decide) ?_
  obtain ⟨o1, h⟩ := h
  refine jw_ic_ne rfl o1 (by omega) (fun c2 => ?_) (fun c2 => ?_)
  · replace h := h.1 c2
    refine jw_aload_n rfl rfl ?_
    refine jw_aload_n rfl rfl ?_
    refine jw_gf (v := (J 167 10)) rfl (by decide) rfl rfl ?_
    refine jw_pf rfl rfl ?_
    refine jw_aload_n rfl rfl ?_
    refine jw_iload_n rfl rfl ?_
    refine jw_iload_n rfl rfl ?_
    refine jw_iload_n rfl rfl ?_
    refine jw_iload rfl rfl ?_
    refine jw_iload rfl rfl ?_
    refine jw_virt (k := 5) (c := 19) (as := [.int (Int32.ofInt v1), .int (Int32.ofInt v2), .int (Int32.ofInt v3), .int (Int32.ofInt v4), .int (Int32.ofInt v5)]) rfl rfl rfl (Nat.le_of_ble_eq_true rfl) rfl (Nat.le_of_ble_eq_true rfl) rfl rfl (jz_ci ?_)
    refine jm_Q.mono h (jp_i_mono (fun r5 J3 K4 h => ?_))
    refine jw_pop_i rfl ?_
    refine jw_aload_n rfl rfl ?_
    refine jw_dup_r rfl ?_
    refine jw_gf (v := (J3 167 10)) rfl (by decide) rfl rfl ?_
    refine jw_iconst rfl ?_
    refine jw_iadd rfl ?_
    refine jw_pf rfl rfl ?_
    refine jw_aload_n rfl rfl ?_
    refine jw_iconst rfl ?_
    refine jw_pfz rfl rfl (by omega) ?_
    refine jw_aload_n rfl rfl ?_
    refine jw_gf (v := ((J3 167 10) + 1)) rfl (by decide) rfl (by simp [jm_up]) ?_
    refine jw_iconst rfl ?_
    refine jw_isub rfl ?_
    refine jw_iret rfl ?_
    exact h
  · replace h := h.2 c2
    refine jw_aload_n rfl rfl ?_
    refine jw_bipush rfl (by decide) ?_
    refine jw_virt (k := 1) (c := 19) (as := [.int (Int32.ofInt (-6))]) rfl rfl rfl (Nat.le_of_ble_eq_true rfl) rfl (Nat.le_of_ble_eq_true rfl) rfl rfl (jz_ci ?_)
    refine jm_Q.mono h (jp_i_mono (fun r8 J6 K7 h => ?_))
    refine jw_iret rfl ?_
    exact h
set_option maxHeartbeats 4000000 in
theorem e_228 {xs : Nat → Int32} {L d : Nat} {v1 : Int} {v2 : Int} {J K : jZ} {P : Int → jZ → jZ → Prop} (h : (-2147483648 ≤ v1 ∧ v1 < 2147483648) ∧ ((0 ≤ v1 ∧ v1 ≤ 7) → (-2147483648 ≤ v2 ∧ v2 < 2147483648) ∧ ((2 ≤ v2 ∧ v2 ≤ 4) → q_229 xs L (d + 1) v1 v2 J K (fun r7 J5 K6 => (-2147483648 ≤ r7 ∧ r7 < 2147483648) ∧ (r7 = 0 → l_228_49 xs L (d + 1) v1 v2 0 J5 K6 P) ∧ (¬ r7 = 0 → P r7 J5 K6))) ∧ (¬ (2 ≤ v2 ∧ v2 ≤ 4) → q_170 xs L (d + 1) (-2) J K (fun r12 J10 K11 => P r12 J10 K11))) ∧ (¬ (0 ≤ v1 ∧ v1 ≤ 7) → q_170 xs L (d + 1) (-2) J K (fun r15 J13 K14 => P r15 J13 K14))) : q_228 xs L (d + 2) v1 v2 J K P := by
  unfold q_228
  refine jq_in (ls := [some (.ref 167), some (.int (Int32.ofInt v1)), some (.int (Int32.ofInt v2)), none, none]) rfl (Nat.le_of_ble_eq_true rfl) rfl ?_
  refine jw_iload_n rfl rfl ?_
  obtain ⟨o1, h⟩ := h
  refine jw_i2l rfl o1 ?_
  refine jw_lconst (x := 0) rfl rfl ?_
  refine jw_ldc2_w rfl ?_
  refine jw_stat (k := 3) (as := [.long (Int64.ofInt v1), .long (Int64.ofInt 0), .long (Int64.ofInt 7)]) rfl (by decide) rfl rfl (Nat.le_of_ble_eq_true rfl) rfl (Nat.le_of_ble_eq_true rfl) (jz_ci ?_)
  refine sb_169 (by omega) (by omega) (by omega) (fun c2 => ?_) (fun c2 => ?_)
  · replace h := h.1 c2
    refine jw_if_eq rfl (by omega) (fun hc => by exfalso; omega) (fun _ => ?_)
    refine jw_iload_n rfl rfl ?_
    obtain ⟨o3, h⟩ := h
    refine jw_i2l rfl o3 ?_
    refine jw_ldc2_w rfl ?_
    refine jw_ldc2_w rfl ?_
    refine jw_stat (k := 3) (as := [.long (Int64.ofInt v2), .long (Int64.ofInt 2), .long (Int64.ofInt 4)]) rfl (by decide) rfl rfl (Nat.le_of_ble_eq_true rfl) rfl (Nat.le_of_ble_eq_true rfl) (jz_ci ?_)
    refine sb_169 (by omega) (by omega) (by omega) (fun c4 => ?_) (fun c4 => ?_)
    · replace h := h.1 c4
      refine jw_if_ne rfl (by omega) (fun _ => ?_) (fun hc => by exfalso; omega)
      refine jw_aload_n rfl rfl ?_
      refine jw_iload_n rfl rfl ?_
      refine jw_iload_n rfl rfl ?_
      refine jw_virt (k := 2) (c := 19) (as := [.int (Int32.ofInt v1), .int (Int32.ofInt v2)]) rfl rfl rfl (Nat.le_of_ble_eq_true rfl) rfl (Nat.le_of_ble_eq_true rfl) rfl rfl (jz_ci ?_)
      refine jm_Q.mono h (jp_i_mono (fun r7 J5 K6 h => ?_))
      refine jw_istore_n (ls' := [some (.ref 167), some (.int (Int32.ofInt v1)), some (.int (Int32.ofInt v2)), some (.int (Int32.ofInt r7)), none]) rfl rfl ?_
      refine jw_iload_n rfl rfl ?_
      obtain ⟨o8, h⟩ := h
      refine jw_if_eq rfl o8 (fun c9 => ?_) (fun c9 => ?_)
      · replace h := h.1 c9
        refine jw_iconst rfl ?_
        refine jw_istore (ls' := [some (.ref 167), some (.int (Int32.ofInt v1)), some (.int (Int32.ofInt v2)), some (.int (Int32.ofInt r7)), some (.int (Int32.ofInt 0))]) rfl rfl ?_
        exact jz_fg (l := [some (.ref 167), some (.int (Int32.ofInt v1)), some (.int (Int32.ofInt v2)), none, some (.int (Int32.ofInt 0))]) ⟨rfl, rfl, rfl, jz_ni, rfl, trivial⟩ h
      · replace h := h.2 c9
        refine jw_iload_n rfl rfl ?_
        refine jw_iret rfl ?_
        exact h
    · replace h := h.2 c4
      refine jw_if_ne rfl (by omega) (fun hc => by exfalso; omega) (fun _ => ?_)
      refine jw_aload_n rfl rfl ?_
      refine jw_bipush rfl (by decide) ?_
      refine jw_virt (k := 1) (c := 19) (as := [.int (Int32.ofInt (-2))]) rfl rfl rfl (Nat.le_of_ble_eq_true rfl) rfl (Nat.le_of_ble_eq_true rfl) rfl rfl (jz_ci ?_)
      refine jm_Q.mono h (jp_i_mono (fun r12 J10 K11 h => ?_))
      refine jw_iret rfl ?_
      exact h
  · replace h := h.2 c2
    refine jw_if_eq rfl (by omega) (fun _ => ?_) (fun hc => by exfalso; omega)
    refine jw_aload_n rfl rfl ?_
    refine jw_bipush rfl (by decide) ?_
    refine jw_virt (k := 1) (c := 19) (as := [.int (Int32.ofInt (-2))]) rfl rfl rfl (Nat.le_of_ble_eq_true rfl) rfl (Nat.le_of_ble_eq_true rfl) rfl rfl (jz_ci ?_)
    refine jm_Q.mono h (jp_i_mono (fun r15 J13 K14 h => ?_))
    refine jw_iret rfl ?_
    exact h
set_option maxHeartbeats 4000000 in
theorem e_228_49 {xs : Nat → Int32} {L d : Nat} {v1 : Int} {v2 : Int} {v4 : Int} {J K : jZ} {P : Int → jZ → jZ → Prop} (h : (-2147483648 ≤ v4 ∧ v4 < 2147483648) ∧ (-2147483648 ≤ v2 ∧ v2 < 2147483648) ∧ (v2 ≤ v4 → ((0 : Int) ≤ v1 ∧ v1 < 8) ∧ (v2 ≤ 2 → (v2 ≤ 3 → q_227 xs L (d + 1) 1 (K (172 + v1.toNat) (Int.toNat 0)) (K (172 + v1.toNat) (Int.toNat 1)) (-1) (-1) J K (fun r9 J7 K8 => P r9 J7 K8)) ∧ (3 < v2 → q_227 xs L (d + 1) 1 (K (172 + v1.toNat) (Int.toNat 0)) (K (172 + v1.toNat) (Int.toNat 1)) (-1) (K (172 + v1.toNat) (Int.toNat 3)) J K (fun r12 J10 K11 => P r12 J10 K11))) ∧ (2 < v2 → (v2 ≤ 3 → q_227 xs L (d + 1) 1 (K (172 + v1.toNat) (Int.toNat 0)) (K (172 + v1.toNat) (Int.toNat 1)) (K (172 + v1.toNat) (Int.toNat 2)) (-1) J K (fun r16 J14 K15 => P r16 J14 K15)) ∧ (3 < v2 → q_227 xs L (d + 1) 1 (K (172 + v1.toNat) (Int.toNat 0)) (K (172 + v1.toNat) (Int.toNat 1)) (K (172 + v1.toNat) (Int.toNat 2)) (K (172 + v1.toNat) (Int.toNat 3)) J K (fun r19 J17 K18 => P r19 J17 K18)))) ∧ (v4 < v2 → ((0 : Int) ≤ v1 ∧ v1 < 8) ∧ ((0 : Int) ≤ v4 ∧ v4 < 40) ∧ (-9223372036854775808 ≤ K (172 + v1.toNat) v4.toNat ∧ K (172 + v1.toNat) v4.toNat < 9223372036854775808) ∧ ((0 ≤ (K (172 + v1.toNat) v4.toNat) ∧ (K (172 + v1.toNat) v4.toNat) ≤ 15) → l_228_49 xs L (d + 1) v1 v2 (v4 + 1) J K P) ∧ (¬ (0 ≤ (K (172 + v1.toNat) v4.toNat) ∧ (K (172 + v1.toNat) v4.toNat) ≤ 15) → q_170 xs L (d + 1) (-5) J K (fun r26 J24 K25 => P r26 J24 K25)))) : l_228_49 xs L (d + 1) v1 v2 v4 J K P := by
  unfold l_228_49
  refine jw_iload rfl rfl ?_
  refine jw_iload_n rfl rfl ?_
  obtain ⟨o1, h⟩ := h
  obtain ⟨o2, h⟩ := h
  refine jw_ic_ge rfl o1 o2 (fun c3 => ?_) (fun c3 => ?_)
  · replace h := h.1 c3
    refine jw_aload_n rfl rfl ?_
    refine jw_iconst rfl ?_
    refine jw_aload_n rfl rfl ?_
    refine jw_gr (q := 171) rfl rfl rfl ?_
    refine jw_iload_n rfl rfl ?_
    obtain ⟨o4, h⟩ := h
    refine jw_aald (k := 5) (q := (172 + v1.toNat)) (N := 8) rfl rfl (by omega) rfl (by omega) o4 (jzr_171 o4) ?_
    refine jw_iconst rfl ?_
    refine jw_lald (v := (K (172 + v1.toNat) (Int.toNat 0))) (N := 40) rfl (jze_171 o4) (jzl_171 o4) (by omega) (by omega) rfl ?_
    refine jw_l2i rfl ?_
    refine jw_aload_n rfl rfl ?_
    refine jw_gr (q := 171) rfl rfl rfl ?_
    refine jw_iload_n rfl rfl ?_
    refine jw_aald (k := 5) (q := (172 + v1.toNat)) (N := 8) rfl rfl (by omega) rfl (by omega) o4 (jzr_171 o4) ?_
    refine jw_iconst rfl ?_
    refine jw_lald (v := (K (172 + v1.toNat) (Int.toNat 1))) (N := 40) rfl (jze_171 o4) (jzl_171 o4) (by omega) (by omega) rfl ?_
    refine jw_l2i rfl ?_
    refine jw_iload_n rfl rfl ?_
    refine jw_iconst rfl ?_
    refine jw_ic_le rfl o2 (by omega) (fun c5 => ?_) (fun c5 => ?_)
    · replace h := h.1 c5
      refine jw_iconst rfl ?_
      refine jw_iload_n rfl rfl ?_
      refine jw_iconst rfl ?_
      refine jw_ic_le rfl o2 (by omega) (fun c6 => ?_) (fun c6 => ?_)
      · replace h := h.1 c6
        refine jw_iconst rfl ?_
        refine jw_virt (k := 5) (c := 19) (as := [.int (Int32.ofInt 1), .int (Int32.ofInt (K (172 + v1.toNat) (Int.toNat 0))), .int (Int32.ofInt (K (172 + v1.toNat) (Int.toNat 1))), .int (Int32.ofInt (-1)), .int (Int32.ofInt (-1))]) rfl rfl rfl (Nat.le_of_ble_eq_true rfl) rfl (Nat.le_of_ble_eq_true rfl) rfl rfl (jz_ci ?_)
        refine jm_Q.mono h (jp_i_mono (fun r9 J7 K8 h => ?_))
        refine jw_iret rfl ?_
        exact h
      · replace h := h.2 c6
        refine jw_aload_n rfl rfl ?_
        refine jw_gr (q := 171) rfl rfl rfl ?_
        refine jw_iload_n rfl rfl ?_
        refine jw_aald (k := 5) (q := (172 + v1.toNat)) (N := 8) rfl rfl (by omega) rfl (by omega) o4 (jzr_171 o4) ?_
        refine jw_iconst rfl ?_
        refine jw_lald (v := (K (172 + v1.toNat) (Int.toNat 3))) (N := 40) rfl (jze_171 o4) (jzl_171 o4) (by omega) (by omega) rfl ?_
        refine jw_l2i rfl ?_
        refine jw_goto rfl ?_
        refine jw_virt (k := 5) (c := 19) (as := [.int (Int32.ofInt 1), .int (Int32.ofInt (K (172 + v1.toNat) (Int.toNat 0))), .int (Int32.ofInt (K (172 + v1.toNat) (Int.toNat 1))), .int (Int32.ofInt (-1)), .int (Int32.ofInt (K (172 + v1.toNat) (Int.toNat 3)))]) rfl rfl rfl (Nat.le_of_ble_eq_true rfl) rfl (Nat.le_of_ble_eq_true rfl) rfl rfl (jz_ci ?_)
        refine jm_Q.mono h (jp_i_mono (fun r12 J10 K11 h => ?_))
        refine jw_iret rfl ?_
        exact h
    · replace h := h.2 c5
      refine jw_aload_n rfl rfl ?_
      refine jw_gr (q := 171) rfl rfl rfl ?_
      refine jw_iload_n rfl rfl ?_
      refine jw_aald (k := 5) (q := (172 + v1.toNat)) (N := 8) rfl rfl (by omega) rfl (by omega) o4 (jzr_171 o4) ?_
      refine jw_iconst rfl ?_
      refine jw_lald (v := (K (172 + v1.toNat) (Int.toNat 2))) (N := 40) rfl (jze_171 o4) (jzl_171 o4) (by omega) (by omega) rfl ?_
      refine jw_l2i rfl ?_
      refine jw_goto rfl ?_
      refine jw_iload_n rfl rfl ?_
      refine jw_iconst rfl ?_
      refine jw_ic_le rfl o2 (by omega) (fun c13 => ?_) (fun c13 => ?_)
      · replace h := h.1 c13
        refine jw_iconst rfl ?_
        refine jw_virt (k := 5) (c := 19) (as := [.int (Int32.ofInt 1), .int (Int32.ofInt (K (172 + v1.toNat) (Int.toNat 0))), .int (Int32.ofInt (K (172 + v1.toNat) (Int.toNat 1))), .int (Int32.ofInt (K (172 + v1.toNat) (Int.toNat 2))), .int (Int32.ofInt (-1))]) rfl rfl rfl (Nat.le_of_ble_eq_true rfl) rfl (Nat.le_of_ble_eq_true rfl) rfl rfl (jz_ci ?_)
        refine jm_Q.mono h (jp_i_mono (fun r16 J14 K15 h => ?_))
        refine jw_iret rfl ?_
        exact h
      · replace h := h.2 c13
        refine jw_aload_n rfl rfl ?_
        refine jw_gr (q := 171) rfl rfl rfl ?_
        refine jw_iload_n rfl rfl ?_
        refine jw_aald (k := 5) (q := (172 + v1.toNat)) (N := 8) rfl rfl (by omega) rfl (by omega) o4 (jzr_171 o4) ?_
        refine jw_iconst rfl ?_
        refine jw_lald (v := (K (172 + v1.toNat) (Int.toNat 3))) (N := 40) rfl (jze_171 o4) (jzl_171 o4) (by omega) (by omega) rfl ?_
        refine jw_l2i rfl ?_
        refine jw_goto rfl ?_
        refine jw_virt (k := 5) (c := 19) (as := [.int (Int32.ofInt 1), .int (Int32.ofInt (K (172 + v1.toNat) (Int.toNat 0))), .int (Int32.ofInt (K (172 + v1.toNat) (Int.toNat 1))), .int (Int32.ofInt (K (172 + v1.toNat) (Int.toNat 2))), .int (Int32.ofInt (K (172 + v1.toNat) (Int.toNat 3)))]) rfl rfl rfl (Nat.le_of_ble_eq_true rfl) rfl (Nat.le_of_ble_eq_true rfl) rfl rfl (jz_ci ?_)
        refine jm_Q.mono h (jp_i_mono (fun r19 J17 K18 h => ?_))
        refine jw_iret rfl ?_
        exact h
  · replace h := h.2 c3
    refine jw_aload_n rfl rfl ?_
    refine jw_gr (q := 171) rfl rfl rfl ?_
    refine jw_iload_n rfl rfl ?_
    obtain ⟨o20, h⟩ := h
    refine jw_aald (k := 5) (q := (172 + v1.toNat)) (N := 8) rfl rfl (by omega) rfl (by omega) o20 (jzr_171 o20) ?_
    refine jw_iload rfl rfl ?_
    obtain ⟨o21, h⟩ := h
    refine jw_lald (v := (K (172 + v1.toNat) v4.toNat)) (N := 40) rfl (jze_171 o20) (jzl_171 o20) (by omega) o21 rfl ?_
    refine jw_lconst (x := 0) rfl rfl ?_
    refine jw_ldc2_w rfl ?_
    refine jw_stat (k := 3) (as := [.long (Int64.ofInt (K (172 + v1.toNat) v4.toNat)), .long (Int64.ofInt 0), .long (Int64.ofInt 15)]) rfl (by decide) rfl rfl (Nat.le_of_ble_eq_true rfl) rfl (Nat.le_of_ble_eq_true rfl) (jz_ci ?_)
    obtain ⟨o22, h⟩ := h
    refine sb_169 o22 (by omega) (by omega) (fun c23 => ?_) (fun c23 => ?_)
    · replace h := h.1 c23
      refine jw_if_ne rfl (by omega) (fun _ => ?_) (fun hc => by exfalso; omega)
      refine jw_iinc (ls' := [some (.ref 167), some (.int (Int32.ofInt v1)), some (.int (Int32.ofInt v2)), none, some (.int (Int32.ofInt (v4 + 1)))]) rfl rfl rfl ?_
      refine jw_goto rfl ?_
      exact jz_fg (l := [some (.ref 167), some (.int (Int32.ofInt v1)), some (.int (Int32.ofInt v2)), none, some (.int (Int32.ofInt (v4 + 1)))]) ⟨rfl, rfl, rfl, jz_n0, rfl, trivial⟩ h
    · replace h := h.2 c23
      refine jw_if_ne rfl (by omega) (fun hc => by exfalso; omega) (fun _ => ?_)
      refine jw_aload_n rfl rfl ?_
      refine jw_bipush rfl (by decide) ?_
      refine jw_virt (k := 1) (c := 19) (as := [.int (Int32.ofInt (-5))]) rfl rfl rfl (Nat.le_of_ble_eq_true rfl) rfl (Nat.le_of_ble_eq_true rfl) rfl rfl (jz_ci ?_)
      refine jm_Q.mono h (jp_i_mono (fun r26 J24 K25 h => ?_))
      refine jw_iret rfl ?_
      exact h
set_option maxHeartbeats 4000000 in
theorem e_229 {xs : Nat → Int32} {L d : Nat} {v1 : Int} {v2 : Int} {J K : jZ} {P : Int → jZ → jZ → Prop} (h : q_172 xs L d v1 J K (fun r3 J1 K2 => (-2147483648 ≤ r3 ∧ r3 < 2147483648) ∧ (r3 = 0 → ((0 : Int) ≤ v1 ∧ v1 < 8) ∧ (-2147483648 ≤ v2 ∧ v2 < 2147483648) ∧ (-2147483648 ≤ J1 170 v1.toNat ∧ J1 170 v1.toNat < 2147483648) ∧ (v2 ≤ (J1 170 v1.toNat) → P 0 J1 K2) ∧ ((J1 170 v1.toNat) < v2 → q_170 xs L d (-2) J1 K2 (fun r12 J10 K11 => P r12 J10 K11))) ∧ (¬ r3 = 0 → P r3 J1 K2))) : q_229 xs L (d + 1) v1 v2 J K P := by
  unfold q_229
  refine jq_in (ls := [some (.ref 167), some (.int (Int32.ofInt v1)), some (.int (Int32.ofInt v2)), none]) rfl (Nat.le_of_ble_eq_true rfl) rfl ?_
  refine jw_aload_n rfl rfl ?_
  refine jw_iload_n rfl rfl ?_
  refine jw_virt (k := 1) (c := 19) (as := [.int (Int32.ofInt v1)]) rfl rfl rfl (Nat.le_of_ble_eq_true rfl) rfl (Nat.le_of_ble_eq_true rfl) rfl rfl (jz_ci ?_)
  refine jm_Q.mono h (jp_i_mono (fun r3 J1 K2 h => ?_))
  refine jw_istore_n (ls' := [some (.ref 167), some (.int (Int32.ofInt v1)), some (.int (Int32.ofInt v2)), some (.int (Int32.ofInt r3))]) rfl rfl ?_
  refine jw_iload_n rfl rfl ?_
  obtain ⟨o4, h⟩ := h
  refine jw_if_eq rfl o4 (fun c5 => ?_) (fun c5 => ?_)
  · replace h := h.1 c5
    refine jw_iload_n rfl rfl ?_
    refine jw_aload_n rfl rfl ?_
    refine jw_gr (q := 170) rfl rfl rfl ?_
    refine jw_iload_n rfl rfl ?_
    obtain ⟨o6, h⟩ := h
    refine jw_iald (v := (J1 170 v1.toNat)) (N := 8) rfl rfl rfl (by omega) o6 rfl ?_
    obtain ⟨o7, h⟩ := h
    obtain ⟨o8, h⟩ := h
    refine jw_ic_le rfl o7 o8 (fun c9 => ?_) (fun c9 => ?_)
    · replace h := h.1 c9
      refine jw_iconst rfl ?_
      refine jw_iret rfl ?_
      exact h
    · replace h := h.2 c9
      refine jw_aload_n rfl rfl ?_
      refine jw_bipush rfl (by decide) ?_
      refine jw_virt (k := 1) (c := 19) (as := [.int (Int32.ofInt (-2))]) rfl rfl rfl (Nat.le_of_ble_eq_true rfl) rfl (Nat.le_of_ble_eq_true rfl) rfl rfl (jz_ci ?_)
      refine jm_Q.mono h (jp_i_mono (fun r12 J10 K11 h => ?_))
      refine jw_goto rfl ?_
      refine jw_iret rfl ?_
      exact h
  · replace h := h.2 c5
    refine jw_iload_n rfl rfl ?_
    refine jw_goto rfl ?_
    refine jw_iret rfl ?_
    exact h
set_option maxHeartbeats 4000000 in
theorem e_230 {xs : Nat → Int32} {L d : Nat} {v1 : Int} {v2 : Int} {v3 : Int} {J K : jZ} {P : Int → jZ → jZ → Prop} (h : (-2147483648 ≤ v1 ∧ v1 < 2147483648) ∧ ((2 ≤ v1 ∧ v1 ≤ 8) → (-2147483648 ≤ v2 ∧ v2 < 2147483648) ∧ (-2147483648 ≤ ((J 167 10) - 1) ∧ ((J 167 10) - 1) < 2147483648) ∧ (((0 : Int) ≤ v2 ∧ v2 < (J 167 10)) → (-2147483648 ≤ v3 ∧ v3 < 2147483648) ∧ (((0 : Int) ≤ v3 ∧ v3 < (J 167 10)) → q_227 xs L (d + 2) v1 v2 v3 (-1) (-1) J K (fun r10 J8 K9 => P r10 J8 K9)) ∧ (¬ ((0 : Int) ≤ v3 ∧ v3 < (J 167 10)) → q_170 xs L (d + 2) (-2) J K (fun r13 J11 K12 => P r13 J11 K12))) ∧ (¬ ((0 : Int) ≤ v2 ∧ v2 < (J 167 10)) → q_170 xs L (d + 2) (-2) J K (fun r16 J14 K15 => P r16 J14 K15))) ∧ (¬ (2 ≤ v1 ∧ v1 ≤ 8) → q_170 xs L (d + 2) (-2) J K (fun r19 J17 K18 => P r19 J17 K18))) : q_230 xs L (d + 3) v1 v2 v3 J K P := by
  unfold q_230
  refine jq_in (ls := [some (.ref 167), some (.int (Int32.ofInt v1)), some (.int (Int32.ofInt v2)), some (.int (Int32.ofInt v3))]) rfl (Nat.le_of_ble_eq_true rfl) rfl ?_
  refine jw_iload_n rfl rfl ?_
  obtain ⟨o1, h⟩ := h
  refine jw_i2l rfl o1 ?_
  refine jw_ldc2_w rfl ?_
  refine jw_ldc2_w rfl ?_
  refine jw_stat (k := 3) (as := [.long (Int64.ofInt v1), .long (Int64.ofInt 2), .long (Int64.ofInt 8)]) rfl (by decide) rfl rfl (Nat.le_of_ble_eq_true rfl) rfl (Nat.le_of_ble_eq_true rfl) (jz_ci ?_)
  refine sb_169 (by omega) (by omega) (by omega) (fun c2 => ?_) (fun c2 => ?_)
  · replace h := h.1 c2
    refine jw_if_eq rfl (by omega) (fun hc => by exfalso; omega) (fun _ => ?_)
    refine jw_aload_n rfl rfl ?_
    refine jw_iload_n rfl rfl ?_
    refine jw_virt (k := 1) (c := 19) (as := [.int (Int32.ofInt v2)]) rfl rfl rfl (Nat.le_of_ble_eq_true rfl) rfl (Nat.le_of_ble_eq_true rfl) rfl rfl (jz_ci ?_)
    obtain ⟨o3, h⟩ := h
    obtain ⟨o4, h⟩ := h
    refine sb_178 o3 o4 (fun c5 => ?_) (fun c5 => ?_)
    · replace h := h.1 c5
      refine jw_if_eq rfl (by omega) (fun hc => by exfalso; omega) (fun _ => ?_)
      refine jw_aload_n rfl rfl ?_
      refine jw_iload_n rfl rfl ?_
      refine jw_virt (k := 1) (c := 19) (as := [.int (Int32.ofInt v3)]) rfl rfl rfl (Nat.le_of_ble_eq_true rfl) rfl (Nat.le_of_ble_eq_true rfl) rfl rfl (jz_ci ?_)
      obtain ⟨o6, h⟩ := h
      refine sb_178 o6 o4 (fun c7 => ?_) (fun c7 => ?_)
      · replace h := h.1 c7
        refine jw_if_eq rfl (by omega) (fun hc => by exfalso; omega) (fun _ => ?_)
        refine jw_aload_n rfl rfl ?_
        refine jw_iload_n rfl rfl ?_
        refine jw_iload_n rfl rfl ?_
        refine jw_iload_n rfl rfl ?_
        refine jw_iconst rfl ?_
        refine jw_iconst rfl ?_
        refine jw_virt (k := 5) (c := 19) (as := [.int (Int32.ofInt v1), .int (Int32.ofInt v2), .int (Int32.ofInt v3), .int (Int32.ofInt (-1)), .int (Int32.ofInt (-1))]) rfl rfl rfl (Nat.le_of_ble_eq_true rfl) rfl (Nat.le_of_ble_eq_true rfl) rfl rfl (jz_ci ?_)
        refine jm_Q.mono h (jp_i_mono (fun r10 J8 K9 h => ?_))
        refine jw_goto rfl ?_
        refine jw_iret rfl ?_
        exact h
      · replace h := h.2 c7
        refine jw_if_eq rfl (by omega) (fun _ => ?_) (fun hc => by exfalso; omega)
        refine jw_aload_n rfl rfl ?_
        refine jw_bipush rfl (by decide) ?_
        refine jw_virt (k := 1) (c := 19) (as := [.int (Int32.ofInt (-2))]) rfl rfl rfl (Nat.le_of_ble_eq_true rfl) rfl (Nat.le_of_ble_eq_true rfl) rfl rfl (jz_ci ?_)
        refine jm_Q.mono h (jp_i_mono (fun r13 J11 K12 h => ?_))
        refine jw_iret rfl ?_
        exact h
    · replace h := h.2 c5
      refine jw_if_eq rfl (by omega) (fun _ => ?_) (fun hc => by exfalso; omega)
      refine jw_aload_n rfl rfl ?_
      refine jw_bipush rfl (by decide) ?_
      refine jw_virt (k := 1) (c := 19) (as := [.int (Int32.ofInt (-2))]) rfl rfl rfl (Nat.le_of_ble_eq_true rfl) rfl (Nat.le_of_ble_eq_true rfl) rfl rfl (jz_ci ?_)
      refine jm_Q.mono h (jp_i_mono (fun r16 J14 K15 h => ?_))
      refine jw_iret rfl ?_
      exact h
  · replace h := h.2 c2
    refine jw_if_eq rfl (by omega) (fun _ => ?_) (fun hc => by exfalso; omega)
    refine jw_aload_n rfl rfl ?_
    refine jw_bipush rfl (by decide) ?_
    refine jw_virt (k := 1) (c := 19) (as := [.int (Int32.ofInt (-2))]) rfl rfl rfl (Nat.le_of_ble_eq_true rfl) rfl (Nat.le_of_ble_eq_true rfl) rfl rfl (jz_ci ?_)
    refine jm_Q.mono h (jp_i_mono (fun r19 J17 K18 h => ?_))
    refine jw_iret rfl ?_
    exact h
set_option maxHeartbeats 4000000 in
theorem e_231 {xs : Nat → Int32} {L d : Nat} {v1 : Int} {J K : jZ} {P : Int → jZ → jZ → Prop} (h : (-2147483648 ≤ v1 ∧ v1 < 2147483648) ∧ ((0 ≤ v1 ∧ v1 ≤ 2) → q_227 xs L (d + 1) 9 v1 (-1) (-1) (-1) J K (fun r5 J3 K4 => P r5 J3 K4)) ∧ (¬ (0 ≤ v1 ∧ v1 ≤ 2) → q_170 xs L (d + 1) (-2) J K (fun r8 J6 K7 => P r8 J6 K7))) : q_231 xs L (d + 2) v1 J K P := by
  unfold q_231
  refine jq_in (ls := [some (.ref 167), some (.int (Int32.ofInt v1))]) rfl (Nat.le_of_ble_eq_true rfl) rfl ?_
  refine jw_iload_n rfl rfl ?_
  obtain ⟨o1, h⟩ := h
  refine jw_i2l rfl o1 ?_
  refine jw_lconst (x := 0) rfl rfl ?_
  refine jw_ldc2_w rfl ?_
  refine jw_stat (k := 3) (as := [.long (Int64.ofInt v1), .long (Int64.ofInt 0), .long (Int64.ofInt 2)]) rfl (by decide) rfl rfl (Nat.le_of_ble_eq_true rfl) rfl (Nat.le_of_ble_eq_true rfl) (jz_ci ?_)
  refine sb_169 (by omega) (by omega) (by omega) (fun c2 => ?_) (fun c2 => ?_)
  · replace h := h.1 c2
    refine jw_if_eq rfl (by omega) (fun hc => by exfalso; omega) (fun _ => ?_)
    refine jw_aload_n rfl rfl ?_
    refine jw_bipush rfl (by decide) ?_
    refine jw_iload_n rfl rfl ?_
    refine jw_iconst rfl ?_
    refine jw_iconst rfl ?_
    refine jw_iconst rfl ?_
    refine jw_virt (k := 5) (c := 19) (as := [.int (Int32.ofInt 9), .int (Int32.ofInt v1), .int (Int32.ofInt (-1)), .int (Int32.ofInt (-1)), .int (Int32.ofInt (-1))]) rfl rfl rfl (Nat.le_of_ble_eq_true rfl) rfl (Nat.le_of_ble_eq_true rfl) rfl rfl (jz_ci ?_)
    refine jm_Q.mono h (jp_i_mono (fun r5 J3 K4 h => ?_))
    refine jw_goto rfl ?_
    refine jw_iret rfl ?_
    exact h
  · replace h := h.2 c2
    refine jw_if_eq rfl (by omega) (fun _ => ?_) (fun hc => by exfalso; omega)
    refine jw_aload_n rfl rfl ?_
    refine jw_bipush rfl (by decide) ?_
    refine jw_virt (k := 1) (c := 19) (as := [.int (Int32.ofInt (-2))]) rfl rfl rfl (Nat.le_of_ble_eq_true rfl) rfl (Nat.le_of_ble_eq_true rfl) rfl rfl (jz_ci ?_)
    refine jm_Q.mono h (jp_i_mono (fun r8 J6 K7 h => ?_))
    refine jw_iret rfl ?_
    exact h
set_option maxHeartbeats 4000000 in
theorem e_232 {xs : Nat → Int32} {L d : Nat} {v1 : Int} {v2 : Int} {J K : jZ} {P : Int → jZ → jZ → Prop} (h : (-2147483648 ≤ v1 ∧ v1 < 2147483648) ∧ (-2147483648 ≤ ((J 167 10) - 1) ∧ ((J 167 10) - 1) < 2147483648) ∧ (((0 : Int) ≤ v1 ∧ v1 < (J 167 10)) → (-2147483648 ≤ v2 ∧ v2 < 2147483648) ∧ ((1 ≤ v2 ∧ v2 ≤ 60) → q_227 xs L (d + 2) 10 v1 v2 (-1) (-1) J K (fun r8 J6 K7 => P r8 J6 K7)) ∧ (¬ (1 ≤ v2 ∧ v2 ≤ 60) → q_170 xs L (d + 2) (-2) J K (fun r11 J9 K10 => P r11 J9 K10))) ∧ (¬ ((0 : Int) ≤ v1 ∧ v1 < (J 167 10)) → q_170 xs L (d + 2) (-2) J K (fun r14 J12 K13 => P r14 J12 K13))) : q_232 xs L (d + 3) v1 v2 J K P := by
  unfold q_232
  refine jq_in (ls := [some (.ref 167), some (.int (Int32.ofInt v1)), some (.int (Int32.ofInt v2))]) rfl (Nat.le_of_ble_eq_true rfl) rfl ?_
  refine jw_aload_n rfl rfl ?_
  refine jw_iload_n rfl rfl ?_
  refine jw_virt (k := 1) (c := 19) (as := [.int (Int32.ofInt v1)]) rfl rfl rfl (Nat.le_of_ble_eq_true rfl) rfl (Nat.le_of_ble_eq_true rfl) rfl rfl (jz_ci ?_)
  obtain ⟨o1, h⟩ := h
  obtain ⟨o2, h⟩ := h
  refine sb_178 o1 o2 (fun c3 => ?_) (fun c3 => ?_)
  · replace h := h.1 c3
    refine jw_if_eq rfl (by omega) (fun hc => by exfalso; omega) (fun _ => ?_)
    refine jw_iload_n rfl rfl ?_
    obtain ⟨o4, h⟩ := h
    refine jw_i2l rfl o4 ?_
    refine jw_lconst (x := 1) rfl rfl ?_
    refine jw_ldc2_w rfl ?_
    refine jw_stat (k := 3) (as := [.long (Int64.ofInt v2), .long (Int64.ofInt 1), .long (Int64.ofInt 60)]) rfl (by decide) rfl rfl (Nat.le_of_ble_eq_true rfl) rfl (Nat.le_of_ble_eq_true rfl) (jz_ci ?_)
    refine sb_169 (by omega) (by omega) (by omega) (fun c5 => ?_) (fun c5 => ?_)
    · replace h := h.1 c5
      refine jw_if_eq rfl (by omega) (fun hc => by exfalso; omega) (fun _ => ?_)
      refine jw_aload_n rfl rfl ?_
      refine jw_bipush rfl (by decide) ?_
      refine jw_iload_n rfl rfl ?_
      refine jw_iload_n rfl rfl ?_
      refine jw_iconst rfl ?_
      refine jw_iconst rfl ?_
      refine jw_virt (k := 5) (c := 19) (as := [.int (Int32.ofInt 10), .int (Int32.ofInt v1), .int (Int32.ofInt v2), .int (Int32.ofInt (-1)), .int (Int32.ofInt (-1))]) rfl rfl rfl (Nat.le_of_ble_eq_true rfl) rfl (Nat.le_of_ble_eq_true rfl) rfl rfl (jz_ci ?_)
      refine jm_Q.mono h (jp_i_mono (fun r8 J6 K7 h => ?_))
      refine jw_goto rfl ?_
      refine jw_iret rfl ?_
      exact h
    · replace h := h.2 c5
      refine jw_if_eq rfl (by omega) (fun _ => ?_) (fun hc => by exfalso; omega)
      refine jw_aload_n rfl rfl ?_
      refine jw_bipush rfl (by decide) ?_
      refine jw_virt (k := 1) (c := 19) (as := [.int (Int32.ofInt (-2))]) rfl rfl rfl (Nat.le_of_ble_eq_true rfl) rfl (Nat.le_of_ble_eq_true rfl) rfl rfl (jz_ci ?_)
      refine jm_Q.mono h (jp_i_mono (fun r11 J9 K10 h => ?_))
      refine jw_iret rfl ?_
      exact h
  · replace h := h.2 c3
    refine jw_if_eq rfl (by omega) (fun _ => ?_) (fun hc => by exfalso; omega)
    refine jw_aload_n rfl rfl ?_
    refine jw_bipush rfl (by decide) ?_
    refine jw_virt (k := 1) (c := 19) (as := [.int (Int32.ofInt (-2))]) rfl rfl rfl (Nat.le_of_ble_eq_true rfl) rfl (Nat.le_of_ble_eq_true rfl) rfl rfl (jz_ci ?_)
    refine jm_Q.mono h (jp_i_mono (fun r14 J12 K13 h => ?_))
    refine jw_iret rfl ?_
    exact h
set_option maxHeartbeats 4000000 in
theorem e_233 {xs : Nat → Int32} {L d : Nat} {v1 : Int} {v2 : Int} {v3 : Int} {v4 : Int} {J K : jZ} {P : Int → jZ → jZ → Prop} (h : (-2147483648 ≤ v1 ∧ v1 < 2147483648) ∧ ((1 ≤ v1 ∧ v1 ≤ 3) → (-2147483648 ≤ v2 ∧ v2 < 2147483648) ∧ (-2147483648 ≤ ((J 167 10) - 1) ∧ ((J 167 10) - 1) < 2147483648) ∧ (((0 : Int) ≤ v2 ∧ v2 < (J 167 10)) → (-2147483648 ≤ v3 ∧ v3 < 2147483648) ∧ (((0 : Int) ≤ v3 ∧ v3 < (J 167 10)) → (-2147483648 ≤ v4 ∧ v4 < 2147483648) ∧ (((0 : Int) ≤ v4 ∧ v4 < (J 167 10)) → q_227 xs L (d + 2) 11 v2 v3 v4 v1 J K (fun r12 J10 K11 => P r12 J10 K11)) ∧ (¬ ((0 : Int) ≤ v4 ∧ v4 < (J 167 10)) → q_170 xs L (d + 2) (-2) J K (fun r15 J13 K14 => P r15 J13 K14))) ∧ (¬ ((0 : Int) ≤ v3 ∧ v3 < (J 167 10)) → q_170 xs L (d + 2) (-2) J K (fun r18 J16 K17 => P r18 J16 K17))) ∧ (¬ ((0 : Int) ≤ v2 ∧ v2 < (J 167 10)) → q_170 xs L (d + 2) (-2) J K (fun r21 J19 K20 => P r21 J19 K20))) ∧ (¬ (1 ≤ v1 ∧ v1 ≤ 3) → q_170 xs L (d + 2) (-2) J K (fun r24 J22 K23 => P r24 J22 K23))) : q_233 xs L (d + 3) v1 v2 v3 v4 J K P := by
  unfold q_233
  refine jq_in (ls := [some (.ref 167), some (.int (Int32.ofInt v1)), some (.int (Int32.ofInt v2)), some (.int (Int32.ofInt v3)), some (.int (Int32.ofInt v4))]) rfl (Nat.le_of_ble_eq_true rfl) rfl ?_
  refine jw_iload_n rfl rfl ?_
  obtain ⟨o1, h⟩ := h
  refine jw_i2l rfl o1 ?_
  refine jw_lconst (x := 1) rfl rfl ?_
  refine jw_ldc2_w rfl ?_
  refine jw_stat (k := 3) (as := [.long (Int64.ofInt v1), .long (Int64.ofInt 1), .long (Int64.ofInt 3)]) rfl (by decide) rfl rfl (Nat.le_of_ble_eq_true rfl) rfl (Nat.le_of_ble_eq_true rfl) (jz_ci ?_)
  refine sb_169 (by omega) (by omega) (by omega) (fun c2 => ?_) (fun c2 => ?_)
  · replace h := h.1 c2
    refine jw_if_eq rfl (by omega) (fun hc => by exfalso; omega) (fun _ => ?_)
    refine jw_aload_n rfl rfl ?_
    refine jw_iload_n rfl rfl ?_
    refine jw_virt (k := 1) (c := 19) (as := [.int (Int32.ofInt v2)]) rfl rfl rfl (Nat.le_of_ble_eq_true rfl) rfl (Nat.le_of_ble_eq_true rfl) rfl rfl (jz_ci ?_)
    obtain ⟨o3, h⟩ := h
    obtain ⟨o4, h⟩ := h
    refine sb_178 o3 o4 (fun c5 => ?_) (fun c5 => ?_)
    · replace h := h.1 c5
      refine jw_if_eq rfl (by omega) (fun hc => by exfalso; omega) (fun _ => ?_)
      refine jw_aload_n rfl rfl ?_
      refine jw_iload_n rfl rfl ?_
      refine jw_virt (k := 1) (c := 19) (as := [.int (Int32.ofInt v3)]) rfl rfl rfl (Nat.le_of_ble_eq_true rfl) rfl (Nat.le_of_ble_eq_true rfl) rfl rfl (jz_ci ?_)
      obtain ⟨o6, h⟩ := h
      refine sb_178 o6 o4 (fun c7 => ?_) (fun c7 => ?_)
      · replace h := h.1 c7
        refine jw_if_eq rfl (by omega) (fun hc => by exfalso; omega) (fun _ => ?_)
        refine jw_aload_n rfl rfl ?_
        refine jw_iload rfl rfl ?_
        refine jw_virt (k := 1) (c := 19) (as := [.int (Int32.ofInt v4)]) rfl rfl rfl (Nat.le_of_ble_eq_true rfl) rfl (Nat.le_of_ble_eq_true rfl) rfl rfl (jz_ci ?_)
        obtain ⟨o8, h⟩ := h
        refine sb_178 o8 o4 (fun c9 => ?_) (fun c9 => ?_)
        · replace h := h.1 c9
          refine jw_if_eq rfl (by omega) (fun hc => by exfalso; omega) (fun _ => ?_)
          refine jw_aload_n rfl rfl ?_
          refine jw_bipush rfl (by decide) ?_
          refine jw_iload_n rfl rfl ?_
          refine jw_iload_n rfl rfl ?_
          refine jw_iload rfl rfl ?_
          refine jw_iload_n rfl rfl ?_
          refine jw_virt (k := 5) (c := 19) (as := [.int (Int32.ofInt 11), .int (Int32.ofInt v2), .int (Int32.ofInt v3), .int (Int32.ofInt v4), .int (Int32.ofInt v1)]) rfl rfl rfl (Nat.le_of_ble_eq_true rfl) rfl (Nat.le_of_ble_eq_true rfl) rfl rfl (jz_ci ?_)
          refine jm_Q.mono h (jp_i_mono (fun r12 J10 K11 h => ?_))
          refine jw_goto rfl ?_
          refine jw_iret rfl ?_
          exact h
        · replace h := h.2 c9
          refine jw_if_eq rfl (by omega) (fun _ => ?_) (fun hc => by exfalso; omega)
          refine jw_aload_n rfl rfl ?_
          refine jw_bipush rfl (by decide) ?_
          refine jw_virt (k := 1) (c := 19) (as := [.int (Int32.ofInt (-2))]) rfl rfl rfl (Nat.le_of_ble_eq_true rfl) rfl (Nat.le_of_ble_eq_true rfl) rfl rfl (jz_ci ?_)
          refine jm_Q.mono h (jp_i_mono (fun r15 J13 K14 h => ?_))
          refine jw_iret rfl ?_
          exact h
      · replace h := h.2 c7
        refine jw_if_eq rfl (by omega) (fun _ => ?_) (fun hc => by exfalso; omega)
        refine jw_aload_n rfl rfl ?_
        refine jw_bipush rfl (by decide) ?_
        refine jw_virt (k := 1) (c := 19) (as := [.int (Int32.ofInt (-2))]) rfl rfl rfl (Nat.le_of_ble_eq_true rfl) rfl (Nat.le_of_ble_eq_true rfl) rfl rfl (jz_ci ?_)
        refine jm_Q.mono h (jp_i_mono (fun r18 J16 K17 h => ?_))
        refine jw_iret rfl ?_
        exact h
    · replace h := h.2 c5
      refine jw_if_eq rfl (by omega) (fun _ => ?_) (fun hc => by exfalso; omega)
      refine jw_aload_n rfl rfl ?_
      refine jw_bipush rfl (by decide) ?_
      refine jw_virt (k := 1) (c := 19) (as := [.int (Int32.ofInt (-2))]) rfl rfl rfl (Nat.le_of_ble_eq_true rfl) rfl (Nat.le_of_ble_eq_true rfl) rfl rfl (jz_ci ?_)
      refine jm_Q.mono h (jp_i_mono (fun r21 J19 K20 h => ?_))
      refine jw_iret rfl ?_
      exact h
  · replace h := h.2 c2
    refine jw_if_eq rfl (by omega) (fun _ => ?_) (fun hc => by exfalso; omega)
    refine jw_aload_n rfl rfl ?_
    refine jw_bipush rfl (by decide) ?_
    refine jw_virt (k := 1) (c := 19) (as := [.int (Int32.ofInt (-2))]) rfl rfl rfl (Nat.le_of_ble_eq_true rfl) rfl (Nat.le_of_ble_eq_true rfl) rfl rfl (jz_ci ?_)
    refine jm_Q.mono h (jp_i_mono (fun r24 J22 K23 h => ?_))
    refine jw_iret rfl ?_
    exact h
set_option maxHeartbeats 4000000 in
theorem e_234 {xs : Nat → Int32} {L d : Nat} {J K : jZ} {P : Int → jZ → jZ → Prop} (h : (-2147483648 ≤ J 167 10 ∧ J 167 10 < 2147483648) ∧ (¬ (J 167 10) = 0 → l_234_26 xs L d 0 (jm_up J 167 10 ((J 167 10) - 1)) K P) ∧ ((J 167 10) = 0 → q_170 xs L d (-5) J K (fun r5 J3 K4 => P r5 J3 K4))) : q_234 xs L (d + 1) J K P := by
  unfold q_234
  refine jq_in (ls := [some (.ref 167), none]) rfl (Nat.le_of_ble_eq_true rfl) rfl ?_
  refine jw_aload_n rfl rfl ?_
  refine jw_gf (v := (J 167 10)) rfl (by decide) rfl rfl ?_
  obtain ⟨o1, h⟩ := h
  refine jw_if_ne rfl o1 (fun c2 => ?_) (fun c2 => ?_)
  · replace h := h.1 c2
    refine jw_aload_n rfl rfl ?_
    refine jw_dup_r rfl ?_
    refine jw_gf (v := (J 167 10)) rfl (by decide) rfl rfl ?_
    refine jw_iconst rfl ?_
    refine jw_isub rfl ?_
    refine jw_pf rfl rfl ?_
    refine jw_iconst rfl ?_
    refine jw_istore_n (ls' := [some (.ref 167), some (.int (Int32.ofInt 0))]) rfl rfl ?_
    exact jz_fg (l := [some (.ref 167), some (.int (Int32.ofInt 0))]) ⟨rfl, rfl, trivial⟩ h
  · replace h := h.2 c2
    refine jw_aload_n rfl rfl ?_
    refine jw_bipush rfl (by decide) ?_
    refine jw_virt (k := 1) (c := 19) (as := [.int (Int32.ofInt (-5))]) rfl rfl rfl (Nat.le_of_ble_eq_true rfl) rfl (Nat.le_of_ble_eq_true rfl) rfl rfl (jz_ci ?_)
    refine jm_Q.mono h (jp_i_mono (fun r5 J3 K4 h => ?_))
    refine jw_iret rfl ?_
    exact h
set_option maxHeartbeats 4000000 in
theorem e_234_26 {xs : Nat → Int32} {L d : Nat} {v1 : Int} {J K : jZ} {P : Int → jZ → jZ → Prop} (h : (-2147483648 ≤ v1 ∧ v1 < 2147483648) ∧ (8 ≤ v1 → P (J 167 10) J K) ∧ (v1 < 8 → ((0 : Int) ≤ v1 ∧ v1 < 8) ∧ (-2147483648 ≤ J 168 v1.toNat ∧ J 168 v1.toNat < 2147483648) ∧ (¬ (J 168 v1.toNat) = 2 → l_234_26 xs L d (v1 + 1) (jm_up J 168 v1.toNat (J 168 v1.toNat)) K P) ∧ ((J 168 v1.toNat) = 2 → (-2147483648 ≤ J 181 v1.toNat ∧ J 181 v1.toNat < 2147483648) ∧ (-2147483648 ≤ J 167 10 ∧ J 167 10 < 2147483648) ∧ (¬ (J 181 v1.toNat) = (J 167 10) → l_234_26 xs L d (v1 + 1) (jm_up J 168 v1.toNat (J 168 v1.toNat)) K P) ∧ ((J 181 v1.toNat) = (J 167 10) → l_234_26 xs L d (v1 + 1) (jm_up J 168 v1.toNat 0) K P)))) : l_234_26 xs L d v1 J K P := by
  unfold l_234_26
  refine jw_iload_n rfl rfl ?_
  refine jw_bipush rfl (by decide) ?_
  obtain ⟨o1, h⟩ := h
  refine jw_ic_ge rfl o1 (by omega) (fun c2 => ?_) (fun c2 => ?_)
  · replace h := h.1 c2
    refine jw_aload_n rfl rfl ?_
    refine jw_gf (v := (J 167 10)) rfl (by decide) rfl rfl ?_
    refine jw_iret rfl ?_
    exact h
  · replace h := h.2 c2
    refine jw_aload_n rfl rfl ?_
    refine jw_gr (q := 168) rfl rfl rfl ?_
    refine jw_iload_n rfl rfl ?_
    refine jw_aload_n rfl rfl ?_
    refine jw_gr (q := 168) rfl rfl rfl ?_
    refine jw_iload_n rfl rfl ?_
    obtain ⟨o3, h⟩ := h
    refine jw_iald (v := (J 168 v1.toNat)) (N := 8) rfl rfl rfl (by omega) o3 rfl ?_
    refine jw_iconst rfl ?_
    obtain ⟨o4, h⟩ := h
    refine jw_ic_ne rfl o4 (by omega) (fun c5 => ?_) (fun c5 => ?_)
    · replace h := h.1 c5
      refine jw_aload_n rfl rfl ?_
      refine jw_gr (q := 168) rfl rfl rfl ?_
      refine jw_iload_n rfl rfl ?_
      refine jw_iald (v := (J 168 v1.toNat)) (N := 8) rfl rfl rfl (by omega) o3 rfl ?_
      refine jw_iast (N := 8) rfl rfl rfl (by omega) o3 ?_
      refine jw_iinc (ls' := [some (.ref 167), some (.int (Int32.ofInt (v1 + 1)))]) rfl rfl rfl ?_
      refine jw_goto rfl ?_
      exact jz_fg (l := [some (.ref 167), some (.int (Int32.ofInt (v1 + 1)))]) ⟨rfl, rfl, trivial⟩ h
    · replace h := h.2 c5
      refine jw_aload_n rfl rfl ?_
      refine jw_gr (q := 181) rfl rfl rfl ?_
      refine jw_iload_n rfl rfl ?_
      refine jw_iald (v := (J 181 v1.toNat)) (N := 8) rfl rfl rfl (by omega) o3 rfl ?_
      refine jw_aload_n rfl rfl ?_
      refine jw_gf (v := (J 167 10)) rfl (by decide) rfl rfl ?_
      obtain ⟨o6, h⟩ := h
      obtain ⟨o7, h⟩ := h
      refine jw_ic_ne rfl o6 o7 (fun c8 => ?_) (fun c8 => ?_)
      · replace h := h.1 c8
        refine jw_aload_n rfl rfl ?_
        refine jw_gr (q := 168) rfl rfl rfl ?_
        refine jw_iload_n rfl rfl ?_
        refine jw_iald (v := (J 168 v1.toNat)) (N := 8) rfl rfl rfl (by omega) o3 rfl ?_
        refine jw_iast (N := 8) rfl rfl rfl (by omega) o3 ?_
        refine jw_iinc (ls' := [some (.ref 167), some (.int (Int32.ofInt (v1 + 1)))]) rfl rfl rfl ?_
        refine jw_goto rfl ?_
        exact jz_fg (l := [some (.ref 167), some (.int (Int32.ofInt (v1 + 1)))]) ⟨rfl, rfl, trivial⟩ h
      · replace h := h.2 c8
        refine jw_iconst rfl ?_
        refine jw_goto rfl ?_
        refine jw_iast (N := 8) rfl rfl rfl (by omega) o3 ?_
        refine jw_iinc (ls' := [some (.ref 167), some (.int (Int32.ofInt (v1 + 1)))]) rfl rfl rfl ?_
        refine jw_goto rfl ?_
        exact jz_fg (l := [some (.ref 167), some (.int (Int32.ofInt (v1 + 1)))]) ⟨rfl, rfl, trivial⟩ h
set_option maxHeartbeats 4000000 in
theorem e_235 {xs : Nat → Int32} {L d : Nat} {v1 : Int} {v2 : Int} {J K : jZ} {P : Int → jZ → jZ → Prop} (h : (-2147483648 ≤ v1 ∧ v1 < 2147483648) ∧ (-2147483648 ≤ ((J 167 10) - 1) ∧ ((J 167 10) - 1) < 2147483648) ∧ (((0 : Int) ≤ v1 ∧ v1 < (J 167 10)) → (-2147483648 ≤ v2 ∧ v2 < 2147483648) ∧ ((0 ≤ v2 ∧ v2 ≤ 7) → ((0 : Int) ≤ v1 ∧ v1 < 24) ∧ q_236 xs L (d + 2) J K (fun J7 K8 => (v2 = 0 → P (J 187 v1.toNat) J7 K8) ∧ (¬ v2 = 0 → (v2 = 1 → q_238 xs L (d + 2) (J 187 v1.toNat) J7 K8 (fun r14 J12 K13 => (-2147483648 ≤ r14 ∧ r14 < 2147483648) ∧ (r14 < v2 → P (-1) J12 K13) ∧ (v2 ≤ r14 → ((0 : Int) ≤ (((4 * v1) + v2) - 1) ∧ (((4 * v1) + v2) - 1) < 96) ∧ P (J12 188 (((4 * v1) + v2) - 1).toNat) J12 K13))) ∧ (¬ v2 = 1 → (v2 = 2 → q_238 xs L (d + 2) (J 187 v1.toNat) J7 K8 (fun r21 J19 K20 => (-2147483648 ≤ r21 ∧ r21 < 2147483648) ∧ (r21 < v2 → P (-1) J19 K20) ∧ (v2 ≤ r21 → ((0 : Int) ≤ (((4 * v1) + v2) - 1) ∧ (((4 * v1) + v2) - 1) < 96) ∧ P (J19 188 (((4 * v1) + v2) - 1).toNat) J19 K20))) ∧ (¬ v2 = 2 → (v2 = 3 → q_238 xs L (d + 2) (J 187 v1.toNat) J7 K8 (fun r28 J26 K27 => (-2147483648 ≤ r28 ∧ r28 < 2147483648) ∧ (r28 < v2 → P (-1) J26 K27) ∧ (v2 ≤ r28 → ((0 : Int) ≤ (((4 * v1) + v2) - 1) ∧ (((4 * v1) + v2) - 1) < 96) ∧ P (J26 188 (((4 * v1) + v2) - 1).toNat) J26 K27))) ∧ (¬ v2 = 3 → (v2 = 4 → (-2147483648 ≤ J 187 v1.toNat ∧ J 187 v1.toNat < 2147483648) ∧ (¬ (J 187 v1.toNat) = 11 → (¬ (J 187 v1.toNat) = 10 → q_238 xs L (d + 2) (J 187 v1.toNat) J7 K8 (fun r38 J36 K37 => (-2147483648 ≤ r38 ∧ r38 < 2147483648) ∧ (¬ r38 = 2 → ((0 : Int) ≤ (4 * v1) ∧ (4 * v1) < 96) ∧ P (J36 188 (4 * v1).toNat) J36 K37) ∧ (r38 = 2 → P (-1) J36 K37))) ∧ ((J 187 v1.toNat) = 10 → ((0 : Int) ≤ ((4 * v1) + 1) ∧ ((4 * v1) + 1) < 96) ∧ P (J7 188 ((4 * v1) + 1).toNat) J7 K8)) ∧ ((J 187 v1.toNat) = 11 → ((0 : Int) ≤ ((4 * v1) + 3) ∧ ((4 * v1) + 3) < 96) ∧ P (J7 188 ((4 * v1) + 3).toNat) J7 K8)) ∧ (¬ v2 = 4 → (v2 = 5 → (-9223372036854775808 ≤ K8 199 v1.toNat ∧ K8 199 v1.toNat < 9223372036854775808) ∧ ((K8 199 v1.toNat) ≤ 1000000 → P (K8 199 v1.toNat) J7 K8) ∧ (1000000 < (K8 199 v1.toNat) → P 1000000 J7 K8)) ∧ (¬ v2 = 5 → (v2 = 6 → P (J7 200 v1.toNat) J7 K8) ∧ (¬ v2 = 6 → P (J7 201 v1.toNat) J7 K8))))))))) ∧ (¬ (0 ≤ v2 ∧ v2 ≤ 7) → l_235_20 xs L (d + 2) J K P)) ∧ (¬ ((0 : Int) ≤ v1 ∧ v1 < (J 167 10)) → l_235_20 xs L (d + 2) J K P)) : q_235 xs L (d + 3) v1 v2 J K P := by
  unfold q_235
  refine jq_in (ls := [some (.ref 167), some (.int (Int32.ofInt v1)), some (.int (Int32.ofInt v2)), none]) rfl (Nat.le_of_ble_eq_true rfl) rfl ?_
  refine jw_aload_n rfl rfl ?_
  refine jw_iload_n rfl rfl ?_
  refine jw_virt (k := 1) (c := 19) (as := [.int (Int32.ofInt v1)]) rfl rfl rfl (Nat.le_of_ble_eq_true rfl) rfl (Nat.le_of_ble_eq_true rfl) rfl rfl (jz_ci ?_)
  obtain ⟨o1, h⟩ := h
  obtain ⟨o2, h⟩ := h
  refine sb_178 o1 o2 (fun c3 => ?_) (fun c3 => ?_)
  · replace h := h.1 c3
    refine jw_if_eq rfl (by omega) (fun hc => by exfalso; omega) (fun _ => ?_)
    refine jw_iload_n rfl rfl ?_
    obtain ⟨o4, h⟩ := h
    refine jw_i2l rfl o4 ?_
    refine jw_lconst (x := 0) rfl rfl ?_
    refine jw_ldc2_w rfl ?_
    refine jw_stat (k := 3) (as := [.long (Int64.ofInt v2), .long (Int64.ofInt 0), .long (Int64.ofInt 7)]) rfl (by decide) rfl rfl (Nat.le_of_ble_eq_true rfl) rfl (Nat.le_of_ble_eq_true rfl) (jz_ci ?_)
    refine sb_169 (by omega) (by omega) (by omega) (fun c5 => ?_) (fun c5 => ?_)
    · replace h := h.1 c5
      refine jw_if_ne rfl (by omega) (fun _ => ?_) (fun hc => by exfalso; omega)
      refine jw_aload_n rfl rfl ?_
      refine jw_gr (q := 187) rfl rfl rfl ?_
      refine jw_iload_n rfl rfl ?_
      obtain ⟨o6, h⟩ := h
      refine jw_iald (v := (J 187 v1.toNat)) (N := 24) rfl rfl rfl (by omega) o6 rfl ?_
      refine jw_istore_n (ls' := [some (.ref 167), some (.int (Int32.ofInt v1)), some (.int (Int32.ofInt v2)), some (.int (Int32.ofInt (J 187 v1.toNat)))]) rfl rfl ?_
      refine jw_aload_n rfl rfl ?_
      refine jw_virt (k := 0) (c := 19) (as := []) rfl rfl rfl (Nat.le_of_ble_eq_true rfl) rfl (Nat.le_of_ble_eq_true rfl) rfl rfl (jz_cv ?_)
      refine jm_Q.mono h (jp_v_mono (fun J7 K8 h => ?_))
      refine jw_iload_n rfl rfl ?_
      by_cases c10 : v2 = 0
      · replace h := h.1 c10
        refine jw_tab_in (pc2 := 80) (v := 0) (o := 41) rfl o4 c10 (by omega) rfl (by omega) ?_
        refine jw_iload_n rfl rfl ?_
        refine jw_iret rfl ?_
        exact h
      · replace h := h.2 c10
        by_cases c11 : v2 = 1
        · replace h := h.1 c11
          refine jw_tab_in (pc2 := 82) (v := 1) (o := 43) rfl o4 c11 (by omega) rfl (by omega) ?_
          refine jw_iload_n rfl rfl ?_
          refine jw_iload_n rfl rfl ?_
          refine jw_stat (k := 1) (as := [.int (Int32.ofInt (J 187 v1.toNat))]) rfl (by decide) rfl rfl (Nat.le_of_ble_eq_true rfl) rfl (Nat.le_of_ble_eq_true rfl) (jz_ci ?_)
          refine jm_Q.mono h (jp_i_mono (fun r14 J12 K13 h => ?_))
          obtain ⟨o15, h⟩ := h
          refine jw_ic_gt rfl o4 o15 (fun c16 => ?_) (fun c16 => ?_)
          · replace h := h.1 c16
            refine jw_iconst rfl ?_
            refine jw_iret rfl ?_
            exact h
          · replace h := h.2 c16
            refine jw_aload_n rfl rfl ?_
            refine jw_gr (q := 188) rfl rfl rfl ?_
            refine jw_iconst rfl ?_
            refine jw_iload_n rfl rfl ?_
            refine jw_imul rfl ?_
            refine jw_iload_n rfl rfl ?_
            refine jw_iadd rfl ?_
            refine jw_iconst rfl ?_
            refine jw_isub rfl ?_
            obtain ⟨o17, h⟩ := h
            refine jw_iald (v := (J12 188 (((4 * v1) + v2) - 1).toNat)) (N := 96) rfl rfl rfl (by omega) o17 rfl ?_
            refine jw_goto rfl ?_
            refine jw_iret rfl ?_
            exact h
        · replace h := h.2 c11
          by_cases c18 : v2 = 2
          · replace h := h.1 c18
            refine jw_tab_in (pc2 := 82) (v := 2) (o := 43) rfl o4 c18 (by omega) rfl (by omega) ?_
            refine jw_iload_n rfl rfl ?_
            refine jw_iload_n rfl rfl ?_
            refine jw_stat (k := 1) (as := [.int (Int32.ofInt (J 187 v1.toNat))]) rfl (by decide) rfl rfl (Nat.le_of_ble_eq_true rfl) rfl (Nat.le_of_ble_eq_true rfl) (jz_ci ?_)
            refine jm_Q.mono h (jp_i_mono (fun r21 J19 K20 h => ?_))
            obtain ⟨o22, h⟩ := h
            refine jw_ic_gt rfl o4 o22 (fun c23 => ?_) (fun c23 => ?_)
            · replace h := h.1 c23
              refine jw_iconst rfl ?_
              refine jw_iret rfl ?_
              exact h
            · replace h := h.2 c23
              refine jw_aload_n rfl rfl ?_
              refine jw_gr (q := 188) rfl rfl rfl ?_
              refine jw_iconst rfl ?_
              refine jw_iload_n rfl rfl ?_
              refine jw_imul rfl ?_
              refine jw_iload_n rfl rfl ?_
              refine jw_iadd rfl ?_
              refine jw_iconst rfl ?_
              refine jw_isub rfl ?_
              obtain ⟨o24, h⟩ := h
              refine jw_iald (v := (J19 188 (((4 * v1) + v2) - 1).toNat)) (N := 96) rfl rfl rfl (by omega) o24 rfl ?_
              refine jw_goto rfl ?_
              refine jw_iret rfl ?_
              exact h
          · replace h := h.2 c18
            by_cases c25 : v2 = 3
            · replace h := h.1 c25
              refine jw_tab_in (pc2 := 82) (v := 3) (o := 43) rfl o4 c25 (by omega) rfl (by omega) ?_
              refine jw_iload_n rfl rfl ?_
              refine jw_iload_n rfl rfl ?_
              refine jw_stat (k := 1) (as := [.int (Int32.ofInt (J 187 v1.toNat))]) rfl (by decide) rfl rfl (Nat.le_of_ble_eq_true rfl) rfl (Nat.le_of_ble_eq_true rfl) (jz_ci ?_)
              refine jm_Q.mono h (jp_i_mono (fun r28 J26 K27 h => ?_))
              obtain ⟨o29, h⟩ := h
              refine jw_ic_gt rfl o4 o29 (fun c30 => ?_) (fun c30 => ?_)
              · replace h := h.1 c30
                refine jw_iconst rfl ?_
                refine jw_iret rfl ?_
                exact h
              · replace h := h.2 c30
                refine jw_aload_n rfl rfl ?_
                refine jw_gr (q := 188) rfl rfl rfl ?_
                refine jw_iconst rfl ?_
                refine jw_iload_n rfl rfl ?_
                refine jw_imul rfl ?_
                refine jw_iload_n rfl rfl ?_
                refine jw_iadd rfl ?_
                refine jw_iconst rfl ?_
                refine jw_isub rfl ?_
                obtain ⟨o31, h⟩ := h
                refine jw_iald (v := (J26 188 (((4 * v1) + v2) - 1).toNat)) (N := 96) rfl rfl rfl (by omega) o31 rfl ?_
                refine jw_goto rfl ?_
                refine jw_iret rfl ?_
                exact h
            · replace h := h.2 c25
              by_cases c32 : v2 = 4
              · replace h := h.1 c32
                refine jw_tab_in (pc2 := 107) (v := 4) (o := 68) rfl o4 c32 (by omega) rfl (by omega) ?_
                refine jw_iload_n rfl rfl ?_
                refine jw_bipush rfl (by decide) ?_
                obtain ⟨o33, h⟩ := h
                refine jw_ic_ne rfl o33 (by omega) (fun c34 => ?_) (fun c34 => ?_)
                · replace h := h.1 c34
                  refine jw_iload_n rfl rfl ?_
                  refine jw_bipush rfl (by decide) ?_
                  refine jw_ic_ne rfl o33 (by omega) (fun c35 => ?_) (fun c35 => ?_)
                  · replace h := h.1 c35
                    refine jw_iload_n rfl rfl ?_
                    refine jw_stat (k := 1) (as := [.int (Int32.ofInt (J 187 v1.toNat))]) rfl (by decide) rfl rfl (Nat.le_of_ble_eq_true rfl) rfl (Nat.le_of_ble_eq_true rfl) (jz_ci ?_)
                    refine jm_Q.mono h (jp_i_mono (fun r38 J36 K37 h => ?_))
                    refine jw_iconst rfl ?_
                    obtain ⟨o39, h⟩ := h
                    refine jw_ic_ne rfl o39 (by omega) (fun c40 => ?_) (fun c40 => ?_)
                    · replace h := h.1 c40
                      refine jw_aload_n rfl rfl ?_
                      refine jw_gr (q := 188) rfl rfl rfl ?_
                      refine jw_iconst rfl ?_
                      refine jw_iload_n rfl rfl ?_
                      refine jw_imul rfl ?_
                      obtain ⟨o41, h⟩ := h
                      refine jw_iald (v := (J36 188 (4 * v1).toNat)) (N := 96) rfl rfl rfl (by omega) o41 rfl ?_
                      refine jw_iret rfl ?_
                      exact h
                    · replace h := h.2 c40
                      refine jw_iconst rfl ?_
                      refine jw_goto rfl ?_
                      refine jw_iret rfl ?_
                      exact h
                  · replace h := h.2 c35
                    refine jw_aload_n rfl rfl ?_
                    refine jw_gr (q := 188) rfl rfl rfl ?_
                    refine jw_iconst rfl ?_
                    refine jw_iload_n rfl rfl ?_
                    refine jw_imul rfl ?_
                    refine jw_iconst rfl ?_
                    refine jw_iadd rfl ?_
                    obtain ⟨o42, h⟩ := h
                    refine jw_iald (v := (J7 188 ((4 * v1) + 1).toNat)) (N := 96) rfl rfl rfl (by omega) o42 rfl ?_
                    refine jw_goto rfl ?_
                    refine jw_iret rfl ?_
                    exact h
                · replace h := h.2 c34
                  refine jw_aload_n rfl rfl ?_
                  refine jw_gr (q := 188) rfl rfl rfl ?_
                  refine jw_iconst rfl ?_
                  refine jw_iload_n rfl rfl ?_
                  refine jw_imul rfl ?_
                  refine jw_iconst rfl ?_
                  refine jw_iadd rfl ?_
                  obtain ⟨o43, h⟩ := h
                  refine jw_iald (v := (J7 188 ((4 * v1) + 3).toNat)) (N := 96) rfl rfl rfl (by omega) o43 rfl ?_
                  refine jw_goto rfl ?_
                  refine jw_iret rfl ?_
                  exact h
              · replace h := h.2 c32
                by_cases c44 : v2 = 5
                · replace h := h.1 c44
                  refine jw_tab_in (pc2 := 166) (v := 5) (o := 127) rfl o4 c44 (by omega) rfl (by omega) ?_
                  refine jw_aload_n rfl rfl ?_
                  refine jw_gr (q := 199) rfl rfl rfl ?_
                  refine jw_iload_n rfl rfl ?_
                  refine jw_lald (v := (K8 199 v1.toNat)) (N := 24) rfl rfl rfl (by omega) o6 rfl ?_
                  refine jw_ldc2_w rfl ?_
                  obtain ⟨o45, h⟩ := h
                  refine jw_lc_le rfl rfl o45 (by omega) (fun c46 => ?_) (fun c46 => ?_)
                  · replace h := h.1 c46
                    refine jw_aload_n rfl rfl ?_
                    refine jw_gr (q := 199) rfl rfl rfl ?_
                    refine jw_iload_n rfl rfl ?_
                    refine jw_lald (v := (K8 199 v1.toNat)) (N := 24) rfl rfl rfl (by omega) o6 rfl ?_
                    refine jw_l2i rfl ?_
                    refine jw_iret rfl ?_
                    exact h
                  · replace h := h.2 c46
                    refine jw_ldc_w rfl ?_
                    refine jw_goto rfl ?_
                    refine jw_iret rfl ?_
                    exact h
                · replace h := h.2 c44
                  by_cases c47 : v2 = 6
                  · replace h := h.1 c47
                    refine jw_tab_in (pc2 := 193) (v := 6) (o := 154) rfl o4 c47 (by omega) rfl (by omega) ?_
                    refine jw_aload_n rfl rfl ?_
                    refine jw_gr (q := 200) rfl rfl rfl ?_
                    refine jw_iload_n rfl rfl ?_
                    refine jw_iald (v := (J7 200 v1.toNat)) (N := 24) rfl rfl rfl (by omega) o6 rfl ?_
                    refine jw_iret rfl ?_
                    exact h
                  · replace h := h.2 c47
                    refine jw_tab_out (pc2 := 200) rfl o4 (by omega) (by omega) ?_
                    refine jw_aload_n rfl rfl ?_
                    refine jw_gr (q := 201) rfl rfl rfl ?_
                    refine jw_iload_n rfl rfl ?_
                    refine jw_iald (v := (J7 201 v1.toNat)) (N := 24) rfl rfl rfl (by omega) o6 rfl ?_
                    refine jw_iret rfl ?_
                    exact h
    · replace h := h.2 c5
      refine jw_if_ne rfl (by omega) (fun hc => by exfalso; omega) (fun _ => ?_)
      exact jz_fg (l := [some (.ref 167), none, none, none]) ⟨rfl, jz_ni, jz_ni, jz_n0, trivial⟩ h
  · replace h := h.2 c3
    refine jw_if_eq rfl (by omega) (fun _ => ?_) (fun hc => by exfalso; omega)
    exact jz_fg (l := [some (.ref 167), none, none, none]) ⟨rfl, jz_ni, jz_ni, jz_n0, trivial⟩ h
set_option maxHeartbeats 4000000 in
theorem e_235_20 {xs : Nat → Int32} {L d : Nat} {J K : jZ} {P : Int → jZ → jZ → Prop} (h : q_170 xs L (d + 2) (-2) J K (fun r3 J1 K2 => P r3 J1 K2)) : l_235_20 xs L (d + 2) J K P := by
  unfold l_235_20
  refine jw_aload_n rfl rfl ?_
  refine jw_bipush rfl (by decide) ?_
  refine jw_virt (k := 1) (c := 19) (as := [.int (Int32.ofInt (-2))]) rfl rfl rfl (Nat.le_of_ble_eq_true rfl) rfl (Nat.le_of_ble_eq_true rfl) rfl rfl (jz_ci ?_)
  refine jm_Q.mono h (jp_i_mono (fun r3 J1 K2 h => ?_))
  refine jw_iret rfl ?_
  exact h
set_option maxHeartbeats 4000000 in
theorem e_236 {xs : Nat → Int32} {L d : Nat} {J K : jZ} {P : jZ → jZ → Prop} (h : l_236_2 xs L d 0 J K P) : q_236 xs L (d + 1) J K P := by
  unfold q_236
  refine jq_in (ls := [some (.ref 167), none, none, none]) rfl (Nat.le_of_ble_eq_true rfl) rfl ?_
  refine jw_iconst rfl ?_
  refine jw_istore_n (ls' := [some (.ref 167), some (.int (Int32.ofInt 0)), none, none]) rfl rfl ?_
  exact jz_fg (l := [some (.ref 167), some (.int (Int32.ofInt 0)), none, none]) ⟨rfl, rfl, jz_n0, jz_n0, trivial⟩ h
set_option maxHeartbeats 4000000 in
theorem e_236_2 {xs : Nat → Int32} {L d : Nat} {v1 : Int} {J K : jZ} {P : jZ → jZ → Prop} (h : (-2147483648 ≤ v1 ∧ v1 < 2147483648) ∧ (-2147483648 ≤ J 167 10 ∧ J 167 10 < 2147483648) ∧ ((J 167 10) ≤ v1 → P J K) ∧ (v1 < (J 167 10) → ((0 : Int) ≤ v1 ∧ v1 < 24) ∧ (-2147483648 ≤ J 187 v1.toNat ∧ J 187 v1.toNat < 2147483648) ∧ ((J 187 v1.toNat) = 0 → q_237 xs L d v1 (jm_up J 200 v1.toNat 0) (jm_up K 199 v1.toNat 1) (fun r9 J7 K8 => l_236_60 xs L d v1 0 (jm_up J7 201 v1.toNat r9) K8 P)) ∧ (¬ (J 187 v1.toNat) = 0 → (¬ (J 187 v1.toNat) = 1 → l_236_60 xs L d v1 0 (jm_up (jm_up J 200 v1.toNat 0) 201 v1.toNat 0) (jm_up K 199 v1.toNat 1) P) ∧ ((J 187 v1.toNat) = 1 → q_237 xs L d v1 (jm_up J 200 v1.toNat 0) (jm_up K 199 v1.toNat 1) (fun r13 J11 K12 => l_236_60 xs L d v1 0 (jm_up J11 201 v1.toNat r13) K12 P))))) : l_236_2 xs L d v1 J K P := by
  unfold l_236_2
  refine jw_iload_n rfl rfl ?_
  refine jw_aload_n rfl rfl ?_
  refine jw_gf (v := (J 167 10)) rfl (by decide) rfl rfl ?_
  obtain ⟨o1, h⟩ := h
  obtain ⟨o2, h⟩ := h
  refine jw_ic_ge rfl o1 o2 (fun c3 => ?_) (fun c3 => ?_)
  · replace h := h.1 c3
    refine jw_vret rfl ?_
    exact h
  · replace h := h.2 c3
    refine jw_aload_n rfl rfl ?_
    refine jw_gr (q := 199) rfl rfl rfl ?_
    refine jw_iload_n rfl rfl ?_
    refine jw_lconst (x := 1) rfl rfl ?_
    obtain ⟨o4, h⟩ := h
    refine jw_last (N := 24) rfl rfl rfl (by omega) o4 ?_
    refine jw_aload_n rfl rfl ?_
    refine jw_gr (q := 200) rfl rfl rfl ?_
    refine jw_iload_n rfl rfl ?_
    refine jw_iconst rfl ?_
    refine jw_iast (N := 24) rfl rfl rfl (by omega) o4 ?_
    refine jw_aload_n rfl rfl ?_
    refine jw_gr (q := 201) rfl rfl rfl ?_
    refine jw_iload_n rfl rfl ?_
    refine jw_aload_n rfl rfl ?_
    refine jw_gr (q := 187) rfl rfl rfl ?_
    refine jw_iload_n rfl rfl ?_
    refine jw_iald (v := (J 187 v1.toNat)) (N := 24) rfl rfl rfl (by omega) o4 (by simp [jm_up]) ?_
    obtain ⟨o5, h⟩ := h
    refine jw_if_eq rfl o5 (fun c6 => ?_) (fun c6 => ?_)
    · replace h := h.1 c6
      refine jw_aload_n rfl rfl ?_
      refine jw_iload_n rfl rfl ?_
      refine jw_virt (k := 1) (c := 19) (as := [.int (Int32.ofInt v1)]) rfl rfl rfl (Nat.le_of_ble_eq_true rfl) rfl (Nat.le_of_ble_eq_true rfl) rfl rfl (jz_ci ?_)
      refine jm_Q.mono h (jp_i_mono (fun r9 J7 K8 h => ?_))
      refine jw_goto rfl ?_
      refine jw_iast (N := 24) rfl rfl rfl (by omega) o4 ?_
      refine jw_iconst rfl ?_
      refine jw_istore_n (ls' := [some (.ref 167), some (.int (Int32.ofInt v1)), some (.int (Int32.ofInt 0)), none]) rfl rfl ?_
      exact jz_fg (l := [some (.ref 167), some (.int (Int32.ofInt v1)), some (.int (Int32.ofInt 0)), none]) ⟨rfl, rfl, rfl, jz_n0, trivial⟩ h
    · replace h := h.2 c6
      refine jw_aload_n rfl rfl ?_
      refine jw_gr (q := 187) rfl rfl rfl ?_
      refine jw_iload_n rfl rfl ?_
      refine jw_iald (v := (J 187 v1.toNat)) (N := 24) rfl rfl rfl (by omega) o4 (by simp [jm_up]) ?_
      refine jw_iconst rfl ?_
      refine jw_ic_ne rfl o5 (by omega) (fun c10 => ?_) (fun c10 => ?_)
      · replace h := h.1 c10
        refine jw_iconst rfl ?_
        refine jw_iast (N := 24) rfl rfl rfl (by omega) o4 ?_
        refine jw_iconst rfl ?_
        refine jw_istore_n (ls' := [some (.ref 167), some (.int (Int32.ofInt v1)), some (.int (Int32.ofInt 0)), none]) rfl rfl ?_
        exact jz_fg (l := [some (.ref 167), some (.int (Int32.ofInt v1)), some (.int (Int32.ofInt 0)), none]) ⟨rfl, rfl, rfl, jz_n0, trivial⟩ h
      · replace h := h.2 c10
        refine jw_aload_n rfl rfl ?_
        refine jw_iload_n rfl rfl ?_
        refine jw_virt (k := 1) (c := 19) (as := [.int (Int32.ofInt v1)]) rfl rfl rfl (Nat.le_of_ble_eq_true rfl) rfl (Nat.le_of_ble_eq_true rfl) rfl rfl (jz_ci ?_)
        refine jm_Q.mono h (jp_i_mono (fun r13 J11 K12 h => ?_))
        refine jw_goto rfl ?_
        refine jw_iast (N := 24) rfl rfl rfl (by omega) o4 ?_
        refine jw_iconst rfl ?_
        refine jw_istore_n (ls' := [some (.ref 167), some (.int (Int32.ofInt v1)), some (.int (Int32.ofInt 0)), none]) rfl rfl ?_
        exact jz_fg (l := [some (.ref 167), some (.int (Int32.ofInt v1)), some (.int (Int32.ofInt 0)), none]) ⟨rfl, rfl, rfl, jz_n0, trivial⟩ h
set_option maxHeartbeats 4000000 in
theorem e_236_60 {xs : Nat → Int32} {L d : Nat} {v1 : Int} {v2 : Int} {J K : jZ} {P : jZ → jZ → Prop} (h : ((0 : Int) ≤ v1 ∧ v1 < 24) ∧ q_238 xs L d (J 187 v1.toNat) J K (fun r4 J2 K3 => (-2147483648 ≤ v2 ∧ v2 < 2147483648) ∧ (-2147483648 ≤ r4 ∧ r4 < 2147483648) ∧ (r4 ≤ v2 → l_236_2 xs L d (v1 + 1) J2 K3 P) ∧ (v2 < r4 → ((0 : Int) ≤ ((4 * v1) + v2) ∧ ((4 * v1) + v2) < 96) ∧ ((0 : Int) ≤ J2 188 ((4 * v1) + v2).toNat ∧ J2 188 ((4 * v1) + v2).toNat < 24) ∧ (-2147483648 ≤ ((J2 200 (J2 188 ((4 * v1) + v2).toNat).toNat) + 1) ∧ ((J2 200 (J2 188 ((4 * v1) + v2).toNat).toNat) + 1) < 2147483648) ∧ (-2147483648 ≤ J2 200 v1.toNat ∧ J2 200 v1.toNat < 2147483648) ∧ (((J2 200 (J2 188 ((4 * v1) + v2).toNat).toNat) + 1) ≤ (J2 200 v1.toNat) → l_236_60 xs L d v1 (v2 + 1) (jm_up (jm_up J2 200 v1.toNat (J2 200 v1.toNat)) 201 v1.toNat (jz_or (J2 201 v1.toNat) (J2 201 (J2 188 ((4 * v1) + v2).toNat).toNat))) (jm_up K3 199 v1.toNat ((K3 199 v1.toNat) + (K3 199 (J2 188 ((4 * v1) + v2).toNat).toNat))) P) ∧ ((J2 200 v1.toNat) < ((J2 200 (J2 188 ((4 * v1) + v2).toNat).toNat) + 1) → l_236_60 xs L d v1 (v2 + 1) (jm_up (jm_up J2 200 v1.toNat ((J2 200 (J2 188 ((4 * v1) + v2).toNat).toNat) + 1)) 201 v1.toNat (jz_or (J2 201 v1.toNat) (J2 201 (J2 188 ((4 * v1) + v2).toNat).toNat))) (jm_up K3 199 v1.toNat ((K3 199 v1.toNat) + (K3 199 (J2 188 ((4 * v1) + v2).toNat).toNat))) P)))) : l_236_60 xs L d v1 v2 J K P := by
  unfold l_236_60
  refine jw_iload_n rfl rfl ?_
  refine jw_aload_n rfl rfl ?_
  refine jw_gr (q := 187) rfl rfl rfl ?_
  refine jw_iload_n rfl rfl ?_
  obtain ⟨o1, h⟩ := h
  refine jw_iald (v := (J 187 v1.toNat)) (N := 24) rfl rfl rfl (by omega) o1 rfl ?_
  refine jw_stat (k := 1) (as := [.int (Int32.ofInt (J 187 v1.toNat))]) rfl (by decide) rfl rfl (Nat.le_of_ble_eq_true rfl) rfl (Nat.le_of_ble_eq_true rfl) (jz_ci ?_)
  refine jm_Q.mono h (jp_i_mono (fun r4 J2 K3 h => ?_))
  obtain ⟨o5, h⟩ := h
  obtain ⟨o6, h⟩ := h
  refine jw_ic_ge rfl o5 o6 (fun c7 => ?_) (fun c7 => ?_)
  · replace h := h.1 c7
    refine jw_iinc (ls' := [some (.ref 167), some (.int (Int32.ofInt (v1 + 1))), some (.int (Int32.ofInt v2)), none]) rfl rfl rfl ?_
    refine jw_goto rfl ?_
    exact jz_fg (l := [some (.ref 167), some (.int (Int32.ofInt (v1 + 1))), none, none]) ⟨rfl, rfl, jz_ni, jz_n0, trivial⟩ h
  · replace h := h.2 c7
    refine jw_aload_n rfl rfl ?_
    refine jw_gr (q := 188) rfl rfl rfl ?_
    refine jw_iconst rfl ?_
    refine jw_iload_n rfl rfl ?_
    refine jw_imul rfl ?_
    refine jw_iload_n rfl rfl ?_
    refine jw_iadd rfl ?_
    obtain ⟨o8, h⟩ := h
    refine jw_iald (v := (J2 188 ((4 * v1) + v2).toNat)) (N := 96) rfl rfl rfl (by omega) o8 rfl ?_
    refine jw_istore_n (ls' := [some (.ref 167), some (.int (Int32.ofInt v1)), some (.int (Int32.ofInt v2)), some (.int (Int32.ofInt (J2 188 ((4 * v1) + v2).toNat)))]) rfl rfl ?_
    refine jw_aload_n rfl rfl ?_
    refine jw_gr (q := 199) rfl rfl rfl ?_
    refine jw_iload_n rfl rfl ?_
    refine jw_dup2 rfl ?_
    refine jw_lald (v := (K3 199 v1.toNat)) (N := 24) rfl rfl rfl (by omega) o1 rfl ?_
    refine jw_aload_n rfl rfl ?_
    refine jw_gr (q := 199) rfl rfl rfl ?_
    refine jw_iload_n rfl rfl ?_
    obtain ⟨o9, h⟩ := h
    refine jw_lald (v := (K3 199 (J2 188 ((4 * v1) + v2).toNat).toNat)) (N := 24) rfl rfl rfl (by omega) o9 rfl ?_
    refine jw_ladd rfl ?_
    refine jw_last (N := 24) rfl rfl rfl (by omega) o1 ?_
    refine jw_aload_n rfl rfl ?_
    refine jw_gr (q := 200) rfl rfl rfl ?_
    refine jw_iload_n rfl rfl ?_
    refine jw_aload_n rfl rfl ?_
    refine jw_gr (q := 200) rfl rfl rfl ?_
    refine jw_iload_n rfl rfl ?_
    refine jw_iald (v := (J2 200 (J2 188 ((4 * v1) + v2).toNat).toNat)) (N := 24) rfl rfl rfl (by omega) o9 rfl ?_
    refine jw_iconst rfl ?_
    refine jw_iadd rfl ?_
    refine jw_aload_n rfl rfl ?_
    refine jw_gr (q := 200) rfl rfl rfl ?_
    refine jw_iload_n rfl rfl ?_
    refine jw_iald (v := (J2 200 v1.toNat)) (N := 24) rfl rfl rfl (by omega) o1 rfl ?_
    obtain ⟨o10, h⟩ := h
    obtain ⟨o11, h⟩ := h
    refine jw_ic_le rfl o10 o11 (fun c12 => ?_) (fun c12 => ?_)
    · replace h := h.1 c12
      refine jw_aload_n rfl rfl ?_
      refine jw_gr (q := 200) rfl rfl rfl ?_
      refine jw_iload_n rfl rfl ?_
      refine jw_iald (v := (J2 200 v1.toNat)) (N := 24) rfl rfl rfl (by omega) o1 rfl ?_
      refine jw_iast (N := 24) rfl rfl rfl (by omega) o1 ?_
      refine jw_aload_n rfl rfl ?_
      refine jw_gr (q := 201) rfl rfl rfl ?_
      refine jw_iload_n rfl rfl ?_
      refine jw_dup2 rfl ?_
      refine jw_iald (v := (J2 201 v1.toNat)) (N := 24) rfl rfl rfl (by omega) o1 (by simp [jm_up]) ?_
      refine jw_aload_n rfl rfl ?_
      refine jw_gr (q := 201) rfl rfl rfl ?_
      refine jw_iload_n rfl rfl ?_
      refine jw_iald (v := (J2 201 (J2 188 ((4 * v1) + v2).toNat).toNat)) (N := 24) rfl rfl rfl (by omega) o9 (by simp [jm_up]) ?_
      refine jw_ior rfl ?_
      refine jw_iast (N := 24) rfl rfl rfl (by omega) o1 ?_
      refine jw_iinc (ls' := [some (.ref 167), some (.int (Int32.ofInt v1)), some (.int (Int32.ofInt (v2 + 1))), some (.int (Int32.ofInt (J2 188 ((4 * v1) + v2).toNat)))]) rfl rfl rfl ?_
      refine jw_goto rfl ?_
      exact jz_fg (l := [some (.ref 167), some (.int (Int32.ofInt v1)), some (.int (Int32.ofInt (v2 + 1))), none]) ⟨rfl, rfl, rfl, jz_ni, trivial⟩ h
    · replace h := h.2 c12
      refine jw_aload_n rfl rfl ?_
      refine jw_gr (q := 200) rfl rfl rfl ?_
      refine jw_iload_n rfl rfl ?_
      refine jw_iald (v := (J2 200 (J2 188 ((4 * v1) + v2).toNat).toNat)) (N := 24) rfl rfl rfl (by omega) o9 rfl ?_
      refine jw_iconst rfl ?_
      refine jw_iadd rfl ?_
      refine jw_goto rfl ?_
      refine jw_iast (N := 24) rfl rfl rfl (by omega) o1 ?_
      refine jw_aload_n rfl rfl ?_
      refine jw_gr (q := 201) rfl rfl rfl ?_
      refine jw_iload_n rfl rfl ?_
      refine jw_dup2 rfl ?_
      refine jw_iald (v := (J2 201 v1.toNat)) (N := 24) rfl rfl rfl (by omega) o1 (by simp [jm_up]) ?_
      refine jw_aload_n rfl rfl ?_
      refine jw_gr (q := 201) rfl rfl rfl ?_
      refine jw_iload_n rfl rfl ?_
      refine jw_iald (v := (J2 201 (J2 188 ((4 * v1) + v2).toNat).toNat)) (N := 24) rfl rfl rfl (by omega) o9 (by simp [jm_up]) ?_
      refine jw_ior rfl ?_
      refine jw_iast (N := 24) rfl rfl rfl (by omega) o1 ?_
      refine jw_iinc (ls' := [some (.ref 167), some (.int (Int32.ofInt v1)), some (.int (Int32.ofInt (v2 + 1))), some (.int (Int32.ofInt (J2 188 ((4 * v1) + v2).toNat)))]) rfl rfl rfl ?_
      refine jw_goto rfl ?_
      exact jz_fg (l := [some (.ref 167), some (.int (Int32.ofInt v1)), some (.int (Int32.ofInt (v2 + 1))), none]) ⟨rfl, rfl, rfl, jz_ni, trivial⟩ h
set_option maxHeartbeats 4000000 in
theorem e_237 {xs : Nat → Int32} {L d : Nat} {v1 : Int} {J K : jZ} {P : Int → jZ → jZ → Prop} (h : l_237_4 xs L d v1 0 0 J K P) : q_237 xs L (d + 1) v1 J K P := by
  unfold q_237
  refine jq_in (ls := [some (.ref 167), some (.int (Int32.ofInt v1)), none, none]) rfl (Nat.le_of_ble_eq_true rfl) rfl ?_
  refine jw_iconst rfl ?_
  refine jw_istore_n (ls' := [some (.ref 167), some (.int (Int32.ofInt v1)), some (.int (Int32.ofInt 0)), none]) rfl rfl ?_
  refine jw_iconst rfl ?_
  refine jw_istore_n (ls' := [some (.ref 167), some (.int (Int32.ofInt v1)), some (.int (Int32.ofInt 0)), some (.int (Int32.ofInt 0))]) rfl rfl ?_
  exact jz_fg (l := [some (.ref 167), some (.int (Int32.ofInt v1)), some (.int (Int32.ofInt 0)), some (.int (Int32.ofInt 0))]) ⟨rfl, rfl, rfl, rfl, trivial⟩ h
set_option maxHeartbeats 4000000 in
theorem e_237_4 {xs : Nat → Int32} {L d : Nat} {v1 : Int} {v2 : Int} {v3 : Int} {J K : jZ} {P : Int → jZ → jZ → Prop} (h : (-2147483648 ≤ v3 ∧ v3 < 2147483648) ∧ (4 ≤ v3 → P v2 J K) ∧ (v3 < 4 → ((0 : Int) ≤ ((4 * v1) + v3) ∧ ((4 * v1) + v3) < 96) ∧ (-2147483648 ≤ J 188 ((4 * v1) + v3).toNat ∧ J 188 ((4 * v1) + v3).toNat < 2147483648) ∧ (¬ (J 188 ((4 * v1) + v3).toNat) = (-1) → l_237_4 xs L d v1 (jz_or v2 (jz_shl 1 (J 188 ((4 * v1) + v3).toNat))) (v3 + 1) J K P) ∧ ((J 188 ((4 * v1) + v3).toNat) = (-1) → l_237_4 xs L d v1 (jz_or v2 0) (v3 + 1) J K P))) : l_237_4 xs L d v1 v2 v3 J K P := by
  unfold l_237_4
  refine jw_iload_n rfl rfl ?_
  refine jw_iconst rfl ?_
  obtain ⟨o1, h⟩ := h
  refine jw_ic_ge rfl o1 (by omega) (fun c2 => ?_) (fun c2 => ?_)
  · replace h := h.1 c2
    refine jw_iload_n rfl rfl ?_
    refine jw_iret rfl ?_
    exact h
  · replace h := h.2 c2
    refine jw_iload_n rfl rfl ?_
    refine jw_aload_n rfl rfl ?_
    refine jw_gr (q := 188) rfl rfl rfl ?_
    refine jw_iconst rfl ?_
    refine jw_iload_n rfl rfl ?_
    refine jw_imul rfl ?_
    refine jw_iload_n rfl rfl ?_
    refine jw_iadd rfl ?_
    obtain ⟨o3, h⟩ := h
    refine jw_iald (v := (J 188 ((4 * v1) + v3).toNat)) (N := 96) rfl rfl rfl (by omega) o3 rfl ?_
    refine jw_iconst rfl ?_
    obtain ⟨o4, h⟩ := h
    refine jw_ic_ne rfl o4 (by omega) (fun c5 => ?_) (fun c5 => ?_)
    · replace h := h.1 c5
      refine jw_iconst rfl ?_
      refine jw_aload_n rfl rfl ?_
      refine jw_gr (q := 188) rfl rfl rfl ?_
      refine jw_iconst rfl ?_
      refine jw_iload_n rfl rfl ?_
      refine jw_imul rfl ?_
      refine jw_iload_n rfl rfl ?_
      refine jw_iadd rfl ?_
      refine jw_iald (v := (J 188 ((4 * v1) + v3).toNat)) (N := 96) rfl rfl rfl (by omega) o3 rfl ?_
      refine jw_ishl rfl ?_
      refine jw_ior rfl ?_
      refine jw_istore_n (ls' := [some (.ref 167), some (.int (Int32.ofInt v1)), some (.int (Int32.ofInt (jz_or v2 (jz_shl 1 (J 188 ((4 * v1) + v3).toNat))))), some (.int (Int32.ofInt v3))]) rfl rfl ?_
      refine jw_iinc (ls' := [some (.ref 167), some (.int (Int32.ofInt v1)), some (.int (Int32.ofInt (jz_or v2 (jz_shl 1 (J 188 ((4 * v1) + v3).toNat))))), some (.int (Int32.ofInt (v3 + 1)))]) rfl rfl rfl ?_
      refine jw_goto rfl ?_
      exact jz_fg (l := [some (.ref 167), some (.int (Int32.ofInt v1)), some (.int (Int32.ofInt (jz_or v2 (jz_shl 1 (J 188 ((4 * v1) + v3).toNat))))), some (.int (Int32.ofInt (v3 + 1)))]) ⟨rfl, rfl, rfl, rfl, trivial⟩ h
    · replace h := h.2 c5
      refine jw_iconst rfl ?_
      refine jw_goto rfl ?_
      refine jw_ior rfl ?_
      refine jw_istore_n (ls' := [some (.ref 167), some (.int (Int32.ofInt v1)), some (.int (Int32.ofInt (jz_or v2 0))), some (.int (Int32.ofInt v3))]) rfl rfl ?_
      refine jw_iinc (ls' := [some (.ref 167), some (.int (Int32.ofInt v1)), some (.int (Int32.ofInt (jz_or v2 0))), some (.int (Int32.ofInt (v3 + 1)))]) rfl rfl rfl ?_
      refine jw_goto rfl ?_
      exact jz_fg (l := [some (.ref 167), some (.int (Int32.ofInt v1)), some (.int (Int32.ofInt (jz_or v2 0))), some (.int (Int32.ofInt (v3 + 1)))]) ⟨rfl, rfl, rfl, rfl, trivial⟩ h
set_option maxHeartbeats 4000000 in
theorem e_238 {xs : Nat → Int32} {L d : Nat} {v0 : Int} {J K : jZ} {P : Int → jZ → jZ → Prop} (h : (-2147483648 ≤ v0 ∧ v0 < 2147483648) ∧ (¬ v0 = 11 → (¬ v0 = 10 → (v0 < 2 → P 0 J K) ∧ (2 ≤ v0 → (8 < v0 → P 0 J K) ∧ (v0 ≤ 8 → P 2 J K))) ∧ (v0 = 10 → P 1 J K)) ∧ (v0 = 11 → P 3 J K)) : q_238 xs L (d + 1) v0 J K P := by
  unfold q_238
  refine jq_in (ls := [some (.int (Int32.ofInt v0))]) rfl (Nat.le_of_ble_eq_true rfl) rfl ?_
  refine jw_iload_n rfl rfl ?_
  refine jw_bipush rfl (by decide) ?_
  obtain ⟨o1, h⟩ := h
  refine jw_ic_ne rfl o1 (by omega) (fun c2 => ?_) (fun c2 => ?_)
  · replace h := h.1 c2
    refine jw_iload_n rfl rfl ?_
    refine jw_bipush rfl (by decide) ?_
    refine jw_ic_ne rfl o1 (by omega) (fun c3 => ?_) (fun c3 => ?_)
    · replace h := h.1 c3
      refine jw_iload_n rfl rfl ?_
      refine jw_iconst rfl ?_
      refine jw_ic_lt rfl o1 (by omega) (fun c4 => ?_) (fun c4 => ?_)
      · replace h := h.1 c4
        refine jw_iconst rfl ?_
        refine jw_iret rfl ?_
        exact h
      · replace h := h.2 c4
        refine jw_iload_n rfl rfl ?_
        refine jw_bipush rfl (by decide) ?_
        refine jw_ic_gt rfl o1 (by omega) (fun c5 => ?_) (fun c5 => ?_)
        · replace h := h.1 c5
          refine jw_iconst rfl ?_
          refine jw_iret rfl ?_
          exact h
        · replace h := h.2 c5
          refine jw_iconst rfl ?_
          refine jw_goto rfl ?_
          refine jw_iret rfl ?_
          exact h
    · replace h := h.2 c3
      refine jw_iconst rfl ?_
      refine jw_goto rfl ?_
      refine jw_iret rfl ?_
      exact h
  · replace h := h.2 c2
    refine jw_iconst rfl ?_
    refine jw_goto rfl ?_
    refine jw_iret rfl ?_
    exact h
set_option maxHeartbeats 4000000 in
theorem e_239 {xs : Nat → Int32} {L d : Nat} {v1 : Int} {v2 : Int} {J K : jZ} {P : Int → jZ → jZ → Prop} (h : (-2147483648 ≤ v1 ∧ v1 < 2147483648) ∧ (-2147483648 ≤ ((J 167 9) - 1) ∧ ((J 167 9) - 1) < 2147483648) ∧ (((0 : Int) ≤ v1 ∧ v1 < (J 167 9)) → (-2147483648 ≤ v2 ∧ v2 < 2147483648) ∧ ((0 ≤ v2 ∧ v2 ≤ 4) → (v2 = 0 → ((0 : Int) ≤ v1 ∧ v1 < 60) ∧ P (J 184 v1.toNat) J K) ∧ (¬ v2 = 0 → (v2 = 1 → ((0 : Int) ≤ v1 ∧ v1 < 60) ∧ P (J 185 v1.toNat) J K) ∧ (¬ v2 = 1 → (v2 = 2 → q_240 xs L (d + 2) v1 1 J K (fun r14 J12 K13 => P r14 J12 K13)) ∧ (¬ v2 = 2 → (v2 = 3 → q_240 xs L (d + 2) v1 2 J K (fun r18 J16 K17 => P r18 J16 K17)) ∧ (¬ v2 = 3 → ((0 : Int) ≤ v1 ∧ v1 < 60) ∧ ((0 : Int) ≤ J 184 v1.toNat ∧ J 184 v1.toNat < 16) ∧ P (jz_or (jz_shl 1 (J 184 v1.toNat)) (J 186 (J 184 v1.toNat).toNat)) J K))))) ∧ (¬ (0 ≤ v2 ∧ v2 ≤ 4) → q_170 xs L (d + 2) (-2) J K (fun r23 J21 K22 => P r23 J21 K22))) ∧ (¬ ((0 : Int) ≤ v1 ∧ v1 < (J 167 9)) → q_170 xs L (d + 2) (-2) J K (fun r26 J24 K25 => P r26 J24 K25))) : q_239 xs L (d + 3) v1 v2 J K P := by
  unfold q_239
  refine jq_in (ls := [some (.ref 167), some (.int (Int32.ofInt v1)), some (.int (Int32.ofInt v2))]) rfl (Nat.le_of_ble_eq_true rfl) rfl ?_
  refine jw_aload_n rfl rfl ?_
  refine jw_iload_n rfl rfl ?_
  refine jw_virt (k := 1) (c := 19) (as := [.int (Int32.ofInt v1)]) rfl rfl rfl (Nat.le_of_ble_eq_true rfl) rfl (Nat.le_of_ble_eq_true rfl) rfl rfl (jz_ci ?_)
  obtain ⟨o1, h⟩ := h
  obtain ⟨o2, h⟩ := h
  refine sb_204 o1 o2 (fun c3 => ?_) (fun c3 => ?_)
  · replace h := h.1 c3
    refine jw_if_eq rfl (by omega) (fun hc => by exfalso; omega) (fun _ => ?_)
    refine jw_iload_n rfl rfl ?_
    obtain ⟨o4, h⟩ := h
    refine jw_i2l rfl o4 ?_
    refine jw_lconst (x := 0) rfl rfl ?_
    refine jw_ldc2_w rfl ?_
    refine jw_stat (k := 3) (as := [.long (Int64.ofInt v2), .long (Int64.ofInt 0), .long (Int64.ofInt 4)]) rfl (by decide) rfl rfl (Nat.le_of_ble_eq_true rfl) rfl (Nat.le_of_ble_eq_true rfl) (jz_ci ?_)
    refine sb_169 (by omega) (by omega) (by omega) (fun c5 => ?_) (fun c5 => ?_)
    · replace h := h.1 c5
      refine jw_if_ne rfl (by omega) (fun _ => ?_) (fun hc => by exfalso; omega)
      refine jw_iload_n rfl rfl ?_
      by_cases c7 : v2 = 0
      · replace h := h.1 c7
        refine jw_tab_in (pc2 := 60) (v := 0) (o := 32) rfl o4 c7 (by omega) rfl (by omega) ?_
        refine jw_aload_n rfl rfl ?_
        refine jw_gr (q := 184) rfl rfl rfl ?_
        refine jw_iload_n rfl rfl ?_
        obtain ⟨o8, h⟩ := h
        refine jw_iald (v := (J 184 v1.toNat)) (N := 60) rfl rfl rfl (by omega) o8 rfl ?_
        refine jw_iret rfl ?_
        exact h
      · replace h := h.2 c7
        by_cases c9 : v2 = 1
        · replace h := h.1 c9
          refine jw_tab_in (pc2 := 67) (v := 1) (o := 39) rfl o4 c9 (by omega) rfl (by omega) ?_
          refine jw_aload_n rfl rfl ?_
          refine jw_gr (q := 185) rfl rfl rfl ?_
          refine jw_iload_n rfl rfl ?_
          obtain ⟨o10, h⟩ := h
          refine jw_iald (v := (J 185 v1.toNat)) (N := 60) rfl rfl rfl (by omega) o10 rfl ?_
          refine jw_iret rfl ?_
          exact h
        · replace h := h.2 c9
          by_cases c11 : v2 = 2
          · replace h := h.1 c11
            refine jw_tab_in (pc2 := 74) (v := 2) (o := 46) rfl o4 c11 (by omega) rfl (by omega) ?_
            refine jw_aload_n rfl rfl ?_
            refine jw_iload_n rfl rfl ?_
            refine jw_iconst rfl ?_
            refine jw_virt (k := 2) (c := 19) (as := [.int (Int32.ofInt v1), .int (Int32.ofInt 1)]) rfl rfl rfl (Nat.le_of_ble_eq_true rfl) rfl (Nat.le_of_ble_eq_true rfl) rfl rfl (jz_ci ?_)
            refine jm_Q.mono h (jp_i_mono (fun r14 J12 K13 h => ?_))
            refine jw_iret rfl ?_
            exact h
          · replace h := h.2 c11
            by_cases c15 : v2 = 3
            · replace h := h.1 c15
              refine jw_tab_in (pc2 := 81) (v := 3) (o := 53) rfl o4 c15 (by omega) rfl (by omega) ?_
              refine jw_aload_n rfl rfl ?_
              refine jw_iload_n rfl rfl ?_
              refine jw_iconst rfl ?_
              refine jw_virt (k := 2) (c := 19) (as := [.int (Int32.ofInt v1), .int (Int32.ofInt 2)]) rfl rfl rfl (Nat.le_of_ble_eq_true rfl) rfl (Nat.le_of_ble_eq_true rfl) rfl rfl (jz_ci ?_)
              refine jm_Q.mono h (jp_i_mono (fun r18 J16 K17 h => ?_))
              refine jw_iret rfl ?_
              exact h
            · replace h := h.2 c15
              refine jw_tab_out (pc2 := 88) rfl o4 (by omega) (by omega) ?_
              refine jw_iconst rfl ?_
              refine jw_aload_n rfl rfl ?_
              refine jw_gr (q := 184) rfl rfl rfl ?_
              refine jw_iload_n rfl rfl ?_
              obtain ⟨o19, h⟩ := h
              refine jw_iald (v := (J 184 v1.toNat)) (N := 60) rfl rfl rfl (by omega) o19 rfl ?_
              refine jw_ishl rfl ?_
              refine jw_aload_n rfl rfl ?_
              refine jw_gr (q := 186) rfl rfl rfl ?_
              refine jw_aload_n rfl rfl ?_
              refine jw_gr (q := 184) rfl rfl rfl ?_
              refine jw_iload_n rfl rfl ?_
              refine jw_iald (v := (J 184 v1.toNat)) (N := 60) rfl rfl rfl (by omega) o19 rfl ?_
              obtain ⟨o20, h⟩ := h
              refine jw_iald (v := (J 186 (J 184 v1.toNat).toNat)) (N := 16) rfl rfl rfl (by omega) o20 rfl ?_
              refine jw_ior rfl ?_
              refine jw_iret rfl ?_
              exact h
    · replace h := h.2 c5
      refine jw_if_ne rfl (by omega) (fun hc => by exfalso; omega) (fun _ => ?_)
      refine jw_aload_n rfl rfl ?_
      refine jw_bipush rfl (by decide) ?_
      refine jw_virt (k := 1) (c := 19) (as := [.int (Int32.ofInt (-2))]) rfl rfl rfl (Nat.le_of_ble_eq_true rfl) rfl (Nat.le_of_ble_eq_true rfl) rfl rfl (jz_ci ?_)
      refine jm_Q.mono h (jp_i_mono (fun r23 J21 K22 h => ?_))
      refine jw_iret rfl ?_
      exact h
  · replace h := h.2 c3
    refine jw_if_eq rfl (by omega) (fun _ => ?_) (fun hc => by exfalso; omega)
    refine jw_aload_n rfl rfl ?_
    refine jw_bipush rfl (by decide) ?_
    refine jw_virt (k := 1) (c := 19) (as := [.int (Int32.ofInt (-2))]) rfl rfl rfl (Nat.le_of_ble_eq_true rfl) rfl (Nat.le_of_ble_eq_true rfl) rfl rfl (jz_ci ?_)
    refine jm_Q.mono h (jp_i_mono (fun r26 J24 K25 h => ?_))
    refine jw_iret rfl ?_
    exact h
set_option maxHeartbeats 4000000 in
theorem e_240 {xs : Nat → Int32} {L d : Nat} {v1 : Int} {v2 : Int} {J K : jZ} {P : Int → jZ → jZ → Prop} (h : l_240_5 xs L d v1 v2 0 0 J K P) : q_240 xs L (d + 1) v1 v2 J K P := by
  unfold q_240
  refine jq_in (ls := [some (.ref 167), some (.int (Int32.ofInt v1)), some (.int (Int32.ofInt v2)), none, none]) rfl (Nat.le_of_ble_eq_true rfl) rfl ?_
  refine jw_iconst rfl ?_
  refine jw_istore_n (ls' := [some (.ref 167), some (.int (Int32.ofInt v1)), some (.int (Int32.ofInt v2)), some (.int (Int32.ofInt 0)), none]) rfl rfl ?_
  refine jw_iconst rfl ?_
  refine jw_istore (ls' := [some (.ref 167), some (.int (Int32.ofInt v1)), some (.int (Int32.ofInt v2)), some (.int (Int32.ofInt 0)), some (.int (Int32.ofInt 0))]) rfl rfl ?_
  exact jz_fg (l := [some (.ref 167), some (.int (Int32.ofInt v1)), some (.int (Int32.ofInt v2)), some (.int (Int32.ofInt 0)), some (.int (Int32.ofInt 0))]) ⟨rfl, rfl, rfl, rfl, rfl, trivial⟩ h
set_option maxHeartbeats 4000000 in
theorem e_240_5 {xs : Nat → Int32} {L d : Nat} {v1 : Int} {v2 : Int} {v3 : Int} {v4 : Int} {J K : jZ} {P : Int → jZ → jZ → Prop} (h : (-2147483648 ≤ v4 ∧ v4 < 2147483648) ∧ (-2147483648 ≤ v1 ∧ v1 < 2147483648) ∧ (v1 ≤ v4 → P v3 J K) ∧ (v4 < v1 → ((0 : Int) ≤ v4 ∧ v4 < 60) ∧ (-2147483648 ≤ J 185 v4.toNat ∧ J 185 v4.toNat < 2147483648) ∧ (-2147483648 ≤ v2 ∧ v2 < 2147483648) ∧ ((J 185 v4.toNat) < v2 → l_240_5 xs L d v1 v2 (v3 + 0) (v4 + 1) J K P) ∧ (v2 ≤ (J 185 v4.toNat) → l_240_5 xs L d v1 v2 (v3 + 1) (v4 + 1) J K P))) : l_240_5 xs L d v1 v2 v3 v4 J K P := by
  unfold l_240_5
  refine jw_iload rfl rfl ?_
  refine jw_iload_n rfl rfl ?_
  obtain ⟨o1, h⟩ := h
  obtain ⟨o2, h⟩ := h
  refine jw_ic_ge rfl o1 o2 (fun c3 => ?_) (fun c3 => ?_)
  · replace h := h.1 c3
    refine jw_iload_n rfl rfl ?_
    refine jw_iret rfl ?_
    exact h
  · replace h := h.2 c3
    refine jw_iload_n rfl rfl ?_
    refine jw_aload_n rfl rfl ?_
    refine jw_gr (q := 185) rfl rfl rfl ?_
    refine jw_iload rfl rfl ?_
    obtain ⟨o4, h⟩ := h
    refine jw_iald (v := (J 185 v4.toNat)) (N := 60) rfl rfl rfl (by omega) o4 rfl ?_
    refine jw_iload_n rfl rfl ?_
    obtain ⟨o5, h⟩ := h
    obtain ⟨o6, h⟩ := h
    refine jw_ic_lt rfl o5 o6 (fun c7 => ?_) (fun c7 => ?_)
    · replace h := h.1 c7
      refine jw_iconst rfl ?_
      refine jw_iadd rfl ?_
      refine jw_istore_n (ls' := [some (.ref 167), some (.int (Int32.ofInt v1)), some (.int (Int32.ofInt v2)), some (.int (Int32.ofInt (v3 + 0))), some (.int (Int32.ofInt v4))]) rfl rfl ?_
      refine jw_iinc (ls' := [some (.ref 167), some (.int (Int32.ofInt v1)), some (.int (Int32.ofInt v2)), some (.int (Int32.ofInt (v3 + 0))), some (.int (Int32.ofInt (v4 + 1)))]) rfl rfl rfl ?_
      refine jw_goto rfl ?_
      exact jz_fg (l := [some (.ref 167), some (.int (Int32.ofInt v1)), some (.int (Int32.ofInt v2)), some (.int (Int32.ofInt (v3 + 0))), some (.int (Int32.ofInt (v4 + 1)))]) ⟨rfl, rfl, rfl, rfl, rfl, trivial⟩ h
    · replace h := h.2 c7
      refine jw_iconst rfl ?_
      refine jw_goto rfl ?_
      refine jw_iadd rfl ?_
      refine jw_istore_n (ls' := [some (.ref 167), some (.int (Int32.ofInt v1)), some (.int (Int32.ofInt v2)), some (.int (Int32.ofInt (v3 + 1))), some (.int (Int32.ofInt v4))]) rfl rfl ?_
      refine jw_iinc (ls' := [some (.ref 167), some (.int (Int32.ofInt v1)), some (.int (Int32.ofInt v2)), some (.int (Int32.ofInt (v3 + 1))), some (.int (Int32.ofInt (v4 + 1)))]) rfl rfl rfl ?_
      refine jw_goto rfl ?_
      exact jz_fg (l := [some (.ref 167), some (.int (Int32.ofInt v1)), some (.int (Int32.ofInt v2)), some (.int (Int32.ofInt (v3 + 1))), some (.int (Int32.ofInt (v4 + 1)))]) ⟨rfl, rfl, rfl, rfl, rfl, trivial⟩ h
set_option maxHeartbeats 4000000 in
theorem e_241 {xs : Nat → Int32} {L d : Nat} {v1 : Int} {J K : jZ} {P : Int → jZ → jZ → Prop} (h : (-2147483648 ≤ v1 ∧ v1 < 2147483648) ∧ (-2147483648 ≤ ((J 167 10) - 1) ∧ ((J 167 10) - 1) < 2147483648) ∧ (((0 : Int) ≤ v1 ∧ v1 < (J 167 10)) → q_181 xs L (d + 2) J K (fun J4 K5 => ((0 : Int) ≤ v1 ∧ v1 < 27) ∧ P (J4 195 v1.toNat) J4 K5)) ∧ (¬ ((0 : Int) ≤ v1 ∧ v1 < (J 167 10)) → q_170 xs L (d + 2) (-2) J K (fun r9 J7 K8 => P r9 J7 K8))) : q_241 xs L (d + 3) v1 J K P := by
  unfold q_241
  refine jq_in (ls := [some (.ref 167), some (.int (Int32.ofInt v1))]) rfl (Nat.le_of_ble_eq_true rfl) rfl ?_
  refine jw_aload_n rfl rfl ?_
  refine jw_iload_n rfl rfl ?_
  refine jw_virt (k := 1) (c := 19) (as := [.int (Int32.ofInt v1)]) rfl rfl rfl (Nat.le_of_ble_eq_true rfl) rfl (Nat.le_of_ble_eq_true rfl) rfl rfl (jz_ci ?_)
  obtain ⟨o1, h⟩ := h
  obtain ⟨o2, h⟩ := h
  refine sb_178 o1 o2 (fun c3 => ?_) (fun c3 => ?_)
  · replace h := h.1 c3
    refine jw_if_ne rfl (by omega) (fun _ => ?_) (fun hc => by exfalso; omega)
    refine jw_aload_n rfl rfl ?_
    refine jw_virt (k := 0) (c := 19) (as := []) rfl rfl rfl (Nat.le_of_ble_eq_true rfl) rfl (Nat.le_of_ble_eq_true rfl) rfl rfl (jz_cv ?_)
    refine jm_Q.mono h (jp_v_mono (fun J4 K5 h => ?_))
    refine jw_aload_n rfl rfl ?_
    refine jw_gr (q := 195) rfl rfl rfl ?_
    refine jw_iload_n rfl rfl ?_
    obtain ⟨o6, h⟩ := h
    refine jw_iald (v := (J4 195 v1.toNat)) (N := 27) rfl rfl rfl (by omega) o6 rfl ?_
    refine jw_iret rfl ?_
    exact h
  · replace h := h.2 c3
    refine jw_if_ne rfl (by omega) (fun hc => by exfalso; omega) (fun _ => ?_)
    refine jw_aload_n rfl rfl ?_
    refine jw_bipush rfl (by decide) ?_
    refine jw_virt (k := 1) (c := 19) (as := [.int (Int32.ofInt (-2))]) rfl rfl rfl (Nat.le_of_ble_eq_true rfl) rfl (Nat.le_of_ble_eq_true rfl) rfl rfl (jz_ci ?_)
    refine jm_Q.mono h (jp_i_mono (fun r9 J7 K8 h => ?_))
    refine jw_iret rfl ?_
    exact h
set_option maxHeartbeats 4000000 in
theorem e_242 {xs : Nat → Int32} {L d : Nat} {v1 : Int} {v2 : Int} {J K : jZ} {P : Int → jZ → jZ → Prop} (h : (-2147483648 ≤ v1 ∧ v1 < 2147483648) ∧ (-2147483648 ≤ ((J 167 10) - 1) ∧ ((J 167 10) - 1) < 2147483648) ∧ (((0 : Int) ≤ v1 ∧ v1 < (J 167 10)) → q_181 xs L (d + 2) J K (fun J4 K5 => (-2147483648 ≤ ((J4 167 10) - 1) ∧ ((J4 167 10) - 1) < 2147483648) ∧ (((0 : Int) ≤ v1 ∧ v1 < (J4 167 10)) → (-2147483648 ≤ v2 ∧ v2 < 2147483648) ∧ ((0 : Int) ≤ v1 ∧ v1 < 27) ∧ (-2147483648 ≤ ((J4 195 v1.toNat) - 1) ∧ ((J4 195 v1.toNat) - 1) < 2147483648) ∧ ((0 ≤ v2 ∧ v2 ≤ ((J4 195 v1.toNat) - 1)) → ((0 : Int) ≤ ((v1 * 60) + v2) ∧ ((v1 * 60) + v2) < 1620) ∧ P ((100 * (J4 196 ((v1 * 60) + v2).toNat)) + (J4 197 ((v1 * 60) + v2).toNat)) J4 K5) ∧ (¬ (0 ≤ v2 ∧ v2 ≤ ((J4 195 v1.toNat) - 1)) → q_170 xs L (d + 2) (-2) J4 K5 (fun r15 J13 K14 => P r15 J13 K14))) ∧ (¬ ((0 : Int) ≤ v1 ∧ v1 < (J4 167 10)) → q_170 xs L (d + 2) (-2) J4 K5 (fun r18 J16 K17 => P r18 J16 K17)))) ∧ (¬ ((0 : Int) ≤ v1 ∧ v1 < (J 167 10)) → q_170 xs L (d + 2) (-2) J K (fun r22 J20 K21 => P r22 J20 K21))) : q_242 xs L (d + 3) v1 v2 J K P := by
  unfold q_242
  refine jq_in (ls := [some (.ref 167), some (.int (Int32.ofInt v1)), some (.int (Int32.ofInt v2))]) rfl (Nat.le_of_ble_eq_true rfl) rfl ?_
  refine jw_aload_n rfl rfl ?_
  refine jw_iload_n rfl rfl ?_
  refine jw_virt (k := 1) (c := 19) (as := [.int (Int32.ofInt v1)]) rfl rfl rfl (Nat.le_of_ble_eq_true rfl) rfl (Nat.le_of_ble_eq_true rfl) rfl rfl (jz_ci ?_)
  obtain ⟨o1, h⟩ := h
  obtain ⟨o2, h⟩ := h
  refine sb_178 o1 o2 (fun c3 => ?_) (fun c3 => ?_)
  · replace h := h.1 c3
    refine jw_if_eq rfl (by omega) (fun hc => by exfalso; omega) (fun _ => ?_)
    refine jw_aload_n rfl rfl ?_
    refine jw_virt (k := 0) (c := 19) (as := []) rfl rfl rfl (Nat.le_of_ble_eq_true rfl) rfl (Nat.le_of_ble_eq_true rfl) rfl rfl (jz_cv ?_)
    refine jm_Q.mono h (jp_v_mono (fun J4 K5 h => ?_))
    refine jw_aload_n rfl rfl ?_
    refine jw_iload_n rfl rfl ?_
    refine jw_virt (k := 1) (c := 19) (as := [.int (Int32.ofInt v1)]) rfl rfl rfl (Nat.le_of_ble_eq_true rfl) rfl (Nat.le_of_ble_eq_true rfl) rfl rfl (jz_ci ?_)
    obtain ⟨o6, h⟩ := h
    refine sb_178 o1 o6 (fun c7 => ?_) (fun c7 => ?_)
    · replace h := h.1 c7
      refine jw_if_eq rfl (by omega) (fun hc => by exfalso; omega) (fun _ => ?_)
      refine jw_iload_n rfl rfl ?_
      obtain ⟨o8, h⟩ := h
      refine jw_i2l rfl o8 ?_
      refine jw_lconst (x := 0) rfl rfl ?_
      refine jw_aload_n rfl rfl ?_
      refine jw_gr (q := 195) rfl rfl rfl ?_
      refine jw_iload_n rfl rfl ?_
      obtain ⟨o9, h⟩ := h
      refine jw_iald (v := (J4 195 v1.toNat)) (N := 27) rfl rfl rfl (by omega) o9 rfl ?_
      refine jw_iconst rfl ?_
      refine jw_isub rfl ?_
      obtain ⟨o10, h⟩ := h
      refine jw_i2l rfl o10 ?_
      refine jw_stat (k := 3) (as := [.long (Int64.ofInt v2), .long (Int64.ofInt 0), .long (Int64.ofInt ((J4 195 v1.toNat) - 1))]) rfl (by decide) rfl rfl (Nat.le_of_ble_eq_true rfl) rfl (Nat.le_of_ble_eq_true rfl) (jz_ci ?_)
      refine sb_169 (by omega) (by omega) (by omega) (fun c11 => ?_) (fun c11 => ?_)
      · replace h := h.1 c11
        refine jw_if_eq rfl (by omega) (fun hc => by exfalso; omega) (fun _ => ?_)
        refine jw_aload_n rfl rfl ?_
        refine jw_iload_n rfl rfl ?_
        refine jw_iload_n rfl rfl ?_
        refine jw_virt (k := 2) (c := 19) (as := [.int (Int32.ofInt v1), .int (Int32.ofInt v2)]) rfl rfl rfl (Nat.le_of_ble_eq_true rfl) rfl (Nat.le_of_ble_eq_true rfl) rfl rfl (jz_ci ?_)
        refine jq_in (ls := [some (.ref 167), some (.int (Int32.ofInt v1)), some (.int (Int32.ofInt v2))]) rfl (Nat.le_of_ble_eq_true rfl) rfl ?_
        refine jw_bipush rfl (by decide) ?_
        refine jw_aload_n rfl rfl ?_
        refine jw_iload_n rfl rfl ?_
        refine jw_iload_n rfl rfl ?_
        refine jw_virt (k := 2) (c := 19) (as := [.int (Int32.ofInt v1), .int (Int32.ofInt v2)]) rfl rfl rfl (Nat.le_of_ble_eq_true rfl) rfl (Nat.le_of_ble_eq_true rfl) rfl rfl (jz_ci ?_)
        refine jq_in (ls := [some (.ref 167), some (.int (Int32.ofInt v1)), some (.int (Int32.ofInt v2))]) rfl (Nat.le_of_ble_eq_true rfl) rfl ?_
        refine jw_aload_n rfl rfl ?_
        refine jw_gr (q := 196) rfl rfl rfl ?_
        refine jw_iload_n rfl rfl ?_
        refine jw_bipush rfl (by decide) ?_
        refine jw_imul rfl ?_
        refine jw_iload_n rfl rfl ?_
        refine jw_iadd rfl ?_
        obtain ⟨o12, h⟩ := h
        refine jw_iald (v := (J4 196 ((v1 * 60) + v2).toNat)) (N := 1620) rfl rfl rfl (by omega) o12 rfl ?_
        refine jw_iret rfl ?_
        refine jw_imul rfl ?_
        refine jw_aload_n rfl rfl ?_
        refine jw_iload_n rfl rfl ?_
        refine jw_iload_n rfl rfl ?_
        refine jw_virt (k := 2) (c := 19) (as := [.int (Int32.ofInt v1), .int (Int32.ofInt v2)]) rfl rfl rfl (Nat.le_of_ble_eq_true rfl) rfl (Nat.le_of_ble_eq_true rfl) rfl rfl (jz_ci ?_)
        refine jq_in (ls := [some (.ref 167), some (.int (Int32.ofInt v1)), some (.int (Int32.ofInt v2))]) rfl (Nat.le_of_ble_eq_true rfl) rfl ?_
        refine jw_aload_n rfl rfl ?_
        refine jw_gr (q := 197) rfl rfl rfl ?_
        refine jw_iload_n rfl rfl ?_
        refine jw_bipush rfl (by decide) ?_
        refine jw_imul rfl ?_
        refine jw_iload_n rfl rfl ?_
        refine jw_iadd rfl ?_
        refine jw_iald (v := (J4 197 ((v1 * 60) + v2).toNat)) (N := 1620) rfl rfl rfl (by omega) o12 rfl ?_
        refine jw_iret rfl ?_
        refine jw_iadd rfl ?_
        refine jw_iret rfl ?_
        refine jw_goto rfl ?_
        refine jw_iret rfl ?_
        exact h
      · replace h := h.2 c11
        refine jw_if_eq rfl (by omega) (fun _ => ?_) (fun hc => by exfalso; omega)
        refine jw_aload_n rfl rfl ?_
        refine jw_bipush rfl (by decide) ?_
        refine jw_virt (k := 1) (c := 19) (as := [.int (Int32.ofInt (-2))]) rfl rfl rfl (Nat.le_of_ble_eq_true rfl) rfl (Nat.le_of_ble_eq_true rfl) rfl rfl (jz_ci ?_)
        refine jm_Q.mono h (jp_i_mono (fun r15 J13 K14 h => ?_))
        refine jw_iret rfl ?_
        exact h
    · replace h := h.2 c7
      refine jw_if_eq rfl (by omega) (fun _ => ?_) (fun hc => by exfalso; omega)
      refine jw_aload_n rfl rfl ?_
      refine jw_bipush rfl (by decide) ?_
      refine jw_virt (k := 1) (c := 19) (as := [.int (Int32.ofInt (-2))]) rfl rfl rfl (Nat.le_of_ble_eq_true rfl) rfl (Nat.le_of_ble_eq_true rfl) rfl rfl (jz_ci ?_)
      refine jm_Q.mono h (jp_i_mono (fun r18 J16 K17 h => ?_))
      refine jw_iret rfl ?_
      exact h
  · replace h := h.2 c3
    refine jw_if_eq rfl (by omega) (fun _ => ?_) (fun hc => by exfalso; omega)
    refine jw_aload_n rfl rfl ?_
    refine jw_iload_n rfl rfl ?_
    refine jw_virt (k := 1) (c := 19) (as := [.int (Int32.ofInt v1)]) rfl rfl rfl (Nat.le_of_ble_eq_true rfl) rfl (Nat.le_of_ble_eq_true rfl) rfl rfl (jz_ci ?_)
    refine sb_178 o1 o2 (fun c19 => ?_) (fun c19 => ?_)
    · exact absurd c19 c3
    refine jw_if_eq rfl (by omega) (fun _ => ?_) (fun hc => by exfalso; omega)
    refine jw_aload_n rfl rfl ?_
    refine jw_bipush rfl (by decide) ?_
    refine jw_virt (k := 1) (c := 19) (as := [.int (Int32.ofInt (-2))]) rfl rfl rfl (Nat.le_of_ble_eq_true rfl) rfl (Nat.le_of_ble_eq_true rfl) rfl rfl (jz_ci ?_)
    refine jm_Q.mono h (jp_i_mono (fun r22 J20 K21 h => ?_))
    refine jw_iret rfl ?_
    exact h
set_option maxHeartbeats 4000000 in
theorem e_243 {xs : Nat → Int32} {L d : Nat} {v1 : Int} {v2 : Int} {J K : jZ} {P : Int → jZ → jZ → Prop} (h : ((0 : Int) ≤ ((v1 * 60) + v2) ∧ ((v1 * 60) + v2) < 1620) ∧ P ((100 * (J 196 ((v1 * 60) + v2).toNat)) + (J 197 ((v1 * 60) + v2).toNat)) J K) : q_243 xs L (d + 2) v1 v2 J K P := by
  unfold q_243
  refine jq_in (ls := [some (.ref 167), some (.int (Int32.ofInt v1)), some (.int (Int32.ofInt v2))]) rfl (Nat.le_of_ble_eq_true rfl) rfl ?_
  refine jw_bipush rfl (by decide) ?_
  refine jw_aload_n rfl rfl ?_
  refine jw_iload_n rfl rfl ?_
  refine jw_iload_n rfl rfl ?_
  refine jw_virt (k := 2) (c := 19) (as := [.int (Int32.ofInt v1), .int (Int32.ofInt v2)]) rfl rfl rfl (Nat.le_of_ble_eq_true rfl) rfl (Nat.le_of_ble_eq_true rfl) rfl rfl (jz_ci ?_)
  refine jq_in (ls := [some (.ref 167), some (.int (Int32.ofInt v1)), some (.int (Int32.ofInt v2))]) rfl (Nat.le_of_ble_eq_true rfl) rfl ?_
  refine jw_aload_n rfl rfl ?_
  refine jw_gr (q := 196) rfl rfl rfl ?_
  refine jw_iload_n rfl rfl ?_
  refine jw_bipush rfl (by decide) ?_
  refine jw_imul rfl ?_
  refine jw_iload_n rfl rfl ?_
  refine jw_iadd rfl ?_
  obtain ⟨o1, h⟩ := h
  refine jw_iald (v := (J 196 ((v1 * 60) + v2).toNat)) (N := 1620) rfl rfl rfl (by omega) o1 rfl ?_
  refine jw_iret rfl ?_
  refine jw_imul rfl ?_
  refine jw_aload_n rfl rfl ?_
  refine jw_iload_n rfl rfl ?_
  refine jw_iload_n rfl rfl ?_
  refine jw_virt (k := 2) (c := 19) (as := [.int (Int32.ofInt v1), .int (Int32.ofInt v2)]) rfl rfl rfl (Nat.le_of_ble_eq_true rfl) rfl (Nat.le_of_ble_eq_true rfl) rfl rfl (jz_ci ?_)
  refine jq_in (ls := [some (.ref 167), some (.int (Int32.ofInt v1)), some (.int (Int32.ofInt v2))]) rfl (Nat.le_of_ble_eq_true rfl) rfl ?_
  refine jw_aload_n rfl rfl ?_
  refine jw_gr (q := 197) rfl rfl rfl ?_
  refine jw_iload_n rfl rfl ?_
  refine jw_bipush rfl (by decide) ?_
  refine jw_imul rfl ?_
  refine jw_iload_n rfl rfl ?_
  refine jw_iadd rfl ?_
  refine jw_iald (v := (J 197 ((v1 * 60) + v2).toNat)) (N := 1620) rfl rfl rfl (by omega) o1 rfl ?_
  refine jw_iret rfl ?_
  refine jw_iadd rfl ?_
  refine jw_iret rfl ?_
  exact h
set_option maxHeartbeats 4000000 in
theorem e_244 {xs : Nat → Int32} {L d : Nat} {v1 : Int} {v2 : Int} {v3 : Int} {J K : jZ} {P : Int → jZ → jZ → Prop} (h : (-2147483648 ≤ v1 ∧ v1 < 2147483648) ∧ (-2147483648 ≤ ((J 167 10) - 1) ∧ ((J 167 10) - 1) < 2147483648) ∧ (((0 : Int) ≤ v1 ∧ v1 < (J 167 10)) → (-2147483648 ≤ v3 ∧ v3 < 2147483648) ∧ ((0 ≤ v3 ∧ v3 ≤ 3) → q_181 xs L (d + 2) J K (fun J6 K7 => l_244_37 xs L (d + 2) v1 v2 v3 (-1) 0 J6 K7 P)) ∧ (¬ (0 ≤ v3 ∧ v3 ≤ 3) → q_170 xs L (d + 2) (-2) J K (fun r10 J8 K9 => P r10 J8 K9))) ∧ (¬ ((0 : Int) ≤ v1 ∧ v1 < (J 167 10)) → q_170 xs L (d + 2) (-2) J K (fun r13 J11 K12 => P r13 J11 K12))) : q_244 xs L (d + 3) v1 v2 v3 J K P := by
  unfold q_244
  refine jq_in (ls := [some (.ref 167), some (.int (Int32.ofInt v1)), some (.int (Int32.ofInt v2)), some (.int (Int32.ofInt v3)), none, none, none, none]) rfl (Nat.le_of_ble_eq_true rfl) rfl ?_
  refine jw_aload_n rfl rfl ?_
  refine jw_iload_n rfl rfl ?_
  refine jw_virt (k := 1) (c := 19) (as := [.int (Int32.ofInt v1)]) rfl rfl rfl (Nat.le_of_ble_eq_true rfl) rfl (Nat.le_of_ble_eq_true rfl) rfl rfl (jz_ci ?_)
  obtain ⟨o1, h⟩ := h
  obtain ⟨o2, h⟩ := h
  refine sb_178 o1 o2 (fun c3 => ?_) (fun c3 => ?_)
  · replace h := h.1 c3
    refine jw_if_eq rfl (by omega) (fun hc => by exfalso; omega) (fun _ => ?_)
    refine jw_iload_n rfl rfl ?_
    obtain ⟨o4, h⟩ := h
    refine jw_i2l rfl o4 ?_
    refine jw_lconst (x := 0) rfl rfl ?_
    refine jw_ldc2_w rfl ?_
    refine jw_stat (k := 3) (as := [.long (Int64.ofInt v3), .long (Int64.ofInt 0), .long (Int64.ofInt 3)]) rfl (by decide) rfl rfl (Nat.le_of_ble_eq_true rfl) rfl (Nat.le_of_ble_eq_true rfl) (jz_ci ?_)
    refine sb_169 (by omega) (by omega) (by omega) (fun c5 => ?_) (fun c5 => ?_)
    · replace h := h.1 c5
      refine jw_if_ne rfl (by omega) (fun _ => ?_) (fun hc => by exfalso; omega)
      refine jw_aload_n rfl rfl ?_
      refine jw_virt (k := 0) (c := 19) (as := []) rfl rfl rfl (Nat.le_of_ble_eq_true rfl) rfl (Nat.le_of_ble_eq_true rfl) rfl rfl (jz_cv ?_)
      refine jm_Q.mono h (jp_v_mono (fun J6 K7 h => ?_))
      refine jw_iconst rfl ?_
      refine jw_istore (ls' := [some (.ref 167), some (.int (Int32.ofInt v1)), some (.int (Int32.ofInt v2)), some (.int (Int32.ofInt v3)), some (.int (Int32.ofInt (-1))), none, none, none]) rfl rfl ?_
      refine jw_iconst rfl ?_
      refine jw_istore (ls' := [some (.ref 167), some (.int (Int32.ofInt v1)), some (.int (Int32.ofInt v2)), some (.int (Int32.ofInt v3)), some (.int (Int32.ofInt (-1))), some (.int (Int32.ofInt 0)), none, none]) rfl rfl ?_
      exact jz_fg (l := [some (.ref 167), some (.int (Int32.ofInt v1)), some (.int (Int32.ofInt v2)), some (.int (Int32.ofInt v3)), some (.int (Int32.ofInt (-1))), some (.int (Int32.ofInt 0)), none, none]) ⟨rfl, rfl, rfl, rfl, rfl, rfl, jz_n0, jz_n0, trivial⟩ h
    · replace h := h.2 c5
      refine jw_if_ne rfl (by omega) (fun hc => by exfalso; omega) (fun _ => ?_)
      refine jw_aload_n rfl rfl ?_
      refine jw_bipush rfl (by decide) ?_
      refine jw_virt (k := 1) (c := 19) (as := [.int (Int32.ofInt (-2))]) rfl rfl rfl (Nat.le_of_ble_eq_true rfl) rfl (Nat.le_of_ble_eq_true rfl) rfl rfl (jz_ci ?_)
      refine jm_Q.mono h (jp_i_mono (fun r10 J8 K9 h => ?_))
      refine jw_iret rfl ?_
      exact h
  · replace h := h.2 c3
    refine jw_if_eq rfl (by omega) (fun _ => ?_) (fun hc => by exfalso; omega)
    refine jw_aload_n rfl rfl ?_
    refine jw_bipush rfl (by decide) ?_
    refine jw_virt (k := 1) (c := 19) (as := [.int (Int32.ofInt (-2))]) rfl rfl rfl (Nat.le_of_ble_eq_true rfl) rfl (Nat.le_of_ble_eq_true rfl) rfl rfl (jz_ci ?_)
    refine jm_Q.mono h (jp_i_mono (fun r13 J11 K12 h => ?_))
    refine jw_iret rfl ?_
    exact h
set_option maxHeartbeats 4000000 in
theorem e_244_37 {xs : Nat → Int32} {L d : Nat} {v1 : Int} {v2 : Int} {v3 : Int} {v4 : Int} {v5 : Int} {J K : jZ} {P : Int → jZ → jZ → Prop} (h : ((0 : Int) ≤ v1 ∧ v1 < 27) ∧ (-2147483648 ≤ v5 ∧ v5 < 2147483648) ∧ (-2147483648 ≤ J 195 v1.toNat ∧ J 195 v1.toNat < 2147483648) ∧ ((J 195 v1.toNat) ≤ v5 → P v4 J K) ∧ (v5 < (J 195 v1.toNat) → (-2147483648 ≤ v3 ∧ v3 < 2147483648) ∧ (v3 = 0 → l_244_57 xs L (d + 2) v1 v2 v3 v4 v5 J K P) ∧ (¬ v3 = 0 → (¬ v3 = 3 → ((0 : Int) ≤ ((v1 * 60) + v5) ∧ ((v1 * 60) + v5) < 1620) ∧ l_244_76 xs L (d + 2) v1 v2 v3 v4 v5 (J 197 ((v1 * 60) + v5).toNat) J K P) ∧ (v3 = 3 → l_244_57 xs L (d + 2) v1 v2 v3 v4 v5 J K P)))) : l_244_37 xs L (d + 2) v1 v2 v3 v4 v5 J K P := by
  unfold l_244_37
  refine jw_iload rfl rfl ?_
  refine jw_aload_n rfl rfl ?_
  refine jw_gr (q := 195) rfl rfl rfl ?_
  refine jw_iload_n rfl rfl ?_
  obtain ⟨o1, h⟩ := h
  refine jw_iald (v := (J 195 v1.toNat)) (N := 27) rfl rfl rfl (by omega) o1 rfl ?_
  obtain ⟨o2, h⟩ := h
  obtain ⟨o3, h⟩ := h
  refine jw_ic_ge rfl o2 o3 (fun c4 => ?_) (fun c4 => ?_)
  · replace h := h.1 c4
    refine jw_iload rfl rfl ?_
    refine jw_iret rfl ?_
    exact h
  · replace h := h.2 c4
    refine jw_iload_n rfl rfl ?_
    obtain ⟨o5, h⟩ := h
    refine jw_if_eq rfl o5 (fun c6 => ?_) (fun c6 => ?_)
    · replace h := h.1 c6
      exact jz_fg (l := [some (.ref 167), some (.int (Int32.ofInt v1)), some (.int (Int32.ofInt v2)), some (.int (Int32.ofInt v3)), some (.int (Int32.ofInt v4)), some (.int (Int32.ofInt v5)), none, none]) ⟨rfl, rfl, rfl, rfl, rfl, rfl, jz_n0, jz_n0, trivial⟩ h
    · replace h := h.2 c6
      refine jw_iload_n rfl rfl ?_
      refine jw_iconst rfl ?_
      refine jw_ic_ne rfl o5 (by omega) (fun c7 => ?_) (fun c7 => ?_)
      · replace h := h.1 c7
        refine jw_aload_n rfl rfl ?_
        refine jw_iload_n rfl rfl ?_
        refine jw_iload rfl rfl ?_
        refine jw_virt (k := 2) (c := 19) (as := [.int (Int32.ofInt v1), .int (Int32.ofInt v5)]) rfl rfl rfl (Nat.le_of_ble_eq_true rfl) rfl (Nat.le_of_ble_eq_true rfl) rfl rfl (jz_ci ?_)
        refine jq_in (ls := [some (.ref 167), some (.int (Int32.ofInt v1)), some (.int (Int32.ofInt v5))]) rfl (Nat.le_of_ble_eq_true rfl) rfl ?_
        refine jw_aload_n rfl rfl ?_
        refine jw_gr (q := 197) rfl rfl rfl ?_
        refine jw_iload_n rfl rfl ?_
        refine jw_bipush rfl (by decide) ?_
        refine jw_imul rfl ?_
        refine jw_iload_n rfl rfl ?_
        refine jw_iadd rfl ?_
        obtain ⟨o8, h⟩ := h
        refine jw_iald (v := (J 197 ((v1 * 60) + v5).toNat)) (N := 1620) rfl rfl rfl (by omega) o8 rfl ?_
        refine jw_iret rfl ?_
        refine jw_istore (ls' := [some (.ref 167), some (.int (Int32.ofInt v1)), some (.int (Int32.ofInt v2)), some (.int (Int32.ofInt v3)), some (.int (Int32.ofInt v4)), some (.int (Int32.ofInt v5)), some (.int (Int32.ofInt (J 197 ((v1 * 60) + v5).toNat))), none]) rfl rfl ?_
        exact jz_fg (l := [some (.ref 167), some (.int (Int32.ofInt v1)), some (.int (Int32.ofInt v2)), some (.int (Int32.ofInt v3)), some (.int (Int32.ofInt v4)), some (.int (Int32.ofInt v5)), some (.int (Int32.ofInt (J 197 ((v1 * 60) + v5).toNat))), none]) ⟨rfl, rfl, rfl, rfl, rfl, rfl, rfl, jz_n0, trivial⟩ h
      · replace h := h.2 c7
        exact jz_fg (l := [some (.ref 167), some (.int (Int32.ofInt v1)), some (.int (Int32.ofInt v2)), some (.int (Int32.ofInt v3)), some (.int (Int32.ofInt v4)), some (.int (Int32.ofInt v5)), none, none]) ⟨rfl, rfl, rfl, rfl, rfl, rfl, jz_n0, jz_n0, trivial⟩ h
set_option maxHeartbeats 4000000 in
theorem e_244_57 {xs : Nat → Int32} {L d : Nat} {v1 : Int} {v2 : Int} {v3 : Int} {v4 : Int} {v5 : Int} {J K : jZ} {P : Int → jZ → jZ → Prop} (h : ((0 : Int) ≤ ((v1 * 60) + v5) ∧ ((v1 * 60) + v5) < 1620) ∧ l_244_76 xs L (d + 2) v1 v2 v3 v4 v5 (J 196 ((v1 * 60) + v5).toNat) J K P) : l_244_57 xs L (d + 2) v1 v2 v3 v4 v5 J K P := by
  unfold l_244_57
  refine jw_aload_n rfl rfl ?_
  refine jw_iload_n rfl rfl ?_
  refine jw_iload rfl rfl ?_
  refine jw_virt (k := 2) (c := 19) (as := [.int (Int32.ofInt v1), .int (Int32.ofInt v5)]) rfl rfl rfl (Nat.le_of_ble_eq_true rfl) rfl (Nat.le_of_ble_eq_true rfl) rfl rfl (jz_ci ?_)
  refine jq_in (ls := [some (.ref 167), some (.int (Int32.ofInt v1)), some (.int (Int32.ofInt v5))]) rfl (Nat.le_of_ble_eq_true rfl) rfl ?_
  refine jw_aload_n rfl rfl ?_
  refine jw_gr (q := 196) rfl rfl rfl ?_
  refine jw_iload_n rfl rfl ?_
  refine jw_bipush rfl (by decide) ?_
  refine jw_imul rfl ?_
  refine jw_iload_n rfl rfl ?_
  refine jw_iadd rfl ?_
  obtain ⟨o1, h⟩ := h
  refine jw_iald (v := (J 196 ((v1 * 60) + v5).toNat)) (N := 1620) rfl rfl rfl (by omega) o1 rfl ?_
  refine jw_iret rfl ?_
  refine jw_goto rfl ?_
  refine jw_istore (ls' := [some (.ref 167), some (.int (Int32.ofInt v1)), some (.int (Int32.ofInt v2)), some (.int (Int32.ofInt v3)), some (.int (Int32.ofInt v4)), some (.int (Int32.ofInt v5)), some (.int (Int32.ofInt (J 196 ((v1 * 60) + v5).toNat))), none]) rfl rfl ?_
  exact jz_fg (l := [some (.ref 167), some (.int (Int32.ofInt v1)), some (.int (Int32.ofInt v2)), some (.int (Int32.ofInt v3)), some (.int (Int32.ofInt v4)), some (.int (Int32.ofInt v5)), some (.int (Int32.ofInt (J 196 ((v1 * 60) + v5).toNat))), none]) ⟨rfl, rfl, rfl, rfl, rfl, rfl, rfl, jz_n0, trivial⟩ h
set_option maxHeartbeats 4000000 in
theorem e_244_76 {xs : Nat → Int32} {L d : Nat} {v1 : Int} {v2 : Int} {v3 : Int} {v4 : Int} {v5 : Int} {v6 : Int} {J K : jZ} {P : Int → jZ → jZ → Prop} (h : (-2147483648 ≤ v3 ∧ v3 < 2147483648) ∧ (2 ≤ v3 → (-2147483648 ≤ v6 ∧ v6 < 2147483648) ∧ (-2147483648 ≤ v2 ∧ v2 < 2147483648) ∧ (v2 < v6 → l_244_108 xs L (d + 2) v1 v2 v3 v4 v5 0 J K P) ∧ (v6 ≤ v2 → l_244_108 xs L (d + 2) v1 v2 v3 v4 v5 1 J K P)) ∧ (v3 < 2 → (-2147483648 ≤ v6 ∧ v6 < 2147483648) ∧ (-2147483648 ≤ v2 ∧ v2 < 2147483648) ∧ (v6 < v2 → l_244_108 xs L (d + 2) v1 v2 v3 v4 v5 0 J K P) ∧ (v2 ≤ v6 → l_244_108 xs L (d + 2) v1 v2 v3 v4 v5 1 J K P))) : l_244_76 xs L (d + 2) v1 v2 v3 v4 v5 v6 J K P := by
  unfold l_244_76
  refine jw_iload_n rfl rfl ?_
  refine jw_iconst rfl ?_
  obtain ⟨o1, h⟩ := h
  refine jw_ic_ge rfl o1 (by omega) (fun c2 => ?_) (fun c2 => ?_)
  · replace h := h.1 c2
    refine jw_iload rfl rfl ?_
    refine jw_iload_n rfl rfl ?_
    obtain ⟨o3, h⟩ := h
    obtain ⟨o4, h⟩ := h
    refine jw_ic_gt rfl o3 o4 (fun c5 => ?_) (fun c5 => ?_)
    · replace h := h.1 c5
      refine jw_iconst rfl ?_
      refine jw_istore (ls' := [some (.ref 167), some (.int (Int32.ofInt v1)), some (.int (Int32.ofInt v2)), some (.int (Int32.ofInt v3)), some (.int (Int32.ofInt v4)), some (.int (Int32.ofInt v5)), some (.int (Int32.ofInt v6)), some (.int (Int32.ofInt 0))]) rfl rfl ?_
      exact jz_fg (l := [some (.ref 167), some (.int (Int32.ofInt v1)), some (.int (Int32.ofInt v2)), some (.int (Int32.ofInt v3)), some (.int (Int32.ofInt v4)), some (.int (Int32.ofInt v5)), none, some (.int (Int32.ofInt 0))]) ⟨rfl, rfl, rfl, rfl, rfl, rfl, jz_ni, rfl, trivial⟩ h
    · replace h := h.2 c5
      refine jw_iconst rfl ?_
      refine jw_goto rfl ?_
      refine jw_istore (ls' := [some (.ref 167), some (.int (Int32.ofInt v1)), some (.int (Int32.ofInt v2)), some (.int (Int32.ofInt v3)), some (.int (Int32.ofInt v4)), some (.int (Int32.ofInt v5)), some (.int (Int32.ofInt v6)), some (.int (Int32.ofInt 1))]) rfl rfl ?_
      exact jz_fg (l := [some (.ref 167), some (.int (Int32.ofInt v1)), some (.int (Int32.ofInt v2)), some (.int (Int32.ofInt v3)), some (.int (Int32.ofInt v4)), some (.int (Int32.ofInt v5)), none, some (.int (Int32.ofInt 1))]) ⟨rfl, rfl, rfl, rfl, rfl, rfl, jz_ni, rfl, trivial⟩ h
  · replace h := h.2 c2
    refine jw_iload rfl rfl ?_
    refine jw_iload_n rfl rfl ?_
    obtain ⟨o6, h⟩ := h
    obtain ⟨o7, h⟩ := h
    refine jw_ic_lt rfl o6 o7 (fun c8 => ?_) (fun c8 => ?_)
    · replace h := h.1 c8
      refine jw_iconst rfl ?_
      refine jw_goto rfl ?_
      refine jw_istore (ls' := [some (.ref 167), some (.int (Int32.ofInt v1)), some (.int (Int32.ofInt v2)), some (.int (Int32.ofInt v3)), some (.int (Int32.ofInt v4)), some (.int (Int32.ofInt v5)), some (.int (Int32.ofInt v6)), some (.int (Int32.ofInt 0))]) rfl rfl ?_
      exact jz_fg (l := [some (.ref 167), some (.int (Int32.ofInt v1)), some (.int (Int32.ofInt v2)), some (.int (Int32.ofInt v3)), some (.int (Int32.ofInt v4)), some (.int (Int32.ofInt v5)), none, some (.int (Int32.ofInt 0))]) ⟨rfl, rfl, rfl, rfl, rfl, rfl, jz_ni, rfl, trivial⟩ h
    · replace h := h.2 c8
      refine jw_iconst rfl ?_
      refine jw_goto rfl ?_
      refine jw_istore (ls' := [some (.ref 167), some (.int (Int32.ofInt v1)), some (.int (Int32.ofInt v2)), some (.int (Int32.ofInt v3)), some (.int (Int32.ofInt v4)), some (.int (Int32.ofInt v5)), some (.int (Int32.ofInt v6)), some (.int (Int32.ofInt 1))]) rfl rfl ?_
      exact jz_fg (l := [some (.ref 167), some (.int (Int32.ofInt v1)), some (.int (Int32.ofInt v2)), some (.int (Int32.ofInt v3)), some (.int (Int32.ofInt v4)), some (.int (Int32.ofInt v5)), none, some (.int (Int32.ofInt 1))]) ⟨rfl, rfl, rfl, rfl, rfl, rfl, jz_ni, rfl, trivial⟩ h
set_option maxHeartbeats 4000000 in
theorem e_244_108 {xs : Nat → Int32} {L d : Nat} {v1 : Int} {v2 : Int} {v3 : Int} {v4 : Int} {v5 : Int} {v7 : Int} {J K : jZ} {P : Int → jZ → jZ → Prop} (h : (-2147483648 ≤ v7 ∧ v7 < 2147483648) ∧ (v7 = 0 → l_244_129 xs L (d + 2) v1 v2 v3 v4 v5 J K P) ∧ (¬ v7 = 0 → (-2147483648 ≤ v3 ∧ v3 < 2147483648) ∧ (2 ≤ v3 → l_244_124 xs L (d + 2) v1 v2 v3 v5 J K P) ∧ (v3 < 2 → (-2147483648 ≤ v4 ∧ v4 < 2147483648) ∧ (¬ v4 = (-1) → l_244_129 xs L (d + 2) v1 v2 v3 v4 v5 J K P) ∧ (v4 = (-1) → l_244_124 xs L (d + 2) v1 v2 v3 v5 J K P)))) : l_244_108 xs L (d + 2) v1 v2 v3 v4 v5 v7 J K P := by
  unfold l_244_108
  refine jw_iload rfl rfl ?_
  obtain ⟨o1, h⟩ := h
  refine jw_if_eq rfl o1 (fun c2 => ?_) (fun c2 => ?_)
  · replace h := h.1 c2
    exact jz_fg (l := [some (.ref 167), some (.int (Int32.ofInt v1)), some (.int (Int32.ofInt v2)), some (.int (Int32.ofInt v3)), some (.int (Int32.ofInt v4)), some (.int (Int32.ofInt v5)), none, none]) ⟨rfl, rfl, rfl, rfl, rfl, rfl, jz_n0, jz_ni, trivial⟩ h
  · replace h := h.2 c2
    refine jw_iload_n rfl rfl ?_
    refine jw_iconst rfl ?_
    obtain ⟨o3, h⟩ := h
    refine jw_ic_ge rfl o3 (by omega) (fun c4 => ?_) (fun c4 => ?_)
    · replace h := h.1 c4
      exact jz_fg (l := [some (.ref 167), some (.int (Int32.ofInt v1)), some (.int (Int32.ofInt v2)), some (.int (Int32.ofInt v3)), none, some (.int (Int32.ofInt v5)), none, none]) ⟨rfl, rfl, rfl, rfl, jz_ni, rfl, jz_n0, jz_ni, trivial⟩ h
    · replace h := h.2 c4
      refine jw_iload rfl rfl ?_
      refine jw_iconst rfl ?_
      obtain ⟨o5, h⟩ := h
      refine jw_ic_ne rfl o5 (by omega) (fun c6 => ?_) (fun c6 => ?_)
      · replace h := h.1 c6
        exact jz_fg (l := [some (.ref 167), some (.int (Int32.ofInt v1)), some (.int (Int32.ofInt v2)), some (.int (Int32.ofInt v3)), some (.int (Int32.ofInt v4)), some (.int (Int32.ofInt v5)), none, none]) ⟨rfl, rfl, rfl, rfl, rfl, rfl, jz_n0, jz_ni, trivial⟩ h
      · replace h := h.2 c6
        exact jz_fg (l := [some (.ref 167), some (.int (Int32.ofInt v1)), some (.int (Int32.ofInt v2)), some (.int (Int32.ofInt v3)), none, some (.int (Int32.ofInt v5)), none, none]) ⟨rfl, rfl, rfl, rfl, jz_ni, rfl, jz_n0, jz_ni, trivial⟩ h
set_option maxHeartbeats 4000000 in
theorem e_244_124 {xs : Nat → Int32} {L d : Nat} {v1 : Int} {v2 : Int} {v3 : Int} {v5 : Int} {J K : jZ} {P : Int → jZ → jZ → Prop} (h : l_244_133 xs L (d + 2) v1 v2 v3 v5 v5 J K P) : l_244_124 xs L (d + 2) v1 v2 v3 v5 J K P := by
  unfold l_244_124
  refine jw_iload rfl rfl ?_
  refine jw_goto rfl ?_
  refine jw_istore (ls' := [some (.ref 167), some (.int (Int32.ofInt v1)), some (.int (Int32.ofInt v2)), some (.int (Int32.ofInt v3)), some (.int (Int32.ofInt v5)), some (.int (Int32.ofInt v5)), none, none]) rfl rfl ?_
  exact jz_fg (l := [some (.ref 167), some (.int (Int32.ofInt v1)), some (.int (Int32.ofInt v2)), some (.int (Int32.ofInt v3)), some (.int (Int32.ofInt v5)), some (.int (Int32.ofInt v5)), none, none]) ⟨rfl, rfl, rfl, rfl, rfl, rfl, jz_n0, jz_n0, trivial⟩ h
set_option maxHeartbeats 4000000 in
theorem e_244_129 {xs : Nat → Int32} {L d : Nat} {v1 : Int} {v2 : Int} {v3 : Int} {v4 : Int} {v5 : Int} {J K : jZ} {P : Int → jZ → jZ → Prop} (h : l_244_133 xs L (d + 2) v1 v2 v3 v4 v5 J K P) : l_244_129 xs L (d + 2) v1 v2 v3 v4 v5 J K P := by
  unfold l_244_129
  refine jw_iload rfl rfl ?_
  refine jw_istore (ls' := [some (.ref 167), some (.int (Int32.ofInt v1)), some (.int (Int32.ofInt v2)), some (.int (Int32.ofInt v3)), some (.int (Int32.ofInt v4)), some (.int (Int32.ofInt v5)), none, none]) rfl rfl ?_
  exact jz_fg (l := [some (.ref 167), some (.int (Int32.ofInt v1)), some (.int (Int32.ofInt v2)), some (.int (Int32.ofInt v3)), some (.int (Int32.ofInt v4)), some (.int (Int32.ofInt v5)), none, none]) ⟨rfl, rfl, rfl, rfl, rfl, rfl, jz_n0, jz_n0, trivial⟩ h
set_option maxHeartbeats 4000000 in
theorem e_244_133 {xs : Nat → Int32} {L d : Nat} {v1 : Int} {v2 : Int} {v3 : Int} {v4 : Int} {v5 : Int} {J K : jZ} {P : Int → jZ → jZ → Prop} (h : l_244_37 xs L (d + 2) v1 v2 v3 v4 (v5 + 1) J K P) : l_244_133 xs L (d + 2) v1 v2 v3 v4 v5 J K P := by
  unfold l_244_133
  refine jw_iinc (ls' := [some (.ref 167), some (.int (Int32.ofInt v1)), some (.int (Int32.ofInt v2)), some (.int (Int32.ofInt v3)), some (.int (Int32.ofInt v4)), some (.int (Int32.ofInt (v5 + 1))), none, none]) rfl rfl rfl ?_
  refine jw_goto rfl ?_
  exact jz_fg (l := [some (.ref 167), some (.int (Int32.ofInt v1)), some (.int (Int32.ofInt v2)), some (.int (Int32.ofInt v3)), some (.int (Int32.ofInt v4)), some (.int (Int32.ofInt (v5 + 1))), none, none]) ⟨rfl, rfl, rfl, rfl, rfl, rfl, jz_n0, jz_n0, trivial⟩ h
set_option maxHeartbeats 4000000 in
theorem e_245 {xs : Nat → Int32} {L d : Nat} {v1 : Int} {v2 : Int} {J K : jZ} {P : Int → jZ → jZ → Prop} (h : (-2147483648 ≤ v1 ∧ v1 < 2147483648) ∧ (-2147483648 ≤ ((J 167 10) - 1) ∧ ((J 167 10) - 1) < 2147483648) ∧ (((0 : Int) ≤ v1 ∧ v1 < (J 167 10)) → (-2147483648 ≤ v2 ∧ v2 < 2147483648) ∧ (-2147483648 ≤ ((J 167 9) - 1) ∧ ((J 167 9) - 1) < 2147483648) ∧ (((0 : Int) ≤ v2 ∧ v2 < (J 167 9)) → q_181 xs L (d + 2) J K (fun J7 K8 => q_246 xs L (d + 2) v1 v2 J7 K8 (fun r11 J9 K10 => P r11 J9 K10))) ∧ (¬ ((0 : Int) ≤ v2 ∧ v2 < (J 167 9)) → q_170 xs L (d + 2) (-2) J K (fun r14 J12 K13 => P r14 J12 K13))) ∧ (¬ ((0 : Int) ≤ v1 ∧ v1 < (J 167 10)) → q_170 xs L (d + 2) (-2) J K (fun r17 J15 K16 => P r17 J15 K16))) : q_245 xs L (d + 3) v1 v2 J K P := by
  unfold q_245
  refine jq_in (ls := [some (.ref 167), some (.int (Int32.ofInt v1)), some (.int (Int32.ofInt v2))]) rfl (Nat.le_of_ble_eq_true rfl) rfl ?_
  refine jw_aload_n rfl rfl ?_
  refine jw_iload_n rfl rfl ?_
  refine jw_virt (k := 1) (c := 19) (as := [.int (Int32.ofInt v1)]) rfl rfl rfl (Nat.le_of_ble_eq_true rfl) rfl (Nat.le_of_ble_eq_true rfl) rfl rfl (jz_ci ?_)
  obtain ⟨o1, h⟩ := h
  obtain ⟨o2, h⟩ := h
  refine sb_178 o1 o2 (fun c3 => ?_) (fun c3 => ?_)
  · replace h := h.1 c3
    refine jw_if_eq rfl (by omega) (fun hc => by exfalso; omega) (fun _ => ?_)
    refine jw_aload_n rfl rfl ?_
    refine jw_iload_n rfl rfl ?_
    refine jw_virt (k := 1) (c := 19) (as := [.int (Int32.ofInt v2)]) rfl rfl rfl (Nat.le_of_ble_eq_true rfl) rfl (Nat.le_of_ble_eq_true rfl) rfl rfl (jz_ci ?_)
    obtain ⟨o4, h⟩ := h
    obtain ⟨o5, h⟩ := h
    refine sb_204 o4 o5 (fun c6 => ?_) (fun c6 => ?_)
    · replace h := h.1 c6
      refine jw_if_ne rfl (by omega) (fun _ => ?_) (fun hc => by exfalso; omega)
      refine jw_aload_n rfl rfl ?_
      refine jw_virt (k := 0) (c := 19) (as := []) rfl rfl rfl (Nat.le_of_ble_eq_true rfl) rfl (Nat.le_of_ble_eq_true rfl) rfl rfl (jz_cv ?_)
      refine jm_Q.mono h (jp_v_mono (fun J7 K8 h => ?_))
      refine jw_aload_n rfl rfl ?_
      refine jw_iload_n rfl rfl ?_
      refine jw_iload_n rfl rfl ?_
      refine jw_virt (k := 2) (c := 19) (as := [.int (Int32.ofInt v1), .int (Int32.ofInt v2)]) rfl rfl rfl (Nat.le_of_ble_eq_true rfl) rfl (Nat.le_of_ble_eq_true rfl) rfl rfl (jz_ci ?_)
      refine jm_Q.mono h (jp_i_mono (fun r11 J9 K10 h => ?_))
      refine jw_iret rfl ?_
      exact h
    · replace h := h.2 c6
      refine jw_if_ne rfl (by omega) (fun hc => by exfalso; omega) (fun _ => ?_)
      refine jw_aload_n rfl rfl ?_
      refine jw_bipush rfl (by decide) ?_
      refine jw_virt (k := 1) (c := 19) (as := [.int (Int32.ofInt (-2))]) rfl rfl rfl (Nat.le_of_ble_eq_true rfl) rfl (Nat.le_of_ble_eq_true rfl) rfl rfl (jz_ci ?_)
      refine jm_Q.mono h (jp_i_mono (fun r14 J12 K13 h => ?_))
      refine jw_iret rfl ?_
      exact h
  · replace h := h.2 c3
    refine jw_if_eq rfl (by omega) (fun _ => ?_) (fun hc => by exfalso; omega)
    refine jw_aload_n rfl rfl ?_
    refine jw_bipush rfl (by decide) ?_
    refine jw_virt (k := 1) (c := 19) (as := [.int (Int32.ofInt (-2))]) rfl rfl rfl (Nat.le_of_ble_eq_true rfl) rfl (Nat.le_of_ble_eq_true rfl) rfl rfl (jz_ci ?_)
    refine jm_Q.mono h (jp_i_mono (fun r17 J15 K16 h => ?_))
    refine jw_iret rfl ?_
    exact h
set_option maxHeartbeats 4000000 in
theorem e_246 {xs : Nat → Int32} {L d : Nat} {v1 : Int} {v2 : Int} {J K : jZ} {P : Int → jZ → jZ → Prop} (h : l_246_5 xs L (d + 1) v1 v2 0 0 J K P) : q_246 xs L (d + 2) v1 v2 J K P := by
  unfold q_246
  refine jq_in (ls := [some (.ref 167), some (.int (Int32.ofInt v1)), some (.int (Int32.ofInt v2)), none, none]) rfl (Nat.le_of_ble_eq_true rfl) rfl ?_
  refine jw_iconst rfl ?_
  refine jw_istore_n (ls' := [some (.ref 167), some (.int (Int32.ofInt v1)), some (.int (Int32.ofInt v2)), some (.int (Int32.ofInt 0)), none]) rfl rfl ?_
  refine jw_iconst rfl ?_
  refine jw_istore (ls' := [some (.ref 167), some (.int (Int32.ofInt v1)), some (.int (Int32.ofInt v2)), some (.int (Int32.ofInt 0)), some (.int (Int32.ofInt 0))]) rfl rfl ?_
  exact jz_fg (l := [some (.ref 167), some (.int (Int32.ofInt v1)), some (.int (Int32.ofInt v2)), some (.int (Int32.ofInt 0)), some (.int (Int32.ofInt 0))]) ⟨rfl, rfl, rfl, rfl, rfl, trivial⟩ h
set_option maxHeartbeats 4000000 in
theorem e_246_5 {xs : Nat → Int32} {L d : Nat} {v1 : Int} {v2 : Int} {v3 : Int} {v4 : Int} {J K : jZ} {P : Int → jZ → jZ → Prop} (h : ((0 : Int) ≤ v1 ∧ v1 < 27) ∧ (-2147483648 ≤ v4 ∧ v4 < 2147483648) ∧ (-2147483648 ≤ J 195 v1.toNat ∧ J 195 v1.toNat < 2147483648) ∧ ((J 195 v1.toNat) ≤ v4 → P v3 J K) ∧ (v4 < (J 195 v1.toNat) → ((0 : Int) ≤ ((v1 * 60) + v4) ∧ ((v1 * 60) + v4) < 1620) ∧ (-2147483648 ≤ J 196 ((v1 * 60) + v4).toNat ∧ J 196 ((v1 * 60) + v4).toNat < 2147483648) ∧ (-2147483648 ≤ v2 ∧ v2 < 2147483648) ∧ (v2 < (J 196 ((v1 * 60) + v4).toNat) → l_246_5 xs L (d + 1) v1 v2 (v3 + 0) (v4 + 1) J K P) ∧ ((J 196 ((v1 * 60) + v4).toNat) ≤ v2 → (-2147483648 ≤ J 197 ((v1 * 60) + v4).toNat ∧ J 197 ((v1 * 60) + v4).toNat < 2147483648) ∧ ((J 197 ((v1 * 60) + v4).toNat) < v2 → l_246_5 xs L (d + 1) v1 v2 (v3 + 0) (v4 + 1) J K P) ∧ (v2 ≤ (J 197 ((v1 * 60) + v4).toNat) → l_246_5 xs L (d + 1) v1 v2 (v3 + 1) (v4 + 1) J K P)))) : l_246_5 xs L (d + 1) v1 v2 v3 v4 J K P := by
  unfold l_246_5
  refine jw_iload rfl rfl ?_
  refine jw_aload_n rfl rfl ?_
  refine jw_gr (q := 195) rfl rfl rfl ?_
  refine jw_iload_n rfl rfl ?_
  obtain ⟨o1, h⟩ := h
  refine jw_iald (v := (J 195 v1.toNat)) (N := 27) rfl rfl rfl (by omega) o1 rfl ?_
  obtain ⟨o2, h⟩ := h
  obtain ⟨o3, h⟩ := h
  refine jw_ic_ge rfl o2 o3 (fun c4 => ?_) (fun c4 => ?_)
  · replace h := h.1 c4
    refine jw_iload_n rfl rfl ?_
    refine jw_iret rfl ?_
    exact h
  · replace h := h.2 c4
    refine jw_iload_n rfl rfl ?_
    refine jw_aload_n rfl rfl ?_
    refine jw_iload_n rfl rfl ?_
    refine jw_iload rfl rfl ?_
    refine jw_virt (k := 2) (c := 19) (as := [.int (Int32.ofInt v1), .int (Int32.ofInt v4)]) rfl rfl rfl (Nat.le_of_ble_eq_true rfl) rfl (Nat.le_of_ble_eq_true rfl) rfl rfl (jz_ci ?_)
    refine jq_in (ls := [some (.ref 167), some (.int (Int32.ofInt v1)), some (.int (Int32.ofInt v4))]) rfl (Nat.le_of_ble_eq_true rfl) rfl ?_
    refine jw_aload_n rfl rfl ?_
    refine jw_gr (q := 196) rfl rfl rfl ?_
    refine jw_iload_n rfl rfl ?_
    refine jw_bipush rfl (by decide) ?_
    refine jw_imul rfl ?_
    refine jw_iload_n rfl rfl ?_
    refine jw_iadd rfl ?_
    obtain ⟨o5, h⟩ := h
    refine jw_iald (v := (J 196 ((v1 * 60) + v4).toNat)) (N := 1620) rfl rfl rfl (by omega) o5 rfl ?_
    refine jw_iret rfl ?_
    refine jw_iload_n rfl rfl ?_
    obtain ⟨o6, h⟩ := h
    obtain ⟨o7, h⟩ := h
    refine jw_ic_gt rfl o6 o7 (fun c8 => ?_) (fun c8 => ?_)
    · replace h := h.1 c8
      refine jw_iconst rfl ?_
      refine jw_iadd rfl ?_
      refine jw_istore_n (ls' := [some (.ref 167), some (.int (Int32.ofInt v1)), some (.int (Int32.ofInt v2)), some (.int (Int32.ofInt (v3 + 0))), some (.int (Int32.ofInt v4))]) rfl rfl ?_
      refine jw_iinc (ls' := [some (.ref 167), some (.int (Int32.ofInt v1)), some (.int (Int32.ofInt v2)), some (.int (Int32.ofInt (v3 + 0))), some (.int (Int32.ofInt (v4 + 1)))]) rfl rfl rfl ?_
      refine jw_goto rfl ?_
      exact jz_fg (l := [some (.ref 167), some (.int (Int32.ofInt v1)), some (.int (Int32.ofInt v2)), some (.int (Int32.ofInt (v3 + 0))), some (.int (Int32.ofInt (v4 + 1)))]) ⟨rfl, rfl, rfl, rfl, rfl, trivial⟩ h
    · replace h := h.2 c8
      refine jw_iload_n rfl rfl ?_
      refine jw_aload_n rfl rfl ?_
      refine jw_iload_n rfl rfl ?_
      refine jw_iload rfl rfl ?_
      refine jw_virt (k := 2) (c := 19) (as := [.int (Int32.ofInt v1), .int (Int32.ofInt v4)]) rfl rfl rfl (Nat.le_of_ble_eq_true rfl) rfl (Nat.le_of_ble_eq_true rfl) rfl rfl (jz_ci ?_)
      refine jq_in (ls := [some (.ref 167), some (.int (Int32.ofInt v1)), some (.int (Int32.ofInt v4))]) rfl (Nat.le_of_ble_eq_true rfl) rfl ?_
      refine jw_aload_n rfl rfl ?_
      refine jw_gr (q := 197) rfl rfl rfl ?_
      refine jw_iload_n rfl rfl ?_
      refine jw_bipush rfl (by decide) ?_
      refine jw_imul rfl ?_
      refine jw_iload_n rfl rfl ?_
      refine jw_iadd rfl ?_
      refine jw_iald (v := (J 197 ((v1 * 60) + v4).toNat)) (N := 1620) rfl rfl rfl (by omega) o5 rfl ?_
      refine jw_iret rfl ?_
      obtain ⟨o9, h⟩ := h
      refine jw_ic_gt rfl o7 o9 (fun c10 => ?_) (fun c10 => ?_)
      · replace h := h.1 c10
        refine jw_iconst rfl ?_
        refine jw_iadd rfl ?_
        refine jw_istore_n (ls' := [some (.ref 167), some (.int (Int32.ofInt v1)), some (.int (Int32.ofInt v2)), some (.int (Int32.ofInt (v3 + 0))), some (.int (Int32.ofInt v4))]) rfl rfl ?_
        refine jw_iinc (ls' := [some (.ref 167), some (.int (Int32.ofInt v1)), some (.int (Int32.ofInt v2)), some (.int (Int32.ofInt (v3 + 0))), some (.int (Int32.ofInt (v4 + 1)))]) rfl rfl rfl ?_
        refine jw_goto rfl ?_
        exact jz_fg (l := [some (.ref 167), some (.int (Int32.ofInt v1)), some (.int (Int32.ofInt v2)), some (.int (Int32.ofInt (v3 + 0))), some (.int (Int32.ofInt (v4 + 1)))]) ⟨rfl, rfl, rfl, rfl, rfl, trivial⟩ h
      · replace h := h.2 c10
        refine jw_iconst rfl ?_
        refine jw_goto rfl ?_
        refine jw_iadd rfl ?_
        refine jw_istore_n (ls' := [some (.ref 167), some (.int (Int32.ofInt v1)), some (.int (Int32.ofInt v2)), some (.int (Int32.ofInt (v3 + 1))), some (.int (Int32.ofInt v4))]) rfl rfl ?_
        refine jw_iinc (ls' := [some (.ref 167), some (.int (Int32.ofInt v1)), some (.int (Int32.ofInt v2)), some (.int (Int32.ofInt (v3 + 1))), some (.int (Int32.ofInt (v4 + 1)))]) rfl rfl rfl ?_
        refine jw_goto rfl ?_
        exact jz_fg (l := [some (.ref 167), some (.int (Int32.ofInt v1)), some (.int (Int32.ofInt v2)), some (.int (Int32.ofInt (v3 + 1))), some (.int (Int32.ofInt (v4 + 1)))]) ⟨rfl, rfl, rfl, rfl, rfl, trivial⟩ h
set_option maxHeartbeats 4000000 in
theorem e_247 {xs : Nat → Int32} {L d : Nat} {v1 : Int} {J K : jZ} {P : Int → jZ → jZ → Prop} (h : (-2147483648 ≤ v1 ∧ v1 < 2147483648) ∧ (-2147483648 ≤ ((J 167 10) - 1) ∧ ((J 167 10) - 1) < 2147483648) ∧ (((0 : Int) ≤ v1 ∧ v1 < (J 167 10)) → q_181 xs L (d + 2) J K (fun J4 K5 => l_247_23 xs L (d + 2) v1 (-1) 0 J4 K5 P)) ∧ (¬ ((0 : Int) ≤ v1 ∧ v1 < (J 167 10)) → q_170 xs L (d + 2) (-2) J K (fun r8 J6 K7 => P r8 J6 K7))) : q_247 xs L (d + 3) v1 J K P := by
  unfold q_247
  refine jq_in (ls := [some (.ref 167), some (.int (Int32.ofInt v1)), none, none, none]) rfl (Nat.le_of_ble_eq_true rfl) rfl ?_
  refine jw_aload_n rfl rfl ?_
  refine jw_iload_n rfl rfl ?_
  refine jw_virt (k := 1) (c := 19) (as := [.int (Int32.ofInt v1)]) rfl rfl rfl (Nat.le_of_ble_eq_true rfl) rfl (Nat.le_of_ble_eq_true rfl) rfl rfl (jz_ci ?_)
  obtain ⟨o1, h⟩ := h
  obtain ⟨o2, h⟩ := h
  refine sb_178 o1 o2 (fun c3 => ?_) (fun c3 => ?_)
  · replace h := h.1 c3
    refine jw_if_ne rfl (by omega) (fun _ => ?_) (fun hc => by exfalso; omega)
    refine jw_aload_n rfl rfl ?_
    refine jw_virt (k := 0) (c := 19) (as := []) rfl rfl rfl (Nat.le_of_ble_eq_true rfl) rfl (Nat.le_of_ble_eq_true rfl) rfl rfl (jz_cv ?_)
    refine jm_Q.mono h (jp_v_mono (fun J4 K5 h => ?_))
    refine jw_iconst rfl ?_
    refine jw_istore_n (ls' := [some (.ref 167), some (.int (Int32.ofInt v1)), some (.int (Int32.ofInt (-1))), none, none]) rfl rfl ?_
    refine jw_iconst rfl ?_
    refine jw_istore_n (ls' := [some (.ref 167), some (.int (Int32.ofInt v1)), some (.int (Int32.ofInt (-1))), some (.int (Int32.ofInt 0)), none]) rfl rfl ?_
    exact jz_fg (l := [some (.ref 167), some (.int (Int32.ofInt v1)), some (.int (Int32.ofInt (-1))), some (.int (Int32.ofInt 0)), none]) ⟨rfl, rfl, rfl, rfl, jz_n0, trivial⟩ h
  · replace h := h.2 c3
    refine jw_if_ne rfl (by omega) (fun hc => by exfalso; omega) (fun _ => ?_)
    refine jw_aload_n rfl rfl ?_
    refine jw_bipush rfl (by decide) ?_
    refine jw_virt (k := 1) (c := 19) (as := [.int (Int32.ofInt (-2))]) rfl rfl rfl (Nat.le_of_ble_eq_true rfl) rfl (Nat.le_of_ble_eq_true rfl) rfl rfl (jz_ci ?_)
    refine jm_Q.mono h (jp_i_mono (fun r8 J6 K7 h => ?_))
    refine jw_iret rfl ?_
    exact h
set_option maxHeartbeats 4000000 in
theorem e_247_23 {xs : Nat → Int32} {L d : Nat} {v1 : Int} {v2 : Int} {v3 : Int} {J K : jZ} {P : Int → jZ → jZ → Prop} (h : (-2147483648 ≤ v3 ∧ v3 < 2147483648) ∧ (-2147483648 ≤ J 167 9 ∧ J 167 9 < 2147483648) ∧ ((J 167 9) ≤ v3 → P v2 J K) ∧ (v3 < (J 167 9) → q_246 xs L (d + 2) v1 v3 J K (fun r6 J4 K5 => (-2147483648 ≤ v2 ∧ v2 < 2147483648) ∧ (¬ v2 = (-1) → q_246 xs L (d + 2) v1 v2 J4 K5 (fun r11 J9 K10 => (-2147483648 ≤ r6 ∧ r6 < 2147483648) ∧ (-2147483648 ≤ r11 ∧ r11 < 2147483648) ∧ (r6 ≤ r11 → l_247_23 xs L (d + 2) v1 v2 (v3 + 1) J9 K10 P) ∧ (r11 < r6 → l_247_23 xs L (d + 2) v1 v3 (v3 + 1) J9 K10 P))) ∧ (v2 = (-1) → (-2147483648 ≤ r6 ∧ r6 < 2147483648) ∧ (r6 ≤ 0 → l_247_23 xs L (d + 2) v1 v2 (v3 + 1) J4 K5 P) ∧ (0 < r6 → l_247_23 xs L (d + 2) v1 v3 (v3 + 1) J4 K5 P))))) : l_247_23 xs L (d + 2) v1 v2 v3 J K P := by
  unfold l_247_23
  refine jw_iload_n rfl rfl ?_
  refine jw_aload_n rfl rfl ?_
  refine jw_gf (v := (J 167 9)) rfl (by decide) rfl rfl ?_
  obtain ⟨o1, h⟩ := h
  obtain ⟨o2, h⟩ := h
  refine jw_ic_ge rfl o1 o2 (fun c3 => ?_) (fun c3 => ?_)
  · replace h := h.1 c3
    refine jw_iload_n rfl rfl ?_
    refine jw_iret rfl ?_
    exact h
  · replace h := h.2 c3
    refine jw_aload_n rfl rfl ?_
    refine jw_iload_n rfl rfl ?_
    refine jw_iload_n rfl rfl ?_
    refine jw_virt (k := 2) (c := 19) (as := [.int (Int32.ofInt v1), .int (Int32.ofInt v3)]) rfl rfl rfl (Nat.le_of_ble_eq_true rfl) rfl (Nat.le_of_ble_eq_true rfl) rfl rfl (jz_ci ?_)
    refine jm_Q.mono h (jp_i_mono (fun r6 J4 K5 h => ?_))
    refine jw_istore (ls' := [some (.ref 167), some (.int (Int32.ofInt v1)), some (.int (Int32.ofInt v2)), some (.int (Int32.ofInt v3)), some (.int (Int32.ofInt r6))]) rfl rfl ?_
    refine jw_iload rfl rfl ?_
    refine jw_iload_n rfl rfl ?_
    refine jw_iconst rfl ?_
    obtain ⟨o7, h⟩ := h
    refine jw_ic_ne rfl o7 (by omega) (fun c8 => ?_) (fun c8 => ?_)
    · replace h := h.1 c8
      refine jw_aload_n rfl rfl ?_
      refine jw_iload_n rfl rfl ?_
      refine jw_iload_n rfl rfl ?_
      refine jw_virt (k := 2) (c := 19) (as := [.int (Int32.ofInt v1), .int (Int32.ofInt v2)]) rfl rfl rfl (Nat.le_of_ble_eq_true rfl) rfl (Nat.le_of_ble_eq_true rfl) rfl rfl (jz_ci ?_)
      refine jm_Q.mono h (jp_i_mono (fun r11 J9 K10 h => ?_))
      obtain ⟨o12, h⟩ := h
      obtain ⟨o13, h⟩ := h
      refine jw_ic_le rfl o12 o13 (fun c14 => ?_) (fun c14 => ?_)
      · replace h := h.1 c14
        refine jw_iload_n rfl rfl ?_
        refine jw_istore_n (ls' := [some (.ref 167), some (.int (Int32.ofInt v1)), some (.int (Int32.ofInt v2)), some (.int (Int32.ofInt v3)), some (.int (Int32.ofInt r6))]) rfl rfl ?_
        refine jw_iinc (ls' := [some (.ref 167), some (.int (Int32.ofInt v1)), some (.int (Int32.ofInt v2)), some (.int (Int32.ofInt (v3 + 1))), some (.int (Int32.ofInt r6))]) rfl rfl rfl ?_
        refine jw_goto rfl ?_
        exact jz_fg (l := [some (.ref 167), some (.int (Int32.ofInt v1)), some (.int (Int32.ofInt v2)), some (.int (Int32.ofInt (v3 + 1))), none]) ⟨rfl, rfl, rfl, rfl, jz_ni, trivial⟩ h
      · replace h := h.2 c14
        refine jw_iload_n rfl rfl ?_
        refine jw_goto rfl ?_
        refine jw_istore_n (ls' := [some (.ref 167), some (.int (Int32.ofInt v1)), some (.int (Int32.ofInt v3)), some (.int (Int32.ofInt v3)), some (.int (Int32.ofInt r6))]) rfl rfl ?_
        refine jw_iinc (ls' := [some (.ref 167), some (.int (Int32.ofInt v1)), some (.int (Int32.ofInt v3)), some (.int (Int32.ofInt (v3 + 1))), some (.int (Int32.ofInt r6))]) rfl rfl rfl ?_
        refine jw_goto rfl ?_
        exact jz_fg (l := [some (.ref 167), some (.int (Int32.ofInt v1)), some (.int (Int32.ofInt v3)), some (.int (Int32.ofInt (v3 + 1))), none]) ⟨rfl, rfl, rfl, rfl, jz_ni, trivial⟩ h
    · replace h := h.2 c8
      refine jw_iconst rfl ?_
      refine jw_goto rfl ?_
      obtain ⟨o15, h⟩ := h
      refine jw_ic_le rfl o15 (by omega) (fun c16 => ?_) (fun c16 => ?_)
      · replace h := h.1 c16
        refine jw_iload_n rfl rfl ?_
        refine jw_istore_n (ls' := [some (.ref 167), some (.int (Int32.ofInt v1)), some (.int (Int32.ofInt v2)), some (.int (Int32.ofInt v3)), some (.int (Int32.ofInt r6))]) rfl rfl ?_
        refine jw_iinc (ls' := [some (.ref 167), some (.int (Int32.ofInt v1)), some (.int (Int32.ofInt v2)), some (.int (Int32.ofInt (v3 + 1))), some (.int (Int32.ofInt r6))]) rfl rfl rfl ?_
        refine jw_goto rfl ?_
        exact jz_fg (l := [some (.ref 167), some (.int (Int32.ofInt v1)), some (.int (Int32.ofInt v2)), some (.int (Int32.ofInt (v3 + 1))), none]) ⟨rfl, rfl, rfl, rfl, jz_ni, trivial⟩ h
      · replace h := h.2 c16
        refine jw_iload_n rfl rfl ?_
        refine jw_goto rfl ?_
        refine jw_istore_n (ls' := [some (.ref 167), some (.int (Int32.ofInt v1)), some (.int (Int32.ofInt v3)), some (.int (Int32.ofInt v3)), some (.int (Int32.ofInt r6))]) rfl rfl ?_
        refine jw_iinc (ls' := [some (.ref 167), some (.int (Int32.ofInt v1)), some (.int (Int32.ofInt v3)), some (.int (Int32.ofInt (v3 + 1))), some (.int (Int32.ofInt r6))]) rfl rfl rfl ?_
        refine jw_goto rfl ?_
        exact jz_fg (l := [some (.ref 167), some (.int (Int32.ofInt v1)), some (.int (Int32.ofInt v3)), some (.int (Int32.ofInt (v3 + 1))), none]) ⟨rfl, rfl, rfl, rfl, jz_ni, trivial⟩ h
set_option maxHeartbeats 4000000 in
theorem e_248 {xs : Nat → Int32} {L d : Nat} {v1 : Int} {v2 : Int} {J K : jZ} {P : Int → jZ → jZ → Prop} (h : (-2147483648 ≤ v1 ∧ v1 < 2147483648) ∧ (-2147483648 ≤ ((J 167 10) - 1) ∧ ((J 167 10) - 1) < 2147483648) ∧ (((0 : Int) ≤ v1 ∧ v1 < (J 167 10)) → (-2147483648 ≤ v2 ∧ v2 < 2147483648) ∧ ((0 ≤ v2 ∧ v2 ≤ 2) → q_181 xs L (d + 2) J K (fun J6 K7 => l_248_42 xs L (d + 2) v1 v2 0 0 0 0 J6 K7 P)) ∧ (¬ (0 ≤ v2 ∧ v2 ≤ 2) → q_170 xs L (d + 2) (-2) J K (fun r10 J8 K9 => P r10 J8 K9))) ∧ (¬ ((0 : Int) ≤ v1 ∧ v1 < (J 167 10)) → q_170 xs L (d + 2) (-2) J K (fun r13 J11 K12 => P r13 J11 K12))) : q_248 xs L (d + 3) v1 v2 J K P := by
  unfold q_248
  refine jq_in (ls := [some (.ref 167), some (.int (Int32.ofInt v1)), some (.int (Int32.ofInt v2)), none, none, none, none, none]) rfl (Nat.le_of_ble_eq_true rfl) rfl ?_
  refine jw_aload_n rfl rfl ?_
  refine jw_iload_n rfl rfl ?_
  refine jw_virt (k := 1) (c := 19) (as := [.int (Int32.ofInt v1)]) rfl rfl rfl (Nat.le_of_ble_eq_true rfl) rfl (Nat.le_of_ble_eq_true rfl) rfl rfl (jz_ci ?_)
  obtain ⟨o1, h⟩ := h
  obtain ⟨o2, h⟩ := h
  refine sb_178 o1 o2 (fun c3 => ?_) (fun c3 => ?_)
  · replace h := h.1 c3
    refine jw_if_eq rfl (by omega) (fun hc => by exfalso; omega) (fun _ => ?_)
    refine jw_iload_n rfl rfl ?_
    obtain ⟨o4, h⟩ := h
    refine jw_i2l rfl o4 ?_
    refine jw_lconst (x := 0) rfl rfl ?_
    refine jw_ldc2_w rfl ?_
    refine jw_stat (k := 3) (as := [.long (Int64.ofInt v2), .long (Int64.ofInt 0), .long (Int64.ofInt 2)]) rfl (by decide) rfl rfl (Nat.le_of_ble_eq_true rfl) rfl (Nat.le_of_ble_eq_true rfl) (jz_ci ?_)
    refine sb_169 (by omega) (by omega) (by omega) (fun c5 => ?_) (fun c5 => ?_)
    · replace h := h.1 c5
      refine jw_if_ne rfl (by omega) (fun _ => ?_) (fun hc => by exfalso; omega)
      refine jw_aload_n rfl rfl ?_
      refine jw_virt (k := 0) (c := 19) (as := []) rfl rfl rfl (Nat.le_of_ble_eq_true rfl) rfl (Nat.le_of_ble_eq_true rfl) rfl rfl (jz_cv ?_)
      refine jm_Q.mono h (jp_v_mono (fun J6 K7 h => ?_))
      refine jw_iconst rfl ?_
      refine jw_istore_n (ls' := [some (.ref 167), some (.int (Int32.ofInt v1)), some (.int (Int32.ofInt v2)), some (.int (Int32.ofInt 0)), none, none, none, none]) rfl rfl ?_
      refine jw_iconst rfl ?_
      refine jw_istore (ls' := [some (.ref 167), some (.int (Int32.ofInt v1)), some (.int (Int32.ofInt v2)), some (.int (Int32.ofInt 0)), some (.int (Int32.ofInt 0)), none, none, none]) rfl rfl ?_
      refine jw_iconst rfl ?_
      refine jw_istore (ls' := [some (.ref 167), some (.int (Int32.ofInt v1)), some (.int (Int32.ofInt v2)), some (.int (Int32.ofInt 0)), some (.int (Int32.ofInt 0)), some (.int (Int32.ofInt 0)), none, none]) rfl rfl ?_
      refine jw_iconst rfl ?_
      refine jw_istore (ls' := [some (.ref 167), some (.int (Int32.ofInt v1)), some (.int (Int32.ofInt v2)), some (.int (Int32.ofInt 0)), some (.int (Int32.ofInt 0)), some (.int (Int32.ofInt 0)), some (.int (Int32.ofInt 0)), none]) rfl rfl ?_
      exact jz_fg (l := [some (.ref 167), some (.int (Int32.ofInt v1)), some (.int (Int32.ofInt v2)), some (.int (Int32.ofInt 0)), some (.int (Int32.ofInt 0)), some (.int (Int32.ofInt 0)), some (.int (Int32.ofInt 0)), none]) ⟨rfl, rfl, rfl, rfl, rfl, rfl, rfl, jz_n0, trivial⟩ h
    · replace h := h.2 c5
      refine jw_if_ne rfl (by omega) (fun hc => by exfalso; omega) (fun _ => ?_)
      refine jw_aload_n rfl rfl ?_
      refine jw_bipush rfl (by decide) ?_
      refine jw_virt (k := 1) (c := 19) (as := [.int (Int32.ofInt (-2))]) rfl rfl rfl (Nat.le_of_ble_eq_true rfl) rfl (Nat.le_of_ble_eq_true rfl) rfl rfl (jz_ci ?_)
      refine jm_Q.mono h (jp_i_mono (fun r10 J8 K9 h => ?_))
      refine jw_iret rfl ?_
      exact h
  · replace h := h.2 c3
    refine jw_if_eq rfl (by omega) (fun _ => ?_) (fun hc => by exfalso; omega)
    refine jw_aload_n rfl rfl ?_
    refine jw_bipush rfl (by decide) ?_
    refine jw_virt (k := 1) (c := 19) (as := [.int (Int32.ofInt (-2))]) rfl rfl rfl (Nat.le_of_ble_eq_true rfl) rfl (Nat.le_of_ble_eq_true rfl) rfl rfl (jz_ci ?_)
    refine jm_Q.mono h (jp_i_mono (fun r13 J11 K12 h => ?_))
    refine jw_iret rfl ?_
    exact h
set_option maxHeartbeats 4000000 in
theorem e_248_42 {xs : Nat → Int32} {L d : Nat} {v1 : Int} {v2 : Int} {v3 : Int} {v4 : Int} {v5 : Int} {v6 : Int} {J K : jZ} {P : Int → jZ → jZ → Prop} (h : (-2147483648 ≤ v6 ∧ v6 < 2147483648) ∧ (-2147483648 ≤ J 167 9 ∧ J 167 9 < 2147483648) ∧ ((J 167 9) ≤ v6 → (-2147483648 ≤ v2 ∧ v2 < 2147483648) ∧ (¬ v2 = 0 → (¬ v2 = 1 → P v5 J K) ∧ (v2 = 1 → P ((J 167 9) - v3) J K)) ∧ (v2 = 0 → P v3 J K)) ∧ (v6 < (J 167 9) → q_246 xs L (d + 2) v1 v6 J K (fun r9 J7 K8 => (-2147483648 ≤ r9 ∧ r9 < 2147483648) ∧ (r9 ≤ 0 → l_248_68 xs L (d + 2) v1 v2 v3 v4 v5 v6 0 J7 K8 P) ∧ (0 < r9 → l_248_68 xs L (d + 2) v1 v2 v3 v4 v5 v6 1 J7 K8 P)))) : l_248_42 xs L (d + 2) v1 v2 v3 v4 v5 v6 J K P := by
  unfold l_248_42
  refine jw_iload rfl rfl ?_
  refine jw_aload_n rfl rfl ?_
  refine jw_gf (v := (J 167 9)) rfl (by decide) rfl rfl ?_
  obtain ⟨o1, h⟩ := h
  obtain ⟨o2, h⟩ := h
  refine jw_ic_ge rfl o1 o2 (fun c3 => ?_) (fun c3 => ?_)
  · replace h := h.1 c3
    refine jw_iload_n rfl rfl ?_
    obtain ⟨o4, h⟩ := h
    refine jw_if_ne rfl o4 (fun c5 => ?_) (fun c5 => ?_)
    · replace h := h.1 c5
      refine jw_iload_n rfl rfl ?_
      refine jw_iconst rfl ?_
      refine jw_ic_ne rfl o4 (by omega) (fun c6 => ?_) (fun c6 => ?_)
      · replace h := h.1 c6
        refine jw_iload rfl rfl ?_
        refine jw_iret rfl ?_
        exact h
      · replace h := h.2 c6
        refine jw_aload_n rfl rfl ?_
        refine jw_gf (v := (J 167 9)) rfl (by decide) rfl rfl ?_
        refine jw_iload_n rfl rfl ?_
        refine jw_isub rfl ?_
        refine jw_goto rfl ?_
        refine jw_iret rfl ?_
        exact h
    · replace h := h.2 c5
      refine jw_iload_n rfl rfl ?_
      refine jw_goto rfl ?_
      refine jw_iret rfl ?_
      exact h
  · replace h := h.2 c3
    refine jw_aload_n rfl rfl ?_
    refine jw_iload_n rfl rfl ?_
    refine jw_iload rfl rfl ?_
    refine jw_virt (k := 2) (c := 19) (as := [.int (Int32.ofInt v1), .int (Int32.ofInt v6)]) rfl rfl rfl (Nat.le_of_ble_eq_true rfl) rfl (Nat.le_of_ble_eq_true rfl) rfl rfl (jz_ci ?_)
    refine jm_Q.mono h (jp_i_mono (fun r9 J7 K8 h => ?_))
    obtain ⟨o10, h⟩ := h
    refine jw_if_le rfl o10 (fun c11 => ?_) (fun c11 => ?_)
    · replace h := h.1 c11
      refine jw_iconst rfl ?_
      refine jw_istore (ls' := [some (.ref 167), some (.int (Int32.ofInt v1)), some (.int (Int32.ofInt v2)), some (.int (Int32.ofInt v3)), some (.int (Int32.ofInt v4)), some (.int (Int32.ofInt v5)), some (.int (Int32.ofInt v6)), some (.int (Int32.ofInt 0))]) rfl rfl ?_
      exact jz_fg (l := [some (.ref 167), some (.int (Int32.ofInt v1)), some (.int (Int32.ofInt v2)), some (.int (Int32.ofInt v3)), some (.int (Int32.ofInt v4)), some (.int (Int32.ofInt v5)), some (.int (Int32.ofInt v6)), some (.int (Int32.ofInt 0))]) ⟨rfl, rfl, rfl, rfl, rfl, rfl, rfl, rfl, trivial⟩ h
    · replace h := h.2 c11
      refine jw_iconst rfl ?_
      refine jw_goto rfl ?_
      refine jw_istore (ls' := [some (.ref 167), some (.int (Int32.ofInt v1)), some (.int (Int32.ofInt v2)), some (.int (Int32.ofInt v3)), some (.int (Int32.ofInt v4)), some (.int (Int32.ofInt v5)), some (.int (Int32.ofInt v6)), some (.int (Int32.ofInt 1))]) rfl rfl ?_
      exact jz_fg (l := [some (.ref 167), some (.int (Int32.ofInt v1)), some (.int (Int32.ofInt v2)), some (.int (Int32.ofInt v3)), some (.int (Int32.ofInt v4)), some (.int (Int32.ofInt v5)), some (.int (Int32.ofInt v6)), some (.int (Int32.ofInt 1))]) ⟨rfl, rfl, rfl, rfl, rfl, rfl, rfl, rfl, trivial⟩ h
set_option maxHeartbeats 4000000 in
theorem e_248_68 {xs : Nat → Int32} {L d : Nat} {v1 : Int} {v2 : Int} {v3 : Int} {v4 : Int} {v5 : Int} {v6 : Int} {v7 : Int} {J K : jZ} {P : Int → jZ → jZ → Prop} (h : (-2147483648 ≤ v7 ∧ v7 < 2147483648) ∧ (v7 = 0 → l_248_96 xs L (d + 2) v1 v2 (v3 + 0) (v4 + 1) v5 v6 J K P) ∧ (¬ v7 = 0 → l_248_96 xs L (d + 2) v1 v2 (v3 + 1) 0 v5 v6 J K P)) : l_248_68 xs L (d + 2) v1 v2 v3 v4 v5 v6 v7 J K P := by
  unfold l_248_68
  refine jw_iload_n rfl rfl ?_
  refine jw_iload rfl rfl ?_
  obtain ⟨o1, h⟩ := h
  refine jw_if_eq rfl o1 (fun c2 => ?_) (fun c2 => ?_)
  · replace h := h.1 c2
    refine jw_iconst rfl ?_
    refine jw_iadd rfl ?_
    refine jw_istore_n (ls' := [some (.ref 167), some (.int (Int32.ofInt v1)), some (.int (Int32.ofInt v2)), some (.int (Int32.ofInt (v3 + 0))), some (.int (Int32.ofInt v4)), some (.int (Int32.ofInt v5)), some (.int (Int32.ofInt v6)), some (.int (Int32.ofInt v7))]) rfl rfl ?_
    refine jw_iload rfl rfl ?_
    refine jw_if_eq rfl o1 (fun _ => ?_) (fun hc => by exfalso; omega)
    refine jw_iload rfl rfl ?_
    refine jw_iconst rfl ?_
    refine jw_iadd rfl ?_
    refine jw_istore (ls' := [some (.ref 167), some (.int (Int32.ofInt v1)), some (.int (Int32.ofInt v2)), some (.int (Int32.ofInt (v3 + 0))), some (.int (Int32.ofInt (v4 + 1))), some (.int (Int32.ofInt v5)), some (.int (Int32.ofInt v6)), some (.int (Int32.ofInt v7))]) rfl rfl ?_
    exact jz_fg (l := [some (.ref 167), some (.int (Int32.ofInt v1)), some (.int (Int32.ofInt v2)), some (.int (Int32.ofInt (v3 + 0))), some (.int (Int32.ofInt (v4 + 1))), some (.int (Int32.ofInt v5)), some (.int (Int32.ofInt v6)), none]) ⟨rfl, rfl, rfl, rfl, rfl, rfl, rfl, jz_ni, trivial⟩ h
  · replace h := h.2 c2
    refine jw_iconst rfl ?_
    refine jw_goto rfl ?_
    refine jw_iadd rfl ?_
    refine jw_istore_n (ls' := [some (.ref 167), some (.int (Int32.ofInt v1)), some (.int (Int32.ofInt v2)), some (.int (Int32.ofInt (v3 + 1))), some (.int (Int32.ofInt v4)), some (.int (Int32.ofInt v5)), some (.int (Int32.ofInt v6)), some (.int (Int32.ofInt v7))]) rfl rfl ?_
    refine jw_iload rfl rfl ?_
    refine jw_if_eq rfl o1 (fun hc => by exfalso; omega) (fun _ => ?_)
    refine jw_iconst rfl ?_
    refine jw_goto rfl ?_
    refine jw_istore (ls' := [some (.ref 167), some (.int (Int32.ofInt v1)), some (.int (Int32.ofInt v2)), some (.int (Int32.ofInt (v3 + 1))), some (.int (Int32.ofInt 0)), some (.int (Int32.ofInt v5)), some (.int (Int32.ofInt v6)), some (.int (Int32.ofInt v7))]) rfl rfl ?_
    exact jz_fg (l := [some (.ref 167), some (.int (Int32.ofInt v1)), some (.int (Int32.ofInt v2)), some (.int (Int32.ofInt (v3 + 1))), some (.int (Int32.ofInt 0)), some (.int (Int32.ofInt v5)), some (.int (Int32.ofInt v6)), none]) ⟨rfl, rfl, rfl, rfl, rfl, rfl, rfl, jz_ni, trivial⟩ h
set_option maxHeartbeats 4000000 in
theorem e_248_96 {xs : Nat → Int32} {L d : Nat} {v1 : Int} {v2 : Int} {v3 : Int} {v4 : Int} {v5 : Int} {v6 : Int} {J K : jZ} {P : Int → jZ → jZ → Prop} (h : (-2147483648 ≤ v4 ∧ v4 < 2147483648) ∧ (-2147483648 ≤ v5 ∧ v5 < 2147483648) ∧ (v4 ≤ v5 → l_248_112 xs L (d + 2) v1 v2 v3 v4 v5 v6 J K P) ∧ (v5 < v4 → l_248_112 xs L (d + 2) v1 v2 v3 v4 v4 v6 J K P)) : l_248_96 xs L (d + 2) v1 v2 v3 v4 v5 v6 J K P := by
  unfold l_248_96
  refine jw_iload rfl rfl ?_
  refine jw_iload rfl rfl ?_
  obtain ⟨o1, h⟩ := h
  obtain ⟨o2, h⟩ := h
  refine jw_ic_le rfl o1 o2 (fun c3 => ?_) (fun c3 => ?_)
  · replace h := h.1 c3
    refine jw_iload rfl rfl ?_
    refine jw_istore (ls' := [some (.ref 167), some (.int (Int32.ofInt v1)), some (.int (Int32.ofInt v2)), some (.int (Int32.ofInt v3)), some (.int (Int32.ofInt v4)), some (.int (Int32.ofInt v5)), some (.int (Int32.ofInt v6)), none]) rfl rfl ?_
    exact jz_fg (l := [some (.ref 167), some (.int (Int32.ofInt v1)), some (.int (Int32.ofInt v2)), some (.int (Int32.ofInt v3)), some (.int (Int32.ofInt v4)), some (.int (Int32.ofInt v5)), some (.int (Int32.ofInt v6)), none]) ⟨rfl, rfl, rfl, rfl, rfl, rfl, rfl, jz_n0, trivial⟩ h
  · replace h := h.2 c3
    refine jw_iload rfl rfl ?_
    refine jw_goto rfl ?_
    refine jw_istore (ls' := [some (.ref 167), some (.int (Int32.ofInt v1)), some (.int (Int32.ofInt v2)), some (.int (Int32.ofInt v3)), some (.int (Int32.ofInt v4)), some (.int (Int32.ofInt v4)), some (.int (Int32.ofInt v6)), none]) rfl rfl ?_
    exact jz_fg (l := [some (.ref 167), some (.int (Int32.ofInt v1)), some (.int (Int32.ofInt v2)), some (.int (Int32.ofInt v3)), some (.int (Int32.ofInt v4)), some (.int (Int32.ofInt v4)), some (.int (Int32.ofInt v6)), none]) ⟨rfl, rfl, rfl, rfl, rfl, rfl, rfl, jz_n0, trivial⟩ h
set_option maxHeartbeats 4000000 in
theorem e_248_112 {xs : Nat → Int32} {L d : Nat} {v1 : Int} {v2 : Int} {v3 : Int} {v4 : Int} {v5 : Int} {v6 : Int} {J K : jZ} {P : Int → jZ → jZ → Prop} (h : l_248_42 xs L (d + 2) v1 v2 v3 v4 v5 (v6 + 1) J K P) : l_248_112 xs L (d + 2) v1 v2 v3 v4 v5 v6 J K P := by
  unfold l_248_112
  refine jw_iinc (ls' := [some (.ref 167), some (.int (Int32.ofInt v1)), some (.int (Int32.ofInt v2)), some (.int (Int32.ofInt v3)), some (.int (Int32.ofInt v4)), some (.int (Int32.ofInt v5)), some (.int (Int32.ofInt (v6 + 1))), none]) rfl rfl rfl ?_
  refine jw_goto rfl ?_
  exact jz_fg (l := [some (.ref 167), some (.int (Int32.ofInt v1)), some (.int (Int32.ofInt v2)), some (.int (Int32.ofInt v3)), some (.int (Int32.ofInt v4)), some (.int (Int32.ofInt v5)), some (.int (Int32.ofInt (v6 + 1))), none]) ⟨rfl, rfl, rfl, rfl, rfl, rfl, rfl, jz_n0, trivial⟩ h
set_option maxHeartbeats 4000000 in
theorem e_249 {xs : Nat → Int32} {L d : Nat} {v1 : Int} {v2 : Int} {J K : jZ} {P : Int → jZ → jZ → Prop} (h : (-2147483648 ≤ v1 ∧ v1 < 2147483648) ∧ (-2147483648 ≤ ((J 167 10) - 1) ∧ ((J 167 10) - 1) < 2147483648) ∧ (((0 : Int) ≤ v1 ∧ v1 < (J 167 10)) → (-2147483648 ≤ v2 ∧ v2 < 2147483648) ∧ ((0 ≤ v2 ∧ v2 ≤ 2) → q_181 xs L (d + 2) J K (fun J6 K7 => l_249_36 xs L (d + 2) v1 v2 0 0 J6 K7 P)) ∧ (¬ (0 ≤ v2 ∧ v2 ≤ 2) → q_170 xs L (d + 2) (-2) J K (fun r10 J8 K9 => P r10 J8 K9))) ∧ (¬ ((0 : Int) ≤ v1 ∧ v1 < (J 167 10)) → q_170 xs L (d + 2) (-2) J K (fun r13 J11 K12 => P r13 J11 K12))) : q_249 xs L (d + 3) v1 v2 J K P := by
  unfold q_249
  refine jq_in (ls := [some (.ref 167), some (.int (Int32.ofInt v1)), some (.int (Int32.ofInt v2)), none, none, none]) rfl (Nat.le_of_ble_eq_true rfl) rfl ?_
  refine jw_aload_n rfl rfl ?_
  refine jw_iload_n rfl rfl ?_
  refine jw_virt (k := 1) (c := 19) (as := [.int (Int32.ofInt v1)]) rfl rfl rfl (Nat.le_of_ble_eq_true rfl) rfl (Nat.le_of_ble_eq_true rfl) rfl rfl (jz_ci ?_)
  obtain ⟨o1, h⟩ := h
  obtain ⟨o2, h⟩ := h
  refine sb_178 o1 o2 (fun c3 => ?_) (fun c3 => ?_)
  · replace h := h.1 c3
    refine jw_if_eq rfl (by omega) (fun hc => by exfalso; omega) (fun _ => ?_)
    refine jw_iload_n rfl rfl ?_
    obtain ⟨o4, h⟩ := h
    refine jw_i2l rfl o4 ?_
    refine jw_lconst (x := 0) rfl rfl ?_
    refine jw_ldc2_w rfl ?_
    refine jw_stat (k := 3) (as := [.long (Int64.ofInt v2), .long (Int64.ofInt 0), .long (Int64.ofInt 2)]) rfl (by decide) rfl rfl (Nat.le_of_ble_eq_true rfl) rfl (Nat.le_of_ble_eq_true rfl) (jz_ci ?_)
    refine sb_169 (by omega) (by omega) (by omega) (fun c5 => ?_) (fun c5 => ?_)
    · replace h := h.1 c5
      refine jw_if_ne rfl (by omega) (fun _ => ?_) (fun hc => by exfalso; omega)
      refine jw_aload_n rfl rfl ?_
      refine jw_virt (k := 0) (c := 19) (as := []) rfl rfl rfl (Nat.le_of_ble_eq_true rfl) rfl (Nat.le_of_ble_eq_true rfl) rfl rfl (jz_cv ?_)
      refine jm_Q.mono h (jp_v_mono (fun J6 K7 h => ?_))
      refine jw_iconst rfl ?_
      refine jw_istore_n (ls' := [some (.ref 167), some (.int (Int32.ofInt v1)), some (.int (Int32.ofInt v2)), some (.int (Int32.ofInt 0)), none, none]) rfl rfl ?_
      refine jw_iconst rfl ?_
      refine jw_istore (ls' := [some (.ref 167), some (.int (Int32.ofInt v1)), some (.int (Int32.ofInt v2)), some (.int (Int32.ofInt 0)), some (.int (Int32.ofInt 0)), none]) rfl rfl ?_
      exact jz_fg (l := [some (.ref 167), some (.int (Int32.ofInt v1)), some (.int (Int32.ofInt v2)), some (.int (Int32.ofInt 0)), some (.int (Int32.ofInt 0)), none]) ⟨rfl, rfl, rfl, rfl, rfl, jz_n0, trivial⟩ h
    · replace h := h.2 c5
      refine jw_if_ne rfl (by omega) (fun hc => by exfalso; omega) (fun _ => ?_)
      refine jw_aload_n rfl rfl ?_
      refine jw_bipush rfl (by decide) ?_
      refine jw_virt (k := 1) (c := 19) (as := [.int (Int32.ofInt (-2))]) rfl rfl rfl (Nat.le_of_ble_eq_true rfl) rfl (Nat.le_of_ble_eq_true rfl) rfl rfl (jz_ci ?_)
      refine jm_Q.mono h (jp_i_mono (fun r10 J8 K9 h => ?_))
      refine jw_iret rfl ?_
      exact h
  · replace h := h.2 c3
    refine jw_if_eq rfl (by omega) (fun _ => ?_) (fun hc => by exfalso; omega)
    refine jw_aload_n rfl rfl ?_
    refine jw_bipush rfl (by decide) ?_
    refine jw_virt (k := 1) (c := 19) (as := [.int (Int32.ofInt (-2))]) rfl rfl rfl (Nat.le_of_ble_eq_true rfl) rfl (Nat.le_of_ble_eq_true rfl) rfl rfl (jz_ci ?_)
    refine jm_Q.mono h (jp_i_mono (fun r13 J11 K12 h => ?_))
    refine jw_iret rfl ?_
    exact h
set_option maxHeartbeats 4000000 in
theorem e_249_36 {xs : Nat → Int32} {L d : Nat} {v1 : Int} {v2 : Int} {v3 : Int} {v4 : Int} {J K : jZ} {P : Int → jZ → jZ → Prop} (h : ((0 : Int) ≤ v1 ∧ v1 < 27) ∧ (-2147483648 ≤ v4 ∧ v4 < 2147483648) ∧ (-2147483648 ≤ J 195 v1.toNat ∧ J 195 v1.toNat < 2147483648) ∧ ((J 195 v1.toNat) ≤ v4 → P v3 J K) ∧ (v4 < (J 195 v1.toNat) → ((0 : Int) ≤ ((v1 * 60) + v4) ∧ ((v1 * 60) + v4) < 1620) ∧ (-2147483648 ≤ v2 ∧ v2 < 2147483648) ∧ (¬ v2 = 2 → (v4 = 0 → l_249_92 xs L (d + 2) v1 v2 v4 (((J 197 ((v1 * 60) + v4).toNat) - (J 196 ((v1 * 60) + v4).toNat)) + 1) J K P) ∧ (¬ v4 = 0 → (¬ v2 = 0 → (-2147483648 ≤ (((J 197 ((v1 * 60) + v4).toNat) - (J 196 ((v1 * 60) + v4).toNat)) + 1) ∧ (((J 197 ((v1 * 60) + v4).toNat) - (J 196 ((v1 * 60) + v4).toNat)) + 1) < 2147483648) ∧ (-2147483648 ≤ v3 ∧ v3 < 2147483648) ∧ ((((J 197 ((v1 * 60) + v4).toNat) - (J 196 ((v1 * 60) + v4).toNat)) + 1) ≤ v3 → l_249_97 xs L (d + 2) v1 v2 v3 v4 J K P) ∧ (v3 < (((J 197 ((v1 * 60) + v4).toNat) - (J 196 ((v1 * 60) + v4).toNat)) + 1) → l_249_92 xs L (d + 2) v1 v2 v4 (((J 197 ((v1 * 60) + v4).toNat) - (J 196 ((v1 * 60) + v4).toNat)) + 1) J K P)) ∧ (v2 = 0 → (-2147483648 ≤ (((J 197 ((v1 * 60) + v4).toNat) - (J 196 ((v1 * 60) + v4).toNat)) + 1) ∧ (((J 197 ((v1 * 60) + v4).toNat) - (J 196 ((v1 * 60) + v4).toNat)) + 1) < 2147483648) ∧ (-2147483648 ≤ v3 ∧ v3 < 2147483648) ∧ (v3 ≤ (((J 197 ((v1 * 60) + v4).toNat) - (J 196 ((v1 * 60) + v4).toNat)) + 1) → l_249_97 xs L (d + 2) v1 v2 v3 v4 J K P) ∧ ((((J 197 ((v1 * 60) + v4).toNat) - (J 196 ((v1 * 60) + v4).toNat)) + 1) < v3 → l_249_92 xs L (d + 2) v1 v2 v4 (((J 197 ((v1 * 60) + v4).toNat) - (J 196 ((v1 * 60) + v4).toNat)) + 1) J K P)))) ∧ (v2 = 2 → l_249_99 xs L (d + 2) v1 v2 (v3 + (((J 197 ((v1 * 60) + v4).toNat) - (J 196 ((v1 * 60) + v4).toNat)) + 1)) v4 J K P))) : l_249_36 xs L (d + 2) v1 v2 v3 v4 J K P := by
  unfold l_249_36
  refine jw_iload rfl rfl ?_
  refine jw_aload_n rfl rfl ?_
  refine jw_gr (q := 195) rfl rfl rfl ?_
  refine jw_iload_n rfl rfl ?_
  obtain ⟨o1, h⟩ := h
  refine jw_iald (v := (J 195 v1.toNat)) (N := 27) rfl rfl rfl (by omega) o1 rfl ?_
  obtain ⟨o2, h⟩ := h
  obtain ⟨o3, h⟩ := h
  refine jw_ic_ge rfl o2 o3 (fun c4 => ?_) (fun c4 => ?_)
  · replace h := h.1 c4
    refine jw_iload_n rfl rfl ?_
    refine jw_iret rfl ?_
    exact h
  · replace h := h.2 c4
    refine jw_aload_n rfl rfl ?_
    refine jw_iload_n rfl rfl ?_
    refine jw_iload rfl rfl ?_
    refine jw_virt (k := 2) (c := 19) (as := [.int (Int32.ofInt v1), .int (Int32.ofInt v4)]) rfl rfl rfl (Nat.le_of_ble_eq_true rfl) rfl (Nat.le_of_ble_eq_true rfl) rfl rfl (jz_ci ?_)
    refine jq_in (ls := [some (.ref 167), some (.int (Int32.ofInt v1)), some (.int (Int32.ofInt v4))]) rfl (Nat.le_of_ble_eq_true rfl) rfl ?_
    refine jw_aload_n rfl rfl ?_
    refine jw_iload_n rfl rfl ?_
    refine jw_iload_n rfl rfl ?_
    refine jw_virt (k := 2) (c := 19) (as := [.int (Int32.ofInt v1), .int (Int32.ofInt v4)]) rfl rfl rfl (Nat.le_of_ble_eq_true rfl) rfl (Nat.le_of_ble_eq_true rfl) rfl rfl (jz_ci ?_)
    refine jq_in (ls := [some (.ref 167), some (.int (Int32.ofInt v1)), some (.int (Int32.ofInt v4))]) rfl (Nat.le_of_ble_eq_true rfl) rfl ?_
    refine jw_aload_n rfl rfl ?_
    refine jw_gr (q := 197) rfl rfl rfl ?_
    refine jw_iload_n rfl rfl ?_
    refine jw_bipush rfl (by decide) ?_
    refine jw_imul rfl ?_
    refine jw_iload_n rfl rfl ?_
    refine jw_iadd rfl ?_
    obtain ⟨o5, h⟩ := h
    refine jw_iald (v := (J 197 ((v1 * 60) + v4).toNat)) (N := 1620) rfl rfl rfl (by omega) o5 rfl ?_
    refine jw_iret rfl ?_
    refine jw_aload_n rfl rfl ?_
    refine jw_iload_n rfl rfl ?_
    refine jw_iload_n rfl rfl ?_
    refine jw_virt (k := 2) (c := 19) (as := [.int (Int32.ofInt v1), .int (Int32.ofInt v4)]) rfl rfl rfl (Nat.le_of_ble_eq_true rfl) rfl (Nat.le_of_ble_eq_true rfl) rfl rfl (jz_ci ?_)
    refine jq_in (ls := [some (.ref 167), some (.int (Int32.ofInt v1)), some (.int (Int32.ofInt v4))]) rfl (Nat.le_of_ble_eq_true rfl) rfl ?_
    refine jw_aload_n rfl rfl ?_
    refine jw_gr (q := 196) rfl rfl rfl ?_
    refine jw_iload_n rfl rfl ?_
    refine jw_bipush rfl (by decide) ?_
    refine jw_imul rfl ?_
    refine jw_iload_n rfl rfl ?_
    refine jw_iadd rfl ?_
    refine jw_iald (v := (J 196 ((v1 * 60) + v4).toNat)) (N := 1620) rfl rfl rfl (by omega) o5 rfl ?_
    refine jw_iret rfl ?_
    refine jw_isub rfl ?_
    refine jw_iconst rfl ?_
    refine jw_iadd rfl ?_
    refine jw_iret rfl ?_
    refine jw_istore (ls' := [some (.ref 167), some (.int (Int32.ofInt v1)), some (.int (Int32.ofInt v2)), some (.int (Int32.ofInt v3)), some (.int (Int32.ofInt v4)), some (.int (Int32.ofInt (((J 197 ((v1 * 60) + v4).toNat) - (J 196 ((v1 * 60) + v4).toNat)) + 1)))]) rfl rfl ?_
    refine jw_iload_n rfl rfl ?_
    refine jw_iconst rfl ?_
    obtain ⟨o6, h⟩ := h
    refine jw_ic_ne rfl o6 (by omega) (fun c7 => ?_) (fun c7 => ?_)
    · replace h := h.1 c7
      refine jw_iload rfl rfl ?_
      refine jw_if_eq rfl o2 (fun c8 => ?_) (fun c8 => ?_)
      · replace h := h.1 c8
        exact jz_fg (l := [some (.ref 167), some (.int (Int32.ofInt v1)), some (.int (Int32.ofInt v2)), none, some (.int (Int32.ofInt v4)), some (.int (Int32.ofInt (((J 197 ((v1 * 60) + v4).toNat) - (J 196 ((v1 * 60) + v4).toNat)) + 1)))]) ⟨rfl, rfl, rfl, jz_ni, rfl, rfl, trivial⟩ h
      · replace h := h.2 c8
        refine jw_iload_n rfl rfl ?_
        refine jw_if_ne rfl o6 (fun c9 => ?_) (fun c9 => ?_)
        · replace h := h.1 c9
          refine jw_iload rfl rfl ?_
          refine jw_iload_n rfl rfl ?_
          obtain ⟨o10, h⟩ := h
          obtain ⟨o11, h⟩ := h
          refine jw_ic_le rfl o10 o11 (fun c12 => ?_) (fun c12 => ?_)
          · replace h := h.1 c12
            exact jz_fg (l := [some (.ref 167), some (.int (Int32.ofInt v1)), some (.int (Int32.ofInt v2)), some (.int (Int32.ofInt v3)), some (.int (Int32.ofInt v4)), none]) ⟨rfl, rfl, rfl, rfl, rfl, jz_ni, trivial⟩ h
          · replace h := h.2 c12
            exact jz_fg (l := [some (.ref 167), some (.int (Int32.ofInt v1)), some (.int (Int32.ofInt v2)), none, some (.int (Int32.ofInt v4)), some (.int (Int32.ofInt (((J 197 ((v1 * 60) + v4).toNat) - (J 196 ((v1 * 60) + v4).toNat)) + 1)))]) ⟨rfl, rfl, rfl, jz_ni, rfl, rfl, trivial⟩ h
        · replace h := h.2 c9
          refine jw_iload rfl rfl ?_
          refine jw_iload_n rfl rfl ?_
          obtain ⟨o13, h⟩ := h
          obtain ⟨o14, h⟩ := h
          refine jw_ic_ge rfl o13 o14 (fun c15 => ?_) (fun c15 => ?_)
          · replace h := h.1 c15
            exact jz_fg (l := [some (.ref 167), some (.int (Int32.ofInt v1)), some (.int (Int32.ofInt v2)), some (.int (Int32.ofInt v3)), some (.int (Int32.ofInt v4)), none]) ⟨rfl, rfl, rfl, rfl, rfl, jz_ni, trivial⟩ h
          · replace h := h.2 c15
            refine jw_goto rfl ?_
            exact jz_fg (l := [some (.ref 167), some (.int (Int32.ofInt v1)), some (.int (Int32.ofInt v2)), none, some (.int (Int32.ofInt v4)), some (.int (Int32.ofInt (((J 197 ((v1 * 60) + v4).toNat) - (J 196 ((v1 * 60) + v4).toNat)) + 1)))]) ⟨rfl, rfl, rfl, jz_ni, rfl, rfl, trivial⟩ h
    · replace h := h.2 c7
      refine jw_iload_n rfl rfl ?_
      refine jw_iload rfl rfl ?_
      refine jw_iadd rfl ?_
      refine jw_goto rfl ?_
      refine jw_istore_n (ls' := [some (.ref 167), some (.int (Int32.ofInt v1)), some (.int (Int32.ofInt v2)), some (.int (Int32.ofInt (v3 + (((J 197 ((v1 * 60) + v4).toNat) - (J 196 ((v1 * 60) + v4).toNat)) + 1)))), some (.int (Int32.ofInt v4)), some (.int (Int32.ofInt (((J 197 ((v1 * 60) + v4).toNat) - (J 196 ((v1 * 60) + v4).toNat)) + 1)))]) rfl rfl ?_
      exact jz_fg (l := [some (.ref 167), some (.int (Int32.ofInt v1)), some (.int (Int32.ofInt v2)), some (.int (Int32.ofInt (v3 + (((J 197 ((v1 * 60) + v4).toNat) - (J 196 ((v1 * 60) + v4).toNat)) + 1)))), some (.int (Int32.ofInt v4)), none]) ⟨rfl, rfl, rfl, rfl, rfl, jz_ni, trivial⟩ h
set_option maxHeartbeats 4000000 in
theorem e_249_92 {xs : Nat → Int32} {L d : Nat} {v1 : Int} {v2 : Int} {v4 : Int} {v5 : Int} {J K : jZ} {P : Int → jZ → jZ → Prop} (h : l_249_99 xs L (d + 2) v1 v2 v5 v4 J K P) : l_249_92 xs L (d + 2) v1 v2 v4 v5 J K P := by
  unfold l_249_92
  refine jw_iload rfl rfl ?_
  refine jw_goto rfl ?_
  refine jw_istore_n (ls' := [some (.ref 167), some (.int (Int32.ofInt v1)), some (.int (Int32.ofInt v2)), some (.int (Int32.ofInt v5)), some (.int (Int32.ofInt v4)), some (.int (Int32.ofInt v5))]) rfl rfl ?_
  exact jz_fg (l := [some (.ref 167), some (.int (Int32.ofInt v1)), some (.int (Int32.ofInt v2)), some (.int (Int32.ofInt v5)), some (.int (Int32.ofInt v4)), none]) ⟨rfl, rfl, rfl, rfl, rfl, jz_ni, trivial⟩ h
set_option maxHeartbeats 4000000 in
theorem e_249_97 {xs : Nat → Int32} {L d : Nat} {v1 : Int} {v2 : Int} {v3 : Int} {v4 : Int} {J K : jZ} {P : Int → jZ → jZ → Prop} (h : l_249_99 xs L (d + 2) v1 v2 v3 v4 J K P) : l_249_97 xs L (d + 2) v1 v2 v3 v4 J K P := by
  unfold l_249_97
  refine jw_iload_n rfl rfl ?_
  refine jw_istore_n (ls' := [some (.ref 167), some (.int (Int32.ofInt v1)), some (.int (Int32.ofInt v2)), some (.int (Int32.ofInt v3)), some (.int (Int32.ofInt v4)), none]) rfl rfl ?_
  exact jz_fg (l := [some (.ref 167), some (.int (Int32.ofInt v1)), some (.int (Int32.ofInt v2)), some (.int (Int32.ofInt v3)), some (.int (Int32.ofInt v4)), none]) ⟨rfl, rfl, rfl, rfl, rfl, jz_n0, trivial⟩ h
set_option maxHeartbeats 4000000 in
theorem e_249_99 {xs : Nat → Int32} {L d : Nat} {v1 : Int} {v2 : Int} {v3 : Int} {v4 : Int} {J K : jZ} {P : Int → jZ → jZ → Prop} (h : l_249_36 xs L (d + 2) v1 v2 v3 (v4 + 1) J K P) : l_249_99 xs L (d + 2) v1 v2 v3 v4 J K P := by
  unfold l_249_99
  refine jw_iinc (ls' := [some (.ref 167), some (.int (Int32.ofInt v1)), some (.int (Int32.ofInt v2)), some (.int (Int32.ofInt v3)), some (.int (Int32.ofInt (v4 + 1))), none]) rfl rfl rfl ?_
  refine jw_goto rfl ?_
  exact jz_fg (l := [some (.ref 167), some (.int (Int32.ofInt v1)), some (.int (Int32.ofInt v2)), some (.int (Int32.ofInt v3)), some (.int (Int32.ofInt (v4 + 1))), none]) ⟨rfl, rfl, rfl, rfl, rfl, jz_n0, trivial⟩ h
