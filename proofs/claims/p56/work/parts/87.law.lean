/-! The methods of the law walked. -/
theorem jw_ic_same {xs : Nat → Int32} {L d mi pc n a b : Nat} {z o : Int} {ls : jm_L} {st : List Value} {H : jm_H} {P : Option Value → jm_H → Prop} {x : Int32} (ht : jm_tab mi pc = some (.if_icmp .eq o, n, a, b, z)) (h : jm_W xs L d mi a ls st H P) : jm_W xs L d mi pc ls (.int x :: .int x :: st) H P :=
  jz_b2 (pc' := 0) (c := True) (c' := False) ht rfl ⟨fun _ => trivial, fun _ => rfl⟩ ⟨fun q => q trivial, fun q => q.elim⟩ (fun _ => h) (fun q => q.elim)
set_option maxHeartbeats 4000000 in
theorem e_167 {xs : Nat → Int32} {L d : Nat} {v1 : Int} {J K : jZ} {P : Int → jZ → jZ → Prop} (hL : L < 2147483648) (h : (-2147483648 ≤ (L : Int) ∧ (L : Int) < 2147483648) ∧ (¬ (L : Int) = 0 → (0 ≤ (jz_rem (jz_and v1 65535) (L : Int)) ∧ (jz_rem (jz_and v1 65535) (L : Int)) < (L : Int)) ∧ P ((xs (jz_rem (jz_and v1 65535) (L : Int)).toNat).toInt) J K) ∧ ((L : Int) = 0 → P (367 * v1) J K)) : q_167 xs L (d + 2) v1 J K P := by
  unfold q_167
  refine jq_in (ls := [some (.retAddr 0), some (.int (Int32.ofInt v1))]) rfl (Nat.le_of_ble_eq_true rfl) rfl ?_
  refine jw_aload_s rfl rfl ?_
  refine jw_slen rfl hL ?_
  obtain ⟨o1, h⟩ := h
  refine jw_if_ne rfl o1 (fun c2 => ?_) (fun c2 => ?_)
  · replace h := h.1 c2
    refine jw_aload_s rfl rfl ?_
    refine jw_iload_n rfl rfl ?_
    refine jw_ldc rfl ?_
    refine jw_iand rfl ?_
    refine jw_aload_s rfl rfl ?_
    refine jw_slen rfl hL ?_
    refine jw_irem rfl o1 c2 ?_
    obtain ⟨o3, h⟩ := h
    refine jw_sld rfl hL o3 ?_
    refine jw_iret rfl ?_
    exact h
  · replace h := h.2 c2
    refine jw_sipush rfl (by decide) ?_
    refine jw_iload_n rfl rfl ?_
    refine jw_imul rfl ?_
    refine jw_goto rfl ?_
    refine jw_iret rfl ?_
    exact h
set_option maxHeartbeats 4000000 in
theorem e_168 {xs : Nat → Int32} {L d : Nat} {v2 : Int} {J K : jZ} {P : jZ → jZ → Prop} (h : q_167 xs L (d + 7) v2 J K (fun r3 J1 K2 => ((jz_and r3 15) = 0 → q_56 xs L (d + 7) (jz_and (jz_and (jz_shr r3 4) 65535) 3) J1 K2 (fun r8 J6 K7 => P J6 K7)) ∧ (¬ (jz_and r3 15) = 0 → ((jz_and r3 15) = 1 → q_56 xs L (d + 7) (jz_and (jz_and (jz_shr r3 4) 65535) 3) J1 K2 (fun r12 J10 K11 => P J10 K11)) ∧ (¬ (jz_and r3 15) = 1 → ((jz_and r3 15) = 2 → q_56 xs L (d + 7) (jz_and (jz_and (jz_shr r3 4) 65535) 3) J1 K2 (fun r16 J14 K15 => P J14 K15)) ∧ (¬ (jz_and r3 15) = 2 → ((jz_and r3 15) = 3 → q_60 xs L (d + 7) (1 + (jz_and (jz_and (jz_shr r3 4) 65535) 1)) J1 K2 (fun r20 J18 K19 => P J18 K19)) ∧ (¬ (jz_and r3 15) = 3 → ((jz_and r3 15) = 4 → q_97 xs L (d + 7) (jz_and (jz_and (jz_shr r3 4) 65535) 3) J1 K2 (fun r24 J22 K23 => P J22 K23)) ∧ (¬ (jz_and r3 15) = 4 → ((jz_and r3 15) = 5 → q_102 xs L (d + 7) (2 + (jz_rem (jz_and (jz_and (jz_shr r3 4) 65535) 7) 7)) (jz_and (jz_shr (jz_and (jz_shr r3 4) 65535) 3) 15) (jz_and (jz_shr (jz_and (jz_shr r3 4) 65535) 7) 15) J1 K2 (fun r28 J26 K27 => P J26 K27)) ∧ (¬ (jz_and r3 15) = 5 → ((jz_and r3 15) = 6 → q_102 xs L (d + 7) (2 + (jz_rem (jz_and (jz_and (jz_shr r3 4) 65535) 7) 7)) (jz_and (jz_shr (jz_and (jz_shr r3 4) 65535) 3) 15) (jz_and (jz_shr (jz_and (jz_shr r3 4) 65535) 7) 15) J1 K2 (fun r32 J30 K31 => P J30 K31)) ∧ (¬ (jz_and r3 15) = 6 → ((jz_and r3 15) = 7 → q_104 xs L (d + 7) (jz_rem (jz_and (jz_and (jz_shr r3 4) 65535) 3) 3) J1 K2 (fun r36 J34 K35 => P J34 K35)) ∧ (¬ (jz_and r3 15) = 7 → ((jz_and r3 15) = 8 → q_105 xs L (d + 7) (jz_and (jz_and (jz_shr r3 4) 65535) 15) (1 + (jz_and (jz_shr (jz_and (jz_shr r3 4) 65535) 4) 7)) J1 K2 (fun r40 J38 K39 => P J38 K39)) ∧ (¬ (jz_and r3 15) = 8 → ((jz_and r3 15) = 9 → q_106 xs L (d + 7) (1 + (jz_rem (jz_and (jz_and (jz_shr r3 4) 65535) 3) 3)) (jz_and (jz_shr (jz_and (jz_shr r3 4) 65535) 2) 7) (jz_and (jz_shr (jz_and (jz_shr r3 4) 65535) 5) 7) (jz_and (jz_shr (jz_and (jz_shr r3 4) 65535) 8) 7) J1 K2 (fun r44 J42 K43 => P J42 K43)) ∧ (¬ (jz_and r3 15) = 9 → ((jz_and r3 15) = 10 → q_65 xs L (d + 7) (jz_and (jz_and (jz_shr r3 4) 65535) 3) (jz_and (jz_shr (jz_and (jz_shr r3 4) 65535) 2) 3) (jz_and (jz_shr (jz_and (jz_shr r3 4) 65535) 4) 1) J1 K2 (fun r48 J46 K47 => P J46 K47)) ∧ (¬ (jz_and r3 15) = 10 → ((jz_and r3 15) = 11 → q_63 xs L (d + 7) (jz_and (jz_and (jz_shr r3 4) 65535) 31) (jz_and (jz_shr (jz_and (jz_shr r3 4) 65535) 5) 3) J1 K2 (fun r52 J50 K51 => P J50 K51)) ∧ (¬ (jz_and r3 15) = 11 → ((jz_and r3 15) = 12 → q_153 xs L (d + 7) (1 + (jz_and (jz_and (jz_shr r3 4) 65535) 7)) J1 K2 (fun r56 J54 K55 => P J54 K55)) ∧ (¬ (jz_and r3 15) = 12 → ((jz_and r3 15) = 13 → q_66 xs L (d + 7) (97 + (jz_and (jz_and (jz_shr r3 4) 65535) 3)) J1 K2 (fun r60 J58 K59 => ((0 : Int) ≤ (jz_rem (jz_and (jz_shr (jz_and (jz_shr r3 4) 65535) 2) 15) 7) ∧ (jz_rem (jz_and (jz_shr (jz_and (jz_shr r3 4) 65535) 2) 15) 7) < 7) ∧ q_66 xs L (d + 7) (jz_ch (jz_rem (jz_and (jz_shr (jz_and (jz_shr r3 4) 65535) 2) 15) 7)) J58 K59 (fun r64 J62 K63 => q_66 xs L (d + 7) (97 + (jz_and (jz_shr (jz_and (jz_shr r3 4) 65535) 6) 3)) J62 K63 (fun r67 J65 K66 => q_76 xs L (d + 7) J65 K66 (fun r70 J68 K69 => P J68 K69))))) ∧ (¬ (jz_and r3 15) = 13 → ((jz_and r3 15) = 14 → q_157 xs L (d + 7) J1 K2 (fun r74 J72 K73 => P J72 K73)) ∧ (¬ (jz_and r3 15) = 14 → (¬ (jz_and (jz_and (jz_shr r3 4) 65535) 3) = 0 → q_107 xs L (d + 7) J1 K2 (fun r78 J76 K77 => P J76 K77)) ∧ ((jz_and (jz_and (jz_shr r3 4) 65535) 3) = 0 → q_161 xs L (d + 7) J1 K2 (fun r81 J79 K80 => P J79 K80))))))))))))))))))) : q_168 xs L (d + 8) v2 J K P := by
  unfold q_168
  refine jq_in (ls := [some (.ref 0), some (.retAddr 0), some (.int (Int32.ofInt v2)), none, none]) rfl (Nat.le_of_ble_eq_true rfl) rfl ?_
  refine jw_aload_s rfl rfl ?_
  refine jw_iload_n rfl rfl ?_
  refine jw_stat (k := 2) (as := [.retAddr 0, .int (Int32.ofInt v2)]) rfl (by decide) rfl rfl (Nat.le_of_ble_eq_true rfl) rfl (Nat.le_of_ble_eq_true rfl) (jz_ci ?_)
  refine jm_Q.mono h (jp_i_mono (fun r3 J1 K2 h => ?_))
  refine jw_istore_n (ls' := [some (.ref 0), some (.retAddr 0), some (.int (Int32.ofInt v2)), some (.int (Int32.ofInt r3)), none]) rfl rfl ?_
  refine jw_iload_n rfl rfl ?_
  refine jw_iconst rfl ?_
  refine jw_ishr rfl ?_
  refine jw_ldc rfl ?_
  refine jw_iand rfl ?_
  refine jw_istore (ls' := [some (.ref 0), some (.retAddr 0), some (.int (Int32.ofInt v2)), some (.int (Int32.ofInt r3)), some (.int (Int32.ofInt (jz_and (jz_shr r3 4) 65535)))]) rfl rfl ?_
  refine jw_iload_n rfl rfl ?_
  refine jw_bipush rfl (by decide) ?_
  refine jw_iand rfl ?_
  by_cases c5 : (jz_and r3 15) = 0
  · replace h := h.1 c5
    refine jw_tab_in (pc2 := 92) (v := 0) (o := 74) rfl jz_and_r c5 (by omega) rfl (by omega) ?_
    refine jw_aload_n rfl rfl ?_
    refine jw_iload rfl rfl ?_
    refine jw_iconst rfl ?_
    refine jw_iand rfl ?_
    refine jw_virt (k := 1) (c := 18) (as := [.int (Int32.ofInt (jz_and (jz_and (jz_shr r3 4) 65535) 3))]) rfl rfl rfl (Nat.le_of_ble_eq_true rfl) rfl (Nat.le_of_ble_eq_true rfl) rfl rfl (jz_ci ?_)
    refine jm_Q.mono h (jp_i_mono (fun r8 J6 K7 h => ?_))
    refine jw_pop_i rfl ?_
    refine jw_goto rfl ?_
    refine jw_vret rfl ?_
    exact h
  · replace h := h.2 c5
    by_cases c9 : (jz_and r3 15) = 1
    · replace h := h.1 c9
      refine jw_tab_in (pc2 := 92) (v := 1) (o := 74) rfl jz_and_r c9 (by omega) rfl (by omega) ?_
      refine jw_aload_n rfl rfl ?_
      refine jw_iload rfl rfl ?_
      refine jw_iconst rfl ?_
      refine jw_iand rfl ?_
      refine jw_virt (k := 1) (c := 18) (as := [.int (Int32.ofInt (jz_and (jz_and (jz_shr r3 4) 65535) 3))]) rfl rfl rfl (Nat.le_of_ble_eq_true rfl) rfl (Nat.le_of_ble_eq_true rfl) rfl rfl (jz_ci ?_)
      refine jm_Q.mono h (jp_i_mono (fun r12 J10 K11 h => ?_))
      refine jw_pop_i rfl ?_
      refine jw_goto rfl ?_
      refine jw_vret rfl ?_
      exact h
    · replace h := h.2 c9
      by_cases c13 : (jz_and r3 15) = 2
      · replace h := h.1 c13
        refine jw_tab_in (pc2 := 92) (v := 2) (o := 74) rfl jz_and_r c13 (by omega) rfl (by omega) ?_
        refine jw_aload_n rfl rfl ?_
        refine jw_iload rfl rfl ?_
        refine jw_iconst rfl ?_
        refine jw_iand rfl ?_
        refine jw_virt (k := 1) (c := 18) (as := [.int (Int32.ofInt (jz_and (jz_and (jz_shr r3 4) 65535) 3))]) rfl rfl rfl (Nat.le_of_ble_eq_true rfl) rfl (Nat.le_of_ble_eq_true rfl) rfl rfl (jz_ci ?_)
        refine jm_Q.mono h (jp_i_mono (fun r16 J14 K15 h => ?_))
        refine jw_pop_i rfl ?_
        refine jw_goto rfl ?_
        refine jw_vret rfl ?_
        exact h
      · replace h := h.2 c13
        by_cases c17 : (jz_and r3 15) = 3
        · replace h := h.1 c17
          refine jw_tab_in (pc2 := 104) (v := 3) (o := 86) rfl jz_and_r c17 (by omega) rfl (by omega) ?_
          refine jw_aload_n rfl rfl ?_
          refine jw_iconst rfl ?_
          refine jw_iload rfl rfl ?_
          refine jw_iconst rfl ?_
          refine jw_iand rfl ?_
          refine jw_iadd rfl ?_
          refine jw_virt (k := 1) (c := 18) (as := [.int (Int32.ofInt (1 + (jz_and (jz_and (jz_shr r3 4) 65535) 1)))]) rfl rfl rfl (Nat.le_of_ble_eq_true rfl) rfl (Nat.le_of_ble_eq_true rfl) rfl rfl (jz_ci ?_)
          refine jm_Q.mono h (jp_i_mono (fun r20 J18 K19 h => ?_))
          refine jw_pop_i rfl ?_
          refine jw_goto rfl ?_
          refine jw_vret rfl ?_
          exact h
        · replace h := h.2 c17
          by_cases c21 : (jz_and r3 15) = 4
          · replace h := h.1 c21
            refine jw_tab_in (pc2 := 118) (v := 4) (o := 100) rfl jz_and_r c21 (by omega) rfl (by omega) ?_
            refine jw_aload_n rfl rfl ?_
            refine jw_iload rfl rfl ?_
            refine jw_iconst rfl ?_
            refine jw_iand rfl ?_
            refine jw_virt (k := 1) (c := 18) (as := [.int (Int32.ofInt (jz_and (jz_and (jz_shr r3 4) 65535) 3))]) rfl rfl rfl (Nat.le_of_ble_eq_true rfl) rfl (Nat.le_of_ble_eq_true rfl) rfl rfl (jz_ci ?_)
            refine jm_Q.mono h (jp_i_mono (fun r24 J22 K23 h => ?_))
            refine jw_pop_i rfl ?_
            refine jw_goto rfl ?_
            refine jw_vret rfl ?_
            exact h
          · replace h := h.2 c21
            by_cases c25 : (jz_and r3 15) = 5
            · replace h := h.1 c25
              refine jw_tab_in (pc2 := 130) (v := 5) (o := 112) rfl jz_and_r c25 (by omega) rfl (by omega) ?_
              refine jw_aload_n rfl rfl ?_
              refine jw_iconst rfl ?_
              refine jw_iload rfl rfl ?_
              refine jw_bipush rfl (by decide) ?_
              refine jw_iand rfl ?_
              refine jw_bipush rfl (by decide) ?_
              refine jw_irem rfl (by omega) (by omega) ?_
              refine jw_iadd rfl ?_
              refine jw_iload rfl rfl ?_
              refine jw_iconst rfl ?_
              refine jw_ishr rfl ?_
              refine jw_bipush rfl (by decide) ?_
              refine jw_iand rfl ?_
              refine jw_iload rfl rfl ?_
              refine jw_bipush rfl (by decide) ?_
              refine jw_ishr rfl ?_
              refine jw_bipush rfl (by decide) ?_
              refine jw_iand rfl ?_
              refine jw_virt (k := 3) (c := 18) (as := [.int (Int32.ofInt (2 + (jz_rem (jz_and (jz_and (jz_shr r3 4) 65535) 7) 7))), .int (Int32.ofInt (jz_and (jz_shr (jz_and (jz_shr r3 4) 65535) 3) 15)), .int (Int32.ofInt (jz_and (jz_shr (jz_and (jz_shr r3 4) 65535) 7) 15))]) rfl rfl rfl (Nat.le_of_ble_eq_true rfl) rfl (Nat.le_of_ble_eq_true rfl) rfl rfl (jz_ci ?_)
              refine jm_Q.mono h (jp_i_mono (fun r28 J26 K27 h => ?_))
              refine jw_pop_i rfl ?_
              refine jw_goto rfl ?_
              refine jw_vret rfl ?_
              exact h
            · replace h := h.2 c25
              by_cases c29 : (jz_and r3 15) = 6
              · replace h := h.1 c29
                refine jw_tab_in (pc2 := 130) (v := 6) (o := 112) rfl jz_and_r c29 (by omega) rfl (by omega) ?_
                refine jw_aload_n rfl rfl ?_
                refine jw_iconst rfl ?_
                refine jw_iload rfl rfl ?_
                refine jw_bipush rfl (by decide) ?_
                refine jw_iand rfl ?_
                refine jw_bipush rfl (by decide) ?_
                refine jw_irem rfl (by omega) (by omega) ?_
                refine jw_iadd rfl ?_
                refine jw_iload rfl rfl ?_
                refine jw_iconst rfl ?_
                refine jw_ishr rfl ?_
                refine jw_bipush rfl (by decide) ?_
                refine jw_iand rfl ?_
                refine jw_iload rfl rfl ?_
                refine jw_bipush rfl (by decide) ?_
                refine jw_ishr rfl ?_
                refine jw_bipush rfl (by decide) ?_
                refine jw_iand rfl ?_
                refine jw_virt (k := 3) (c := 18) (as := [.int (Int32.ofInt (2 + (jz_rem (jz_and (jz_and (jz_shr r3 4) 65535) 7) 7))), .int (Int32.ofInt (jz_and (jz_shr (jz_and (jz_shr r3 4) 65535) 3) 15)), .int (Int32.ofInt (jz_and (jz_shr (jz_and (jz_shr r3 4) 65535) 7) 15))]) rfl rfl rfl (Nat.le_of_ble_eq_true rfl) rfl (Nat.le_of_ble_eq_true rfl) rfl rfl (jz_ci ?_)
                refine jm_Q.mono h (jp_i_mono (fun r32 J30 K31 h => ?_))
                refine jw_pop_i rfl ?_
                refine jw_goto rfl ?_
                refine jw_vret rfl ?_
                exact h
              · replace h := h.2 c29
                by_cases c33 : (jz_and r3 15) = 7
                · replace h := h.1 c33
                  refine jw_tab_in (pc2 := 163) (v := 7) (o := 145) rfl jz_and_r c33 (by omega) rfl (by omega) ?_
                  refine jw_aload_n rfl rfl ?_
                  refine jw_iload rfl rfl ?_
                  refine jw_iconst rfl ?_
                  refine jw_iand rfl ?_
                  refine jw_iconst rfl ?_
                  refine jw_irem rfl (by omega) (by omega) ?_
                  refine jw_virt (k := 1) (c := 18) (as := [.int (Int32.ofInt (jz_rem (jz_and (jz_and (jz_shr r3 4) 65535) 3) 3))]) rfl rfl rfl (Nat.le_of_ble_eq_true rfl) rfl (Nat.le_of_ble_eq_true rfl) rfl rfl (jz_ci ?_)
                  refine jm_Q.mono h (jp_i_mono (fun r36 J34 K35 h => ?_))
                  refine jw_pop_i rfl ?_
                  refine jw_goto rfl ?_
                  refine jw_vret rfl ?_
                  exact h
                · replace h := h.2 c33
                  by_cases c37 : (jz_and r3 15) = 8
                  · replace h := h.1 c37
                    refine jw_tab_in (pc2 := 177) (v := 8) (o := 159) rfl jz_and_r c37 (by omega) rfl (by omega) ?_
                    refine jw_aload_n rfl rfl ?_
                    refine jw_iload rfl rfl ?_
                    refine jw_bipush rfl (by decide) ?_
                    refine jw_iand rfl ?_
                    refine jw_iconst rfl ?_
                    refine jw_iload rfl rfl ?_
                    refine jw_iconst rfl ?_
                    refine jw_ishr rfl ?_
                    refine jw_bipush rfl (by decide) ?_
                    refine jw_iand rfl ?_
                    refine jw_iadd rfl ?_
                    refine jw_virt (k := 2) (c := 18) (as := [.int (Int32.ofInt (jz_and (jz_and (jz_shr r3 4) 65535) 15)), .int (Int32.ofInt (1 + (jz_and (jz_shr (jz_and (jz_shr r3 4) 65535) 4) 7)))]) rfl rfl rfl (Nat.le_of_ble_eq_true rfl) rfl (Nat.le_of_ble_eq_true rfl) rfl rfl (jz_ci ?_)
                    refine jm_Q.mono h (jp_i_mono (fun r40 J38 K39 h => ?_))
                    refine jw_pop_i rfl ?_
                    refine jw_goto rfl ?_
                    refine jw_vret rfl ?_
                    exact h
                  · replace h := h.2 c37
                    by_cases c41 : (jz_and r3 15) = 9
                    · replace h := h.1 c41
                      refine jw_tab_in (pc2 := 199) (v := 9) (o := 181) rfl jz_and_r c41 (by omega) rfl (by omega) ?_
                      refine jw_aload_n rfl rfl ?_
                      refine jw_iconst rfl ?_
                      refine jw_iload rfl rfl ?_
                      refine jw_iconst rfl ?_
                      refine jw_iand rfl ?_
                      refine jw_iconst rfl ?_
                      refine jw_irem rfl (by omega) (by omega) ?_
                      refine jw_iadd rfl ?_
                      refine jw_iload rfl rfl ?_
                      refine jw_iconst rfl ?_
                      refine jw_ishr rfl ?_
                      refine jw_bipush rfl (by decide) ?_
                      refine jw_iand rfl ?_
                      refine jw_iload rfl rfl ?_
                      refine jw_iconst rfl ?_
                      refine jw_ishr rfl ?_
                      refine jw_bipush rfl (by decide) ?_
                      refine jw_iand rfl ?_
                      refine jw_iload rfl rfl ?_
                      refine jw_bipush rfl (by decide) ?_
                      refine jw_ishr rfl ?_
                      refine jw_bipush rfl (by decide) ?_
                      refine jw_iand rfl ?_
                      refine jw_virt (k := 4) (c := 18) (as := [.int (Int32.ofInt (1 + (jz_rem (jz_and (jz_and (jz_shr r3 4) 65535) 3) 3))), .int (Int32.ofInt (jz_and (jz_shr (jz_and (jz_shr r3 4) 65535) 2) 7)), .int (Int32.ofInt (jz_and (jz_shr (jz_and (jz_shr r3 4) 65535) 5) 7)), .int (Int32.ofInt (jz_and (jz_shr (jz_and (jz_shr r3 4) 65535) 8) 7))]) rfl rfl rfl (Nat.le_of_ble_eq_true rfl) rfl (Nat.le_of_ble_eq_true rfl) rfl rfl (jz_ci ?_)
                      refine jm_Q.mono h (jp_i_mono (fun r44 J42 K43 h => ?_))
                      refine jw_pop_i rfl ?_
                      refine jw_goto rfl ?_
                      refine jw_vret rfl ?_
                      exact h
                    · replace h := h.2 c41
                      by_cases c45 : (jz_and r3 15) = 10
                      · replace h := h.1 c45
                        refine jw_tab_in (pc2 := 237) (v := 10) (o := 219) rfl jz_and_r c45 (by omega) rfl (by omega) ?_
                        refine jw_aload_n rfl rfl ?_
                        refine jw_iload rfl rfl ?_
                        refine jw_iconst rfl ?_
                        refine jw_iand rfl ?_
                        refine jw_iload rfl rfl ?_
                        refine jw_iconst rfl ?_
                        refine jw_ishr rfl ?_
                        refine jw_iconst rfl ?_
                        refine jw_iand rfl ?_
                        refine jw_iload rfl rfl ?_
                        refine jw_iconst rfl ?_
                        refine jw_ishr rfl ?_
                        refine jw_iconst rfl ?_
                        refine jw_iand rfl ?_
                        refine jw_virt (k := 3) (c := 18) (as := [.int (Int32.ofInt (jz_and (jz_and (jz_shr r3 4) 65535) 3)), .int (Int32.ofInt (jz_and (jz_shr (jz_and (jz_shr r3 4) 65535) 2) 3)), .int (Int32.ofInt (jz_and (jz_shr (jz_and (jz_shr r3 4) 65535) 4) 1))]) rfl rfl rfl (Nat.le_of_ble_eq_true rfl) rfl (Nat.le_of_ble_eq_true rfl) rfl rfl (jz_ci ?_)
                        refine jm_Q.mono h (jp_i_mono (fun r48 J46 K47 h => ?_))
                        refine jw_pop_i rfl ?_
                        refine jw_goto rfl ?_
                        refine jw_vret rfl ?_
                        exact h
                      · replace h := h.2 c45
                        by_cases c49 : (jz_and r3 15) = 11
                        · replace h := h.1 c49
                          refine jw_tab_in (pc2 := 261) (v := 11) (o := 243) rfl jz_and_r c49 (by omega) rfl (by omega) ?_
                          refine jw_aload_n rfl rfl ?_
                          refine jw_iload rfl rfl ?_
                          refine jw_bipush rfl (by decide) ?_
                          refine jw_iand rfl ?_
                          refine jw_iload rfl rfl ?_
                          refine jw_iconst rfl ?_
                          refine jw_ishr rfl ?_
                          refine jw_iconst rfl ?_
                          refine jw_iand rfl ?_
                          refine jw_virt (k := 2) (c := 18) (as := [.int (Int32.ofInt (jz_and (jz_and (jz_shr r3 4) 65535) 31)), .int (Int32.ofInt (jz_and (jz_shr (jz_and (jz_shr r3 4) 65535) 5) 3))]) rfl rfl rfl (Nat.le_of_ble_eq_true rfl) rfl (Nat.le_of_ble_eq_true rfl) rfl rfl (jz_ci ?_)
                          refine jm_Q.mono h (jp_i_mono (fun r52 J50 K51 h => ?_))
                          refine jw_pop_i rfl ?_
                          refine jw_goto rfl ?_
                          refine jw_vret rfl ?_
                          exact h
                        · replace h := h.2 c49
                          by_cases c53 : (jz_and r3 15) = 12
                          · replace h := h.1 c53
                            refine jw_tab_in (pc2 := 280) (v := 12) (o := 262) rfl jz_and_r c53 (by omega) rfl (by omega) ?_
                            refine jw_aload_n rfl rfl ?_
                            refine jw_iconst rfl ?_
                            refine jw_iload rfl rfl ?_
                            refine jw_bipush rfl (by decide) ?_
                            refine jw_iand rfl ?_
                            refine jw_iadd rfl ?_
                            refine jw_virt (k := 1) (c := 18) (as := [.int (Int32.ofInt (1 + (jz_and (jz_and (jz_shr r3 4) 65535) 7)))]) rfl rfl rfl (Nat.le_of_ble_eq_true rfl) rfl (Nat.le_of_ble_eq_true rfl) rfl rfl (jz_ci ?_)
                            refine jm_Q.mono h (jp_i_mono (fun r56 J54 K55 h => ?_))
                            refine jw_pop_i rfl ?_
                            refine jw_goto rfl ?_
                            refine jw_vret rfl ?_
                            exact h
                          · replace h := h.2 c53
                            by_cases c57 : (jz_and r3 15) = 13
                            · replace h := h.1 c57
                              refine jw_tab_in (pc2 := 295) (v := 13) (o := 277) rfl jz_and_r c57 (by omega) rfl (by omega) ?_
                              refine jw_aload_n rfl rfl ?_
                              refine jw_bipush rfl (by decide) ?_
                              refine jw_iload rfl rfl ?_
                              refine jw_iconst rfl ?_
                              refine jw_iand rfl ?_
                              refine jw_iadd rfl ?_
                              refine jw_virt (k := 1) (c := 18) (as := [.int (Int32.ofInt (97 + (jz_and (jz_and (jz_shr r3 4) 65535) 3)))]) rfl rfl rfl (Nat.le_of_ble_eq_true rfl) rfl (Nat.le_of_ble_eq_true rfl) rfl rfl (jz_ci ?_)
                              refine jm_Q.mono h (jp_i_mono (fun r60 J58 K59 h => ?_))
                              refine jw_pop_i rfl ?_
                              refine jw_aload_n rfl rfl ?_
                              refine jw_ldcs rfl ?_
                              refine jw_iload rfl rfl ?_
                              refine jw_iconst rfl ?_
                              refine jw_ishr rfl ?_
                              refine jw_bipush rfl (by decide) ?_
                              refine jw_iand rfl ?_
                              refine jw_bipush rfl (by decide) ?_
                              refine jw_irem rfl (by omega) (by omega) ?_
                              obtain ⟨o61, h⟩ := h
                              refine jw_cha rfl (by omega) o61 (Nat.le_of_ble_eq_true rfl) ?_
                              refine jw_virt (k := 1) (c := 18) (as := [.int (Int32.ofInt (jz_ch (jz_rem (jz_and (jz_shr (jz_and (jz_shr r3 4) 65535) 2) 15) 7)))]) rfl rfl rfl (Nat.le_of_ble_eq_true rfl) rfl (Nat.le_of_ble_eq_true rfl) rfl rfl (jz_ci ?_)
                              refine jm_Q.mono h (jp_i_mono (fun r64 J62 K63 h => ?_))
                              refine jw_pop_i rfl ?_
                              refine jw_aload_n rfl rfl ?_
                              refine jw_bipush rfl (by decide) ?_
                              refine jw_iload rfl rfl ?_
                              refine jw_bipush rfl (by decide) ?_
                              refine jw_ishr rfl ?_
                              refine jw_iconst rfl ?_
                              refine jw_iand rfl ?_
                              refine jw_iadd rfl ?_
                              refine jw_virt (k := 1) (c := 18) (as := [.int (Int32.ofInt (97 + (jz_and (jz_shr (jz_and (jz_shr r3 4) 65535) 6) 3)))]) rfl rfl rfl (Nat.le_of_ble_eq_true rfl) rfl (Nat.le_of_ble_eq_true rfl) rfl rfl (jz_ci ?_)
                              refine jm_Q.mono h (jp_i_mono (fun r67 J65 K66 h => ?_))
                              refine jw_pop_i rfl ?_
                              refine jw_aload_n rfl rfl ?_
                              refine jw_virt (k := 0) (c := 18) (as := []) rfl rfl rfl (Nat.le_of_ble_eq_true rfl) rfl (Nat.le_of_ble_eq_true rfl) rfl rfl (jz_ci ?_)
                              refine jm_Q.mono h (jp_i_mono (fun r70 J68 K69 h => ?_))
                              refine jw_pop_i rfl ?_
                              refine jw_goto rfl ?_
                              refine jw_vret rfl ?_
                              exact h
                            · replace h := h.2 c57
                              by_cases c71 : (jz_and r3 15) = 14
                              · replace h := h.1 c71
                                refine jw_tab_in (pc2 := 350) (v := 14) (o := 332) rfl jz_and_r c71 (by omega) rfl (by omega) ?_
                                refine jw_aload_n rfl rfl ?_
                                refine jw_virt (k := 0) (c := 18) (as := []) rfl rfl rfl (Nat.le_of_ble_eq_true rfl) rfl (Nat.le_of_ble_eq_true rfl) rfl rfl (jz_ci ?_)
                                refine jm_Q.mono h (jp_i_mono (fun r74 J72 K73 h => ?_))
                                refine jw_pop_i rfl ?_
                                refine jw_goto rfl ?_
                                refine jw_vret rfl ?_
                                exact h
                              · replace h := h.2 c71
                                refine jw_tab_out (pc2 := 358) rfl jz_and_r (by omega) (by omega) ?_
                                refine jw_iload rfl rfl ?_
                                refine jw_iconst rfl ?_
                                refine jw_iand rfl ?_
                                refine jw_if_ne rfl jz_and_r (fun c75 => ?_) (fun c75 => ?_)
                                · replace h := h.1 c75
                                  refine jw_aload_n rfl rfl ?_
                                  refine jw_virt (k := 0) (c := 18) (as := []) rfl rfl rfl (Nat.le_of_ble_eq_true rfl) rfl (Nat.le_of_ble_eq_true rfl) rfl rfl (jz_ci ?_)
                                  refine jm_Q.mono h (jp_i_mono (fun r78 J76 K77 h => ?_))
                                  refine jw_pop_i rfl ?_
                                  refine jw_vret rfl ?_
                                  exact h
                                · replace h := h.2 c75
                                  refine jw_aload_n rfl rfl ?_
                                  refine jw_virt (k := 0) (c := 18) (as := []) rfl rfl rfl (Nat.le_of_ble_eq_true rfl) rfl (Nat.le_of_ble_eq_true rfl) rfl rfl (jz_ci ?_)
                                  refine jm_Q.mono h (jp_i_mono (fun r81 J79 K80 h => ?_))
                                  refine jw_pop_i rfl ?_
                                  refine jw_goto rfl ?_
                                  refine jw_vret rfl ?_
                                  exact h
set_option maxHeartbeats 4000000 in
theorem e_169 {xs : Nat → Int32} {L d : Nat} {J K : jZ} {P : Int → jZ → jZ → Prop} (h : l_169_5 xs L (d + 3) 0 12 J K P) : q_169 xs L (d + 4) J K P := by
  unfold q_169
  refine jq_in (ls := [some (.ref 0), none, none]) rfl (Nat.le_of_ble_eq_true rfl) rfl ?_
  refine jw_iconst rfl ?_
  refine jw_istore_n (ls' := [some (.ref 0), some (.int (Int32.ofInt 0)), none]) rfl rfl ?_
  refine jw_bipush rfl (by decide) ?_
  refine jw_istore_n (ls' := [some (.ref 0), some (.int (Int32.ofInt 0)), some (.int (Int32.ofInt 12))]) rfl rfl ?_
  exact jz_fg (l := [some (.ref 0), some (.int (Int32.ofInt 0)), some (.int (Int32.ofInt 12))]) ⟨rfl, rfl, rfl, trivial⟩ h
set_option maxHeartbeats 4000000 in
theorem e_169_5 {xs : Nat → Int32} {L d : Nat} {v1 : Int} {v2 : Int} {J K : jZ} {P : Int → jZ → jZ → Prop} (h : (-2147483648 ≤ v2 ∧ v2 < 2147483648) ∧ (16 < v2 → P v1 J K) ∧ (v2 ≤ 16 → q_162 xs L (d + 3) v2 J K (fun r5 J3 K4 => l_169_5 xs L (d + 3) (v1 + r5) (v2 + 1) J3 K4 P))) : l_169_5 xs L (d + 3) v1 v2 J K P := by
  unfold l_169_5
  refine jw_iload_n rfl rfl ?_
  refine jw_bipush rfl (by decide) ?_
  obtain ⟨o1, h⟩ := h
  refine jw_ic_gt rfl o1 (by omega) (fun c2 => ?_) (fun c2 => ?_)
  · replace h := h.1 c2
    refine jw_iload_n rfl rfl ?_
    refine jw_iret rfl ?_
    exact h
  · replace h := h.2 c2
    refine jw_iload_n rfl rfl ?_
    refine jw_aload_n rfl rfl ?_
    refine jw_iload_n rfl rfl ?_
    refine jw_virt (k := 1) (c := 18) (as := [.int (Int32.ofInt v2)]) rfl rfl rfl (Nat.le_of_ble_eq_true rfl) rfl (Nat.le_of_ble_eq_true rfl) rfl rfl (jz_ci ?_)
    refine jm_Q.mono h (jp_i_mono (fun r5 J3 K4 h => ?_))
    refine jw_iadd rfl ?_
    refine jw_istore_n (ls' := [some (.ref 0), some (.int (Int32.ofInt (v1 + r5))), some (.int (Int32.ofInt v2))]) rfl rfl ?_
    refine jw_iinc (ls' := [some (.ref 0), some (.int (Int32.ofInt (v1 + r5))), some (.int (Int32.ofInt (v2 + 1)))]) rfl rfl rfl ?_
    refine jw_goto rfl ?_
    exact jz_fg (l := [some (.ref 0), some (.int (Int32.ofInt (v1 + r5))), some (.int (Int32.ofInt (v2 + 1)))]) ⟨rfl, rfl, rfl, trivial⟩ h
set_option maxHeartbeats 4000000 in
theorem e_170 {xs : Nat → Int32} {L d : Nat} {v1 : Int} {J K : jZ} {P : Int → jZ → jZ → Prop} (h : q_113 xs L (d + 7) v1 J K (fun r3 J1 K2 => l_170_17 xs L (d + 7) v1 r3 (-1) (-1) 0 J1 K2 P)) : q_170 xs L (d + 8) v1 J K P := by
  unfold q_170
  refine jq_in (ls := [some (.ref 0), some (.int (Int32.ofInt v1)), none, none, none, none, none, none]) rfl (Nat.le_of_ble_eq_true rfl) rfl ?_
  refine jw_aload_n rfl rfl ?_
  refine jw_iload_n rfl rfl ?_
  refine jw_virt (k := 1) (c := 18) (as := [.int (Int32.ofInt v1)]) rfl rfl rfl (Nat.le_of_ble_eq_true rfl) rfl (Nat.le_of_ble_eq_true rfl) rfl rfl (jz_ci ?_)
  refine jm_Q.mono h (jp_i_mono (fun r3 J1 K2 h => ?_))
  refine jw_istore_n (ls' := [some (.ref 0), some (.int (Int32.ofInt v1)), some (.int (Int32.ofInt r3)), none, none, none, none, none]) rfl rfl ?_
  refine jw_iconst rfl ?_
  refine jw_istore_n (ls' := [some (.ref 0), some (.int (Int32.ofInt v1)), some (.int (Int32.ofInt r3)), some (.int (Int32.ofInt (-1))), none, none, none, none]) rfl rfl ?_
  refine jw_iconst rfl ?_
  refine jw_istore (ls' := [some (.ref 0), some (.int (Int32.ofInt v1)), some (.int (Int32.ofInt r3)), some (.int (Int32.ofInt (-1))), some (.int (Int32.ofInt (-1))), none, none, none]) rfl rfl ?_
  refine jw_iconst rfl ?_
  refine jw_istore (ls' := [some (.ref 0), some (.int (Int32.ofInt v1)), some (.int (Int32.ofInt r3)), some (.int (Int32.ofInt (-1))), some (.int (Int32.ofInt (-1))), some (.int (Int32.ofInt (-1))), none, none]) rfl rfl ?_
  refine jw_iconst rfl ?_
  refine jw_istore (ls' := [some (.ref 0), some (.int (Int32.ofInt v1)), some (.int (Int32.ofInt r3)), some (.int (Int32.ofInt (-1))), some (.int (Int32.ofInt (-1))), some (.int (Int32.ofInt (-1))), some (.int (Int32.ofInt 0)), none]) rfl rfl ?_
  exact jz_fg (l := [some (.ref 0), some (.int (Int32.ofInt v1)), some (.int (Int32.ofInt r3)), some (.int (Int32.ofInt (-1))), some (.int (Int32.ofInt (-1))), none, some (.int (Int32.ofInt 0)), none]) ⟨rfl, rfl, rfl, rfl, rfl, jz_ni, rfl, jz_n0, trivial⟩ h
set_option maxHeartbeats 4000000 in
theorem e_170_17 {xs : Nat → Int32} {L d : Nat} {v1 : Int} {v2 : Int} {v3 : Int} {v4 : Int} {v6 : Int} {J K : jZ} {P : Int → jZ → jZ → Prop} (h : (-2147483648 ≤ v6 ∧ v6 < 2147483648) ∧ (-2147483648 ≤ v2 ∧ v2 < 2147483648) ∧ (v2 ≤ v6 → q_116 xs L (d + 7) v1 (v3 + 1) 0 J K (fun r6 J4 K5 => (-2147483648 ≤ r6 ∧ r6 < 2147483648) ∧ (¬ r6 = (-1) → P 0 J4 K5) ∧ (r6 = (-1) → q_116 xs L (d + 7) v1 v3 3 J4 K5 (fun r11 J9 K10 => (-2147483648 ≤ r11 ∧ r11 < 2147483648) ∧ (-2147483648 ≤ (v2 - 1) ∧ (v2 - 1) < 2147483648) ∧ (¬ r11 = (v2 - 1) → P 0 J9 K10) ∧ (r11 = (v2 - 1) → q_116 xs L (d + 7) v1 v4 2 J9 K10 (fun r17 J15 K16 => (-2147483648 ≤ r17 ∧ r17 < 2147483648) ∧ (¬ r17 = (v2 - 1) → P 0 J15 K16) ∧ (r17 = (v2 - 1) → q_124 xs L (d + 7) v1 (-1) J15 K16 (fun r22 J20 K21 => q_127 xs L (d + 7) v1 (-1) J20 K21 (fun r25 J23 K24 => (-2147483648 ≤ r22 ∧ r22 < 2147483648) ∧ (-2147483648 ≤ r25 ∧ r25 < 2147483648) ∧ (¬ r22 = r25 → P 0 J23 K24) ∧ (r22 = r25 → q_138 xs L (d + 7) v1 v1 J23 K24 (fun r31 J29 K30 => (-2147483648 ≤ r31 ∧ r31 < 2147483648) ∧ (¬ r31 = (-1) → P 0 J29 K30) ∧ (r31 = (-1) → q_141 xs L (d + 7) v1 J29 K30 (fun r36 J34 K35 => ((jz_and (jz_shr r36 v1) 1) = 1 → (20 ≤ v2 → q_11 xs L (d + 7) 7 0 40 J34 K35 (fun r41 J39 K40 => l_170_225 xs L (d + 7) v1 v2 20 0 J39 K40 P)) ∧ (v2 < 20 → q_11 xs L (d + 7) 7 0 40 J34 K35 (fun r44 J42 K43 => l_170_225 xs L (d + 7) v1 v2 v2 0 J42 K43 P))) ∧ (¬ (jz_and (jz_shr r36 v1) 1) = 1 → P 0 J34 K35)))))))))))))) ∧ (v6 < v2 → q_114 xs L (d + 7) v1 v6 J K (fun r47 J45 K46 => q_116 xs L (d + 7) v1 (v3 + 1) 0 J45 K46 (fun r50 J48 K49 => (-2147483648 ≤ r50 ∧ r50 < 2147483648) ∧ (¬ r50 = v6 → P 0 J48 K49) ∧ (r50 = v6 → (-2147483648 ≤ (jz_div r47 100) ∧ (jz_div r47 100) < 2147483648) ∧ (-2147483648 ≤ v3 ∧ v3 < 2147483648) ∧ ((jz_div r47 100) ≤ v3 → P 0 J48 K49) ∧ (v3 < (jz_div r47 100) → (-2147483648 ≤ (jz_rem r47 100) ∧ (jz_rem r47 100) < 2147483648) ∧ (-2147483648 ≤ v4 ∧ v4 < 2147483648) ∧ ((jz_rem r47 100) ≤ v4 → P 0 J48 K49) ∧ (v4 < (jz_rem r47 100) → q_116 xs L (d + 7) v1 (v4 + 1) 1 J48 K49 (fun r61 J59 K60 => (-2147483648 ≤ r61 ∧ r61 < 2147483648) ∧ (¬ r61 = v6 → P 0 J59 K60) ∧ (r61 = v6 → q_162 xs L (d + 7) 0 J59 K60 (fun r66 J64 K65 => (-2147483648 ≤ r66 ∧ r66 < 2147483648) ∧ ((jz_rem r47 100) < r66 → l_170_17 xs L (d + 7) v1 v2 (jz_div r47 100) (jz_rem r47 100) (v6 + 1) J64 K65 P) ∧ (r66 ≤ (jz_rem r47 100) → P 0 J64 K65))))))))))) : l_170_17 xs L (d + 7) v1 v2 v3 v4 v6 J K P := by
  unfold l_170_17
  refine jw_iload rfl rfl ?_
  refine jw_iload_n rfl rfl ?_
  obtain ⟨o1, h⟩ := h
  obtain ⟨o2, h⟩ := h
  refine jw_ic_ge rfl o1 o2 (fun c3 => ?_) (fun c3 => ?_)
  · replace h := h.1 c3
    refine jw_aload_n rfl rfl ?_
    refine jw_iload_n rfl rfl ?_
    refine jw_iload_n rfl rfl ?_
    refine jw_iconst rfl ?_
    refine jw_iadd rfl ?_
    refine jw_iconst rfl ?_
    refine jw_virt (k := 3) (c := 18) (as := [.int (Int32.ofInt v1), .int (Int32.ofInt (v3 + 1)), .int (Int32.ofInt 0)]) rfl rfl rfl (Nat.le_of_ble_eq_true rfl) rfl (Nat.le_of_ble_eq_true rfl) rfl rfl (jz_ci ?_)
    refine jm_Q.mono h (jp_i_mono (fun r6 J4 K5 h => ?_))
    refine jw_iconst rfl ?_
    obtain ⟨o7, h⟩ := h
    refine jw_ic_ne rfl o7 (by omega) (fun c8 => ?_) (fun c8 => ?_)
    · replace h := h.1 c8
      refine jw_iconst rfl ?_
      refine jw_zret rfl (by omega) ?_
      exact h
    · replace h := h.2 c8
      refine jw_aload_n rfl rfl ?_
      refine jw_iload_n rfl rfl ?_
      refine jw_iload_n rfl rfl ?_
      refine jw_iconst rfl ?_
      refine jw_virt (k := 3) (c := 18) (as := [.int (Int32.ofInt v1), .int (Int32.ofInt v3), .int (Int32.ofInt 3)]) rfl rfl rfl (Nat.le_of_ble_eq_true rfl) rfl (Nat.le_of_ble_eq_true rfl) rfl rfl (jz_ci ?_)
      refine jm_Q.mono h (jp_i_mono (fun r11 J9 K10 h => ?_))
      refine jw_iload_n rfl rfl ?_
      refine jw_iconst rfl ?_
      refine jw_isub rfl ?_
      obtain ⟨o12, h⟩ := h
      obtain ⟨o13, h⟩ := h
      refine jw_ic_ne rfl o12 o13 (fun c14 => ?_) (fun c14 => ?_)
      · replace h := h.1 c14
        refine jw_iconst rfl ?_
        refine jw_zret rfl (by omega) ?_
        exact h
      · replace h := h.2 c14
        refine jw_aload_n rfl rfl ?_
        refine jw_iload_n rfl rfl ?_
        refine jw_iload rfl rfl ?_
        refine jw_iconst rfl ?_
        refine jw_virt (k := 3) (c := 18) (as := [.int (Int32.ofInt v1), .int (Int32.ofInt v4), .int (Int32.ofInt 2)]) rfl rfl rfl (Nat.le_of_ble_eq_true rfl) rfl (Nat.le_of_ble_eq_true rfl) rfl rfl (jz_ci ?_)
        refine jm_Q.mono h (jp_i_mono (fun r17 J15 K16 h => ?_))
        refine jw_iload_n rfl rfl ?_
        refine jw_iconst rfl ?_
        refine jw_isub rfl ?_
        obtain ⟨o18, h⟩ := h
        refine jw_ic_ne rfl o18 o13 (fun c19 => ?_) (fun c19 => ?_)
        · replace h := h.1 c19
          refine jw_iconst rfl ?_
          refine jw_zret rfl (by omega) ?_
          exact h
        · replace h := h.2 c19
          refine jw_aload_n rfl rfl ?_
          refine jw_iload_n rfl rfl ?_
          refine jw_iconst rfl ?_
          refine jw_virt (k := 2) (c := 18) (as := [.int (Int32.ofInt v1), .int (Int32.ofInt (-1))]) rfl rfl rfl (Nat.le_of_ble_eq_true rfl) rfl (Nat.le_of_ble_eq_true rfl) rfl rfl (jz_ci ?_)
          refine jm_Q.mono h (jp_i_mono (fun r22 J20 K21 h => ?_))
          refine jw_aload_n rfl rfl ?_
          refine jw_iload_n rfl rfl ?_
          refine jw_iconst rfl ?_
          refine jw_virt (k := 2) (c := 18) (as := [.int (Int32.ofInt v1), .int (Int32.ofInt (-1))]) rfl rfl rfl (Nat.le_of_ble_eq_true rfl) rfl (Nat.le_of_ble_eq_true rfl) rfl rfl (jz_ci ?_)
          refine jm_Q.mono h (jp_i_mono (fun r25 J23 K24 h => ?_))
          obtain ⟨o26, h⟩ := h
          obtain ⟨o27, h⟩ := h
          refine jw_ic_ne rfl o26 o27 (fun c28 => ?_) (fun c28 => ?_)
          · replace h := h.1 c28
            refine jw_iconst rfl ?_
            refine jw_zret rfl (by omega) ?_
            exact h
          · replace h := h.2 c28
            refine jw_aload_n rfl rfl ?_
            refine jw_iload_n rfl rfl ?_
            refine jw_iload_n rfl rfl ?_
            refine jw_virt (k := 2) (c := 18) (as := [.int (Int32.ofInt v1), .int (Int32.ofInt v1)]) rfl rfl rfl (Nat.le_of_ble_eq_true rfl) rfl (Nat.le_of_ble_eq_true rfl) rfl rfl (jz_ci ?_)
            refine jm_Q.mono h (jp_i_mono (fun r31 J29 K30 h => ?_))
            refine jw_iconst rfl ?_
            obtain ⟨o32, h⟩ := h
            refine jw_ic_ne rfl o32 (by omega) (fun c33 => ?_) (fun c33 => ?_)
            · replace h := h.1 c33
              refine jw_iconst rfl ?_
              refine jw_zret rfl (by omega) ?_
              exact h
            · replace h := h.2 c33
              refine jw_aload_n rfl rfl ?_
              refine jw_iload_n rfl rfl ?_
              refine jw_virt (k := 1) (c := 18) (as := [.int (Int32.ofInt v1)]) rfl rfl rfl (Nat.le_of_ble_eq_true rfl) rfl (Nat.le_of_ble_eq_true rfl) rfl rfl (jz_ci ?_)
              refine jm_Q.mono h (jp_i_mono (fun r36 J34 K35 h => ?_))
              refine jw_iload_n rfl rfl ?_
              refine jw_ishr rfl ?_
              refine jw_iconst rfl ?_
              refine jw_iand rfl ?_
              refine jw_iconst rfl ?_
              refine jw_ic_eq rfl jz_and_r (by omega) (fun c37 => ?_) (fun c37 => ?_)
              · replace h := h.1 c37
                refine jw_iload_n rfl rfl ?_
                refine jw_bipush rfl (by decide) ?_
                refine jw_ic_ge rfl o2 (by omega) (fun c38 => ?_) (fun c38 => ?_)
                · replace h := h.1 c38
                  refine jw_bipush rfl (by decide) ?_
                  refine jw_istore (ls' := [some (.ref 0), some (.int (Int32.ofInt v1)), some (.int (Int32.ofInt v2)), some (.int (Int32.ofInt v3)), some (.int (Int32.ofInt v4)), none, some (.int (Int32.ofInt 20)), none]) rfl rfl ?_
                  refine jw_aload_n rfl rfl ?_
                  refine jw_bipush rfl (by decide) ?_
                  refine jw_iconst rfl ?_
                  refine jw_bipush rfl (by decide) ?_
                  refine jw_virt (k := 3) (c := 18) (as := [.int (Int32.ofInt 7), .int (Int32.ofInt 0), .int (Int32.ofInt 40)]) rfl rfl rfl (Nat.le_of_ble_eq_true rfl) rfl (Nat.le_of_ble_eq_true rfl) rfl rfl (jz_ci ?_)
                  refine jm_Q.mono h (jp_i_mono (fun r41 J39 K40 h => ?_))
                  refine jw_pop_i rfl ?_
                  refine jw_iconst rfl ?_
                  refine jw_istore (ls' := [some (.ref 0), some (.int (Int32.ofInt v1)), some (.int (Int32.ofInt v2)), some (.int (Int32.ofInt v3)), some (.int (Int32.ofInt v4)), none, some (.int (Int32.ofInt 20)), some (.int (Int32.ofInt 0))]) rfl rfl ?_
                  exact jz_fg (l := [some (.ref 0), some (.int (Int32.ofInt v1)), some (.int (Int32.ofInt v2)), none, none, none, some (.int (Int32.ofInt 20)), some (.int (Int32.ofInt 0))]) ⟨rfl, rfl, rfl, jz_ni, jz_ni, jz_n0, rfl, rfl, trivial⟩ h
                · replace h := h.2 c38
                  refine jw_iload_n rfl rfl ?_
                  refine jw_goto rfl ?_
                  refine jw_istore (ls' := [some (.ref 0), some (.int (Int32.ofInt v1)), some (.int (Int32.ofInt v2)), some (.int (Int32.ofInt v3)), some (.int (Int32.ofInt v4)), none, some (.int (Int32.ofInt v2)), none]) rfl rfl ?_
                  refine jw_aload_n rfl rfl ?_
                  refine jw_bipush rfl (by decide) ?_
                  refine jw_iconst rfl ?_
                  refine jw_bipush rfl (by decide) ?_
                  refine jw_virt (k := 3) (c := 18) (as := [.int (Int32.ofInt 7), .int (Int32.ofInt 0), .int (Int32.ofInt 40)]) rfl rfl rfl (Nat.le_of_ble_eq_true rfl) rfl (Nat.le_of_ble_eq_true rfl) rfl rfl (jz_ci ?_)
                  refine jm_Q.mono h (jp_i_mono (fun r44 J42 K43 h => ?_))
                  refine jw_pop_i rfl ?_
                  refine jw_iconst rfl ?_
                  refine jw_istore (ls' := [some (.ref 0), some (.int (Int32.ofInt v1)), some (.int (Int32.ofInt v2)), some (.int (Int32.ofInt v3)), some (.int (Int32.ofInt v4)), none, some (.int (Int32.ofInt v2)), some (.int (Int32.ofInt 0))]) rfl rfl ?_
                  exact jz_fg (l := [some (.ref 0), some (.int (Int32.ofInt v1)), some (.int (Int32.ofInt v2)), none, none, none, some (.int (Int32.ofInt v2)), some (.int (Int32.ofInt 0))]) ⟨rfl, rfl, rfl, jz_ni, jz_ni, jz_n0, rfl, rfl, trivial⟩ h
              · replace h := h.2 c37
                refine jw_iconst rfl ?_
                refine jw_zret rfl (by omega) ?_
                exact h
  · replace h := h.2 c3
    refine jw_aload_n rfl rfl ?_
    refine jw_iload_n rfl rfl ?_
    refine jw_iload rfl rfl ?_
    refine jw_virt (k := 2) (c := 18) (as := [.int (Int32.ofInt v1), .int (Int32.ofInt v6)]) rfl rfl rfl (Nat.le_of_ble_eq_true rfl) rfl (Nat.le_of_ble_eq_true rfl) rfl rfl (jz_ci ?_)
    refine jm_Q.mono h (jp_i_mono (fun r47 J45 K46 h => ?_))
    refine jw_istore (ls' := [some (.ref 0), some (.int (Int32.ofInt v1)), some (.int (Int32.ofInt v2)), some (.int (Int32.ofInt v3)), some (.int (Int32.ofInt v4)), none, some (.int (Int32.ofInt v6)), some (.int (Int32.ofInt r47))]) rfl rfl ?_
    refine jw_aload_n rfl rfl ?_
    refine jw_iload_n rfl rfl ?_
    refine jw_iload_n rfl rfl ?_
    refine jw_iconst rfl ?_
    refine jw_iadd rfl ?_
    refine jw_iconst rfl ?_
    refine jw_virt (k := 3) (c := 18) (as := [.int (Int32.ofInt v1), .int (Int32.ofInt (v3 + 1)), .int (Int32.ofInt 0)]) rfl rfl rfl (Nat.le_of_ble_eq_true rfl) rfl (Nat.le_of_ble_eq_true rfl) rfl rfl (jz_ci ?_)
    refine jm_Q.mono h (jp_i_mono (fun r50 J48 K49 h => ?_))
    refine jw_istore (ls' := [some (.ref 0), some (.int (Int32.ofInt v1)), some (.int (Int32.ofInt v2)), some (.int (Int32.ofInt v3)), some (.int (Int32.ofInt v4)), some (.int (Int32.ofInt r50)), some (.int (Int32.ofInt v6)), some (.int (Int32.ofInt r47))]) rfl rfl ?_
    refine jw_iload rfl rfl ?_
    refine jw_iload rfl rfl ?_
    obtain ⟨o51, h⟩ := h
    refine jw_ic_ne rfl o51 o1 (fun c52 => ?_) (fun c52 => ?_)
    · replace h := h.1 c52
      refine jw_iconst rfl ?_
      refine jw_zret rfl (by omega) ?_
      exact h
    · replace h := h.2 c52
      refine jw_iload rfl rfl ?_
      refine jw_bipush rfl (by decide) ?_
      refine jw_idiv rfl (by omega) (by omega) ?_
      refine jw_iload_n rfl rfl ?_
      obtain ⟨o53, h⟩ := h
      obtain ⟨o54, h⟩ := h
      refine jw_ic_le rfl o53 o54 (fun c55 => ?_) (fun c55 => ?_)
      · replace h := h.1 c55
        refine jw_iconst rfl ?_
        refine jw_zret rfl (by omega) ?_
        exact h
      · replace h := h.2 c55
        refine jw_iload rfl rfl ?_
        refine jw_bipush rfl (by decide) ?_
        refine jw_irem rfl (by omega) (by omega) ?_
        refine jw_iload rfl rfl ?_
        obtain ⟨o56, h⟩ := h
        obtain ⟨o57, h⟩ := h
        refine jw_ic_le rfl o56 o57 (fun c58 => ?_) (fun c58 => ?_)
        · replace h := h.1 c58
          refine jw_iconst rfl ?_
          refine jw_zret rfl (by omega) ?_
          exact h
        · replace h := h.2 c58
          refine jw_aload_n rfl rfl ?_
          refine jw_iload_n rfl rfl ?_
          refine jw_iload rfl rfl ?_
          refine jw_iconst rfl ?_
          refine jw_iadd rfl ?_
          refine jw_iconst rfl ?_
          refine jw_virt (k := 3) (c := 18) (as := [.int (Int32.ofInt v1), .int (Int32.ofInt (v4 + 1)), .int (Int32.ofInt 1)]) rfl rfl rfl (Nat.le_of_ble_eq_true rfl) rfl (Nat.le_of_ble_eq_true rfl) rfl rfl (jz_ci ?_)
          refine jm_Q.mono h (jp_i_mono (fun r61 J59 K60 h => ?_))
          refine jw_iload rfl rfl ?_
          obtain ⟨o62, h⟩ := h
          refine jw_ic_ne rfl o62 o1 (fun c63 => ?_) (fun c63 => ?_)
          · replace h := h.1 c63
            refine jw_iconst rfl ?_
            refine jw_zret rfl (by omega) ?_
            exact h
          · replace h := h.2 c63
            refine jw_iload rfl rfl ?_
            refine jw_bipush rfl (by decide) ?_
            refine jw_irem rfl (by omega) (by omega) ?_
            refine jw_aload_n rfl rfl ?_
            refine jw_iconst rfl ?_
            refine jw_virt (k := 1) (c := 18) (as := [.int (Int32.ofInt 0)]) rfl rfl rfl (Nat.le_of_ble_eq_true rfl) rfl (Nat.le_of_ble_eq_true rfl) rfl rfl (jz_ci ?_)
            refine jm_Q.mono h (jp_i_mono (fun r66 J64 K65 h => ?_))
            obtain ⟨o67, h⟩ := h
            refine jw_ic_lt rfl o56 o67 (fun c68 => ?_) (fun c68 => ?_)
            · replace h := h.1 c68
              refine jw_iload rfl rfl ?_
              refine jw_bipush rfl (by decide) ?_
              refine jw_idiv rfl (by omega) (by omega) ?_
              refine jw_istore_n (ls' := [some (.ref 0), some (.int (Int32.ofInt v1)), some (.int (Int32.ofInt v2)), some (.int (Int32.ofInt (jz_div r47 100))), some (.int (Int32.ofInt v4)), some (.int (Int32.ofInt r50)), some (.int (Int32.ofInt v6)), some (.int (Int32.ofInt r47))]) rfl rfl ?_
              refine jw_iload rfl rfl ?_
              refine jw_bipush rfl (by decide) ?_
              refine jw_irem rfl (by omega) (by omega) ?_
              refine jw_istore (ls' := [some (.ref 0), some (.int (Int32.ofInt v1)), some (.int (Int32.ofInt v2)), some (.int (Int32.ofInt (jz_div r47 100))), some (.int (Int32.ofInt (jz_rem r47 100))), some (.int (Int32.ofInt r50)), some (.int (Int32.ofInt v6)), some (.int (Int32.ofInt r47))]) rfl rfl ?_
              refine jw_iinc (ls' := [some (.ref 0), some (.int (Int32.ofInt v1)), some (.int (Int32.ofInt v2)), some (.int (Int32.ofInt (jz_div r47 100))), some (.int (Int32.ofInt (jz_rem r47 100))), some (.int (Int32.ofInt r50)), some (.int (Int32.ofInt (v6 + 1))), some (.int (Int32.ofInt r47))]) rfl rfl rfl ?_
              refine jw_goto rfl ?_
              exact jz_fg (l := [some (.ref 0), some (.int (Int32.ofInt v1)), some (.int (Int32.ofInt v2)), some (.int (Int32.ofInt (jz_div r47 100))), some (.int (Int32.ofInt (jz_rem r47 100))), none, some (.int (Int32.ofInt (v6 + 1))), none]) ⟨rfl, rfl, rfl, rfl, rfl, jz_ni, rfl, jz_ni, trivial⟩ h
            · replace h := h.2 c68
              refine jw_iconst rfl ?_
              refine jw_zret rfl (by omega) ?_
              exact h
set_option maxHeartbeats 4000000 in
theorem e_170_225 {xs : Nat → Int32} {L d : Nat} {v1 : Int} {v2 : Int} {v6 : Int} {v7 : Int} {J K : jZ} {P : Int → jZ → jZ → Prop} (h : (-2147483648 ≤ v7 ∧ v7 < 2147483648) ∧ (-2147483648 ≤ v6 ∧ v6 < 2147483648) ∧ (v6 ≤ v7 → q_149 xs L (d + 7) v1 7 v6 J K (fun r6 J4 K5 => (-2147483648 ≤ v2 ∧ v2 < 2147483648) ∧ (v2 ≤ v6 → (-2147483648 ≤ r6 ∧ r6 < 2147483648) ∧ (¬ r6 = (-1) → P 0 J4 K5) ∧ (r6 = (-1) → P 1 J4 K5)) ∧ (v6 < v2 → (-2147483648 ≤ r6 ∧ r6 < 2147483648) ∧ (¬ r6 = v6 → P 0 J4 K5) ∧ (r6 = v6 → P 1 J4 K5)))) ∧ (v7 < v6 → q_114 xs L (d + 7) v1 v7 J K (fun r15 J13 K14 => (-2147483648 ≤ (jz_div r15 100) ∧ (jz_div r15 100) < 2147483648) ∧ q_16 xs L (d + 7) 7 (2 * v7) (jz_div r15 100) J13 K14 (fun r19 J17 K18 => q_114 xs L (d + 7) v1 v7 J17 K18 (fun r22 J20 K21 => (-2147483648 ≤ (jz_rem r22 100) ∧ (jz_rem r22 100) < 2147483648) ∧ q_16 xs L (d + 7) 7 ((2 * v7) + 1) (jz_rem r22 100) J20 K21 (fun r26 J24 K25 => l_170_225 xs L (d + 7) v1 v2 v6 (v7 + 1) J24 K25 P)))))) : l_170_225 xs L (d + 7) v1 v2 v6 v7 J K P := by
  unfold l_170_225
  refine jw_iload rfl rfl ?_
  refine jw_iload rfl rfl ?_
  obtain ⟨o1, h⟩ := h
  obtain ⟨o2, h⟩ := h
  refine jw_ic_ge rfl o1 o2 (fun c3 => ?_) (fun c3 => ?_)
  · replace h := h.1 c3
    refine jw_aload_n rfl rfl ?_
    refine jw_iload_n rfl rfl ?_
    refine jw_bipush rfl (by decide) ?_
    refine jw_iload rfl rfl ?_
    refine jw_virt (k := 3) (c := 18) (as := [.int (Int32.ofInt v1), .int (Int32.ofInt 7), .int (Int32.ofInt v6)]) rfl rfl rfl (Nat.le_of_ble_eq_true rfl) rfl (Nat.le_of_ble_eq_true rfl) rfl rfl (jz_ci ?_)
    refine jm_Q.mono h (jp_i_mono (fun r6 J4 K5 h => ?_))
    refine jw_iload_n rfl rfl ?_
    refine jw_iload rfl rfl ?_
    obtain ⟨o7, h⟩ := h
    refine jw_ic_le rfl o7 o2 (fun c8 => ?_) (fun c8 => ?_)
    · replace h := h.1 c8
      refine jw_iconst rfl ?_
      obtain ⟨o9, h⟩ := h
      refine jw_ic_ne rfl o9 (by omega) (fun c10 => ?_) (fun c10 => ?_)
      · replace h := h.1 c10
        refine jw_iconst rfl ?_
        refine jw_zret rfl (by omega) ?_
        exact h
      · replace h := h.2 c10
        refine jw_iconst rfl ?_
        refine jw_goto rfl ?_
        refine jw_zret rfl (by omega) ?_
        exact h
    · replace h := h.2 c8
      refine jw_iload rfl rfl ?_
      refine jw_goto rfl ?_
      obtain ⟨o11, h⟩ := h
      refine jw_ic_ne rfl o11 o2 (fun c12 => ?_) (fun c12 => ?_)
      · replace h := h.1 c12
        refine jw_iconst rfl ?_
        refine jw_zret rfl (by omega) ?_
        exact h
      · replace h := h.2 c12
        refine jw_iconst rfl ?_
        refine jw_goto rfl ?_
        refine jw_zret rfl (by omega) ?_
        exact h
  · replace h := h.2 c3
    refine jw_aload_n rfl rfl ?_
    refine jw_bipush rfl (by decide) ?_
    refine jw_iconst rfl ?_
    refine jw_iload rfl rfl ?_
    refine jw_imul rfl ?_
    refine jw_aload_n rfl rfl ?_
    refine jw_iload_n rfl rfl ?_
    refine jw_iload rfl rfl ?_
    refine jw_virt (k := 2) (c := 18) (as := [.int (Int32.ofInt v1), .int (Int32.ofInt v7)]) rfl rfl rfl (Nat.le_of_ble_eq_true rfl) rfl (Nat.le_of_ble_eq_true rfl) rfl rfl (jz_ci ?_)
    refine jm_Q.mono h (jp_i_mono (fun r15 J13 K14 h => ?_))
    refine jw_bipush rfl (by decide) ?_
    refine jw_idiv rfl (by omega) (by omega) ?_
    obtain ⟨o16, h⟩ := h
    refine jw_i2l rfl o16 ?_
    refine jw_virt (k := 3) (c := 18) (as := [.int (Int32.ofInt 7), .int (Int32.ofInt (2 * v7)), .long (Int64.ofInt (jz_div r15 100))]) rfl rfl rfl (Nat.le_of_ble_eq_true rfl) rfl (Nat.le_of_ble_eq_true rfl) rfl rfl (jz_ci ?_)
    refine jm_Q.mono h (jp_i_mono (fun r19 J17 K18 h => ?_))
    refine jw_pop_i rfl ?_
    refine jw_aload_n rfl rfl ?_
    refine jw_bipush rfl (by decide) ?_
    refine jw_iconst rfl ?_
    refine jw_iload rfl rfl ?_
    refine jw_imul rfl ?_
    refine jw_iconst rfl ?_
    refine jw_iadd rfl ?_
    refine jw_aload_n rfl rfl ?_
    refine jw_iload_n rfl rfl ?_
    refine jw_iload rfl rfl ?_
    refine jw_virt (k := 2) (c := 18) (as := [.int (Int32.ofInt v1), .int (Int32.ofInt v7)]) rfl rfl rfl (Nat.le_of_ble_eq_true rfl) rfl (Nat.le_of_ble_eq_true rfl) rfl rfl (jz_ci ?_)
    refine jm_Q.mono h (jp_i_mono (fun r22 J20 K21 h => ?_))
    refine jw_bipush rfl (by decide) ?_
    refine jw_irem rfl (by omega) (by omega) ?_
    obtain ⟨o23, h⟩ := h
    refine jw_i2l rfl o23 ?_
    refine jw_virt (k := 3) (c := 18) (as := [.int (Int32.ofInt 7), .int (Int32.ofInt ((2 * v7) + 1)), .long (Int64.ofInt (jz_rem r22 100))]) rfl rfl rfl (Nat.le_of_ble_eq_true rfl) rfl (Nat.le_of_ble_eq_true rfl) rfl rfl (jz_ci ?_)
    refine jm_Q.mono h (jp_i_mono (fun r26 J24 K25 h => ?_))
    refine jw_pop_i rfl ?_
    refine jw_iinc (ls' := [some (.ref 0), some (.int (Int32.ofInt v1)), some (.int (Int32.ofInt v2)), none, none, none, some (.int (Int32.ofInt v6)), some (.int (Int32.ofInt (v7 + 1)))]) rfl rfl rfl ?_
    refine jw_goto rfl ?_
    exact jz_fg (l := [some (.ref 0), some (.int (Int32.ofInt v1)), some (.int (Int32.ofInt v2)), none, none, none, some (.int (Int32.ofInt v6)), some (.int (Int32.ofInt (v7 + 1)))]) ⟨rfl, rfl, rfl, jz_n0, jz_n0, jz_n0, rfl, rfl, trivial⟩ h
set_option maxHeartbeats 4000000 in
theorem e_171 {xs : Nat → Int32} {L d : Nat} {v1 : Int} {J K : jZ} {P : Int → jZ → jZ → Prop} (h : q_110 xs L (d + 7) v1 0 J K (fun r3 J1 K2 => q_110 xs L (d + 7) v1 1 J1 K2 (fun r6 J4 K5 => q_110 xs L (d + 7) v1 2 J4 K5 (fun r9 J7 K8 => (-2147483648 ≤ r3 ∧ r3 < 2147483648) ∧ (r3 < 5 → (r3 = 2 → q_136 xs L (d + 7) r6 v1 1 J7 K8 (fun r16 J14 K15 => q_113 xs L (d + 7) r6 J14 K15 (fun r19 J17 K18 => (-2147483648 ≤ r16 ∧ r16 < 2147483648) ∧ (-2147483648 ≤ r19 ∧ r19 < 2147483648) ∧ (¬ r16 = r19 → P 0 J17 K18) ∧ (r16 = r19 → q_136 xs L (d + 7) r9 v1 1 J17 K18 (fun r25 J23 K24 => q_113 xs L (d + 7) r9 J23 K24 (fun r28 J26 K27 => (-2147483648 ≤ r25 ∧ r25 < 2147483648) ∧ (-2147483648 ≤ r28 ∧ r28 < 2147483648) ∧ (¬ r25 = r28 → P 0 J26 K27) ∧ (r25 = r28 → P 1 J26 K27))))))) ∧ (¬ r3 = 2 → (r3 = 3 → q_136 xs L (d + 7) v1 r6 1 J7 K8 (fun r35 J33 K34 => q_113 xs L (d + 7) v1 J33 K34 (fun r38 J36 K37 => (-2147483648 ≤ r35 ∧ r35 < 2147483648) ∧ (-2147483648 ≤ r38 ∧ r38 < 2147483648) ∧ (¬ r35 = r38 → P 0 J36 K37) ∧ (r35 = r38 → q_136 xs L (d + 7) v1 r9 1 J36 K37 (fun r44 J42 K43 => q_113 xs L (d + 7) v1 J42 K43 (fun r47 J45 K46 => (-2147483648 ≤ r44 ∧ r44 < 2147483648) ∧ (-2147483648 ≤ r47 ∧ r47 < 2147483648) ∧ (¬ r44 = r47 → P 0 J45 K46) ∧ (r44 = r47 → P 1 J45 K46))))))) ∧ (¬ r3 = 3 → (r3 = 4 → q_136 xs L (d + 7) v1 r6 1 J7 K8 (fun r54 J52 K53 => q_113 xs L (d + 7) v1 J52 K53 (fun r57 J55 K56 => (-2147483648 ≤ r54 ∧ r54 < 2147483648) ∧ (-2147483648 ≤ r57 ∧ r57 < 2147483648) ∧ (¬ r54 = r57 → P 0 J55 K56) ∧ (r54 = r57 → q_136 xs L (d + 7) v1 r9 1 J55 K56 (fun r63 J61 K62 => q_113 xs L (d + 7) v1 J61 K62 (fun r66 J64 K65 => (-2147483648 ≤ r63 ∧ r63 < 2147483648) ∧ (-2147483648 ≤ r66 ∧ r66 < 2147483648) ∧ (¬ r63 = r66 → P 0 J64 K65) ∧ (r63 = r66 → P 1 J64 K65))))))) ∧ (¬ r3 = 4 → (r3 = 5 → q_113 xs L (d + 7) v1 J7 K8 (fun r73 J71 K72 => (-2147483648 ≤ r73 ∧ r73 < 2147483648) ∧ (¬ r73 = 0 → P 0 J71 K72) ∧ (r73 = 0 → q_136 xs L (d + 7) v1 r6 2 J71 K72 (fun r78 J76 K77 => (-2147483648 ≤ r78 ∧ r78 < 2147483648) ∧ (¬ r78 = 0 → P 0 J76 K77) ∧ (r78 = 0 → P 1 J76 K77))))) ∧ (¬ r3 = 5 → (r3 = 6 → q_113 xs L (d + 7) v1 J7 K8 (fun r84 J82 K83 => q_113 xs L (d + 7) r6 J82 K83 (fun r87 J85 K86 => (-2147483648 ≤ r84 ∧ r84 < 2147483648) ∧ (-2147483648 ≤ (r87 - 0) ∧ (r87 - 0) < 2147483648) ∧ (¬ r84 = (r87 - 0) → P 0 J85 K86) ∧ (r84 = (r87 - 0) → q_136 xs L (d + 7) v1 r6 2 J85 K86 (fun r93 J91 K92 => q_113 xs L (d + 7) v1 J91 K92 (fun r96 J94 K95 => (-2147483648 ≤ r93 ∧ r93 < 2147483648) ∧ (-2147483648 ≤ r96 ∧ r96 < 2147483648) ∧ (¬ r93 = r96 → P 0 J94 K95) ∧ (r93 = r96 → P 1 J94 K95))))))) ∧ (¬ r3 = 6 → (r3 = 7 → q_113 xs L (d + 7) v1 J7 K8 (fun r103 J101 K102 => (-2147483648 ≤ r103 ∧ r103 < 2147483648) ∧ (¬ r103 = 0 → P 0 J101 K102) ∧ (r103 = 0 → q_136 xs L (d + 7) v1 r6 2 J101 K102 (fun r108 J106 K107 => (-2147483648 ≤ r108 ∧ r108 < 2147483648) ∧ (¬ r108 = 0 → P 0 J106 K107) ∧ (r108 = 0 → P 1 J106 K107))))) ∧ (¬ r3 = 7 → (r3 = 8 → q_113 xs L (d + 7) v1 J7 K8 (fun r114 J112 K113 => q_113 xs L (d + 7) r6 J112 K113 (fun r117 J115 K116 => (-2147483648 ≤ r114 ∧ r114 < 2147483648) ∧ (-2147483648 ≤ (r117 - 0) ∧ (r117 - 0) < 2147483648) ∧ (¬ r114 = (r117 - 0) → P 0 J115 K116) ∧ (r114 = (r117 - 0) → q_136 xs L (d + 7) v1 r6 2 J115 K116 (fun r123 J121 K122 => q_113 xs L (d + 7) v1 J121 K122 (fun r126 J124 K125 => (-2147483648 ≤ r123 ∧ r123 < 2147483648) ∧ (-2147483648 ≤ r126 ∧ r126 < 2147483648) ∧ (¬ r123 = r126 → P 0 J124 K125) ∧ (r123 = r126 → P 1 J124 K125))))))) ∧ (¬ r3 = 8 → (r3 = 9 → P 1 J7 K8) ∧ (¬ r3 = 9 → (r3 = 10 → q_123 xs L (d + 7) v1 1 J7 K8 (fun r134 J132 K133 => q_110 xs L (d + 7) v1 4 J132 K133 (fun r137 J135 K136 => (-2147483648 ≤ r134 ∧ r134 < 2147483648) ∧ (-2147483648 ≤ r137 ∧ r137 < 2147483648) ∧ (r137 < r134 → P 0 J135 K136) ∧ (r134 ≤ r137 → q_136 xs L (d + 7) v1 r6 2 J135 K136 (fun r143 J141 K142 => q_113 xs L (d + 7) v1 J141 K142 (fun r146 J144 K145 => (-2147483648 ≤ r143 ∧ r143 < 2147483648) ∧ (-2147483648 ≤ r146 ∧ r146 < 2147483648) ∧ (¬ r143 = r146 → P 0 J144 K145) ∧ (r143 = r146 → P 1 J144 K145))))))) ∧ (¬ r3 = 10 → P 1 J7 K8)))))))))) ∧ (5 ≤ r3 → (8 < r3 → (r3 = 2 → q_136 xs L (d + 7) r6 v1 1 J7 K8 (fun r155 J153 K154 => q_113 xs L (d + 7) r6 J153 K154 (fun r158 J156 K157 => (-2147483648 ≤ r155 ∧ r155 < 2147483648) ∧ (-2147483648 ≤ r158 ∧ r158 < 2147483648) ∧ (¬ r155 = r158 → P 0 J156 K157) ∧ (r155 = r158 → q_136 xs L (d + 7) r9 v1 1 J156 K157 (fun r164 J162 K163 => q_113 xs L (d + 7) r9 J162 K163 (fun r167 J165 K166 => (-2147483648 ≤ r164 ∧ r164 < 2147483648) ∧ (-2147483648 ≤ r167 ∧ r167 < 2147483648) ∧ (¬ r164 = r167 → P 0 J165 K166) ∧ (r164 = r167 → P 1 J165 K166))))))) ∧ (¬ r3 = 2 → (r3 = 3 → q_136 xs L (d + 7) v1 r6 1 J7 K8 (fun r174 J172 K173 => q_113 xs L (d + 7) v1 J172 K173 (fun r177 J175 K176 => (-2147483648 ≤ r174 ∧ r174 < 2147483648) ∧ (-2147483648 ≤ r177 ∧ r177 < 2147483648) ∧ (¬ r174 = r177 → P 0 J175 K176) ∧ (r174 = r177 → q_136 xs L (d + 7) v1 r9 1 J175 K176 (fun r183 J181 K182 => q_113 xs L (d + 7) v1 J181 K182 (fun r186 J184 K185 => (-2147483648 ≤ r183 ∧ r183 < 2147483648) ∧ (-2147483648 ≤ r186 ∧ r186 < 2147483648) ∧ (¬ r183 = r186 → P 0 J184 K185) ∧ (r183 = r186 → P 1 J184 K185))))))) ∧ (¬ r3 = 3 → (r3 = 4 → q_136 xs L (d + 7) v1 r6 1 J7 K8 (fun r193 J191 K192 => q_113 xs L (d + 7) v1 J191 K192 (fun r196 J194 K195 => (-2147483648 ≤ r193 ∧ r193 < 2147483648) ∧ (-2147483648 ≤ r196 ∧ r196 < 2147483648) ∧ (¬ r193 = r196 → P 0 J194 K195) ∧ (r193 = r196 → q_136 xs L (d + 7) v1 r9 1 J194 K195 (fun r202 J200 K201 => q_113 xs L (d + 7) v1 J200 K201 (fun r205 J203 K204 => (-2147483648 ≤ r202 ∧ r202 < 2147483648) ∧ (-2147483648 ≤ r205 ∧ r205 < 2147483648) ∧ (¬ r202 = r205 → P 0 J203 K204) ∧ (r202 = r205 → P 1 J203 K204))))))) ∧ (¬ r3 = 4 → (r3 = 5 → q_113 xs L (d + 7) v1 J7 K8 (fun r212 J210 K211 => (-2147483648 ≤ r212 ∧ r212 < 2147483648) ∧ (¬ r212 = 0 → P 0 J210 K211) ∧ (r212 = 0 → q_136 xs L (d + 7) v1 r6 2 J210 K211 (fun r217 J215 K216 => (-2147483648 ≤ r217 ∧ r217 < 2147483648) ∧ (¬ r217 = 0 → P 0 J215 K216) ∧ (r217 = 0 → P 1 J215 K216))))) ∧ (¬ r3 = 5 → (r3 = 6 → q_113 xs L (d + 7) v1 J7 K8 (fun r223 J221 K222 => q_113 xs L (d + 7) r6 J221 K222 (fun r226 J224 K225 => (-2147483648 ≤ r223 ∧ r223 < 2147483648) ∧ (-2147483648 ≤ (r226 - 0) ∧ (r226 - 0) < 2147483648) ∧ (¬ r223 = (r226 - 0) → P 0 J224 K225) ∧ (r223 = (r226 - 0) → q_136 xs L (d + 7) v1 r6 2 J224 K225 (fun r232 J230 K231 => q_113 xs L (d + 7) v1 J230 K231 (fun r235 J233 K234 => (-2147483648 ≤ r232 ∧ r232 < 2147483648) ∧ (-2147483648 ≤ r235 ∧ r235 < 2147483648) ∧ (¬ r232 = r235 → P 0 J233 K234) ∧ (r232 = r235 → P 1 J233 K234))))))) ∧ (¬ r3 = 6 → (r3 = 7 → q_113 xs L (d + 7) v1 J7 K8 (fun r242 J240 K241 => (-2147483648 ≤ r242 ∧ r242 < 2147483648) ∧ (¬ r242 = 0 → P 0 J240 K241) ∧ (r242 = 0 → q_136 xs L (d + 7) v1 r6 2 J240 K241 (fun r247 J245 K246 => (-2147483648 ≤ r247 ∧ r247 < 2147483648) ∧ (¬ r247 = 0 → P 0 J245 K246) ∧ (r247 = 0 → P 1 J245 K246))))) ∧ (¬ r3 = 7 → (r3 = 8 → q_113 xs L (d + 7) v1 J7 K8 (fun r253 J251 K252 => q_113 xs L (d + 7) r6 J251 K252 (fun r256 J254 K255 => (-2147483648 ≤ r253 ∧ r253 < 2147483648) ∧ (-2147483648 ≤ (r256 - 0) ∧ (r256 - 0) < 2147483648) ∧ (¬ r253 = (r256 - 0) → P 0 J254 K255) ∧ (r253 = (r256 - 0) → q_136 xs L (d + 7) v1 r6 2 J254 K255 (fun r262 J260 K261 => q_113 xs L (d + 7) v1 J260 K261 (fun r265 J263 K264 => (-2147483648 ≤ r262 ∧ r262 < 2147483648) ∧ (-2147483648 ≤ r265 ∧ r265 < 2147483648) ∧ (¬ r262 = r265 → P 0 J263 K264) ∧ (r262 = r265 → P 1 J263 K264))))))) ∧ (¬ r3 = 8 → (r3 = 9 → P 1 J7 K8) ∧ (¬ r3 = 9 → (r3 = 10 → q_123 xs L (d + 7) v1 1 J7 K8 (fun r273 J271 K272 => q_110 xs L (d + 7) v1 4 J271 K272 (fun r276 J274 K275 => (-2147483648 ≤ r273 ∧ r273 < 2147483648) ∧ (-2147483648 ≤ r276 ∧ r276 < 2147483648) ∧ (r276 < r273 → P 0 J274 K275) ∧ (r273 ≤ r276 → q_136 xs L (d + 7) v1 r6 2 J274 K275 (fun r282 J280 K281 => q_113 xs L (d + 7) v1 J280 K281 (fun r285 J283 K284 => (-2147483648 ≤ r282 ∧ r282 < 2147483648) ∧ (-2147483648 ≤ r285 ∧ r285 < 2147483648) ∧ (¬ r282 = r285 → P 0 J283 K284) ∧ (r282 = r285 → P 1 J283 K284))))))) ∧ (¬ r3 = 10 → P 1 J7 K8)))))))))) ∧ (r3 ≤ 8 → (r3 < 7 → q_136 xs L (d + 7) r6 r9 0 J7 K8 (fun r292 J290 K291 => (r3 = 2 → q_136 xs L (d + 7) r6 v1 1 J290 K291 (fun r297 J295 K296 => q_113 xs L (d + 7) r6 J295 K296 (fun r300 J298 K299 => (-2147483648 ≤ r297 ∧ r297 < 2147483648) ∧ (-2147483648 ≤ r300 ∧ r300 < 2147483648) ∧ (¬ r297 = r300 → P 0 J298 K299) ∧ (r297 = r300 → q_136 xs L (d + 7) r9 v1 1 J298 K299 (fun r306 J304 K305 => q_113 xs L (d + 7) r9 J304 K305 (fun r309 J307 K308 => (-2147483648 ≤ r306 ∧ r306 < 2147483648) ∧ (-2147483648 ≤ r309 ∧ r309 < 2147483648) ∧ (¬ r306 = r309 → P 0 J307 K308) ∧ (r306 = r309 → P 1 J307 K308))))))) ∧ (¬ r3 = 2 → (r3 = 3 → q_136 xs L (d + 7) v1 r6 1 J290 K291 (fun r316 J314 K315 => q_113 xs L (d + 7) v1 J314 K315 (fun r319 J317 K318 => (-2147483648 ≤ r316 ∧ r316 < 2147483648) ∧ (-2147483648 ≤ r319 ∧ r319 < 2147483648) ∧ (¬ r316 = r319 → P 0 J317 K318) ∧ (r316 = r319 → q_136 xs L (d + 7) v1 r9 1 J317 K318 (fun r325 J323 K324 => q_113 xs L (d + 7) v1 J323 K324 (fun r328 J326 K327 => (-2147483648 ≤ r325 ∧ r325 < 2147483648) ∧ (-2147483648 ≤ r328 ∧ r328 < 2147483648) ∧ (¬ r325 = r328 → P 0 J326 K327) ∧ (r325 = r328 → P 1 J326 K327))))))) ∧ (¬ r3 = 3 → (r3 = 4 → q_136 xs L (d + 7) v1 r6 1 J290 K291 (fun r335 J333 K334 => q_113 xs L (d + 7) v1 J333 K334 (fun r338 J336 K337 => (-2147483648 ≤ r335 ∧ r335 < 2147483648) ∧ (-2147483648 ≤ r338 ∧ r338 < 2147483648) ∧ (¬ r335 = r338 → P 0 J336 K337) ∧ (r335 = r338 → q_136 xs L (d + 7) v1 r9 1 J336 K337 (fun r344 J342 K343 => q_113 xs L (d + 7) v1 J342 K343 (fun r347 J345 K346 => (-2147483648 ≤ r344 ∧ r344 < 2147483648) ∧ (-2147483648 ≤ r347 ∧ r347 < 2147483648) ∧ (¬ r344 = r347 → P 0 J345 K346) ∧ (r344 = r347 → P 1 J345 K346))))))) ∧ (¬ r3 = 4 → (r3 = 5 → q_113 xs L (d + 7) v1 J290 K291 (fun r354 J352 K353 => (-2147483648 ≤ r354 ∧ r354 < 2147483648) ∧ (-2147483648 ≤ r292 ∧ r292 < 2147483648) ∧ (¬ r354 = r292 → P 0 J352 K353) ∧ (r354 = r292 → q_136 xs L (d + 7) v1 r6 2 J352 K353 (fun r360 J358 K359 => (-2147483648 ≤ r360 ∧ r360 < 2147483648) ∧ (¬ r360 = r292 → P 0 J358 K359) ∧ (r360 = r292 → P 1 J358 K359))))) ∧ (¬ r3 = 5 → (r3 = 6 → q_113 xs L (d + 7) v1 J290 K291 (fun r366 J364 K365 => q_113 xs L (d + 7) r6 J364 K365 (fun r369 J367 K368 => (-2147483648 ≤ r366 ∧ r366 < 2147483648) ∧ (-2147483648 ≤ (r369 - r292) ∧ (r369 - r292) < 2147483648) ∧ (¬ r366 = (r369 - r292) → P 0 J367 K368) ∧ (r366 = (r369 - r292) → q_136 xs L (d + 7) v1 r6 2 J367 K368 (fun r375 J373 K374 => q_113 xs L (d + 7) v1 J373 K374 (fun r378 J376 K377 => (-2147483648 ≤ r375 ∧ r375 < 2147483648) ∧ (-2147483648 ≤ r378 ∧ r378 < 2147483648) ∧ (¬ r375 = r378 → P 0 J376 K377) ∧ (r375 = r378 → P 1 J376 K377))))))) ∧ (¬ r3 = 6 → (r3 = 7 → q_113 xs L (d + 7) v1 J290 K291 (fun r385 J383 K384 => (-2147483648 ≤ r385 ∧ r385 < 2147483648) ∧ (-2147483648 ≤ r292 ∧ r292 < 2147483648) ∧ (¬ r385 = r292 → P 0 J383 K384) ∧ (r385 = r292 → q_136 xs L (d + 7) v1 r6 2 J383 K384 (fun r391 J389 K390 => (-2147483648 ≤ r391 ∧ r391 < 2147483648) ∧ (¬ r391 = r292 → P 0 J389 K390) ∧ (r391 = r292 → P 1 J389 K390))))) ∧ (¬ r3 = 7 → (r3 = 8 → q_113 xs L (d + 7) v1 J290 K291 (fun r397 J395 K396 => q_113 xs L (d + 7) r6 J395 K396 (fun r400 J398 K399 => (-2147483648 ≤ r397 ∧ r397 < 2147483648) ∧ (-2147483648 ≤ (r400 - r292) ∧ (r400 - r292) < 2147483648) ∧ (¬ r397 = (r400 - r292) → P 0 J398 K399) ∧ (r397 = (r400 - r292) → q_136 xs L (d + 7) v1 r6 2 J398 K399 (fun r406 J404 K405 => q_113 xs L (d + 7) v1 J404 K405 (fun r409 J407 K408 => (-2147483648 ≤ r406 ∧ r406 < 2147483648) ∧ (-2147483648 ≤ r409 ∧ r409 < 2147483648) ∧ (¬ r406 = r409 → P 0 J407 K408) ∧ (r406 = r409 → P 1 J407 K408))))))) ∧ (¬ r3 = 8 → (r3 = 9 → P 1 J290 K291) ∧ (¬ r3 = 9 → (r3 = 10 → q_123 xs L (d + 7) v1 1 J290 K291 (fun r417 J415 K416 => q_110 xs L (d + 7) v1 4 J415 K416 (fun r420 J418 K419 => (-2147483648 ≤ r417 ∧ r417 < 2147483648) ∧ (-2147483648 ≤ r420 ∧ r420 < 2147483648) ∧ (r420 < r417 → P 0 J418 K419) ∧ (r417 ≤ r420 → q_136 xs L (d + 7) v1 r6 2 J418 K419 (fun r426 J424 K425 => q_113 xs L (d + 7) v1 J424 K425 (fun r429 J427 K428 => (-2147483648 ≤ r426 ∧ r426 < 2147483648) ∧ (-2147483648 ≤ r429 ∧ r429 < 2147483648) ∧ (¬ r426 = r429 → P 0 J427 K428) ∧ (r426 = r429 → P 1 J427 K428))))))) ∧ (¬ r3 = 10 → P 1 J290 K291))))))))))) ∧ (7 ≤ r3 → q_136 xs L (d + 7) r6 r9 1 J7 K8 (fun r435 J433 K434 => (r3 = 2 → q_136 xs L (d + 7) r6 v1 1 J433 K434 (fun r440 J438 K439 => q_113 xs L (d + 7) r6 J438 K439 (fun r443 J441 K442 => (-2147483648 ≤ r440 ∧ r440 < 2147483648) ∧ (-2147483648 ≤ r443 ∧ r443 < 2147483648) ∧ (¬ r440 = r443 → P 0 J441 K442) ∧ (r440 = r443 → q_136 xs L (d + 7) r9 v1 1 J441 K442 (fun r449 J447 K448 => q_113 xs L (d + 7) r9 J447 K448 (fun r452 J450 K451 => (-2147483648 ≤ r449 ∧ r449 < 2147483648) ∧ (-2147483648 ≤ r452 ∧ r452 < 2147483648) ∧ (¬ r449 = r452 → P 0 J450 K451) ∧ (r449 = r452 → P 1 J450 K451))))))) ∧ (¬ r3 = 2 → (r3 = 3 → q_136 xs L (d + 7) v1 r6 1 J433 K434 (fun r459 J457 K458 => q_113 xs L (d + 7) v1 J457 K458 (fun r462 J460 K461 => (-2147483648 ≤ r459 ∧ r459 < 2147483648) ∧ (-2147483648 ≤ r462 ∧ r462 < 2147483648) ∧ (¬ r459 = r462 → P 0 J460 K461) ∧ (r459 = r462 → q_136 xs L (d + 7) v1 r9 1 J460 K461 (fun r468 J466 K467 => q_113 xs L (d + 7) v1 J466 K467 (fun r471 J469 K470 => (-2147483648 ≤ r468 ∧ r468 < 2147483648) ∧ (-2147483648 ≤ r471 ∧ r471 < 2147483648) ∧ (¬ r468 = r471 → P 0 J469 K470) ∧ (r468 = r471 → P 1 J469 K470))))))) ∧ (¬ r3 = 3 → (r3 = 4 → q_136 xs L (d + 7) v1 r6 1 J433 K434 (fun r478 J476 K477 => q_113 xs L (d + 7) v1 J476 K477 (fun r481 J479 K480 => (-2147483648 ≤ r478 ∧ r478 < 2147483648) ∧ (-2147483648 ≤ r481 ∧ r481 < 2147483648) ∧ (¬ r478 = r481 → P 0 J479 K480) ∧ (r478 = r481 → q_136 xs L (d + 7) v1 r9 1 J479 K480 (fun r487 J485 K486 => q_113 xs L (d + 7) v1 J485 K486 (fun r490 J488 K489 => (-2147483648 ≤ r487 ∧ r487 < 2147483648) ∧ (-2147483648 ≤ r490 ∧ r490 < 2147483648) ∧ (¬ r487 = r490 → P 0 J488 K489) ∧ (r487 = r490 → P 1 J488 K489))))))) ∧ (¬ r3 = 4 → (r3 = 5 → q_113 xs L (d + 7) v1 J433 K434 (fun r497 J495 K496 => (-2147483648 ≤ r497 ∧ r497 < 2147483648) ∧ (-2147483648 ≤ r435 ∧ r435 < 2147483648) ∧ (¬ r497 = r435 → P 0 J495 K496) ∧ (r497 = r435 → q_136 xs L (d + 7) v1 r6 2 J495 K496 (fun r503 J501 K502 => (-2147483648 ≤ r503 ∧ r503 < 2147483648) ∧ (¬ r503 = r435 → P 0 J501 K502) ∧ (r503 = r435 → P 1 J501 K502))))) ∧ (¬ r3 = 5 → (r3 = 6 → q_113 xs L (d + 7) v1 J433 K434 (fun r509 J507 K508 => q_113 xs L (d + 7) r6 J507 K508 (fun r512 J510 K511 => (-2147483648 ≤ r509 ∧ r509 < 2147483648) ∧ (-2147483648 ≤ (r512 - r435) ∧ (r512 - r435) < 2147483648) ∧ (¬ r509 = (r512 - r435) → P 0 J510 K511) ∧ (r509 = (r512 - r435) → q_136 xs L (d + 7) v1 r6 2 J510 K511 (fun r518 J516 K517 => q_113 xs L (d + 7) v1 J516 K517 (fun r521 J519 K520 => (-2147483648 ≤ r518 ∧ r518 < 2147483648) ∧ (-2147483648 ≤ r521 ∧ r521 < 2147483648) ∧ (¬ r518 = r521 → P 0 J519 K520) ∧ (r518 = r521 → P 1 J519 K520))))))) ∧ (¬ r3 = 6 → (r3 = 7 → q_113 xs L (d + 7) v1 J433 K434 (fun r528 J526 K527 => (-2147483648 ≤ r528 ∧ r528 < 2147483648) ∧ (-2147483648 ≤ r435 ∧ r435 < 2147483648) ∧ (¬ r528 = r435 → P 0 J526 K527) ∧ (r528 = r435 → q_136 xs L (d + 7) v1 r6 2 J526 K527 (fun r534 J532 K533 => (-2147483648 ≤ r534 ∧ r534 < 2147483648) ∧ (¬ r534 = r435 → P 0 J532 K533) ∧ (r534 = r435 → P 1 J532 K533))))) ∧ (¬ r3 = 7 → (r3 = 8 → q_113 xs L (d + 7) v1 J433 K434 (fun r540 J538 K539 => q_113 xs L (d + 7) r6 J538 K539 (fun r543 J541 K542 => (-2147483648 ≤ r540 ∧ r540 < 2147483648) ∧ (-2147483648 ≤ (r543 - r435) ∧ (r543 - r435) < 2147483648) ∧ (¬ r540 = (r543 - r435) → P 0 J541 K542) ∧ (r540 = (r543 - r435) → q_136 xs L (d + 7) v1 r6 2 J541 K542 (fun r549 J547 K548 => q_113 xs L (d + 7) v1 J547 K548 (fun r552 J550 K551 => (-2147483648 ≤ r549 ∧ r549 < 2147483648) ∧ (-2147483648 ≤ r552 ∧ r552 < 2147483648) ∧ (¬ r549 = r552 → P 0 J550 K551) ∧ (r549 = r552 → P 1 J550 K551))))))) ∧ (¬ r3 = 8 → (r3 = 9 → P 1 J433 K434) ∧ (¬ r3 = 9 → (r3 = 10 → q_123 xs L (d + 7) v1 1 J433 K434 (fun r560 J558 K559 => q_110 xs L (d + 7) v1 4 J558 K559 (fun r563 J561 K562 => (-2147483648 ≤ r560 ∧ r560 < 2147483648) ∧ (-2147483648 ≤ r563 ∧ r563 < 2147483648) ∧ (r563 < r560 → P 0 J561 K562) ∧ (r560 ≤ r563 → q_136 xs L (d + 7) v1 r6 2 J561 K562 (fun r569 J567 K568 => q_113 xs L (d + 7) v1 J567 K568 (fun r572 J570 K571 => (-2147483648 ≤ r569 ∧ r569 < 2147483648) ∧ (-2147483648 ≤ r572 ∧ r572 < 2147483648) ∧ (¬ r569 = r572 → P 0 J570 K571) ∧ (r569 = r572 → P 1 J570 K571))))))) ∧ (¬ r3 = 10 → P 1 J433 K434))))))))))))))))) : q_171 xs L (d + 8) v1 J K P := by
  unfold q_171
  refine jq_in (ls := [some (.ref 0), some (.int (Int32.ofInt v1)), none, none, none, none]) rfl (Nat.le_of_ble_eq_true rfl) rfl ?_
  refine jw_aload_n rfl rfl ?_
  refine jw_iload_n rfl rfl ?_
  refine jw_iconst rfl ?_
  refine jw_virt (k := 2) (c := 18) (as := [.int (Int32.ofInt v1), .int (Int32.ofInt 0)]) rfl rfl rfl (Nat.le_of_ble_eq_true rfl) rfl (Nat.le_of_ble_eq_true rfl) rfl rfl (jz_ci ?_)
  refine jm_Q.mono h (jp_i_mono (fun r3 J1 K2 h => ?_))
  refine jw_istore_n (ls' := [some (.ref 0), some (.int (Int32.ofInt v1)), some (.int (Int32.ofInt r3)), none, none, none]) rfl rfl ?_
  refine jw_aload_n rfl rfl ?_
  refine jw_iload_n rfl rfl ?_
  refine jw_iconst rfl ?_
  refine jw_virt (k := 2) (c := 18) (as := [.int (Int32.ofInt v1), .int (Int32.ofInt 1)]) rfl rfl rfl (Nat.le_of_ble_eq_true rfl) rfl (Nat.le_of_ble_eq_true rfl) rfl rfl (jz_ci ?_)
  refine jm_Q.mono h (jp_i_mono (fun r6 J4 K5 h => ?_))
  refine jw_istore_n (ls' := [some (.ref 0), some (.int (Int32.ofInt v1)), some (.int (Int32.ofInt r3)), some (.int (Int32.ofInt r6)), none, none]) rfl rfl ?_
  refine jw_aload_n rfl rfl ?_
  refine jw_iload_n rfl rfl ?_
  refine jw_iconst rfl ?_
  refine jw_virt (k := 2) (c := 18) (as := [.int (Int32.ofInt v1), .int (Int32.ofInt 2)]) rfl rfl rfl (Nat.le_of_ble_eq_true rfl) rfl (Nat.le_of_ble_eq_true rfl) rfl rfl (jz_ci ?_)
  refine jm_Q.mono h (jp_i_mono (fun r9 J7 K8 h => ?_))
  refine jw_istore (ls' := [some (.ref 0), some (.int (Int32.ofInt v1)), some (.int (Int32.ofInt r3)), some (.int (Int32.ofInt r6)), some (.int (Int32.ofInt r9)), none]) rfl rfl ?_
  refine jw_iload_n rfl rfl ?_
  refine jw_iconst rfl ?_
  obtain ⟨o10, h⟩ := h
  refine jw_ic_lt rfl o10 (by omega) (fun c11 => ?_) (fun c11 => ?_)
  · replace h := h.1 c11
    refine jw_iconst rfl ?_
    refine jw_istore (ls' := [some (.ref 0), some (.int (Int32.ofInt v1)), some (.int (Int32.ofInt r3)), some (.int (Int32.ofInt r6)), some (.int (Int32.ofInt r9)), some (.int (Int32.ofInt 0))]) rfl rfl ?_
    refine jw_iload_n rfl rfl ?_
    by_cases c13 : r3 = 2
    · replace h := h.1 c13
      refine jw_tab_in (pc2 := 173) (v := 2) (o := 115) rfl o10 c13 (by omega) rfl (by omega) ?_
      refine jw_aload_n rfl rfl ?_
      refine jw_iload_n rfl rfl ?_
      refine jw_iload_n rfl rfl ?_
      refine jw_iconst rfl ?_
      refine jw_virt (k := 3) (c := 18) (as := [.int (Int32.ofInt r6), .int (Int32.ofInt v1), .int (Int32.ofInt 1)]) rfl rfl rfl (Nat.le_of_ble_eq_true rfl) rfl (Nat.le_of_ble_eq_true rfl) rfl rfl (jz_ci ?_)
      refine jm_Q.mono h (jp_i_mono (fun r16 J14 K15 h => ?_))
      refine jw_aload_n rfl rfl ?_
      refine jw_iload_n rfl rfl ?_
      refine jw_virt (k := 1) (c := 18) (as := [.int (Int32.ofInt r6)]) rfl rfl rfl (Nat.le_of_ble_eq_true rfl) rfl (Nat.le_of_ble_eq_true rfl) rfl rfl (jz_ci ?_)
      refine jm_Q.mono h (jp_i_mono (fun r19 J17 K18 h => ?_))
      obtain ⟨o20, h⟩ := h
      obtain ⟨o21, h⟩ := h
      refine jw_ic_ne rfl o20 o21 (fun c22 => ?_) (fun c22 => ?_)
      · replace h := h.1 c22
        refine jw_iconst rfl ?_
        refine jw_zret rfl (by omega) ?_
        exact h
      · replace h := h.2 c22
        refine jw_aload_n rfl rfl ?_
        refine jw_iload rfl rfl ?_
        refine jw_iload_n rfl rfl ?_
        refine jw_iconst rfl ?_
        refine jw_virt (k := 3) (c := 18) (as := [.int (Int32.ofInt r9), .int (Int32.ofInt v1), .int (Int32.ofInt 1)]) rfl rfl rfl (Nat.le_of_ble_eq_true rfl) rfl (Nat.le_of_ble_eq_true rfl) rfl rfl (jz_ci ?_)
        refine jm_Q.mono h (jp_i_mono (fun r25 J23 K24 h => ?_))
        refine jw_aload_n rfl rfl ?_
        refine jw_iload rfl rfl ?_
        refine jw_virt (k := 1) (c := 18) (as := [.int (Int32.ofInt r9)]) rfl rfl rfl (Nat.le_of_ble_eq_true rfl) rfl (Nat.le_of_ble_eq_true rfl) rfl rfl (jz_ci ?_)
        refine jm_Q.mono h (jp_i_mono (fun r28 J26 K27 h => ?_))
        obtain ⟨o29, h⟩ := h
        obtain ⟨o30, h⟩ := h
        refine jw_ic_ne rfl o29 o30 (fun c31 => ?_) (fun c31 => ?_)
        · replace h := h.1 c31
          refine jw_iconst rfl ?_
          refine jw_zret rfl (by omega) ?_
          exact h
        · replace h := h.2 c31
          refine jw_iconst rfl ?_
          refine jw_goto rfl ?_
          refine jw_zret rfl (by omega) ?_
          exact h
    · replace h := h.2 c13
      by_cases c32 : r3 = 3
      · replace h := h.1 c32
        refine jw_tab_in (pc2 := 211) (v := 3) (o := 153) rfl o10 c32 (by omega) rfl (by omega) ?_
        refine jw_aload_n rfl rfl ?_
        refine jw_iload_n rfl rfl ?_
        refine jw_iload_n rfl rfl ?_
        refine jw_iconst rfl ?_
        refine jw_virt (k := 3) (c := 18) (as := [.int (Int32.ofInt v1), .int (Int32.ofInt r6), .int (Int32.ofInt 1)]) rfl rfl rfl (Nat.le_of_ble_eq_true rfl) rfl (Nat.le_of_ble_eq_true rfl) rfl rfl (jz_ci ?_)
        refine jm_Q.mono h (jp_i_mono (fun r35 J33 K34 h => ?_))
        refine jw_aload_n rfl rfl ?_
        refine jw_iload_n rfl rfl ?_
        refine jw_virt (k := 1) (c := 18) (as := [.int (Int32.ofInt v1)]) rfl rfl rfl (Nat.le_of_ble_eq_true rfl) rfl (Nat.le_of_ble_eq_true rfl) rfl rfl (jz_ci ?_)
        refine jm_Q.mono h (jp_i_mono (fun r38 J36 K37 h => ?_))
        obtain ⟨o39, h⟩ := h
        obtain ⟨o40, h⟩ := h
        refine jw_ic_ne rfl o39 o40 (fun c41 => ?_) (fun c41 => ?_)
        · replace h := h.1 c41
          refine jw_iconst rfl ?_
          refine jw_zret rfl (by omega) ?_
          exact h
        · replace h := h.2 c41
          refine jw_aload_n rfl rfl ?_
          refine jw_iload_n rfl rfl ?_
          refine jw_iload rfl rfl ?_
          refine jw_iconst rfl ?_
          refine jw_virt (k := 3) (c := 18) (as := [.int (Int32.ofInt v1), .int (Int32.ofInt r9), .int (Int32.ofInt 1)]) rfl rfl rfl (Nat.le_of_ble_eq_true rfl) rfl (Nat.le_of_ble_eq_true rfl) rfl rfl (jz_ci ?_)
          refine jm_Q.mono h (jp_i_mono (fun r44 J42 K43 h => ?_))
          refine jw_aload_n rfl rfl ?_
          refine jw_iload_n rfl rfl ?_
          refine jw_virt (k := 1) (c := 18) (as := [.int (Int32.ofInt v1)]) rfl rfl rfl (Nat.le_of_ble_eq_true rfl) rfl (Nat.le_of_ble_eq_true rfl) rfl rfl (jz_ci ?_)
          refine jm_Q.mono h (jp_i_mono (fun r47 J45 K46 h => ?_))
          obtain ⟨o48, h⟩ := h
          obtain ⟨o49, h⟩ := h
          refine jw_ic_ne rfl o48 o49 (fun c50 => ?_) (fun c50 => ?_)
          · replace h := h.1 c50
            refine jw_iconst rfl ?_
            refine jw_zret rfl (by omega) ?_
            exact h
          · replace h := h.2 c50
            refine jw_iconst rfl ?_
            refine jw_goto rfl ?_
            refine jw_zret rfl (by omega) ?_
            exact h
      · replace h := h.2 c32
        by_cases c51 : r3 = 4
        · replace h := h.1 c51
          refine jw_tab_in (pc2 := 211) (v := 4) (o := 153) rfl o10 c51 (by omega) rfl (by omega) ?_
          refine jw_aload_n rfl rfl ?_
          refine jw_iload_n rfl rfl ?_
          refine jw_iload_n rfl rfl ?_
          refine jw_iconst rfl ?_
          refine jw_virt (k := 3) (c := 18) (as := [.int (Int32.ofInt v1), .int (Int32.ofInt r6), .int (Int32.ofInt 1)]) rfl rfl rfl (Nat.le_of_ble_eq_true rfl) rfl (Nat.le_of_ble_eq_true rfl) rfl rfl (jz_ci ?_)
          refine jm_Q.mono h (jp_i_mono (fun r54 J52 K53 h => ?_))
          refine jw_aload_n rfl rfl ?_
          refine jw_iload_n rfl rfl ?_
          refine jw_virt (k := 1) (c := 18) (as := [.int (Int32.ofInt v1)]) rfl rfl rfl (Nat.le_of_ble_eq_true rfl) rfl (Nat.le_of_ble_eq_true rfl) rfl rfl (jz_ci ?_)
          refine jm_Q.mono h (jp_i_mono (fun r57 J55 K56 h => ?_))
          obtain ⟨o58, h⟩ := h
          obtain ⟨o59, h⟩ := h
          refine jw_ic_ne rfl o58 o59 (fun c60 => ?_) (fun c60 => ?_)
          · replace h := h.1 c60
            refine jw_iconst rfl ?_
            refine jw_zret rfl (by omega) ?_
            exact h
          · replace h := h.2 c60
            refine jw_aload_n rfl rfl ?_
            refine jw_iload_n rfl rfl ?_
            refine jw_iload rfl rfl ?_
            refine jw_iconst rfl ?_
            refine jw_virt (k := 3) (c := 18) (as := [.int (Int32.ofInt v1), .int (Int32.ofInt r9), .int (Int32.ofInt 1)]) rfl rfl rfl (Nat.le_of_ble_eq_true rfl) rfl (Nat.le_of_ble_eq_true rfl) rfl rfl (jz_ci ?_)
            refine jm_Q.mono h (jp_i_mono (fun r63 J61 K62 h => ?_))
            refine jw_aload_n rfl rfl ?_
            refine jw_iload_n rfl rfl ?_
            refine jw_virt (k := 1) (c := 18) (as := [.int (Int32.ofInt v1)]) rfl rfl rfl (Nat.le_of_ble_eq_true rfl) rfl (Nat.le_of_ble_eq_true rfl) rfl rfl (jz_ci ?_)
            refine jm_Q.mono h (jp_i_mono (fun r66 J64 K65 h => ?_))
            obtain ⟨o67, h⟩ := h
            obtain ⟨o68, h⟩ := h
            refine jw_ic_ne rfl o67 o68 (fun c69 => ?_) (fun c69 => ?_)
            · replace h := h.1 c69
              refine jw_iconst rfl ?_
              refine jw_zret rfl (by omega) ?_
              exact h
            · replace h := h.2 c69
              refine jw_iconst rfl ?_
              refine jw_goto rfl ?_
              refine jw_zret rfl (by omega) ?_
              exact h
        · replace h := h.2 c51
          by_cases c70 : r3 = 5
          · replace h := h.1 c70
            refine jw_tab_in (pc2 := 108) (v := 5) (o := 50) rfl o10 c70 (by omega) rfl (by omega) ?_
            refine jw_aload_n rfl rfl ?_
            refine jw_iload_n rfl rfl ?_
            refine jw_virt (k := 1) (c := 18) (as := [.int (Int32.ofInt v1)]) rfl rfl rfl (Nat.le_of_ble_eq_true rfl) rfl (Nat.le_of_ble_eq_true rfl) rfl rfl (jz_ci ?_)
            refine jm_Q.mono h (jp_i_mono (fun r73 J71 K72 h => ?_))
            refine jw_iload rfl rfl ?_
            obtain ⟨o74, h⟩ := h
            refine jw_ic_ne rfl o74 (by omega) (fun c75 => ?_) (fun c75 => ?_)
            · replace h := h.1 c75
              refine jw_iconst rfl ?_
              refine jw_zret rfl (by omega) ?_
              exact h
            · replace h := h.2 c75
              refine jw_aload_n rfl rfl ?_
              refine jw_iload_n rfl rfl ?_
              refine jw_iload_n rfl rfl ?_
              refine jw_iconst rfl ?_
              refine jw_virt (k := 3) (c := 18) (as := [.int (Int32.ofInt v1), .int (Int32.ofInt r6), .int (Int32.ofInt 2)]) rfl rfl rfl (Nat.le_of_ble_eq_true rfl) rfl (Nat.le_of_ble_eq_true rfl) rfl rfl (jz_ci ?_)
              refine jm_Q.mono h (jp_i_mono (fun r78 J76 K77 h => ?_))
              refine jw_iload rfl rfl ?_
              obtain ⟨o79, h⟩ := h
              refine jw_ic_ne rfl o79 (by omega) (fun c80 => ?_) (fun c80 => ?_)
              · replace h := h.1 c80
                refine jw_iconst rfl ?_
                refine jw_zret rfl (by omega) ?_
                exact h
              · replace h := h.2 c80
                refine jw_iconst rfl ?_
                refine jw_goto rfl ?_
                refine jw_zret rfl (by omega) ?_
                exact h
          · replace h := h.2 c70
            by_cases c81 : r3 = 6
            · replace h := h.1 c81
              refine jw_tab_in (pc2 := 136) (v := 6) (o := 78) rfl o10 c81 (by omega) rfl (by omega) ?_
              refine jw_aload_n rfl rfl ?_
              refine jw_iload_n rfl rfl ?_
              refine jw_virt (k := 1) (c := 18) (as := [.int (Int32.ofInt v1)]) rfl rfl rfl (Nat.le_of_ble_eq_true rfl) rfl (Nat.le_of_ble_eq_true rfl) rfl rfl (jz_ci ?_)
              refine jm_Q.mono h (jp_i_mono (fun r84 J82 K83 h => ?_))
              refine jw_aload_n rfl rfl ?_
              refine jw_iload_n rfl rfl ?_
              refine jw_virt (k := 1) (c := 18) (as := [.int (Int32.ofInt r6)]) rfl rfl rfl (Nat.le_of_ble_eq_true rfl) rfl (Nat.le_of_ble_eq_true rfl) rfl rfl (jz_ci ?_)
              refine jm_Q.mono h (jp_i_mono (fun r87 J85 K86 h => ?_))
              refine jw_iload rfl rfl ?_
              refine jw_isub rfl ?_
              obtain ⟨o88, h⟩ := h
              obtain ⟨o89, h⟩ := h
              refine jw_ic_ne rfl o88 o89 (fun c90 => ?_) (fun c90 => ?_)
              · replace h := h.1 c90
                refine jw_iconst rfl ?_
                refine jw_zret rfl (by omega) ?_
                exact h
              · replace h := h.2 c90
                refine jw_aload_n rfl rfl ?_
                refine jw_iload_n rfl rfl ?_
                refine jw_iload_n rfl rfl ?_
                refine jw_iconst rfl ?_
                refine jw_virt (k := 3) (c := 18) (as := [.int (Int32.ofInt v1), .int (Int32.ofInt r6), .int (Int32.ofInt 2)]) rfl rfl rfl (Nat.le_of_ble_eq_true rfl) rfl (Nat.le_of_ble_eq_true rfl) rfl rfl (jz_ci ?_)
                refine jm_Q.mono h (jp_i_mono (fun r93 J91 K92 h => ?_))
                refine jw_aload_n rfl rfl ?_
                refine jw_iload_n rfl rfl ?_
                refine jw_virt (k := 1) (c := 18) (as := [.int (Int32.ofInt v1)]) rfl rfl rfl (Nat.le_of_ble_eq_true rfl) rfl (Nat.le_of_ble_eq_true rfl) rfl rfl (jz_ci ?_)
                refine jm_Q.mono h (jp_i_mono (fun r96 J94 K95 h => ?_))
                obtain ⟨o97, h⟩ := h
                obtain ⟨o98, h⟩ := h
                refine jw_ic_ne rfl o97 o98 (fun c99 => ?_) (fun c99 => ?_)
                · replace h := h.1 c99
                  refine jw_iconst rfl ?_
                  refine jw_zret rfl (by omega) ?_
                  exact h
                · replace h := h.2 c99
                  refine jw_iconst rfl ?_
                  refine jw_goto rfl ?_
                  refine jw_zret rfl (by omega) ?_
                  exact h
            · replace h := h.2 c81
              by_cases c100 : r3 = 7
              · replace h := h.1 c100
                refine jw_tab_in (pc2 := 108) (v := 7) (o := 50) rfl o10 c100 (by omega) rfl (by omega) ?_
                refine jw_aload_n rfl rfl ?_
                refine jw_iload_n rfl rfl ?_
                refine jw_virt (k := 1) (c := 18) (as := [.int (Int32.ofInt v1)]) rfl rfl rfl (Nat.le_of_ble_eq_true rfl) rfl (Nat.le_of_ble_eq_true rfl) rfl rfl (jz_ci ?_)
                refine jm_Q.mono h (jp_i_mono (fun r103 J101 K102 h => ?_))
                refine jw_iload rfl rfl ?_
                obtain ⟨o104, h⟩ := h
                refine jw_ic_ne rfl o104 (by omega) (fun c105 => ?_) (fun c105 => ?_)
                · replace h := h.1 c105
                  refine jw_iconst rfl ?_
                  refine jw_zret rfl (by omega) ?_
                  exact h
                · replace h := h.2 c105
                  refine jw_aload_n rfl rfl ?_
                  refine jw_iload_n rfl rfl ?_
                  refine jw_iload_n rfl rfl ?_
                  refine jw_iconst rfl ?_
                  refine jw_virt (k := 3) (c := 18) (as := [.int (Int32.ofInt v1), .int (Int32.ofInt r6), .int (Int32.ofInt 2)]) rfl rfl rfl (Nat.le_of_ble_eq_true rfl) rfl (Nat.le_of_ble_eq_true rfl) rfl rfl (jz_ci ?_)
                  refine jm_Q.mono h (jp_i_mono (fun r108 J106 K107 h => ?_))
                  refine jw_iload rfl rfl ?_
                  obtain ⟨o109, h⟩ := h
                  refine jw_ic_ne rfl o109 (by omega) (fun c110 => ?_) (fun c110 => ?_)
                  · replace h := h.1 c110
                    refine jw_iconst rfl ?_
                    refine jw_zret rfl (by omega) ?_
                    exact h
                  · replace h := h.2 c110
                    refine jw_iconst rfl ?_
                    refine jw_goto rfl ?_
                    refine jw_zret rfl (by omega) ?_
                    exact h
              · replace h := h.2 c100
                by_cases c111 : r3 = 8
                · replace h := h.1 c111
                  refine jw_tab_in (pc2 := 136) (v := 8) (o := 78) rfl o10 c111 (by omega) rfl (by omega) ?_
                  refine jw_aload_n rfl rfl ?_
                  refine jw_iload_n rfl rfl ?_
                  refine jw_virt (k := 1) (c := 18) (as := [.int (Int32.ofInt v1)]) rfl rfl rfl (Nat.le_of_ble_eq_true rfl) rfl (Nat.le_of_ble_eq_true rfl) rfl rfl (jz_ci ?_)
                  refine jm_Q.mono h (jp_i_mono (fun r114 J112 K113 h => ?_))
                  refine jw_aload_n rfl rfl ?_
                  refine jw_iload_n rfl rfl ?_
                  refine jw_virt (k := 1) (c := 18) (as := [.int (Int32.ofInt r6)]) rfl rfl rfl (Nat.le_of_ble_eq_true rfl) rfl (Nat.le_of_ble_eq_true rfl) rfl rfl (jz_ci ?_)
                  refine jm_Q.mono h (jp_i_mono (fun r117 J115 K116 h => ?_))
                  refine jw_iload rfl rfl ?_
                  refine jw_isub rfl ?_
                  obtain ⟨o118, h⟩ := h
                  obtain ⟨o119, h⟩ := h
                  refine jw_ic_ne rfl o118 o119 (fun c120 => ?_) (fun c120 => ?_)
                  · replace h := h.1 c120
                    refine jw_iconst rfl ?_
                    refine jw_zret rfl (by omega) ?_
                    exact h
                  · replace h := h.2 c120
                    refine jw_aload_n rfl rfl ?_
                    refine jw_iload_n rfl rfl ?_
                    refine jw_iload_n rfl rfl ?_
                    refine jw_iconst rfl ?_
                    refine jw_virt (k := 3) (c := 18) (as := [.int (Int32.ofInt v1), .int (Int32.ofInt r6), .int (Int32.ofInt 2)]) rfl rfl rfl (Nat.le_of_ble_eq_true rfl) rfl (Nat.le_of_ble_eq_true rfl) rfl rfl (jz_ci ?_)
                    refine jm_Q.mono h (jp_i_mono (fun r123 J121 K122 h => ?_))
                    refine jw_aload_n rfl rfl ?_
                    refine jw_iload_n rfl rfl ?_
                    refine jw_virt (k := 1) (c := 18) (as := [.int (Int32.ofInt v1)]) rfl rfl rfl (Nat.le_of_ble_eq_true rfl) rfl (Nat.le_of_ble_eq_true rfl) rfl rfl (jz_ci ?_)
                    refine jm_Q.mono h (jp_i_mono (fun r126 J124 K125 h => ?_))
                    obtain ⟨o127, h⟩ := h
                    obtain ⟨o128, h⟩ := h
                    refine jw_ic_ne rfl o127 o128 (fun c129 => ?_) (fun c129 => ?_)
                    · replace h := h.1 c129
                      refine jw_iconst rfl ?_
                      refine jw_zret rfl (by omega) ?_
                      exact h
                    · replace h := h.2 c129
                      refine jw_iconst rfl ?_
                      refine jw_goto rfl ?_
                      refine jw_zret rfl (by omega) ?_
                      exact h
                · replace h := h.2 c111
                  by_cases c130 : r3 = 9
                  · replace h := h.1 c130
                    refine jw_tab_in (pc2 := 284) (v := 9) (o := 226) rfl o10 c130 (by omega) rfl (by omega) ?_
                    refine jw_iconst rfl ?_
                    refine jw_zret rfl (by omega) ?_
                    exact h
                  · replace h := h.2 c130
                    by_cases c131 : r3 = 10
                    · replace h := h.1 c131
                      refine jw_tab_in (pc2 := 248) (v := 10) (o := 190) rfl o10 c131 (by omega) rfl (by omega) ?_
                      refine jw_aload_n rfl rfl ?_
                      refine jw_iload_n rfl rfl ?_
                      refine jw_iconst rfl ?_
                      refine jw_virt (k := 2) (c := 18) (as := [.int (Int32.ofInt v1), .int (Int32.ofInt 1)]) rfl rfl rfl (Nat.le_of_ble_eq_true rfl) rfl (Nat.le_of_ble_eq_true rfl) rfl rfl (jz_ci ?_)
                      refine jm_Q.mono h (jp_i_mono (fun r134 J132 K133 h => ?_))
                      refine jw_aload_n rfl rfl ?_
                      refine jw_iload_n rfl rfl ?_
                      refine jw_iconst rfl ?_
                      refine jw_virt (k := 2) (c := 18) (as := [.int (Int32.ofInt v1), .int (Int32.ofInt 4)]) rfl rfl rfl (Nat.le_of_ble_eq_true rfl) rfl (Nat.le_of_ble_eq_true rfl) rfl rfl (jz_ci ?_)
                      refine jm_Q.mono h (jp_i_mono (fun r137 J135 K136 h => ?_))
                      obtain ⟨o138, h⟩ := h
                      obtain ⟨o139, h⟩ := h
                      refine jw_ic_gt rfl o138 o139 (fun c140 => ?_) (fun c140 => ?_)
                      · replace h := h.1 c140
                        refine jw_iconst rfl ?_
                        refine jw_zret rfl (by omega) ?_
                        exact h
                      · replace h := h.2 c140
                        refine jw_aload_n rfl rfl ?_
                        refine jw_iload_n rfl rfl ?_
                        refine jw_iload_n rfl rfl ?_
                        refine jw_iconst rfl ?_
                        refine jw_virt (k := 3) (c := 18) (as := [.int (Int32.ofInt v1), .int (Int32.ofInt r6), .int (Int32.ofInt 2)]) rfl rfl rfl (Nat.le_of_ble_eq_true rfl) rfl (Nat.le_of_ble_eq_true rfl) rfl rfl (jz_ci ?_)
                        refine jm_Q.mono h (jp_i_mono (fun r143 J141 K142 h => ?_))
                        refine jw_aload_n rfl rfl ?_
                        refine jw_iload_n rfl rfl ?_
                        refine jw_virt (k := 1) (c := 18) (as := [.int (Int32.ofInt v1)]) rfl rfl rfl (Nat.le_of_ble_eq_true rfl) rfl (Nat.le_of_ble_eq_true rfl) rfl rfl (jz_ci ?_)
                        refine jm_Q.mono h (jp_i_mono (fun r146 J144 K145 h => ?_))
                        obtain ⟨o147, h⟩ := h
                        obtain ⟨o148, h⟩ := h
                        refine jw_ic_ne rfl o147 o148 (fun c149 => ?_) (fun c149 => ?_)
                        · replace h := h.1 c149
                          refine jw_iconst rfl ?_
                          refine jw_zret rfl (by omega) ?_
                          exact h
                        · replace h := h.2 c149
                          refine jw_iconst rfl ?_
                          refine jw_goto rfl ?_
                          refine jw_zret rfl (by omega) ?_
                          exact h
                    · replace h := h.2 c131
                      refine jw_tab_out (pc2 := 284) rfl o10 (by omega) (by omega) ?_
                      refine jw_iconst rfl ?_
                      refine jw_zret rfl (by omega) ?_
                      exact h
  · replace h := h.2 c11
    refine jw_iload_n rfl rfl ?_
    refine jw_bipush rfl (by decide) ?_
    refine jw_ic_gt rfl o10 (by omega) (fun c150 => ?_) (fun c150 => ?_)
    · replace h := h.1 c150
      refine jw_iconst rfl ?_
      refine jw_istore (ls' := [some (.ref 0), some (.int (Int32.ofInt v1)), some (.int (Int32.ofInt r3)), some (.int (Int32.ofInt r6)), some (.int (Int32.ofInt r9)), some (.int (Int32.ofInt 0))]) rfl rfl ?_
      refine jw_iload_n rfl rfl ?_
      by_cases c152 : r3 = 2
      · replace h := h.1 c152
        refine jw_tab_in (pc2 := 173) (v := 2) (o := 115) rfl o10 c152 (by omega) rfl (by omega) ?_
        refine jw_aload_n rfl rfl ?_
        refine jw_iload_n rfl rfl ?_
        refine jw_iload_n rfl rfl ?_
        refine jw_iconst rfl ?_
        refine jw_virt (k := 3) (c := 18) (as := [.int (Int32.ofInt r6), .int (Int32.ofInt v1), .int (Int32.ofInt 1)]) rfl rfl rfl (Nat.le_of_ble_eq_true rfl) rfl (Nat.le_of_ble_eq_true rfl) rfl rfl (jz_ci ?_)
        refine jm_Q.mono h (jp_i_mono (fun r155 J153 K154 h => ?_))
        refine jw_aload_n rfl rfl ?_
        refine jw_iload_n rfl rfl ?_
        refine jw_virt (k := 1) (c := 18) (as := [.int (Int32.ofInt r6)]) rfl rfl rfl (Nat.le_of_ble_eq_true rfl) rfl (Nat.le_of_ble_eq_true rfl) rfl rfl (jz_ci ?_)
        refine jm_Q.mono h (jp_i_mono (fun r158 J156 K157 h => ?_))
        obtain ⟨o159, h⟩ := h
        obtain ⟨o160, h⟩ := h
        refine jw_ic_ne rfl o159 o160 (fun c161 => ?_) (fun c161 => ?_)
        · replace h := h.1 c161
          refine jw_iconst rfl ?_
          refine jw_zret rfl (by omega) ?_
          exact h
        · replace h := h.2 c161
          refine jw_aload_n rfl rfl ?_
          refine jw_iload rfl rfl ?_
          refine jw_iload_n rfl rfl ?_
          refine jw_iconst rfl ?_
          refine jw_virt (k := 3) (c := 18) (as := [.int (Int32.ofInt r9), .int (Int32.ofInt v1), .int (Int32.ofInt 1)]) rfl rfl rfl (Nat.le_of_ble_eq_true rfl) rfl (Nat.le_of_ble_eq_true rfl) rfl rfl (jz_ci ?_)
          refine jm_Q.mono h (jp_i_mono (fun r164 J162 K163 h => ?_))
          refine jw_aload_n rfl rfl ?_
          refine jw_iload rfl rfl ?_
          refine jw_virt (k := 1) (c := 18) (as := [.int (Int32.ofInt r9)]) rfl rfl rfl (Nat.le_of_ble_eq_true rfl) rfl (Nat.le_of_ble_eq_true rfl) rfl rfl (jz_ci ?_)
          refine jm_Q.mono h (jp_i_mono (fun r167 J165 K166 h => ?_))
          obtain ⟨o168, h⟩ := h
          obtain ⟨o169, h⟩ := h
          refine jw_ic_ne rfl o168 o169 (fun c170 => ?_) (fun c170 => ?_)
          · replace h := h.1 c170
            refine jw_iconst rfl ?_
            refine jw_zret rfl (by omega) ?_
            exact h
          · replace h := h.2 c170
            refine jw_iconst rfl ?_
            refine jw_goto rfl ?_
            refine jw_zret rfl (by omega) ?_
            exact h
      · replace h := h.2 c152
        by_cases c171 : r3 = 3
        · replace h := h.1 c171
          refine jw_tab_in (pc2 := 211) (v := 3) (o := 153) rfl o10 c171 (by omega) rfl (by omega) ?_
          refine jw_aload_n rfl rfl ?_
          refine jw_iload_n rfl rfl ?_
          refine jw_iload_n rfl rfl ?_
          refine jw_iconst rfl ?_
          refine jw_virt (k := 3) (c := 18) (as := [.int (Int32.ofInt v1), .int (Int32.ofInt r6), .int (Int32.ofInt 1)]) rfl rfl rfl (Nat.le_of_ble_eq_true rfl) rfl (Nat.le_of_ble_eq_true rfl) rfl rfl (jz_ci ?_)
          refine jm_Q.mono h (jp_i_mono (fun r174 J172 K173 h => ?_))
          refine jw_aload_n rfl rfl ?_
          refine jw_iload_n rfl rfl ?_
          refine jw_virt (k := 1) (c := 18) (as := [.int (Int32.ofInt v1)]) rfl rfl rfl (Nat.le_of_ble_eq_true rfl) rfl (Nat.le_of_ble_eq_true rfl) rfl rfl (jz_ci ?_)
          refine jm_Q.mono h (jp_i_mono (fun r177 J175 K176 h => ?_))
          obtain ⟨o178, h⟩ := h
          obtain ⟨o179, h⟩ := h
          refine jw_ic_ne rfl o178 o179 (fun c180 => ?_) (fun c180 => ?_)
          · replace h := h.1 c180
            refine jw_iconst rfl ?_
            refine jw_zret rfl (by omega) ?_
            exact h
          · replace h := h.2 c180
            refine jw_aload_n rfl rfl ?_
            refine jw_iload_n rfl rfl ?_
            refine jw_iload rfl rfl ?_
            refine jw_iconst rfl ?_
            refine jw_virt (k := 3) (c := 18) (as := [.int (Int32.ofInt v1), .int (Int32.ofInt r9), .int (Int32.ofInt 1)]) rfl rfl rfl (Nat.le_of_ble_eq_true rfl) rfl (Nat.le_of_ble_eq_true rfl) rfl rfl (jz_ci ?_)
            refine jm_Q.mono h (jp_i_mono (fun r183 J181 K182 h => ?_))
            refine jw_aload_n rfl rfl ?_
            refine jw_iload_n rfl rfl ?_
            refine jw_virt (k := 1) (c := 18) (as := [.int (Int32.ofInt v1)]) rfl rfl rfl (Nat.le_of_ble_eq_true rfl) rfl (Nat.le_of_ble_eq_true rfl) rfl rfl (jz_ci ?_)
            refine jm_Q.mono h (jp_i_mono (fun r186 J184 K185 h => ?_))
            obtain ⟨o187, h⟩ := h
            obtain ⟨o188, h⟩ := h
            refine jw_ic_ne rfl o187 o188 (fun c189 => ?_) (fun c189 => ?_)
            · replace h := h.1 c189
              refine jw_iconst rfl ?_
              refine jw_zret rfl (by omega) ?_
              exact h
            · replace h := h.2 c189
              refine jw_iconst rfl ?_
              refine jw_goto rfl ?_
              refine jw_zret rfl (by omega) ?_
              exact h
        · replace h := h.2 c171
          by_cases c190 : r3 = 4
          · replace h := h.1 c190
            refine jw_tab_in (pc2 := 211) (v := 4) (o := 153) rfl o10 c190 (by omega) rfl (by omega) ?_
            refine jw_aload_n rfl rfl ?_
            refine jw_iload_n rfl rfl ?_
            refine jw_iload_n rfl rfl ?_
            refine jw_iconst rfl ?_
            refine jw_virt (k := 3) (c := 18) (as := [.int (Int32.ofInt v1), .int (Int32.ofInt r6), .int (Int32.ofInt 1)]) rfl rfl rfl (Nat.le_of_ble_eq_true rfl) rfl (Nat.le_of_ble_eq_true rfl) rfl rfl (jz_ci ?_)
            refine jm_Q.mono h (jp_i_mono (fun r193 J191 K192 h => ?_))
            refine jw_aload_n rfl rfl ?_
            refine jw_iload_n rfl rfl ?_
            refine jw_virt (k := 1) (c := 18) (as := [.int (Int32.ofInt v1)]) rfl rfl rfl (Nat.le_of_ble_eq_true rfl) rfl (Nat.le_of_ble_eq_true rfl) rfl rfl (jz_ci ?_)
            refine jm_Q.mono h (jp_i_mono (fun r196 J194 K195 h => ?_))
            obtain ⟨o197, h⟩ := h
            obtain ⟨o198, h⟩ := h
            refine jw_ic_ne rfl o197 o198 (fun c199 => ?_) (fun c199 => ?_)
            · replace h := h.1 c199
              refine jw_iconst rfl ?_
              refine jw_zret rfl (by omega) ?_
              exact h
            · replace h := h.2 c199
              refine jw_aload_n rfl rfl ?_
              refine jw_iload_n rfl rfl ?_
              refine jw_iload rfl rfl ?_
              refine jw_iconst rfl ?_
              refine jw_virt (k := 3) (c := 18) (as := [.int (Int32.ofInt v1), .int (Int32.ofInt r9), .int (Int32.ofInt 1)]) rfl rfl rfl (Nat.le_of_ble_eq_true rfl) rfl (Nat.le_of_ble_eq_true rfl) rfl rfl (jz_ci ?_)
              refine jm_Q.mono h (jp_i_mono (fun r202 J200 K201 h => ?_))
              refine jw_aload_n rfl rfl ?_
              refine jw_iload_n rfl rfl ?_
              refine jw_virt (k := 1) (c := 18) (as := [.int (Int32.ofInt v1)]) rfl rfl rfl (Nat.le_of_ble_eq_true rfl) rfl (Nat.le_of_ble_eq_true rfl) rfl rfl (jz_ci ?_)
              refine jm_Q.mono h (jp_i_mono (fun r205 J203 K204 h => ?_))
              obtain ⟨o206, h⟩ := h
              obtain ⟨o207, h⟩ := h
              refine jw_ic_ne rfl o206 o207 (fun c208 => ?_) (fun c208 => ?_)
              · replace h := h.1 c208
                refine jw_iconst rfl ?_
                refine jw_zret rfl (by omega) ?_
                exact h
              · replace h := h.2 c208
                refine jw_iconst rfl ?_
                refine jw_goto rfl ?_
                refine jw_zret rfl (by omega) ?_
                exact h
          · replace h := h.2 c190
            by_cases c209 : r3 = 5
            · replace h := h.1 c209
              refine jw_tab_in (pc2 := 108) (v := 5) (o := 50) rfl o10 c209 (by omega) rfl (by omega) ?_
              refine jw_aload_n rfl rfl ?_
              refine jw_iload_n rfl rfl ?_
              refine jw_virt (k := 1) (c := 18) (as := [.int (Int32.ofInt v1)]) rfl rfl rfl (Nat.le_of_ble_eq_true rfl) rfl (Nat.le_of_ble_eq_true rfl) rfl rfl (jz_ci ?_)
              refine jm_Q.mono h (jp_i_mono (fun r212 J210 K211 h => ?_))
              refine jw_iload rfl rfl ?_
              obtain ⟨o213, h⟩ := h
              refine jw_ic_ne rfl o213 (by omega) (fun c214 => ?_) (fun c214 => ?_)
              · replace h := h.1 c214
                refine jw_iconst rfl ?_
                refine jw_zret rfl (by omega) ?_
                exact h
              · replace h := h.2 c214
                refine jw_aload_n rfl rfl ?_
                refine jw_iload_n rfl rfl ?_
                refine jw_iload_n rfl rfl ?_
                refine jw_iconst rfl ?_
                refine jw_virt (k := 3) (c := 18) (as := [.int (Int32.ofInt v1), .int (Int32.ofInt r6), .int (Int32.ofInt 2)]) rfl rfl rfl (Nat.le_of_ble_eq_true rfl) rfl (Nat.le_of_ble_eq_true rfl) rfl rfl (jz_ci ?_)
                refine jm_Q.mono h (jp_i_mono (fun r217 J215 K216 h => ?_))
                refine jw_iload rfl rfl ?_
                obtain ⟨o218, h⟩ := h
                refine jw_ic_ne rfl o218 (by omega) (fun c219 => ?_) (fun c219 => ?_)
                · replace h := h.1 c219
                  refine jw_iconst rfl ?_
                  refine jw_zret rfl (by omega) ?_
                  exact h
                · replace h := h.2 c219
                  refine jw_iconst rfl ?_
                  refine jw_goto rfl ?_
                  refine jw_zret rfl (by omega) ?_
                  exact h
            · replace h := h.2 c209
              by_cases c220 : r3 = 6
              · replace h := h.1 c220
                refine jw_tab_in (pc2 := 136) (v := 6) (o := 78) rfl o10 c220 (by omega) rfl (by omega) ?_
                refine jw_aload_n rfl rfl ?_
                refine jw_iload_n rfl rfl ?_
                refine jw_virt (k := 1) (c := 18) (as := [.int (Int32.ofInt v1)]) rfl rfl rfl (Nat.le_of_ble_eq_true rfl) rfl (Nat.le_of_ble_eq_true rfl) rfl rfl (jz_ci ?_)
                refine jm_Q.mono h (jp_i_mono (fun r223 J221 K222 h => ?_))
                refine jw_aload_n rfl rfl ?_
                refine jw_iload_n rfl rfl ?_
                refine jw_virt (k := 1) (c := 18) (as := [.int (Int32.ofInt r6)]) rfl rfl rfl (Nat.le_of_ble_eq_true rfl) rfl (Nat.le_of_ble_eq_true rfl) rfl rfl (jz_ci ?_)
                refine jm_Q.mono h (jp_i_mono (fun r226 J224 K225 h => ?_))
                refine jw_iload rfl rfl ?_
                refine jw_isub rfl ?_
                obtain ⟨o227, h⟩ := h
                obtain ⟨o228, h⟩ := h
                refine jw_ic_ne rfl o227 o228 (fun c229 => ?_) (fun c229 => ?_)
                · replace h := h.1 c229
                  refine jw_iconst rfl ?_
                  refine jw_zret rfl (by omega) ?_
                  exact h
                · replace h := h.2 c229
                  refine jw_aload_n rfl rfl ?_
                  refine jw_iload_n rfl rfl ?_
                  refine jw_iload_n rfl rfl ?_
                  refine jw_iconst rfl ?_
                  refine jw_virt (k := 3) (c := 18) (as := [.int (Int32.ofInt v1), .int (Int32.ofInt r6), .int (Int32.ofInt 2)]) rfl rfl rfl (Nat.le_of_ble_eq_true rfl) rfl (Nat.le_of_ble_eq_true rfl) rfl rfl (jz_ci ?_)
                  refine jm_Q.mono h (jp_i_mono (fun r232 J230 K231 h => ?_))
                  refine jw_aload_n rfl rfl ?_
                  refine jw_iload_n rfl rfl ?_
                  refine jw_virt (k := 1) (c := 18) (as := [.int (Int32.ofInt v1)]) rfl rfl rfl (Nat.le_of_ble_eq_true rfl) rfl (Nat.le_of_ble_eq_true rfl) rfl rfl (jz_ci ?_)
                  refine jm_Q.mono h (jp_i_mono (fun r235 J233 K234 h => ?_))
                  obtain ⟨o236, h⟩ := h
                  obtain ⟨o237, h⟩ := h
                  refine jw_ic_ne rfl o236 o237 (fun c238 => ?_) (fun c238 => ?_)
                  · replace h := h.1 c238
                    refine jw_iconst rfl ?_
                    refine jw_zret rfl (by omega) ?_
                    exact h
                  · replace h := h.2 c238
                    refine jw_iconst rfl ?_
                    refine jw_goto rfl ?_
                    refine jw_zret rfl (by omega) ?_
                    exact h
              · replace h := h.2 c220
                by_cases c239 : r3 = 7
                · replace h := h.1 c239
                  refine jw_tab_in (pc2 := 108) (v := 7) (o := 50) rfl o10 c239 (by omega) rfl (by omega) ?_
                  refine jw_aload_n rfl rfl ?_
                  refine jw_iload_n rfl rfl ?_
                  refine jw_virt (k := 1) (c := 18) (as := [.int (Int32.ofInt v1)]) rfl rfl rfl (Nat.le_of_ble_eq_true rfl) rfl (Nat.le_of_ble_eq_true rfl) rfl rfl (jz_ci ?_)
                  refine jm_Q.mono h (jp_i_mono (fun r242 J240 K241 h => ?_))
                  refine jw_iload rfl rfl ?_
                  obtain ⟨o243, h⟩ := h
                  refine jw_ic_ne rfl o243 (by omega) (fun c244 => ?_) (fun c244 => ?_)
                  · replace h := h.1 c244
                    refine jw_iconst rfl ?_
                    refine jw_zret rfl (by omega) ?_
                    exact h
                  · replace h := h.2 c244
                    refine jw_aload_n rfl rfl ?_
                    refine jw_iload_n rfl rfl ?_
                    refine jw_iload_n rfl rfl ?_
                    refine jw_iconst rfl ?_
                    refine jw_virt (k := 3) (c := 18) (as := [.int (Int32.ofInt v1), .int (Int32.ofInt r6), .int (Int32.ofInt 2)]) rfl rfl rfl (Nat.le_of_ble_eq_true rfl) rfl (Nat.le_of_ble_eq_true rfl) rfl rfl (jz_ci ?_)
                    refine jm_Q.mono h (jp_i_mono (fun r247 J245 K246 h => ?_))
                    refine jw_iload rfl rfl ?_
                    obtain ⟨o248, h⟩ := h
                    refine jw_ic_ne rfl o248 (by omega) (fun c249 => ?_) (fun c249 => ?_)
                    · replace h := h.1 c249
                      refine jw_iconst rfl ?_
                      refine jw_zret rfl (by omega) ?_
                      exact h
                    · replace h := h.2 c249
                      refine jw_iconst rfl ?_
                      refine jw_goto rfl ?_
                      refine jw_zret rfl (by omega) ?_
                      exact h
                · replace h := h.2 c239
                  by_cases c250 : r3 = 8
                  · replace h := h.1 c250
                    refine jw_tab_in (pc2 := 136) (v := 8) (o := 78) rfl o10 c250 (by omega) rfl (by omega) ?_
                    refine jw_aload_n rfl rfl ?_
                    refine jw_iload_n rfl rfl ?_
                    refine jw_virt (k := 1) (c := 18) (as := [.int (Int32.ofInt v1)]) rfl rfl rfl (Nat.le_of_ble_eq_true rfl) rfl (Nat.le_of_ble_eq_true rfl) rfl rfl (jz_ci ?_)
                    refine jm_Q.mono h (jp_i_mono (fun r253 J251 K252 h => ?_))
                    refine jw_aload_n rfl rfl ?_
                    refine jw_iload_n rfl rfl ?_
                    refine jw_virt (k := 1) (c := 18) (as := [.int (Int32.ofInt r6)]) rfl rfl rfl (Nat.le_of_ble_eq_true rfl) rfl (Nat.le_of_ble_eq_true rfl) rfl rfl (jz_ci ?_)
                    refine jm_Q.mono h (jp_i_mono (fun r256 J254 K255 h => ?_))
                    refine jw_iload rfl rfl ?_
                    refine jw_isub rfl ?_
                    obtain ⟨o257, h⟩ := h
                    obtain ⟨o258, h⟩ := h
                    refine jw_ic_ne rfl o257 o258 (fun c259 => ?_) (fun c259 => ?_)
                    · replace h := h.1 c259
                      refine jw_iconst rfl ?_
                      refine jw_zret rfl (by omega) ?_
                      exact h
                    · replace h := h.2 c259
                      refine jw_aload_n rfl rfl ?_
                      refine jw_iload_n rfl rfl ?_
                      refine jw_iload_n rfl rfl ?_
                      refine jw_iconst rfl ?_
                      refine jw_virt (k := 3) (c := 18) (as := [.int (Int32.ofInt v1), .int (Int32.ofInt r6), .int (Int32.ofInt 2)]) rfl rfl rfl (Nat.le_of_ble_eq_true rfl) rfl (Nat.le_of_ble_eq_true rfl) rfl rfl (jz_ci ?_)
                      refine jm_Q.mono h (jp_i_mono (fun r262 J260 K261 h => ?_))
                      refine jw_aload_n rfl rfl ?_
                      refine jw_iload_n rfl rfl ?_
                      refine jw_virt (k := 1) (c := 18) (as := [.int (Int32.ofInt v1)]) rfl rfl rfl (Nat.le_of_ble_eq_true rfl) rfl (Nat.le_of_ble_eq_true rfl) rfl rfl (jz_ci ?_)
                      refine jm_Q.mono h (jp_i_mono (fun r265 J263 K264 h => ?_))
                      obtain ⟨o266, h⟩ := h
                      obtain ⟨o267, h⟩ := h
                      refine jw_ic_ne rfl o266 o267 (fun c268 => ?_) (fun c268 => ?_)
                      · replace h := h.1 c268
                        refine jw_iconst rfl ?_
                        refine jw_zret rfl (by omega) ?_
                        exact h
                      · replace h := h.2 c268
                        refine jw_iconst rfl ?_
                        refine jw_goto rfl ?_
                        refine jw_zret rfl (by omega) ?_
                        exact h
                  · replace h := h.2 c250
                    by_cases c269 : r3 = 9
                    · replace h := h.1 c269
                      refine jw_tab_in (pc2 := 284) (v := 9) (o := 226) rfl o10 c269 (by omega) rfl (by omega) ?_
                      refine jw_iconst rfl ?_
                      refine jw_zret rfl (by omega) ?_
                      exact h
                    · replace h := h.2 c269
                      by_cases c270 : r3 = 10
                      · replace h := h.1 c270
                        refine jw_tab_in (pc2 := 248) (v := 10) (o := 190) rfl o10 c270 (by omega) rfl (by omega) ?_
                        refine jw_aload_n rfl rfl ?_
                        refine jw_iload_n rfl rfl ?_
                        refine jw_iconst rfl ?_
                        refine jw_virt (k := 2) (c := 18) (as := [.int (Int32.ofInt v1), .int (Int32.ofInt 1)]) rfl rfl rfl (Nat.le_of_ble_eq_true rfl) rfl (Nat.le_of_ble_eq_true rfl) rfl rfl (jz_ci ?_)
                        refine jm_Q.mono h (jp_i_mono (fun r273 J271 K272 h => ?_))
                        refine jw_aload_n rfl rfl ?_
                        refine jw_iload_n rfl rfl ?_
                        refine jw_iconst rfl ?_
                        refine jw_virt (k := 2) (c := 18) (as := [.int (Int32.ofInt v1), .int (Int32.ofInt 4)]) rfl rfl rfl (Nat.le_of_ble_eq_true rfl) rfl (Nat.le_of_ble_eq_true rfl) rfl rfl (jz_ci ?_)
                        refine jm_Q.mono h (jp_i_mono (fun r276 J274 K275 h => ?_))
                        obtain ⟨o277, h⟩ := h
                        obtain ⟨o278, h⟩ := h
                        refine jw_ic_gt rfl o277 o278 (fun c279 => ?_) (fun c279 => ?_)
                        · replace h := h.1 c279
                          refine jw_iconst rfl ?_
                          refine jw_zret rfl (by omega) ?_
                          exact h
                        · replace h := h.2 c279
                          refine jw_aload_n rfl rfl ?_
                          refine jw_iload_n rfl rfl ?_
                          refine jw_iload_n rfl rfl ?_
                          refine jw_iconst rfl ?_
                          refine jw_virt (k := 3) (c := 18) (as := [.int (Int32.ofInt v1), .int (Int32.ofInt r6), .int (Int32.ofInt 2)]) rfl rfl rfl (Nat.le_of_ble_eq_true rfl) rfl (Nat.le_of_ble_eq_true rfl) rfl rfl (jz_ci ?_)
                          refine jm_Q.mono h (jp_i_mono (fun r282 J280 K281 h => ?_))
                          refine jw_aload_n rfl rfl ?_
                          refine jw_iload_n rfl rfl ?_
                          refine jw_virt (k := 1) (c := 18) (as := [.int (Int32.ofInt v1)]) rfl rfl rfl (Nat.le_of_ble_eq_true rfl) rfl (Nat.le_of_ble_eq_true rfl) rfl rfl (jz_ci ?_)
                          refine jm_Q.mono h (jp_i_mono (fun r285 J283 K284 h => ?_))
                          obtain ⟨o286, h⟩ := h
                          obtain ⟨o287, h⟩ := h
                          refine jw_ic_ne rfl o286 o287 (fun c288 => ?_) (fun c288 => ?_)
                          · replace h := h.1 c288
                            refine jw_iconst rfl ?_
                            refine jw_zret rfl (by omega) ?_
                            exact h
                          · replace h := h.2 c288
                            refine jw_iconst rfl ?_
                            refine jw_goto rfl ?_
                            refine jw_zret rfl (by omega) ?_
                            exact h
                      · replace h := h.2 c270
                        refine jw_tab_out (pc2 := 284) rfl o10 (by omega) (by omega) ?_
                        refine jw_iconst rfl ?_
                        refine jw_zret rfl (by omega) ?_
                        exact h
    · replace h := h.2 c150
      refine jw_aload_n rfl rfl ?_
      refine jw_iload_n rfl rfl ?_
      refine jw_iload rfl rfl ?_
      refine jw_iload_n rfl rfl ?_
      refine jw_bipush rfl (by decide) ?_
      refine jw_ic_lt rfl o10 (by omega) (fun c289 => ?_) (fun c289 => ?_)
      · replace h := h.1 c289
        refine jw_iconst rfl ?_
        refine jw_virt (k := 3) (c := 18) (as := [.int (Int32.ofInt r6), .int (Int32.ofInt r9), .int (Int32.ofInt 0)]) rfl rfl rfl (Nat.le_of_ble_eq_true rfl) rfl (Nat.le_of_ble_eq_true rfl) rfl rfl (jz_ci ?_)
        refine jm_Q.mono h (jp_i_mono (fun r292 J290 K291 h => ?_))
        refine jw_goto rfl ?_
        refine jw_istore (ls' := [some (.ref 0), some (.int (Int32.ofInt v1)), some (.int (Int32.ofInt r3)), some (.int (Int32.ofInt r6)), some (.int (Int32.ofInt r9)), some (.int (Int32.ofInt r292))]) rfl rfl ?_
        refine jw_iload_n rfl rfl ?_
        by_cases c294 : r3 = 2
        · replace h := h.1 c294
          refine jw_tab_in (pc2 := 173) (v := 2) (o := 115) rfl o10 c294 (by omega) rfl (by omega) ?_
          refine jw_aload_n rfl rfl ?_
          refine jw_iload_n rfl rfl ?_
          refine jw_iload_n rfl rfl ?_
          refine jw_iconst rfl ?_
          refine jw_virt (k := 3) (c := 18) (as := [.int (Int32.ofInt r6), .int (Int32.ofInt v1), .int (Int32.ofInt 1)]) rfl rfl rfl (Nat.le_of_ble_eq_true rfl) rfl (Nat.le_of_ble_eq_true rfl) rfl rfl (jz_ci ?_)
          refine jm_Q.mono h (jp_i_mono (fun r297 J295 K296 h => ?_))
          refine jw_aload_n rfl rfl ?_
          refine jw_iload_n rfl rfl ?_
          refine jw_virt (k := 1) (c := 18) (as := [.int (Int32.ofInt r6)]) rfl rfl rfl (Nat.le_of_ble_eq_true rfl) rfl (Nat.le_of_ble_eq_true rfl) rfl rfl (jz_ci ?_)
          refine jm_Q.mono h (jp_i_mono (fun r300 J298 K299 h => ?_))
          obtain ⟨o301, h⟩ := h
          obtain ⟨o302, h⟩ := h
          refine jw_ic_ne rfl o301 o302 (fun c303 => ?_) (fun c303 => ?_)
          · replace h := h.1 c303
            refine jw_iconst rfl ?_
            refine jw_zret rfl (by omega) ?_
            exact h
          · replace h := h.2 c303
            refine jw_aload_n rfl rfl ?_
            refine jw_iload rfl rfl ?_
            refine jw_iload_n rfl rfl ?_
            refine jw_iconst rfl ?_
            refine jw_virt (k := 3) (c := 18) (as := [.int (Int32.ofInt r9), .int (Int32.ofInt v1), .int (Int32.ofInt 1)]) rfl rfl rfl (Nat.le_of_ble_eq_true rfl) rfl (Nat.le_of_ble_eq_true rfl) rfl rfl (jz_ci ?_)
            refine jm_Q.mono h (jp_i_mono (fun r306 J304 K305 h => ?_))
            refine jw_aload_n rfl rfl ?_
            refine jw_iload rfl rfl ?_
            refine jw_virt (k := 1) (c := 18) (as := [.int (Int32.ofInt r9)]) rfl rfl rfl (Nat.le_of_ble_eq_true rfl) rfl (Nat.le_of_ble_eq_true rfl) rfl rfl (jz_ci ?_)
            refine jm_Q.mono h (jp_i_mono (fun r309 J307 K308 h => ?_))
            obtain ⟨o310, h⟩ := h
            obtain ⟨o311, h⟩ := h
            refine jw_ic_ne rfl o310 o311 (fun c312 => ?_) (fun c312 => ?_)
            · replace h := h.1 c312
              refine jw_iconst rfl ?_
              refine jw_zret rfl (by omega) ?_
              exact h
            · replace h := h.2 c312
              refine jw_iconst rfl ?_
              refine jw_goto rfl ?_
              refine jw_zret rfl (by omega) ?_
              exact h
        · replace h := h.2 c294
          by_cases c313 : r3 = 3
          · replace h := h.1 c313
            refine jw_tab_in (pc2 := 211) (v := 3) (o := 153) rfl o10 c313 (by omega) rfl (by omega) ?_
            refine jw_aload_n rfl rfl ?_
            refine jw_iload_n rfl rfl ?_
            refine jw_iload_n rfl rfl ?_
            refine jw_iconst rfl ?_
            refine jw_virt (k := 3) (c := 18) (as := [.int (Int32.ofInt v1), .int (Int32.ofInt r6), .int (Int32.ofInt 1)]) rfl rfl rfl (Nat.le_of_ble_eq_true rfl) rfl (Nat.le_of_ble_eq_true rfl) rfl rfl (jz_ci ?_)
            refine jm_Q.mono h (jp_i_mono (fun r316 J314 K315 h => ?_))
            refine jw_aload_n rfl rfl ?_
            refine jw_iload_n rfl rfl ?_
            refine jw_virt (k := 1) (c := 18) (as := [.int (Int32.ofInt v1)]) rfl rfl rfl (Nat.le_of_ble_eq_true rfl) rfl (Nat.le_of_ble_eq_true rfl) rfl rfl (jz_ci ?_)
            refine jm_Q.mono h (jp_i_mono (fun r319 J317 K318 h => ?_))
            obtain ⟨o320, h⟩ := h
            obtain ⟨o321, h⟩ := h
            refine jw_ic_ne rfl o320 o321 (fun c322 => ?_) (fun c322 => ?_)
            · replace h := h.1 c322
              refine jw_iconst rfl ?_
              refine jw_zret rfl (by omega) ?_
              exact h
            · replace h := h.2 c322
              refine jw_aload_n rfl rfl ?_
              refine jw_iload_n rfl rfl ?_
              refine jw_iload rfl rfl ?_
              refine jw_iconst rfl ?_
              refine jw_virt (k := 3) (c := 18) (as := [.int (Int32.ofInt v1), .int (Int32.ofInt r9), .int (Int32.ofInt 1)]) rfl rfl rfl (Nat.le_of_ble_eq_true rfl) rfl (Nat.le_of_ble_eq_true rfl) rfl rfl (jz_ci ?_)
              refine jm_Q.mono h (jp_i_mono (fun r325 J323 K324 h => ?_))
              refine jw_aload_n rfl rfl ?_
              refine jw_iload_n rfl rfl ?_
              refine jw_virt (k := 1) (c := 18) (as := [.int (Int32.ofInt v1)]) rfl rfl rfl (Nat.le_of_ble_eq_true rfl) rfl (Nat.le_of_ble_eq_true rfl) rfl rfl (jz_ci ?_)
              refine jm_Q.mono h (jp_i_mono (fun r328 J326 K327 h => ?_))
              obtain ⟨o329, h⟩ := h
              obtain ⟨o330, h⟩ := h
              refine jw_ic_ne rfl o329 o330 (fun c331 => ?_) (fun c331 => ?_)
              · replace h := h.1 c331
                refine jw_iconst rfl ?_
                refine jw_zret rfl (by omega) ?_
                exact h
              · replace h := h.2 c331
                refine jw_iconst rfl ?_
                refine jw_goto rfl ?_
                refine jw_zret rfl (by omega) ?_
                exact h
          · replace h := h.2 c313
            by_cases c332 : r3 = 4
            · replace h := h.1 c332
              refine jw_tab_in (pc2 := 211) (v := 4) (o := 153) rfl o10 c332 (by omega) rfl (by omega) ?_
              refine jw_aload_n rfl rfl ?_
              refine jw_iload_n rfl rfl ?_
              refine jw_iload_n rfl rfl ?_
              refine jw_iconst rfl ?_
              refine jw_virt (k := 3) (c := 18) (as := [.int (Int32.ofInt v1), .int (Int32.ofInt r6), .int (Int32.ofInt 1)]) rfl rfl rfl (Nat.le_of_ble_eq_true rfl) rfl (Nat.le_of_ble_eq_true rfl) rfl rfl (jz_ci ?_)
              refine jm_Q.mono h (jp_i_mono (fun r335 J333 K334 h => ?_))
              refine jw_aload_n rfl rfl ?_
              refine jw_iload_n rfl rfl ?_
              refine jw_virt (k := 1) (c := 18) (as := [.int (Int32.ofInt v1)]) rfl rfl rfl (Nat.le_of_ble_eq_true rfl) rfl (Nat.le_of_ble_eq_true rfl) rfl rfl (jz_ci ?_)
              refine jm_Q.mono h (jp_i_mono (fun r338 J336 K337 h => ?_))
              obtain ⟨o339, h⟩ := h
              obtain ⟨o340, h⟩ := h
              refine jw_ic_ne rfl o339 o340 (fun c341 => ?_) (fun c341 => ?_)
              · replace h := h.1 c341
                refine jw_iconst rfl ?_
                refine jw_zret rfl (by omega) ?_
                exact h
              · replace h := h.2 c341
                refine jw_aload_n rfl rfl ?_
                refine jw_iload_n rfl rfl ?_
                refine jw_iload rfl rfl ?_
                refine jw_iconst rfl ?_
                refine jw_virt (k := 3) (c := 18) (as := [.int (Int32.ofInt v1), .int (Int32.ofInt r9), .int (Int32.ofInt 1)]) rfl rfl rfl (Nat.le_of_ble_eq_true rfl) rfl (Nat.le_of_ble_eq_true rfl) rfl rfl (jz_ci ?_)
                refine jm_Q.mono h (jp_i_mono (fun r344 J342 K343 h => ?_))
                refine jw_aload_n rfl rfl ?_
                refine jw_iload_n rfl rfl ?_
                refine jw_virt (k := 1) (c := 18) (as := [.int (Int32.ofInt v1)]) rfl rfl rfl (Nat.le_of_ble_eq_true rfl) rfl (Nat.le_of_ble_eq_true rfl) rfl rfl (jz_ci ?_)
                refine jm_Q.mono h (jp_i_mono (fun r347 J345 K346 h => ?_))
                obtain ⟨o348, h⟩ := h
                obtain ⟨o349, h⟩ := h
                refine jw_ic_ne rfl o348 o349 (fun c350 => ?_) (fun c350 => ?_)
                · replace h := h.1 c350
                  refine jw_iconst rfl ?_
                  refine jw_zret rfl (by omega) ?_
                  exact h
                · replace h := h.2 c350
                  refine jw_iconst rfl ?_
                  refine jw_goto rfl ?_
                  refine jw_zret rfl (by omega) ?_
                  exact h
            · replace h := h.2 c332
              by_cases c351 : r3 = 5
              · replace h := h.1 c351
                refine jw_tab_in (pc2 := 108) (v := 5) (o := 50) rfl o10 c351 (by omega) rfl (by omega) ?_
                refine jw_aload_n rfl rfl ?_
                refine jw_iload_n rfl rfl ?_
                refine jw_virt (k := 1) (c := 18) (as := [.int (Int32.ofInt v1)]) rfl rfl rfl (Nat.le_of_ble_eq_true rfl) rfl (Nat.le_of_ble_eq_true rfl) rfl rfl (jz_ci ?_)
                refine jm_Q.mono h (jp_i_mono (fun r354 J352 K353 h => ?_))
                refine jw_iload rfl rfl ?_
                obtain ⟨o355, h⟩ := h
                obtain ⟨o356, h⟩ := h
                refine jw_ic_ne rfl o355 o356 (fun c357 => ?_) (fun c357 => ?_)
                · replace h := h.1 c357
                  refine jw_iconst rfl ?_
                  refine jw_zret rfl (by omega) ?_
                  exact h
                · replace h := h.2 c357
                  refine jw_aload_n rfl rfl ?_
                  refine jw_iload_n rfl rfl ?_
                  refine jw_iload_n rfl rfl ?_
                  refine jw_iconst rfl ?_
                  refine jw_virt (k := 3) (c := 18) (as := [.int (Int32.ofInt v1), .int (Int32.ofInt r6), .int (Int32.ofInt 2)]) rfl rfl rfl (Nat.le_of_ble_eq_true rfl) rfl (Nat.le_of_ble_eq_true rfl) rfl rfl (jz_ci ?_)
                  refine jm_Q.mono h (jp_i_mono (fun r360 J358 K359 h => ?_))
                  refine jw_iload rfl rfl ?_
                  obtain ⟨o361, h⟩ := h
                  refine jw_ic_ne rfl o361 o356 (fun c362 => ?_) (fun c362 => ?_)
                  · replace h := h.1 c362
                    refine jw_iconst rfl ?_
                    refine jw_zret rfl (by omega) ?_
                    exact h
                  · replace h := h.2 c362
                    refine jw_iconst rfl ?_
                    refine jw_goto rfl ?_
                    refine jw_zret rfl (by omega) ?_
                    exact h
              · replace h := h.2 c351
                by_cases c363 : r3 = 6
                · replace h := h.1 c363
                  refine jw_tab_in (pc2 := 136) (v := 6) (o := 78) rfl o10 c363 (by omega) rfl (by omega) ?_
                  refine jw_aload_n rfl rfl ?_
                  refine jw_iload_n rfl rfl ?_
                  refine jw_virt (k := 1) (c := 18) (as := [.int (Int32.ofInt v1)]) rfl rfl rfl (Nat.le_of_ble_eq_true rfl) rfl (Nat.le_of_ble_eq_true rfl) rfl rfl (jz_ci ?_)
                  refine jm_Q.mono h (jp_i_mono (fun r366 J364 K365 h => ?_))
                  refine jw_aload_n rfl rfl ?_
                  refine jw_iload_n rfl rfl ?_
                  refine jw_virt (k := 1) (c := 18) (as := [.int (Int32.ofInt r6)]) rfl rfl rfl (Nat.le_of_ble_eq_true rfl) rfl (Nat.le_of_ble_eq_true rfl) rfl rfl (jz_ci ?_)
                  refine jm_Q.mono h (jp_i_mono (fun r369 J367 K368 h => ?_))
                  refine jw_iload rfl rfl ?_
                  refine jw_isub rfl ?_
                  obtain ⟨o370, h⟩ := h
                  obtain ⟨o371, h⟩ := h
                  refine jw_ic_ne rfl o370 o371 (fun c372 => ?_) (fun c372 => ?_)
                  · replace h := h.1 c372
                    refine jw_iconst rfl ?_
                    refine jw_zret rfl (by omega) ?_
                    exact h
                  · replace h := h.2 c372
                    refine jw_aload_n rfl rfl ?_
                    refine jw_iload_n rfl rfl ?_
                    refine jw_iload_n rfl rfl ?_
                    refine jw_iconst rfl ?_
                    refine jw_virt (k := 3) (c := 18) (as := [.int (Int32.ofInt v1), .int (Int32.ofInt r6), .int (Int32.ofInt 2)]) rfl rfl rfl (Nat.le_of_ble_eq_true rfl) rfl (Nat.le_of_ble_eq_true rfl) rfl rfl (jz_ci ?_)
                    refine jm_Q.mono h (jp_i_mono (fun r375 J373 K374 h => ?_))
                    refine jw_aload_n rfl rfl ?_
                    refine jw_iload_n rfl rfl ?_
                    refine jw_virt (k := 1) (c := 18) (as := [.int (Int32.ofInt v1)]) rfl rfl rfl (Nat.le_of_ble_eq_true rfl) rfl (Nat.le_of_ble_eq_true rfl) rfl rfl (jz_ci ?_)
                    refine jm_Q.mono h (jp_i_mono (fun r378 J376 K377 h => ?_))
                    obtain ⟨o379, h⟩ := h
                    obtain ⟨o380, h⟩ := h
                    refine jw_ic_ne rfl o379 o380 (fun c381 => ?_) (fun c381 => ?_)
                    · replace h := h.1 c381
                      refine jw_iconst rfl ?_
                      refine jw_zret rfl (by omega) ?_
                      exact h
                    · replace h := h.2 c381
                      refine jw_iconst rfl ?_
                      refine jw_goto rfl ?_
                      refine jw_zret rfl (by omega) ?_
                      exact h
                · replace h := h.2 c363
                  by_cases c382 : r3 = 7
                  · replace h := h.1 c382
                    refine jw_tab_in (pc2 := 108) (v := 7) (o := 50) rfl o10 c382 (by omega) rfl (by omega) ?_
                    refine jw_aload_n rfl rfl ?_
                    refine jw_iload_n rfl rfl ?_
                    refine jw_virt (k := 1) (c := 18) (as := [.int (Int32.ofInt v1)]) rfl rfl rfl (Nat.le_of_ble_eq_true rfl) rfl (Nat.le_of_ble_eq_true rfl) rfl rfl (jz_ci ?_)
                    refine jm_Q.mono h (jp_i_mono (fun r385 J383 K384 h => ?_))
                    refine jw_iload rfl rfl ?_
                    obtain ⟨o386, h⟩ := h
                    obtain ⟨o387, h⟩ := h
                    refine jw_ic_ne rfl o386 o387 (fun c388 => ?_) (fun c388 => ?_)
                    · replace h := h.1 c388
                      refine jw_iconst rfl ?_
                      refine jw_zret rfl (by omega) ?_
                      exact h
                    · replace h := h.2 c388
                      refine jw_aload_n rfl rfl ?_
                      refine jw_iload_n rfl rfl ?_
                      refine jw_iload_n rfl rfl ?_
                      refine jw_iconst rfl ?_
                      refine jw_virt (k := 3) (c := 18) (as := [.int (Int32.ofInt v1), .int (Int32.ofInt r6), .int (Int32.ofInt 2)]) rfl rfl rfl (Nat.le_of_ble_eq_true rfl) rfl (Nat.le_of_ble_eq_true rfl) rfl rfl (jz_ci ?_)
                      refine jm_Q.mono h (jp_i_mono (fun r391 J389 K390 h => ?_))
                      refine jw_iload rfl rfl ?_
                      obtain ⟨o392, h⟩ := h
                      refine jw_ic_ne rfl o392 o387 (fun c393 => ?_) (fun c393 => ?_)
                      · replace h := h.1 c393
                        refine jw_iconst rfl ?_
                        refine jw_zret rfl (by omega) ?_
                        exact h
                      · replace h := h.2 c393
                        refine jw_iconst rfl ?_
                        refine jw_goto rfl ?_
                        refine jw_zret rfl (by omega) ?_
                        exact h
                  · replace h := h.2 c382
                    by_cases c394 : r3 = 8
                    · replace h := h.1 c394
                      refine jw_tab_in (pc2 := 136) (v := 8) (o := 78) rfl o10 c394 (by omega) rfl (by omega) ?_
                      refine jw_aload_n rfl rfl ?_
                      refine jw_iload_n rfl rfl ?_
                      refine jw_virt (k := 1) (c := 18) (as := [.int (Int32.ofInt v1)]) rfl rfl rfl (Nat.le_of_ble_eq_true rfl) rfl (Nat.le_of_ble_eq_true rfl) rfl rfl (jz_ci ?_)
                      refine jm_Q.mono h (jp_i_mono (fun r397 J395 K396 h => ?_))
                      refine jw_aload_n rfl rfl ?_
                      refine jw_iload_n rfl rfl ?_
                      refine jw_virt (k := 1) (c := 18) (as := [.int (Int32.ofInt r6)]) rfl rfl rfl (Nat.le_of_ble_eq_true rfl) rfl (Nat.le_of_ble_eq_true rfl) rfl rfl (jz_ci ?_)
                      refine jm_Q.mono h (jp_i_mono (fun r400 J398 K399 h => ?_))
                      refine jw_iload rfl rfl ?_
                      refine jw_isub rfl ?_
                      obtain ⟨o401, h⟩ := h
                      obtain ⟨o402, h⟩ := h
                      refine jw_ic_ne rfl o401 o402 (fun c403 => ?_) (fun c403 => ?_)
                      · replace h := h.1 c403
                        refine jw_iconst rfl ?_
                        refine jw_zret rfl (by omega) ?_
                        exact h
                      · replace h := h.2 c403
                        refine jw_aload_n rfl rfl ?_
                        refine jw_iload_n rfl rfl ?_
                        refine jw_iload_n rfl rfl ?_
                        refine jw_iconst rfl ?_
                        refine jw_virt (k := 3) (c := 18) (as := [.int (Int32.ofInt v1), .int (Int32.ofInt r6), .int (Int32.ofInt 2)]) rfl rfl rfl (Nat.le_of_ble_eq_true rfl) rfl (Nat.le_of_ble_eq_true rfl) rfl rfl (jz_ci ?_)
                        refine jm_Q.mono h (jp_i_mono (fun r406 J404 K405 h => ?_))
                        refine jw_aload_n rfl rfl ?_
                        refine jw_iload_n rfl rfl ?_
                        refine jw_virt (k := 1) (c := 18) (as := [.int (Int32.ofInt v1)]) rfl rfl rfl (Nat.le_of_ble_eq_true rfl) rfl (Nat.le_of_ble_eq_true rfl) rfl rfl (jz_ci ?_)
                        refine jm_Q.mono h (jp_i_mono (fun r409 J407 K408 h => ?_))
                        obtain ⟨o410, h⟩ := h
                        obtain ⟨o411, h⟩ := h
                        refine jw_ic_ne rfl o410 o411 (fun c412 => ?_) (fun c412 => ?_)
                        · replace h := h.1 c412
                          refine jw_iconst rfl ?_
                          refine jw_zret rfl (by omega) ?_
                          exact h
                        · replace h := h.2 c412
                          refine jw_iconst rfl ?_
                          refine jw_goto rfl ?_
                          refine jw_zret rfl (by omega) ?_
                          exact h
                    · replace h := h.2 c394
                      by_cases c413 : r3 = 9
                      · replace h := h.1 c413
                        refine jw_tab_in (pc2 := 284) (v := 9) (o := 226) rfl o10 c413 (by omega) rfl (by omega) ?_
                        refine jw_iconst rfl ?_
                        refine jw_zret rfl (by omega) ?_
                        exact h
                      · replace h := h.2 c413
                        by_cases c414 : r3 = 10
                        · replace h := h.1 c414
                          refine jw_tab_in (pc2 := 248) (v := 10) (o := 190) rfl o10 c414 (by omega) rfl (by omega) ?_
                          refine jw_aload_n rfl rfl ?_
                          refine jw_iload_n rfl rfl ?_
                          refine jw_iconst rfl ?_
                          refine jw_virt (k := 2) (c := 18) (as := [.int (Int32.ofInt v1), .int (Int32.ofInt 1)]) rfl rfl rfl (Nat.le_of_ble_eq_true rfl) rfl (Nat.le_of_ble_eq_true rfl) rfl rfl (jz_ci ?_)
                          refine jm_Q.mono h (jp_i_mono (fun r417 J415 K416 h => ?_))
                          refine jw_aload_n rfl rfl ?_
                          refine jw_iload_n rfl rfl ?_
                          refine jw_iconst rfl ?_
                          refine jw_virt (k := 2) (c := 18) (as := [.int (Int32.ofInt v1), .int (Int32.ofInt 4)]) rfl rfl rfl (Nat.le_of_ble_eq_true rfl) rfl (Nat.le_of_ble_eq_true rfl) rfl rfl (jz_ci ?_)
                          refine jm_Q.mono h (jp_i_mono (fun r420 J418 K419 h => ?_))
                          obtain ⟨o421, h⟩ := h
                          obtain ⟨o422, h⟩ := h
                          refine jw_ic_gt rfl o421 o422 (fun c423 => ?_) (fun c423 => ?_)
                          · replace h := h.1 c423
                            refine jw_iconst rfl ?_
                            refine jw_zret rfl (by omega) ?_
                            exact h
                          · replace h := h.2 c423
                            refine jw_aload_n rfl rfl ?_
                            refine jw_iload_n rfl rfl ?_
                            refine jw_iload_n rfl rfl ?_
                            refine jw_iconst rfl ?_
                            refine jw_virt (k := 3) (c := 18) (as := [.int (Int32.ofInt v1), .int (Int32.ofInt r6), .int (Int32.ofInt 2)]) rfl rfl rfl (Nat.le_of_ble_eq_true rfl) rfl (Nat.le_of_ble_eq_true rfl) rfl rfl (jz_ci ?_)
                            refine jm_Q.mono h (jp_i_mono (fun r426 J424 K425 h => ?_))
                            refine jw_aload_n rfl rfl ?_
                            refine jw_iload_n rfl rfl ?_
                            refine jw_virt (k := 1) (c := 18) (as := [.int (Int32.ofInt v1)]) rfl rfl rfl (Nat.le_of_ble_eq_true rfl) rfl (Nat.le_of_ble_eq_true rfl) rfl rfl (jz_ci ?_)
                            refine jm_Q.mono h (jp_i_mono (fun r429 J427 K428 h => ?_))
                            obtain ⟨o430, h⟩ := h
                            obtain ⟨o431, h⟩ := h
                            refine jw_ic_ne rfl o430 o431 (fun c432 => ?_) (fun c432 => ?_)
                            · replace h := h.1 c432
                              refine jw_iconst rfl ?_
                              refine jw_zret rfl (by omega) ?_
                              exact h
                            · replace h := h.2 c432
                              refine jw_iconst rfl ?_
                              refine jw_goto rfl ?_
                              refine jw_zret rfl (by omega) ?_
                              exact h
                        · replace h := h.2 c414
                          refine jw_tab_out (pc2 := 284) rfl o10 (by omega) (by omega) ?_
                          refine jw_iconst rfl ?_
                          refine jw_zret rfl (by omega) ?_
                          exact h
      · replace h := h.2 c289
        refine jw_iconst rfl ?_
        refine jw_goto rfl ?_
        refine jw_virt (k := 3) (c := 18) (as := [.int (Int32.ofInt r6), .int (Int32.ofInt r9), .int (Int32.ofInt 1)]) rfl rfl rfl (Nat.le_of_ble_eq_true rfl) rfl (Nat.le_of_ble_eq_true rfl) rfl rfl (jz_ci ?_)
        refine jm_Q.mono h (jp_i_mono (fun r435 J433 K434 h => ?_))
        refine jw_goto rfl ?_
        refine jw_istore (ls' := [some (.ref 0), some (.int (Int32.ofInt v1)), some (.int (Int32.ofInt r3)), some (.int (Int32.ofInt r6)), some (.int (Int32.ofInt r9)), some (.int (Int32.ofInt r435))]) rfl rfl ?_
        refine jw_iload_n rfl rfl ?_
        by_cases c437 : r3 = 2
        · replace h := h.1 c437
          refine jw_tab_in (pc2 := 173) (v := 2) (o := 115) rfl o10 c437 (by omega) rfl (by omega) ?_
          refine jw_aload_n rfl rfl ?_
          refine jw_iload_n rfl rfl ?_
          refine jw_iload_n rfl rfl ?_
          refine jw_iconst rfl ?_
          refine jw_virt (k := 3) (c := 18) (as := [.int (Int32.ofInt r6), .int (Int32.ofInt v1), .int (Int32.ofInt 1)]) rfl rfl rfl (Nat.le_of_ble_eq_true rfl) rfl (Nat.le_of_ble_eq_true rfl) rfl rfl (jz_ci ?_)
          refine jm_Q.mono h (jp_i_mono (fun r440 J438 K439 h => ?_))
          refine jw_aload_n rfl rfl ?_
          refine jw_iload_n rfl rfl ?_
          refine jw_virt (k := 1) (c := 18) (as := [.int (Int32.ofInt r6)]) rfl rfl rfl (Nat.le_of_ble_eq_true rfl) rfl (Nat.le_of_ble_eq_true rfl) rfl rfl (jz_ci ?_)
          refine jm_Q.mono h (jp_i_mono (fun r443 J441 K442 h => ?_))
          obtain ⟨o444, h⟩ := h
          obtain ⟨o445, h⟩ := h
          refine jw_ic_ne rfl o444 o445 (fun c446 => ?_) (fun c446 => ?_)
          · replace h := h.1 c446
            refine jw_iconst rfl ?_
            refine jw_zret rfl (by omega) ?_
            exact h
          · replace h := h.2 c446
            refine jw_aload_n rfl rfl ?_
            refine jw_iload rfl rfl ?_
            refine jw_iload_n rfl rfl ?_
            refine jw_iconst rfl ?_
            refine jw_virt (k := 3) (c := 18) (as := [.int (Int32.ofInt r9), .int (Int32.ofInt v1), .int (Int32.ofInt 1)]) rfl rfl rfl (Nat.le_of_ble_eq_true rfl) rfl (Nat.le_of_ble_eq_true rfl) rfl rfl (jz_ci ?_)
            refine jm_Q.mono h (jp_i_mono (fun r449 J447 K448 h => ?_))
            refine jw_aload_n rfl rfl ?_
            refine jw_iload rfl rfl ?_
            refine jw_virt (k := 1) (c := 18) (as := [.int (Int32.ofInt r9)]) rfl rfl rfl (Nat.le_of_ble_eq_true rfl) rfl (Nat.le_of_ble_eq_true rfl) rfl rfl (jz_ci ?_)
            refine jm_Q.mono h (jp_i_mono (fun r452 J450 K451 h => ?_))
            obtain ⟨o453, h⟩ := h
            obtain ⟨o454, h⟩ := h
            refine jw_ic_ne rfl o453 o454 (fun c455 => ?_) (fun c455 => ?_)
            · replace h := h.1 c455
              refine jw_iconst rfl ?_
              refine jw_zret rfl (by omega) ?_
              exact h
            · replace h := h.2 c455
              refine jw_iconst rfl ?_
              refine jw_goto rfl ?_
              refine jw_zret rfl (by omega) ?_
              exact h
        · replace h := h.2 c437
          by_cases c456 : r3 = 3
          · replace h := h.1 c456
            refine jw_tab_in (pc2 := 211) (v := 3) (o := 153) rfl o10 c456 (by omega) rfl (by omega) ?_
            refine jw_aload_n rfl rfl ?_
            refine jw_iload_n rfl rfl ?_
            refine jw_iload_n rfl rfl ?_
            refine jw_iconst rfl ?_
            refine jw_virt (k := 3) (c := 18) (as := [.int (Int32.ofInt v1), .int (Int32.ofInt r6), .int (Int32.ofInt 1)]) rfl rfl rfl (Nat.le_of_ble_eq_true rfl) rfl (Nat.le_of_ble_eq_true rfl) rfl rfl (jz_ci ?_)
            refine jm_Q.mono h (jp_i_mono (fun r459 J457 K458 h => ?_))
            refine jw_aload_n rfl rfl ?_
            refine jw_iload_n rfl rfl ?_
            refine jw_virt (k := 1) (c := 18) (as := [.int (Int32.ofInt v1)]) rfl rfl rfl (Nat.le_of_ble_eq_true rfl) rfl (Nat.le_of_ble_eq_true rfl) rfl rfl (jz_ci ?_)
            refine jm_Q.mono h (jp_i_mono (fun r462 J460 K461 h => ?_))
            obtain ⟨o463, h⟩ := h
            obtain ⟨o464, h⟩ := h
            refine jw_ic_ne rfl o463 o464 (fun c465 => ?_) (fun c465 => ?_)
            · replace h := h.1 c465
              refine jw_iconst rfl ?_
              refine jw_zret rfl (by omega) ?_
              exact h
            · replace h := h.2 c465
              refine jw_aload_n rfl rfl ?_
              refine jw_iload_n rfl rfl ?_
              refine jw_iload rfl rfl ?_
              refine jw_iconst rfl ?_
              refine jw_virt (k := 3) (c := 18) (as := [.int (Int32.ofInt v1), .int (Int32.ofInt r9), .int (Int32.ofInt 1)]) rfl rfl rfl (Nat.le_of_ble_eq_true rfl) rfl (Nat.le_of_ble_eq_true rfl) rfl rfl (jz_ci ?_)
              refine jm_Q.mono h (jp_i_mono (fun r468 J466 K467 h => ?_))
              refine jw_aload_n rfl rfl ?_
              refine jw_iload_n rfl rfl ?_
              refine jw_virt (k := 1) (c := 18) (as := [.int (Int32.ofInt v1)]) rfl rfl rfl (Nat.le_of_ble_eq_true rfl) rfl (Nat.le_of_ble_eq_true rfl) rfl rfl (jz_ci ?_)
              refine jm_Q.mono h (jp_i_mono (fun r471 J469 K470 h => ?_))
              obtain ⟨o472, h⟩ := h
              obtain ⟨o473, h⟩ := h
              refine jw_ic_ne rfl o472 o473 (fun c474 => ?_) (fun c474 => ?_)
              · replace h := h.1 c474
                refine jw_iconst rfl ?_
                refine jw_zret rfl (by omega) ?_
                exact h
              · replace h := h.2 c474
                refine jw_iconst rfl ?_
                refine jw_goto rfl ?_
                refine jw_zret rfl (by omega) ?_
                exact h
          · replace h := h.2 c456
            by_cases c475 : r3 = 4
            · replace h := h.1 c475
              refine jw_tab_in (pc2 := 211) (v := 4) (o := 153) rfl o10 c475 (by omega) rfl (by omega) ?_
              refine jw_aload_n rfl rfl ?_
              refine jw_iload_n rfl rfl ?_
              refine jw_iload_n rfl rfl ?_
              refine jw_iconst rfl ?_
              refine jw_virt (k := 3) (c := 18) (as := [.int (Int32.ofInt v1), .int (Int32.ofInt r6), .int (Int32.ofInt 1)]) rfl rfl rfl (Nat.le_of_ble_eq_true rfl) rfl (Nat.le_of_ble_eq_true rfl) rfl rfl (jz_ci ?_)
              refine jm_Q.mono h (jp_i_mono (fun r478 J476 K477 h => ?_))
              refine jw_aload_n rfl rfl ?_
              refine jw_iload_n rfl rfl ?_
              refine jw_virt (k := 1) (c := 18) (as := [.int (Int32.ofInt v1)]) rfl rfl rfl (Nat.le_of_ble_eq_true rfl) rfl (Nat.le_of_ble_eq_true rfl) rfl rfl (jz_ci ?_)
              refine jm_Q.mono h (jp_i_mono (fun r481 J479 K480 h => ?_))
              obtain ⟨o482, h⟩ := h
              obtain ⟨o483, h⟩ := h
              refine jw_ic_ne rfl o482 o483 (fun c484 => ?_) (fun c484 => ?_)
              · replace h := h.1 c484
                refine jw_iconst rfl ?_
                refine jw_zret rfl (by omega) ?_
                exact h
              · replace h := h.2 c484
                refine jw_aload_n rfl rfl ?_
                refine jw_iload_n rfl rfl ?_
                refine jw_iload rfl rfl ?_
                refine jw_iconst rfl ?_
                refine jw_virt (k := 3) (c := 18) (as := [.int (Int32.ofInt v1), .int (Int32.ofInt r9), .int (Int32.ofInt 1)]) rfl rfl rfl (Nat.le_of_ble_eq_true rfl) rfl (Nat.le_of_ble_eq_true rfl) rfl rfl (jz_ci ?_)
                refine jm_Q.mono h (jp_i_mono (fun r487 J485 K486 h => ?_))
                refine jw_aload_n rfl rfl ?_
                refine jw_iload_n rfl rfl ?_
                refine jw_virt (k := 1) (c := 18) (as := [.int (Int32.ofInt v1)]) rfl rfl rfl (Nat.le_of_ble_eq_true rfl) rfl (Nat.le_of_ble_eq_true rfl) rfl rfl (jz_ci ?_)
                refine jm_Q.mono h (jp_i_mono (fun r490 J488 K489 h => ?_))
                obtain ⟨o491, h⟩ := h
                obtain ⟨o492, h⟩ := h
                refine jw_ic_ne rfl o491 o492 (fun c493 => ?_) (fun c493 => ?_)
                · replace h := h.1 c493
                  refine jw_iconst rfl ?_
                  refine jw_zret rfl (by omega) ?_
                  exact h
                · replace h := h.2 c493
                  refine jw_iconst rfl ?_
                  refine jw_goto rfl ?_
                  refine jw_zret rfl (by omega) ?_
                  exact h
            · replace h := h.2 c475
              by_cases c494 : r3 = 5
              · replace h := h.1 c494
                refine jw_tab_in (pc2 := 108) (v := 5) (o := 50) rfl o10 c494 (by omega) rfl (by omega) ?_
                refine jw_aload_n rfl rfl ?_
                refine jw_iload_n rfl rfl ?_
                refine jw_virt (k := 1) (c := 18) (as := [.int (Int32.ofInt v1)]) rfl rfl rfl (Nat.le_of_ble_eq_true rfl) rfl (Nat.le_of_ble_eq_true rfl) rfl rfl (jz_ci ?_)
                refine jm_Q.mono h (jp_i_mono (fun r497 J495 K496 h => ?_))
                refine jw_iload rfl rfl ?_
                obtain ⟨o498, h⟩ := h
                obtain ⟨o499, h⟩ := h
                refine jw_ic_ne rfl o498 o499 (fun c500 => ?_) (fun c500 => ?_)
                · replace h := h.1 c500
                  refine jw_iconst rfl ?_
                  refine jw_zret rfl (by omega) ?_
                  exact h
                · replace h := h.2 c500
                  refine jw_aload_n rfl rfl ?_
                  refine jw_iload_n rfl rfl ?_
                  refine jw_iload_n rfl rfl ?_
                  refine jw_iconst rfl ?_
                  refine jw_virt (k := 3) (c := 18) (as := [.int (Int32.ofInt v1), .int (Int32.ofInt r6), .int (Int32.ofInt 2)]) rfl rfl rfl (Nat.le_of_ble_eq_true rfl) rfl (Nat.le_of_ble_eq_true rfl) rfl rfl (jz_ci ?_)
                  refine jm_Q.mono h (jp_i_mono (fun r503 J501 K502 h => ?_))
                  refine jw_iload rfl rfl ?_
                  obtain ⟨o504, h⟩ := h
                  refine jw_ic_ne rfl o504 o499 (fun c505 => ?_) (fun c505 => ?_)
                  · replace h := h.1 c505
                    refine jw_iconst rfl ?_
                    refine jw_zret rfl (by omega) ?_
                    exact h
                  · replace h := h.2 c505
                    refine jw_iconst rfl ?_
                    refine jw_goto rfl ?_
                    refine jw_zret rfl (by omega) ?_
                    exact h
              · replace h := h.2 c494
                by_cases c506 : r3 = 6
                · replace h := h.1 c506
                  refine jw_tab_in (pc2 := 136) (v := 6) (o := 78) rfl o10 c506 (by omega) rfl (by omega) ?_
                  refine jw_aload_n rfl rfl ?_
                  refine jw_iload_n rfl rfl ?_
                  refine jw_virt (k := 1) (c := 18) (as := [.int (Int32.ofInt v1)]) rfl rfl rfl (Nat.le_of_ble_eq_true rfl) rfl (Nat.le_of_ble_eq_true rfl) rfl rfl (jz_ci ?_)
                  refine jm_Q.mono h (jp_i_mono (fun r509 J507 K508 h => ?_))
                  refine jw_aload_n rfl rfl ?_
                  refine jw_iload_n rfl rfl ?_
                  refine jw_virt (k := 1) (c := 18) (as := [.int (Int32.ofInt r6)]) rfl rfl rfl (Nat.le_of_ble_eq_true rfl) rfl (Nat.le_of_ble_eq_true rfl) rfl rfl (jz_ci ?_)
                  refine jm_Q.mono h (jp_i_mono (fun r512 J510 K511 h => ?_))
                  refine jw_iload rfl rfl ?_
                  refine jw_isub rfl ?_
                  obtain ⟨o513, h⟩ := h
                  obtain ⟨o514, h⟩ := h
                  refine jw_ic_ne rfl o513 o514 (fun c515 => ?_) (fun c515 => ?_)
                  · replace h := h.1 c515
                    refine jw_iconst rfl ?_
                    refine jw_zret rfl (by omega) ?_
                    exact h
                  · replace h := h.2 c515
                    refine jw_aload_n rfl rfl ?_
                    refine jw_iload_n rfl rfl ?_
                    refine jw_iload_n rfl rfl ?_
                    refine jw_iconst rfl ?_
                    refine jw_virt (k := 3) (c := 18) (as := [.int (Int32.ofInt v1), .int (Int32.ofInt r6), .int (Int32.ofInt 2)]) rfl rfl rfl (Nat.le_of_ble_eq_true rfl) rfl (Nat.le_of_ble_eq_true rfl) rfl rfl (jz_ci ?_)
                    refine jm_Q.mono h (jp_i_mono (fun r518 J516 K517 h => ?_))
                    refine jw_aload_n rfl rfl ?_
                    refine jw_iload_n rfl rfl ?_
                    refine jw_virt (k := 1) (c := 18) (as := [.int (Int32.ofInt v1)]) rfl rfl rfl (Nat.le_of_ble_eq_true rfl) rfl (Nat.le_of_ble_eq_true rfl) rfl rfl (jz_ci ?_)
                    refine jm_Q.mono h (jp_i_mono (fun r521 J519 K520 h => ?_))
                    obtain ⟨o522, h⟩ := h
                    obtain ⟨o523, h⟩ := h
                    refine jw_ic_ne rfl o522 o523 (fun c524 => ?_) (fun c524 => ?_)
                    · replace h := h.1 c524
                      refine jw_iconst rfl ?_
                      refine jw_zret rfl (by omega) ?_
                      exact h
                    · replace h := h.2 c524
                      refine jw_iconst rfl ?_
                      refine jw_goto rfl ?_
                      refine jw_zret rfl (by omega) ?_
                      exact h
                · replace h := h.2 c506
                  by_cases c525 : r3 = 7
                  · replace h := h.1 c525
                    refine jw_tab_in (pc2 := 108) (v := 7) (o := 50) rfl o10 c525 (by omega) rfl (by omega) ?_
                    refine jw_aload_n rfl rfl ?_
                    refine jw_iload_n rfl rfl ?_
                    refine jw_virt (k := 1) (c := 18) (as := [.int (Int32.ofInt v1)]) rfl rfl rfl (Nat.le_of_ble_eq_true rfl) rfl (Nat.le_of_ble_eq_true rfl) rfl rfl (jz_ci ?_)
                    refine jm_Q.mono h (jp_i_mono (fun r528 J526 K527 h => ?_))
                    refine jw_iload rfl rfl ?_
                    obtain ⟨o529, h⟩ := h
                    obtain ⟨o530, h⟩ := h
                    refine jw_ic_ne rfl o529 o530 (fun c531 => ?_) (fun c531 => ?_)
                    · replace h := h.1 c531
                      refine jw_iconst rfl ?_
                      refine jw_zret rfl (by omega) ?_
                      exact h
                    · replace h := h.2 c531
                      refine jw_aload_n rfl rfl ?_
                      refine jw_iload_n rfl rfl ?_
                      refine jw_iload_n rfl rfl ?_
                      refine jw_iconst rfl ?_
                      refine jw_virt (k := 3) (c := 18) (as := [.int (Int32.ofInt v1), .int (Int32.ofInt r6), .int (Int32.ofInt 2)]) rfl rfl rfl (Nat.le_of_ble_eq_true rfl) rfl (Nat.le_of_ble_eq_true rfl) rfl rfl (jz_ci ?_)
                      refine jm_Q.mono h (jp_i_mono (fun r534 J532 K533 h => ?_))
                      refine jw_iload rfl rfl ?_
                      obtain ⟨o535, h⟩ := h
                      refine jw_ic_ne rfl o535 o530 (fun c536 => ?_) (fun c536 => ?_)
                      · replace h := h.1 c536
                        refine jw_iconst rfl ?_
                        refine jw_zret rfl (by omega) ?_
                        exact h
                      · replace h := h.2 c536
                        refine jw_iconst rfl ?_
                        refine jw_goto rfl ?_
                        refine jw_zret rfl (by omega) ?_
                        exact h
                  · replace h := h.2 c525
                    by_cases c537 : r3 = 8
                    · replace h := h.1 c537
                      refine jw_tab_in (pc2 := 136) (v := 8) (o := 78) rfl o10 c537 (by omega) rfl (by omega) ?_
                      refine jw_aload_n rfl rfl ?_
                      refine jw_iload_n rfl rfl ?_
                      refine jw_virt (k := 1) (c := 18) (as := [.int (Int32.ofInt v1)]) rfl rfl rfl (Nat.le_of_ble_eq_true rfl) rfl (Nat.le_of_ble_eq_true rfl) rfl rfl (jz_ci ?_)
                      refine jm_Q.mono h (jp_i_mono (fun r540 J538 K539 h => ?_))
                      refine jw_aload_n rfl rfl ?_
                      refine jw_iload_n rfl rfl ?_
                      refine jw_virt (k := 1) (c := 18) (as := [.int (Int32.ofInt r6)]) rfl rfl rfl (Nat.le_of_ble_eq_true rfl) rfl (Nat.le_of_ble_eq_true rfl) rfl rfl (jz_ci ?_)
                      refine jm_Q.mono h (jp_i_mono (fun r543 J541 K542 h => ?_))
                      refine jw_iload rfl rfl ?_
                      refine jw_isub rfl ?_
                      obtain ⟨o544, h⟩ := h
                      obtain ⟨o545, h⟩ := h
                      refine jw_ic_ne rfl o544 o545 (fun c546 => ?_) (fun c546 => ?_)
                      · replace h := h.1 c546
                        refine jw_iconst rfl ?_
                        refine jw_zret rfl (by omega) ?_
                        exact h
                      · replace h := h.2 c546
                        refine jw_aload_n rfl rfl ?_
                        refine jw_iload_n rfl rfl ?_
                        refine jw_iload_n rfl rfl ?_
                        refine jw_iconst rfl ?_
                        refine jw_virt (k := 3) (c := 18) (as := [.int (Int32.ofInt v1), .int (Int32.ofInt r6), .int (Int32.ofInt 2)]) rfl rfl rfl (Nat.le_of_ble_eq_true rfl) rfl (Nat.le_of_ble_eq_true rfl) rfl rfl (jz_ci ?_)
                        refine jm_Q.mono h (jp_i_mono (fun r549 J547 K548 h => ?_))
                        refine jw_aload_n rfl rfl ?_
                        refine jw_iload_n rfl rfl ?_
                        refine jw_virt (k := 1) (c := 18) (as := [.int (Int32.ofInt v1)]) rfl rfl rfl (Nat.le_of_ble_eq_true rfl) rfl (Nat.le_of_ble_eq_true rfl) rfl rfl (jz_ci ?_)
                        refine jm_Q.mono h (jp_i_mono (fun r552 J550 K551 h => ?_))
                        obtain ⟨o553, h⟩ := h
                        obtain ⟨o554, h⟩ := h
                        refine jw_ic_ne rfl o553 o554 (fun c555 => ?_) (fun c555 => ?_)
                        · replace h := h.1 c555
                          refine jw_iconst rfl ?_
                          refine jw_zret rfl (by omega) ?_
                          exact h
                        · replace h := h.2 c555
                          refine jw_iconst rfl ?_
                          refine jw_goto rfl ?_
                          refine jw_zret rfl (by omega) ?_
                          exact h
                    · replace h := h.2 c537
                      by_cases c556 : r3 = 9
                      · replace h := h.1 c556
                        refine jw_tab_in (pc2 := 284) (v := 9) (o := 226) rfl o10 c556 (by omega) rfl (by omega) ?_
                        refine jw_iconst rfl ?_
                        refine jw_zret rfl (by omega) ?_
                        exact h
                      · replace h := h.2 c556
                        by_cases c557 : r3 = 10
                        · replace h := h.1 c557
                          refine jw_tab_in (pc2 := 248) (v := 10) (o := 190) rfl o10 c557 (by omega) rfl (by omega) ?_
                          refine jw_aload_n rfl rfl ?_
                          refine jw_iload_n rfl rfl ?_
                          refine jw_iconst rfl ?_
                          refine jw_virt (k := 2) (c := 18) (as := [.int (Int32.ofInt v1), .int (Int32.ofInt 1)]) rfl rfl rfl (Nat.le_of_ble_eq_true rfl) rfl (Nat.le_of_ble_eq_true rfl) rfl rfl (jz_ci ?_)
                          refine jm_Q.mono h (jp_i_mono (fun r560 J558 K559 h => ?_))
                          refine jw_aload_n rfl rfl ?_
                          refine jw_iload_n rfl rfl ?_
                          refine jw_iconst rfl ?_
                          refine jw_virt (k := 2) (c := 18) (as := [.int (Int32.ofInt v1), .int (Int32.ofInt 4)]) rfl rfl rfl (Nat.le_of_ble_eq_true rfl) rfl (Nat.le_of_ble_eq_true rfl) rfl rfl (jz_ci ?_)
                          refine jm_Q.mono h (jp_i_mono (fun r563 J561 K562 h => ?_))
                          obtain ⟨o564, h⟩ := h
                          obtain ⟨o565, h⟩ := h
                          refine jw_ic_gt rfl o564 o565 (fun c566 => ?_) (fun c566 => ?_)
                          · replace h := h.1 c566
                            refine jw_iconst rfl ?_
                            refine jw_zret rfl (by omega) ?_
                            exact h
                          · replace h := h.2 c566
                            refine jw_aload_n rfl rfl ?_
                            refine jw_iload_n rfl rfl ?_
                            refine jw_iload_n rfl rfl ?_
                            refine jw_iconst rfl ?_
                            refine jw_virt (k := 3) (c := 18) (as := [.int (Int32.ofInt v1), .int (Int32.ofInt r6), .int (Int32.ofInt 2)]) rfl rfl rfl (Nat.le_of_ble_eq_true rfl) rfl (Nat.le_of_ble_eq_true rfl) rfl rfl (jz_ci ?_)
                            refine jm_Q.mono h (jp_i_mono (fun r569 J567 K568 h => ?_))
                            refine jw_aload_n rfl rfl ?_
                            refine jw_iload_n rfl rfl ?_
                            refine jw_virt (k := 1) (c := 18) (as := [.int (Int32.ofInt v1)]) rfl rfl rfl (Nat.le_of_ble_eq_true rfl) rfl (Nat.le_of_ble_eq_true rfl) rfl rfl (jz_ci ?_)
                            refine jm_Q.mono h (jp_i_mono (fun r572 J570 K571 h => ?_))
                            obtain ⟨o573, h⟩ := h
                            obtain ⟨o574, h⟩ := h
                            refine jw_ic_ne rfl o573 o574 (fun c575 => ?_) (fun c575 => ?_)
                            · replace h := h.1 c575
                              refine jw_iconst rfl ?_
                              refine jw_zret rfl (by omega) ?_
                              exact h
                            · replace h := h.2 c575
                              refine jw_iconst rfl ?_
                              refine jw_goto rfl ?_
                              refine jw_zret rfl (by omega) ?_
                              exact h
                        · replace h := h.2 c557
                          refine jw_tab_out (pc2 := 284) rfl o10 (by omega) (by omega) ?_
                          refine jw_iconst rfl ?_
                          refine jw_zret rfl (by omega) ?_
                          exact h
set_option maxHeartbeats 4000000 in
theorem e_173_8 {xs : Nat → Int32} {L d : Nat} {J K : jZ} {P : Int → jZ → jZ → Prop} (hL : L < 2147483648) (h : (-2147483648 ≤ (L : Int) ∧ (L : Int) < 2147483648) ∧ (60 ≤ (L : Int) → l_173_25 xs L (d + 8) 60 0 J K P) ∧ ((L : Int) < 60 → l_173_25 xs L (d + 8) (L : Int) 0 J K P)) : l_173_8 xs L (d + 8) J K P := by
  unfold l_173_8
  refine jw_aload_s rfl rfl ?_
  refine jw_slen rfl hL ?_
  refine jw_bipush rfl (by decide) ?_
  obtain ⟨o1, h⟩ := h
  refine jw_ic_ge rfl o1 (by omega) (fun c2 => ?_) (fun c2 => ?_)
  · replace h := h.1 c2
    refine jw_bipush rfl (by decide) ?_
    refine jw_istore_n (ls' := [some (.retAddr 0), some (.ref 0), some (.int (Int32.ofInt 60)), none, none, none, none, none, none]) rfl rfl ?_
    refine jw_iconst rfl ?_
    refine jw_istore_n (ls' := [some (.retAddr 0), some (.ref 0), some (.int (Int32.ofInt 60)), some (.int (Int32.ofInt 0)), none, none, none, none, none]) rfl rfl ?_
    exact jz_fg (l := [some (.retAddr 0), some (.ref 0), some (.int (Int32.ofInt 60)), some (.int (Int32.ofInt 0)), none, none, none, none, none]) ⟨rfl, rfl, rfl, rfl, jz_n0, jz_n0, jz_n0, jz_n0, jz_n0, trivial⟩ h
  · replace h := h.2 c2
    refine jw_aload_s rfl rfl ?_
    refine jw_slen rfl hL ?_
    refine jw_goto rfl ?_
    refine jw_istore_n (ls' := [some (.retAddr 0), some (.ref 0), some (.int (Int32.ofInt (L : Int))), none, none, none, none, none, none]) rfl rfl ?_
    refine jw_iconst rfl ?_
    refine jw_istore_n (ls' := [some (.retAddr 0), some (.ref 0), some (.int (Int32.ofInt (L : Int))), some (.int (Int32.ofInt 0)), none, none, none, none, none]) rfl rfl ?_
    exact jz_fg (l := [some (.retAddr 0), some (.ref 0), some (.int (Int32.ofInt (L : Int))), some (.int (Int32.ofInt 0)), none, none, none, none, none]) ⟨rfl, rfl, rfl, rfl, jz_n0, jz_n0, jz_n0, jz_n0, jz_n0, trivial⟩ h
set_option maxHeartbeats 4000000 in
theorem e_173_25 {xs : Nat → Int32} {L d : Nat} {v2 : Int} {v3 : Int} {J K : jZ} {P : Int → jZ → jZ → Prop} (hL : L < 2147483648) (h : (-2147483648 ≤ v3 ∧ v3 < 2147483648) ∧ (-2147483648 ≤ v2 ∧ v2 < 2147483648) ∧ (v2 ≤ v3 → q_169 xs L (d + 8) J K (fun r6 J4 K5 => q_111 xs L (d + 8) (-1) 0 J4 K5 (fun r9 J7 K8 => (-2147483648 ≤ r9 ∧ r9 < 2147483648) ∧ (¬ r9 = (-2) → P 0 J7 K8) ∧ (r9 = (-2) → q_113 xs L (d + 8) 24 J7 K8 (fun r14 J12 K13 => (-2147483648 ≤ r14 ∧ r14 < 2147483648) ∧ (¬ r14 = (-2) → P 0 J12 K13) ∧ (r14 = (-2) → q_169 xs L (d + 8) J12 K13 (fun r19 J17 K18 => (-2147483648 ≤ r19 ∧ r19 < 2147483648) ∧ (-2147483648 ≤ (r6 + 2) ∧ (r6 + 2) < 2147483648) ∧ (r19 = (r6 + 2) → q_162 xs L (d + 8) 3 J17 K18 (fun r25 J23 K24 => l_173_156 xs L (d + 8) r25 0 J23 K24 P)) ∧ (¬ r19 = (r6 + 2) → P 0 J17 K18)))))))) ∧ (v3 < v2 → q_168 xs L (d + 8) v3 J K (fun J26 K27 => q_162 xs L (d + 8) 0 J26 K27 (fun r30 J28 K29 => (-2147483648 ≤ r30 ∧ r30 < 2147483648) ∧ (r30 < 0 → P 0 J28 K29) ∧ (0 ≤ r30 → q_162 xs L (d + 8) 0 J28 K29 (fun r35 J33 K34 => (-2147483648 ≤ r35 ∧ r35 < 2147483648) ∧ (60 < r35 → P 0 J33 K34) ∧ (r35 ≤ 60 → q_162 xs L (d + 8) 3 J33 K34 (fun r40 J38 K39 => (-2147483648 ≤ r40 ∧ r40 < 2147483648) ∧ (24 < r40 → P 0 J38 K39) ∧ (r40 ≤ 24 → q_162 xs L (d + 8) 6 J38 K39 (fun r45 J43 K44 => (-2147483648 ≤ r45 ∧ r45 < 2147483648) ∧ (¬ r45 = 0 → P 0 J43 K44) ∧ (r45 = 0 → q_162 xs L (d + 8) 2 J43 K44 (fun r50 J48 K49 => q_162 xs L (d + 8) 1 J48 K49 (fun r53 J51 K52 => (-2147483648 ≤ r50 ∧ r50 < 2147483648) ∧ (-2147483648 ≤ r53 ∧ r53 < 2147483648) ∧ (r53 < r50 → P 0 J51 K52) ∧ (r50 ≤ r53 → q_162 xs L (d + 8) 1 J51 K52 (fun r59 J57 K58 => q_162 xs L (d + 8) 0 J57 K58 (fun r62 J60 K61 => (-2147483648 ≤ r59 ∧ r59 < 2147483648) ∧ (-2147483648 ≤ r62 ∧ r62 < 2147483648) ∧ (r59 ≤ r62 → l_173_25 xs L (d + 8) v2 (v3 + 1) J60 K61 P) ∧ (r62 < r59 → P 0 J60 K61))))))))))))))))) : l_173_25 xs L (d + 8) v2 v3 J K P := by
  unfold l_173_25
  refine jw_iload_n rfl rfl ?_
  refine jw_iload_n rfl rfl ?_
  obtain ⟨o1, h⟩ := h
  obtain ⟨o2, h⟩ := h
  refine jw_ic_ge rfl o1 o2 (fun c3 => ?_) (fun c3 => ?_)
  · replace h := h.1 c3
    refine jw_aload_n rfl rfl ?_
    refine jw_stat (k := 1) (as := [.ref 0]) rfl (by decide) rfl rfl (Nat.le_of_ble_eq_true rfl) rfl (Nat.le_of_ble_eq_true rfl) (jz_ci ?_)
    refine jm_Q.mono h (jp_i_mono (fun r6 J4 K5 h => ?_))
    refine jw_istore_n (ls' := [some (.retAddr 0), some (.ref 0), some (.int (Int32.ofInt v2)), some (.int (Int32.ofInt r6)), none, none, none, none, none]) rfl rfl ?_
    refine jw_aload_n rfl rfl ?_
    refine jw_iconst rfl ?_
    refine jw_iconst rfl ?_
    refine jw_virt (k := 2) (c := 18) (as := [.int (Int32.ofInt (-1)), .int (Int32.ofInt 0)]) rfl rfl rfl (Nat.le_of_ble_eq_true rfl) rfl (Nat.le_of_ble_eq_true rfl) rfl rfl (jz_ci ?_)
    refine jm_Q.mono h (jp_i_mono (fun r9 J7 K8 h => ?_))
    refine jw_bipush rfl (by decide) ?_
    obtain ⟨o10, h⟩ := h
    refine jw_ic_ne rfl o10 (by omega) (fun c11 => ?_) (fun c11 => ?_)
    · replace h := h.1 c11
      refine jw_iconst rfl ?_
      refine jw_zret rfl (by omega) ?_
      exact h
    · replace h := h.2 c11
      refine jw_aload_n rfl rfl ?_
      refine jw_bipush rfl (by decide) ?_
      refine jw_virt (k := 1) (c := 18) (as := [.int (Int32.ofInt 24)]) rfl rfl rfl (Nat.le_of_ble_eq_true rfl) rfl (Nat.le_of_ble_eq_true rfl) rfl rfl (jz_ci ?_)
      refine jm_Q.mono h (jp_i_mono (fun r14 J12 K13 h => ?_))
      refine jw_bipush rfl (by decide) ?_
      obtain ⟨o15, h⟩ := h
      refine jw_ic_ne rfl o15 (by omega) (fun c16 => ?_) (fun c16 => ?_)
      · replace h := h.1 c16
        refine jw_iconst rfl ?_
        refine jw_zret rfl (by omega) ?_
        exact h
      · replace h := h.2 c16
        refine jw_aload_n rfl rfl ?_
        refine jw_stat (k := 1) (as := [.ref 0]) rfl (by decide) rfl rfl (Nat.le_of_ble_eq_true rfl) rfl (Nat.le_of_ble_eq_true rfl) (jz_ci ?_)
        refine jm_Q.mono h (jp_i_mono (fun r19 J17 K18 h => ?_))
        refine jw_iload_n rfl rfl ?_
        refine jw_iconst rfl ?_
        refine jw_iadd rfl ?_
        obtain ⟨o20, h⟩ := h
        obtain ⟨o21, h⟩ := h
        refine jw_ic_eq rfl o20 o21 (fun c22 => ?_) (fun c22 => ?_)
        · replace h := h.1 c22
          refine jw_aload_n rfl rfl ?_
          refine jw_iconst rfl ?_
          refine jw_virt (k := 1) (c := 18) (as := [.int (Int32.ofInt 3)]) rfl rfl rfl (Nat.le_of_ble_eq_true rfl) rfl (Nat.le_of_ble_eq_true rfl) rfl rfl (jz_ci ?_)
          refine jm_Q.mono h (jp_i_mono (fun r25 J23 K24 h => ?_))
          refine jw_istore (ls' := [some (.retAddr 0), some (.ref 0), some (.int (Int32.ofInt v2)), some (.int (Int32.ofInt r6)), some (.int (Int32.ofInt r25)), none, none, none, none]) rfl rfl ?_
          refine jw_iconst rfl ?_
          refine jw_istore (ls' := [some (.retAddr 0), some (.ref 0), some (.int (Int32.ofInt v2)), some (.int (Int32.ofInt r6)), some (.int (Int32.ofInt r25)), some (.int (Int32.ofInt 0)), none, none, none]) rfl rfl ?_
          exact jz_fg (l := [none, some (.ref 0), none, none, some (.int (Int32.ofInt r25)), some (.int (Int32.ofInt 0)), none, none, none]) ⟨jz_ns, rfl, jz_ni, jz_ni, rfl, rfl, jz_n0, jz_n0, jz_n0, trivial⟩ h
        · replace h := h.2 c22
          refine jw_iconst rfl ?_
          refine jw_zret rfl (by omega) ?_
          exact h
  · replace h := h.2 c3
    refine jw_aload_n rfl rfl ?_
    refine jw_aload_s rfl rfl ?_
    refine jw_iload_n rfl rfl ?_
    refine jw_stat (k := 3) (as := [.ref 0, .retAddr 0, .int (Int32.ofInt v3)]) rfl (by decide) rfl rfl (Nat.le_of_ble_eq_true rfl) rfl (Nat.le_of_ble_eq_true rfl) (jz_cv ?_)
    refine jm_Q.mono h (jp_v_mono (fun J26 K27 h => ?_))
    refine jw_aload_n rfl rfl ?_
    refine jw_iconst rfl ?_
    refine jw_virt (k := 1) (c := 18) (as := [.int (Int32.ofInt 0)]) rfl rfl rfl (Nat.le_of_ble_eq_true rfl) rfl (Nat.le_of_ble_eq_true rfl) rfl rfl (jz_ci ?_)
    refine jm_Q.mono h (jp_i_mono (fun r30 J28 K29 h => ?_))
    obtain ⟨o31, h⟩ := h
    refine jw_if_lt rfl o31 (fun c32 => ?_) (fun c32 => ?_)
    · replace h := h.1 c32
      refine jw_iconst rfl ?_
      refine jw_zret rfl (by omega) ?_
      exact h
    · replace h := h.2 c32
      refine jw_aload_n rfl rfl ?_
      refine jw_iconst rfl ?_
      refine jw_virt (k := 1) (c := 18) (as := [.int (Int32.ofInt 0)]) rfl rfl rfl (Nat.le_of_ble_eq_true rfl) rfl (Nat.le_of_ble_eq_true rfl) rfl rfl (jz_ci ?_)
      refine jm_Q.mono h (jp_i_mono (fun r35 J33 K34 h => ?_))
      refine jw_bipush rfl (by decide) ?_
      obtain ⟨o36, h⟩ := h
      refine jw_ic_gt rfl o36 (by omega) (fun c37 => ?_) (fun c37 => ?_)
      · replace h := h.1 c37
        refine jw_iconst rfl ?_
        refine jw_zret rfl (by omega) ?_
        exact h
      · replace h := h.2 c37
        refine jw_aload_n rfl rfl ?_
        refine jw_iconst rfl ?_
        refine jw_virt (k := 1) (c := 18) (as := [.int (Int32.ofInt 3)]) rfl rfl rfl (Nat.le_of_ble_eq_true rfl) rfl (Nat.le_of_ble_eq_true rfl) rfl rfl (jz_ci ?_)
        refine jm_Q.mono h (jp_i_mono (fun r40 J38 K39 h => ?_))
        refine jw_bipush rfl (by decide) ?_
        obtain ⟨o41, h⟩ := h
        refine jw_ic_gt rfl o41 (by omega) (fun c42 => ?_) (fun c42 => ?_)
        · replace h := h.1 c42
          refine jw_iconst rfl ?_
          refine jw_zret rfl (by omega) ?_
          exact h
        · replace h := h.2 c42
          refine jw_aload_n rfl rfl ?_
          refine jw_bipush rfl (by decide) ?_
          refine jw_virt (k := 1) (c := 18) (as := [.int (Int32.ofInt 6)]) rfl rfl rfl (Nat.le_of_ble_eq_true rfl) rfl (Nat.le_of_ble_eq_true rfl) rfl rfl (jz_ci ?_)
          refine jm_Q.mono h (jp_i_mono (fun r45 J43 K44 h => ?_))
          obtain ⟨o46, h⟩ := h
          refine jw_if_ne rfl o46 (fun c47 => ?_) (fun c47 => ?_)
          · replace h := h.1 c47
            refine jw_iconst rfl ?_
            refine jw_zret rfl (by omega) ?_
            exact h
          · replace h := h.2 c47
            refine jw_aload_n rfl rfl ?_
            refine jw_iconst rfl ?_
            refine jw_virt (k := 1) (c := 18) (as := [.int (Int32.ofInt 2)]) rfl rfl rfl (Nat.le_of_ble_eq_true rfl) rfl (Nat.le_of_ble_eq_true rfl) rfl rfl (jz_ci ?_)
            refine jm_Q.mono h (jp_i_mono (fun r50 J48 K49 h => ?_))
            refine jw_aload_n rfl rfl ?_
            refine jw_iconst rfl ?_
            refine jw_virt (k := 1) (c := 18) (as := [.int (Int32.ofInt 1)]) rfl rfl rfl (Nat.le_of_ble_eq_true rfl) rfl (Nat.le_of_ble_eq_true rfl) rfl rfl (jz_ci ?_)
            refine jm_Q.mono h (jp_i_mono (fun r53 J51 K52 h => ?_))
            obtain ⟨o54, h⟩ := h
            obtain ⟨o55, h⟩ := h
            refine jw_ic_gt rfl o54 o55 (fun c56 => ?_) (fun c56 => ?_)
            · replace h := h.1 c56
              refine jw_iconst rfl ?_
              refine jw_zret rfl (by omega) ?_
              exact h
            · replace h := h.2 c56
              refine jw_aload_n rfl rfl ?_
              refine jw_iconst rfl ?_
              refine jw_virt (k := 1) (c := 18) (as := [.int (Int32.ofInt 1)]) rfl rfl rfl (Nat.le_of_ble_eq_true rfl) rfl (Nat.le_of_ble_eq_true rfl) rfl rfl (jz_ci ?_)
              refine jm_Q.mono h (jp_i_mono (fun r59 J57 K58 h => ?_))
              refine jw_aload_n rfl rfl ?_
              refine jw_iconst rfl ?_
              refine jw_virt (k := 1) (c := 18) (as := [.int (Int32.ofInt 0)]) rfl rfl rfl (Nat.le_of_ble_eq_true rfl) rfl (Nat.le_of_ble_eq_true rfl) rfl rfl (jz_ci ?_)
              refine jm_Q.mono h (jp_i_mono (fun r62 J60 K61 h => ?_))
              obtain ⟨o63, h⟩ := h
              obtain ⟨o64, h⟩ := h
              refine jw_ic_le rfl o63 o64 (fun c65 => ?_) (fun c65 => ?_)
              · replace h := h.1 c65
                refine jw_iinc (ls' := [some (.retAddr 0), some (.ref 0), some (.int (Int32.ofInt v2)), some (.int (Int32.ofInt (v3 + 1))), none, none, none, none, none]) rfl rfl rfl ?_
                refine jw_goto rfl ?_
                exact jz_fg (l := [some (.retAddr 0), some (.ref 0), some (.int (Int32.ofInt v2)), some (.int (Int32.ofInt (v3 + 1))), none, none, none, none, none]) ⟨rfl, rfl, rfl, rfl, jz_n0, jz_n0, jz_n0, jz_n0, jz_n0, trivial⟩ h
              · replace h := h.2 c65
                refine jw_iconst rfl ?_
                refine jw_zret rfl (by omega) ?_
                exact h
set_option maxHeartbeats 4000000 in
theorem e_173_156 {xs : Nat → Int32} {L d : Nat} {v4 : Int} {v5 : Int} {J K : jZ} {P : Int → jZ → jZ → Prop} (hL : L < 2147483648) (h : (-2147483648 ≤ v5 ∧ v5 < 2147483648) ∧ (-2147483648 ≤ v4 ∧ v4 < 2147483648) ∧ (v4 ≤ v5 → q_162 xs L (d + 8) 0 J K (fun r6 J4 K5 => q_162 xs L (d + 8) 7 J4 K5 (fun r9 J7 K8 => q_157 xs L (d + 8) J7 K8 (fun r12 J10 K11 => (-2147483648 ≤ r12 ∧ r12 < 2147483648) ∧ (r12 = 1 → l_173_220 xs L (d + 8) v4 r6 r9 0 0 J10 K11 P) ∧ (¬ r12 = 1 → P 0 J10 K11))))) ∧ (v5 < v4 → q_170 xs L (d + 8) v5 J K (fun r17 J15 K16 => (-2147483648 ≤ r17 ∧ r17 < 2147483648) ∧ (r17 = 0 → P 0 J15 K16) ∧ (¬ r17 = 0 → q_171 xs L (d + 8) v5 J15 K16 (fun r22 J20 K21 => (-2147483648 ≤ r22 ∧ r22 < 2147483648) ∧ (¬ r22 = 0 → l_173_156 xs L (d + 8) v4 (v5 + 1) J20 K21 P) ∧ (r22 = 0 → P 0 J20 K21)))))) : l_173_156 xs L (d + 8) v4 v5 J K P := by
  unfold l_173_156
  refine jw_iload rfl rfl ?_
  refine jw_iload rfl rfl ?_
  obtain ⟨o1, h⟩ := h
  obtain ⟨o2, h⟩ := h
  refine jw_ic_ge rfl o1 o2 (fun c3 => ?_) (fun c3 => ?_)
  · replace h := h.1 c3
    refine jw_aload_n rfl rfl ?_
    refine jw_iconst rfl ?_
    refine jw_virt (k := 1) (c := 18) (as := [.int (Int32.ofInt 0)]) rfl rfl rfl (Nat.le_of_ble_eq_true rfl) rfl (Nat.le_of_ble_eq_true rfl) rfl rfl (jz_ci ?_)
    refine jm_Q.mono h (jp_i_mono (fun r6 J4 K5 h => ?_))
    refine jw_istore (ls' := [none, some (.ref 0), none, none, some (.int (Int32.ofInt v4)), some (.int (Int32.ofInt r6)), none, none, none]) rfl rfl ?_
    refine jw_aload_n rfl rfl ?_
    refine jw_bipush rfl (by decide) ?_
    refine jw_virt (k := 1) (c := 18) (as := [.int (Int32.ofInt 7)]) rfl rfl rfl (Nat.le_of_ble_eq_true rfl) rfl (Nat.le_of_ble_eq_true rfl) rfl rfl (jz_ci ?_)
    refine jm_Q.mono h (jp_i_mono (fun r9 J7 K8 h => ?_))
    refine jw_istore (ls' := [none, some (.ref 0), none, none, some (.int (Int32.ofInt v4)), some (.int (Int32.ofInt r6)), some (.int (Int32.ofInt r9)), none, none]) rfl rfl ?_
    refine jw_aload_n rfl rfl ?_
    refine jw_virt (k := 0) (c := 18) (as := []) rfl rfl rfl (Nat.le_of_ble_eq_true rfl) rfl (Nat.le_of_ble_eq_true rfl) rfl rfl (jz_ci ?_)
    refine jm_Q.mono h (jp_i_mono (fun r12 J10 K11 h => ?_))
    refine jw_iconst rfl ?_
    obtain ⟨o13, h⟩ := h
    refine jw_ic_eq rfl o13 (by omega) (fun c14 => ?_) (fun c14 => ?_)
    · replace h := h.1 c14
      refine jw_iconst rfl ?_
      refine jw_istore (ls' := [none, some (.ref 0), none, none, some (.int (Int32.ofInt v4)), some (.int (Int32.ofInt r6)), some (.int (Int32.ofInt r9)), some (.int (Int32.ofInt 0)), none]) rfl rfl ?_
      refine jw_iconst rfl ?_
      refine jw_istore (ls' := [none, some (.ref 0), none, none, some (.int (Int32.ofInt v4)), some (.int (Int32.ofInt r6)), some (.int (Int32.ofInt r9)), some (.int (Int32.ofInt 0)), some (.int (Int32.ofInt 0))]) rfl rfl ?_
      exact jz_fg (l := [none, some (.ref 0), none, none, some (.int (Int32.ofInt v4)), some (.int (Int32.ofInt r6)), some (.int (Int32.ofInt r9)), some (.int (Int32.ofInt 0)), some (.int (Int32.ofInt 0))]) ⟨jz_n0, rfl, jz_n0, jz_n0, rfl, rfl, rfl, rfl, rfl, trivial⟩ h
    · replace h := h.2 c14
      refine jw_iconst rfl ?_
      refine jw_zret rfl (by omega) ?_
      exact h
  · replace h := h.2 c3
    refine jw_aload_n rfl rfl ?_
    refine jw_iload rfl rfl ?_
    refine jw_stat (k := 2) (as := [.ref 0, .int (Int32.ofInt v5)]) rfl (by decide) rfl rfl (Nat.le_of_ble_eq_true rfl) rfl (Nat.le_of_ble_eq_true rfl) (jz_ci ?_)
    refine jm_Q.mono h (jp_i_mono (fun r17 J15 K16 h => ?_))
    obtain ⟨o18, h⟩ := h
    refine jw_if_eq rfl o18 (fun c19 => ?_) (fun c19 => ?_)
    · replace h := h.1 c19
      refine jw_iconst rfl ?_
      refine jw_zret rfl (by omega) ?_
      exact h
    · replace h := h.2 c19
      refine jw_aload_n rfl rfl ?_
      refine jw_iload rfl rfl ?_
      refine jw_stat (k := 2) (as := [.ref 0, .int (Int32.ofInt v5)]) rfl (by decide) rfl rfl (Nat.le_of_ble_eq_true rfl) rfl (Nat.le_of_ble_eq_true rfl) (jz_ci ?_)
      refine jm_Q.mono h (jp_i_mono (fun r22 J20 K21 h => ?_))
      obtain ⟨o23, h⟩ := h
      refine jw_if_ne rfl o23 (fun c24 => ?_) (fun c24 => ?_)
      · replace h := h.1 c24
        refine jw_iinc (ls' := [none, some (.ref 0), none, none, some (.int (Int32.ofInt v4)), some (.int (Int32.ofInt (v5 + 1))), none, none, none]) rfl rfl rfl ?_
        refine jw_goto rfl ?_
        exact jz_fg (l := [none, some (.ref 0), none, none, some (.int (Int32.ofInt v4)), some (.int (Int32.ofInt (v5 + 1))), none, none, none]) ⟨jz_n0, rfl, jz_n0, jz_n0, rfl, rfl, jz_n0, jz_n0, jz_n0, trivial⟩ h
      · replace h := h.2 c24
        refine jw_iconst rfl ?_
        refine jw_zret rfl (by omega) ?_
        exact h
set_option maxHeartbeats 4000000 in
theorem e_173_220 {xs : Nat → Int32} {L d : Nat} {v4 : Int} {v5 : Int} {v6 : Int} {v7 : Int} {v8 : Int} {J K : jZ} {P : Int → jZ → jZ → Prop} (hL : L < 2147483648) (h : (-2147483648 ≤ v8 ∧ v8 < 2147483648) ∧ (-2147483648 ≤ v4 ∧ v4 < 2147483648) ∧ (v4 ≤ v8 → q_153 xs L (d + 8) 7 J K (fun r6 J4 K5 => q_107 xs L (d + 8) J4 K5 (fun r9 J7 K8 => q_161 xs L (d + 8) J7 K8 (fun r12 J10 K11 => (-2147483648 ≤ r12 ∧ r12 < 2147483648) ∧ (¬ r12 = 1 → P 0 J10 K11) ∧ (r12 = 1 → q_162 xs L (d + 8) 0 J10 K11 (fun r17 J15 K16 => (-2147483648 ≤ r17 ∧ r17 < 2147483648) ∧ (-2147483648 ≤ v5 ∧ v5 < 2147483648) ∧ (¬ r17 = v5 → P 0 J15 K16) ∧ (r17 = v5 → q_162 xs L (d + 8) 3 J15 K16 (fun r23 J21 K22 => (-2147483648 ≤ r23 ∧ r23 < 2147483648) ∧ (¬ r23 = v4 → P 0 J21 K22) ∧ (r23 = v4 → q_162 xs L (d + 8) 7 J21 K22 (fun r28 J26 K27 => (r28 = v6) ∧ l_173_300 xs L (d + 8) v4 v7 0 J26 K27 P)))))))))) ∧ (v8 < v4 → q_113 xs L (d + 8) v8 J K (fun r32 J30 K31 => l_173_220 xs L (d + 8) v4 v5 v6 (v7 + r32) (v8 + 1) J30 K31 P))) : l_173_220 xs L (d + 8) v4 v5 v6 v7 v8 J K P := by
  unfold l_173_220
  refine jw_iload rfl rfl ?_
  refine jw_iload rfl rfl ?_
  obtain ⟨o1, h⟩ := h
  obtain ⟨o2, h⟩ := h
  refine jw_ic_ge rfl o1 o2 (fun c3 => ?_) (fun c3 => ?_)
  · replace h := h.1 c3
    refine jw_aload_n rfl rfl ?_
    refine jw_bipush rfl (by decide) ?_
    refine jw_virt (k := 1) (c := 18) (as := [.int (Int32.ofInt 7)]) rfl rfl rfl (Nat.le_of_ble_eq_true rfl) rfl (Nat.le_of_ble_eq_true rfl) rfl rfl (jz_ci ?_)
    refine jm_Q.mono h (jp_i_mono (fun r6 J4 K5 h => ?_))
    refine jw_pop_i rfl ?_
    refine jw_aload_n rfl rfl ?_
    refine jw_virt (k := 0) (c := 18) (as := []) rfl rfl rfl (Nat.le_of_ble_eq_true rfl) rfl (Nat.le_of_ble_eq_true rfl) rfl rfl (jz_ci ?_)
    refine jm_Q.mono h (jp_i_mono (fun r9 J7 K8 h => ?_))
    refine jw_pop_i rfl ?_
    refine jw_aload_n rfl rfl ?_
    refine jw_virt (k := 0) (c := 18) (as := []) rfl rfl rfl (Nat.le_of_ble_eq_true rfl) rfl (Nat.le_of_ble_eq_true rfl) rfl rfl (jz_ci ?_)
    refine jm_Q.mono h (jp_i_mono (fun r12 J10 K11 h => ?_))
    refine jw_iconst rfl ?_
    obtain ⟨o13, h⟩ := h
    refine jw_ic_ne rfl o13 (by omega) (fun c14 => ?_) (fun c14 => ?_)
    · replace h := h.1 c14
      refine jw_iconst rfl ?_
      refine jw_zret rfl (by omega) ?_
      exact h
    · replace h := h.2 c14
      refine jw_aload_n rfl rfl ?_
      refine jw_iconst rfl ?_
      refine jw_virt (k := 1) (c := 18) (as := [.int (Int32.ofInt 0)]) rfl rfl rfl (Nat.le_of_ble_eq_true rfl) rfl (Nat.le_of_ble_eq_true rfl) rfl rfl (jz_ci ?_)
      refine jm_Q.mono h (jp_i_mono (fun r17 J15 K16 h => ?_))
      refine jw_iload rfl rfl ?_
      obtain ⟨o18, h⟩ := h
      obtain ⟨o19, h⟩ := h
      refine jw_ic_ne rfl o18 o19 (fun c20 => ?_) (fun c20 => ?_)
      · replace h := h.1 c20
        refine jw_iconst rfl ?_
        refine jw_zret rfl (by omega) ?_
        exact h
      · replace h := h.2 c20
        refine jw_aload_n rfl rfl ?_
        refine jw_iconst rfl ?_
        refine jw_virt (k := 1) (c := 18) (as := [.int (Int32.ofInt 3)]) rfl rfl rfl (Nat.le_of_ble_eq_true rfl) rfl (Nat.le_of_ble_eq_true rfl) rfl rfl (jz_ci ?_)
        refine jm_Q.mono h (jp_i_mono (fun r23 J21 K22 h => ?_))
        refine jw_iload rfl rfl ?_
        obtain ⟨o24, h⟩ := h
        refine jw_ic_ne rfl o24 o2 (fun c25 => ?_) (fun c25 => ?_)
        · replace h := h.1 c25
          refine jw_iconst rfl ?_
          refine jw_zret rfl (by omega) ?_
          exact h
        · replace h := h.2 c25
          refine jw_aload_n rfl rfl ?_
          refine jw_bipush rfl (by decide) ?_
          refine jw_virt (k := 1) (c := 18) (as := [.int (Int32.ofInt 7)]) rfl rfl rfl (Nat.le_of_ble_eq_true rfl) rfl (Nat.le_of_ble_eq_true rfl) rfl rfl (jz_ci ?_)
          refine jm_Q.mono h (jp_i_mono (fun r28 J26 K27 h => ?_))
          refine jw_iload rfl rfl ?_
          obtain ⟨o29, h⟩ := h
          rw [o29]
          refine jw_ic_same rfl ?_
          refine jw_iconst rfl ?_
          refine jw_istore (ls' := [none, some (.ref 0), none, none, some (.int (Int32.ofInt v4)), some (.int (Int32.ofInt v5)), some (.int (Int32.ofInt v6)), some (.int (Int32.ofInt v7)), some (.int (Int32.ofInt 0))]) rfl rfl ?_
          exact jz_fg (l := [none, some (.ref 0), none, none, some (.int (Int32.ofInt v4)), none, none, some (.int (Int32.ofInt v7)), some (.int (Int32.ofInt 0))]) ⟨jz_n0, rfl, jz_n0, jz_n0, rfl, jz_ni, jz_ni, rfl, rfl, trivial⟩ h
  · replace h := h.2 c3
    refine jw_iload rfl rfl ?_
    refine jw_aload_n rfl rfl ?_
    refine jw_iload rfl rfl ?_
    refine jw_virt (k := 1) (c := 18) (as := [.int (Int32.ofInt v8)]) rfl rfl rfl (Nat.le_of_ble_eq_true rfl) rfl (Nat.le_of_ble_eq_true rfl) rfl rfl (jz_ci ?_)
    refine jm_Q.mono h (jp_i_mono (fun r32 J30 K31 h => ?_))
    refine jw_iadd rfl ?_
    refine jw_istore (ls' := [none, some (.ref 0), none, none, some (.int (Int32.ofInt v4)), some (.int (Int32.ofInt v5)), some (.int (Int32.ofInt v6)), some (.int (Int32.ofInt (v7 + r32))), some (.int (Int32.ofInt v8))]) rfl rfl ?_
    refine jw_iinc (ls' := [none, some (.ref 0), none, none, some (.int (Int32.ofInt v4)), some (.int (Int32.ofInt v5)), some (.int (Int32.ofInt v6)), some (.int (Int32.ofInt (v7 + r32))), some (.int (Int32.ofInt (v8 + 1)))]) rfl rfl rfl ?_
    refine jw_goto rfl ?_
    exact jz_fg (l := [none, some (.ref 0), none, none, some (.int (Int32.ofInt v4)), some (.int (Int32.ofInt v5)), some (.int (Int32.ofInt v6)), some (.int (Int32.ofInt (v7 + r32))), some (.int (Int32.ofInt (v8 + 1)))]) ⟨jz_n0, rfl, jz_n0, jz_n0, rfl, rfl, rfl, rfl, rfl, trivial⟩ h
set_option maxHeartbeats 4000000 in
theorem e_173_300 {xs : Nat → Int32} {L d : Nat} {v4 : Int} {v7 : Int} {v8 : Int} {J K : jZ} {P : Int → jZ → jZ → Prop} (hL : L < 2147483648) (h : (-2147483648 ≤ v8 ∧ v8 < 2147483648) ∧ (-2147483648 ≤ v4 ∧ v4 < 2147483648) ∧ (v4 ≤ v8 → (-2147483648 ≤ v7 ∧ v7 < 2147483648) ∧ (¬ v7 = 0 → P 0 J K) ∧ (v7 = 0 → P 1 J K)) ∧ (v8 < v4 → q_113 xs L (d + 8) v8 J K (fun r8 J6 K7 => l_173_300 xs L (d + 8) v4 (v7 - r8) (v8 + 1) J6 K7 P))) : l_173_300 xs L (d + 8) v4 v7 v8 J K P := by
  unfold l_173_300
  refine jw_iload rfl rfl ?_
  refine jw_iload rfl rfl ?_
  obtain ⟨o1, h⟩ := h
  obtain ⟨o2, h⟩ := h
  refine jw_ic_ge rfl o1 o2 (fun c3 => ?_) (fun c3 => ?_)
  · replace h := h.1 c3
    refine jw_iload rfl rfl ?_
    obtain ⟨o4, h⟩ := h
    refine jw_if_ne rfl o4 (fun c5 => ?_) (fun c5 => ?_)
    · replace h := h.1 c5
      refine jw_iconst rfl ?_
      refine jw_zret rfl (by omega) ?_
      exact h
    · replace h := h.2 c5
      refine jw_iconst rfl ?_
      refine jw_goto rfl ?_
      refine jw_zret rfl (by omega) ?_
      exact h
  · replace h := h.2 c3
    refine jw_iload rfl rfl ?_
    refine jw_aload_n rfl rfl ?_
    refine jw_iload rfl rfl ?_
    refine jw_virt (k := 1) (c := 18) (as := [.int (Int32.ofInt v8)]) rfl rfl rfl (Nat.le_of_ble_eq_true rfl) rfl (Nat.le_of_ble_eq_true rfl) rfl rfl (jz_ci ?_)
    refine jm_Q.mono h (jp_i_mono (fun r8 J6 K7 h => ?_))
    refine jw_isub rfl ?_
    refine jw_istore (ls' := [none, some (.ref 0), none, none, some (.int (Int32.ofInt v4)), none, none, some (.int (Int32.ofInt (v7 - r8))), some (.int (Int32.ofInt v8))]) rfl rfl ?_
    refine jw_iinc (ls' := [none, some (.ref 0), none, none, some (.int (Int32.ofInt v4)), none, none, some (.int (Int32.ofInt (v7 - r8))), some (.int (Int32.ofInt (v8 + 1)))]) rfl rfl rfl ?_
    refine jw_goto rfl ?_
    exact jz_fg (l := [none, some (.ref 0), none, none, some (.int (Int32.ofInt v4)), none, none, some (.int (Int32.ofInt (v7 - r8))), some (.int (Int32.ofInt (v8 + 1)))]) ⟨jz_n0, rfl, jz_n0, jz_n0, rfl, jz_n0, jz_n0, rfl, rfl, trivial⟩ h
