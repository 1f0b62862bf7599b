/-! The law's loop. -/
section LL
variable {xs : Nat → Int32} {L d : Nat}
set_option maxHeartbeats 1000000 in
theorem law_loop (hL : L ≤ 3072) : ∀ (n i : Nat) (J K : jZ), L < i + n → i ≤ L → Inv J K → jm_W xs L (d + 1700) 283 18 (jl (i : Int)) [] (jz_H J K) (jp_i (fun r _ _ => r = 1))
  | n, i, J, K, hn, hi, I => by
    refine jw_iload_n rfl rfl (jw_aload_s rfl rfl (jw_slen rfl (by omega) (jw_bipush rfl (by decide) (jw_isub rfl (jw_ic_gt rfl (by omega) (by omega) (fun q => ?_) (fun q => ?_))))))
    · exact jw_iconst rfl (jw_zret rfl (.inr rfl) rfl)
    · match n, hn with
      | 0, hn => omega
      | n + 1, hn =>
        have hi5 : i + 5 < L := by omega
        have nx : ∀ J2 K2, Inv J2 K2 → jm_W xs L (d + 1700) 283 1980 (jl (i : Int)) [] (jz_H J2 K2) (jp_i (fun r _ _ => r = 1)) := fun J2 K2 I2 => by
          refine jw_iinc (ls' := jl ((i : Int) + 6)) rfl rfl rfl (jw_goto rfl ?_)
          rw [show (i : Int) + 6 = ((i + 6 : Nat) : Int) by omega]
          exact law_loop hL n (i + 6) J2 K2 (by omega) (by omega) I2
        refine jw_aload_s rfl rfl (jw_iload_n rfl rfl (jw_sld rfl (by omega) (by omega) (jw_bipush rfl (by decide) (jw_iand rfl ?_))))
        have hx := jz_and_r (x := (xs ((i : Int).toNat)).toInt) (y := 63)
        generalize jz_and (xs ((i : Int).toNat)).toInt 63 = x at hx
        by_cases c0 : x = 0
        · exact jw_tab_in (v := 0) (o := 227) (pc2 := 260) rfl hx c0 (by decide) rfl rfl (k_0 hL hi5 (jm_Q.mono (w_11 (jc_r _ _) (jc_r _ _) (jc_r _ _) I) (jp_i_mono (fun r J1 K1 h => jm_Q.mono h (jp_i_mono (fun r2 J2 K2 h2 => ⟨h2.1, nx J2 K2 h2.2⟩))))))
        by_cases c1 : x = 1
        · exact jw_tab_in (v := 1) (o := 270) (pc2 := 303) rfl hx c1 (by decide) rfl rfl (k_1 hL hi5 (jm_Q.mono (w_16 (jc_r _ _) (jc_r _ _) (jc_l_r _ _) I) (jp_i_mono (fun r J1 K1 h => jm_Q.mono h (jp_i_mono (fun r2 J2 K2 h2 => ⟨h2.1, nx J2 K2 h2.2⟩))))))
        by_cases c2 : x = 2
        · exact jw_tab_in (v := 2) (o := 343) (pc2 := 376) rfl hx c2 (by decide) rfl rfl (k_2 hL hi5 (jm_Q.mono (w_22 (jc_r _ _) (jc_r _ _) (jc_r _ _) (jc_r _ _) (jc_r _ _) I) (jp_i_mono (fun r J1 K1 h => jm_Q.mono h (jp_i_mono (fun r2 J2 K2 h2 => ⟨h2.1, nx J2 K2 h2.2⟩))))))
        by_cases c3 : x = 3
        · exact jw_tab_in (v := 3) (o := 406) (pc2 := 439) rfl hx c3 (by decide) rfl rfl (k_3 hL hi5 (jm_Q.mono (w_24 (jc_r _ _) (jc_r _ _) I) (jp_l_mono (fun r J1 K1 h => jm_Q.mono h (jp_l_mono (fun r2 J2 K2 h2 => ⟨h2.1, nx J2 K2 h2.2⟩))))))
        by_cases c4 : x = 4
        · exact jw_tab_in (v := 4) (o := 440) (pc2 := 473) rfl hx c4 (by decide) rfl rfl (k_4 hL hi5 (jm_Q.mono (w_25 (jc_r _ _) I) (jp_i_mono (fun r J1 K1 h => jm_Q.mono h (jp_i_mono (fun r2 J2 K2 h2 => ⟨h2.1, nx J2 K2 h2.2⟩))))))
        by_cases c5 : x = 5
        · exact jw_tab_in (v := 5) (o := 463) (pc2 := 496) rfl hx c5 (by decide) rfl rfl (k_5 hL hi5 (jm_Q.mono (w_26 (jc_r _ _) (jc_r _ _) I) (jp_i_mono (fun r J1 K1 h => jm_Q.mono h (jp_i_mono (fun r2 J2 K2 h2 => ⟨h2.1, nx J2 K2 h2.2⟩))))))
        by_cases c6 : x = 6
        · exact jw_tab_in (v := 6) (o := 496) (pc2 := 529) rfl hx c6 (by decide) rfl rfl (k_6 hL hi5 (jm_Q.mono (w_28 (jc_r _ _) (jc_r _ _) I) (jp_i_mono (fun r J1 K1 h => jm_Q.mono h (jp_i_mono (fun r2 J2 K2 h2 => ⟨h2.1, nx J2 K2 h2.2⟩))))))
        by_cases c7 : x = 7
        · exact jw_tab_in (v := 7) (o := 529) (pc2 := 562) rfl hx c7 (by decide) rfl rfl (k_7 hL hi5 (jm_Q.mono (w_56 (jc_r _ _) I) (jp_i_mono (fun r J1 K1 h => jm_Q.mono h (jp_i_mono (fun r2 J2 K2 h2 => ⟨h2.1, nx J2 K2 h2.2⟩))))))
        by_cases c8 : x = 8
        · exact jw_tab_in (v := 8) (o := 552) (pc2 := 585) rfl hx c8 (by decide) rfl rfl (k_8 hL hi5 (jm_Q.mono (w_60 (jc_r _ _) I) (jp_i_mono (fun r J1 K1 h => jm_Q.mono h (jp_i_mono (fun r2 J2 K2 h2 => ⟨h2.1, nx J2 K2 h2.2⟩))))))
        by_cases c9 : x = 9
        · exact jw_tab_in (v := 9) (o := 575) (pc2 := 608) rfl hx c9 (by decide) rfl rfl (k_9 hL hi5 (jm_Q.mono (w_63 (jc_r _ _) (jc_r _ _) I) (jp_i_mono (fun r J1 K1 h => jm_Q.mono h (jp_i_mono (fun r2 J2 K2 h2 => ⟨h2.1, nx J2 K2 h2.2⟩))))))
        by_cases c10 : x = 10
        · exact jw_tab_in (v := 10) (o := 608) (pc2 := 641) rfl hx c10 (by decide) rfl rfl (k_10 hL hi5 (jm_Q.mono (w_65 (jc_r _ _) (jc_r _ _) (jc_r _ _) I) (jp_i_mono (fun r J1 K1 h => jm_Q.mono h (jp_i_mono (fun r2 J2 K2 h2 => ⟨h2.1, nx J2 K2 h2.2⟩))))))
        by_cases c11 : x = 11
        · exact jw_tab_in (v := 11) (o := 651) (pc2 := 684) rfl hx c11 (by decide) rfl rfl (k_11 hL hi5 (jm_Q.mono (w_66 (jc_r _ _) I) (jp_i_mono (fun r J1 K1 h => jm_Q.mono h (jp_i_mono (fun r2 J2 K2 h2 => ⟨h2.1, nx J2 K2 h2.2⟩))))))
        by_cases c12 : x = 12
        · exact jw_tab_in (v := 12) (o := 674) (pc2 := 707) rfl hx c12 (by decide) rfl rfl (k_12 hL hi5 (jm_Q.mono (w_68  I) (jp_i_mono (fun r J1 K1 h => jm_Q.mono h (jp_i_mono (fun r2 J2 K2 h2 => ⟨h2.1, nx J2 K2 h2.2⟩))))))
        by_cases c13 : x = 13
        · exact jw_tab_in (v := 13) (o := 687) (pc2 := 720) rfl hx c13 (by decide) rfl rfl (k_13 hL hi5 (jm_Q.mono (w_69  I) (jp_i_mono (fun r J1 K1 h => jm_Q.mono h (jp_i_mono (fun r2 J2 K2 h2 => ⟨h2.1, nx J2 K2 h2.2⟩))))))
        by_cases c14 : x = 14
        · exact jw_tab_in (v := 14) (o := 700) (pc2 := 733) rfl hx c14 (by decide) rfl rfl (k_14 hL hi5 (jm_Q.mono (w_76  I) (jp_i_mono (fun r J1 K1 h => jm_Q.mono h (jp_i_mono (fun r2 J2 K2 h2 => ⟨h2.1, nx J2 K2 h2.2⟩))))))
        by_cases c15 : x = 15
        · exact jw_tab_in (v := 15) (o := 713) (pc2 := 746) rfl hx c15 (by decide) rfl rfl (k_15 hL hi5 (jm_Q.mono (w_97 (jc_r _ _) I) (jp_i_mono (fun r J1 K1 h => jm_Q.mono h (jp_i_mono (fun r2 J2 K2 h2 => ⟨h2.1, nx J2 K2 h2.2⟩))))))
        by_cases c16 : x = 16
        · exact jw_tab_in (v := 16) (o := 736) (pc2 := 769) rfl hx c16 (by decide) rfl rfl (k_16 hL hi5 (jm_Q.mono (w_101 (jc_r _ _) (jc_r _ _) I) (jp_i_mono (fun r J1 K1 h => jm_Q.mono h (jp_i_mono (fun r2 J2 K2 h2 => ⟨h2.1, nx J2 K2 h2.2⟩))))))
        by_cases c17 : x = 17
        · exact jw_tab_in (v := 17) (o := 769) (pc2 := 802) rfl hx c17 (by decide) rfl rfl (k_17 hL hi5 (jm_Q.mono (w_102 (jc_r _ _) (jc_r _ _) (jc_r _ _) I) (jp_i_mono (fun r J1 K1 h => jm_Q.mono h (jp_i_mono (fun r2 J2 K2 h2 => ⟨h2.1, nx J2 K2 h2.2⟩))))))
        by_cases c18 : x = 18
        · exact jw_tab_in (v := 18) (o := 812) (pc2 := 845) rfl hx c18 (by decide) rfl rfl (k_18 hL hi5 (jm_Q.mono (w_104 (jc_r _ _) I) (jp_i_mono (fun r J1 K1 h => jm_Q.mono h (jp_i_mono (fun r2 J2 K2 h2 => ⟨h2.1, nx J2 K2 h2.2⟩))))))
        by_cases c19 : x = 19
        · exact jw_tab_in (v := 19) (o := 835) (pc2 := 868) rfl hx c19 (by decide) rfl rfl (k_19 hL hi5 (jm_Q.mono (w_105 (jc_r _ _) (jc_r _ _) I) (jp_i_mono (fun r J1 K1 h => jm_Q.mono h (jp_i_mono (fun r2 J2 K2 h2 => ⟨h2.1, nx J2 K2 h2.2⟩))))))
        by_cases c20 : x = 20
        · exact jw_tab_in (v := 20) (o := 868) (pc2 := 901) rfl hx c20 (by decide) rfl rfl (k_20 hL hi5 (jm_Q.mono (w_106 (jc_r _ _) (jc_r _ _) (jc_r _ _) (jc_r _ _) I) (jp_i_mono (fun r J1 K1 h => jm_Q.mono h (jp_i_mono (fun r2 J2 K2 h2 => ⟨h2.1, nx J2 K2 h2.2⟩))))))
        by_cases c21 : x = 21
        · exact jw_tab_in (v := 21) (o := 921) (pc2 := 954) rfl hx c21 (by decide) rfl rfl (k_21 hL hi5 (jm_Q.mono (w_107  I) (jp_i_mono (fun r J1 K1 h => jm_Q.mono h (jp_i_mono (fun r2 J2 K2 h2 => ⟨h2.1, nx J2 K2 h2.2⟩))))))
        by_cases c22 : x = 22
        · exact jw_tab_in (v := 22) (o := 934) (pc2 := 967) rfl hx c22 (by decide) rfl rfl (k_22 hL hi5 (jm_Q.mono (w_110 (jc_r _ _) (jc_r _ _) I) (jp_i_mono (fun r J1 K1 h => jm_Q.mono h (jp_i_mono (fun r2 J2 K2 h2 => ⟨h2.1, nx J2 K2 h2.2⟩))))))
        by_cases c23 : x = 23
        · exact jw_tab_in (v := 23) (o := 967) (pc2 := 1000) rfl hx c23 (by decide) rfl rfl (k_23 hL hi5 (jm_Q.mono (w_111 (jc_r _ _) (jc_r _ _) I) (jp_i_mono (fun r J1 K1 h => jm_Q.mono h (jp_i_mono (fun r2 J2 K2 h2 => ⟨h2.1, nx J2 K2 h2.2⟩))))))
        by_cases c24 : x = 24
        · exact jw_tab_in (v := 24) (o := 1000) (pc2 := 1033) rfl hx c24 (by decide) rfl rfl (k_24 hL hi5 (jm_Q.mono (w_113 (jc_r _ _) I) (jp_i_mono (fun r J1 K1 h => jm_Q.mono h (jp_i_mono (fun r2 J2 K2 h2 => ⟨h2.1, nx J2 K2 h2.2⟩))))))
        by_cases c25 : x = 25
        · exact jw_tab_in (v := 25) (o := 1023) (pc2 := 1056) rfl hx c25 (by decide) rfl rfl (k_25 hL hi5 (jm_Q.mono (w_114 (jc_r _ _) (jc_r _ _) I) (jp_i_mono (fun r J1 K1 h => jm_Q.mono h (jp_i_mono (fun r2 J2 K2 h2 => ⟨h2.1, nx J2 K2 h2.2⟩))))))
        by_cases c26 : x = 26
        · exact jw_tab_in (v := 26) (o := 1056) (pc2 := 1089) rfl hx c26 (by decide) rfl rfl (k_26 hL hi5 (jm_Q.mono (w_116 (jc_r _ _) (jc_r _ _) (jc_r _ _) I) (jp_i_mono (fun r J1 K1 h => jm_Q.mono h (jp_i_mono (fun r2 J2 K2 h2 => ⟨h2.1, nx J2 K2 h2.2⟩))))))
        by_cases c27 : x = 27
        · exact jw_tab_in (v := 27) (o := 1099) (pc2 := 1132) rfl hx c27 (by decide) rfl rfl (k_27 hL hi5 (jm_Q.mono (w_119 (jc_r _ _) (jc_r _ _) I) (jp_i_mono (fun r J1 K1 h => jm_Q.mono h (jp_i_mono (fun r2 J2 K2 h2 => ⟨h2.1, nx J2 K2 h2.2⟩))))))
        by_cases c28 : x = 28
        · exact jw_tab_in (v := 28) (o := 1132) (pc2 := 1165) rfl hx c28 (by decide) rfl rfl (k_28 hL hi5 (jm_Q.mono (w_121 (jc_r _ _) I) (jp_i_mono (fun r J1 K1 h => jm_Q.mono h (jp_i_mono (fun r2 J2 K2 h2 => ⟨h2.1, nx J2 K2 h2.2⟩))))))
        by_cases c29 : x = 29
        · exact jw_tab_in (v := 29) (o := 1155) (pc2 := 1188) rfl hx c29 (by decide) rfl rfl (k_29 hL hi5 (jm_Q.mono (w_122 (jc_r _ _) (jc_r _ _) I) (jp_i_mono (fun r J1 K1 h => jm_Q.mono h (jp_i_mono (fun r2 J2 K2 h2 => ⟨h2.1, nx J2 K2 h2.2⟩))))))
        by_cases c30 : x = 30
        · exact jw_tab_in (v := 30) (o := 1188) (pc2 := 1221) rfl hx c30 (by decide) rfl rfl (k_30 hL hi5 (jm_Q.mono (w_123 (jc_r _ _) (jc_r _ _) I) (jp_i_mono (fun r J1 K1 h => jm_Q.mono h (jp_i_mono (fun r2 J2 K2 h2 => ⟨h2.1, nx J2 K2 h2.2⟩))))))
        by_cases c31 : x = 31
        · exact jw_tab_in (v := 31) (o := 1221) (pc2 := 1254) rfl hx c31 (by decide) rfl rfl (k_31 hL hi5 (jm_Q.mono (w_124 (jc_r _ _) (jc_r _ _) I) (jp_i_mono (fun r J1 K1 h => jm_Q.mono h (jp_i_mono (fun r2 J2 K2 h2 => ⟨h2.1, nx J2 K2 h2.2⟩))))))
        by_cases c32 : x = 32
        · exact jw_tab_in (v := 32) (o := 1254) (pc2 := 1287) rfl hx c32 (by decide) rfl rfl (k_32 hL hi5 (jm_Q.mono (w_127 (jc_r _ _) (jc_r _ _) I) (jp_i_mono (fun r J1 K1 h => jm_Q.mono h (jp_i_mono (fun r2 J2 K2 h2 => ⟨h2.1, nx J2 K2 h2.2⟩))))))
        by_cases c33 : x = 33
        · exact jw_tab_in (v := 33) (o := 1287) (pc2 := 1320) rfl hx c33 (by decide) rfl rfl (k_33 hL hi5 (jm_Q.mono (w_128 (jc_r _ _) (jc_r _ _) I) (jp_i_mono (fun r J1 K1 h => jm_Q.mono h (jp_i_mono (fun r2 J2 K2 h2 => ⟨h2.1, nx J2 K2 h2.2⟩))))))
        by_cases c34 : x = 34
        · exact jw_tab_in (v := 34) (o := 1320) (pc2 := 1353) rfl hx c34 (by decide) rfl rfl (k_34 hL hi5 (jm_Q.mono (w_131 (jc_r _ _) (jc_r _ _) I) (jp_i_mono (fun r J1 K1 h => jm_Q.mono h (jp_i_mono (fun r2 J2 K2 h2 => ⟨h2.1, nx J2 K2 h2.2⟩))))))
        by_cases c35 : x = 35
        · exact jw_tab_in (v := 35) (o := 1353) (pc2 := 1386) rfl hx c35 (by decide) rfl rfl (k_35 hL hi5 (jm_Q.mono (w_133 (jc_r _ _) (jc_r _ _) (jc_r _ _) I) (jp_i_mono (fun r J1 K1 h => jm_Q.mono h (jp_i_mono (fun r2 J2 K2 h2 => ⟨h2.1, nx J2 K2 h2.2⟩))))))
        by_cases c36 : x = 36
        · exact jw_tab_in (v := 36) (o := 1396) (pc2 := 1429) rfl hx c36 (by decide) rfl rfl (k_36 hL hi5 (jm_Q.mono (w_135 (jc_r _ _) (jc_r _ _) I) (jp_i_mono (fun r J1 K1 h => jm_Q.mono h (jp_i_mono (fun r2 J2 K2 h2 => ⟨h2.1, nx J2 K2 h2.2⟩))))))
        by_cases c37 : x = 37
        · exact jw_tab_in (v := 37) (o := 1429) (pc2 := 1462) rfl hx c37 (by decide) rfl rfl (k_37 hL hi5 (jm_Q.mono (w_136 (jc_r _ _) (jc_r _ _) (jc_r _ _) I) (jp_i_mono (fun r J1 K1 h => jm_Q.mono h (jp_i_mono (fun r2 J2 K2 h2 => ⟨h2.1, nx J2 K2 h2.2⟩))))))
        by_cases c38 : x = 38
        · exact jw_tab_in (v := 38) (o := 1472) (pc2 := 1505) rfl hx c38 (by decide) rfl rfl (k_38 hL hi5 (jm_Q.mono (w_138 (jc_r _ _) (jc_r _ _) I) (jp_i_mono (fun r J1 K1 h => jm_Q.mono h (jp_i_mono (fun r2 J2 K2 h2 => ⟨h2.1, nx J2 K2 h2.2⟩))))))
        by_cases c39 : x = 39
        · exact jw_tab_in (v := 39) (o := 1505) (pc2 := 1538) rfl hx c39 (by decide) rfl rfl (k_39 hL hi5 (jm_Q.mono (w_140 (jc_r _ _) I) (jp_i_mono (fun r J1 K1 h => jm_Q.mono h (jp_i_mono (fun r2 J2 K2 h2 => ⟨h2.1, nx J2 K2 h2.2⟩))))))
        by_cases c40 : x = 40
        · exact jw_tab_in (v := 40) (o := 1528) (pc2 := 1561) rfl hx c40 (by decide) rfl rfl (k_40 hL hi5 (jm_Q.mono (w_141 (jc_r _ _) I) (jp_i_mono (fun r J1 K1 h => jm_Q.mono h (jp_i_mono (fun r2 J2 K2 h2 => ⟨h2.1, nx J2 K2 h2.2⟩))))))
        by_cases c41 : x = 41
        · exact jw_tab_in (v := 41) (o := 1551) (pc2 := 1584) rfl hx c41 (by decide) rfl rfl (k_41 hL hi5 (jm_Q.mono (w_142 (jc_r _ _) (jc_r _ _) I) (jp_i_mono (fun r J1 K1 h => jm_Q.mono h (jp_i_mono (fun r2 J2 K2 h2 => ⟨h2.1, nx J2 K2 h2.2⟩))))))
        by_cases c42 : x = 42
        · exact jw_tab_in (v := 42) (o := 1584) (pc2 := 1617) rfl hx c42 (by decide) rfl rfl (k_42 hL hi5 (jm_Q.mono (w_144 (jc_r _ _) (jc_r _ _) (jc_r _ _) I) (jp_i_mono (fun r J1 K1 h => jm_Q.mono h (jp_i_mono (fun r2 J2 K2 h2 => ⟨h2.1, nx J2 K2 h2.2⟩))))))
        by_cases c43 : x = 43
        · exact jw_tab_in (v := 43) (o := 1627) (pc2 := 1660) rfl hx c43 (by decide) rfl rfl (k_43 hL hi5 (jm_Q.mono (w_146 (jc_r _ _) (jc_r _ _) I) (jp_i_mono (fun r J1 K1 h => jm_Q.mono h (jp_i_mono (fun r2 J2 K2 h2 => ⟨h2.1, nx J2 K2 h2.2⟩))))))
        by_cases c44 : x = 44
        · exact jw_tab_in (v := 44) (o := 1660) (pc2 := 1693) rfl hx c44 (by decide) rfl rfl (k_44 hL hi5 (jm_Q.mono (w_147 (jc_r _ _) (jc_r _ _) (jc_r _ _) (jc_r _ _) I) (jp_i_mono (fun r J1 K1 h => jm_Q.mono h (jp_i_mono (fun r2 J2 K2 h2 => ⟨h2.1, nx J2 K2 h2.2⟩))))))
        by_cases c45 : x = 45
        · exact jw_tab_in (v := 45) (o := 1713) (pc2 := 1746) rfl hx c45 (by decide) rfl rfl (k_45 hL hi5 (jm_Q.mono (w_149 (jc_r _ _) (jc_r _ _) (jc_r _ _) I) (jp_i_mono (fun r J1 K1 h => jm_Q.mono h (jp_i_mono (fun r2 J2 K2 h2 => ⟨h2.1, nx J2 K2 h2.2⟩))))))
        by_cases c46 : x = 46
        · exact jw_tab_in (v := 46) (o := 1756) (pc2 := 1789) rfl hx c46 (by decide) rfl rfl (k_46 hL hi5 (jm_Q.mono (w_150 (jc_r _ _) (jc_r _ _) (jc_r _ _) I) (jp_i_mono (fun r J1 K1 h => jm_Q.mono h (jp_i_mono (fun r2 J2 K2 h2 => ⟨h2.1, nx J2 K2 h2.2⟩))))))
        by_cases c47 : x = 47
        · exact jw_tab_in (v := 47) (o := 1799) (pc2 := 1832) rfl hx c47 (by decide) rfl rfl (k_47 hL hi5 (jm_Q.mono (w_151 (jc_r _ _) (jc_r _ _) (jc_r _ _) (jc_r _ _) I) (jp_i_mono (fun r J1 K1 h => jm_Q.mono h (jp_i_mono (fun r2 J2 K2 h2 => ⟨h2.1, nx J2 K2 h2.2⟩))))))
        by_cases c48 : x = 48
        · exact jw_tab_in (v := 48) (o := 1852) (pc2 := 1885) rfl hx c48 (by decide) rfl rfl (k_48 hL hi5 (jm_Q.mono (w_153 (jc_r _ _) I) (jp_i_mono (fun r J1 K1 h => jm_Q.mono h (jp_i_mono (fun r2 J2 K2 h2 => ⟨h2.1, nx J2 K2 h2.2⟩))))))
        by_cases c49 : x = 49
        · exact jw_tab_in (v := 49) (o := 1875) (pc2 := 1908) rfl hx c49 (by decide) rfl rfl (k_49 hL hi5 (jm_Q.mono (w_156 (jc_r _ _) I) (jp_i_mono (fun r J1 K1 h => jm_Q.mono h (jp_i_mono (fun r2 J2 K2 h2 => ⟨h2.1, nx J2 K2 h2.2⟩))))))
        by_cases c50 : x = 50
        · exact jw_tab_in (v := 50) (o := 1898) (pc2 := 1931) rfl hx c50 (by decide) rfl rfl (k_50 hL hi5 (jm_Q.mono (w_157  I) (jp_i_mono (fun r J1 K1 h => jm_Q.mono h (jp_i_mono (fun r2 J2 K2 h2 => ⟨h2.1, nx J2 K2 h2.2⟩))))))
        by_cases c51 : x = 51
        · exact jw_tab_in (v := 51) (o := 1911) (pc2 := 1944) rfl hx c51 (by decide) rfl rfl (k_51 hL hi5 (jm_Q.mono (w_161  I) (jp_i_mono (fun r J1 K1 h => jm_Q.mono h (jp_i_mono (fun r2 J2 K2 h2 => ⟨h2.1, nx J2 K2 h2.2⟩))))))
        by_cases c52 : x = 52
        · exact jw_tab_in (v := 52) (o := 1924) (pc2 := 1957) rfl hx c52 (by decide) rfl rfl (k_52 hL hi5 (jm_Q.mono (w_162 (jc_r _ _) I) (jp_i_mono (fun r J1 K1 h => jm_Q.mono h (jp_i_mono (fun r2 J2 K2 h2 => ⟨h2.1, nx J2 K2 h2.2⟩))))))
        exact jw_tab_out (pc2 := 1980) rfl hx (by omega) rfl (nx J K I)
end LL
