/-! The law's cases. -/
def jl (v : Int) : jm_L := [some (.retAddr 0), some (.ref 0), some (.ref 167), some (.int (Int32.ofInt v))]
def jc (xs : Nat → Int32) (j : Nat) : Int := (xs j).toInt
theorem jc_r (xs : Nat → Int32) (j : Nat) : -2147483648 ≤ jc xs j ∧ jc xs j < 2147483648 := ⟨Int32.le_toInt _, Int32.toInt_lt _⟩
def jc_l (xs : Nat → Int32) (i : Nat) : Int := jz_lor (jz_lshl (jc xs (i + 3)) 32) (jz_land (jc xs (i + 4)) 4294967295)
theorem jc_l_r (xs : Nat → Int32) (i : Nat) : -9223372036854775808 ≤ jc_l xs i ∧ jc_l xs i < 9223372036854775808 := ⟨Int64.le_toInt _, Int64.toInt_lt _⟩
section LW
variable {xs : Nat → Int32} {L d mi pc n a b n2 a2 b2 : Nat} {z z2 o : Int} {ls : jm_L} {st : List Value} {H : jm_H} {P : Option Value → jm_H → Prop}
theorem jw_ic_same {x : Int32} (ht : jm_tab mi pc = some (.if_icmp .eq o, n, a, b, z)) (h : jm_W xs L d mi a ls st H P) : jm_W xs L d mi pc ls (.int x :: .int x :: st) H P :=
  jz_b2 (pc' := 0) (c := True) (c' := False) ht rfl ⟨fun _ => trivial, fun _ => rfl⟩ ⟨fun q => q trivial, fun q => q.elim⟩ (fun _ => h) (fun q => q.elim)
theorem jw_lc_same {x : Int64} (ht : jm_tab mi pc = some (.lcmp, n, a, b, z)) (ht2 : jm_tab mi n = some (.ifCond .eq o, n2, a2, b2, z2)) (h : jm_W xs L d mi a2 ls st H P) : jm_W xs L d mi pc ls (.long x :: .long x :: st) H P := by
  have e : lg_cmp x x = 0 := by
    unfold lg_cmp
    simp
  refine jw_n ht rfl (jz_b2 (pc' := 0) (c := True) (c' := False) ht2 rfl ⟨fun _ => trivial, fun _ => e⟩ ⟨fun q => q trivial, fun q => q.elim⟩ (fun _ => h) (fun q => q.elim))
theorem jl_arg {i k p1 p2 p3 p4 p5 : Nat} {c : Int} (hL : L ≤ 3072) (hc : c = (k : Int)) (hi : i + k < L) (h1 : jm_tab 283 pc = some (.aload_n 0, p1, 0, 0, 0)) (h2 : jm_tab 283 p1 = some (.iload_n 3, p2, 0, 0, 0)) (h3 : jm_tab 283 p2 = some (.iconst c, p3, 0, 0, 0)) (h4 : jm_tab 283 p3 = some (.iadd, p4, 0, 0, 0)) (h5 : jm_tab 283 p4 = some (.iaload, p5, 0, 0, 0)) (h : jm_W xs L d 283 p5 (jl (i : Int)) (.int (Int32.ofInt (jc xs (i + k))) :: st) H P) : jm_W xs L d 283 pc (jl (i : Int)) st H P := by
  refine jw_aload_s h1 rfl (jw_iload_n h2 rfl (jw_iconst h3 (jw_iadd h4 (jw_sld h5 (by omega) (by omega) ?_))))
  rw [show ((i : Int) + c).toNat = i + k by omega]
  exact h
end LW
section LC
variable {xs : Nat → Int32} {L d i : Nat} {J K : jZ} {P : Option Value → jm_H → Prop}
theorem k_0 (hL : L ≤ 3072) (hi : i + 5 < L) (h : q_11 xs L d (jc xs (i + 1)) (jc xs (i + 2)) (jc xs (i + 3)) J K (fun r J1 K1 => q_168 xs L d (jc xs (i + 1)) (jc xs (i + 2)) (jc xs (i + 3)) J1 K1 (fun r2 J2 K2 => r = r2 ∧ jm_W xs L d 283 1980 (jl (i : Int)) [] (jz_H J2 K2) P))) : jm_W xs L d 283 260 (jl (i : Int)) [] (jz_H J K) P := by
  refine jw_aload_n rfl rfl ?_
  refine jl_arg (k := 1) hL rfl (by omega) rfl rfl rfl rfl rfl ?_
  refine jl_arg (k := 2) hL rfl (by omega) rfl rfl rfl rfl rfl ?_
  refine jl_arg (k := 3) hL rfl (by omega) rfl rfl rfl rfl rfl ?_
  refine jw_virt (k := 3) (c := 18) (as := [.int (Int32.ofInt (jc xs (i + 1))), .int (Int32.ofInt (jc xs (i + 2))), .int (Int32.ofInt (jc xs (i + 3)))]) rfl rfl rfl (Nat.le_of_ble_eq_true rfl) rfl (Nat.le_of_ble_eq_true rfl) rfl rfl (jz_ci ?_)
  refine jm_Q.mono h (jp_i_mono (fun r1 J1 K1 h => ?_))
  refine jw_aload_n rfl rfl ?_
  refine jl_arg (k := 1) hL rfl (by omega) rfl rfl rfl rfl rfl ?_
  refine jl_arg (k := 2) hL rfl (by omega) rfl rfl rfl rfl rfl ?_
  refine jl_arg (k := 3) hL rfl (by omega) rfl rfl rfl rfl rfl ?_
  refine jw_virt (k := 3) (c := 19) (as := [.int (Int32.ofInt (jc xs (i + 1))), .int (Int32.ofInt (jc xs (i + 2))), .int (Int32.ofInt (jc xs (i + 3)))]) rfl rfl rfl (Nat.le_of_ble_eq_true rfl) rfl (Nat.le_of_ble_eq_true rfl) rfl rfl (jz_ci ?_)
  refine jm_Q.mono h (jp_i_mono (fun r2 J2 K2 h => ?_))
  obtain ⟨e, h⟩ := h
  subst e
  exact jw_ic_same rfl h
theorem k_1 (hL : L ≤ 3072) (hi : i + 5 < L) (h : q_16 xs L d (jc xs (i + 1)) (jc xs (i + 2)) (jc_l xs i) J K (fun r J1 K1 => q_171 xs L d (jc xs (i + 1)) (jc xs (i + 2)) (jc_l xs i) J1 K1 (fun r2 J2 K2 => r = r2 ∧ jm_W xs L d 283 1980 (jl (i : Int)) [] (jz_H J2 K2) P))) : jm_W xs L d 283 303 (jl (i : Int)) [] (jz_H J K) P := by
  refine jw_aload_n rfl rfl ?_
  refine jl_arg (k := 1) hL rfl (by omega) rfl rfl rfl rfl rfl ?_
  refine jl_arg (k := 2) hL rfl (by omega) rfl rfl rfl rfl rfl ?_
  refine jl_arg (k := 3) hL rfl (by omega) rfl rfl rfl rfl rfl ?_
  refine jw_i2l rfl (jc_r _ _) ?_
  refine jw_bipush rfl (by decide) ?_
  refine jw_lshl rfl ?_
  refine jl_arg (k := 4) hL rfl (by omega) rfl rfl rfl rfl rfl ?_
  refine jw_i2l rfl (jc_r _ _) ?_
  refine jw_ldc2_w rfl ?_
  refine jw_land rfl ?_
  refine jw_lor rfl ?_
  refine jw_virt (k := 3) (c := 18) (as := [.int (Int32.ofInt (jc xs (i + 1))), .int (Int32.ofInt (jc xs (i + 2))), .long (Int64.ofInt (jc_l xs i))]) rfl rfl rfl (Nat.le_of_ble_eq_true rfl) rfl (Nat.le_of_ble_eq_true rfl) rfl rfl (jz_ci ?_)
  refine jm_Q.mono h (jp_i_mono (fun r1 J1 K1 h => ?_))
  refine jw_aload_n rfl rfl ?_
  refine jl_arg (k := 1) hL rfl (by omega) rfl rfl rfl rfl rfl ?_
  refine jl_arg (k := 2) hL rfl (by omega) rfl rfl rfl rfl rfl ?_
  refine jl_arg (k := 3) hL rfl (by omega) rfl rfl rfl rfl rfl ?_
  refine jw_i2l rfl (jc_r _ _) ?_
  refine jw_bipush rfl (by decide) ?_
  refine jw_lshl rfl ?_
  refine jl_arg (k := 4) hL rfl (by omega) rfl rfl rfl rfl rfl ?_
  refine jw_i2l rfl (jc_r _ _) ?_
  refine jw_ldc2_w rfl ?_
  refine jw_land rfl ?_
  refine jw_lor rfl ?_
  refine jw_virt (k := 3) (c := 19) (as := [.int (Int32.ofInt (jc xs (i + 1))), .int (Int32.ofInt (jc xs (i + 2))), .long (Int64.ofInt (jc_l xs i))]) rfl rfl rfl (Nat.le_of_ble_eq_true rfl) rfl (Nat.le_of_ble_eq_true rfl) rfl rfl (jz_ci ?_)
  refine jm_Q.mono h (jp_i_mono (fun r2 J2 K2 h => ?_))
  obtain ⟨e, h⟩ := h
  subst e
  exact jw_ic_same rfl h
theorem k_2 (hL : L ≤ 3072) (hi : i + 5 < L) (h : q_22 xs L d (jc xs (i + 1)) (jc xs (i + 2)) (jc xs (i + 3)) (jc xs (i + 4)) (jc xs (i + 5)) J K (fun r J1 K1 => q_174 xs L d (jc xs (i + 1)) (jc xs (i + 2)) (jc xs (i + 3)) (jc xs (i + 4)) (jc xs (i + 5)) J1 K1 (fun r2 J2 K2 => r = r2 ∧ jm_W xs L d 283 1980 (jl (i : Int)) [] (jz_H J2 K2) P))) : jm_W xs L d 283 376 (jl (i : Int)) [] (jz_H J K) P := by
  refine jw_aload_n rfl rfl ?_
  refine jl_arg (k := 1) hL rfl (by omega) rfl rfl rfl rfl rfl ?_
  refine jl_arg (k := 2) hL rfl (by omega) rfl rfl rfl rfl rfl ?_
  refine jl_arg (k := 3) hL rfl (by omega) rfl rfl rfl rfl rfl ?_
  refine jl_arg (k := 4) hL rfl (by omega) rfl rfl rfl rfl rfl ?_
  refine jl_arg (k := 5) hL rfl (by omega) rfl rfl rfl rfl rfl ?_
  refine jw_virt (k := 5) (c := 18) (as := [.int (Int32.ofInt (jc xs (i + 1))), .int (Int32.ofInt (jc xs (i + 2))), .int (Int32.ofInt (jc xs (i + 3))), .int (Int32.ofInt (jc xs (i + 4))), .int (Int32.ofInt (jc xs (i + 5)))]) rfl rfl rfl (Nat.le_of_ble_eq_true rfl) rfl (Nat.le_of_ble_eq_true rfl) rfl rfl (jz_ci ?_)
  refine jm_Q.mono h (jp_i_mono (fun r1 J1 K1 h => ?_))
  refine jw_aload_n rfl rfl ?_
  refine jl_arg (k := 1) hL rfl (by omega) rfl rfl rfl rfl rfl ?_
  refine jl_arg (k := 2) hL rfl (by omega) rfl rfl rfl rfl rfl ?_
  refine jl_arg (k := 3) hL rfl (by omega) rfl rfl rfl rfl rfl ?_
  refine jl_arg (k := 4) hL rfl (by omega) rfl rfl rfl rfl rfl ?_
  refine jl_arg (k := 5) hL rfl (by omega) rfl rfl rfl rfl rfl ?_
  refine jw_virt (k := 5) (c := 19) (as := [.int (Int32.ofInt (jc xs (i + 1))), .int (Int32.ofInt (jc xs (i + 2))), .int (Int32.ofInt (jc xs (i + 3))), .int (Int32.ofInt (jc xs (i + 4))), .int (Int32.ofInt (jc xs (i + 5)))]) rfl rfl rfl (Nat.le_of_ble_eq_true rfl) rfl (Nat.le_of_ble_eq_true rfl) rfl rfl (jz_ci ?_)
  refine jm_Q.mono h (jp_i_mono (fun r2 J2 K2 h => ?_))
  obtain ⟨e, h⟩ := h
  subst e
  exact jw_ic_same rfl h
theorem k_3 (hL : L ≤ 3072) (hi : i + 5 < L) (h : q_24 xs L d (jc xs (i + 1)) (jc xs (i + 2)) J K (fun r J1 K1 => q_175 xs L d (jc xs (i + 1)) (jc xs (i + 2)) J1 K1 (fun r2 J2 K2 => r = r2 ∧ jm_W xs L d 283 1980 (jl (i : Int)) [] (jz_H J2 K2) P))) : jm_W xs L d 283 439 (jl (i : Int)) [] (jz_H J K) P := by
  refine jw_aload_n rfl rfl ?_
  refine jl_arg (k := 1) hL rfl (by omega) rfl rfl rfl rfl rfl ?_
  refine jl_arg (k := 2) hL rfl (by omega) rfl rfl rfl rfl rfl ?_
  refine jw_virt (k := 2) (c := 18) (as := [.int (Int32.ofInt (jc xs (i + 1))), .int (Int32.ofInt (jc xs (i + 2)))]) rfl rfl rfl (Nat.le_of_ble_eq_true rfl) rfl (Nat.le_of_ble_eq_true rfl) rfl rfl (jz_cl ?_)
  refine jm_Q.mono h (jp_l_mono (fun r1 J1 K1 h => ?_))
  refine jw_aload_n rfl rfl ?_
  refine jl_arg (k := 1) hL rfl (by omega) rfl rfl rfl rfl rfl ?_
  refine jl_arg (k := 2) hL rfl (by omega) rfl rfl rfl rfl rfl ?_
  refine jw_virt (k := 2) (c := 19) (as := [.int (Int32.ofInt (jc xs (i + 1))), .int (Int32.ofInt (jc xs (i + 2)))]) rfl rfl rfl (Nat.le_of_ble_eq_true rfl) rfl (Nat.le_of_ble_eq_true rfl) rfl rfl (jz_cl ?_)
  refine jm_Q.mono h (jp_l_mono (fun r2 J2 K2 h => ?_))
  obtain ⟨e, h⟩ := h
  subst e
  exact jw_lc_same rfl rfl h
theorem k_4 (hL : L ≤ 3072) (hi : i + 5 < L) (h : q_25 xs L d (jc xs (i + 1)) J K (fun r J1 K1 => q_176 xs L d (jc xs (i + 1)) J1 K1 (fun r2 J2 K2 => r = r2 ∧ jm_W xs L d 283 1980 (jl (i : Int)) [] (jz_H J2 K2) P))) : jm_W xs L d 283 473 (jl (i : Int)) [] (jz_H J K) P := by
  refine jw_aload_n rfl rfl ?_
  refine jl_arg (k := 1) hL rfl (by omega) rfl rfl rfl rfl rfl ?_
  refine jw_virt (k := 1) (c := 18) (as := [.int (Int32.ofInt (jc xs (i + 1)))]) rfl rfl rfl (Nat.le_of_ble_eq_true rfl) rfl (Nat.le_of_ble_eq_true rfl) rfl rfl (jz_ci ?_)
  refine jm_Q.mono h (jp_i_mono (fun r1 J1 K1 h => ?_))
  refine jw_aload_n rfl rfl ?_
  refine jl_arg (k := 1) hL rfl (by omega) rfl rfl rfl rfl rfl ?_
  refine jw_virt (k := 1) (c := 19) (as := [.int (Int32.ofInt (jc xs (i + 1)))]) rfl rfl rfl (Nat.le_of_ble_eq_true rfl) rfl (Nat.le_of_ble_eq_true rfl) rfl rfl (jz_ci ?_)
  refine jm_Q.mono h (jp_i_mono (fun r2 J2 K2 h => ?_))
  obtain ⟨e, h⟩ := h
  subst e
  exact jw_ic_same rfl h
theorem k_5 (hL : L ≤ 3072) (hi : i + 5 < L) (h : q_26 xs L d (jc xs (i + 1)) (jc xs (i + 2)) J K (fun r J1 K1 => q_177 xs L d (jc xs (i + 1)) (jc xs (i + 2)) J1 K1 (fun r2 J2 K2 => r = r2 ∧ jm_W xs L d 283 1980 (jl (i : Int)) [] (jz_H J2 K2) P))) : jm_W xs L d 283 496 (jl (i : Int)) [] (jz_H J K) P := by
  refine jw_aload_n rfl rfl ?_
  refine jl_arg (k := 1) hL rfl (by omega) rfl rfl rfl rfl rfl ?_
  refine jl_arg (k := 2) hL rfl (by omega) rfl rfl rfl rfl rfl ?_
  refine jw_virt (k := 2) (c := 18) (as := [.int (Int32.ofInt (jc xs (i + 1))), .int (Int32.ofInt (jc xs (i + 2)))]) rfl rfl rfl (Nat.le_of_ble_eq_true rfl) rfl (Nat.le_of_ble_eq_true rfl) rfl rfl (jz_ci ?_)
  refine jm_Q.mono h (jp_i_mono (fun r1 J1 K1 h => ?_))
  refine jw_aload_n rfl rfl ?_
  refine jl_arg (k := 1) hL rfl (by omega) rfl rfl rfl rfl rfl ?_
  refine jl_arg (k := 2) hL rfl (by omega) rfl rfl rfl rfl rfl ?_
  refine jw_virt (k := 2) (c := 19) (as := [.int (Int32.ofInt (jc xs (i + 1))), .int (Int32.ofInt (jc xs (i + 2)))]) rfl rfl rfl (Nat.le_of_ble_eq_true rfl) rfl (Nat.le_of_ble_eq_true rfl) rfl rfl (jz_ci ?_)
  refine jm_Q.mono h (jp_i_mono (fun r2 J2 K2 h => ?_))
  obtain ⟨e, h⟩ := h
  subst e
  exact jw_ic_same rfl h
theorem k_6 (hL : L ≤ 3072) (hi : i + 5 < L) (h : q_28 xs L d (jc xs (i + 1)) (jc xs (i + 2)) J K (fun r J1 K1 => q_179 xs L d (jc xs (i + 1)) (jc xs (i + 2)) J1 K1 (fun r2 J2 K2 => r = r2 ∧ jm_W xs L d 283 1980 (jl (i : Int)) [] (jz_H J2 K2) P))) : jm_W xs L d 283 529 (jl (i : Int)) [] (jz_H J K) P := by
  refine jw_aload_n rfl rfl ?_
  refine jl_arg (k := 1) hL rfl (by omega) rfl rfl rfl rfl rfl ?_
  refine jl_arg (k := 2) hL rfl (by omega) rfl rfl rfl rfl rfl ?_
  refine jw_virt (k := 2) (c := 18) (as := [.int (Int32.ofInt (jc xs (i + 1))), .int (Int32.ofInt (jc xs (i + 2)))]) rfl rfl rfl (Nat.le_of_ble_eq_true rfl) rfl (Nat.le_of_ble_eq_true rfl) rfl rfl (jz_ci ?_)
  refine jm_Q.mono h (jp_i_mono (fun r1 J1 K1 h => ?_))
  refine jw_aload_n rfl rfl ?_
  refine jl_arg (k := 1) hL rfl (by omega) rfl rfl rfl rfl rfl ?_
  refine jl_arg (k := 2) hL rfl (by omega) rfl rfl rfl rfl rfl ?_
  refine jw_virt (k := 2) (c := 19) (as := [.int (Int32.ofInt (jc xs (i + 1))), .int (Int32.ofInt (jc xs (i + 2)))]) rfl rfl rfl (Nat.le_of_ble_eq_true rfl) rfl (Nat.le_of_ble_eq_true rfl) rfl rfl (jz_ci ?_)
  refine jm_Q.mono h (jp_i_mono (fun r2 J2 K2 h => ?_))
  obtain ⟨e, h⟩ := h
  subst e
  exact jw_ic_same rfl h
theorem k_7 (hL : L ≤ 3072) (hi : i + 5 < L) (h : q_56 xs L d (jc xs (i + 1)) J K (fun r J1 K1 => q_200 xs L d (jc xs (i + 1)) J1 K1 (fun r2 J2 K2 => r = r2 ∧ jm_W xs L d 283 1980 (jl (i : Int)) [] (jz_H J2 K2) P))) : jm_W xs L d 283 562 (jl (i : Int)) [] (jz_H J K) P := by
  refine jw_aload_n rfl rfl ?_
  refine jl_arg (k := 1) hL rfl (by omega) rfl rfl rfl rfl rfl ?_
  refine jw_virt (k := 1) (c := 18) (as := [.int (Int32.ofInt (jc xs (i + 1)))]) rfl rfl rfl (Nat.le_of_ble_eq_true rfl) rfl (Nat.le_of_ble_eq_true rfl) rfl rfl (jz_ci ?_)
  refine jm_Q.mono h (jp_i_mono (fun r1 J1 K1 h => ?_))
  refine jw_aload_n rfl rfl ?_
  refine jl_arg (k := 1) hL rfl (by omega) rfl rfl rfl rfl rfl ?_
  refine jw_virt (k := 1) (c := 19) (as := [.int (Int32.ofInt (jc xs (i + 1)))]) rfl rfl rfl (Nat.le_of_ble_eq_true rfl) rfl (Nat.le_of_ble_eq_true rfl) rfl rfl (jz_ci ?_)
  refine jm_Q.mono h (jp_i_mono (fun r2 J2 K2 h => ?_))
  obtain ⟨e, h⟩ := h
  subst e
  exact jw_ic_same rfl h
theorem k_8 (hL : L ≤ 3072) (hi : i + 5 < L) (h : q_60 xs L d (jc xs (i + 1)) J K (fun r J1 K1 => q_202 xs L d (jc xs (i + 1)) J1 K1 (fun r2 J2 K2 => r = r2 ∧ jm_W xs L d 283 1980 (jl (i : Int)) [] (jz_H J2 K2) P))) : jm_W xs L d 283 585 (jl (i : Int)) [] (jz_H J K) P := by
  refine jw_aload_n rfl rfl ?_
  refine jl_arg (k := 1) hL rfl (by omega) rfl rfl rfl rfl rfl ?_
  refine jw_virt (k := 1) (c := 18) (as := [.int (Int32.ofInt (jc xs (i + 1)))]) rfl rfl rfl (Nat.le_of_ble_eq_true rfl) rfl (Nat.le_of_ble_eq_true rfl) rfl rfl (jz_ci ?_)
  refine jm_Q.mono h (jp_i_mono (fun r1 J1 K1 h => ?_))
  refine jw_aload_n rfl rfl ?_
  refine jl_arg (k := 1) hL rfl (by omega) rfl rfl rfl rfl rfl ?_
  refine jw_virt (k := 1) (c := 19) (as := [.int (Int32.ofInt (jc xs (i + 1)))]) rfl rfl rfl (Nat.le_of_ble_eq_true rfl) rfl (Nat.le_of_ble_eq_true rfl) rfl rfl (jz_ci ?_)
  refine jm_Q.mono h (jp_i_mono (fun r2 J2 K2 h => ?_))
  obtain ⟨e, h⟩ := h
  subst e
  exact jw_ic_same rfl h
theorem k_9 (hL : L ≤ 3072) (hi : i + 5 < L) (h : q_63 xs L d (jc xs (i + 1)) (jc xs (i + 2)) J K (fun r J1 K1 => q_203 xs L d (jc xs (i + 1)) (jc xs (i + 2)) J1 K1 (fun r2 J2 K2 => r = r2 ∧ jm_W xs L d 283 1980 (jl (i : Int)) [] (jz_H J2 K2) P))) : jm_W xs L d 283 608 (jl (i : Int)) [] (jz_H J K) P := by
  refine jw_aload_n rfl rfl ?_
  refine jl_arg (k := 1) hL rfl (by omega) rfl rfl rfl rfl rfl ?_
  refine jl_arg (k := 2) hL rfl (by omega) rfl rfl rfl rfl rfl ?_
  refine jw_virt (k := 2) (c := 18) (as := [.int (Int32.ofInt (jc xs (i + 1))), .int (Int32.ofInt (jc xs (i + 2)))]) rfl rfl rfl (Nat.le_of_ble_eq_true rfl) rfl (Nat.le_of_ble_eq_true rfl) rfl rfl (jz_ci ?_)
  refine jm_Q.mono h (jp_i_mono (fun r1 J1 K1 h => ?_))
  refine jw_aload_n rfl rfl ?_
  refine jl_arg (k := 1) hL rfl (by omega) rfl rfl rfl rfl rfl ?_
  refine jl_arg (k := 2) hL rfl (by omega) rfl rfl rfl rfl rfl ?_
  refine jw_virt (k := 2) (c := 19) (as := [.int (Int32.ofInt (jc xs (i + 1))), .int (Int32.ofInt (jc xs (i + 2)))]) rfl rfl rfl (Nat.le_of_ble_eq_true rfl) rfl (Nat.le_of_ble_eq_true rfl) rfl rfl (jz_ci ?_)
  refine jm_Q.mono h (jp_i_mono (fun r2 J2 K2 h => ?_))
  obtain ⟨e, h⟩ := h
  subst e
  exact jw_ic_same rfl h
theorem k_10 (hL : L ≤ 3072) (hi : i + 5 < L) (h : q_65 xs L d (jc xs (i + 1)) (jc xs (i + 2)) (jc xs (i + 3)) J K (fun r J1 K1 => q_205 xs L d (jc xs (i + 1)) (jc xs (i + 2)) (jc xs (i + 3)) J1 K1 (fun r2 J2 K2 => r = r2 ∧ jm_W xs L d 283 1980 (jl (i : Int)) [] (jz_H J2 K2) P))) : jm_W xs L d 283 641 (jl (i : Int)) [] (jz_H J K) P := by
  refine jw_aload_n rfl rfl ?_
  refine jl_arg (k := 1) hL rfl (by omega) rfl rfl rfl rfl rfl ?_
  refine jl_arg (k := 2) hL rfl (by omega) rfl rfl rfl rfl rfl ?_
  refine jl_arg (k := 3) hL rfl (by omega) rfl rfl rfl rfl rfl ?_
  refine jw_virt (k := 3) (c := 18) (as := [.int (Int32.ofInt (jc xs (i + 1))), .int (Int32.ofInt (jc xs (i + 2))), .int (Int32.ofInt (jc xs (i + 3)))]) rfl rfl rfl (Nat.le_of_ble_eq_true rfl) rfl (Nat.le_of_ble_eq_true rfl) rfl rfl (jz_ci ?_)
  refine jm_Q.mono h (jp_i_mono (fun r1 J1 K1 h => ?_))
  refine jw_aload_n rfl rfl ?_
  refine jl_arg (k := 1) hL rfl (by omega) rfl rfl rfl rfl rfl ?_
  refine jl_arg (k := 2) hL rfl (by omega) rfl rfl rfl rfl rfl ?_
  refine jl_arg (k := 3) hL rfl (by omega) rfl rfl rfl rfl rfl ?_
  refine jw_virt (k := 3) (c := 19) (as := [.int (Int32.ofInt (jc xs (i + 1))), .int (Int32.ofInt (jc xs (i + 2))), .int (Int32.ofInt (jc xs (i + 3)))]) rfl rfl rfl (Nat.le_of_ble_eq_true rfl) rfl (Nat.le_of_ble_eq_true rfl) rfl rfl (jz_ci ?_)
  refine jm_Q.mono h (jp_i_mono (fun r2 J2 K2 h => ?_))
  obtain ⟨e, h⟩ := h
  subst e
  exact jw_ic_same rfl h
theorem k_11 (hL : L ≤ 3072) (hi : i + 5 < L) (h : q_66 xs L d (jc xs (i + 1)) J K (fun r J1 K1 => q_206 xs L d (jc xs (i + 1)) J1 K1 (fun r2 J2 K2 => r = r2 ∧ jm_W xs L d 283 1980 (jl (i : Int)) [] (jz_H J2 K2) P))) : jm_W xs L d 283 684 (jl (i : Int)) [] (jz_H J K) P := by
  refine jw_aload_n rfl rfl ?_
  refine jl_arg (k := 1) hL rfl (by omega) rfl rfl rfl rfl rfl ?_
  refine jw_virt (k := 1) (c := 18) (as := [.int (Int32.ofInt (jc xs (i + 1)))]) rfl rfl rfl (Nat.le_of_ble_eq_true rfl) rfl (Nat.le_of_ble_eq_true rfl) rfl rfl (jz_ci ?_)
  refine jm_Q.mono h (jp_i_mono (fun r1 J1 K1 h => ?_))
  refine jw_aload_n rfl rfl ?_
  refine jl_arg (k := 1) hL rfl (by omega) rfl rfl rfl rfl rfl ?_
  refine jw_virt (k := 1) (c := 19) (as := [.int (Int32.ofInt (jc xs (i + 1)))]) rfl rfl rfl (Nat.le_of_ble_eq_true rfl) rfl (Nat.le_of_ble_eq_true rfl) rfl rfl (jz_ci ?_)
  refine jm_Q.mono h (jp_i_mono (fun r2 J2 K2 h => ?_))
  obtain ⟨e, h⟩ := h
  subst e
  exact jw_ic_same rfl h
theorem k_12 (hL : L ≤ 3072) (hi : i + 5 < L) (h : q_68 xs L d  J K (fun r J1 K1 => q_207 xs L d  J1 K1 (fun r2 J2 K2 => r = r2 ∧ jm_W xs L d 283 1980 (jl (i : Int)) [] (jz_H J2 K2) P))) : jm_W xs L d 283 707 (jl (i : Int)) [] (jz_H J K) P := by
  refine jw_aload_n rfl rfl ?_
  refine jw_virt (k := 0) (c := 18) (as := []) rfl rfl rfl (Nat.le_of_ble_eq_true rfl) rfl (Nat.le_of_ble_eq_true rfl) rfl rfl (jz_ci ?_)
  refine jm_Q.mono h (jp_i_mono (fun r1 J1 K1 h => ?_))
  refine jw_aload_n rfl rfl ?_
  refine jw_virt (k := 0) (c := 19) (as := []) rfl rfl rfl (Nat.le_of_ble_eq_true rfl) rfl (Nat.le_of_ble_eq_true rfl) rfl rfl (jz_ci ?_)
  refine jm_Q.mono h (jp_i_mono (fun r2 J2 K2 h => ?_))
  obtain ⟨e, h⟩ := h
  subst e
  exact jw_ic_same rfl h
theorem k_13 (hL : L ≤ 3072) (hi : i + 5 < L) (h : q_69 xs L d  J K (fun r J1 K1 => q_208 xs L d  J1 K1 (fun r2 J2 K2 => r = r2 ∧ jm_W xs L d 283 1980 (jl (i : Int)) [] (jz_H J2 K2) P))) : jm_W xs L d 283 720 (jl (i : Int)) [] (jz_H J K) P := by
  refine jw_aload_n rfl rfl ?_
  refine jw_virt (k := 0) (c := 18) (as := []) rfl rfl rfl (Nat.le_of_ble_eq_true rfl) rfl (Nat.le_of_ble_eq_true rfl) rfl rfl (jz_ci ?_)
  refine jm_Q.mono h (jp_i_mono (fun r1 J1 K1 h => ?_))
  refine jw_aload_n rfl rfl ?_
  refine jw_virt (k := 0) (c := 19) (as := []) rfl rfl rfl (Nat.le_of_ble_eq_true rfl) rfl (Nat.le_of_ble_eq_true rfl) rfl rfl (jz_ci ?_)
  refine jm_Q.mono h (jp_i_mono (fun r2 J2 K2 h => ?_))
  obtain ⟨e, h⟩ := h
  subst e
  exact jw_ic_same rfl h
theorem k_14 (hL : L ≤ 3072) (hi : i + 5 < L) (h : q_76 xs L d  J K (fun r J1 K1 => q_211 xs L d  J1 K1 (fun r2 J2 K2 => r = r2 ∧ jm_W xs L d 283 1980 (jl (i : Int)) [] (jz_H J2 K2) P))) : jm_W xs L d 283 733 (jl (i : Int)) [] (jz_H J K) P := by
  refine jw_aload_n rfl rfl ?_
  refine jw_virt (k := 0) (c := 18) (as := []) rfl rfl rfl (Nat.le_of_ble_eq_true rfl) rfl (Nat.le_of_ble_eq_true rfl) rfl rfl (jz_ci ?_)
  refine jm_Q.mono h (jp_i_mono (fun r1 J1 K1 h => ?_))
  refine jw_aload_n rfl rfl ?_
  refine jw_virt (k := 0) (c := 19) (as := []) rfl rfl rfl (Nat.le_of_ble_eq_true rfl) rfl (Nat.le_of_ble_eq_true rfl) rfl rfl (jz_ci ?_)
  refine jm_Q.mono h (jp_i_mono (fun r2 J2 K2 h => ?_))
  obtain ⟨e, h⟩ := h
  subst e
  exact jw_ic_same rfl h
theorem k_15 (hL : L ≤ 3072) (hi : i + 5 < L) (h : q_97 xs L d (jc xs (i + 1)) J K (fun r J1 K1 => q_226 xs L d (jc xs (i + 1)) J1 K1 (fun r2 J2 K2 => r = r2 ∧ jm_W xs L d 283 1980 (jl (i : Int)) [] (jz_H J2 K2) P))) : jm_W xs L d 283 746 (jl (i : Int)) [] (jz_H J K) P := by
  refine jw_aload_n rfl rfl ?_
  refine jl_arg (k := 1) hL rfl (by omega) rfl rfl rfl rfl rfl ?_
  refine jw_virt (k := 1) (c := 18) (as := [.int (Int32.ofInt (jc xs (i + 1)))]) rfl rfl rfl (Nat.le_of_ble_eq_true rfl) rfl (Nat.le_of_ble_eq_true rfl) rfl rfl (jz_ci ?_)
  refine jm_Q.mono h (jp_i_mono (fun r1 J1 K1 h => ?_))
  refine jw_aload_n rfl rfl ?_
  refine jl_arg (k := 1) hL rfl (by omega) rfl rfl rfl rfl rfl ?_
  refine jw_virt (k := 1) (c := 19) (as := [.int (Int32.ofInt (jc xs (i + 1)))]) rfl rfl rfl (Nat.le_of_ble_eq_true rfl) rfl (Nat.le_of_ble_eq_true rfl) rfl rfl (jz_ci ?_)
  refine jm_Q.mono h (jp_i_mono (fun r2 J2 K2 h => ?_))
  obtain ⟨e, h⟩ := h
  subst e
  exact jw_ic_same rfl h
theorem k_16 (hL : L ≤ 3072) (hi : i + 5 < L) (h : q_101 xs L d (jc xs (i + 1)) (jc xs (i + 2)) J K (fun r J1 K1 => q_228 xs L d (jc xs (i + 1)) (jc xs (i + 2)) J1 K1 (fun r2 J2 K2 => r = r2 ∧ jm_W xs L d 283 1980 (jl (i : Int)) [] (jz_H J2 K2) P))) : jm_W xs L d 283 769 (jl (i : Int)) [] (jz_H J K) P := by
  refine jw_aload_n rfl rfl ?_
  refine jl_arg (k := 1) hL rfl (by omega) rfl rfl rfl rfl rfl ?_
  refine jl_arg (k := 2) hL rfl (by omega) rfl rfl rfl rfl rfl ?_
  refine jw_virt (k := 2) (c := 18) (as := [.int (Int32.ofInt (jc xs (i + 1))), .int (Int32.ofInt (jc xs (i + 2)))]) rfl rfl rfl (Nat.le_of_ble_eq_true rfl) rfl (Nat.le_of_ble_eq_true rfl) rfl rfl (jz_ci ?_)
  refine jm_Q.mono h (jp_i_mono (fun r1 J1 K1 h => ?_))
  refine jw_aload_n rfl rfl ?_
  refine jl_arg (k := 1) hL rfl (by omega) rfl rfl rfl rfl rfl ?_
  refine jl_arg (k := 2) hL rfl (by omega) rfl rfl rfl rfl rfl ?_
  refine jw_virt (k := 2) (c := 19) (as := [.int (Int32.ofInt (jc xs (i + 1))), .int (Int32.ofInt (jc xs (i + 2)))]) rfl rfl rfl (Nat.le_of_ble_eq_true rfl) rfl (Nat.le_of_ble_eq_true rfl) rfl rfl (jz_ci ?_)
  refine jm_Q.mono h (jp_i_mono (fun r2 J2 K2 h => ?_))
  obtain ⟨e, h⟩ := h
  subst e
  exact jw_ic_same rfl h
theorem k_17 (hL : L ≤ 3072) (hi : i + 5 < L) (h : q_102 xs L d (jc xs (i + 1)) (jc xs (i + 2)) (jc xs (i + 3)) J K (fun r J1 K1 => q_230 xs L d (jc xs (i + 1)) (jc xs (i + 2)) (jc xs (i + 3)) J1 K1 (fun r2 J2 K2 => r = r2 ∧ jm_W xs L d 283 1980 (jl (i : Int)) [] (jz_H J2 K2) P))) : jm_W xs L d 283 802 (jl (i : Int)) [] (jz_H J K) P := by
  refine jw_aload_n rfl rfl ?_
  refine jl_arg (k := 1) hL rfl (by omega) rfl rfl rfl rfl rfl ?_
  refine jl_arg (k := 2) hL rfl (by omega) rfl rfl rfl rfl rfl ?_
  refine jl_arg (k := 3) hL rfl (by omega) rfl rfl rfl rfl rfl ?_
  refine jw_virt (k := 3) (c := 18) (as := [.int (Int32.ofInt (jc xs (i + 1))), .int (Int32.ofInt (jc xs (i + 2))), .int (Int32.ofInt (jc xs (i + 3)))]) rfl rfl rfl (Nat.le_of_ble_eq_true rfl) rfl (Nat.le_of_ble_eq_true rfl) rfl rfl (jz_ci ?_)
  refine jm_Q.mono h (jp_i_mono (fun r1 J1 K1 h => ?_))
  refine jw_aload_n rfl rfl ?_
  refine jl_arg (k := 1) hL rfl (by omega) rfl rfl rfl rfl rfl ?_
  refine jl_arg (k := 2) hL rfl (by omega) rfl rfl rfl rfl rfl ?_
  refine jl_arg (k := 3) hL rfl (by omega) rfl rfl rfl rfl rfl ?_
  refine jw_virt (k := 3) (c := 19) (as := [.int (Int32.ofInt (jc xs (i + 1))), .int (Int32.ofInt (jc xs (i + 2))), .int (Int32.ofInt (jc xs (i + 3)))]) rfl rfl rfl (Nat.le_of_ble_eq_true rfl) rfl (Nat.le_of_ble_eq_true rfl) rfl rfl (jz_ci ?_)
  refine jm_Q.mono h (jp_i_mono (fun r2 J2 K2 h => ?_))
  obtain ⟨e, h⟩ := h
  subst e
  exact jw_ic_same rfl h
theorem k_18 (hL : L ≤ 3072) (hi : i + 5 < L) (h : q_104 xs L d (jc xs (i + 1)) J K (fun r J1 K1 => q_231 xs L d (jc xs (i + 1)) J1 K1 (fun r2 J2 K2 => r = r2 ∧ jm_W xs L d 283 1980 (jl (i : Int)) [] (jz_H J2 K2) P))) : jm_W xs L d 283 845 (jl (i : Int)) [] (jz_H J K) P := by
  refine jw_aload_n rfl rfl ?_
  refine jl_arg (k := 1) hL rfl (by omega) rfl rfl rfl rfl rfl ?_
  refine jw_virt (k := 1) (c := 18) (as := [.int (Int32.ofInt (jc xs (i + 1)))]) rfl rfl rfl (Nat.le_of_ble_eq_true rfl) rfl (Nat.le_of_ble_eq_true rfl) rfl rfl (jz_ci ?_)
  refine jm_Q.mono h (jp_i_mono (fun r1 J1 K1 h => ?_))
  refine jw_aload_n rfl rfl ?_
  refine jl_arg (k := 1) hL rfl (by omega) rfl rfl rfl rfl rfl ?_
  refine jw_virt (k := 1) (c := 19) (as := [.int (Int32.ofInt (jc xs (i + 1)))]) rfl rfl rfl (Nat.le_of_ble_eq_true rfl) rfl (Nat.le_of_ble_eq_true rfl) rfl rfl (jz_ci ?_)
  refine jm_Q.mono h (jp_i_mono (fun r2 J2 K2 h => ?_))
  obtain ⟨e, h⟩ := h
  subst e
  exact jw_ic_same rfl h
theorem k_19 (hL : L ≤ 3072) (hi : i + 5 < L) (h : q_105 xs L d (jc xs (i + 1)) (jc xs (i + 2)) J K (fun r J1 K1 => q_232 xs L d (jc xs (i + 1)) (jc xs (i + 2)) J1 K1 (fun r2 J2 K2 => r = r2 ∧ jm_W xs L d 283 1980 (jl (i : Int)) [] (jz_H J2 K2) P))) : jm_W xs L d 283 868 (jl (i : Int)) [] (jz_H J K) P := by
  refine jw_aload_n rfl rfl ?_
  refine jl_arg (k := 1) hL rfl (by omega) rfl rfl rfl rfl rfl ?_
  refine jl_arg (k := 2) hL rfl (by omega) rfl rfl rfl rfl rfl ?_
  refine jw_virt (k := 2) (c := 18) (as := [.int (Int32.ofInt (jc xs (i + 1))), .int (Int32.ofInt (jc xs (i + 2)))]) rfl rfl rfl (Nat.le_of_ble_eq_true rfl) rfl (Nat.le_of_ble_eq_true rfl) rfl rfl (jz_ci ?_)
  refine jm_Q.mono h (jp_i_mono (fun r1 J1 K1 h => ?_))
  refine jw_aload_n rfl rfl ?_
  refine jl_arg (k := 1) hL rfl (by omega) rfl rfl rfl rfl rfl ?_
  refine jl_arg (k := 2) hL rfl (by omega) rfl rfl rfl rfl rfl ?_
  refine jw_virt (k := 2) (c := 19) (as := [.int (Int32.ofInt (jc xs (i + 1))), .int (Int32.ofInt (jc xs (i + 2)))]) rfl rfl rfl (Nat.le_of_ble_eq_true rfl) rfl (Nat.le_of_ble_eq_true rfl) rfl rfl (jz_ci ?_)
  refine jm_Q.mono h (jp_i_mono (fun r2 J2 K2 h => ?_))
  obtain ⟨e, h⟩ := h
  subst e
  exact jw_ic_same rfl h
theorem k_20 (hL : L ≤ 3072) (hi : i + 5 < L) (h : q_106 xs L d (jc xs (i + 1)) (jc xs (i + 2)) (jc xs (i + 3)) (jc xs (i + 4)) J K (fun r J1 K1 => q_233 xs L d (jc xs (i + 1)) (jc xs (i + 2)) (jc xs (i + 3)) (jc xs (i + 4)) J1 K1 (fun r2 J2 K2 => r = r2 ∧ jm_W xs L d 283 1980 (jl (i : Int)) [] (jz_H J2 K2) P))) : jm_W xs L d 283 901 (jl (i : Int)) [] (jz_H J K) P := by
  refine jw_aload_n rfl rfl ?_
  refine jl_arg (k := 1) hL rfl (by omega) rfl rfl rfl rfl rfl ?_
  refine jl_arg (k := 2) hL rfl (by omega) rfl rfl rfl rfl rfl ?_
  refine jl_arg (k := 3) hL rfl (by omega) rfl rfl rfl rfl rfl ?_
  refine jl_arg (k := 4) hL rfl (by omega) rfl rfl rfl rfl rfl ?_
  refine jw_virt (k := 4) (c := 18) (as := [.int (Int32.ofInt (jc xs (i + 1))), .int (Int32.ofInt (jc xs (i + 2))), .int (Int32.ofInt (jc xs (i + 3))), .int (Int32.ofInt (jc xs (i + 4)))]) rfl rfl rfl (Nat.le_of_ble_eq_true rfl) rfl (Nat.le_of_ble_eq_true rfl) rfl rfl (jz_ci ?_)
  refine jm_Q.mono h (jp_i_mono (fun r1 J1 K1 h => ?_))
  refine jw_aload_n rfl rfl ?_
  refine jl_arg (k := 1) hL rfl (by omega) rfl rfl rfl rfl rfl ?_
  refine jl_arg (k := 2) hL rfl (by omega) rfl rfl rfl rfl rfl ?_
  refine jl_arg (k := 3) hL rfl (by omega) rfl rfl rfl rfl rfl ?_
  refine jl_arg (k := 4) hL rfl (by omega) rfl rfl rfl rfl rfl ?_
  refine jw_virt (k := 4) (c := 19) (as := [.int (Int32.ofInt (jc xs (i + 1))), .int (Int32.ofInt (jc xs (i + 2))), .int (Int32.ofInt (jc xs (i + 3))), .int (Int32.ofInt (jc xs (i + 4)))]) rfl rfl rfl (Nat.le_of_ble_eq_true rfl) rfl (Nat.le_of_ble_eq_true rfl) rfl rfl (jz_ci ?_)
  refine jm_Q.mono h (jp_i_mono (fun r2 J2 K2 h => ?_))
  obtain ⟨e, h⟩ := h
  subst e
  exact jw_ic_same rfl h
theorem k_21 (hL : L ≤ 3072) (hi : i + 5 < L) (h : q_107 xs L d  J K (fun r J1 K1 => q_234 xs L d  J1 K1 (fun r2 J2 K2 => r = r2 ∧ jm_W xs L d 283 1980 (jl (i : Int)) [] (jz_H J2 K2) P))) : jm_W xs L d 283 954 (jl (i : Int)) [] (jz_H J K) P := by
  refine jw_aload_n rfl rfl ?_
  refine jw_virt (k := 0) (c := 18) (as := []) rfl rfl rfl (Nat.le_of_ble_eq_true rfl) rfl (Nat.le_of_ble_eq_true rfl) rfl rfl (jz_ci ?_)
  refine jm_Q.mono h (jp_i_mono (fun r1 J1 K1 h => ?_))
  refine jw_aload_n rfl rfl ?_
  refine jw_virt (k := 0) (c := 19) (as := []) rfl rfl rfl (Nat.le_of_ble_eq_true rfl) rfl (Nat.le_of_ble_eq_true rfl) rfl rfl (jz_ci ?_)
  refine jm_Q.mono h (jp_i_mono (fun r2 J2 K2 h => ?_))
  obtain ⟨e, h⟩ := h
  subst e
  exact jw_ic_same rfl h
theorem k_22 (hL : L ≤ 3072) (hi : i + 5 < L) (h : q_110 xs L d (jc xs (i + 1)) (jc xs (i + 2)) J K (fun r J1 K1 => q_235 xs L d (jc xs (i + 1)) (jc xs (i + 2)) J1 K1 (fun r2 J2 K2 => r = r2 ∧ jm_W xs L d 283 1980 (jl (i : Int)) [] (jz_H J2 K2) P))) : jm_W xs L d 283 967 (jl (i : Int)) [] (jz_H J K) P := by
  refine jw_aload_n rfl rfl ?_
  refine jl_arg (k := 1) hL rfl (by omega) rfl rfl rfl rfl rfl ?_
  refine jl_arg (k := 2) hL rfl (by omega) rfl rfl rfl rfl rfl ?_
  refine jw_virt (k := 2) (c := 18) (as := [.int (Int32.ofInt (jc xs (i + 1))), .int (Int32.ofInt (jc xs (i + 2)))]) rfl rfl rfl (Nat.le_of_ble_eq_true rfl) rfl (Nat.le_of_ble_eq_true rfl) rfl rfl (jz_ci ?_)
  refine jm_Q.mono h (jp_i_mono (fun r1 J1 K1 h => ?_))
  refine jw_aload_n rfl rfl ?_
  refine jl_arg (k := 1) hL rfl (by omega) rfl rfl rfl rfl rfl ?_
  refine jl_arg (k := 2) hL rfl (by omega) rfl rfl rfl rfl rfl ?_
  refine jw_virt (k := 2) (c := 19) (as := [.int (Int32.ofInt (jc xs (i + 1))), .int (Int32.ofInt (jc xs (i + 2)))]) rfl rfl rfl (Nat.le_of_ble_eq_true rfl) rfl (Nat.le_of_ble_eq_true rfl) rfl rfl (jz_ci ?_)
  refine jm_Q.mono h (jp_i_mono (fun r2 J2 K2 h => ?_))
  obtain ⟨e, h⟩ := h
  subst e
  exact jw_ic_same rfl h
theorem k_23 (hL : L ≤ 3072) (hi : i + 5 < L) (h : q_111 xs L d (jc xs (i + 1)) (jc xs (i + 2)) J K (fun r J1 K1 => q_239 xs L d (jc xs (i + 1)) (jc xs (i + 2)) J1 K1 (fun r2 J2 K2 => r = r2 ∧ jm_W xs L d 283 1980 (jl (i : Int)) [] (jz_H J2 K2) P))) : jm_W xs L d 283 1000 (jl (i : Int)) [] (jz_H J K) P := by
  refine jw_aload_n rfl rfl ?_
  refine jl_arg (k := 1) hL rfl (by omega) rfl rfl rfl rfl rfl ?_
  refine jl_arg (k := 2) hL rfl (by omega) rfl rfl rfl rfl rfl ?_
  refine jw_virt (k := 2) (c := 18) (as := [.int (Int32.ofInt (jc xs (i + 1))), .int (Int32.ofInt (jc xs (i + 2)))]) rfl rfl rfl (Nat.le_of_ble_eq_true rfl) rfl (Nat.le_of_ble_eq_true rfl) rfl rfl (jz_ci ?_)
  refine jm_Q.mono h (jp_i_mono (fun r1 J1 K1 h => ?_))
  refine jw_aload_n rfl rfl ?_
  refine jl_arg (k := 1) hL rfl (by omega) rfl rfl rfl rfl rfl ?_
  refine jl_arg (k := 2) hL rfl (by omega) rfl rfl rfl rfl rfl ?_
  refine jw_virt (k := 2) (c := 19) (as := [.int (Int32.ofInt (jc xs (i + 1))), .int (Int32.ofInt (jc xs (i + 2)))]) rfl rfl rfl (Nat.le_of_ble_eq_true rfl) rfl (Nat.le_of_ble_eq_true rfl) rfl rfl (jz_ci ?_)
  refine jm_Q.mono h (jp_i_mono (fun r2 J2 K2 h => ?_))
  obtain ⟨e, h⟩ := h
  subst e
  exact jw_ic_same rfl h
theorem k_24 (hL : L ≤ 3072) (hi : i + 5 < L) (h : q_113 xs L d (jc xs (i + 1)) J K (fun r J1 K1 => q_241 xs L d (jc xs (i + 1)) J1 K1 (fun r2 J2 K2 => r = r2 ∧ jm_W xs L d 283 1980 (jl (i : Int)) [] (jz_H J2 K2) P))) : jm_W xs L d 283 1033 (jl (i : Int)) [] (jz_H J K) P := by
  refine jw_aload_n rfl rfl ?_
  refine jl_arg (k := 1) hL rfl (by omega) rfl rfl rfl rfl rfl ?_
  refine jw_virt (k := 1) (c := 18) (as := [.int (Int32.ofInt (jc xs (i + 1)))]) rfl rfl rfl (Nat.le_of_ble_eq_true rfl) rfl (Nat.le_of_ble_eq_true rfl) rfl rfl (jz_ci ?_)
  refine jm_Q.mono h (jp_i_mono (fun r1 J1 K1 h => ?_))
  refine jw_aload_n rfl rfl ?_
  refine jl_arg (k := 1) hL rfl (by omega) rfl rfl rfl rfl rfl ?_
  refine jw_virt (k := 1) (c := 19) (as := [.int (Int32.ofInt (jc xs (i + 1)))]) rfl rfl rfl (Nat.le_of_ble_eq_true rfl) rfl (Nat.le_of_ble_eq_true rfl) rfl rfl (jz_ci ?_)
  refine jm_Q.mono h (jp_i_mono (fun r2 J2 K2 h => ?_))
  obtain ⟨e, h⟩ := h
  subst e
  exact jw_ic_same rfl h
theorem k_25 (hL : L ≤ 3072) (hi : i + 5 < L) (h : q_114 xs L d (jc xs (i + 1)) (jc xs (i + 2)) J K (fun r J1 K1 => q_242 xs L d (jc xs (i + 1)) (jc xs (i + 2)) J1 K1 (fun r2 J2 K2 => r = r2 ∧ jm_W xs L d 283 1980 (jl (i : Int)) [] (jz_H J2 K2) P))) : jm_W xs L d 283 1056 (jl (i : Int)) [] (jz_H J K) P := by
  refine jw_aload_n rfl rfl ?_
  refine jl_arg (k := 1) hL rfl (by omega) rfl rfl rfl rfl rfl ?_
  refine jl_arg (k := 2) hL rfl (by omega) rfl rfl rfl rfl rfl ?_
  refine jw_virt (k := 2) (c := 18) (as := [.int (Int32.ofInt (jc xs (i + 1))), .int (Int32.ofInt (jc xs (i + 2)))]) rfl rfl rfl (Nat.le_of_ble_eq_true rfl) rfl (Nat.le_of_ble_eq_true rfl) rfl rfl (jz_ci ?_)
  refine jm_Q.mono h (jp_i_mono (fun r1 J1 K1 h => ?_))
  refine jw_aload_n rfl rfl ?_
  refine jl_arg (k := 1) hL rfl (by omega) rfl rfl rfl rfl rfl ?_
  refine jl_arg (k := 2) hL rfl (by omega) rfl rfl rfl rfl rfl ?_
  refine jw_virt (k := 2) (c := 19) (as := [.int (Int32.ofInt (jc xs (i + 1))), .int (Int32.ofInt (jc xs (i + 2)))]) rfl rfl rfl (Nat.le_of_ble_eq_true rfl) rfl (Nat.le_of_ble_eq_true rfl) rfl rfl (jz_ci ?_)
  refine jm_Q.mono h (jp_i_mono (fun r2 J2 K2 h => ?_))
  obtain ⟨e, h⟩ := h
  subst e
  exact jw_ic_same rfl h
theorem k_26 (hL : L ≤ 3072) (hi : i + 5 < L) (h : q_116 xs L d (jc xs (i + 1)) (jc xs (i + 2)) (jc xs (i + 3)) J K (fun r J1 K1 => q_244 xs L d (jc xs (i + 1)) (jc xs (i + 2)) (jc xs (i + 3)) J1 K1 (fun r2 J2 K2 => r = r2 ∧ jm_W xs L d 283 1980 (jl (i : Int)) [] (jz_H J2 K2) P))) : jm_W xs L d 283 1089 (jl (i : Int)) [] (jz_H J K) P := by
  refine jw_aload_n rfl rfl ?_
  refine jl_arg (k := 1) hL rfl (by omega) rfl rfl rfl rfl rfl ?_
  refine jl_arg (k := 2) hL rfl (by omega) rfl rfl rfl rfl rfl ?_
  refine jl_arg (k := 3) hL rfl (by omega) rfl rfl rfl rfl rfl ?_
  refine jw_virt (k := 3) (c := 18) (as := [.int (Int32.ofInt (jc xs (i + 1))), .int (Int32.ofInt (jc xs (i + 2))), .int (Int32.ofInt (jc xs (i + 3)))]) rfl rfl rfl (Nat.le_of_ble_eq_true rfl) rfl (Nat.le_of_ble_eq_true rfl) rfl rfl (jz_ci ?_)
  refine jm_Q.mono h (jp_i_mono (fun r1 J1 K1 h => ?_))
  refine jw_aload_n rfl rfl ?_
  refine jl_arg (k := 1) hL rfl (by omega) rfl rfl rfl rfl rfl ?_
  refine jl_arg (k := 2) hL rfl (by omega) rfl rfl rfl rfl rfl ?_
  refine jl_arg (k := 3) hL rfl (by omega) rfl rfl rfl rfl rfl ?_
  refine jw_virt (k := 3) (c := 19) (as := [.int (Int32.ofInt (jc xs (i + 1))), .int (Int32.ofInt (jc xs (i + 2))), .int (Int32.ofInt (jc xs (i + 3)))]) rfl rfl rfl (Nat.le_of_ble_eq_true rfl) rfl (Nat.le_of_ble_eq_true rfl) rfl rfl (jz_ci ?_)
  refine jm_Q.mono h (jp_i_mono (fun r2 J2 K2 h => ?_))
  obtain ⟨e, h⟩ := h
  subst e
  exact jw_ic_same rfl h
theorem k_27 (hL : L ≤ 3072) (hi : i + 5 < L) (h : q_119 xs L d (jc xs (i + 1)) (jc xs (i + 2)) J K (fun r J1 K1 => q_245 xs L d (jc xs (i + 1)) (jc xs (i + 2)) J1 K1 (fun r2 J2 K2 => r = r2 ∧ jm_W xs L d 283 1980 (jl (i : Int)) [] (jz_H J2 K2) P))) : jm_W xs L d 283 1132 (jl (i : Int)) [] (jz_H J K) P := by
  refine jw_aload_n rfl rfl ?_
  refine jl_arg (k := 1) hL rfl (by omega) rfl rfl rfl rfl rfl ?_
  refine jl_arg (k := 2) hL rfl (by omega) rfl rfl rfl rfl rfl ?_
  refine jw_virt (k := 2) (c := 18) (as := [.int (Int32.ofInt (jc xs (i + 1))), .int (Int32.ofInt (jc xs (i + 2)))]) rfl rfl rfl (Nat.le_of_ble_eq_true rfl) rfl (Nat.le_of_ble_eq_true rfl) rfl rfl (jz_ci ?_)
  refine jm_Q.mono h (jp_i_mono (fun r1 J1 K1 h => ?_))
  refine jw_aload_n rfl rfl ?_
  refine jl_arg (k := 1) hL rfl (by omega) rfl rfl rfl rfl rfl ?_
  refine jl_arg (k := 2) hL rfl (by omega) rfl rfl rfl rfl rfl ?_
  refine jw_virt (k := 2) (c := 19) (as := [.int (Int32.ofInt (jc xs (i + 1))), .int (Int32.ofInt (jc xs (i + 2)))]) rfl rfl rfl (Nat.le_of_ble_eq_true rfl) rfl (Nat.le_of_ble_eq_true rfl) rfl rfl (jz_ci ?_)
  refine jm_Q.mono h (jp_i_mono (fun r2 J2 K2 h => ?_))
  obtain ⟨e, h⟩ := h
  subst e
  exact jw_ic_same rfl h
theorem k_28 (hL : L ≤ 3072) (hi : i + 5 < L) (h : q_121 xs L d (jc xs (i + 1)) J K (fun r J1 K1 => q_247 xs L d (jc xs (i + 1)) J1 K1 (fun r2 J2 K2 => r = r2 ∧ jm_W xs L d 283 1980 (jl (i : Int)) [] (jz_H J2 K2) P))) : jm_W xs L d 283 1165 (jl (i : Int)) [] (jz_H J K) P := by
  refine jw_aload_n rfl rfl ?_
  refine jl_arg (k := 1) hL rfl (by omega) rfl rfl rfl rfl rfl ?_
  refine jw_virt (k := 1) (c := 18) (as := [.int (Int32.ofInt (jc xs (i + 1)))]) rfl rfl rfl (Nat.le_of_ble_eq_true rfl) rfl (Nat.le_of_ble_eq_true rfl) rfl rfl (jz_ci ?_)
  refine jm_Q.mono h (jp_i_mono (fun r1 J1 K1 h => ?_))
  refine jw_aload_n rfl rfl ?_
  refine jl_arg (k := 1) hL rfl (by omega) rfl rfl rfl rfl rfl ?_
  refine jw_virt (k := 1) (c := 19) (as := [.int (Int32.ofInt (jc xs (i + 1)))]) rfl rfl rfl (Nat.le_of_ble_eq_true rfl) rfl (Nat.le_of_ble_eq_true rfl) rfl rfl (jz_ci ?_)
  refine jm_Q.mono h (jp_i_mono (fun r2 J2 K2 h => ?_))
  obtain ⟨e, h⟩ := h
  subst e
  exact jw_ic_same rfl h
theorem k_29 (hL : L ≤ 3072) (hi : i + 5 < L) (h : q_122 xs L d (jc xs (i + 1)) (jc xs (i + 2)) J K (fun r J1 K1 => q_248 xs L d (jc xs (i + 1)) (jc xs (i + 2)) J1 K1 (fun r2 J2 K2 => r = r2 ∧ jm_W xs L d 283 1980 (jl (i : Int)) [] (jz_H J2 K2) P))) : jm_W xs L d 283 1188 (jl (i : Int)) [] (jz_H J K) P := by
  refine jw_aload_n rfl rfl ?_
  refine jl_arg (k := 1) hL rfl (by omega) rfl rfl rfl rfl rfl ?_
  refine jl_arg (k := 2) hL rfl (by omega) rfl rfl rfl rfl rfl ?_
  refine jw_virt (k := 2) (c := 18) (as := [.int (Int32.ofInt (jc xs (i + 1))), .int (Int32.ofInt (jc xs (i + 2)))]) rfl rfl rfl (Nat.le_of_ble_eq_true rfl) rfl (Nat.le_of_ble_eq_true rfl) rfl rfl (jz_ci ?_)
  refine jm_Q.mono h (jp_i_mono (fun r1 J1 K1 h => ?_))
  refine jw_aload_n rfl rfl ?_
  refine jl_arg (k := 1) hL rfl (by omega) rfl rfl rfl rfl rfl ?_
  refine jl_arg (k := 2) hL rfl (by omega) rfl rfl rfl rfl rfl ?_
  refine jw_virt (k := 2) (c := 19) (as := [.int (Int32.ofInt (jc xs (i + 1))), .int (Int32.ofInt (jc xs (i + 2)))]) rfl rfl rfl (Nat.le_of_ble_eq_true rfl) rfl (Nat.le_of_ble_eq_true rfl) rfl rfl (jz_ci ?_)
  refine jm_Q.mono h (jp_i_mono (fun r2 J2 K2 h => ?_))
  obtain ⟨e, h⟩ := h
  subst e
  exact jw_ic_same rfl h
theorem k_30 (hL : L ≤ 3072) (hi : i + 5 < L) (h : q_123 xs L d (jc xs (i + 1)) (jc xs (i + 2)) J K (fun r J1 K1 => q_249 xs L d (jc xs (i + 1)) (jc xs (i + 2)) J1 K1 (fun r2 J2 K2 => r = r2 ∧ jm_W xs L d 283 1980 (jl (i : Int)) [] (jz_H J2 K2) P))) : jm_W xs L d 283 1221 (jl (i : Int)) [] (jz_H J K) P := by
  refine jw_aload_n rfl rfl ?_
  refine jl_arg (k := 1) hL rfl (by omega) rfl rfl rfl rfl rfl ?_
  refine jl_arg (k := 2) hL rfl (by omega) rfl rfl rfl rfl rfl ?_
  refine jw_virt (k := 2) (c := 18) (as := [.int (Int32.ofInt (jc xs (i + 1))), .int (Int32.ofInt (jc xs (i + 2)))]) rfl rfl rfl (Nat.le_of_ble_eq_true rfl) rfl (Nat.le_of_ble_eq_true rfl) rfl rfl (jz_ci ?_)
  refine jm_Q.mono h (jp_i_mono (fun r1 J1 K1 h => ?_))
  refine jw_aload_n rfl rfl ?_
  refine jl_arg (k := 1) hL rfl (by omega) rfl rfl rfl rfl rfl ?_
  refine jl_arg (k := 2) hL rfl (by omega) rfl rfl rfl rfl rfl ?_
  refine jw_virt (k := 2) (c := 19) (as := [.int (Int32.ofInt (jc xs (i + 1))), .int (Int32.ofInt (jc xs (i + 2)))]) rfl rfl rfl (Nat.le_of_ble_eq_true rfl) rfl (Nat.le_of_ble_eq_true rfl) rfl rfl (jz_ci ?_)
  refine jm_Q.mono h (jp_i_mono (fun r2 J2 K2 h => ?_))
  obtain ⟨e, h⟩ := h
  subst e
  exact jw_ic_same rfl h
theorem k_31 (hL : L ≤ 3072) (hi : i + 5 < L) (h : q_124 xs L d (jc xs (i + 1)) (jc xs (i + 2)) J K (fun r J1 K1 => q_251 xs L d (jc xs (i + 1)) (jc xs (i + 2)) J1 K1 (fun r2 J2 K2 => r = r2 ∧ jm_W xs L d 283 1980 (jl (i : Int)) [] (jz_H J2 K2) P))) : jm_W xs L d 283 1254 (jl (i : Int)) [] (jz_H J K) P := by
  refine jw_aload_n rfl rfl ?_
  refine jl_arg (k := 1) hL rfl (by omega) rfl rfl rfl rfl rfl ?_
  refine jl_arg (k := 2) hL rfl (by omega) rfl rfl rfl rfl rfl ?_
  refine jw_virt (k := 2) (c := 18) (as := [.int (Int32.ofInt (jc xs (i + 1))), .int (Int32.ofInt (jc xs (i + 2)))]) rfl rfl rfl (Nat.le_of_ble_eq_true rfl) rfl (Nat.le_of_ble_eq_true rfl) rfl rfl (jz_ci ?_)
  refine jm_Q.mono h (jp_i_mono (fun r1 J1 K1 h => ?_))
  refine jw_aload_n rfl rfl ?_
  refine jl_arg (k := 1) hL rfl (by omega) rfl rfl rfl rfl rfl ?_
  refine jl_arg (k := 2) hL rfl (by omega) rfl rfl rfl rfl rfl ?_
  refine jw_virt (k := 2) (c := 19) (as := [.int (Int32.ofInt (jc xs (i + 1))), .int (Int32.ofInt (jc xs (i + 2)))]) rfl rfl rfl (Nat.le_of_ble_eq_true rfl) rfl (Nat.le_of_ble_eq_true rfl) rfl rfl (jz_ci ?_)
  refine jm_Q.mono h (jp_i_mono (fun r2 J2 K2 h => ?_))
  obtain ⟨e, h⟩ := h
  subst e
  exact jw_ic_same rfl h
theorem k_32 (hL : L ≤ 3072) (hi : i + 5 < L) (h : q_127 xs L d (jc xs (i + 1)) (jc xs (i + 2)) J K (fun r J1 K1 => q_252 xs L d (jc xs (i + 1)) (jc xs (i + 2)) J1 K1 (fun r2 J2 K2 => r = r2 ∧ jm_W xs L d 283 1980 (jl (i : Int)) [] (jz_H J2 K2) P))) : jm_W xs L d 283 1287 (jl (i : Int)) [] (jz_H J K) P := by
  refine jw_aload_n rfl rfl ?_
  refine jl_arg (k := 1) hL rfl (by omega) rfl rfl rfl rfl rfl ?_
  refine jl_arg (k := 2) hL rfl (by omega) rfl rfl rfl rfl rfl ?_
  refine jw_virt (k := 2) (c := 18) (as := [.int (Int32.ofInt (jc xs (i + 1))), .int (Int32.ofInt (jc xs (i + 2)))]) rfl rfl rfl (Nat.le_of_ble_eq_true rfl) rfl (Nat.le_of_ble_eq_true rfl) rfl rfl (jz_ci ?_)
  refine jm_Q.mono h (jp_i_mono (fun r1 J1 K1 h => ?_))
  refine jw_aload_n rfl rfl ?_
  refine jl_arg (k := 1) hL rfl (by omega) rfl rfl rfl rfl rfl ?_
  refine jl_arg (k := 2) hL rfl (by omega) rfl rfl rfl rfl rfl ?_
  refine jw_virt (k := 2) (c := 19) (as := [.int (Int32.ofInt (jc xs (i + 1))), .int (Int32.ofInt (jc xs (i + 2)))]) rfl rfl rfl (Nat.le_of_ble_eq_true rfl) rfl (Nat.le_of_ble_eq_true rfl) rfl rfl (jz_ci ?_)
  refine jm_Q.mono h (jp_i_mono (fun r2 J2 K2 h => ?_))
  obtain ⟨e, h⟩ := h
  subst e
  exact jw_ic_same rfl h
theorem k_33 (hL : L ≤ 3072) (hi : i + 5 < L) (h : q_128 xs L d (jc xs (i + 1)) (jc xs (i + 2)) J K (fun r J1 K1 => q_253 xs L d (jc xs (i + 1)) (jc xs (i + 2)) J1 K1 (fun r2 J2 K2 => r = r2 ∧ jm_W xs L d 283 1980 (jl (i : Int)) [] (jz_H J2 K2) P))) : jm_W xs L d 283 1320 (jl (i : Int)) [] (jz_H J K) P := by
  refine jw_aload_n rfl rfl ?_
  refine jl_arg (k := 1) hL rfl (by omega) rfl rfl rfl rfl rfl ?_
  refine jl_arg (k := 2) hL rfl (by omega) rfl rfl rfl rfl rfl ?_
  refine jw_virt (k := 2) (c := 18) (as := [.int (Int32.ofInt (jc xs (i + 1))), .int (Int32.ofInt (jc xs (i + 2)))]) rfl rfl rfl (Nat.le_of_ble_eq_true rfl) rfl (Nat.le_of_ble_eq_true rfl) rfl rfl (jz_ci ?_)
  refine jm_Q.mono h (jp_i_mono (fun r1 J1 K1 h => ?_))
  refine jw_aload_n rfl rfl ?_
  refine jl_arg (k := 1) hL rfl (by omega) rfl rfl rfl rfl rfl ?_
  refine jl_arg (k := 2) hL rfl (by omega) rfl rfl rfl rfl rfl ?_
  refine jw_virt (k := 2) (c := 19) (as := [.int (Int32.ofInt (jc xs (i + 1))), .int (Int32.ofInt (jc xs (i + 2)))]) rfl rfl rfl (Nat.le_of_ble_eq_true rfl) rfl (Nat.le_of_ble_eq_true rfl) rfl rfl (jz_ci ?_)
  refine jm_Q.mono h (jp_i_mono (fun r2 J2 K2 h => ?_))
  obtain ⟨e, h⟩ := h
  subst e
  exact jw_ic_same rfl h
theorem k_34 (hL : L ≤ 3072) (hi : i + 5 < L) (h : q_131 xs L d (jc xs (i + 1)) (jc xs (i + 2)) J K (fun r J1 K1 => q_256 xs L d (jc xs (i + 1)) (jc xs (i + 2)) J1 K1 (fun r2 J2 K2 => r = r2 ∧ jm_W xs L d 283 1980 (jl (i : Int)) [] (jz_H J2 K2) P))) : jm_W xs L d 283 1353 (jl (i : Int)) [] (jz_H J K) P := by
  refine jw_aload_n rfl rfl ?_
  refine jl_arg (k := 1) hL rfl (by omega) rfl rfl rfl rfl rfl ?_
  refine jl_arg (k := 2) hL rfl (by omega) rfl rfl rfl rfl rfl ?_
  refine jw_virt (k := 2) (c := 18) (as := [.int (Int32.ofInt (jc xs (i + 1))), .int (Int32.ofInt (jc xs (i + 2)))]) rfl rfl rfl (Nat.le_of_ble_eq_true rfl) rfl (Nat.le_of_ble_eq_true rfl) rfl rfl (jz_ci ?_)
  refine jm_Q.mono h (jp_i_mono (fun r1 J1 K1 h => ?_))
  refine jw_aload_n rfl rfl ?_
  refine jl_arg (k := 1) hL rfl (by omega) rfl rfl rfl rfl rfl ?_
  refine jl_arg (k := 2) hL rfl (by omega) rfl rfl rfl rfl rfl ?_
  refine jw_virt (k := 2) (c := 19) (as := [.int (Int32.ofInt (jc xs (i + 1))), .int (Int32.ofInt (jc xs (i + 2)))]) rfl rfl rfl (Nat.le_of_ble_eq_true rfl) rfl (Nat.le_of_ble_eq_true rfl) rfl rfl (jz_ci ?_)
  refine jm_Q.mono h (jp_i_mono (fun r2 J2 K2 h => ?_))
  obtain ⟨e, h⟩ := h
  subst e
  exact jw_ic_same rfl h
theorem k_35 (hL : L ≤ 3072) (hi : i + 5 < L) (h : q_133 xs L d (jc xs (i + 1)) (jc xs (i + 2)) (jc xs (i + 3)) J K (fun r J1 K1 => q_257 xs L d (jc xs (i + 1)) (jc xs (i + 2)) (jc xs (i + 3)) J1 K1 (fun r2 J2 K2 => r = r2 ∧ jm_W xs L d 283 1980 (jl (i : Int)) [] (jz_H J2 K2) P))) : jm_W xs L d 283 1386 (jl (i : Int)) [] (jz_H J K) P := by
  refine jw_aload_n rfl rfl ?_
  refine jl_arg (k := 1) hL rfl (by omega) rfl rfl rfl rfl rfl ?_
  refine jl_arg (k := 2) hL rfl (by omega) rfl rfl rfl rfl rfl ?_
  refine jl_arg (k := 3) hL rfl (by omega) rfl rfl rfl rfl rfl ?_
  refine jw_virt (k := 3) (c := 18) (as := [.int (Int32.ofInt (jc xs (i + 1))), .int (Int32.ofInt (jc xs (i + 2))), .int (Int32.ofInt (jc xs (i + 3)))]) rfl rfl rfl (Nat.le_of_ble_eq_true rfl) rfl (Nat.le_of_ble_eq_true rfl) rfl rfl (jz_ci ?_)
  refine jm_Q.mono h (jp_i_mono (fun r1 J1 K1 h => ?_))
  refine jw_aload_n rfl rfl ?_
  refine jl_arg (k := 1) hL rfl (by omega) rfl rfl rfl rfl rfl ?_
  refine jl_arg (k := 2) hL rfl (by omega) rfl rfl rfl rfl rfl ?_
  refine jl_arg (k := 3) hL rfl (by omega) rfl rfl rfl rfl rfl ?_
  refine jw_virt (k := 3) (c := 19) (as := [.int (Int32.ofInt (jc xs (i + 1))), .int (Int32.ofInt (jc xs (i + 2))), .int (Int32.ofInt (jc xs (i + 3)))]) rfl rfl rfl (Nat.le_of_ble_eq_true rfl) rfl (Nat.le_of_ble_eq_true rfl) rfl rfl (jz_ci ?_)
  refine jm_Q.mono h (jp_i_mono (fun r2 J2 K2 h => ?_))
  obtain ⟨e, h⟩ := h
  subst e
  exact jw_ic_same rfl h
theorem k_36 (hL : L ≤ 3072) (hi : i + 5 < L) (h : q_135 xs L d (jc xs (i + 1)) (jc xs (i + 2)) J K (fun r J1 K1 => q_258 xs L d (jc xs (i + 1)) (jc xs (i + 2)) J1 K1 (fun r2 J2 K2 => r = r2 ∧ jm_W xs L d 283 1980 (jl (i : Int)) [] (jz_H J2 K2) P))) : jm_W xs L d 283 1429 (jl (i : Int)) [] (jz_H J K) P := by
  refine jw_aload_n rfl rfl ?_
  refine jl_arg (k := 1) hL rfl (by omega) rfl rfl rfl rfl rfl ?_
  refine jl_arg (k := 2) hL rfl (by omega) rfl rfl rfl rfl rfl ?_
  refine jw_virt (k := 2) (c := 18) (as := [.int (Int32.ofInt (jc xs (i + 1))), .int (Int32.ofInt (jc xs (i + 2)))]) rfl rfl rfl (Nat.le_of_ble_eq_true rfl) rfl (Nat.le_of_ble_eq_true rfl) rfl rfl (jz_ci ?_)
  refine jm_Q.mono h (jp_i_mono (fun r1 J1 K1 h => ?_))
  refine jw_aload_n rfl rfl ?_
  refine jl_arg (k := 1) hL rfl (by omega) rfl rfl rfl rfl rfl ?_
  refine jl_arg (k := 2) hL rfl (by omega) rfl rfl rfl rfl rfl ?_
  refine jw_virt (k := 2) (c := 19) (as := [.int (Int32.ofInt (jc xs (i + 1))), .int (Int32.ofInt (jc xs (i + 2)))]) rfl rfl rfl (Nat.le_of_ble_eq_true rfl) rfl (Nat.le_of_ble_eq_true rfl) rfl rfl (jz_ci ?_)
  refine jm_Q.mono h (jp_i_mono (fun r2 J2 K2 h => ?_))
  obtain ⟨e, h⟩ := h
  subst e
  exact jw_ic_same rfl h
theorem k_37 (hL : L ≤ 3072) (hi : i + 5 < L) (h : q_136 xs L d (jc xs (i + 1)) (jc xs (i + 2)) (jc xs (i + 3)) J K (fun r J1 K1 => q_259 xs L d (jc xs (i + 1)) (jc xs (i + 2)) (jc xs (i + 3)) J1 K1 (fun r2 J2 K2 => r = r2 ∧ jm_W xs L d 283 1980 (jl (i : Int)) [] (jz_H J2 K2) P))) : jm_W xs L d 283 1462 (jl (i : Int)) [] (jz_H J K) P := by
  refine jw_aload_n rfl rfl ?_
  refine jl_arg (k := 1) hL rfl (by omega) rfl rfl rfl rfl rfl ?_
  refine jl_arg (k := 2) hL rfl (by omega) rfl rfl rfl rfl rfl ?_
  refine jl_arg (k := 3) hL rfl (by omega) rfl rfl rfl rfl rfl ?_
  refine jw_virt (k := 3) (c := 18) (as := [.int (Int32.ofInt (jc xs (i + 1))), .int (Int32.ofInt (jc xs (i + 2))), .int (Int32.ofInt (jc xs (i + 3)))]) rfl rfl rfl (Nat.le_of_ble_eq_true rfl) rfl (Nat.le_of_ble_eq_true rfl) rfl rfl (jz_ci ?_)
  refine jm_Q.mono h (jp_i_mono (fun r1 J1 K1 h => ?_))
  refine jw_aload_n rfl rfl ?_
  refine jl_arg (k := 1) hL rfl (by omega) rfl rfl rfl rfl rfl ?_
  refine jl_arg (k := 2) hL rfl (by omega) rfl rfl rfl rfl rfl ?_
  refine jl_arg (k := 3) hL rfl (by omega) rfl rfl rfl rfl rfl ?_
  refine jw_virt (k := 3) (c := 19) (as := [.int (Int32.ofInt (jc xs (i + 1))), .int (Int32.ofInt (jc xs (i + 2))), .int (Int32.ofInt (jc xs (i + 3)))]) rfl rfl rfl (Nat.le_of_ble_eq_true rfl) rfl (Nat.le_of_ble_eq_true rfl) rfl rfl (jz_ci ?_)
  refine jm_Q.mono h (jp_i_mono (fun r2 J2 K2 h => ?_))
  obtain ⟨e, h⟩ := h
  subst e
  exact jw_ic_same rfl h
theorem k_38 (hL : L ≤ 3072) (hi : i + 5 < L) (h : q_138 xs L d (jc xs (i + 1)) (jc xs (i + 2)) J K (fun r J1 K1 => q_261 xs L d (jc xs (i + 1)) (jc xs (i + 2)) J1 K1 (fun r2 J2 K2 => r = r2 ∧ jm_W xs L d 283 1980 (jl (i : Int)) [] (jz_H J2 K2) P))) : jm_W xs L d 283 1505 (jl (i : Int)) [] (jz_H J K) P := by
  refine jw_aload_n rfl rfl ?_
  refine jl_arg (k := 1) hL rfl (by omega) rfl rfl rfl rfl rfl ?_
  refine jl_arg (k := 2) hL rfl (by omega) rfl rfl rfl rfl rfl ?_
  refine jw_virt (k := 2) (c := 18) (as := [.int (Int32.ofInt (jc xs (i + 1))), .int (Int32.ofInt (jc xs (i + 2)))]) rfl rfl rfl (Nat.le_of_ble_eq_true rfl) rfl (Nat.le_of_ble_eq_true rfl) rfl rfl (jz_ci ?_)
  refine jm_Q.mono h (jp_i_mono (fun r1 J1 K1 h => ?_))
  refine jw_aload_n rfl rfl ?_
  refine jl_arg (k := 1) hL rfl (by omega) rfl rfl rfl rfl rfl ?_
  refine jl_arg (k := 2) hL rfl (by omega) rfl rfl rfl rfl rfl ?_
  refine jw_virt (k := 2) (c := 19) (as := [.int (Int32.ofInt (jc xs (i + 1))), .int (Int32.ofInt (jc xs (i + 2)))]) rfl rfl rfl (Nat.le_of_ble_eq_true rfl) rfl (Nat.le_of_ble_eq_true rfl) rfl rfl (jz_ci ?_)
  refine jm_Q.mono h (jp_i_mono (fun r2 J2 K2 h => ?_))
  obtain ⟨e, h⟩ := h
  subst e
  exact jw_ic_same rfl h
theorem k_39 (hL : L ≤ 3072) (hi : i + 5 < L) (h : q_140 xs L d (jc xs (i + 1)) J K (fun r J1 K1 => q_263 xs L d (jc xs (i + 1)) J1 K1 (fun r2 J2 K2 => r = r2 ∧ jm_W xs L d 283 1980 (jl (i : Int)) [] (jz_H J2 K2) P))) : jm_W xs L d 283 1538 (jl (i : Int)) [] (jz_H J K) P := by
  refine jw_aload_n rfl rfl ?_
  refine jl_arg (k := 1) hL rfl (by omega) rfl rfl rfl rfl rfl ?_
  refine jw_virt (k := 1) (c := 18) (as := [.int (Int32.ofInt (jc xs (i + 1)))]) rfl rfl rfl (Nat.le_of_ble_eq_true rfl) rfl (Nat.le_of_ble_eq_true rfl) rfl rfl (jz_ci ?_)
  refine jm_Q.mono h (jp_i_mono (fun r1 J1 K1 h => ?_))
  refine jw_aload_n rfl rfl ?_
  refine jl_arg (k := 1) hL rfl (by omega) rfl rfl rfl rfl rfl ?_
  refine jw_virt (k := 1) (c := 19) (as := [.int (Int32.ofInt (jc xs (i + 1)))]) rfl rfl rfl (Nat.le_of_ble_eq_true rfl) rfl (Nat.le_of_ble_eq_true rfl) rfl rfl (jz_ci ?_)
  refine jm_Q.mono h (jp_i_mono (fun r2 J2 K2 h => ?_))
  obtain ⟨e, h⟩ := h
  subst e
  exact jw_ic_same rfl h
theorem k_40 (hL : L ≤ 3072) (hi : i + 5 < L) (h : q_141 xs L d (jc xs (i + 1)) J K (fun r J1 K1 => q_264 xs L d (jc xs (i + 1)) J1 K1 (fun r2 J2 K2 => r = r2 ∧ jm_W xs L d 283 1980 (jl (i : Int)) [] (jz_H J2 K2) P))) : jm_W xs L d 283 1561 (jl (i : Int)) [] (jz_H J K) P := by
  refine jw_aload_n rfl rfl ?_
  refine jl_arg (k := 1) hL rfl (by omega) rfl rfl rfl rfl rfl ?_
  refine jw_virt (k := 1) (c := 18) (as := [.int (Int32.ofInt (jc xs (i + 1)))]) rfl rfl rfl (Nat.le_of_ble_eq_true rfl) rfl (Nat.le_of_ble_eq_true rfl) rfl rfl (jz_ci ?_)
  refine jm_Q.mono h (jp_i_mono (fun r1 J1 K1 h => ?_))
  refine jw_aload_n rfl rfl ?_
  refine jl_arg (k := 1) hL rfl (by omega) rfl rfl rfl rfl rfl ?_
  refine jw_virt (k := 1) (c := 19) (as := [.int (Int32.ofInt (jc xs (i + 1)))]) rfl rfl rfl (Nat.le_of_ble_eq_true rfl) rfl (Nat.le_of_ble_eq_true rfl) rfl rfl (jz_ci ?_)
  refine jm_Q.mono h (jp_i_mono (fun r2 J2 K2 h => ?_))
  obtain ⟨e, h⟩ := h
  subst e
  exact jw_ic_same rfl h
theorem k_41 (hL : L ≤ 3072) (hi : i + 5 < L) (h : q_142 xs L d (jc xs (i + 1)) (jc xs (i + 2)) J K (fun r J1 K1 => q_266 xs L d (jc xs (i + 1)) (jc xs (i + 2)) J1 K1 (fun r2 J2 K2 => r = r2 ∧ jm_W xs L d 283 1980 (jl (i : Int)) [] (jz_H J2 K2) P))) : jm_W xs L d 283 1584 (jl (i : Int)) [] (jz_H J K) P := by
  refine jw_aload_n rfl rfl ?_
  refine jl_arg (k := 1) hL rfl (by omega) rfl rfl rfl rfl rfl ?_
  refine jl_arg (k := 2) hL rfl (by omega) rfl rfl rfl rfl rfl ?_
  refine jw_virt (k := 2) (c := 18) (as := [.int (Int32.ofInt (jc xs (i + 1))), .int (Int32.ofInt (jc xs (i + 2)))]) rfl rfl rfl (Nat.le_of_ble_eq_true rfl) rfl (Nat.le_of_ble_eq_true rfl) rfl rfl (jz_ci ?_)
  refine jm_Q.mono h (jp_i_mono (fun r1 J1 K1 h => ?_))
  refine jw_aload_n rfl rfl ?_
  refine jl_arg (k := 1) hL rfl (by omega) rfl rfl rfl rfl rfl ?_
  refine jl_arg (k := 2) hL rfl (by omega) rfl rfl rfl rfl rfl ?_
  refine jw_virt (k := 2) (c := 19) (as := [.int (Int32.ofInt (jc xs (i + 1))), .int (Int32.ofInt (jc xs (i + 2)))]) rfl rfl rfl (Nat.le_of_ble_eq_true rfl) rfl (Nat.le_of_ble_eq_true rfl) rfl rfl (jz_ci ?_)
  refine jm_Q.mono h (jp_i_mono (fun r2 J2 K2 h => ?_))
  obtain ⟨e, h⟩ := h
  subst e
  exact jw_ic_same rfl h
theorem k_42 (hL : L ≤ 3072) (hi : i + 5 < L) (h : q_144 xs L d (jc xs (i + 1)) (jc xs (i + 2)) (jc xs (i + 3)) J K (fun r J1 K1 => q_267 xs L d (jc xs (i + 1)) (jc xs (i + 2)) (jc xs (i + 3)) J1 K1 (fun r2 J2 K2 => r = r2 ∧ jm_W xs L d 283 1980 (jl (i : Int)) [] (jz_H J2 K2) P))) : jm_W xs L d 283 1617 (jl (i : Int)) [] (jz_H J K) P := by
  refine jw_aload_n rfl rfl ?_
  refine jl_arg (k := 1) hL rfl (by omega) rfl rfl rfl rfl rfl ?_
  refine jl_arg (k := 2) hL rfl (by omega) rfl rfl rfl rfl rfl ?_
  refine jl_arg (k := 3) hL rfl (by omega) rfl rfl rfl rfl rfl ?_
  refine jw_virt (k := 3) (c := 18) (as := [.int (Int32.ofInt (jc xs (i + 1))), .int (Int32.ofInt (jc xs (i + 2))), .int (Int32.ofInt (jc xs (i + 3)))]) rfl rfl rfl (Nat.le_of_ble_eq_true rfl) rfl (Nat.le_of_ble_eq_true rfl) rfl rfl (jz_ci ?_)
  refine jm_Q.mono h (jp_i_mono (fun r1 J1 K1 h => ?_))
  refine jw_aload_n rfl rfl ?_
  refine jl_arg (k := 1) hL rfl (by omega) rfl rfl rfl rfl rfl ?_
  refine jl_arg (k := 2) hL rfl (by omega) rfl rfl rfl rfl rfl ?_
  refine jl_arg (k := 3) hL rfl (by omega) rfl rfl rfl rfl rfl ?_
  refine jw_virt (k := 3) (c := 19) (as := [.int (Int32.ofInt (jc xs (i + 1))), .int (Int32.ofInt (jc xs (i + 2))), .int (Int32.ofInt (jc xs (i + 3)))]) rfl rfl rfl (Nat.le_of_ble_eq_true rfl) rfl (Nat.le_of_ble_eq_true rfl) rfl rfl (jz_ci ?_)
  refine jm_Q.mono h (jp_i_mono (fun r2 J2 K2 h => ?_))
  obtain ⟨e, h⟩ := h
  subst e
  exact jw_ic_same rfl h
theorem k_43 (hL : L ≤ 3072) (hi : i + 5 < L) (h : q_146 xs L d (jc xs (i + 1)) (jc xs (i + 2)) J K (fun r J1 K1 => q_269 xs L d (jc xs (i + 1)) (jc xs (i + 2)) J1 K1 (fun r2 J2 K2 => r = r2 ∧ jm_W xs L d 283 1980 (jl (i : Int)) [] (jz_H J2 K2) P))) : jm_W xs L d 283 1660 (jl (i : Int)) [] (jz_H J K) P := by
  refine jw_aload_n rfl rfl ?_
  refine jl_arg (k := 1) hL rfl (by omega) rfl rfl rfl rfl rfl ?_
  refine jl_arg (k := 2) hL rfl (by omega) rfl rfl rfl rfl rfl ?_
  refine jw_virt (k := 2) (c := 18) (as := [.int (Int32.ofInt (jc xs (i + 1))), .int (Int32.ofInt (jc xs (i + 2)))]) rfl rfl rfl (Nat.le_of_ble_eq_true rfl) rfl (Nat.le_of_ble_eq_true rfl) rfl rfl (jz_ci ?_)
  refine jm_Q.mono h (jp_i_mono (fun r1 J1 K1 h => ?_))
  refine jw_aload_n rfl rfl ?_
  refine jl_arg (k := 1) hL rfl (by omega) rfl rfl rfl rfl rfl ?_
  refine jl_arg (k := 2) hL rfl (by omega) rfl rfl rfl rfl rfl ?_
  refine jw_virt (k := 2) (c := 19) (as := [.int (Int32.ofInt (jc xs (i + 1))), .int (Int32.ofInt (jc xs (i + 2)))]) rfl rfl rfl (Nat.le_of_ble_eq_true rfl) rfl (Nat.le_of_ble_eq_true rfl) rfl rfl (jz_ci ?_)
  refine jm_Q.mono h (jp_i_mono (fun r2 J2 K2 h => ?_))
  obtain ⟨e, h⟩ := h
  subst e
  exact jw_ic_same rfl h
theorem k_44 (hL : L ≤ 3072) (hi : i + 5 < L) (h : q_147 xs L d (jc xs (i + 1)) (jc xs (i + 2)) (jc xs (i + 3)) (jc xs (i + 4)) J K (fun r J1 K1 => q_270 xs L d (jc xs (i + 1)) (jc xs (i + 2)) (jc xs (i + 3)) (jc xs (i + 4)) J1 K1 (fun r2 J2 K2 => r = r2 ∧ jm_W xs L d 283 1980 (jl (i : Int)) [] (jz_H J2 K2) P))) : jm_W xs L d 283 1693 (jl (i : Int)) [] (jz_H J K) P := by
  refine jw_aload_n rfl rfl ?_
  refine jl_arg (k := 1) hL rfl (by omega) rfl rfl rfl rfl rfl ?_
  refine jl_arg (k := 2) hL rfl (by omega) rfl rfl rfl rfl rfl ?_
  refine jl_arg (k := 3) hL rfl (by omega) rfl rfl rfl rfl rfl ?_
  refine jl_arg (k := 4) hL rfl (by omega) rfl rfl rfl rfl rfl ?_
  refine jw_virt (k := 4) (c := 18) (as := [.int (Int32.ofInt (jc xs (i + 1))), .int (Int32.ofInt (jc xs (i + 2))), .int (Int32.ofInt (jc xs (i + 3))), .int (Int32.ofInt (jc xs (i + 4)))]) rfl rfl rfl (Nat.le_of_ble_eq_true rfl) rfl (Nat.le_of_ble_eq_true rfl) rfl rfl (jz_ci ?_)
  refine jm_Q.mono h (jp_i_mono (fun r1 J1 K1 h => ?_))
  refine jw_aload_n rfl rfl ?_
  refine jl_arg (k := 1) hL rfl (by omega) rfl rfl rfl rfl rfl ?_
  refine jl_arg (k := 2) hL rfl (by omega) rfl rfl rfl rfl rfl ?_
  refine jl_arg (k := 3) hL rfl (by omega) rfl rfl rfl rfl rfl ?_
  refine jl_arg (k := 4) hL rfl (by omega) rfl rfl rfl rfl rfl ?_
  refine jw_virt (k := 4) (c := 19) (as := [.int (Int32.ofInt (jc xs (i + 1))), .int (Int32.ofInt (jc xs (i + 2))), .int (Int32.ofInt (jc xs (i + 3))), .int (Int32.ofInt (jc xs (i + 4)))]) rfl rfl rfl (Nat.le_of_ble_eq_true rfl) rfl (Nat.le_of_ble_eq_true rfl) rfl rfl (jz_ci ?_)
  refine jm_Q.mono h (jp_i_mono (fun r2 J2 K2 h => ?_))
  obtain ⟨e, h⟩ := h
  subst e
  exact jw_ic_same rfl h
theorem k_45 (hL : L ≤ 3072) (hi : i + 5 < L) (h : q_149 xs L d (jc xs (i + 1)) (jc xs (i + 2)) (jc xs (i + 3)) J K (fun r J1 K1 => q_272 xs L d (jc xs (i + 1)) (jc xs (i + 2)) (jc xs (i + 3)) J1 K1 (fun r2 J2 K2 => r = r2 ∧ jm_W xs L d 283 1980 (jl (i : Int)) [] (jz_H J2 K2) P))) : jm_W xs L d 283 1746 (jl (i : Int)) [] (jz_H J K) P := by
  refine jw_aload_n rfl rfl ?_
  refine jl_arg (k := 1) hL rfl (by omega) rfl rfl rfl rfl rfl ?_
  refine jl_arg (k := 2) hL rfl (by omega) rfl rfl rfl rfl rfl ?_
  refine jl_arg (k := 3) hL rfl (by omega) rfl rfl rfl rfl rfl ?_
  refine jw_virt (k := 3) (c := 18) (as := [.int (Int32.ofInt (jc xs (i + 1))), .int (Int32.ofInt (jc xs (i + 2))), .int (Int32.ofInt (jc xs (i + 3)))]) rfl rfl rfl (Nat.le_of_ble_eq_true rfl) rfl (Nat.le_of_ble_eq_true rfl) rfl rfl (jz_ci ?_)
  refine jm_Q.mono h (jp_i_mono (fun r1 J1 K1 h => ?_))
  refine jw_aload_n rfl rfl ?_
  refine jl_arg (k := 1) hL rfl (by omega) rfl rfl rfl rfl rfl ?_
  refine jl_arg (k := 2) hL rfl (by omega) rfl rfl rfl rfl rfl ?_
  refine jl_arg (k := 3) hL rfl (by omega) rfl rfl rfl rfl rfl ?_
  refine jw_virt (k := 3) (c := 19) (as := [.int (Int32.ofInt (jc xs (i + 1))), .int (Int32.ofInt (jc xs (i + 2))), .int (Int32.ofInt (jc xs (i + 3)))]) rfl rfl rfl (Nat.le_of_ble_eq_true rfl) rfl (Nat.le_of_ble_eq_true rfl) rfl rfl (jz_ci ?_)
  refine jm_Q.mono h (jp_i_mono (fun r2 J2 K2 h => ?_))
  obtain ⟨e, h⟩ := h
  subst e
  exact jw_ic_same rfl h
theorem k_46 (hL : L ≤ 3072) (hi : i + 5 < L) (h : q_150 xs L d (jc xs (i + 1)) (jc xs (i + 2)) (jc xs (i + 3)) J K (fun r J1 K1 => q_273 xs L d (jc xs (i + 1)) (jc xs (i + 2)) (jc xs (i + 3)) J1 K1 (fun r2 J2 K2 => r = r2 ∧ jm_W xs L d 283 1980 (jl (i : Int)) [] (jz_H J2 K2) P))) : jm_W xs L d 283 1789 (jl (i : Int)) [] (jz_H J K) P := by
  refine jw_aload_n rfl rfl ?_
  refine jl_arg (k := 1) hL rfl (by omega) rfl rfl rfl rfl rfl ?_
  refine jl_arg (k := 2) hL rfl (by omega) rfl rfl rfl rfl rfl ?_
  refine jl_arg (k := 3) hL rfl (by omega) rfl rfl rfl rfl rfl ?_
  refine jw_virt (k := 3) (c := 18) (as := [.int (Int32.ofInt (jc xs (i + 1))), .int (Int32.ofInt (jc xs (i + 2))), .int (Int32.ofInt (jc xs (i + 3)))]) rfl rfl rfl (Nat.le_of_ble_eq_true rfl) rfl (Nat.le_of_ble_eq_true rfl) rfl rfl (jz_ci ?_)
  refine jm_Q.mono h (jp_i_mono (fun r1 J1 K1 h => ?_))
  refine jw_aload_n rfl rfl ?_
  refine jl_arg (k := 1) hL rfl (by omega) rfl rfl rfl rfl rfl ?_
  refine jl_arg (k := 2) hL rfl (by omega) rfl rfl rfl rfl rfl ?_
  refine jl_arg (k := 3) hL rfl (by omega) rfl rfl rfl rfl rfl ?_
  refine jw_virt (k := 3) (c := 19) (as := [.int (Int32.ofInt (jc xs (i + 1))), .int (Int32.ofInt (jc xs (i + 2))), .int (Int32.ofInt (jc xs (i + 3)))]) rfl rfl rfl (Nat.le_of_ble_eq_true rfl) rfl (Nat.le_of_ble_eq_true rfl) rfl rfl (jz_ci ?_)
  refine jm_Q.mono h (jp_i_mono (fun r2 J2 K2 h => ?_))
  obtain ⟨e, h⟩ := h
  subst e
  exact jw_ic_same rfl h
theorem k_47 (hL : L ≤ 3072) (hi : i + 5 < L) (h : q_151 xs L d (jc xs (i + 1)) (jc xs (i + 2)) (jc xs (i + 3)) (jc xs (i + 4)) J K (fun r J1 K1 => q_274 xs L d (jc xs (i + 1)) (jc xs (i + 2)) (jc xs (i + 3)) (jc xs (i + 4)) J1 K1 (fun r2 J2 K2 => r = r2 ∧ jm_W xs L d 283 1980 (jl (i : Int)) [] (jz_H J2 K2) P))) : jm_W xs L d 283 1832 (jl (i : Int)) [] (jz_H J K) P := by
  refine jw_aload_n rfl rfl ?_
  refine jl_arg (k := 1) hL rfl (by omega) rfl rfl rfl rfl rfl ?_
  refine jl_arg (k := 2) hL rfl (by omega) rfl rfl rfl rfl rfl ?_
  refine jl_arg (k := 3) hL rfl (by omega) rfl rfl rfl rfl rfl ?_
  refine jl_arg (k := 4) hL rfl (by omega) rfl rfl rfl rfl rfl ?_
  refine jw_virt (k := 4) (c := 18) (as := [.int (Int32.ofInt (jc xs (i + 1))), .int (Int32.ofInt (jc xs (i + 2))), .int (Int32.ofInt (jc xs (i + 3))), .int (Int32.ofInt (jc xs (i + 4)))]) rfl rfl rfl (Nat.le_of_ble_eq_true rfl) rfl (Nat.le_of_ble_eq_true rfl) rfl rfl (jz_ci ?_)
  refine jm_Q.mono h (jp_i_mono (fun r1 J1 K1 h => ?_))
  refine jw_aload_n rfl rfl ?_
  refine jl_arg (k := 1) hL rfl (by omega) rfl rfl rfl rfl rfl ?_
  refine jl_arg (k := 2) hL rfl (by omega) rfl rfl rfl rfl rfl ?_
  refine jl_arg (k := 3) hL rfl (by omega) rfl rfl rfl rfl rfl ?_
  refine jl_arg (k := 4) hL rfl (by omega) rfl rfl rfl rfl rfl ?_
  refine jw_virt (k := 4) (c := 19) (as := [.int (Int32.ofInt (jc xs (i + 1))), .int (Int32.ofInt (jc xs (i + 2))), .int (Int32.ofInt (jc xs (i + 3))), .int (Int32.ofInt (jc xs (i + 4)))]) rfl rfl rfl (Nat.le_of_ble_eq_true rfl) rfl (Nat.le_of_ble_eq_true rfl) rfl rfl (jz_ci ?_)
  refine jm_Q.mono h (jp_i_mono (fun r2 J2 K2 h => ?_))
  obtain ⟨e, h⟩ := h
  subst e
  exact jw_ic_same rfl h
theorem k_48 (hL : L ≤ 3072) (hi : i + 5 < L) (h : q_153 xs L d (jc xs (i + 1)) J K (fun r J1 K1 => q_275 xs L d (jc xs (i + 1)) J1 K1 (fun r2 J2 K2 => r = r2 ∧ jm_W xs L d 283 1980 (jl (i : Int)) [] (jz_H J2 K2) P))) : jm_W xs L d 283 1885 (jl (i : Int)) [] (jz_H J K) P := by
  refine jw_aload_n rfl rfl ?_
  refine jl_arg (k := 1) hL rfl (by omega) rfl rfl rfl rfl rfl ?_
  refine jw_virt (k := 1) (c := 18) (as := [.int (Int32.ofInt (jc xs (i + 1)))]) rfl rfl rfl (Nat.le_of_ble_eq_true rfl) rfl (Nat.le_of_ble_eq_true rfl) rfl rfl (jz_ci ?_)
  refine jm_Q.mono h (jp_i_mono (fun r1 J1 K1 h => ?_))
  refine jw_aload_n rfl rfl ?_
  refine jl_arg (k := 1) hL rfl (by omega) rfl rfl rfl rfl rfl ?_
  refine jw_virt (k := 1) (c := 19) (as := [.int (Int32.ofInt (jc xs (i + 1)))]) rfl rfl rfl (Nat.le_of_ble_eq_true rfl) rfl (Nat.le_of_ble_eq_true rfl) rfl rfl (jz_ci ?_)
  refine jm_Q.mono h (jp_i_mono (fun r2 J2 K2 h => ?_))
  obtain ⟨e, h⟩ := h
  subst e
  exact jw_ic_same rfl h
theorem k_49 (hL : L ≤ 3072) (hi : i + 5 < L) (h : q_156 xs L d (jc xs (i + 1)) J K (fun r J1 K1 => q_277 xs L d (jc xs (i + 1)) J1 K1 (fun r2 J2 K2 => r = r2 ∧ jm_W xs L d 283 1980 (jl (i : Int)) [] (jz_H J2 K2) P))) : jm_W xs L d 283 1908 (jl (i : Int)) [] (jz_H J K) P := by
  refine jw_aload_n rfl rfl ?_
  refine jl_arg (k := 1) hL rfl (by omega) rfl rfl rfl rfl rfl ?_
  refine jw_virt (k := 1) (c := 18) (as := [.int (Int32.ofInt (jc xs (i + 1)))]) rfl rfl rfl (Nat.le_of_ble_eq_true rfl) rfl (Nat.le_of_ble_eq_true rfl) rfl rfl (jz_ci ?_)
  refine jm_Q.mono h (jp_i_mono (fun r1 J1 K1 h => ?_))
  refine jw_aload_n rfl rfl ?_
  refine jl_arg (k := 1) hL rfl (by omega) rfl rfl rfl rfl rfl ?_
  refine jw_virt (k := 1) (c := 19) (as := [.int (Int32.ofInt (jc xs (i + 1)))]) rfl rfl rfl (Nat.le_of_ble_eq_true rfl) rfl (Nat.le_of_ble_eq_true rfl) rfl rfl (jz_ci ?_)
  refine jm_Q.mono h (jp_i_mono (fun r2 J2 K2 h => ?_))
  obtain ⟨e, h⟩ := h
  subst e
  exact jw_ic_same rfl h
theorem k_50 (hL : L ≤ 3072) (hi : i + 5 < L) (h : q_157 xs L d  J K (fun r J1 K1 => q_278 xs L d  J1 K1 (fun r2 J2 K2 => r = r2 ∧ jm_W xs L d 283 1980 (jl (i : Int)) [] (jz_H J2 K2) P))) : jm_W xs L d 283 1931 (jl (i : Int)) [] (jz_H J K) P := by
  refine jw_aload_n rfl rfl ?_
  refine jw_virt (k := 0) (c := 18) (as := []) rfl rfl rfl (Nat.le_of_ble_eq_true rfl) rfl (Nat.le_of_ble_eq_true rfl) rfl rfl (jz_ci ?_)
  refine jm_Q.mono h (jp_i_mono (fun r1 J1 K1 h => ?_))
  refine jw_aload_n rfl rfl ?_
  refine jw_virt (k := 0) (c := 19) (as := []) rfl rfl rfl (Nat.le_of_ble_eq_true rfl) rfl (Nat.le_of_ble_eq_true rfl) rfl rfl (jz_ci ?_)
  refine jm_Q.mono h (jp_i_mono (fun r2 J2 K2 h => ?_))
  obtain ⟨e, h⟩ := h
  subst e
  exact jw_ic_same rfl h
theorem k_51 (hL : L ≤ 3072) (hi : i + 5 < L) (h : q_161 xs L d  J K (fun r J1 K1 => q_280 xs L d  J1 K1 (fun r2 J2 K2 => r = r2 ∧ jm_W xs L d 283 1980 (jl (i : Int)) [] (jz_H J2 K2) P))) : jm_W xs L d 283 1944 (jl (i : Int)) [] (jz_H J K) P := by
  refine jw_aload_n rfl rfl ?_
  refine jw_virt (k := 0) (c := 18) (as := []) rfl rfl rfl (Nat.le_of_ble_eq_true rfl) rfl (Nat.le_of_ble_eq_true rfl) rfl rfl (jz_ci ?_)
  refine jm_Q.mono h (jp_i_mono (fun r1 J1 K1 h => ?_))
  refine jw_aload_n rfl rfl ?_
  refine jw_virt (k := 0) (c := 19) (as := []) rfl rfl rfl (Nat.le_of_ble_eq_true rfl) rfl (Nat.le_of_ble_eq_true rfl) rfl rfl (jz_ci ?_)
  refine jm_Q.mono h (jp_i_mono (fun r2 J2 K2 h => ?_))
  obtain ⟨e, h⟩ := h
  subst e
  exact jw_ic_same rfl h
theorem k_52 (hL : L ≤ 3072) (hi : i + 5 < L) (h : q_162 xs L d (jc xs (i + 1)) J K (fun r J1 K1 => q_281 xs L d (jc xs (i + 1)) J1 K1 (fun r2 J2 K2 => r = r2 ∧ jm_W xs L d 283 1980 (jl (i : Int)) [] (jz_H J2 K2) P))) : jm_W xs L d 283 1957 (jl (i : Int)) [] (jz_H J K) P := by
  refine jw_aload_n rfl rfl ?_
  refine jl_arg (k := 1) hL rfl (by omega) rfl rfl rfl rfl rfl ?_
  refine jw_virt (k := 1) (c := 18) (as := [.int (Int32.ofInt (jc xs (i + 1)))]) rfl rfl rfl (Nat.le_of_ble_eq_true rfl) rfl (Nat.le_of_ble_eq_true rfl) rfl rfl (jz_ci ?_)
  refine jm_Q.mono h (jp_i_mono (fun r1 J1 K1 h => ?_))
  refine jw_aload_n rfl rfl ?_
  refine jl_arg (k := 1) hL rfl (by omega) rfl rfl rfl rfl rfl ?_
  refine jw_virt (k := 1) (c := 19) (as := [.int (Int32.ofInt (jc xs (i + 1)))]) rfl rfl rfl (Nat.le_of_ble_eq_true rfl) rfl (Nat.le_of_ble_eq_true rfl) rfl rfl (jz_ci ?_)
  refine jm_Q.mono h (jp_i_mono (fun r2 J2 K2 h => ?_))
  obtain ⟨e, h⟩ := h
  subst e
  exact jw_ic_same rfl h
end LC
