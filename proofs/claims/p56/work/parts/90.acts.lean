/-! The law's acts, and its count of refusals. -/
theorem zf_an {x m : Int} (k M : Nat) (hM : 2 ^ k = M) (hm : (Int32.ofInt m).toBitVec.toNat = 2 ^ k - 1) (hk : k ≤ 30) : 0 ≤ jz_and x m ∧ jz_and x m < (M : Int) := by
  unfold jz_and
  rw [pk_and _ k hm]
  have h1 : (Int32.ofInt x).toBitVec.toNat % 2 ^ k < 2 ^ k := Nat.mod_lt _ (Nat.two_pow_pos k)
  have h2 : 2 ^ k ≤ 2 ^ 30 := Nat.pow_le_pow_right (by omega) hk
  rw [nI_toInt (by omega)]
  omega
theorem za_1 (x : Int) : 0 ≤ jz_and x 1 ∧ jz_and x 1 < 2 := zf_an 1 2 (by decide) (by decide) (by omega)
theorem za_3 (x : Int) : 0 ≤ jz_and x 3 ∧ jz_and x 3 < 4 := zf_an 2 4 (by decide) (by decide) (by omega)
theorem za_7 (x : Int) : 0 ≤ jz_and x 7 ∧ jz_and x 7 < 8 := zf_an 3 8 (by decide) (by decide) (by omega)
theorem za_15 (x : Int) : 0 ≤ jz_and x 15 ∧ jz_and x 15 < 16 := zf_an 4 16 (by decide) (by decide) (by omega)
theorem za_w (x : Int) : 0 ≤ jz_and x 65535 ∧ jz_and x 65535 < 65536 := zf_an 16 65536 (by decide) (by decide) (by omega)
theorem zm_7 (x : Int) : 0 ≤ jz_rem (jz_and x 7) 7 ∧ jz_rem (jz_and x 7) 7 < 7 := by
  have := za_7 x
  exact jz_rem_r (by omega) (by omega)
theorem zm_15 (x : Int) : 0 ≤ jz_rem (jz_and x 15) 7 ∧ jz_rem (jz_and x 15) 7 < 7 := by
  have := za_15 x
  exact jz_rem_r (by omega) (by omega)
theorem zm_3 (x : Int) : 0 ≤ jz_rem (jz_and x 3) 3 ∧ jz_rem (jz_and x 3) 3 < 3 := by
  have := za_3 x
  exact jz_rem_r (by omega) (by omega)
theorem zr_1 (x : Int) : -2147483648 ≤ 1 + jz_and x 1 ∧ 1 + jz_and x 1 < 2147483648 := by
  have := za_1 x
  omega
theorem zr_7 (x : Int) : -2147483648 ≤ 1 + jz_and x 7 ∧ 1 + jz_and x 7 < 2147483648 := by
  have := za_7 x
  omega
theorem zr_97 (x : Int) : -2147483648 ≤ 97 + jz_and x 3 ∧ 97 + jz_and x 3 < 2147483648 := by
  have := za_3 x
  omega
theorem zr_m7 (x : Int) : -2147483648 ≤ 2 + jz_rem (jz_and x 7) 7 ∧ 2 + jz_rem (jz_and x 7) 7 < 2147483648 := by
  have := zm_7 x
  omega
theorem zr_m3 (x : Int) : -2147483648 ≤ 1 + jz_rem (jz_and x 3) 3 ∧ 1 + jz_rem (jz_and x 3) 3 < 2147483648 := by
  have := zm_3 x
  omega
theorem zr_r3 (x : Int) : -2147483648 ≤ jz_rem (jz_and x 3) 3 ∧ jz_rem (jz_and x 3) 3 < 2147483648 := by
  have := zm_3 x
  omega
theorem zr_ch (x : Int) : -2147483648 ≤ jz_ch x ∧ jz_ch x < 2147483648 := by
  have := zf_ch x
  omega
section LA
variable {xs : Nat → Int32} {L d N : Nat} {J K : jZ} {y : zY}
theorem s_167 {v : Int} {P : Int → jZ → jZ → Prop} (hL : L < 2147483648) (hv : 0 ≤ v ∧ v < 60) (h : ∀ x, -2147483648 ≤ x ∧ x < 2147483648 → P x J K) : q_167 xs L (d + 2) v J K P :=
  e_167 hL ⟨by omega, fun q => ⟨jz_rem_r (za_w v) (by omega), h _ ⟨Int32.le_toInt _, Int32.toInt_lt _⟩⟩, fun q => h _ (by omega)⟩
set_option maxHeartbeats 4000000 in
theorem i_168 {v : Int} {P : jZ → jZ → Prop} (hL : L < 2147483648) (hv : 0 ≤ v ∧ v < 60) (h : Iy N y J K) (k : ∀ J' K' y', Iy (N + 4) y' J' K' → P J' K') : q_168 xs L (d + 8) v J K P := by
  have kk : ∀ J' K', Iy (N + 1) y J' K' → P J' K' := fun J' K' q => k J' K' y (Iy_le q (by omega))
  refine e_168 (s_167 hL hv (fun x hx => ?_))
  repeat' (refine And.intro (fun _ => ?_) (fun _ => ?_))
  · exact i_56 jz_and_r h (fun _ J1 K1 q => kk J1 K1 q)
  · exact i_56 jz_and_r h (fun _ J1 K1 q => kk J1 K1 q)
  · exact i_56 jz_and_r h (fun _ J1 K1 q => kk J1 K1 q)
  · exact i_60 (zr_1 _) h (fun _ J1 K1 q => kk J1 K1 q)
  · exact i_97 jz_and_r h (fun _ J1 K1 q => kk J1 K1 q)
  · exact i_102 (zr_m7 _) jz_and_r jz_and_r h (fun _ J1 K1 q => kk J1 K1 q)
  · exact i_102 (zr_m7 _) jz_and_r jz_and_r h (fun _ J1 K1 q => kk J1 K1 q)
  · exact i_104 (zr_r3 _) h (fun _ J1 K1 q => kk J1 K1 q)
  · exact i_105 jz_and_r (zr_7 _) h (fun _ J1 K1 q => kk J1 K1 q)
  · exact i_106 (zr_m3 _) jz_and_r jz_and_r jz_and_r h (fun _ J1 K1 q => kk J1 K1 q)
  · exact i_65 jz_and_r jz_and_r jz_and_r h (fun _ J1 K1 q => kk J1 K1 q)
  · exact i_63 jz_and_r jz_and_r h (fun _ J1 K1 q => kk J1 K1 q)
  · exact i_153 (zr_7 _) h (fun _ J1 K1 q => kk J1 K1 q)
  · exact i_66 (zr_97 _) (Iy_b h) (fun _ J1 K1 q1 => ⟨zm_15 _, i_66 (zr_ch _) q1 (fun _ J2 K2 q2 => i_66 (zr_97 _) q2 (fun _ J3 K3 q3 => i_76 q3 (fun _ J4 K4 q4 => k J4 K4 y q4)))⟩)
  · obtain ⟨T, s, A, H, R, c, r⟩ := h
    exact v_157 c (fun J1 c1 => k J1 _ _ ⟨T, s, A, H, R, c1, vR_le r (by omega)⟩)
  · exact i_107 h (fun _ J1 K1 q => kk J1 K1 q)
  · exact i_161 h (fun _ J1 K1 q => kk J1 K1 q)
/-- status, just -/
theorem v_162 {T : zT} {s : Int} {A : zA} {H : zH} {B : zB} {R : Nat → Int} {v : Int} {P : Int → jZ → jZ → Prop} (c : cV J K T s A H B R y) (hv : -2147483648 ≤ v ∧ v < 2147483648) (h : P (zq_sa T A H (B.1 : Int) s R v) J K) : q_162 xs L (d + 3) v J K P :=
  c_162 c.2.1 c.1.1 c.1.2.1 c.2.2.2.2.1 c.2.2.2.2.2.1.1 c.2.2.2.1 c.2.2.2.2.2.2.1 hv h
theorem sa_0 {T : zT} {A : zA} {H : zH} {t s : Int} {R : Nat → Int} : zq_sa T A H t s R 0 = (T.1 : Int) := by
  unfold zq_sa
  rw [if_pos rfl]
theorem sa_1 {T : zT} {A : zA} {H : zH} {t s : Int} {R : Nat → Int} : zq_sa T A H t s R 1 = zt_ct T 1 := by
  unfold zq_sa
  rw [if_neg (by omega), if_pos rfl]
theorem sa_2 {T : zT} {A : zA} {H : zH} {t s : Int} {R : Nat → Int} : zq_sa T A H t s R 2 = zt_ct T 2 := by
  unfold zq_sa
  rw [if_neg (by omega), if_neg (by omega), if_pos rfl]
theorem sa_3 {T : zT} {A : zA} {H : zH} {t s : Int} {R : Nat → Int} : zq_sa T A H t s R 3 = (A.1 : Int) := by
  unfold zq_sa
  rw [if_neg (by omega), if_neg (by omega), if_neg (by omega), if_pos rfl]
theorem sa_6 {T : zT} {A : zA} {H : zH} {t s : Int} {R : Nat → Int} : zq_sa T A H t s R 6 = t := by
  unfold zq_sa
  rw [if_neg (by omega), if_neg (by omega), if_neg (by omega), if_neg (by omega), if_neg (by omega), if_neg (by omega), if_pos rfl]
theorem sa_7 {T : zT} {A : zA} {H : zH} {t s : Int} {R : Nat → Int} : zq_sa T A H t s R 7 = s := by
  unfold zq_sa
  rw [if_neg (by omega), if_neg (by omega), if_neg (by omega), if_neg (by omega), if_neg (by omega), if_neg (by omega), if_neg (by omega), if_pos rfl]
theorem sa_r {T : zT} {A : zA} {H : zH} {t s : Int} {R : Nat → Int} {k : Nat} (hk : k < 5) : zq_sa T A H t s R (12 + (k : Int)) = R k := by
  unfold zq_sa
  rw [if_neg (by omega), if_neg (by omega), if_neg (by omega), if_neg (by omega), if_neg (by omega), if_neg (by omega), if_neg (by omega), if_neg (by omega), if_neg (by omega), if_pos (by omega)]
  congr 1
  omega
theorem s_169_5 {T : zT} {s : Int} {A : zA} {H : zH} {B : zB} {R : Nat → Int} {P : Int → jZ → jZ → Prop} (c : cV J K T s A H B R y) (h : P (zn R 5) J K) : ∀ (n k : Nat) (u : Int), k + n = 5 → u = zn R k → l_169_5 xs L (d + 3) u (12 + (k : Int)) J K P
  | n, k, u, hn, hu => by
    refine e_169_5 ⟨by omega, fun q => ?_, fun q => ?_⟩
    · obtain rfl : k = 5 := by omega
      rw [hu]
      exact h
    · match n, hn with
      | 0, hn => omega
      | n + 1, hn =>
        refine v_162 c (by omega) ?_
        rw [sa_r (by omega)]
        have := s_169_5 c h n (k + 1) (u + R k) (by omega) (by rw [hu]; rfl)
        rw [show (12 + ((k + 1 : Nat) : Int)) = 12 + (k : Int) + 1 by omega] at this
        exact this
theorem s_169 {T : zT} {s : Int} {A : zA} {H : zH} {B : zB} {R : Nat → Int} {P : Int → jZ → jZ → Prop} (c : cV J K T s A H B R y) (h : P (zn R 5) J K) : q_169 xs L (d + 4) J K P :=
  e_169 (s_169_5 c h 5 0 0 (by omega) rfl)
theorem zn_5 {R : Nat → Int} {M : Nat} (h : vR M R) : 0 ≤ zn R 5 ∧ zn R 5 ≤ 5 * M := by
  have h0 := h 0 (by omega)
  have h1 := h 1 (by omega)
  have h2 := h 2 (by omega)
  have h3 := h 3 (by omega)
  have h4 := h 4 (by omega)
  simp only [zn]
  omega
theorem zn_up {R : Nat → Int} : zn (R_up (R_up R 0) 0) 5 = zn R 5 + 2 := by
  have e0 : R_up (R_up R 0) 0 0 = R 0 + 1 + 1 := by
    unfold R_up
    rw [if_pos rfl, if_pos rfl]
  have e : ∀ k, k ≠ 0 → R_up (R_up R 0) 0 k = R k := fun k hk => by
    unfold R_up
    rw [if_neg hk, if_neg hk]
  simp only [zn]
  rw [e0, e 1 (by omega), e 2 (by omega), e 3 (by omega), e 4 (by omega)]
  omega
end LA
