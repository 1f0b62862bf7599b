/-! The law's loops. -/
section LL
variable {xs : Nat → Int32} {L d : Nat} {K : jZ} {P : Int → jZ → jZ → Prop} {T : zT} {s : Int} {A : zA} {H : zH} {R : Nat → Int} {y : zY}
/-- how many spans the first n asks have -/
noncomputable def zf_sm (T : zT) (A : zA) : Nat → Int := zn (fun a => ((zk_sem (-1) T A a).length : Int))
theorem zf_sm_r (h : ∀ a, a < A.1 → (zk_sem (-1) T A a).length ≤ 60) : ∀ n : Nat, n ≤ A.1 → 0 ≤ zf_sm T A n ∧ zf_sm T A n ≤ 60 * n
  | 0, _ => by
    show (0 : Int) ≤ 0 ∧ (0 : Int) ≤ 60 * ((0 : Nat) : Int)
    omega
  | n + 1, hn => by
    have ih := zf_sm_r h n (by omega)
    have b := h n (by omega)
    have e : zf_sm T A (n + 1) = zf_sm T A n + ((zk_sem (-1) T A n).length : Int) := rfl
    omega
theorem s_173_300 (hL : L < 2147483648) (h1 : ∀ J K, P 1 J K) : ∀ (n i : Nat) (J : jZ), i + n = A.1 → cV J K T s A H zB_0 R y → l_173_300 xs L (d + 8) (A.1 : Int) (zf_sm T A A.1 - zf_sm T A i) (i : Int) J K P
  | n, i, J, hn, c => by
    have h24 := cV_24 c
    refine e_173_300 hL ⟨by omega, by omega, fun q => ?_, fun q => ?_⟩
    · obtain rfl : i = A.1 := by omega
      exact ⟨by omega, fun q1 => absurd (show zf_sm T A A.1 - zf_sm T A A.1 = 0 by omega) q1, fun _ => h1 _ _⟩
    · match n, hn with
      | 0, hn => omega
      | n + 1, hn =>
        refine v_113 c (by omega) (fun J1 c1 => ?_)
        have := s_173_300 hL h1 n (i + 1) J1 (by omega) c1
        have e : zf_sm T A (i + 1) = zf_sm T A i + ((zk_sem (-1) T A i).length : Int) := rfl
        rw [e, show ((i + 1 : Nat) : Int) = (i : Int) + 1 by omega, show zf_sm T A A.1 - (zf_sm T A i + ((zk_sem (-1) T A i).length : Int)) = zf_sm T A A.1 - zf_sm T A i - ((zk_sem (-1) T A i).length : Int) by omega] at this
        exact this
theorem s_173_220 {N : Nat} (hL : L < 2147483648) (h1 : ∀ J K, P 1 J K) (hR : vR N R) : ∀ (n i : Nat) (J : jZ), i + n = A.1 → cV J K T s A H zB_0 R (some (T, s, A)) → l_173_220 xs L (d + 8) (A.1 : Int) (T.1 : Int) s (zf_sm T A i) (i : Int) J K P
  | n, i, J, hn, c => by
    have h24 := cV_24 c
    have t60 := c.2.1.1.1
    refine e_173_220 hL ⟨by omega, by omega, fun q => ?_, fun q => ?_⟩
    · obtain rfl : i = A.1 := by omega
      refine i_153 (N := N) (y := some (T, s, A)) (by omega) ⟨T, s, A, H, R, c, hR⟩ (fun r6 J4 K5 q4 => i_107 q4 (fun r9 J7 K8 q7 => ?_))
      obtain ⟨T', s', A', H', R', c', -⟩ := q7
      refine v_161 c' (fun J9 H9 c9 => ?_)
      have c9 : cV J9 K8 T s A H9 zB_0 R' (some (T, s, A)) := c9
      refine ⟨by omega, fun q1 => absurd rfl q1, fun _ => v_162 c9 (by omega) ?_⟩
      rw [sa_0]
      refine ⟨by omega, by omega, fun q1 => absurd rfl q1, fun _ => v_162 c9 (by omega) ?_⟩
      rw [sa_3]
      refine ⟨by omega, fun q1 => absurd rfl q1, fun _ => v_162 c9 (by omega) ?_⟩
      rw [sa_7]
      refine ⟨rfl, ?_⟩
      have := s_173_300 (xs := xs) (d := d) hL h1 A.1 0 J9 (by omega) c9
      have e : zf_sm T A 0 = 0 := rfl
      rw [e, show zf_sm T A A.1 - 0 = zf_sm T A A.1 by omega] at this
      exact this
    · match n, hn with
      | 0, hn => omega
      | n + 1, hn =>
        refine v_113 c (by omega) (fun J1 c1 => ?_)
        have := s_173_220 hL h1 hR n (i + 1) J1 (by omega) c1
        have e : zf_sm T A (i + 1) = zf_sm T A i + ((zk_sem (-1) T A i).length : Int) := rfl
        rw [e, show ((i + 1 : Nat) : Int) = (i : Int) + 1 by omega] at this
        exact this
end LL
section LM
variable {xs : Nat → Int32} {L d : Nat} {P : Int → jZ → jZ → Prop} {T : zT} {s : Int} {A : zA} {R : Nat → Int} {y : zY}
theorem s_173_156 {N : Nat} (hL : L < 2147483648) (h1 : ∀ J K, P 1 J K) (hR : vR N R) : ∀ (n i : Nat) (J K : jZ) (H : zH), i + n = A.1 → cV J K T s A H zB_0 R y → l_173_156 xs L (d + 8) (A.1 : Int) (i : Int) J K P
  | n, i, J, K, H, hn, c => by
    have h24 := cV_24 c
    refine e_173_156 hL ⟨by omega, by omega, fun q => ?_, fun q => ?_⟩
    · refine v_162 c (by omega) ?_
      rw [sa_0]
      refine v_162 c (by omega) ?_
      rw [sa_7]
      refine v_157 c (fun J1 c1 => ⟨by omega, fun _ => ?_, fun q1 => absurd rfl q1⟩)
      exact s_173_220 (xs := xs) (d := d) hL h1 hR A.1 0 J1 (by omega) c1
    · match n, hn with
      | 0, hn => omega
      | n + 1, hn =>
        have hi : i < A.1 := by omega
        refine s_170 c hi (fun J1 K1 H1 c1 => ⟨by omega, fun q1 => absurd q1 (by omega), fun _ => s_171 c1 hi (fun J2 c2 => ⟨by omega, fun _ => ?_, fun q1 => absurd q1 (by omega)⟩)⟩)
        have := s_173_156 hL h1 hR n (i + 1) J2 K1 H1 (by omega) c2
        rw [show ((i + 1 : Nat) : Int) = (i : Int) + 1 by omega] at this
        exact this
theorem s_173_25 (hL : L < 2147483648) (h1 : ∀ J K, P 1 J K) {M : Nat} (hM : M ≤ 60) : ∀ (n i : Nat) (y : zY) (J K : jZ), i + n = M → Iy (4 * i) y J K → l_173_25 xs L (d + 8) (M : Int) (i : Int) J K P
  | n, i, y, J, K, hn, h => by
    refine e_173_25 hL ⟨by omega, by omega, fun q => ?_, fun q => ?_⟩
    · obtain ⟨T, s, A, H, R, c, r⟩ := h
      have h24 := cV_24 c
      have z := zn_5 r
      refine s_169 c (c_111 c.2.1 (by omega) (by omega) (fun _ => ⟨by omega, fun q1 => absurd rfl q1, fun _ => ?_⟩) (fun w => absurd w (by omega)))
      have c1 := cV_r (j := 0) c (by omega)
      refine c_113 c1.2.1 (by omega) (fun _ => ⟨by omega, fun q1 => absurd rfl q1, fun _ => ?_⟩) (fun w => absurd w (by omega))
      have c2 := cV_r (j := 0) c1 (by omega)
      refine s_169 c2 ?_
      rw [zn_up]
      refine ⟨by omega, by omega, fun _ => v_162 c2 (by omega) ?_, fun q1 => absurd rfl q1⟩
      rw [sa_3]
      exact s_173_156 (xs := xs) (d := d) hL h1 (vR_up (j := 0) (vR_up (j := 0) r)) A.1 0 _ _ H (by omega) c2
    · match n, hn with
      | 0, hn => omega
      | n + 1, hn =>
        refine i_168 hL (by omega) h (fun J1 K1 y1 h1' => ?_)
        have h2 := h1'
        obtain ⟨T, s, A, H, R, c, r⟩ := h1'
        have h24 := cV_24 c
        have t60 := c.2.1.1.1
        have ct1 := zt_ct_r c.2.1.1 1
        have ct2 := zt_ct_r c.2.1.1 2
        have ct := zf_ct (T := T)
        have z0 : ((zB_0.1 : Nat) : Int) = 0 := rfl
        refine v_162 c (by omega) ?_
        rw [sa_0]
        refine ⟨by omega, fun q1 => absurd q1 (by omega), fun _ => v_162 c (by omega) ?_⟩
        rw [sa_0]
        refine ⟨by omega, fun q1 => absurd q1 (by omega), fun _ => v_162 c (by omega) ?_⟩
        rw [sa_3]
        refine ⟨by omega, fun q1 => absurd q1 (by omega), fun _ => v_162 c (by omega) ?_⟩
        rw [sa_6, z0]
        refine ⟨by omega, fun q1 => absurd rfl q1, fun _ => v_162 c (by omega) ?_⟩
        rw [sa_2]
        refine v_162 c (by omega) ?_
        rw [sa_1]
        refine ⟨by omega, by omega, fun q1 => absurd q1 (by omega), fun _ => v_162 c (by omega) ?_⟩
        rw [sa_1]
        refine v_162 c (by omega) ?_
        rw [sa_0]
        refine ⟨by omega, by omega, fun _ => ?_, fun q1 => absurd q1 (by omega)⟩
        have := s_173_25 hL h1 hM n (i + 1) y1 J1 K1 (by omega) (by rw [show 4 * (i + 1) = 4 * i + 4 by omega]; exact h2)
        rw [show ((i + 1 : Nat) : Int) = (i : Int) + 1 by omega] at this
        exact this
theorem s_173 {J K : jZ} (hL : L < 2147483648) (h1 : ∀ J K, P 1 J K) (h : Iy 0 y J K) : l_173_8 xs L (d + 8) J K P :=
  e_173_8 hL ⟨by omega, fun q => s_173_25 hL h1 (M := 60) (by omega) 60 0 y J K (by omega) h, fun q => s_173_25 hL h1 (M := L) (by omega) L 0 y J K (by omega) h⟩
end LM
