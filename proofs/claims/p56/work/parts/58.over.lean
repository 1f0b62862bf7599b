/-! Asks over others: pair, brief, some. -/
def zo_p (o : Nat → Int) (A : zA) (r : Nat → Int) (k : Nat) : Prop := zk_at o r ∧ (o 7 = min 1000000 (zA_g r (zA_v A) k).1 ∧ o 8 = (zA_g r (zA_v A) k).2.1 ∧ o 9 = (zA_g r (zA_v A) k).2.2) ∧ zb (o 10) A.1 ∧ (∀ j, zb (o 10) j → j = A.1 ∨ (j < A.1 ∧ ∀ p, zk_part (A.2 j) p → zb (o 10) p)) ∧ ∀ e, e < k → zb (o 10) (r (e + 1)).toNat
def zA_in (J : jZ) (A : zA) : Prop := zA_st J 9 A ∧ zA_rc J 9 A
theorem zA_in_of {J J' : jZ} {A : zA} (h : zA_in J A) (f : ∀ x, x ≠ 11 + A.1 → J' x = J x) : zA_in J' A := by
  have old : ∀ i, i < A.1 → J' (9 + 2 + i) = J (9 + 2 + i) := fun i hi => f _ (by omega)
  refine ⟨fun i hi => ?_, fun i hi => ?_⟩
  · rw [old i hi]
    exact h.1 i hi
  · rw [old i hi]
    exact h.2 i hi
theorem zA_g_p {A : zA} {r : Nat → Int} (hA : zA_ok A) (h : zk_ok A.1 r) : ∀ k : Nat, k ≤ zv (r 0) → 1 ≤ (zA_g r (zA_v A) k).1 ∧ 0 ≤ (zA_g r (zA_v A) k).2.1 ∧ (zA_g r (zA_v A) k).2.1 ≤ 24
  | 0, _ => by simp [zA_g]
  | k + 1, hk => by
    have h24 := hA.1
    have ih := zA_g_p hA h k (by omega)
    have kid := zv_kid h (show k < zv (r 0) by omega)
    have g := zA_v_r hA ((r (k + 1)).toNat + 1) (r (k + 1)).toNat (by omega) (by omega)
    rw [zA_g]
    dsimp only
    omega
theorem s_94g {xs : Nat → Int32} {L d : Nat} {J K : jZ} {P : jZ → jZ → Prop} {A : zA} {r : Nat → Int} {k : Nat} (hA : zA_ok A) (h24 : A.1 < 24) (hr : zk_ok A.1 r) (hk : k < zv (r 0)) (hI : zA_in J A) (hz : zo_p (J (11 + A.1)) A r k) (h : ∀ J', (∀ x, x ≠ 11 + A.1 → J' x = J x) → zo_p (J' (11 + A.1)) A r (k + 1) → P J' K) : q_94 xs L (d + 1) (11 + A.1) (9 + 2 + (r (k + 1)).toNat) J K P := by
  have kid := zv_kid hr hk
  have gp := zA_g_p hA hr k (by omega)
  generalize hv : (r (k + 1)).toNat = v
  have hvA : v < A.1 := by omega
  have vr := zA_v_r hA (v + 1) v (by omega) hvA
  have s := hI.1 v hvA
  have rc := hI.2 v hvA
  have k1 : jz_kd (9 + 2 + v) = 10 := by
    have := jz_e10 (i := v) (by omega)
    rw [show 9 + 2 + v = 11 + v by omega]
    exact this
  obtain ⟨za, ⟨z7, z8, z9⟩, zr, zrc, zk⟩ := hz
  refine e_94 (jz_e10 h24) k1 ?_
  rw [z7, z8, z9, s.1, s.2.1, s.2.2]
  refine ⟨by omega, by omega, by omega, h _ (fun x hx => by simp only [zu_row hx]) ?_⟩
  have o10 : ∀ j, zb (jz_or (J (11 + A.1) 10) (J (9 + 2 + v) 10)) j ↔ zb (J (11 + A.1) 10) j ∨ zb (J (9 + 2 + v) 10) j := fun j => zb_or
  obtain ⟨a0, a1, a2, a3, a4, a6, a5⟩ := za
  have nk : ∀ f (w7 w8 w9 w10 : Int), f < 7 → jm_up (jm_up (jm_up (jm_up J (11 + A.1) 7 w7) (11 + A.1) 8 w8) (11 + A.1) 9 w9) (11 + A.1) 10 w10 (11 + A.1) f = J (11 + A.1) f := fun f w7 w8 w9 w10 hf => by rw [zu_key (by omega), zu_key (by omega), zu_key (by omega), zu_key (by omega)]
  refine ⟨⟨?_, ?_, ?_, ?_, ?_, ?_, fun j hj => ?_⟩, ⟨?_, ?_, ?_⟩, ?_, fun j hj => ?_, fun e he => ?_⟩
  · rw [nk _ _ _ _ _ (by omega)]
    exact a0
  · rw [nk _ _ _ _ _ (by omega)]
    exact a1
  · rw [nk _ _ _ _ _ (by omega)]
    exact a2
  · rw [nk _ _ _ _ _ (by omega)]
    exact a3
  · rw [nk _ _ _ _ _ (by omega)]
    exact a4
  · rw [nk _ _ _ _ _ (by omega)]
    exact a6
  · rw [nk _ _ _ _ _ (by omega)]
    exact a5 j hj
  · rw [zu_key (by omega), zu_key (by omega), zu_key (by omega), zu_self, zA_g, hv]
    dsimp only
    omega
  · rw [zu_key (by omega), zu_key (by omega), zu_self, zA_g, hv]
  · rw [zu_key (by omega), zu_self, zA_g, hv]
  · rw [zu_self, o10]
    exact .inl zr
  · rw [zu_self, o10] at hj
    rw [zu_self]
    rcases hj with q | q
    · rcases zrc j q with q2 | q2
      · exact .inl q2
      · exact .inr ⟨q2.1, fun p hp => (o10 p).mpr (.inl (q2.2 p hp))⟩
    · have z := rc.2 j q
      exact .inr ⟨by have := z.1; omega, fun p hp => (o10 p).mpr (.inr (z.2 p hp))⟩
  · rw [zu_self, o10]
    by_cases c : e = k
    · subst c
      rw [hv]
      exact .inr rc.1
    · exact .inl (zk e (by omega))
theorem zo_p_is {o : Nat → Int} {A : zA} {r : Nat → Int} (hr : zk_ok A.1 r) (h : zo_p o A r (zv (r 0))) : zo_is o A r := by
  obtain ⟨za, z7, zr, zrc, zk⟩ := h
  refine ⟨za, z7, zr, fun j hj => ⟨zrc j hj, fun p hp => ?_⟩⟩
  have part : ∃ e, e < zv (r 0) ∧ (p : Int) = r (e + 1) := by
    unfold zv
    rcases hp with q | q | q
    · rw [if_neg (by omega), if_neg (by omega), if_pos (by omega)]
      rcases q.2.2 with w | w
      · exact ⟨0, by omega, w⟩
      · exact ⟨1, by omega, w⟩
    · rw [if_neg (by omega), if_pos q.1]
      exact ⟨0, by omega, q.2⟩
    · rw [if_pos q.1]
      rcases q.2 with w | w | w
      · exact ⟨0, by omega, w⟩
      · exact ⟨1, by omega, w⟩
      · exact ⟨2, by omega, w⟩
  obtain ⟨e, he, hpe⟩ := part
  have := zk e he
  rw [← hpe, Int.toNat_natCast] at this
  exact this
theorem s_93 {xs : Nat → Int32} {L d : Nat} {J K : jZ} {P : jZ → jZ → Prop} {A : zA} {r : Nat → Int} (hA : zA_ok A) (h24 : A.1 < 24) (hr : zk_ok A.1 r) (hk : 1 ≤ zv (r 0)) (hI : zA_in J A) (h : ∀ J', (∀ x, x ≠ 11 + A.1 → J' x = J x) → zo_is (J' (11 + A.1)) A r → P J' K) : q_93 xs L (d + 2) 9 (A.1 : Int) (r 0) (zk_n r) (zk_x r) (zk_y r) (zk_z r) J K P := by
  have ho := jz_e10 h24
  have v3 := zv_3 (r 0)
  have ex := zk_x_v (r := r)
  have ey := zk_y_v (r := r)
  have ez := zk_z_v (r := r)
  have k0 : 0 ≤ r 1 ∧ r 1 < A.1 := zv_kid hr (j := 0) (by omega)
  rw [if_pos (by omega)] at ex
  have nl : ¬ (r 0 = 0 ∨ r 0 = 1) := fun q => by
    have : zv (r 0) = 0 := by
      unfold zv
      rw [if_neg (by omega), if_neg (by omega), if_neg (by omega)]
    omega
  have len : zk_len r = 0 := by
    unfold zk_len
    rw [if_neg nl]
  have e117 : ∀ J', (∀ x, x ≠ 11 + A.1 → J' x = J x) → zo_p (J' (11 + A.1)) A r (zv (r 0)) → l_93_117 xs L (d + 1) J' K P := fun J' f z => e_93_117 (h J' f (zo_p_is hr z))
  have e94 : ∀ J' k, (∀ x, x ≠ 11 + A.1 → J' x = J x) → zo_p (J' (11 + A.1)) A r k → (k = zv (r 0) ∨ (k = 2 ∧ 2 < zv (r 0))) → k ≤ 2 → l_93_94 xs L (d + 1) 9 (A.1 : Int) (zk_z r) (11 + A.1) J' K P := fun J' k f z hk2 hk3 => by
    refine e_93_94 rfl ho ?_
    by_cases c : 2 < zv (r 0)
    · rw [if_pos c] at ez
      have k2 : 0 ≤ r 3 ∧ r 3 < A.1 := zv_kid hr c
      obtain rfl : k = 2 := by omega
      rw [ez]
      exact ⟨by omega, fun t => by omega, fun _ => ⟨by omega, fun t => by omega, fun _ => ⟨by omega, s_94g hA h24 hr c (zA_in_of hI f) z (fun J2 f2 z2 => e117 J2 (fun x hx => by rw [f2 x hx, f x hx]) (by rw [show zv (r 0) = 2 + 1 by omega]; exact z2))⟩⟩⟩
    · rw [if_neg c] at ez
      rw [ez]
      exact ⟨by omega, fun _ => e117 J' f (by rw [show zv (r 0) = k by omega]; exact z), fun t => by omega⟩
  have e71 : ∀ J', (∀ x, x ≠ 11 + A.1 → J' x = J x) → zo_p (J' (11 + A.1)) A r 1 → l_93_71 xs L (d + 1) 9 (A.1 : Int) (zk_y r) (zk_z r) (11 + A.1) J' K P := fun J' f z => by
    refine e_93_71 rfl ho ?_
    by_cases c : 1 < zv (r 0)
    · rw [if_pos c] at ey
      have k1 : 0 ≤ r 2 ∧ r 2 < A.1 := zv_kid hr c
      rw [ey]
      exact ⟨by omega, fun t => by omega, fun _ => ⟨by omega, fun t => by omega, fun _ => ⟨by omega, s_94g hA h24 hr c (zA_in_of hI f) z (fun J2 f2 z2 => e94 J2 2 (fun x hx => by rw [f2 x hx, f x hx]) z2 (by omega) (by omega))⟩⟩⟩
    · rw [if_neg c] at ey
      rw [ey]
      exact ⟨by omega, fun _ => e94 J' 1 f z (by omega) (by omega), fun t => by omega⟩
  refine e_93 rfl ⟨by omega, fun t => by omega, fun _ => ⟨fun _ => ⟨by omega, ?_⟩, fun t => by omega⟩⟩
  rw [Int.toNat_natCast, show 9 + 2 + A.1 = 11 + A.1 by omega]
  refine s_81 ho (fun J1 f1 z => ?_)
  obtain ⟨z0, z4, z1, z2, z3, z5, z6, z7, z8, z9, z10⟩ := z
  have f2 : ∀ x, x ≠ 11 + A.1 → jm_up (jm_up (jm_up J1 (11 + A.1) 1 (zk_x r)) (11 + A.1) 2 (zk_y r)) (11 + A.1) 3 (zk_z r) x = J x := fun x hx => by rw [zu_row hx, zu_row hx, zu_row hx, f1 x hx]
  have zp : zo_p (jm_up (jm_up (jm_up J1 (11 + A.1) 1 (zk_x r)) (11 + A.1) 2 (zk_y r)) (11 + A.1) 3 (zk_z r) (11 + A.1)) A r 0 := by
    have nk : ∀ f, f ≠ 1 → f ≠ 2 → f ≠ 3 → jm_up (jm_up (jm_up J1 (11 + A.1) 1 (zk_x r)) (11 + A.1) 2 (zk_y r)) (11 + A.1) 3 (zk_z r) (11 + A.1) f = J1 (11 + A.1) f := fun f a b c => by rw [zu_key c, zu_key b, zu_key a]
    refine ⟨⟨?_, ?_, ?_, ?_, ?_, ?_, fun j hj => ?_⟩, ⟨?_, ?_, ?_⟩, ?_, fun j hj => ?_, fun e he => by omega⟩
    · rw [nk _ (by omega) (by omega) (by omega), z0]
    · rw [zu_key (by omega), zu_key (by omega), zu_self]
    · rw [zu_key (by omega), zu_self]
    · rw [zu_self]
    · rw [nk _ (by omega) (by omega) (by omega), z4]
    · rw [nk _ (by omega) (by omega) (by omega), z6, len]
      rfl
    · rw [len] at hj
      exact absurd hj (Nat.not_lt_zero j)
    · rw [nk _ (by omega) (by omega) (by omega), z7]
      rfl
    · rw [nk _ (by omega) (by omega) (by omega), z8]
      rfl
    · rw [nk _ (by omega) (by omega) (by omega), z9]
      show (0 : Int) = (if r 0 = 0 ∨ r 0 = 1 then zw_l r 4 else 0)
      rw [if_neg nl]
    · rw [nk _ (by omega) (by omega) (by omega), z10, zb_shl (by omega), zb_1]
      omega
    · rw [nk _ (by omega) (by omega) (by omega), z10, zb_shl (by omega), zb_1] at hj
      exact .inl (by omega)
  rw [ex] at f2 zp ⊢
  exact ⟨by omega, fun t => by omega, fun _ => ⟨fun t => by omega, fun _ => ⟨by omega, s_94g hA h24 hr (show 0 < zv (r 0) by omega) (zA_in_of hI f2) zp (fun J2 g2 z2 => e71 J2 (fun x hx => by rw [g2 x hx, f2 x hx]) z2)⟩⟩⟩
theorem s_103 {xs : Nat → Int32} {L d : Nat} {J K : jZ} {P : Int → jZ → jZ → Prop} {T : zT} {A : zA} (hQ : cQ J T A) {r : Nat → Int} {k n x y z : Int} (hS : zA_st J 9 A) (hr : zk_ok A.1 r) (hk : 1 ≤ zv (r 0)) (ek : k = r 0) (en : n = zk_n r) (ex : x = zk_x r) (ey : y = zk_y r) (ez : z = zk_z r) (hb : ¬ A.1 < 24 → P (-6) (rC J 4) K) (h : A.1 < 24 → ∀ J', cAf A.1 J J' → cQ J' T (zA_a A r) → zA_st J' 9 (zA_a A r) → P (A.1 : Int) J' K) : q_103 xs L (d + 3) k n x y z J K P := by
  have h24 := hQ.2.1.1
  have h1 := hQ.2.2.2.1.1
  subst ek
  subst en
  subst ex
  subst ey
  subst ez
  refine e_103 ⟨by omega, fun q => s_13 (k := 4) (by omega) (by omega) (hb (by omega)), fun q => ?_⟩
  rw [h1]
  refine s_93 hQ.2.1 (by omega) hr hk ⟨hS, hQ.2.2.2.2.1⟩ (fun J' f o => ?_)
  rw [f 9 (by omega), h1, show ((A.1 : Int) + 1) - 1 = (A.1 : Int) by omega]
  have F : cAf A.1 J (jm_up J' 9 1 ((A.1 : Int) + 1)) := fun x a b => by rw [zu_row a, f x b]
  have Z := cQ_A hQ hS (by omega) hr F zu_self (by rw [zu_row (by omega)]; exact o)
  exact h (by omega) _ F Z.1 Z.2
-- pair
theorem c_102 {xs : Nat → Int32} {L d : Nat} {J K : jZ} {P : Int → jZ → jZ → Prop} {T : zT} {A : zA} (hQ : cQ J T A) {k x y : Int} (hS : zA_st J 9 A) (hk : -2147483648 ≤ k ∧ k < 2147483648) (hx : -2147483648 ≤ x ∧ x < 2147483648) (hy : -2147483648 ≤ y ∧ y < 2147483648) (hb : ¬ ((2 ≤ k ∧ k ≤ 8) ∧ (0 ≤ x ∧ x < A.1) ∧ (0 ≤ y ∧ y < A.1)) → P (-2) (rC J 0) K) (hb2 : (2 ≤ k ∧ k ≤ 8) ∧ (0 ≤ x ∧ x < A.1) ∧ (0 ≤ y ∧ y < A.1) → ¬ A.1 < 24 → P (-6) (rC J 4) K) (h : (2 ≤ k ∧ k ≤ 8) ∧ (0 ≤ x ∧ x < A.1) ∧ (0 ≤ y ∧ y < A.1) → A.1 < 24 → ∀ J', cAf A.1 J J' → cQ J' T (zA_a A (zr_5 k x y (-1) (-1))) → zA_st J' 9 (zA_a A (zr_5 k x y (-1) (-1))) → P (A.1 : Int) J' K) : q_102 xs L (d + 4) k x y J K P := by
  have h24 := hQ.2.1.1
  have h1 := hQ.2.2.2.1.1
  have bad : ¬ ((2 ≤ k ∧ k ≤ 8) ∧ (0 ≤ x ∧ x < A.1) ∧ (0 ≤ y ∧ y < A.1)) → q_13 xs L (d + 3) (-2) J K (fun r J' K' => P r J' K') := fun q => s_13 (k := 0) (by omega) (by omega) (hb q)
  refine e_102 ⟨hk, fun q => ⟨hx, by omega, fun q2 => ⟨hy, fun q3 => ?_, fun q3 => bad (by omega)⟩, fun q2 => bad (by omega)⟩, fun q => bad (by omega)⟩
  have ok : zk_ok A.1 (zr_5 k x y (-1) (-1)) := .inr (.inr (.inl ⟨q.1, q.2, q2.1, by show x < A.1; omega, q3.1, by show y < A.1; omega, rfl, rfl⟩))
  have kk : zr_5 k x y (-1) (-1) 0 = k := rfl
  refine s_103 (r := zr_5 k x y (-1) (-1)) hQ hS ok ?_ rfl ?_ ?_ ?_ ?_ (hb2 (by omega)) (h (by omega))
  · rw [kk]
    unfold zv
    rw [if_neg (by omega), if_neg (by omega), if_pos q]
    omega
  · unfold zk_n
    rw [kk, if_neg (by omega), if_neg (by omega), if_neg (by omega)]
  · unfold zk_x
    rw [kk, if_pos (by omega)]
    rfl
  · unfold zk_y
    rw [kk, if_pos (by omega)]
    rfl
  · unfold zk_z
    rw [kk, if_neg (by omega)]
-- brief
theorem c_105 {xs : Nat → Int32} {L d : Nat} {J K : jZ} {P : Int → jZ → jZ → Prop} {T : zT} {A : zA} (hQ : cQ J T A) {x n : Int} (hS : zA_st J 9 A) (hx : -2147483648 ≤ x ∧ x < 2147483648) (hn : -2147483648 ≤ n ∧ n < 2147483648) (hb : ¬ ((0 ≤ x ∧ x < A.1) ∧ (1 ≤ n ∧ n ≤ 60)) → P (-2) (rC J 0) K) (hb2 : (0 ≤ x ∧ x < A.1) ∧ (1 ≤ n ∧ n ≤ 60) → ¬ A.1 < 24 → P (-6) (rC J 4) K) (h : (0 ≤ x ∧ x < A.1) ∧ (1 ≤ n ∧ n ≤ 60) → A.1 < 24 → ∀ J', cAf A.1 J J' → cQ J' T (zA_a A (zr_5 10 x n (-1) (-1))) → zA_st J' 9 (zA_a A (zr_5 10 x n (-1) (-1))) → P (A.1 : Int) J' K) : q_105 xs L (d + 4) x n J K P := by
  have h24 := hQ.2.1.1
  have h1 := hQ.2.2.2.1.1
  have bad : ¬ ((0 ≤ x ∧ x < A.1) ∧ (1 ≤ n ∧ n ≤ 60)) → q_13 xs L (d + 3) (-2) J K (fun r J' K' => P r J' K') := fun q => s_13 (k := 0) (by omega) (by omega) (hb q)
  refine e_105 ⟨hx, by omega, fun q => ⟨hn, fun q2 => bad (by omega), fun q2 => ⟨fun q3 => ?_, fun q3 => bad (by omega)⟩⟩, fun q => bad (by omega)⟩
  exact s_103 (r := zr_5 10 x n (-1) (-1)) hQ hS (.inr (.inr (.inr (.inr (.inl ⟨rfl, q.1, by show x < A.1; omega, q2, q3, rfl, rfl⟩))))) (Nat.le_refl 1) rfl rfl rfl rfl rfl (hb2 (by omega)) (h (by omega))
-- some
theorem c_106 {xs : Nat → Int32} {L d : Nat} {J K : jZ} {P : Int → jZ → jZ → Prop} {T : zT} {A : zA} (hQ : cQ J T A) {k x y z : Int} (hS : zA_st J 9 A) (hk : -2147483648 ≤ k ∧ k < 2147483648) (hx : -2147483648 ≤ x ∧ x < 2147483648) (hy : -2147483648 ≤ y ∧ y < 2147483648) (hz : -2147483648 ≤ z ∧ z < 2147483648) (hb : ¬ ((1 ≤ k ∧ k ≤ 3) ∧ (0 ≤ x ∧ x < A.1) ∧ (0 ≤ y ∧ y < A.1) ∧ (0 ≤ z ∧ z < A.1)) → P (-2) (rC J 0) K) (hb2 : (1 ≤ k ∧ k ≤ 3) ∧ (0 ≤ x ∧ x < A.1) ∧ (0 ≤ y ∧ y < A.1) ∧ (0 ≤ z ∧ z < A.1) → ¬ A.1 < 24 → P (-6) (rC J 4) K) (h : (1 ≤ k ∧ k ≤ 3) ∧ (0 ≤ x ∧ x < A.1) ∧ (0 ≤ y ∧ y < A.1) ∧ (0 ≤ z ∧ z < A.1) → A.1 < 24 → ∀ J', cAf A.1 J J' → cQ J' T (zA_a A (zr_5 11 x y z k)) → zA_st J' 9 (zA_a A (zr_5 11 x y z k)) → P (A.1 : Int) J' K) : q_106 xs L (d + 4) k x y z J K P := by
  have h24 := hQ.2.1.1
  have h1 := hQ.2.2.2.1.1
  have bad : ¬ ((1 ≤ k ∧ k ≤ 3) ∧ (0 ≤ x ∧ x < A.1) ∧ (0 ≤ y ∧ y < A.1) ∧ (0 ≤ z ∧ z < A.1)) → q_13 xs L (d + 3) (-2) J K (fun r J' K' => P r J' K') := fun q => s_13 (k := 0) (by omega) (by omega) (hb q)
  refine e_106 ⟨hk, fun q => bad (by omega), fun q => ⟨fun q2 => bad (by omega), fun q2 => ⟨hx, by omega, fun q3 => ⟨hy, fun q4 => ⟨hz, fun q5 => ?_, fun q5 => bad (by omega)⟩, fun q4 => bad (by omega)⟩, fun q3 => bad (by omega)⟩⟩⟩
  exact s_103 (r := zr_5 11 x y z k) hQ hS (.inr (.inr (.inr (.inr (.inr ⟨rfl, q3.1, by show x < A.1; omega, q4.1, by show y < A.1; omega, q5.1, by show z < A.1; omega, q, q2⟩))))) (by show 1 ≤ 3; omega) rfl rfl rfl rfl rfl (hb2 (by omega)) (h (by omega))