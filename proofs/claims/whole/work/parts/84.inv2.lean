/-! What holds between the calls, behind those that change something. -/
section IV
variable {J J' J1 J2 K K' K1 K2 : jZ} {T T' : zT} {s s' : Int} {A A' : zA} {H H' : zH} {B B' : zB} {R R' : Nat → Int} {y y' : zY}
theorem mQ_ag (h : mQ J T A) (f : ∀ x, x = 167 ∨ (184 ≤ x ∧ x ≤ 188) ∨ (195 ≤ x ∧ x ≤ 197) → J' x = J x) : mQ J' T A := by
  obtain ⟨a1, a2, a3, a4, a5, a6⟩ := h
  refine ⟨a1, a2, mT_of a3 (by rw [f 167 (by omega)]) (f _ (by omega)) (f _ (by omega)) (f _ (by omega)), mA_of a4 (by rw [f 167 (by omega)]) (f _ (by omega)) (f _ (by omega)), by rw [f 167 (by omega)]; exact a5, by rw [f 167 (by omega)]; exact a6.1, fun w i hi => ?_⟩
  rw [f 167 (by omega)] at w
  have z := a6.2 w i hi
  exact ⟨by rw [f 195 (by omega)]; exact z.1, fun k hk => by rw [f 196 (by omega), f 197 (by omega)]; exact z.2 k hk⟩
-- the text
theorem I_T (m : mI J K T s A H B R y) (F : cTf J J1) : mI J1 K T s A H B R y := mI_o m (fun x hx => F.1 x (by omega) (by omega) (by omega) (by omega) (by omega)) (fun x hx => rfl)
theorem I_TT (p : pI T' A H B y) (c : cI J K T s A H B R y) (m : mI J K T s A H B R y) (F : cTf J J1) (Q : cQ J1 T' A) (F2 : mTf J1 J2) (Q2 : mQ J2 T' A) : Inv J2 K := by
  have h24 := Q.2.1.1
  have c1 : cI J1 K T' s A H B R y := cI_mk c p.2.2.2 Q (cst_of c.2.1 h24 (fun x _ _ => F.1 x (by omega) (by omega) (by omega) (by omega) (by omega))) (by rw [F.2.1]; exact c.2.2.1) (fun x hx => F.1 x (by omega) (by omega) (by omega) (by omega) (by omega))
  have m1 : mI J2 K T' s A H B R y := mI_mk (I_T m F) Q2 (by rw [F2.2 11 (by omega) (by omega)]; exact (I_T m F).2.1) (fun x hx => F2.1 x (by omega) (by omega) (by omega) (by omega)) (fun k hk => F2.2 k (by omega) (by omega)) (fun x _ _ => rfl)
  exact ⟨T', s, A, H, B, R, y, p, cI_o c1 p.2.2.2 (fun x hx => F2.1 x (by omega) (by omega) (by omega) (by omega)) (fun x hx => rfl), m1⟩
theorem I_D (m : mI J K T s A H B R y) (F : cDf J J1) : mI J1 K T s A H B R y := mI_o m (fun x hx => F.1 x (by omega) (by omega) (by omega) (by omega)) (fun x hx => rfl)
theorem I_DD (p : pI T' A H B y) (c : cI J K T s A H B R y) (m : mI J K T s A H B R y) (F : cDf J J1) (Q : cQ J1 T' A) (h1 : J1 1 4 = s') (F2 : mDf J1 J2) (Q2 : mQ J2 T' A) (h2 : J2 167 11 = s') : Inv J2 K := by
  have h24 := Q.2.1.1
  have c1 : cI J1 K T' s' A H B R y := cI_mk c p.2.2.2 Q (cst_of c.2.1 h24 (fun x _ _ => F.1 x (by omega) (by omega) (by omega) (by omega))) h1 (fun x hx => F.1 x (by omega) (by omega) (by omega) (by omega))
  have m1 : mI J2 K T' s' A H B R y := mI_mk (I_D m F) Q2 h2 (fun x hx => F2.1 x (by omega) (by omega) (by omega)) (fun k hk => F2.2 k (by omega) (by omega) (by omega)) (fun x _ _ => rfl)
  exact ⟨T', s', A, H, B, R, y, p, cI_o c1 p.2.2.2 (fun x hx => F2.1 x (by omega) (by omega) (by omega)) (fun x hx => rfl), m1⟩
theorem I_S {v : Int} (p : pI T A H B y) (c : cI J K T s A H B R y) (m : mI J K T s A H B R y) : Inv (jm_up (jm_up J 1 4 v) 167 11 v) K := by
  have h24 := c.1.2.1.1
  have g : ∀ x, x ≠ 1 → jm_up J 1 4 v x = J x := fun x hx => zu_row hx
  have c1 : cI (jm_up J 1 4 v) K T v A H B R y := by
    have c' := c
    obtain ⟨⟨a1, a2, a3, a4, a5, a6, a7, a8⟩, -⟩ := c'
    refine cI_mk c p.2.2.2 ⟨a1, a2, zt_of a3 (by rw [zu_key (by omega)]) (g _ (by omega)) (g _ (by omega)) (g _ (by omega)), zA_at_of a4 h24 (fun x _ _ => g x (by omega)), zA_rc_of a5 h24 (fun x _ _ => g x (by omega)), by rw [g 61 (by omega)]; exact a6, ⟨by rw [g 63 (by omega)]; exact a7.1, fun k hk => by simp at hk⟩, fun j hj => ?_⟩ (cst_of c.2.1 h24 (fun x _ _ => g x (by omega))) zu_self (fun x hx => g x (by omega))
    rw [g 61 (by omega)] at hj
    have z := a8 j hj
    exact ⟨z.1, zs_at_of z.2 (by rw [g _ (by omega)]) (fun k hk => by rw [g _ (by omega), g _ (by omega)]; exact ⟨rfl, rfl⟩)⟩
  have m0 : mI (jm_up J 1 4 v) K T s A H B R y := mI_o m (fun x hx => g x (by omega)) (fun x hx => rfl)
  have m1 : mI (jm_up (jm_up J 1 4 v) 167 11 v) K T v A H B R y := by
    have m0' := m0
    obtain ⟨⟨a1, a2, a3, a4, a5, a6⟩, -⟩ := m0'
    have q : ∀ x, x ≠ 167 → jm_up (jm_up J 1 4 v) 167 11 v x = jm_up J 1 4 v x := fun x hx => zu_row hx
    have q7 : ∀ k, k ≠ 11 → jm_up (jm_up J 1 4 v) 167 11 v 167 k = jm_up J 1 4 v 167 k := fun k hk => zu_key hk
    refine mI_mk m0 ⟨a1, a2, mT_of a3 (q7 9 (by omega)) (q _ (by omega)) (q _ (by omega)) (q _ (by omega)), mA_of a4 (q7 10 (by omega)) (q _ (by omega)) (q _ (by omega)), by rw [q7 37 (by omega)]; exact a5, by rw [q7 26 (by omega)]; exact a6.1, fun w i hi => ?_⟩ zu_self (fun x hx => q x (by omega)) (fun k hk => q7 k (by omega)) (fun x _ _ => rfl)
    rw [q7 26 (by omega)] at w
    have z := a6.2 w i hi
    exact ⟨by rw [q 195 (by omega)]; exact z.1, fun k hk => by rw [q 196 (by omega), q 197 (by omega)]; exact z.2 k hk⟩
  exact ⟨T, v, A, H, B, R, y, p, cI_o c1 p.2.2.2 (fun x hx => zu_row (by omega)) (fun x hx => rfl), m1⟩
-- the tape
theorem I_B (m : mI J K T s A H B R y) (F : cBf J J1) : mI J1 K T s A H B R y := mI_o m (fun x hx => F x (by omega) (by omega)) (fun x hx => rfl)
theorem cI_B (hp : pKp y) (c : cI J K T s A H B R y) (F : cBf J J1) (r : cB_at J1 B') : cI J1 K T s A H B' R y := by
  have h24 := c.1.2.1.1
  obtain ⟨Q, S, hs, hH, hB, hR, hy⟩ := c
  exact ⟨cQ_lo Q (fun x hx => F x (by omega) (by omega)), cst_of S h24 (fun x _ _ => F x (by omega) (by omega)), by rw [F 1 (by omega) (by omega)]; exact hs, cH_of hH (fun x _ _ => F x (by omega) (by omega)) (fun x _ _ => rfl), r, fun k hk => by rw [F 150 (by omega) (by omega)]; exact hR k hk, cKp_of hy hp (by rw [F 0 (by omega) (by omega)]) (fun x hx => F x (by omega) (by omega))⟩
theorem mI_B (m : mI J K T s A H B R y) (F : mBf J J1) (r : mB_at J1 B') : mI J1 K T s A H B' R y := by
  obtain ⟨Q, hs, hH, hB, hR, hy⟩ := m
  have Q' : mQ J1 T A := by
    obtain ⟨a1, a2, a3, a4, a5, a6⟩ := Q
    refine ⟨a1, a2, mT_of a3 (F.2 9 (by omega)) (F.1 _ (by omega) (by omega)) (F.1 _ (by omega) (by omega)) (F.1 _ (by omega) (by omega)), mA_of a4 (F.2 10 (by omega)) (F.1 _ (by omega) (by omega)) (F.1 _ (by omega) (by omega)), by rw [F.2 37 (by omega)]; exact a5, by rw [F.2 26 (by omega)]; exact a6.1, fun w i hi => ?_⟩
    rw [F.2 26 (by omega)] at w
    have z := a6.2 w i hi
    exact ⟨by rw [F.1 195 (by omega) (by omega)]; exact z.1, fun k hk => by rw [F.1 196 (by omega) (by omega), F.1 197 (by omega) (by omega)]; exact z.2 k hk⟩
  exact ⟨Q', by rw [F.2 11 (by omega)]; exact hs, mH_of hH (fun x hx => F.1 x (by omega) (by omega)) (fun x _ _ => rfl), r, fun k hk => by rw [F.1 183 (by omega) (by omega)]; exact hR k hk, mKp_of hy (fun k hk => F.2 k (by omega)) (fun x hx => F.1 x (by omega) (by omega))⟩
theorem I_BB (p : pI T A H B' y) (c : cI J K T s A H B R y) (m : mI J K T s A H B R y) (F : cBf J J1) (r : cB_at J1 B') (F2 : mBf J1 J2) (r2 : mB_at J2 B') : Inv J2 K :=
  ⟨T, s, A, H, B', R, y, p, cI_o (cI_B p.2.2.2 c F r) p.2.2.2 (fun x hx => F2.1 x (by omega) (by omega)) (fun x hx => rfl), mI_B (I_B m F) F2 r2⟩
theorem zB_0_ok : zB_ok zB_0 := ⟨Nat.zero_le _, fun i hi => absurd hi (Nat.not_lt_zero _)⟩
-- one more ask
theorem I_A {n : Nat} (hn : n < 24) (m : mI J K T s A H B R y) (F : cAf n J J1) : mI J1 K T s A H B R y := mI_o m (fun x hx => F x (by omega) (by omega)) (fun x hx => rfl)
theorem I_AA {n : Nat} (hn : n < 24) (p : pI T A' H B y) (c : cI J K T s A H B R y) (m : mI J K T s A H B R y) (F : cAf n J J1) (Q : cQ J1 T A') (S : zA_st J1 9 A') (F2 : mAf J1 J2) (Q2 : mQ J2 T A') : Inv J2 K := by
  have c1 : cI J1 K T s A' H B R y := cI_mk c p.2.2.2 Q S (by rw [F 1 (by omega) (by omega)]; exact c.2.2.1) (fun x hx => F x (by omega) (by omega))
  have m0 := I_A hn m F
  have m1 : mI J2 K T s A' H B R y := mI_mk m0 Q2 (by rw [F2.2 11 (by omega) (by omega) (by omega)]; exact m0.2.1) (fun x hx => F2.1 x (by omega) (by omega) (by omega)) (fun k hk => F2.2 k (by omega) (by omega) (by omega)) (fun x _ _ => rfl)
  exact ⟨T, s, A', H, B, R, y, p, cI_o c1 p.2.2.2 (fun x hx => F2.1 x (by omega) (by omega) (by omega)) (fun x hx => rfl), m1⟩
theorem pI_A {r : Nat → Int} (p : pI T A H B y) : pI T (zA_a A r) H B y := ⟨p.1, fun t ht => by
  rcases p.2.1 t ht with c | c | c
  · exact .inl c
  · exact .inr (.inl c)
  · exact .inr (.inr ⟨c.1, by
      show (H t).1 < 10 + ((A.1 + 1 : Nat) : Int)
      omega⟩), p.2.2⟩
-- shelves
theorem I_H (m : mI J K T s A H B R y) (F : cHf J J1 K K1) : mI J1 K1 T s A H B R y := mI_o m (fun x hx => F.1 x (by omega)) (fun x hx => F.2 x (by omega))
theorem I_HH (p : pI T A H' B y) (c : cI J K T s A H B R y) (m : mI J K T s A H B R y) (F : cHf J J1 K K1) (r : cH_at J1 K1 H') (F2 : mHf J1 J2 K1 K2) (r2 : mH_at J2 K2 H') : Inv J2 K2 := by
  have h24 := c.1.2.1.1
  have c1 : cI J1 K1 T s A H' B R y := by
    obtain ⟨Q, S, hs, hH, hB, hR, hy⟩ := c
    exact ⟨cQ_lo Q (fun x hx => F.1 x (by omega)), cst_of S h24 (fun x _ _ => F.1 x (by omega)), by rw [F.1 1 (by omega)]; exact hs, r, ⟨by rw [F.1 144 (by omega)]; exact hB.1, fun i hi => by rw [F.1 145 (by omega)]; exact hB.2 i hi⟩, fun k hk => by rw [F.1 150 (by omega)]; exact hR k hk, cKp_of hy p.2.2.2 (by rw [F.1 0 (by omega)]) (fun x hx => F.1 x (by omega))⟩
  have m1 : mI J2 K2 T s A H' B R y := by
    obtain ⟨Q, hs, hH, hB, hR, hy⟩ := I_H m F
    exact ⟨mQ_ag Q (fun x hx => F2.1 x (by omega) (by omega)), by rw [F2.1 167 (by omega) (by omega)]; exact hs, r2, ⟨by rw [F2.1 167 (by omega) (by omega)]; exact hB.1, fun i hi => by rw [F2.1 182 (by omega) (by omega)]; exact hB.2 i hi⟩, fun k hk => by rw [F2.1 183 (by omega) (by omega)]; exact hR k hk, mKp_of hy (fun k hk => by rw [F2.1 167 (by omega) (by omega)]) (fun x hx => F2.1 x (by omega) (by omega))⟩
  exact ⟨T, s, A, H', B, R, y, p, cI_o c1 p.2.2.2 (fun x hx => F2.1 x (by omega) (by omega)) (fun x hx => F2.2 x (by omega)), m1⟩
theorem zH_k8_ok {m n : Nat} (h : zH_ok n H) : zH_ok m (zH_k m H 8) := fun t ht => by
  have := zH_d_ok (m := m) h t ht
  unfold zH_k
  rw [if_pos ht]
  exact this
end IV
