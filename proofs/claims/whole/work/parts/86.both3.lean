/-! Class and reference side by side: text, ask, image, back. -/
theorem zW_sb {B : zB} : ∀ (n i : Nat) (T : zT), zt_sb T → zt_sb (zW B n i T)
  | 0, _, T, h => h
  | n + 1, i, T, h => by
    refine zW_sb n (i + 1) _ ?_
    unfold zW_1
    split
    · exact h
    · split
      · exact h
      · exact h
theorem zJ_ge {b : Int} : ∀ (st : zK) (t : Int) (M : zA), M.1 ≤ (zJ b t st M).2.2.1
  | [], t, M => Nat.le_refl _
  | e :: st, t, M => by
    by_cases c : (2 ≤ e.1 ∧ e.1 ≤ 8) ∧ min b 5 ≤ min e.1 5
    · rw [zJ_t c]
      have := zJ_ge (b := b) st (M.1 : Int) (zA_a M (zr_5 e.1 (e.2.headD 0) t (-1) (-1)))
      have n1 : (zA_a M (zr_5 e.1 (e.2.headD 0) t (-1) (-1))).1 = M.1 + 1 := rfl
      omega
    · rw [zJ_f c]
      exact Nat.le_refl _
theorem zG_ge {B : zB} : ∀ (n p : Nat) (t : Int) (st : zK) (M : zA), M.1 ≤ (zG B n p t st M).2.1
  | 0, p, t, st, M => Nat.le_refl _
  | n + 1, p, t, st, M => by
    have go : ∀ (p' : Nat) (t' : Int) (st' : zK) (M' : zA), M.1 ≤ M'.1 → M.1 ≤ (zG B n p' t' st' M').2.1 := fun p' t' st' M' h => Nat.le_trans h (zG_ge n p' t' st' M')
    have a1 : ∀ (M' : zA) (r : Nat → Int), M.1 ≤ M'.1 → M.1 ≤ (zA_a M' r).1 := fun M' r h => by
      show M.1 ≤ M'.1 + 1
      omega
    have j1 : ∀ b, M.1 ≤ (zJ b t st M).2.2.1 := fun b => zJ_ge st t M
    by_cases l : p < B.1
    · by_cases h32 : B.2 p = 32
      · rw [zG_b l h32]
        exact go _ _ _ _ (Nat.le_refl _)
      · by_cases ht : t = -1
        · subst ht
          rw [zG_p l h32]
          repeat' split
          all_goals first | exact go _ _ _ _ (Nat.le_refl _) | exact go _ _ _ _ (a1 _ _ (Nat.le_refl _)) | exact Nat.le_refl _
        · by_cases hk : zki (B.2 p) = -1
          · by_cases h94 : B.2 p = 94
            · rw [zG_s l h94 ht]
              split
              · exact go _ _ _ _ (a1 _ _ (j1 5))
              · exact j1 5
            · rw [zG_c l h32 ht hk h94]
              have j2 := j1 2
              generalize zJ 2 t st M = Q at j2
              obtain ⟨t1, st1, M1⟩ := Q
              unfold zCl
              cases st1 with
              | nil => exact j2
              | cons e st' =>
                dsimp only
                split
                · exact go _ _ _ _ j2
                · split
                  · exact go _ _ _ _ j2
                  · split
                    · exact go _ _ _ _ (a1 _ _ j2)
                    · exact j2
          · rw [zG_k l h32 ht hk]
            exact go _ _ _ _ (j1 _)
    · rw [zG_e (by omega)]
      unfold zEn
      split
      · exact Nat.le_refl _
      · have j2 := j1 2
        generalize zJ 2 t st M = Q at j2
        obtain ⟨t1, st1, M1⟩ := Q
        unfold zFi
        cases st1 with
        | nil => exact j2
        | cons e st' => exact j2
section WE
variable {xs : Nat → Int32} {L d : Nat} {J K : jZ}
section IV
variable {J' J1 J2 : jZ} {T T' : zT} {s s' : Int} {A A' : zA} {H H' : zH} {B B' : zB} {R R' : Nat → Int} {y y' : zY}
theorem cQ_ask (h : cQ J T A) (g9 : J' 9 = J 9) (g : ∀ x, x < 144 → x ≠ 9 → x < 11 + A.1 ∨ 35 ≤ x → J' x = J x) : cQ J' T A := by
  obtain ⟨a1, a2, a3, a4, a5, a6, a7, a8⟩ := h
  have h24 := a2.1
  refine ⟨a1, a2, zt_of a3 (by rw [g 1 (by omega) (by omega) (by omega)]) (g _ (by omega) (by omega) (by omega)) (g _ (by omega) (by omega) (by omega)) (g _ (by omega) (by omega) (by omega)), ⟨by rw [g9]; exact a4.1, fun i hi => by rw [g _ (by omega) (by omega) (by omega)]; exact a4.2 i hi⟩, fun i hi => by rw [g _ (by omega) (by omega) (by omega)]; exact a5 i hi, by rw [g 61 (by omega) (by omega) (by omega)]; exact a6, ⟨by rw [g 63 (by omega) (by omega) (by omega)]; exact a7.1, fun k hk => by simp at hk⟩, fun j hj => ?_⟩
  rw [g 61 (by omega) (by omega) (by omega)] at hj
  have z := a8 j hj
  have l := z.1
  exact ⟨z.1, zs_at_of z.2 (by rw [g _ (by omega) (by omega) (by omega)]) (fun k hk => by rw [g _ (by omega) (by omega) (by omega), g _ (by omega) (by omega) (by omega)]; exact ⟨rfl, rfl⟩)⟩
/-- text, seed and asks are new, the tape is empty -/
theorem cI_m0 (h : cI J K T s A H B R y) (hp : pKp y) (Q : cQ J' T' A') (S : zA_st J' 9 A') (hs : J' 1 4 = s') (h0 : J' 144 1 = 0) (f : ∀ x, x = 0 ∨ (5 ≤ x ∧ x ≤ 8) ∨ (35 ≤ x ∧ x < 61) ∨ (149 ≤ x ∧ x < 167) → J' x = J x) : cI J' K T' s' A' H zB_0 R y := by
  obtain ⟨-, -, -, hH, hB, hR, hy⟩ := h
  exact ⟨Q, S, hs, cH_of hH (fun x h1 h2 => f x (by omega)) (fun x _ _ => rfl), ⟨h0, fun i hi => absurd hi (Nat.not_lt_zero _)⟩, fun k hk => by rw [f 150 (by omega)]; exact hR k hk, cKp_of hy hp (by rw [f 0 (by omega)]) (fun x hx => f x (by omega))⟩
theorem mI_m0 (h : mI J K T s A H B R y) (Q : mQ J' T' A') (hs : J' 167 11 = s') (h0 : J' 167 7 = 0) (f : ∀ x, x = 168 ∨ x = 169 ∨ x = 170 ∨ x = 181 ∨ x = 183 ∨ (189 ≤ x ∧ x ≤ 193) → J' x = J x) (f7 : ∀ k, 17 ≤ k ∧ k ≤ 20 → J' 167 k = J 167 k) : mI J' K T' s' A' H zB_0 R y := by
  obtain ⟨-, -, hH, hB, hR, hy⟩ := h
  exact ⟨Q, hs, mH_of hH (fun x hx => f x (by omega)) (fun x _ _ => rfl), ⟨h0, fun i hi => absurd hi (Nat.not_lt_zero _)⟩, fun k hk => by rw [f 183 (by omega)]; exact hR k hk, mKp_of hy f7 (fun x hx => f x (by omega))⟩
theorem I_rB {j : Nat} (p : pI T A H B y) (c : cI J K T s A H B R y) (m : mI J K T s A H B R y) (hj : j < 5) : Inv (rM (jm_up (rC (jm_up J 144 1 0) j) 167 7 0) (j + 2)) K := by
  have c1 := cI_r (cI_B p.2.2.2 c (J1 := jm_up J 144 1 0) (B' := zB_0) (fun x a b => zu_row a) ⟨zu_self, fun i hi => absurd hi (Nat.not_lt_zero _)⟩) p.2.2.2 hj
  have m0 : mI (rC (jm_up J 144 1 0) j) K T s A H B R y := mI_o m (fun x hx => by rw [show rC (jm_up J 144 1 0) j x = jm_up J 144 1 0 x from zu_row (by omega), zu_row (by omega)]) (fun x hx => rfl)
  have m1 := mI_r (mI_B m0 (J1 := jm_up (rC (jm_up J 144 1 0) j) 167 7 0) (B' := zB_0) ⟨fun x a b => zu_row a, fun k hk => zu_key hk⟩ ⟨zu_self, fun i hi => absurd hi (Nat.not_lt_zero _)⟩) hj
  exact ⟨T, s, A, H, zB_0, _, y, ⟨p.1, p.2.1, zB_0_ok, p.2.2.2⟩, cI_o c1 p.2.2.2 (fun x hx => by rw [show rM (jm_up (rC (jm_up J 144 1 0) j) 167 7 0) (j + 2) x = jm_up (rC (jm_up J 144 1 0) j) 167 7 0 x from zu_row (by omega), zu_row (by omega)]) (fun x hx => rfl), m1⟩
end IV
theorem w_69 (h : Inv J K) : q_69 xs L (d + 1700)  J K (fun r J1 K1 => q_208 xs L (d + 1700)  J1 K1 (fun r2 J2 K2 => r = r2 ∧ Inv J2 K2)) := by
  obtain ⟨T, s, A, H, B, R, y, p, c, m⟩ := h
  have m0 : ∀ j, mI (rC (jm_up J 144 1 0) j) K T s A H B R y := fun j => mI_o m (fun x hx => by rw [show rC (jm_up J 144 1 0) j x = jm_up J 144 1 0 x from zu_row (by omega), zu_row (by omega)]) (fun x hx => rfl)
  refine c_69 c.1 p.2.2.1 c.2.2.2.2.1 c.2.2.1 (fun n => m_208 (m0 0).1 p.2.2.1 (m0 0).2.2.2.1 (m0 0).2.1 (fun _ => ⟨rfl, I_rB (j := 0) p c m (by omega)⟩) (fun z => absurd z n) (fun z => absurd z n)) (fun z n2 => m_208 (m0 4).1 p.2.2.1 (m0 4).2.2.2.1 (m0 4).2.1 (fun n => absurd z n) (fun _ _ => ⟨rfl, I_rB (j := 4) p c m (by omega)⟩) (fun _ z2 => absurd z2 n2)) (fun z z2 J1 F1 Q1 h1 => ?_)
  have h24 := Q1.2.1.1
  have f := F1.1
  have mm : mI J1 K T s A H B R y := mI_o m (fun x hx => f x (by omega) (by omega) (by omega) (by omega) (by omega)) (fun x hx => rfl)
  refine m_208 mm.1 p.2.2.1 mm.2.2.2.1 mm.2.1 (fun n => absurd z n) (fun _ n2 => absurd z2 n2) (fun _ _ J2 F2 Q2 h2 => ⟨rfl, ?_⟩)
  have c1 := cI_m0 c p.2.2.2 Q1 (cst_of c.2.1 h24 (fun x _ _ => f x (by omega) (by omega) (by omega) (by omega) (by omega))) h1 F1.2.2 (fun x hx => f x (by omega) (by omega) (by omega) (by omega) (by omega))
  have m1 := mI_m0 mm Q2 h2 F2.2.2 (fun x hx => F2.1 x (by omega) (by omega) (by omega)) (fun k hk => F2.2.1 k (by omega) (by omega) (by omega) (by omega))
  exact ⟨_, s, A, H, zB_0, R, y, ⟨zW_sb _ _ _ p.1, p.2.1, zB_0_ok, p.2.2.2⟩, cI_o c1 p.2.2.2 (fun x hx => F2.1 x (by omega) (by omega) (by omega)) (fun x hx => rfl), m1⟩
theorem w_76 (h : Inv J K) : q_76 xs L (d + 1700)  J K (fun r J1 K1 => q_211 xs L (d + 1700)  J1 K1 (fun r2 J2 K2 => r = r2 ∧ Inv J2 K2)) := by
  obtain ⟨T, s, A, H, B, R, y, p, c, m⟩ := h
  have h24 := c.1.2.1.1
  have gr := zG_r (A := A) p.2.2.1 (B.1 + 1) 0 (-1) [] A (by omega) (by omega)
  have gg := zG_ge (B := B) (B.1 + 1) 0 (-1) [] A
  have cc : ∀ J1, cRf A J J1 → J1 9 = J 9 → cI J1 K T s A H zB_0 R y := fun J1 F1 g9 => by
    have f := F1.1
    refine cI_m0 c p.2.2.2 (cQ_ask c.1 g9 (fun x h1 h2 h3 => f x (by omega) (by omega) (by omega) (by omega) (by omega))) (fun i hi => ?_) (by rw [f 1 (by omega) (by omega) (by omega) (by omega) (by omega)]; exact c.2.2.1) F1.2 (fun x hx => f x (by omega) (by omega) (by omega) (by omega) (by omega))
    rw [f _ (by omega) (by omega) (by omega) (by omega) (by omega)]
    exact c.2.1 i hi
  have mm : ∀ J1, cRf A J J1 → mI J1 K T s A H B R y := fun J1 F1 => mI_o m (fun x hx => F1.1 x (by omega) (by omega) (by omega) (by omega) (by omega)) (fun x hx => rfl)
  have bad : ∀ (J1 J2 : jZ) (j : Nat), j < 5 → cRf A J J1 → J1 9 = J 9 → mRf A (rC J1 j) J2 → mQ J2 T A → J2 167 7 = 0 → Inv (rM J2 (j + 2)) K := fun J1 J2 j hj F1 g9 F2 Q2 h7 => by
    have c1 := cI_r (cc J1 F1 g9) p.2.2.2 hj
    have m0 : mI (rC J1 j) K T s A H B R y := I_r (mm J1 F1)
    have m1 := mI_r (mI_m0 (s' := s) m0 Q2 (by rw [F2.2 11 (by omega) (by omega) (by omega) (by omega) (by omega) (by omega)]; exact m0.2.1) h7 (fun x hx => F2.1 x (by omega) (by omega) (by omega) (by omega)) (fun k hk => F2.2 k (by omega) (by omega) (by omega) (by omega) (by omega) (by omega))) hj
    exact ⟨T, s, A, H, zB_0, _, y, ⟨p.1, p.2.1, zB_0_ok, p.2.2.2⟩, cI_o c1 p.2.2.2 (fun x hx => by
      rw [show rM J2 (j + 2) x = J2 x from zu_row (by omega)]
      exact F2.1 x (by omega) (by omega) (by omega) (by omega)) (fun x hx => rfl), m1⟩
  refine c_76 c.1 c.2.1 p.2.2.1 c.2.2.2.2.1 (fun n J1 F1 g9 => m_211 (d := d + 100) (I_r (j := 0) (mm J1 F1)).1 p.2.2.1 (I_r (j := 0) (mm J1 F1)).2.2.2.1 (fun _ J2 F2 Q2 h7 => ⟨rfl, bad J1 J2 0 (by omega) F1 g9 F2 Q2 h7⟩) (fun z => absurd z n) (fun z => absurd z n)) (fun z n2 J1 F1 g9 => m_211 (d := d + 100) (I_r (j := 4) (mm J1 F1)).1 p.2.2.1 (I_r (j := 4) (mm J1 F1)).2.2.2.1 (fun n => absurd z n) (fun _ _ J2 F2 Q2 h7 => ⟨rfl, bad J1 J2 4 (by omega) F1 g9 F2 Q2 h7⟩) (fun _ z2 => absurd z2 n2)) (fun z z2 J1 F1 Q1 S1 => m_211 (d := d + 100) (mm J1 F1).1 p.2.2.1 (mm J1 F1).2.2.2.1 (fun n => absurd z n) (fun _ n2 => absurd z2 n2) (fun _ _ J2 F2 Q2 h7 => ⟨rfl, ?_⟩)) gr
  have f := F1.1
  have c1 := cI_m0 (s' := s) c p.2.2.2 Q1 S1 (by rw [f 1 (by omega) (by omega) (by omega) (by omega) (by omega)]; exact c.2.2.1) F1.2 (fun x hx => f x (by omega) (by omega) (by omega) (by omega) (by omega))
  have m1 := mI_m0 (s' := s) (mm J1 F1) Q2 (by rw [F2.2 11 (by omega) (by omega) (by omega) (by omega) (by omega) (by omega)]; exact (mm J1 F1).2.1) h7 (fun x hx => F2.1 x (by omega) (by omega) (by omega) (by omega)) (fun k hk => F2.2 k (by omega) (by omega) (by omega) (by omega) (by omega) (by omega))
  refine ⟨T, s, _, H, zB_0, R, y, ⟨p.1, fun t ht => ?_, zB_0_ok, p.2.2.2⟩, cI_o c1 p.2.2.2 (fun x hx => F2.1 x (by omega) (by omega) (by omega) (by omega)) (fun x hx => rfl), m1⟩
  rcases p.2.1 t ht with q | q | q
  · exact .inl q
  · exact .inr (.inl q)
  · exact .inr (.inr ⟨q.1, by omega⟩)
theorem w_157 (h : Inv J K) : q_157 xs L (d + 1700)  J K (fun r J1 K1 => q_278 xs L (d + 1700)  J1 K1 (fun r2 J2 K2 => r = r2 ∧ Inv J2 K2)) := by
  obtain ⟨T, s, A, H, B, R, y, p, c, m⟩ := h
  refine c_157 c.1 c.2.1 c.2.2.1 (fun J1 F1 G1 Q1 S1 k1 y1 => ?_)
  have m0 : mI J1 K T s A H B R y := mI_o m (fun x hx => F1 x (by omega) (by omega) (by omega)) (fun x hx => rfl)
  refine m_278 m0.1 m0.2.1 (fun J2 F2 Q2 k2 y2 => ⟨rfl, ?_⟩)
  have pk : pKp (some (T, s, A)) := ⟨c.1.1, p.1, c.1.2.1⟩
  have c1 : cI J1 K T s A H B R (some (T, s, A)) := by
    obtain ⟨Q, S, hs, hH, hB, hR, hy⟩ := c
    exact ⟨Q1, S1, by rw [F1 1 (by omega) (by omega) (by omega)]; exact hs, cH_of hH (fun x _ _ => F1 x (by omega) (by omega) (by omega)) (fun x _ _ => rfl), ⟨by rw [F1 144 (by omega) (by omega) (by omega)]; exact hB.1, fun i hi => by rw [F1 145 (by omega) (by omega) (by omega)]; exact hB.2 i hi⟩, fun k hk => by rw [F1 150 (by omega) (by omega) (by omega)]; exact hR k hk, k1, y1⟩
  have m1 : mI J2 K T s A H B R (some (T, s, A)) := by
    obtain ⟨Q, hs, hH, hB, hR, hy⟩ := m0
    exact ⟨Q2, by rw [F2.2 11 (by omega)]; exact hs, mH_of hH (fun x hx => F2.1 x (by omega) (by omega)) (fun x _ _ => rfl), ⟨by rw [F2.2 7 (by omega)]; exact hB.1, fun i hi => by rw [F2.1 182 (by omega) (by omega)]; exact hB.2 i hi⟩, fun k hk => by rw [F2.1 183 (by omega) (by omega)]; exact hR k hk, k2, y2⟩
  exact ⟨T, s, A, H, B, R, some (T, s, A), ⟨p.1, p.2.1, p.2.2.1, pk⟩, cI_o c1 pk (fun x hx => F2.1 x (by omega) (by omega)) (fun x hx => rfl), m1⟩
theorem w_161 (h : Inv J K) : q_161 xs L (d + 1700)  J K (fun r J1 K1 => q_280 xs L (d + 1700)  J1 K1 (fun r2 J2 K2 => r = r2 ∧ Inv J2 K2)) := by
  obtain ⟨T, s, A, H, B, R, y, p, c, m⟩ := h
  cases y with
  | none =>
    have k0 : J 0 11 = 0 := c.2.2.2.2.2.2
    have k2 : rC J 3 167 17 = 0 := (I_r (j := 3) m).2.2.2.2.2
    exact c_161 (T' := T) (A' := A) (s' := s) c.1 c.1.1 c.1.2.1 p.2.1 c.2.2.2.1 (.inl k0) (fun _ => m_280 (T' := T) (A' := A) (s' := s) (I_r (j := 3) m).1 c.1.1 c.1.2.1 p.2.1 (I_r (j := 3) m).2.2.1 (.inl k2) (fun _ => ⟨rfl, I_rr (j := 3) p c m (by omega)⟩) (fun z => by omega)) (fun z => by omega)
  | some y =>
    have k0 : J 0 11 = 1 ∧ cK_at J y.1 y.2.1 y.2.2 := c.2.2.2.2.2.2
    have pk : zt_ok y.1 ∧ zt_sb y.1 ∧ zA_ok y.2.2 := p.2.2.2
    refine c_161 (T' := y.1) (A' := y.2.2) (s' := y.2.1) c.1 pk.1 pk.2.2 p.2.1 c.2.2.2.1 (.inr k0) (fun z => by omega) (fun _ J1 F1 Q1 S1 h1 r1 => ?_)
    have m0 : mI J1 K T s A H B R (some y) := mI_o m (fun x hx => F1 x (by omega) (by omega) (by omega) (by omega)) (fun x hx => rfl)
    have k2 : J1 167 17 = 1 ∧ mK_at J1 y.1 y.2.1 y.2.2 := m0.2.2.2.2.2
    refine m_280 (T' := y.1) (A' := y.2.2) (s' := y.2.1) m0.1 pk.1 pk.2.2 p.2.1 m0.2.2.1 (.inr k2) (fun z => by omega) (fun _ J2 F2 G2 Q2 h2 r2 => ⟨rfl, ?_⟩)
    have c1 : cI J1 K y.1 y.2.1 y.2.2 (zH_k y.2.2.1 H 8) B R (some y) := by
      obtain ⟨Q, S, hs, hH, hB, hR, hy⟩ := c
      exact ⟨Q1, S1, h1, r1, ⟨by rw [F1 144 (by omega) (by omega) (by omega) (by omega)]; exact hB.1, fun i hi => by rw [F1 145 (by omega) (by omega) (by omega) (by omega)]; exact hB.2 i hi⟩, fun k hk => by rw [F1 150 (by omega) (by omega) (by omega) (by omega)]; exact hR k hk, cKp_of hy pk (by rw [F1 0 (by omega) (by omega) (by omega) (by omega)]) (fun x hx => F1 x (by omega) (by omega) (by omega) (by omega))⟩
    have m1 : mI J2 K y.1 y.2.1 y.2.2 (zH_k y.2.2.1 H 8) B R (some y) := by
      obtain ⟨Q, hs, hH, hB, hR, hy⟩ := m0
      exact ⟨Q2, h2, r2, ⟨by rw [G2 7 (by omega) (by omega) (by omega) (by omega)]; exact hB.1, fun i hi => by rw [F2 182 (by omega) (by omega) (by omega)]; exact hB.2 i hi⟩, fun k hk => by rw [F2 183 (by omega) (by omega) (by omega)]; exact hR k hk, mKp_of hy (fun k hk => G2 k (by omega) (by omega) (by omega) (by omega)) (fun x hx => F2 x (by omega) (by omega) (by omega))⟩
    exact ⟨y.1, y.2.1, y.2.2, zH_k y.2.2.1 H 8, B, R, some y, ⟨pk.2.1, zH_k8_ok p.2.1, p.2.2.1, pk⟩, cI_o c1 pk (fun x hx => F2 x (by omega) (by omega) (by omega)) (fun x hx => rfl), m1⟩
end WE
