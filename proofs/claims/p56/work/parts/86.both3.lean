/-! Class and reference side by side: text, ask, image, back. -/
theorem zW_sb {B : zB} : ∀ (n i : Nat) (T : zT), zt_sb T → zt_sb (zW B n i T)
  | 0, _, T, h => h
  | n + 1, i, T, h => by
    refine zW_sb n (i + 1) _ ?_
    unfold zW_1
    split
    · exact h
    · split
      · exact h
      · exact h
theorem zJ_ge {b : Int} : ∀ (st : zK) (t : Int) (M : zA), M.1 ≤ (zJ b t st M).2.2.1
  | [], t, M => Nat.le_refl _
  | e :: st, t, M => by
    by_cases c : (2 ≤ e.1 ∧ e.1 ≤ 8) ∧ min b 5 ≤ min e.1 5
    · rw [zJ_t c]
      have := zJ_ge (b := b) st (M.1 : Int) (zA_a M (zr_5 e.1 (e.2.headD 0) t (-1) (-1)))
      have n1 : (zA_a M (zr_5 e.1 (e.2.headD 0) t (-1) (-1))).1 = M.1 + 1 := rfl
      omega
    · rw [zJ_f c]
      exact Nat.le_refl _
theorem zG_ge {B : zB} : ∀ (n p : Nat) (t : Int) (st : zK) (M : zA), M.1 ≤ (zG B n p t st M).2.1
  | 0, p, t, st, M => Nat.le_refl _
  | n + 1, p, t, st, M => by
    have go : ∀ (p' : Nat) (t' : Int) (st' : zK) (M' : zA), M.1 ≤ M'.1 → M.1 ≤ (zG B n p' t' st' M').2.1 := fun p' t' st' M' h => Nat.le_trans h (zG_ge n p' t' st' M')
    have a1 : ∀ (M' : zA) (r : Nat → Int), M.1 ≤ M'.1 → M.1 ≤ (zA_a M' r).1 := fun M' r h => by
      show M.1 ≤ M'.1 + 1
      omega
    have j1 : ∀ b, M.1 ≤ (zJ b t st M).2.2.1 := fun b => zJ_ge st t M
    by_cases l : p < B.1
    · by_cases h32 : B.2 p = 32
      · rw [zG_b l h32]
        exact go _ _ _ _ (Nat.le_refl _)
      · by_cases ht : t = -1
        · subst ht
          rw [zG_p l h32]
          repeat' split
          all_goals first | exact go _ _ _ _ (Nat.le_refl _) | exact go _ _ _ _ (a1 _ _ (Nat.le_refl _)) | exact Nat.le_refl _
        · by_cases hk : zki (B.2 p) = -1
          · by_cases h94 : B.2 p = 94
            · rw [zG_s l h94 ht]
              split
              · exact go _ _ _ _ (a1 _ _ (j1 5))
              · exact j1 5
            · rw [zG_c l h32 ht hk h94]
              have j2 := j1 2
              generalize zJ 2 t st M = Q at j2
              obtain ⟨t1, st1, M1⟩ := Q
              unfold zCl
              cases st1 with
              | nil => exact j2
              | cons e st' =>
                dsimp only
                split
                · exact go _ _ _ _ j2
                · split
                  · exact go _ _ _ _ j2
                  · split
                    · exact go _ _ _ _ (a1 _ _ j2)
                    · exact j2
          · rw [zG_k l h32 ht hk]
            exact go _ _ _ _ (j1 _)
    · rw [zG_e (by omega)]
      unfold zEn
      split
      · exact Nat.le_refl _
      · have j2 := j1 2
        generalize zJ 2 t st M = Q at j2
        obtain ⟨t1, st1, M1⟩ := Q
        unfold zFi
        cases st1 with
        | nil => exact j2
        | cons e st' => exact j2
section WE
variable {xs : Nat → Int32} {L d : Nat} {J K : jZ}
section IV
variable {J' J1 J2 : jZ} {T T' : zT} {s s' : Int} {A A' : zA} {H H' : zH} {B B' : zB} {R R' : Nat → Int} {y y' : zY}
theorem cQ_ask (h : cQ J T A) (g9 : J' 9 = J 9) (g : ∀ x, x < 144 → x ≠ 9 → x < 11 + A.1 ∨ 35 ≤ x → J' x = J x) : cQ J' T A := by
  obtain ⟨a1, a2, a3, a4, a5, a6, a7, a8⟩ := h
  have h24 := a2.1
  refine ⟨a1, a2, zt_of a3 (by rw [g 1 (by omega) (by omega) (by omega)]) (g _ (by omega) (by omega) (by omega)) (g _ (by omega) (by omega) (by omega)) (g _ (by omega) (by omega) (by omega)), ⟨by rw [g9]; exact a4.1, fun i hi => by rw [g _ (by omega) (by omega) (by omega)]; exact a4.2 i hi⟩, fun i hi => by rw [g _ (by omega) (by omega) (by omega)]; exact a5 i hi, by rw [g 61 (by omega) (by omega) (by omega)]; exact a6, ⟨by rw [g 63 (by omega) (by omega) (by omega)]; exact a7.1, fun k hk => by simp at hk⟩, fun j hj => ?_⟩
  rw [g 61 (by omega) (by omega) (by omega)] at hj
  have z := a8 j hj
  have l := z.1
  exact ⟨z.1, zs_at_of z.2 (by rw [g _ (by omega) (by omega) (by omega)]) (fun k hk => by rw [g _ (by omega) (by omega) (by omega), g _ (by omega) (by omega) (by omega)]; exact ⟨rfl, rfl⟩)⟩
/-- text, seed and asks are new, the tape is empty -/
theorem cI_m0 (h : cI J K T s A H B R y) (hp : pKp y) (Q : cQ J' T' A') (S : zA_st J' 9 A') (hs : J' 1 4 = s') (h0 : J' 144 1 = 0) (f : ∀ x, x = 0 ∨ (5 ≤ x ∧ x ≤ 8) ∨ (35 ≤ x ∧ x < 61) ∨ (149 ≤ x ∧ x < 167) → J' x = J x) : cI J' K T' s' A' H zB_0 R y := by
  obtain ⟨-, -, -, hH, hB, hR, hy⟩ := h
  exact ⟨Q, S, hs, cH_of hH (fun x h1 h2 => f x (by omega)) (fun x _ _ => rfl), ⟨h0, fun i hi => absurd hi (Nat.not_lt_zero _)⟩, fun k hk => by rw [f 150 (by omega)]; exact hR k hk, cKp_of hy hp (by rw [f 0 (by omega)]) (fun x hx => f x (by omega))⟩
end IV
end WE
