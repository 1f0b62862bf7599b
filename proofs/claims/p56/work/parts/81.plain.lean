/-! The stack machine's answer fits. -/
theorem zG_r {A : zA} {B : zB} (hB : zB_ok B) : ∀ (n p : Nat) (t : Int) (st : zK) (M : zA), p ≤ B.1 → B.1 < n + p → -1 ≤ (zG B n p t st M).1 ∧ (zG B n p t st M).1 ≤ 300
  | 0, p, t, st, M, hp, hn => by omega
  | n + 1, p, t, st, M, hp, hn => by
    have h250 := hB.1
    by_cases l : p < B.1
    · by_cases h32 : B.2 p = 32
      · rw [zG_b l h32]
        exact zG_r (A := A) hB n (p + 1) t st M (by omega) (by omega)
      · have nr := zN_r (B := B) (p := p + 1) (by omega)
        have pr := zP_r (B := B) (p := p + 1) (by omega)
        by_cases ht : t = -1
        · subst ht
          rw [zG_p l h32]
          split
          · exact zG_r (A := A) hB n (p + 1) _ _ _ (by omega) (by omega)
          · split
            · exact zG_r (A := A) hB n (p + 1) _ _ _ (by omega) (by omega)
            · split
              · exact zG_r (A := A) hB n (p + 1) _ _ _ (by omega) (by omega)
              · split
                · exact zG_r (A := A) hB n (p + 1) _ _ _ (by omega) (by omega)
                · split
                  · split
                    · have pr := pr.resolve_right (by omega)
                      exact zG_r (A := A) hB n _ _ _ _ (by omega) (by omega)
                    · rename_i c
                      have pr := pr.resolve_left (fun z => c z.1)
                      dsimp only
                      omega
                  · split
                    · exact zG_r (A := A) hB n (p + 1) _ _ _ (by omega) (by omega)
                    · split
                      · split
                        · exact zG_r (A := A) hB n _ _ _ _ (by omega) (by omega)
                        · dsimp only
                          omega
                      · dsimp only
                        omega
        · by_cases hk : zki (B.2 p) = -1
          · by_cases h94 : B.2 p = 94
            · rw [zG_s l h94 ht]
              split
              · exact zG_r (A := A) hB n _ _ _ _ (by omega) (by omega)
              · dsimp only
                omega
            · rw [zG_c l h32 ht hk h94]
              generalize zJ 2 t st M = Q
              obtain ⟨t1, st1, M1⟩ := Q
              unfold zCl
              cases st1 with
              | nil =>
                dsimp only
                omega
              | cons e st' =>
                dsimp only
                split
                · exact zG_r (A := A) hB n (p + 1) _ _ _ (by omega) (by omega)
                · split
                  · exact zG_r (A := A) hB n (p + 1) _ _ _ (by omega) (by omega)
                  · split
                    · exact zG_r (A := A) hB n (p + 1) _ _ _ (by omega) (by omega)
                    · dsimp only
                      omega
          · rw [zG_k l h32 ht hk]
            exact zG_r (A := A) hB n (p + 1) _ _ _ (by omega) (by omega)
    · rw [zG_e (by omega)]
      unfold zEn
      split
      · dsimp only
        omega
      · generalize zJ 2 t st M = Q
        obtain ⟨t1, st1, M1⟩ := Q
        unfold zFi
        cases st1 with
        | nil =>
          dsimp only
          omega
        | cons e st' =>
          dsimp only
          omega

