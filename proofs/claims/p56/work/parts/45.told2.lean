/-! Kinds, leap, fold. -/
noncomputable def zq_kd (T : zT) (A : zA) (a b : Nat) (v : Nat → Int) (n : Nat) (k : Nat) : Prop := 2 ≤ k ∧ zq_ju (zl_of (zp_off (k : Int) (zk_sem (-1) T A a) (zk_sem (-1) T A b))) v n = -1
theorem zq_bs_2 {c : Nat → Prop} (h : ∀ k, k < 2 → ¬ c k) : zq_bs c 2 = 0 := by
  rw [zq_bs_f (h 1 (by omega)), zq_bs_f (h 0 (by omega))]
  rfl
-- leap
/-- from i on, n spans: how many come before the first whose first isn't less than p -/
def zq_lw (l : zL) (p : Int) : Nat → Nat → Nat
  | _, 0 => 0
  | i, n + 1 => if zs_f l i < p then zq_lw l p (i + 1) n + 1 else 0
/-- the cursor after the first k told numbers -/
def zq_lp (l : zL) (v : Nat → Int) : Nat → Nat
  | 0 => 0
  | k + 1 => zq_lp l v k + zq_lw l (v k) (zq_lp l v k) (l.length - zq_lp l v k)
theorem zq_lw_r (l : zL) (p : Int) : ∀ n i : Nat, zq_lw l p i n ≤ n
  | 0, i => Nat.le_refl _
  | n + 1, i => by
    have := zq_lw_r l p n (i + 1)
    unfold zq_lw
    split <;> omega
theorem zq_lp_r (l : zL) (v : Nat → Int) : ∀ k : Nat, zq_lp l v k ≤ l.length
  | 0 => Nat.zero_le _
  | k + 1 => by
    have := zq_lp_r l v k
    have := zq_lw_r l (v k) (l.length - zq_lp l v k) (zq_lp l v k)
    unfold zq_lp
    omega
theorem zq_lw_on {l : zL} {p : Int} : ∀ (n i r : Nat), i + n = l.length → zs_on l (i : Int) p (r : Int) → r = i + zq_lw l p i n
  | 0, i, r, hn, h => by
    obtain ⟨a, b, c, e⟩ := h
    unfold zq_lw
    omega
  | n + 1, i, r, hn, h => by
    obtain ⟨a, b, c, e⟩ := h
    unfold zq_lw
    split
    · rename_i q
      have h1 : i + 1 ≤ r := by
        by_cases t : i = r
        · have := e r rfl (by omega)
          subst t
          omega
        · omega
      have := zq_lw_on n (i + 1) r (by omega) ⟨by omega, b, fun k k1 k2 => c k (by omega) k2, e⟩
      omega
    · rename_i q
      by_cases t : i < r
      · have := c i (by omega) (by omega)
        omega
      · omega