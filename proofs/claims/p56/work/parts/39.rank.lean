/-! Rank; window; next. -/
/-- how many of n numbers are ahead of the p-th: more, or as much and sooner -/
def zq_ah (s : Nat → Int) (n p : Nat) : Int := zn (fun q => if s p < s q ∨ (s q = s p ∧ q < p) then 1 else 0) n
theorem zn_mono {f g : Nat → Int} : ∀ n : Nat, (∀ k, k < n → f k ≤ g k) → zn f n ≤ zn g n
  | 0, _ => Int.le_refl _
  | n + 1, h => by
    have := zn_mono n (fun k hk => h k (by omega))
    have := h n (by omega)
    rw [zn, zn]
    omega
theorem zn_mono_lt {f g : Nat → Int} : ∀ n : Nat, (∀ k, k < n → f k ≤ g k) → ∀ k, k < n → f k < g k → zn f n < zn g n
  | 0, _, k, hk, _ => by omega
  | n + 1, h, k, hk, hl => by
    have h1 := h n (by omega)
    rw [zn, zn]
    by_cases q : k = n
    · subst q
      have := zn_mono k (fun j hj => h j (by omega))
      omega
    · have := zn_mono_lt n (fun j hj => h j (by omega)) k (by omega) hl
      omega
theorem zq_ah_lt {s : Nat → Int} {n p q : Nat} (hp : p < n) (h : s q < s p ∨ (s p = s q ∧ p < q)) : zq_ah s n p < zq_ah s n q := by
  unfold zq_ah
  refine zn_mono_lt n (fun k _ => ?_) p hp ?_
  · by_cases c : s p < s k ∨ (s k = s p ∧ k < p)
    · rw [if_pos c, if_pos (by omega)]
      omega
    · rw [if_neg c]
      split <;> omega
  · rw [if_neg (by omega), if_pos (by omega)]
    omega
theorem zq_ah_r (s : Nat → Int) (n p : Nat) (hp : p < n) : 0 ≤ zq_ah s n p ∧ zq_ah s n p < n := by
  have h0 := zn_r (f := fun q => if s p < s q ∨ (s q = s p ∧ q < p) then 1 else 0) (fun k => by split <;> omega) n
  unfold zq_ah
  have := zn_mono_lt (f := fun q => if s p < s q ∨ (s q = s p ∧ q < p) then 1 else 0) (g := fun _ => 1) n (fun k _ => by split <;> omega) p hp (by rw [if_neg (by omega)]; omega)
  have e : ∀ n : Nat, zn (fun _ => 1) n = n := by
    intro n
    induction n with
    | zero => rfl
    | succ n ih => rw [zn, ih]; rfl
  rw [e] at this
  omega
theorem zq_ah_inj {s : Nat → Int} {n p q : Nat} (hp : p < n) (hq : q < n) (h : zq_ah s n p = zq_ah s n q) : p = q := by
  by_cases c : p = q
  · exact c
  · exfalso
    by_cases c1 : s q < s p ∨ (s p = s q ∧ p < q)
    · have := zq_ah_lt hp c1
      omega
    · have := zq_ah_lt (s := s) (p := q) (q := p) hq (by omega)
      omega
/-- numbers put in one each -/
theorem zn_php : ∀ (n : Nat) (f : Nat → Nat), (∀ k, k < n → f k < n) → (∀ j k, j < n → k < n → f j = f k → j = k) → ∀ i, i < n → ∃ k, k < n ∧ f k = i
  | 0, _, _, _, i, hi => by omega
  | n + 1, f, h1, h2, i, hi => by
    have hn := h1 n (by omega)
    have key := zn_php n (fun k => if f k = n then f n else f k) (fun k hk => by
      have a := h1 k (by omega)
      split
      · rename_i q
        by_cases c : f n = n
        · have := h2 k n (by omega) (by omega) (by omega)
          omega
        · omega
      · omega) (fun j k hj hk e => by
      split at e <;> split at e
      · exact h2 j k (by omega) (by omega) (by omega)
      · have := h2 n k (by omega) (by omega) e
        omega
      · have := h2 j n (by omega) (by omega) e
        omega
      · exact h2 j k (by omega) (by omega) e)
    by_cases c : i = f n
    · exact ⟨n, by omega, c.symm⟩
    · by_cases c2 : i = n
      · obtain ⟨k, hk, e⟩ := key (f n) (by omega)
        split at e
        · exact ⟨k, by omega, by omega⟩
        · have := h2 k n (by omega) (by omega) e
          omega
      · obtain ⟨k, hk, e⟩ := key i (by omega)
        split at e
        · omega
        · exact ⟨k, by omega, e⟩
theorem zq_ah_ex {s : Nat → Int} {n : Nat} {i : Int} (hi : 0 ≤ i ∧ i < n) : ∃ p, p < n ∧ zq_ah s n p = i := by
  obtain ⟨p, hp, e⟩ := zn_php n (fun p => (zq_ah s n p).toNat) (fun k hk => by have := zq_ah_r s n k hk; omega) (fun j k hj hk e => by
    have := zq_ah_r s n j hj
    have := zq_ah_r s n k hk
    exact zq_ah_inj (s := s) hj hk (by omega)) i.toNat (by omega)
  have := zq_ah_r s n p hp
  exact ⟨p, hp, by omega⟩