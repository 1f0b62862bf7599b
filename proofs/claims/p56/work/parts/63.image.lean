/-! Image and back: what is taken over. -/
theorem s_158 {xs : Nat → Int32} {L d : Nat} {J K : jZ} {P : jZ → jZ → Prop} {T : zT} {s : Int} {a b : Nat} (hab : (a = 5 ∧ b = 1) ∨ (a = 1 ∧ b = 5)) (hT : zt_ok T) (rT : zt_at J b T) (hs : J b 4 = s) (h : ∀ J', (∀ x, x < a ∨ a + 3 < x → J' x = J x) → zt_at J' a T → J' a 4 = s → P J' K) : q_158 xs L (d + 1) a b J K P := by
  have h60 := hT.1
  have ka : jz_kd a = 18 := by rcases hab with ⟨rfl, _⟩ | ⟨rfl, _⟩ <;> rfl
  have kb : jz_kd b = 18 := by rcases hab with ⟨_, rfl⟩ | ⟨_, rfl⟩ <;> rfl
  refine e_158 ka kb ?_
  simp only [Int.toNat_zero, show Int.toNat 60 = 60 from rfl, show Int.toNat 16 = 16 from rfl]
  have eb : ∀ k, jz_cpy (jz_cpy (jz_cpy J (b + 1) 0 (a + 1) 0 60) (b + 2) 0 (a + 2) 0 60) (b + 3) 0 (a + 3) 0 16 b k = J b k := fun k => by
    rw [zc_row (by omega), zc_row (by omega), zc_row (by omega)]
  rw [eb, eb, hs, rT.1]
  refine h _ (fun x hx => ?_) ⟨?_, fun k hk => ⟨?_, ?_⟩, fun w hw => ?_⟩ zu_self
  · rw [zu_row (by omega), zu_row (by omega), zc_row (by omega), zc_row (by omega), zc_row (by omega)]
  · rw [zu_key (by omega), zu_self]
  · rw [zu_row (by omega), zu_row (by omega), zc_row (by omega), zc_row (by omega), zc_self, if_pos (by omega)]
    rw [show 0 + (k - 0) = k by omega]
    exact (rT.2.1 k hk).1
  · rw [zu_row (by omega), zu_row (by omega), zc_row (by omega), zc_self, if_pos (by omega), zc_row (by omega), show 0 + (k - 0) = k by omega]
    exact (rT.2.1 k hk).2
  · rw [zu_row (by omega), zu_row (by omega), zc_self, if_pos (by omega), zc_row (by omega), zc_row (by omega), show 0 + (w - 0) = w by omega]
    exact rT.2.2 w hw
theorem s_160 {xs : Nat → Int32} {L d : Nat} {J K : jZ} {P : jZ → jZ → Prop} {a b : Nat} (ha : jz_kd a = 10) (hb : jz_kd b = 10) (hab : ¬ b = a) (h : ∀ J', (∀ x, x ≠ a → J' x = J x) → (∀ k, k < 11 → J' a k = J b k) → P J' K) : q_160 xs L (d + 1) a b J K P := by
  refine e_160 ha hb (h _ (fun x hx => by simp only [zu_row hx]) (fun k hk => ?_))
  have e : k = 0 ∨ k = 1 ∨ k = 2 ∨ k = 3 ∨ k = 4 ∨ k = 5 ∨ k = 6 ∨ k = 7 ∨ k = 8 ∨ k = 9 ∨ k = 10 := by omega
  rcases e with rfl | rfl | rfl | rfl | rfl | rfl | rfl | rfl | rfl | rfl | rfl
  all_goals (repeat' (first | rw [zu_self] | rw [zu_key (by omega)]))
theorem s_159_10 {xs : Nat → Int32} {L d : Nat} {K : jZ} {P : jZ → jZ → Prop} {N a b : Nat} (hN : N ≤ 24) (hab : (a = 35 ∧ b = 9) ∨ (a = 9 ∧ b = 35)) : ∀ (n k : Nat) (J : jZ), k + n = N → J a 1 = (N : Int) → (∀ J', (∀ x, x < a + 2 ∨ a + 26 ≤ x → J' x = J x) → (∀ i, i < k → J' (a + 2 + i) = J (a + 2 + i)) → (∀ i, k ≤ i → i < N → ∀ f, f < 11 → J' (a + 2 + i) f = J (b + 2 + i) f) → P J' K) → l_159_10 xs L (d + 1) a b (k : Int) J K P
  | n, k, J, hn, h1, h => by
    have ka : jz_kd a = 12 := by rcases hab with ⟨rfl, _⟩ | ⟨rfl, _⟩ <;> rfl
    have kb : jz_kd b = 12 := by rcases hab with ⟨_, rfl⟩ | ⟨_, rfl⟩ <;> rfl
    refine e_159_10 ka kb ⟨by omega, by omega, fun q => ?_, fun q => ⟨fun q2 => by omega, fun q2 => ⟨by omega, ?_⟩⟩⟩
    · obtain rfl : k = N := by omega
      exact h J (fun _ _ => rfl) (fun _ _ => rfl) (fun i h1 h2 => by omega)
    · match n, hn with
      | 0, hn => omega
      | n + 1, hn =>
        have kx : jz_kd (a + 2 + k) = 10 ∧ jz_kd (b + 2 + k) = 10 := by
          have k1 := jze_12e ka (i := (k : Int)) (by omega)
          have k2 := jze_12e kb (i := (k : Int)) (by omega)
          rw [Int.toNat_natCast] at k1 k2
          exact ⟨k1, k2⟩
        rw [Int.toNat_natCast]
        refine s_160 kx.1 kx.2 (by omega) (fun J1 f1 z1 => s_159_10 hN hab n (k + 1) J1 (by omega) (by rw [f1 a (by omega)]; exact h1) (fun J2 f2 g2 z2 => h J2 (fun x hx => by rw [f2 x hx, f1 x (by omega)]) (fun i hi => by rw [g2 i (by omega), f1 _ (by omega)]) (fun i h3 h4 f hf => ?_)))
        by_cases c : i = k
        · subst c
          rw [g2 i (by omega)]
          exact z1 f hf
        · rw [z2 i (by omega) h4 f hf, f1 _ (by omega)]
