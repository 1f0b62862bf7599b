/-! Phrase. -/
def zq_rn (v : Nat → Int) : Nat → Int
  | 0 => 0
  | k + 1 => jz_or (zq_rn v k) (jz_shl (v k) (4 * (k : Int)))
theorem zb_15 {j : Nat} (hj : j < 32) : zb 15 j ↔ j < 4 := by
  have : ∀ j : Nat, j < 32 → ((BitVec.ofInt 32 15).getLsbD j = true ↔ j < 4) := by decide +kernel
  exact this j hj
theorem zb_l4 {x : Int} (h : 0 ≤ x ∧ x < 16) {j : Nat} (q : zb x j) : j < 4 := by
  have h32 := zb_lt q
  obtain ⟨n, rfl⟩ : ∃ n : Nat, x = (n : Int) := ⟨x.toNat, by omega⟩
  rw [zb_nat h32] at q
  by_cases c : j < 4
  · exact c
  · rw [Nat.testBit_lt_two_pow (Nat.lt_of_lt_of_le (show n < 2 ^ 4 by omega) (Nat.pow_le_pow_right (by omega) (by omega)))] at q
    cases q
theorem zq_rn_b {v : Nat → Int} : ∀ N : Nat, N ≤ 4 → (∀ k, k < N → 0 ≤ v k ∧ v k < 16) → ∀ j, j < 32 → (zb (zq_rn v N) j ↔ j / 4 < N ∧ zb (v (j / 4)) (j % 4))
  | 0, _, _, j, _ => by
    show zb 0 j ↔ _
    constructor
    · intro h
      exact absurd h zb_0
    · intro h
      omega
  | N + 1, hN, hv, j, hj => by
    have ih := zq_rn_b N (by omega) (fun k hk => hv k (by omega)) j hj
    show zb (jz_or (zq_rn v N) (jz_shl (v N) (4 * (N : Int)))) j ↔ _
    rw [zb_or, ih, show 4 * (N : Int) = ((4 * N : Nat) : Int) by omega, zb_shl (by omega)]
    constructor
    · rintro (⟨a, b⟩ | ⟨a, b, c⟩)
      · exact ⟨by omega, b⟩
      · have l := zb_l4 (hv N (by omega)) c
        have e : j / 4 = N := by omega
        rw [e, show j % 4 = j - 4 * N by omega]
        exact ⟨by omega, c⟩
    · rintro ⟨a, b⟩
      by_cases c : j / 4 < N
      · exact .inl ⟨c, b⟩
      · have e : j / 4 = N := by omega
        rw [e, show j % 4 = j - 4 * N by omega] at b
        exact .inr ⟨hj, by omega, b⟩
theorem zq_rn_d {v : Nat → Int} {N k : Nat} (hN : N ≤ 4) (hv : ∀ k, k < N → 0 ≤ v k ∧ v k < 16) (hk : k < N) : jz_and (jz_shr (zq_rn v N) (4 * (k : Int))) 15 = v k := by
  have b := hv k hk
  refine zb_ext ⟨Int32.le_toInt _, Int32.toInt_lt _⟩ (by omega) (fun j hj => ?_)
  rw [zb_and, zb_15 hj]
  constructor
  · rintro ⟨a, c⟩
    rw [show 4 * (k : Int) = ((4 * k : Nat) : Int) by omega, zb_shr (by omega) (by omega), zq_rn_b N hN hv _ (by omega)] at a
    rw [show (4 * k + j) / 4 = k by omega, show (4 * k + j) % 4 = j by omega] at a
    exact a.2
  · intro a
    have l := zb_l4 b a
    rw [show 4 * (k : Int) = ((4 * k : Nat) : Int) by omega, zb_shr (by omega) (by omega), zq_rn_b N hN hv _ (by omega), show (4 * k + j) / 4 = k by omega, show (4 * k + j) % 4 = j by omega]
    exact ⟨⟨hk, a⟩, l⟩
theorem zq_rn_0 {v : Nat → Int} {N : Nat} (hN : N ≤ 4) (hv : ∀ k, k < N → 0 ≤ v k ∧ v k < 16) (h0 : 0 < N) : jz_and (zq_rn v N) 15 = v 0 := by
  have b := hv 0 h0
  refine zb_ext ⟨Int32.le_toInt _, Int32.toInt_lt _⟩ (by omega) (fun j hj => ?_)
  rw [zb_and, zb_15 hj, zq_rn_b N hN hv _ hj]
  constructor
  · rintro ⟨a, c⟩
    rw [show j / 4 = 0 by omega, show j % 4 = j by omega] at a
    exact a.2
  · intro a
    have l := zb_l4 b a
    rw [show j / 4 = 0 by omega, show j % 4 = j by omega]
    exact ⟨⟨h0, a⟩, l⟩
def zr_ph (v : Nat → Int) (n : Nat) : Nat → Int := zr_5 1 (v 0) (v 1) (if 2 < n then v 2 else -1) (if 3 < n then v 3 else -1)
def zq_w4 (v : Nat → Int) (n : Nat) : Prop := ∀ k, k < n → 0 ≤ v k ∧ v k < 16
theorem zr_ph_sz {v : Nat → Int} {n : Nat} (hn : 2 ≤ n ∧ n ≤ 4) (hv : zq_w4 v n) : zk_sz (zr_ph v n) = n := by
  unfold zk_sz
  rw [if_neg (by show ¬ (1 : Int) = 0; omega)]
  show (if (if 3 < n then v 3 else -1) = -1 then (if (if 2 < n then v 2 else -1) = -1 then 2 else 3) else 4) = n
  by_cases c3 : 3 < n
  · have := hv 3 c3
    rw [if_pos c3, if_neg (by omega)]
    omega
  · rw [if_neg c3, if_pos rfl]
    by_cases c2 : 2 < n
    · have := hv 2 c2
      rw [if_pos c2, if_neg (by omega)]
      omega
    · rw [if_neg c2, if_pos rfl]
      omega
theorem zr_ph_v {v : Nat → Int} {n k : Nat} (hk : k < n) (hn : n ≤ 4) : zr_ph v n (k + 1) = v k := by
  have e : k = 0 ∨ k = 1 ∨ k = 2 ∨ k = 3 := by omega
  rcases e with rfl | rfl | rfl | rfl
  · rfl
  · rfl
  · show (if 2 < n then v 2 else -1) = v 2
    rw [if_pos hk]
  · show (if 3 < n then v 3 else -1) = v 3
    rw [if_pos hk]
theorem zr_ph_ok {v : Nat → Int} {n i : Nat} (hn : 2 ≤ n ∧ n ≤ 4) (hv : zq_w4 v n) : zk_ok i (zr_ph v n) := by
  refine .inr (.inl ⟨rfl, fun k hk => ?_, ?_⟩)
  · rw [zr_ph_sz hn hv] at hk
    rw [zr_ph_v hk hn.2]
    exact hv k hk
  · show -1 ≤ (if 2 < n then v 2 else -1) ∧ (if 2 < n then v 2 else -1) < 16 ∧ -1 ≤ (if 3 < n then v 3 else -1) ∧ (if 3 < n then v 3 else -1) < 16 ∧ ((if 2 < n then v 2 else -1) = -1 → (if 3 < n then v 3 else -1) = -1)
    by_cases c3 : 3 < n
    · have := hv 3 c3
      have := hv 2 (by omega)
      rw [if_pos c3, if_pos (by omega)]
      omega
    · rw [if_neg c3]
      by_cases c2 : 2 < n
      · have := hv 2 c2
        rw [if_pos c2]
        omega
      · rw [if_neg c2]
        omega