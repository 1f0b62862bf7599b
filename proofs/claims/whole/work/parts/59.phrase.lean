/-! Phrase. -/
def zq_rn (v : Nat → Int) : Nat → Int
  | 0 => 0
  | k + 1 => jz_or (zq_rn v k) (jz_shl (v k) (4 * (k : Int)))
theorem zb_15 {j : Nat} (hj : j < 32) : zb 15 j ↔ j < 4 := by
  have : ∀ j : Nat, j < 32 → ((BitVec.ofInt 32 15).getLsbD j = true ↔ j < 4) := by decide +kernel
  exact this j hj
theorem zb_l4 {x : Int} (h : 0 ≤ x ∧ x < 16) {j : Nat} (q : zb x j) : j < 4 := by
  have h32 := zb_lt q
  obtain ⟨n, rfl⟩ : ∃ n : Nat, x = (n : Int) := ⟨x.toNat, by omega⟩
  rw [zb_nat h32] at q
  by_cases c : j < 4
  · exact c
  · rw [Nat.testBit_lt_two_pow (Nat.lt_of_lt_of_le (show n < 2 ^ 4 by omega) (Nat.pow_le_pow_right (by omega) (by omega)))] at q
    cases q
theorem zq_rn_b {v : Nat → Int} : ∀ N : Nat, N ≤ 4 → (∀ k, k < N → 0 ≤ v k ∧ v k < 16) → ∀ j, j < 32 → (zb (zq_rn v N) j ↔ j / 4 < N ∧ zb (v (j / 4)) (j % 4))
  | 0, _, _, j, _ => by
    show zb 0 j ↔ _
    constructor
    · intro h
      exact absurd h zb_0
    · intro h
      omega
  | N + 1, hN, hv, j, hj => by
    have ih := zq_rn_b N (by omega) (fun k hk => hv k (by omega)) j hj
    show zb (jz_or (zq_rn v N) (jz_shl (v N) (4 * (N : Int)))) j ↔ _
    rw [zb_or, ih, show 4 * (N : Int) = ((4 * N : Nat) : Int) by omega, zb_shl (by omega)]
    constructor
    · rintro (⟨a, b⟩ | ⟨a, b, c⟩)
      · exact ⟨by omega, b⟩
      · have l := zb_l4 (hv N (by omega)) c
        have e : j / 4 = N := by omega
        rw [e, show j % 4 = j - 4 * N by omega]
        exact ⟨by omega, c⟩
    · rintro ⟨a, b⟩
      by_cases c : j / 4 < N
      · exact .inl ⟨c, b⟩
      · have e : j / 4 = N := by omega
        rw [e, show j % 4 = j - 4 * N by omega] at b
        exact .inr ⟨hj, by omega, b⟩
theorem zq_rn_d {v : Nat → Int} {N k : Nat} (hN : N ≤ 4) (hv : ∀ k, k < N → 0 ≤ v k ∧ v k < 16) (hk : k < N) : jz_and (jz_shr (zq_rn v N) (4 * (k : Int))) 15 = v k := by
  have b := hv k hk
  refine zb_ext ⟨Int32.le_toInt _, Int32.toInt_lt _⟩ (by omega) (fun j hj => ?_)
  rw [zb_and, zb_15 hj]
  constructor
  · rintro ⟨a, c⟩
    rw [show 4 * (k : Int) = ((4 * k : Nat) : Int) by omega, zb_shr (by omega) (by omega), zq_rn_b N hN hv _ (by omega)] at a
    rw [show (4 * k + j) / 4 = k by omega, show (4 * k + j) % 4 = j by omega] at a
    exact a.2
  · intro a
    have l := zb_l4 b a
    rw [show 4 * (k : Int) = ((4 * k : Nat) : Int) by omega, zb_shr (by omega) (by omega), zq_rn_b N hN hv _ (by omega), show (4 * k + j) / 4 = k by omega, show (4 * k + j) % 4 = j by omega]
    exact ⟨⟨hk, a⟩, l⟩
theorem zq_rn_0 {v : Nat → Int} {N : Nat} (hN : N ≤ 4) (hv : ∀ k, k < N → 0 ≤ v k ∧ v k < 16) (h0 : 0 < N) : jz_and (zq_rn v N) 15 = v 0 := by
  have b := hv 0 h0
  refine zb_ext ⟨Int32.le_toInt _, Int32.toInt_lt _⟩ (by omega) (fun j hj => ?_)
  rw [zb_and, zb_15 hj, zq_rn_b N hN hv _ hj]
  constructor
  · rintro ⟨a, c⟩
    rw [show j / 4 = 0 by omega, show j % 4 = j by omega] at a
    exact a.2
  · intro a
    have l := zb_l4 b a
    rw [show j / 4 = 0 by omega, show j % 4 = j by omega]
    exact ⟨⟨h0, a⟩, l⟩
def zr_ph (v : Nat → Int) (n : Nat) : Nat → Int := zr_5 1 (v 0) (v 1) (if 2 < n then v 2 else -1) (if 3 < n then v 3 else -1)
def zq_w4 (v : Nat → Int) (n : Nat) : Prop := ∀ k, k < n → 0 ≤ v k ∧ v k < 16
theorem zr_ph_sz {v : Nat → Int} {n : Nat} (hn : 2 ≤ n ∧ n ≤ 4) (hv : zq_w4 v n) : zk_sz (zr_ph v n) = n := by
  unfold zk_sz
  rw [if_neg (by show ¬ (1 : Int) = 0; omega)]
  show (if (if 3 < n then v 3 else -1) = -1 then (if (if 2 < n then v 2 else -1) = -1 then 2 else 3) else 4) = n
  by_cases c3 : 3 < n
  · have := hv 3 c3
    rw [if_pos c3, if_neg (by omega)]
    omega
  · rw [if_neg c3, if_pos rfl]
    by_cases c2 : 2 < n
    · have := hv 2 c2
      rw [if_pos c2, if_neg (by omega)]
      omega
    · rw [if_neg c2, if_pos rfl]
      omega
theorem zr_ph_v {v : Nat → Int} {n k : Nat} (hk : k < n) (hn : n ≤ 4) : zr_ph v n (k + 1) = v k := by
  have e : k = 0 ∨ k = 1 ∨ k = 2 ∨ k = 3 := by omega
  rcases e with rfl | rfl | rfl | rfl
  · rfl
  · rfl
  · show (if 2 < n then v 2 else -1) = v 2
    rw [if_pos hk]
  · show (if 3 < n then v 3 else -1) = v 3
    rw [if_pos hk]
theorem zr_ph_ok {v : Nat → Int} {n i : Nat} (hn : 2 ≤ n ∧ n ≤ 4) (hv : zq_w4 v n) : zk_ok i (zr_ph v n) := by
  refine .inr (.inl ⟨rfl, fun k hk => ?_, ?_⟩)
  · rw [zr_ph_sz hn hv] at hk
    rw [zr_ph_v hk hn.2]
    exact hv k hk
  · show -1 ≤ (if 2 < n then v 2 else -1) ∧ (if 2 < n then v 2 else -1) < 16 ∧ -1 ≤ (if 3 < n then v 3 else -1) ∧ (if 3 < n then v 3 else -1) < 16 ∧ ((if 2 < n then v 2 else -1) = -1 → (if 3 < n then v 3 else -1) = -1)
    by_cases c3 : 3 < n
    · have := hv 3 c3
      have := hv 2 (by omega)
      rw [if_pos c3, if_pos (by omega)]
      omega
    · rw [if_neg c3]
      by_cases c2 : 2 < n
      · have := hv 2 c2
        rw [if_pos c2]
        omega
      · rw [if_neg c2]
        omega
theorem s_101_40 {xs : Nat → Int32} {L d : Nat} {J K : jZ} {P : Int → jZ → jZ → Prop} {T : zT} {A : zA} {v : Nat → Int} {s N : Nat} (hQ : cQ J T A) (hS : zA_st J 9 A) (hN : 2 ≤ N ∧ N ≤ 4) (hs : s < 8) (hv : ∀ e, e < N → K (151 + 2 * s + 1) e = v e ∧ -9223372036854775808 ≤ v e ∧ v e < 9223372036854775808) (hb : ¬ zq_w4 v N → P (-5) (rC J 3) K) (hb2 : zq_w4 v N → ¬ A.1 < 24 → P (-6) (rC J 4) K) (h : zq_w4 v N → A.1 < 24 → ∀ J', cAf A.1 J J' → cQ J' T (zA_a A (zr_ph v N)) → zA_st J' 9 (zA_a A (zr_ph v N)) → P (A.1 : Int) J' K) : ∀ (n k : Nat), k + n = N → (∀ e, e < k → 0 ≤ v e ∧ v e < 16) → l_101_40 xs L (d + 3) (s : Int) (N : Int) (zq_rn v k) (k : Int) J K P
  | n, k, hn, hk0 => by
    refine e_101_40 ⟨by omega, by omega, fun q => ?_, fun q => ⟨by omega, by omega, ?_⟩⟩
    · obtain rfl : k = N := by omega
      have l : zk_len (zr_ph v k) = k := by
        unfold zk_len
        rw [if_pos (.inr rfl), zr_ph_sz hN hk0]
      refine s_98 (r := zr_ph v k) hQ hS (zr_ph_ok hN hk0) (.inr (.inl rfl)) rfl (by rw [l]) (zq_rn_0 hN.2 hk0 (by omega)) (fun e he => ?_) (hb2 hk0) (h hk0)
      rw [l] at he
      rw [zr_ph_v he hN.2]
      exact zq_rn_d hN.2 hk0 he
    · match n, hn with
      | 0, hn => omega
      | n + 1, hn =>
        have v1 := hv k (by omega)
        simp only [Int.toNat_natCast]
        rw [v1.1]
        refine ⟨v1.2, fun q2 => s_13 (k := 3) (by omega) (by omega) (hb (fun z => by have := z k (by omega); omega)), fun q2 => ⟨fun q3 => ?_, fun q3 => s_13 (k := 3) (by omega) (by omega) (hb (fun z => by have := z k (by omega); omega))⟩⟩
        refine s_101_40 hQ hS hN hs hv hb hb2 h n (k + 1) (by omega) (fun e he => ?_)
        by_cases c : e = k
        · subst c
          exact ⟨q2, q3⟩
        · exact hk0 e (by omega)
theorem c_101 {xs : Nat → Int32} {L d : Nat} {J K : jZ} {P : Int → jZ → jZ → Prop} {T : zT} {A : zA} (hQ : cQ J T A) {H : zH} {s n : Int} (hS : zA_st J 9 A) (hH : zH_ok A.1 H) (hr : cH_at J K H) (hs : -2147483648 ≤ s ∧ s < 2147483648) (hn : -2147483648 ≤ n ∧ n < 2147483648) (hb : ¬ (2 ≤ n ∧ n ≤ 4) → P (-2) (rC J 0) K) (hb1 : 2 ≤ n ∧ n ≤ 4 → ¬ zH_rf H s n = 0 → P (zH_rf H s n) (rC J (-2 - zH_rf H s n).toNat) K) (hb2 : 2 ≤ n ∧ n ≤ 4 → zH_rf H s n = 0 → ¬ zq_w4 (H s.toNat).2.2 n.toNat → P (-5) (rC J 3) K) (hb3 : 2 ≤ n ∧ n ≤ 4 → zH_rf H s n = 0 → zq_w4 (H s.toNat).2.2 n.toNat → ¬ A.1 < 24 → P (-6) (rC J 4) K) (h : 2 ≤ n ∧ n ≤ 4 → zH_rf H s n = 0 → zq_w4 (H s.toNat).2.2 n.toNat → A.1 < 24 → ∀ J', cAf A.1 J J' → cQ J' T (zA_a A (zr_ph (H s.toNat).2.2 n.toNat)) → zA_st J' 9 (zA_a A (zr_ph (H s.toNat).2.2 n.toNat)) → P (A.1 : Int) J' K) : q_101 xs L (d + 4) s n J K P := by
  have h24 := hQ.2.1.1
  refine e_101 ⟨hn, fun q => s_13 (k := 0) (by omega) (by omega) (hb (by omega)), fun q => ⟨fun q2 => s_17 h24 hH hr hs hn ?_, fun q2 => s_13 (k := 0) (by omega) (by omega) (hb (by omega))⟩⟩
  have rr := zH_rf_r (H := H) (s := s) (n := n)
  refine ⟨by omega, fun q3 => ?_, fun q3 => s_13 (k := (-2 - zH_rf H s n).toNat) (by omega) (by omega) (hb1 (by omega) q3)⟩
  have c := zH_rf_0 q3
  have hb2 := hb2 ⟨q, q2⟩ q3
  have hb3 := hb3 ⟨q, q2⟩ q3
  have h := h ⟨q, q2⟩ q3
  obtain ⟨j, rfl⟩ : ∃ j : Nat, s = (j : Int) := ⟨s.toNat, by omega⟩
  obtain ⟨N, rfl⟩ : ∃ N : Nat, n = (N : Int) := ⟨n.toNat, by omega⟩
  simp only [Int.toNat_natCast] at h hb2 hb3 c
  have hv := zH_v (N := N) hH (show j < 8 by omega) (by omega)
  have r2 := (hr j (by omega)).2 hv.1
  exact s_101_40 hQ hS (by omega) (by omega) (fun e he => ⟨r2.2 e (by omega), hv.2.2 e he⟩) hb2 hb3 h N 0 (by omega) (fun e he => by omega)
theorem s_228_49 {xs : Nat → Int32} {L d : Nat} {J K : jZ} {P : Int → jZ → jZ → Prop} {T : zT} {A : zA} {v : Nat → Int} {s N : Nat} (hQ : mQ J T A) (hN : 2 ≤ N ∧ N ≤ 4) (hs : s < 8) (hv : ∀ e, e < N → K (172 + s) e = v e ∧ -9223372036854775808 ≤ v e ∧ v e < 9223372036854775808) (hb : ¬ zq_w4 v N → P (-5) (rM J 5) K) (hb2 : zq_w4 v N → ¬ A.1 < 24 → P (-6) (rM J 6) K) (h : zq_w4 v N → A.1 < 24 → ∀ J', mAf J J' → mQ J' T (zA_a A (zr_ph v N)) → P (A.1 : Int) J' K) : ∀ (n k : Nat), k + n = N → (∀ e, e < k → 0 ≤ v e ∧ v e < 16) → l_228_49 xs L (d + 3) (s : Int) (N : Int) (k : Int) J K P
  | n, k, hn, hk0 => by
    refine e_228_49 ⟨by omega, by omega, fun q => ⟨by omega, ?_⟩, fun q => ⟨by omega, by omega, ?_⟩⟩
    · obtain rfl : k = N := by omega
      have ok := zr_ph_ok (i := A.1) hN hk0
      have fin : ∀ a b c e, a = v 0 → b = v 1 → c = (if 2 < k then v 2 else -1) → e = (if 3 < k then v 3 else -1) → q_227 xs L (d + 3) 1 a b c e J K (fun r J' K' => P r J' K') := fun a b c e ha hb' hc he => by
        rw [ha, hb', hc, he]
        exact s_227 hQ (fun _ => ok) (hb2 hk0) (h hk0)
      have v0 := (hv 0 (by omega)).1
      have v1 := (hv 1 (by omega)).1
      simp only [Int.toNat_natCast]
      refine ⟨fun t => ⟨fun t2 => fin _ _ _ _ v0 v1 (by rw [if_neg (by omega)]) (by rw [if_neg (by omega)]), fun t2 => by omega⟩, fun t => ⟨fun t2 => fin _ _ _ _ v0 v1 (by rw [if_pos (by omega)]; exact (hv 2 (by omega)).1) (by rw [if_neg (by omega)]), fun t2 => fin _ _ _ _ v0 v1 (by rw [if_pos (by omega)]; exact (hv 2 (by omega)).1) (by rw [if_pos (by omega)]; exact (hv 3 (by omega)).1)⟩⟩
    · match n, hn with
      | 0, hn => omega
      | n + 1, hn =>
        have v1 := hv k (by omega)
        simp only [Int.toNat_natCast]
        rw [v1.1]
        refine ⟨v1.2, fun q3 => ?_, fun q3 => s_170 (k := 5) (by omega) (by omega) (hb (fun z => by have := z k (by omega); omega))⟩
        refine s_228_49 hQ hN hs hv hb hb2 h n (k + 1) (by omega) (fun e he => ?_)
        by_cases c : e = k
        · subst c
          omega
        · exact hk0 e (by omega)
theorem m_228 {xs : Nat → Int32} {L d : Nat} {J K : jZ} {P : Int → jZ → jZ → Prop} {T : zT} {A : zA} (hQ : mQ J T A) {H : zH} {s n : Int} (hH : zH_ok A.1 H) (hr : mH_at J K H) (hs : -2147483648 ≤ s ∧ s < 2147483648) (hn : -2147483648 ≤ n ∧ n < 2147483648) (hb : ¬ (2 ≤ n ∧ n ≤ 4) → P (-2) (rM J 2) K) (hb1 : 2 ≤ n ∧ n ≤ 4 → ¬ zH_rf H s n = 0 → P (zH_rf H s n) (rM J (-zH_rf H s n).toNat) K) (hb2 : 2 ≤ n ∧ n ≤ 4 → zH_rf H s n = 0 → ¬ zq_w4 (H s.toNat).2.2 n.toNat → P (-5) (rM J 5) K) (hb3 : 2 ≤ n ∧ n ≤ 4 → zH_rf H s n = 0 → zq_w4 (H s.toNat).2.2 n.toNat → ¬ A.1 < 24 → P (-6) (rM J 6) K) (h : 2 ≤ n ∧ n ≤ 4 → zH_rf H s n = 0 → zq_w4 (H s.toNat).2.2 n.toNat → A.1 < 24 → ∀ J', mAf J J' → mQ J' T (zA_a A (zr_ph (H s.toNat).2.2 n.toNat)) → P (A.1 : Int) J' K) : q_228 xs L (d + 4) s n J K P := by
  have h24 := hQ.2.1.1
  refine e_228 ⟨hs, fun q0 => ⟨hn, fun q => s_229 h24 hH hr hs (by omega) (fun q3 => ⟨by omega, fun _ => ?_, fun t => by omega⟩) (fun q3 => ?_), fun q => s_170 (k := 2) (by omega) (by omega) (hb q)⟩, fun q0 => ?_⟩
  · have c := zH_rf_0 q3
    have hb2 := hb2 q q3
    have hb3 := hb3 q q3
    have h := h q q3
    obtain ⟨j, rfl⟩ : ∃ j : Nat, s = (j : Int) := ⟨s.toNat, by omega⟩
    obtain ⟨N, rfl⟩ : ∃ N : Nat, n = (N : Int) := ⟨n.toNat, by omega⟩
    simp only [Int.toNat_natCast] at h hb2 hb3 c
    have hv := zH_v (N := N) hH (show j < 8 by omega) (by omega)
    have r2 := (hr j (by omega)).2.1 hv.1
    exact s_228_49 hQ (by omega) (by omega) (fun e he => ⟨r2.2.2.2 e (by omega), hv.2.2 e he⟩) hb2 hb3 h N 0 (by omega) (fun e he => by omega)
  · have rr := zH_rf_r (H := H) (s := s) (n := n)
    exact ⟨by omega, fun t => absurd t q3, fun _ => hb1 q q3⟩
  · by_cases q : 2 ≤ n ∧ n ≤ 4
    · have e : zH_rf H s n = -2 := by
        unfold zH_rf
        rw [if_pos (by omega)]
      rw [e] at hb1
      exact s_170 (k := 2) (by omega) (by omega) (hb1 q (by omega))
    · exact s_170 (k := 2) (by omega) (by omega) (hb q)
