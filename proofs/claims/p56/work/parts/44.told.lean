/-! Shelves; lists told by a row. -/
/-- shelves: what each holds (-1; a row's sort; 10 and an ask), its size, its elements -/
abbrev zH : Type := Nat → Int × Int × (Nat → Int)
def zH_ok (n : Nat) (H : zH) : Prop := ∀ s, s < 8 → (H s).1 = -1 ∨ (0 ≤ (H s).1 ∧ (H s).1 ≤ 4 ∧ 0 ≤ (H s).2.1 ∧ (H s).2.1 ≤ 40 ∧ ∀ i : Nat, (i : Int) < (H s).2.1 → -9223372036854775808 ≤ (H s).2.2 i ∧ (H s).2.2 i < 9223372036854775808) ∨ (10 ≤ (H s).1 ∧ (H s).1 < 10 + n)
def cH_at (J K : jZ) (H : zH) : Prop := ∀ s, s < 8 → J (151 + 2 * s) 2 = (H s).1 ∧ (0 ≤ (H s).1 ∧ (H s).1 ≤ 4 → J (151 + 2 * s) 1 = (H s).2.1 ∧ ∀ i : Nat, (i : Int) < (H s).2.1 → K (151 + 2 * s + 1) i = (H s).2.2 i)
/-- what keeps n elements of a shelf's row from being told; 0: nothing -/
def zH_rf (H : zH) (s n : Int) : Int := if ¬ (0 ≤ s ∧ s < 8) then -2 else if 10 ≤ (H s.toNat).1 then -3 else if (H s.toNat).1 = -1 then -4 else if (H s.toNat).2.1 < n then -2 else 0
theorem zH_rf_0 {H : zH} {s n : Int} (h : zH_rf H s n = 0) : (0 ≤ s ∧ s < 8) ∧ ¬ 10 ≤ (H s.toNat).1 ∧ ¬ (H s.toNat).1 = -1 ∧ n ≤ (H s.toNat).2.1 := by
  unfold zH_rf at h
  repeat' split at h
  all_goals omega
theorem zH_rf_r {H : zH} {s n : Int} : zH_rf H s n = 0 ∨ zH_rf H s n = -2 ∨ zH_rf H s n = -3 ∨ zH_rf H s n = -4 := by
  unfold zH_rf
  repeat' split
  all_goals omega
theorem s_17 {xs : Nat → Int32} {L d : Nat} {J K : jZ} {P : Int → jZ → jZ → Prop} {H : zH} {s n : Int} {m : Nat} (hm : m ≤ 24) (hH : zH_ok m H) (hr : cH_at J K H) (hs : -2147483648 ≤ s ∧ s < 2147483648) (hn : -2147483648 ≤ n ∧ n < 2147483648) (h : P (zH_rf H s n) J K) : q_17 xs L (d + 2) s n J K P := by
  refine e_17 ⟨hs, fun q => ?_, fun q => ?_⟩
  · obtain ⟨k, rfl⟩ : ∃ k : Nat, s = (k : Int) := ⟨s.toNat, by omega⟩
    have hk := hH k (by omega)
    have rk := hr k (by omega)
    unfold zH_rf at h
    rw [if_neg (by omega)] at h
    simp only [Int.toNat_natCast] at h ⊢
    rw [rk.1]
    refine ⟨by omega, fun q2 => ?_, fun q2 => ⟨fun q3 => ?_, fun q3 => ?_⟩⟩
    · rw [if_pos q2] at h
      exact h
    · rw [(rk.2 q3).1]
      rw [if_neg q2, if_neg (by omega)] at h
      refine ⟨by omega, by omega, fun q4 => ?_, fun q4 => ?_⟩
      · rw [if_neg (by omega)] at h
        exact h
      · rw [if_pos (by omega)] at h
        exact h
    · rw [if_neg q2, if_pos (by omega)] at h
      exact h
  · unfold zH_rf at h
    rw [if_pos q] at h
    exact h
theorem zH_rf_n {H : zH} {s n : Int} {m : Nat} (hH : zH_ok m H) (hn : 0 ≤ n) : zH_rf H s n = if zH_rf H s 0 = 0 then (if (H s.toNat).2.1 < n then -2 else 0) else zH_rf H s 0 := by
  by_cases q : 0 ≤ s ∧ s < 8
  · have hk := hH s.toNat (by omega)
    have hq : ¬ ¬ (0 ≤ s ∧ s < 8) := by omega
    unfold zH_rf
    simp only [if_neg hq]
    by_cases c1 : 10 ≤ (H s.toNat).1
    · simp only [if_pos c1]
      rfl
    · simp only [if_neg c1]
      by_cases c2 : (H s.toNat).1 = -1
      · simp only [if_pos c2]
        rfl
      · simp only [if_neg c2]
        have c3 : ¬ (H s.toNat).2.1 < 0 := by omega
        simp only [if_neg c3, if_true]
  · unfold zH_rf
    rw [if_pos q, if_pos q]
    rfl
/-- the first number at which a list isn't as n twos of a row tell it -/
def zq_ju (l : zL) (v : Nat → Int) (n : Nat) : Int :=
  let r := zn_fd (fun k => !decide (k < l.length ∧ zs_f l k = v (2 * k) ∧ zs_l l k = v (2 * k + 1))) n 0
  if r = -1 then (if (n : Int) < l.length then (n : Int) else -1) else r
def zq_jf (l : zL) (v : Nat → Int) (k : Nat) : Bool := !decide (k < l.length ∧ zs_f l k = v (2 * k) ∧ zs_l l k = v (2 * k + 1))
def zq_jr (l : zL) (n : Nat) (r : Int) : Int := if r = -1 then (if (n : Int) < l.length then (n : Int) else -1) else r
theorem zq_ju_eq (l : zL) (v : Nat → Int) (n : Nat) : zq_ju l v n = zq_jr l n (zn_fd (zq_jf l v) n 0) := rfl
theorem zq_ju_r (l : zL) (v : Nat → Int) (n : Nat) : -1 ≤ zq_ju l v n ∧ zq_ju l v n ≤ n := by
  have b1 := zn_fd_pos (c := zq_jf l v) n 0
  have b2 := zn_fd_lt (c := zq_jf l v) n 0
  rw [zq_ju_eq]
  unfold zq_jr
  repeat' split
  all_goals omega
theorem s_148_15 {xs : Nat → Int32} {L d : Nat} {J K : jZ} {P : Int → jZ → jZ → Prop} {l : zL} {v : Nat → Int} {a b N : Nat} (hN : N ≤ 20) (ha : jz_kd a = 15) (hb : jz_kd b = 16) (hr : zs_at J b l) (hg : zs_ok l) (hv : ∀ i, i < 2 * N → K (a + 1) i = v i ∧ -9223372036854775808 ≤ v i ∧ v i < 9223372036854775808) (h : P (zq_ju l v N) J K) : ∀ (n k : Nat), k + n = N → zq_ju l v N = zq_jr l N (zn_fd (zq_jf l v) n k) → l_148_15 xs L (d + 1) a b (N : Int) (k : Int) J K P
  | n, k, hn, hz => by
    have h60 := hg.1
    have hs := hr.1
    refine e_148_15 ha hb ?_
    rw [hs]
    refine ⟨by omega, by omega, fun q => ?_, fun q => ?_⟩
    · obtain rfl : n = 0 := by omega
      rw [zn_fd, zq_jr, if_pos rfl] at hz
      rw [hz] at h
      refine ⟨by omega, fun q2 => ?_, fun q2 => ?_⟩
      · rw [if_neg (by omega)] at h
        exact h
      · rw [if_pos q2] at h
        exact h
    · match n, hn, hz with
      | 0, hn, hz => omega
      | n + 1, hn, hz =>
        have stop : zq_jf l v k = true → l_148_72 xs L (d + 1) a b (N : Int) (k : Int) J K P := fun q2 => by
          refine e_148_72 ha hb ?_
          rw [zn_fd_t q2, zq_jr, if_neg (by omega)] at hz
          rw [hz] at h
          exact h
        refine ⟨by omega, fun q2 => ?_, fun q2 => stop (by unfold zq_jf; simp; omega)⟩
        have kk := hr.2 k (by omega)
        have bk := hg.2.1 k (by omega)
        have v1 := hv (2 * k) (by omega)
        have v2 := hv (2 * k + 1) (by omega)
        rw [Int.toNat_natCast, kk.1, kk.2, show (2 * (k : Int)).toNat = 2 * k by omega, show (2 * (k : Int) + 1).toNat = 2 * k + 1 by omega, v1.1, v2.1]
        refine ⟨by omega, by omega, by omega, by omega, fun q3 => stop (by unfold zq_jf; simp; omega), fun q3 => ⟨by omega, by omega, by omega, fun q4 => stop (by unfold zq_jf; simp; omega), fun q4 => ?_⟩⟩
        exact s_148_15 hN ha hb hr hg hv h n (k + 1) (by omega) (by rw [hz, zn_fd_f (by unfold zq_jf; simp; omega)])
theorem s_148 {xs : Nat → Int32} {L d : Nat} {J K : jZ} {P : Int → jZ → jZ → Prop} {l : zL} {v : Nat → Int} {a b N : Nat} (hN : N ≤ 20) (ha : jz_kd a = 15) (hb : jz_kd b = 16) (hr : zs_at J b l) (hg : zs_ok l) (h1 : 2 * (N : Int) ≤ J a 1 ∧ J a 1 ≤ 40) (hv : ∀ i, i < 2 * N → K (a + 1) i = v i ∧ -9223372036854775808 ≤ v i ∧ v i < 9223372036854775808) (h : P (zq_ju l v N) J K) : q_148 xs L (d + 2) a b (N : Int) J K P :=
  e_148 ha hb ⟨by omega, by omega, by omega, fun q => s_148_15 hN ha hb hr hg hv h N 0 (by omega) rfl, fun q => by omega⟩
theorem cH_F {J J' K : jZ} {H : zH} (h : cH_at J K H) (hf : cF J J') : cH_at J' K H := fun s hs => by
  have := h s hs
  rw [hf.1 _ (by omega) (by omega) (by omega)]
  exact this
theorem jz_e149 {i : Nat} (h : i < 8) : jz_kd (151 + 2 * i) = 15 := by
  have := jze_149 (i := (i : Int)) (by omega)
  simpa using this
theorem zH_v {m : Nat} {H : zH} {s N : Nat} (hH : zH_ok m H) (hs : s < 8) (h : ¬ 10 ≤ (H s).1 ∧ ¬ (H s).1 = -1 ∧ (N : Int) ≤ (H s).2.1) : (0 ≤ (H s).1 ∧ (H s).1 ≤ 4) ∧ (H s).2.1 ≤ 40 ∧ ∀ i, i < N → -9223372036854775808 ≤ (H s).2.2 i ∧ (H s).2.2 i < 9223372036854775808 := by
  rcases hH s hs with c | c | c
  · omega
  · exact ⟨⟨c.1, c.2.1⟩, c.2.2.2.1, fun i hi => c.2.2.2.2 i (by omega)⟩
  · omega
-- judge
theorem c_149 {xs : Nat → Int32} {L d : Nat} {J K : jZ} {P : Int → jZ → jZ → Prop} {T : zT} {A : zA} (hQ : cQ J T A) {H : zH} {a s n : Int} (hH : zH_ok A.1 H) (hr : cH_at J K H) (ha : -2147483648 ≤ a ∧ a < 2147483648) (hs : -2147483648 ≤ s ∧ s < 2147483648) (hn : -2147483648 ≤ n ∧ n < 2147483648) (hb : ¬ ((0 ≤ a ∧ a < A.1) ∧ (0 ≤ n ∧ n ≤ 20)) → P (-2) (rC J 0) K) (hb2 : (0 ≤ a ∧ a < A.1) ∧ (0 ≤ n ∧ n ≤ 20) → ¬ zH_rf H s (2 * n) = 0 → P (zH_rf H s (2 * n)) (rC J (-2 - zH_rf H s (2 * n)).toNat) K) (h : (0 ≤ a ∧ a < A.1) ∧ (0 ≤ n ∧ n ≤ 20) → zH_rf H s (2 * n) = 0 → ∀ J', cF J J' → cQ J' T A → P (zq_ju (zk_sem (-1) T A a.toNat) (H s.toNat).2.2 n.toNat) J' K) : q_149 xs L (d + 7) a s n J K P := by
  have h24 := hQ.2.1.1
  have h1 := hQ.2.2.2.1.1
  have bad : ¬ ((0 ≤ a ∧ a < A.1) ∧ (0 ≤ n ∧ n ≤ 20)) → q_13 xs L (d + 6) (-2) J K (fun r J' K' => P r J' K') := fun q => s_13 (k := 0) (by omega) (by omega) (hb q)
  refine e_149 ⟨ha, by omega, fun q => ⟨hn, fun t => bad (by omega), fun t => ⟨fun t2 => s_17 h24 hH hr hs (by omega) ?_, fun t2 => bad (by omega)⟩⟩, fun q => bad (by omega)⟩
  have rr := zH_rf_r (H := H) (s := s) (n := 2 * n)
  refine ⟨by omega, fun q2 => ?_, fun q2 => s_13 (k := (-2 - zH_rf H s (2 * n)).toNat) (by omega) (by omega) (hb2 (by omega) q2)⟩
  have c := zH_rf_0 q2
  have hh := h (by omega) q2
  obtain ⟨k, rfl⟩ : ∃ k : Nat, a = (k : Int) := ⟨a.toNat, by omega⟩
  obtain ⟨j, rfl⟩ : ∃ j : Nat, s = (j : Int) := ⟨s.toNat, by omega⟩
  obtain ⟨N, rfl⟩ : ∃ N : Nat, n = (N : Int) := ⟨n.toNat, by omega⟩
  simp only [Int.toNat_natCast] at hh c ⊢
  have hv := zH_v (N := 2 * N) hH (show j < 8 by omega) (by omega)
  refine ⟨by omega, s_of hQ (by omega) (fun J1 f1 _ Q1 _ l1 => ⟨jz_e62 (by omega), ?_⟩)⟩
  have r1 := cH_F hr f1 j (by omega)
  have r2 := r1.2 hv.1
  exact s_148 (by omega) (jz_e149 (by omega)) (jz_e62 (by omega)) l1.2 (zS_gd hQ.1 hQ.2.1 (by omega)).1 (by omega) (fun i hi => ⟨r2.2 i (by omega), hv.2.2 i hi⟩) (hh J1 f1 Q1)