/-! What an ask is: trees, depth, words. -/
def zv (k : Int) : Nat := if k = 11 then 3 else if k = 10 then 1 else if 2 ≤ k ∧ k ≤ 8 then 2 else 0
def zw_l (r : Nat → Int) : Nat → Int
  | 0 => 0
  | k + 1 => jz_or (zw_l r k) (if r (k + 1) = -1 then 0 else jz_shl 1 (r (k + 1)))
def zA_g (r : Nat → Int) (G : Nat → Int × Int × Int) : Nat → Int × Int × Int
  | 0 => (1, 0, if r 0 = 0 ∨ r 0 = 1 then zw_l r 4 else 0)
  | j + 1 => ((zA_g r G j).1 + (G (r (j + 1)).toNat).1, max (zA_g r G j).2.1 ((G (r (j + 1)).toNat).2.1 + 1), jz_or (zA_g r G j).2.2 (G (r (j + 1)).toNat).2.2)
def zA_s (A : zA) : Nat → Nat → Int × Int × Int
  | 0 => fun _ => (0, 0, 0)
  | i + 1 => fun j => if j = i then zA_g (A.2 i) (zA_s A i) (zv (A.2 i 0)) else zA_s A i j
def zA_v (A : zA) (i : Nat) : Int × Int × Int := zA_s A (i + 1) i
theorem zA_s_s {A : zA} {i j : Nat} : zA_s A (i + 1) j = if j = i then zA_g (A.2 i) (zA_s A i) (zv (A.2 i 0)) else zA_s A i j := rfl
theorem zA_s_lt {A : zA} : ∀ (n i : Nat), i < n → zA_s A n i = zA_v A i
  | 0, i, h => by omega
  | n + 1, i, h => by
    by_cases q : i = n
    · subst q
      rfl
    · rw [zA_s_s, if_neg q]
      exact zA_s_lt n i (by omega)
theorem zv_3 (k : Int) : zv k ≤ 3 := by
  unfold zv
  repeat' split
  all_goals omega
theorem zv_kid {i : Nat} {r : Nat → Int} (h : zk_ok i r) {j : Nat} (hj : j < zv (r 0)) : 0 ≤ r (j + 1) ∧ r (j + 1) < i := by
  unfold zv at hj
  have e : j = 0 ∨ j = 1 ∨ j = 2 := by
    revert hj
    repeat' split
    all_goals omega
  have k0 : r (0 + 1) = r 1 := rfl
  have k1 : r (1 + 1) = r 2 := rfl
  have k2 : r (2 + 1) = r 3 := rfl
  rcases h with q | q | q | q | q | q
  · rw [if_neg (by omega), if_neg (by omega), if_neg (by omega)] at hj
    omega
  · rw [if_neg (by omega), if_neg (by omega), if_neg (by omega)] at hj
    omega
  · rw [if_neg (by omega), if_neg (by omega), if_pos (by omega)] at hj
    rcases e with rfl | rfl | rfl <;> omega
  · rw [if_neg (by omega), if_neg (by omega), if_neg (by omega)] at hj
    omega
  · rw [if_neg (by omega), if_pos (by omega)] at hj
    rcases e with rfl | rfl | rfl <;> omega
  · rw [if_pos (by omega)] at hj
    rcases e with rfl | rfl | rfl <;> omega
theorem zA_g_congr {i : Nat} {r : Nat → Int} {G G' : Nat → Int × Int × Int} (h : zk_ok i r) (hG : ∀ j, j < i → G j = G' j) : ∀ k : Nat, k ≤ zv (r 0) → zA_g r G k = zA_g r G' k
  | 0, _ => rfl
  | k + 1, hk => by
    have := zv_kid h (show k < zv (r 0) by omega)
    rw [zA_g, zA_g, zA_g_congr h hG k (by omega), hG _ (by omega)]
theorem zA_v_eq {A : zA} {i : Nat} (h : zk_ok i (A.2 i)) : zA_v A i = zA_g (A.2 i) (zA_v A) (zv (A.2 i 0)) := by
  have e : zA_v A i = zA_g (A.2 i) (zA_s A i) (zv (A.2 i 0)) := by
    unfold zA_v
    rw [zA_s_s, if_pos rfl]
  rw [e]
  exact zA_g_congr h (fun j hj => zA_s_lt i j hj) _ (Nat.le_refl _)
def zA_b : Nat → Int
  | 0 => 1
  | i + 1 => 4 * zA_b i
theorem zA_b_1 : ∀ i : Nat, 1 ≤ zA_b i
  | 0 => by simp [zA_b]
  | i + 1 => by
    have := zA_b_1 i
    unfold zA_b
    omega
theorem zA_b_m {i : Nat} : ∀ n : Nat, zA_b i ≤ zA_b (i + n)
  | 0 => Int.le_refl _
  | n + 1 => by
    have := zA_b_m (i := i) n
    have := zA_b_1 (i + n)
    show _ ≤ 4 * zA_b (i + n)
    omega
theorem zA_v_r {A : zA} (hA : zA_ok A) : ∀ (n i : Nat), i < n → i < A.1 → (1 ≤ (zA_v A i).1 ∧ (zA_v A i).1 ≤ zA_b i) ∧ (0 ≤ (zA_v A i).2.1 ∧ (zA_v A i).2.1 ≤ i)
  | 0, i, h, hi => by omega
  | n + 1, i, h, hi => by
    have ok := hA.2 i hi
    have key : ∀ k : Nat, k ≤ zv (A.2 i 0) → k ≤ 3 → (1 ≤ (zA_g (A.2 i) (zA_v A) k).1 ∧ ((k = 0 ∧ (zA_g (A.2 i) (zA_v A) k).1 ≤ 1) ∨ (1 ≤ i ∧ (zA_g (A.2 i) (zA_v A) k).1 ≤ 1 + k * zA_b (i - 1)))) ∧ (0 ≤ (zA_g (A.2 i) (zA_v A) k).2.1 ∧ (zA_g (A.2 i) (zA_v A) k).2.1 ≤ i) := by
      intro k
      induction k with
      | zero =>
        intro _ _
        simp [zA_g]
      | succ k ih =>
        intro hk h3
        have ih := ih (by omega) (by omega)
        have kid := zv_kid ok (show k < zv (A.2 i 0) by omega)
        have g := zA_v_r hA n (A.2 i (k + 1)).toNat (by omega) (by omega)
        have m := zA_b_m (i := (A.2 i (k + 1)).toNat) (i - 1 - (A.2 i (k + 1)).toNat)
        rw [show (A.2 i (k + 1)).toNat + (i - 1 - (A.2 i (k + 1)).toNat) = i - 1 by omega] at m
        have b1 := zA_b_1 (i - 1)
        rw [zA_g]
        have e : (((k + 1 : Nat) : Int)) * zA_b (i - 1) = (k : Int) * zA_b (i - 1) + zA_b (i - 1) := by
          rw [Int.natCast_add, Int.add_mul]
          omega
        have e0 : 0 ≤ (k : Int) * zA_b (i - 1) := Int.mul_nonneg (by omega) (by omega)
        refine ⟨⟨by dsimp only; omega, .inr ⟨by omega, ?_⟩⟩, by dsimp only; omega, ?_⟩
        · rw [e]
          dsimp only
          omega
        · dsimp only
          omega
    have v3 : zv (A.2 i 0) ≤ 3 := by
      unfold zv
      repeat' split
      all_goals omega
    have q := key _ (Nat.le_refl _) v3
    rw [zA_v_eq ok]
    refine ⟨⟨q.1.1, ?_⟩, q.2⟩
    rcases q.1.2 with ⟨_, q2⟩ | ⟨q2, q3⟩
    · have := zA_b_1 i
      omega
    · obtain ⟨t, rfl⟩ : ∃ t, i = t + 1 := ⟨i - 1, by omega⟩
      have b1 := zA_b_1 t
      rw [show t + 1 - 1 = t by omega] at q3
      show _ ≤ 4 * zA_b t
      have : ((zv (A.2 (t + 1) 0) : Nat) : Int) * zA_b t ≤ 3 * zA_b t := Int.mul_le_mul_of_nonneg_right (by omega) (by omega)
      omega
theorem zA_gd_r {A : zA} (hA : zA_ok A) {i : Nat} (hi : i < A.1) : ∀ k : Nat, k ≤ zv (A.2 i 0) → -2147483648 ≤ (zA_g (A.2 i) (zA_v A) k).2.1 ∧ (zA_g (A.2 i) (zA_v A) k).2.1 < 2147483648
  | 0, _ => by simp [zA_g]
  | k + 1, hk => by
    have h24 := hA.1
    have kid := zv_kid (hA.2 i hi) (show k < zv (A.2 i 0) by omega)
    have g := zA_v_r hA ((A.2 i (k + 1)).toNat + 1) (A.2 i (k + 1)).toNat (by omega) (by omega)
    have ih := zA_gd_r hA hi k (by omega)
    rw [zA_g]
    dsimp only
    omega
theorem zA_v_l {A : zA} (hA : zA_ok A) {i : Nat} (hi : i < A.1) : -9223372036854775808 ≤ (zA_v A i).1 ∧ (zA_v A i).1 < 9223372036854775808 := by
  have h24 := hA.1
  have := zA_v_r hA (i + 1) i (by omega) hi
  have m := zA_b_m (i := i) (24 - i)
  rw [show i + (24 - i) = 24 by omega] at m
  have e : zA_b 24 = 281474976710656 := rfl
  omega
/-- the class's numbers of each ask -/
def zA_st (J : jZ) (b : Nat) (A : zA) : Prop := ∀ i, i < A.1 → J (b + 2 + i) 7 = min 1000000 (zA_v A i).1 ∧ J (b + 2 + i) 8 = (zA_v A i).2.1 ∧ J (b + 2 + i) 9 = (zA_v A i).2.2
def zq_ao (A : zA) (a : Nat) (v : Int) : Int := if v = 0 then A.2 a 0 else if v = 1 then zk_x (A.2 a) else if v = 2 then zk_y (A.2 a) else if v = 3 then zk_z (A.2 a) else if v = 4 then zk_n (A.2 a) else if v = 5 then min 1000000 (zA_v A a).1 else if v = 6 then (zA_v A a).2.1 else (zA_v A a).2.2
theorem c_110 {xs : Nat → Int32} {L d : Nat} {J K : jZ} {P : Int → jZ → jZ → Prop} {T : zT} {A : zA} (hQ : cQ J T A) {a v : Int} (hS : zA_st J 9 A) (ha : -2147483648 ≤ a ∧ a < 2147483648) (hv : -2147483648 ≤ v ∧ v < 2147483648) (hb : ¬ ((0 ≤ a ∧ a < A.1) ∧ (0 ≤ v ∧ v ≤ 7)) → P (-2) (rC J 0) K) (h : (0 ≤ a ∧ a < A.1) ∧ (0 ≤ v ∧ v ≤ 7) → P (zq_ao A a.toNat v) J K) : q_110 xs L (d + 2) a v J K P := by
  have h24 := hQ.2.1.1
  have h1 := hQ.2.2.2.1.1
  refine e_110 ⟨ha, by omega, fun q => ?_, fun q => s_13 (k := 0) (by omega) (by omega) (hb (by omega))⟩
  obtain ⟨k, rfl⟩ : ∃ k : Nat, a = (k : Int) := ⟨a.toNat, by omega⟩
  rw [Int.toNat_natCast] at h ⊢
  have o := hQ.2.2.2.1.2 k (by omega)
  have s := hS k (by omega)
  rw [show 9 + 2 + k = 11 + k by omega] at o s
  obtain ⟨o0, o1, o2, o3, o4, -⟩ := o
  unfold zq_ao at h
  refine ⟨by omega, hv, fun q0 => ?_, fun q0 => ⟨fun q1 => ?_, fun q1 => ⟨fun q2 => ?_, fun q2 => ⟨fun q3 => ?_, fun q3 => ⟨fun q4 => ?_, fun q4 => ⟨fun q5 => ?_, fun q5 => ⟨fun q6 => ?_, fun q6 => ⟨fun q7 => ?_, fun q7 => s_13 (k := 0) (by omega) (by omega) (hb (by omega))⟩⟩⟩⟩⟩⟩⟩⟩
  · rw [o0]
    rw [if_pos q0] at h
    exact h (by omega)
  · rw [o1]
    rw [if_neg q0, if_pos q1] at h
    exact h (by omega)
  · rw [o2]
    rw [if_neg q0, if_neg q1, if_pos q2] at h
    exact h (by omega)
  · rw [o3]
    rw [if_neg q0, if_neg q1, if_neg q2, if_pos q3] at h
    exact h (by omega)
  · rw [o4]
    rw [if_neg q0, if_neg q1, if_neg q2, if_neg q3, if_pos q4] at h
    exact h (by omega)
  · rw [s.1]
    rw [if_neg q0, if_neg q1, if_neg q2, if_neg q3, if_neg q4, if_pos q5] at h
    exact h (by omega)
  · rw [s.2.1]
    rw [if_neg q0, if_neg q1, if_neg q2, if_neg q3, if_neg q4, if_neg q5, if_pos q6] at h
    exact h (by omega)
  · rw [s.2.2]
    rw [if_neg q0, if_neg q1, if_neg q2, if_neg q3, if_neg q4, if_neg q5, if_neg q6] at h
    exact h (by omega)
theorem zk_x_v {r : Nat → Int} : zk_x r = if 0 < zv (r 0) then r 1 else -1 := by
  unfold zk_x zv
  split
  · rw [if_pos]
    repeat' split
    all_goals omega
  · rw [if_neg]
    repeat' split
    all_goals omega
theorem zk_y_v {r : Nat → Int} : zk_y r = if 1 < zv (r 0) then r 2 else -1 := by
  unfold zk_y zv
  split
  · rw [if_pos]
    repeat' split
    all_goals omega
  · rw [if_neg]
    repeat' split
    all_goals omega
theorem zk_z_v {r : Nat → Int} : zk_z r = if 2 < zv (r 0) then r 3 else -1 := by
  unfold zk_z zv
  split
  · rw [if_pos]
    repeat' split
    all_goals omega
  · rw [if_neg]
    repeat' split
    all_goals omega
theorem zk_f {i : Nat} {r : Nat → Int} (hi : i < 24) (h : zk_ok i r) : ∀ j, j < 4 → -2147483648 ≤ r (j + 1) ∧ r (j + 1) < 2147483648 := by
  intro j hj
  have e : j = 0 ∨ j = 1 ∨ j = 2 ∨ j = 3 := by omega
  have k0 : r (0 + 1) = r 1 := rfl
  have k1 : r (1 + 1) = r 2 := rfl
  have k2 : r (2 + 1) = r 3 := rfl
  have k3 : r (3 + 1) = r 4 := rfl
  rcases h with q | ⟨k9, q, q3⟩ | q | q | q | q
  · rcases e with rfl | rfl | rfl | rfl <;> omega
  · have s := zk_sz_r r
    have q0 := q 0 (by omega)
    rcases e with rfl | rfl | rfl | rfl
    · omega
    · by_cases z : 1 < zk_sz r
      · have := q 1 z
        omega
      · unfold zk_sz at z
        revert z
        repeat' split
        all_goals omega
    · omega
    · omega
  · rcases e with rfl | rfl | rfl | rfl <;> omega
  · rcases e with rfl | rfl | rfl | rfl <;> omega
  · rcases e with rfl | rfl | rfl | rfl <;> omega
  · rcases e with rfl | rfl | rfl | rfl <;> omega
def zr_fr (J J' K K' : jZ) : Prop := (∀ x, x ≠ 200 → x ≠ 201 → J' x = J x) ∧ ∀ x, x ≠ 199 → K' x = K x
theorem zr_tr {J J' J'' K K' K'' : jZ} (h : zr_fr J J' K K') (h' : zr_fr J' J'' K' K'') : zr_fr J J'' K K'' := ⟨fun x a b => by rw [h'.1 x a b, h.1 x a b], fun x a => by rw [h'.2 x a, h.2 x a]⟩
-- placeOf
def zq_po (T : zT) (p : Nat) (v : Int) : Int := if v = 0 then T.2.1 p else if v = 1 then T.2.2.1 p else if v = 2 then zt_ea T 1 p else if v = 3 then zt_ea T 2 p else zt_set T p
theorem c_111 {xs : Nat → Int32} {L d : Nat} {J K : jZ} {P : Int → jZ → jZ → Prop} {T : zT} {A : zA} (hQ : cQ J T A) {p v : Int} (hp : -2147483648 ≤ p ∧ p < 2147483648) (hv : -2147483648 ≤ v ∧ v < 2147483648) (hb : ¬ ((0 ≤ p ∧ p < T.1) ∧ (0 ≤ v ∧ v ≤ 4)) → P (-2) (rC J 0) K) (h : (0 ≤ p ∧ p < T.1) ∧ (0 ≤ v ∧ v ≤ 4) → P (zq_po T p.toNat v) J K) : q_111 xs L (d + 2) p v J K P := by
  have h60 := hQ.1.1
  have rT := hQ.2.2.1
  have h1 := rT.1
  refine e_111 ⟨hp, by omega, fun q => ?_, fun q => s_13 (k := 0) (by omega) (by omega) (hb (by omega))⟩
  obtain ⟨k, rfl⟩ : ∃ k : Nat, p = (k : Int) := ⟨p.toNat, by omega⟩
  have e := rT.2.1 k (by omega)
  have w := hQ.1.2.1 k (by omega)
  rw [show 1 + 1 = 2 from rfl, show 1 + 2 = 3 from rfl] at e
  rw [Int.toNat_natCast] at h ⊢
  rw [e.1, e.2]
  unfold zq_po at h
  refine ⟨hv, fun q0 => ⟨by omega, ?_⟩, fun q0 => ⟨fun q1 => ⟨by omega, ?_⟩, fun q1 => ⟨fun q2 => ?_, fun q2 => ⟨fun q3 => ?_, fun q3 => ⟨fun q4 => ⟨by omega, by omega, ?_⟩, fun q4 => s_13 (k := 0) (by omega) (by omega) (hb (by omega))⟩⟩⟩⟩⟩
  · rw [if_pos q0] at h
    exact h (by omega)
  · rw [if_neg q0, if_pos q1] at h
    exact h (by omega)
  · rw [if_neg q0, if_neg q1, if_pos q2] at h
    exact s_112 hQ.1 (by omega) rfl rT (by omega) (h (by omega))
  · rw [if_neg q0, if_neg q1, if_neg q2, if_pos q3] at h
    exact s_112 hQ.1 (by omega) rfl rT (by omega) (h (by omega))
  · rw [if_neg q0, if_neg q1, if_neg q2, if_neg q3] at h
    have u := rT.2.2 (T.2.1 k).toNat (by omega)
    rw [show 1 + 3 = 4 from rfl] at u
    rw [u]
    exact h (by omega)