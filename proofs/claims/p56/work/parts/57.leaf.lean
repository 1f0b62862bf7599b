/-! Asks that have no parts: word, phrase, region. -/
theorem zk_lf {i : Nat} {r : Nat → Int} (h : zk_ok i r) (k : r 0 = 0 ∨ r 0 = 1 ∨ r 0 = 9) : zk_x r = -1 ∧ zk_y r = -1 ∧ zk_z r = -1 ∧ zk_n r = r 1 ∧ zv (r 0) = 0 ∧ (∀ p, ¬ zk_part r p) := by
  unfold zk_x zk_y zk_z zk_n zv zk_part
  rw [if_neg (by omega), if_neg (by omega), if_neg (by omega), if_pos k, if_neg (by omega), if_neg (by omega), if_neg (by omega)]
  exact ⟨rfl, rfl, rfl, rfl, rfl, fun p => by omega⟩
theorem zk_lw {i : Nat} {r : Nat → Int} (h : zk_ok i r) (k : r 0 = 0 ∨ r 0 = 1 ∨ r 0 = 9) : zk_len r ≤ 4 ∧ (∀ j : Nat, j < zk_len r → ¬ r (j + 1) = -1) ∧ (zA_g r (fun _ => (0, 0, 0)) 0).2.2 = zw_l r (zk_len r) := by
  have k0 : r (0 + 1) = r 1 := rfl
  have k1 : r (1 + 1) = r 2 := rfl
  have k2 : r (2 + 1) = r 3 := rfl
  have k3 : r (3 + 1) = r 4 := rfl
  rcases k with k | k | k
  · have l : zk_len r = 1 := by
      unfold zk_len zk_sz
      rw [if_pos (.inl k), if_pos k]
    have f : 0 ≤ r 1 ∧ r 2 = -1 ∧ r 3 = -1 ∧ r 4 = -1 := by
      rcases h with q | q | q | q | q | q <;> omega
    rw [l]
    refine ⟨by omega, fun j hj => ?_, ?_⟩
    · obtain rfl : j = 0 := by omega
      omega
    · show (if r 0 = 0 ∨ r 0 = 1 then zw_l r 4 else 0) = zw_l r 1
      rw [if_pos (.inl k)]
      refine zw_l_e (n := 1) 3 (fun j h1 h2 => ?_)
      have ej : j = 1 ∨ j = 2 ∨ j = 3 := by omega
      rcases ej with rfl | rfl | rfl <;> omega
  · have f : (∀ j, j < zk_sz r → 0 ≤ r (j + 1) ∧ r (j + 1) < 16) ∧ (r 3 = -1 → r 4 = -1) := by
      rcases h with q | q | q | q | q | q
      · omega
      · exact ⟨q.2.1, q.2.2.2.2.2.2⟩
      all_goals omega
    have l : zk_len r = zk_sz r := by
      unfold zk_len
      rw [if_pos (.inr k)]
    have s4 := zk_sz_r r
    rw [l]
    refine ⟨by omega, fun j hj q => by have := f.1 j hj; omega, ?_⟩
    show (if r 0 = 0 ∨ r 0 = 1 then zw_l r 4 else 0) = zw_l r (zk_sz r)
    rw [if_pos (.inr k)]
    have e : zk_sz r = (if r 4 = -1 then (if r 3 = -1 then 2 else 3) else 4) := by
      unfold zk_sz
      rw [if_neg (by omega)]
    by_cases c4 : r 4 = -1
    · by_cases c3 : r 3 = -1
      · rw [e, if_pos c4, if_pos c3]
        refine zw_l_e (n := 2) 2 (fun j h1 h2 => ?_)
        have ej : j = 2 ∨ j = 3 := by omega
        rcases ej with rfl | rfl <;> omega
      · rw [e, if_pos c4, if_neg c3]
        refine zw_l_e (n := 3) 1 (fun j h1 h2 => ?_)
        obtain rfl : j = 3 := by omega
        omega
    · rw [e, if_neg c4]
  · have l : zk_len r = 0 := by
      unfold zk_len
      rw [if_neg (by omega)]
    rw [l]
    refine ⟨by omega, fun j hj => by omega, ?_⟩
    show (if r 0 = 0 ∨ r 0 = 1 then zw_l r 4 else 0) = zw_l r 0
    rw [if_neg (by omega)]
    rfl
theorem zA_g_0 {r : Nat → Int} {G : Nat → Int × Int × Int} : zA_g r G 0 = (1, 0, (zA_g r (fun _ => (0, 0, 0)) 0).2.2) := rfl
theorem s_80 {xs : Nat → Int32} {L d : Nat} {J K : jZ} {P : jZ → jZ → Prop} {A : zA} {r : Nat → Int} {run : Int} (h24 : A.1 < 24) (hr : zk_ok A.1 r) (hk : r 0 = 0 ∨ r 0 = 1 ∨ r 0 = 9) (h15 : jz_and run 15 = r 1) (hv : ∀ k : Nat, k < zk_len r → jz_and (jz_shr run (4 * (k : Int))) 15 = r (k + 1)) (h : ∀ J', (∀ x, x ≠ 11 + A.1 → J' x = J x) → zo_is (J' (11 + A.1)) A r → P J' K) : q_80 xs L (d + 2) 9 (A.1 : Int) (r 0) run (zk_len r : Int) J K P := by
  have lf := zk_lf hr hk
  have lw := zk_lw hr hk
  have ho := jz_e10 h24
  refine e_80 rfl ⟨by omega, fun t => by omega, fun _ => ⟨fun _ => ⟨by omega, ?_⟩, fun t => by omega⟩⟩
  rw [Int.toNat_natCast, show 9 + 2 + A.1 = 11 + A.1 by omega, h15]
  refine s_81 ho (fun J1 f1 z => ?_)
  obtain ⟨z0, z4, z1, z2, z3, z5, z6, z7, z8, z9, z10⟩ := z
  refine s_80_46 (r := r) (N := zk_len r) ho lw.1 (fun k hk2 => ⟨hv k hk2, lw.2.1 k hk2⟩) (zk_len r) 0 _ (by omega) ?_ (fun J' f2 g2 w2 => h J' (fun x hx => by rw [f2 x hx, zu_row hx, zu_row hx, f1 x hx]) ?_)
  · rw [zu_key (by omega), zu_key (by omega)]
    exact z9
  · have g : ∀ f, f ≠ 9 → f ≠ 5 → f ≠ 6 → J' (11 + A.1) f = J1 (11 + A.1) f := fun f a b c => by rw [g2 f a, zu_key c, zu_key b]
    refine ⟨⟨?_, ?_, ?_, ?_, ?_, ?_, fun k hk2 => ?_⟩, ⟨?_, ?_, ?_⟩, ?_, fun j hj => ?_⟩
    · rw [g 0 (by omega) (by omega) (by omega)]
      exact z0
    · rw [g 1 (by omega) (by omega) (by omega), lf.1]
      exact z1
    · rw [g 2 (by omega) (by omega) (by omega), lf.2.1]
      exact z2
    · rw [g 3 (by omega) (by omega) (by omega), lf.2.2.1]
      exact z3
    · rw [g 4 (by omega) (by omega) (by omega), lf.2.2.2.1]
      exact z4
    · rw [g2 6 (by omega), zu_self]
    · rw [g2 5 (by omega), zu_key (by omega), zu_self]
      exact hv k hk2
    · rw [g 7 (by omega) (by omega) (by omega), z7, lf.2.2.2.2.1, zA_g_0]
      rfl
    · rw [g 8 (by omega) (by omega) (by omega), z8, lf.2.2.2.2.1, zA_g_0]
    · rw [w2, lf.2.2.2.2.1, zA_g_0]
      exact lw.2.2.symm
    · rw [g 10 (by omega) (by omega) (by omega), z10, zb_shl (by omega), zb_1]
      omega
    · rw [g 10 (by omega) (by omega) (by omega), z10, zb_shl (by omega), zb_1] at hj
      exact ⟨.inl (by omega), fun p hp => absurd hp (lf.2.2.2.2.2 p)⟩
theorem s_98 {xs : Nat → Int32} {L d : Nat} {J K : jZ} {P : Int → jZ → jZ → Prop} {T : zT} {A : zA} (hQ : cQ J T A) {r : Nat → Int} {run k len : Int} (hS : zA_st J 9 A) (hr : zk_ok A.1 r) (hk : r 0 = 0 ∨ r 0 = 1 ∨ r 0 = 9) (ek : k = r 0) (el : len = (zk_len r : Int)) (h15 : jz_and run 15 = r 1) (hv : ∀ k : Nat, k < zk_len r → jz_and (jz_shr run (4 * (k : Int))) 15 = r (k + 1)) (hb : ¬ A.1 < 24 → P (-6) (rC J 4) K) (h : A.1 < 24 → ∀ J', cAf A.1 J J' → cQ J' T (zA_a A r) → zA_st J' 9 (zA_a A r) → P (A.1 : Int) J' K) : q_98 xs L (d + 3) k run len J K P := by
  have h24 := hQ.2.1.1
  have h1 := hQ.2.2.2.1.1
  subst ek
  subst el
  refine e_98 ⟨by omega, fun q => s_13 (k := 4) (by omega) (by omega) (hb (by omega)), fun q => ?_⟩
  rw [h1]
  refine s_80 (by omega) hr hk h15 hv (fun J' f o => ?_)
  rw [f 9 (by omega), h1, show ((A.1 : Int) + 1) - 1 = (A.1 : Int) by omega]
  have F : cAf A.1 J (jm_up J' 9 1 ((A.1 : Int) + 1)) := fun x a b => by rw [zu_row a, f x b]
  have Z := cQ_A hQ hS (by omega) hr F zu_self (by rw [zu_row (by omega)]; exact o)
  exact h (by omega) _ F Z.1 Z.2
-- word
theorem jz_d16 : ∀ w : Nat, w < 16 → jz_and (w : Int) 15 = (w : Int) ∧ jz_and (jz_shr (w : Int) 0) 15 = (w : Int) := by decide +kernel
theorem c_97 {xs : Nat → Int32} {L d : Nat} {J K : jZ} {P : Int → jZ → jZ → Prop} {T : zT} {A : zA} (hQ : cQ J T A) {w : Int} (hS : zA_st J 9 A) (hw : -2147483648 ≤ w ∧ w < 2147483648) (hb : ¬ (0 ≤ w ∧ w < 16) → P (-2) (rC J 0) K) (hb2 : 0 ≤ w ∧ w < 16 → ¬ A.1 < 24 → P (-6) (rC J 4) K) (h : 0 ≤ w ∧ w < 16 → A.1 < 24 → ∀ J', cAf A.1 J J' → cQ J' T (zA_a A (zr_5 0 w (-1) (-1) (-1))) → zA_st J' 9 (zA_a A (zr_5 0 w (-1) (-1) (-1))) → P (A.1 : Int) J' K) : q_97 xs L (d + 4) w J K P := by
  refine e_97 ⟨hw, fun q => ?_, fun q => s_13 (k := 0) (by omega) (by omega) (hb q)⟩
  have v := zr_5v (a := 0) (b := w) (c := -1) (e := -1) (g := -1)
  obtain ⟨n, rfl⟩ : ∃ n : Nat, w = (n : Int) := ⟨w.toNat, by omega⟩
  have b := jz_d16 n (by omega)
  refine s_98 (r := zr_5 0 (n : Int) (-1) (-1) (-1)) hQ hS (.inl ⟨rfl, q.1, q.2, rfl, rfl, rfl⟩) (.inl rfl) rfl rfl b.1 (fun k hk => ?_) (hb2 q) (h q)
  have hk : k < 1 := hk
  obtain rfl : k = 0 := by omega
  exact b.2
-- region
theorem c_104 {xs : Nat → Int32} {L d : Nat} {J K : jZ} {P : Int → jZ → jZ → Prop} {T : zT} {A : zA} (hQ : cQ J T A) {w : Int} (hS : zA_st J 9 A) (hw : -2147483648 ≤ w ∧ w < 2147483648) (hb : ¬ (0 ≤ w ∧ w ≤ 2) → P (-2) (rC J 0) K) (hb2 : 0 ≤ w ∧ w ≤ 2 → ¬ A.1 < 24 → P (-6) (rC J 4) K) (h : 0 ≤ w ∧ w ≤ 2 → A.1 < 24 → ∀ J', cAf A.1 J J' → cQ J' T (zA_a A (zr_5 9 w (-1) (-1) (-1))) → zA_st J' 9 (zA_a A (zr_5 9 w (-1) (-1) (-1))) → P (A.1 : Int) J' K) : q_104 xs L (d + 4) w J K P := by
  refine e_104 ⟨hw, fun q => s_13 (k := 0) (by omega) (by omega) (hb (by omega)), fun q => ⟨fun q2 => ?_, fun q2 => s_13 (k := 0) (by omega) (by omega) (hb (by omega))⟩⟩
  obtain ⟨n, rfl⟩ : ∃ n : Nat, w = (n : Int) := ⟨w.toNat, by omega⟩
  have b := jz_d16 n (by omega)
  refine s_98 (r := zr_5 9 (n : Int) (-1) (-1) (-1)) hQ hS (.inr (.inr (.inr (.inl ⟨rfl, q, q2, rfl, rfl, rfl⟩)))) (.inr (.inr rfl)) rfl rfl b.1 (fun k hk => ?_) (hb2 ⟨q, q2⟩) (h ⟨q, q2⟩)
  exact absurd hk (Nat.not_lt_zero k)