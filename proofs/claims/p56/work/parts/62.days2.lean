/-! Days, through. -/
theorem s_153_20 {xs : Nat → Int32} {L d : Nat} {K : jZ} {P : Int → jZ → jZ → Prop} {N : Nat} (hN : N ≤ 60) : ∀ (n k : Nat) (J : jZ) (X : zT × Int), k + n = N → cX_at J X → zt_ok X.1 → (∀ J', cXf J J' → cX_at J' (zD_n n X) → P (((zD_n n X).1.1 : Nat) : Int) (jm_up J' 61 5 0) K) → l_153_20 xs L (d + 2) (N : Int) (k : Int) J K P
  | n, k, J, X, hn, hr, hT, h => by
    refine e_153_20 ⟨by omega, by omega, fun q => ?_, fun q => ?_⟩
    · obtain rfl : n = 0 := by omega
      rw [hr.1.1]
      exact h J (fun _ _ _ _ => rfl) hr
    · match n, hn, h with
      | 0, hn, h => omega
      | n + 1, hn, h => exact s_154 hT hr (fun J1 f1 x1 => s_153_20 hN n (k + 1) J1 _ (by omega) x1 (zD_2_ok (zD_1_ok hT).1) (fun J2 f2 x2 => h J2 (cXf_tr f1 f2) x2))
def cDf (J J' : jZ) : Prop := (∀ x, x ≠ 1 → x ≠ 2 → x ≠ 3 → x ≠ 61 → J' x = J x) ∧ J' 61 6 = J 61 6
theorem c_153 {xs : Nat → Int32} {L d : Nat} {J K : jZ} {P : Int → jZ → jZ → Prop} {T : zT} {A : zA} (hQ : cQ J T A) {n s : Int} (hs : J 1 4 = s) (hn : -2147483648 ≤ n ∧ n < 2147483648) (hb : ¬ (1 ≤ n ∧ n ≤ 60) → P (-2) (rC J 0) K) (h : 1 ≤ n ∧ n ≤ 60 → ∀ J', cDf J J' → cQ J' (zD_n n.toNat (T, s)).1 A → J' 1 4 = (zD_n n.toNat (T, s)).2 → zt_ok (zD_n n.toNat (T, s)).1 → P (((zD_n n.toNat (T, s)).1.1 : Nat) : Int) J' K) (hS : zt_sb T) : q_153 xs L (d + 3) n J K P := by
  refine e_153 ⟨hn, fun q => s_13 (k := 0) (by omega) (by omega) (hb (by omega)), fun q => ⟨fun q2 => ?_, fun q2 => s_13 (k := 0) (by omega) (by omega) (hb (by omega))⟩⟩
  obtain ⟨N, rfl⟩ : ∃ N : Nat, n = (N : Int) := ⟨n.toNat, by omega⟩
  rw [Int.toNat_natCast] at h
  obtain ⟨a1, a2, a3, a4, a5, a6, a7, a8⟩ := hQ
  have h24 := a2.1
  refine s_153_20 (N := N) (by omega) N 0 J (T, s) (by omega) ⟨a3, hs⟩ a1 (fun J1 f1 x1 => ?_)
  have ok := (zD_n_ok N (T, s) a1 hS).1
  have F : cDf J (jm_up J1 61 5 0) := ⟨fun x a b c e => by rw [zu_row e, f1 x a b c], by rw [zu_key (by omega), f1 61 (by omega) (by omega) (by omega)]⟩
  have g := F.1
  refine h ⟨q, q2⟩ _ F ⟨ok, a2, zt_of x1.1 (by rw [zu_row (by omega)]) (zu_row (by omega)) (zu_row (by omega)) (zu_row (by omega)), zA_at_of a4 h24 (fun x _ _ => g x (by omega) (by omega) (by omega) (by omega)), zA_rc_of a5 h24 (fun x _ _ => g x (by omega) (by omega) (by omega) (by omega)), by rw [F.2]; exact a6, ⟨by rw [g 63 (by omega) (by omega) (by omega) (by omega)]; exact a7.1, fun k hk => by simp at hk⟩, fun j hj => ?_⟩ (by rw [zu_row (by omega)]; exact x1.2) ok
  rw [zu_self] at hj
  exact absurd hj zb_0