/-! Image. -/
theorem zA_cp {J J' : jZ} {a b : Nat} {A : zA} (hA : zA_at J b A) (hR : zA_rc J b A) (hS : ∀ i, i < A.1 → J (b + 2 + i) 7 = min 1000000 (zA_v A i).1 ∧ J (b + 2 + i) 8 = (zA_v A i).2.1 ∧ J (b + 2 + i) 9 = (zA_v A i).2.2) (h1 : J' a 1 = (A.1 : Int)) (h : ∀ i, i < A.1 → ∀ f, f < 11 → J' (a + 2 + i) f = J (b + 2 + i) f) : zA_at J' a A ∧ zA_rc J' a A ∧ zA_st J' a A := by
  refine ⟨⟨h1, fun i hi => ?_⟩, fun i hi => ?_, fun i hi => ?_⟩
  · have e := hA.2 i hi
    have g := h i hi
    unfold zk_at
    rw [g 0 (by omega), g 1 (by omega), g 2 (by omega), g 3 (by omega), g 4 (by omega), g 5 (by omega), g 6 (by omega)]
    exact e
  · rw [h i hi 10 (by omega)]
    exact hR i hi
  · rw [h i hi 7 (by omega), h i hi 8 (by omega), h i hi 9 (by omega)]
    exact hS i hi
theorem s_159 {xs : Nat → Int32} {L d : Nat} {J K : jZ} {P : jZ → jZ → Prop} {A : zA} {a b : Nat} (hA : zA_ok A) (hab : (a = 35 ∧ b = 9) ∨ (a = 9 ∧ b = 35)) (rA : zA_at J b A) (rR : zA_rc J b A) (rS : zA_st J b A) (h : ∀ J', (∀ x, x < a ∨ a + 26 ≤ x → J' x = J x) → zA_at J' a A ∧ zA_rc J' a A ∧ zA_st J' a A → P J' K) : q_159 xs L (d + 2) a b J K P := by
  have h24 := hA.1
  have ka : jz_kd a = 12 := by rcases hab with ⟨rfl, _⟩ | ⟨rfl, _⟩ <;> rfl
  have kb : jz_kd b = 12 := by rcases hab with ⟨_, rfl⟩ | ⟨_, rfl⟩ <;> rfl
  refine e_159 ka kb (s_159_10 h24 hab A.1 0 _ (by omega) (by rw [zu_self]; exact rA.1) (fun J' f g z => ?_))
  refine h J' (fun x hx => by rw [f x (by omega), zu_row (by omega)]) (zA_cp rA rR rS (by rw [f a (by omega), zu_self]; exact rA.1) (fun i hi k hk => ?_))
  rw [z i (by omega) hi k hk, zu_row (by omega)]
/-- what the class has kept -/
def cK_at (J : jZ) (T : zT) (s : Int) (A : zA) : Prop := zt_at J 5 T ∧ J 5 4 = s ∧ zA_at J 35 A ∧ zA_rc J 35 A ∧ zA_st J 35 A
theorem c_157 {xs : Nat → Int32} {L d : Nat} {J K : jZ} {P : Int → jZ → jZ → Prop} {T : zT} {A : zA} (hQ : cQ J T A) {s : Int} (hS : zA_st J 9 A) (hs : J 1 4 = s) (h : ∀ J', (∀ x, x ≠ 0 → x < 5 ∨ 8 < x → x < 35 ∨ 61 ≤ x → J' x = J x) → (∀ k, k ≠ 11 → J' 0 k = J 0 k) → cQ J' T A → zA_st J' 9 A → J' 0 11 = 1 → cK_at J' T s A → P 1 J' K) : q_157 xs L (d + 3) J K P := by
  have Q := hQ
  obtain ⟨a1, a2, a3, a4, a5, a6, a7, a8⟩ := hQ
  have h24 := a2.1
  refine e_157 (s_158 (.inl ⟨rfl, rfl⟩) a1 a3 hs (fun J1 f1 t1 s1 => ?_))
  have o1 : ∀ x, 9 ≤ x → x < 35 → J1 x = J x := fun x h1 h2 => f1 x (by omega)
  refine s_159 a2 (.inl ⟨rfl, rfl⟩) (zA_at_of a4 h24 (fun x _ _ => o1 x (by omega) (by omega))) (zA_rc_of a5 h24 (fun x _ _ => o1 x (by omega) (by omega))) (fun i hi => by rw [o1 _ (by omega) (by omega)]; exact hS i hi) (fun J2 f2 z2 => ?_)
  have F : ∀ x, x ≠ 0 → x < 5 ∨ 8 < x → x < 35 ∨ 61 ≤ x → jm_up J2 0 11 1 x = J x := fun x h0 h1 h2 => by rw [zu_row h0, f2 x (by omega), f1 x (by omega)]
  have T5 : ∀ x, 5 ≤ x → x ≤ 8 → jm_up J2 0 11 1 x = J1 x := fun x h1 h2 => by rw [zu_row (by omega), f2 x (by omega)]
  have A35 : ∀ x, 35 ≤ x → x < 61 → jm_up J2 0 11 1 x = J2 x := fun x h1 h2 => zu_row (by omega)
  refine h _ F (fun k hk => by rw [zu_key hk, f2 0 (by omega), f1 0 (by omega)]) ⟨a1, a2, zt_of a3 (by rw [F 1 (by omega) (by omega) (by omega)]) (F _ (by omega) (by omega) (by omega)) (F _ (by omega) (by omega) (by omega)) (F _ (by omega) (by omega) (by omega)), zA_at_of a4 h24 (fun x _ _ => F x (by omega) (by omega) (by omega)), zA_rc_of a5 h24 (fun x _ _ => F x (by omega) (by omega) (by omega)), by rw [F 61 (by omega) (by omega) (by omega)]; exact a6, ⟨by rw [F 63 (by omega) (by omega) (by omega)]; exact a7.1, fun k hk => by simp at hk⟩, fun j hj => ?_⟩ (fun i hi => by rw [F _ (by omega) (by omega) (by omega)]; exact hS i hi) zu_self ⟨zt_of t1 (by rw [T5 5 (by omega) (by omega)]) (T5 _ (by omega) (by omega)) (T5 _ (by omega) (by omega)) (T5 _ (by omega) (by omega)), by rw [T5 5 (by omega) (by omega)]; exact s1, zA_at_of z2.1 h24 (fun x _ _ => A35 x (by omega) (by omega)), zA_rc_of z2.2.1 h24 (fun x _ _ => A35 x (by omega) (by omega)), fun i hi => by rw [A35 _ (by omega) (by omega)]; exact z2.2.2 i hi⟩
  rw [F 61 (by omega) (by omega) (by omega)] at hj
  have z := a8 j hj
  exact ⟨z.1, zs_at_of z.2 (by rw [F _ (by omega) (by omega) (by omega)]) (fun k hk => by rw [F _ (by omega) (by omega) (by omega), F _ (by omega) (by omega) (by omega)]; exact ⟨rfl, rfl⟩)⟩