/-! One more ask. -/
def zA_a (A : zA) (r : Nat → Int) : zA := (A.1 + 1, fun i => if i = A.1 then r else A.2 i)
theorem zA_a_n {A : zA} {r : Nat → Int} : (zA_a A r).2 A.1 = r := by
  show (if A.1 = A.1 then r else A.2 A.1) = r
  rw [if_pos rfl]
theorem zA_a_o {A : zA} {r : Nat → Int} {i : Nat} (h : i < A.1) : (zA_a A r).2 i = A.2 i := by
  show (if i = A.1 then r else A.2 i) = A.2 i
  rw [if_neg (by omega)]
theorem zA_a_ok {A : zA} {r : Nat → Int} (hA : zA_ok A) (h : A.1 < 24) (hr : zk_ok A.1 r) : zA_ok (zA_a A r) := by
  refine ⟨by show A.1 + 1 ≤ 24; omega, fun i hi => ?_⟩
  have hi : i < A.1 + 1 := hi
  by_cases c : i = A.1
  · subst c
    rw [zA_a_n]
    exact hr
  · rw [zA_a_o (by omega)]
    exact hA.2 i (by omega)
theorem zk_ls_a {wo : Int} {T : zT} {A : zA} {r : Nat → Int} : ∀ n : Nat, n ≤ A.1 → zk_ls wo T (zA_a A r) n = zk_ls wo T A n
  | 0, _ => rfl
  | n + 1, h => by
    funext j
    rw [zk_ls_s, zk_ls_s, zA_a_o (by omega), zk_ls_a n (by omega)]
theorem zk_sem_a {wo : Int} {T : zT} {A : zA} {r : Nat → Int} {i : Nat} (h : i < A.1) : zk_sem wo T (zA_a A r) i = zk_sem wo T A i := by
  unfold zk_sem
  rw [zk_ls_a (i + 1) (by omega)]
theorem zA_s_a {A : zA} {r : Nat → Int} : ∀ n : Nat, n ≤ A.1 → zA_s (zA_a A r) n = zA_s A n
  | 0, _ => rfl
  | n + 1, h => by
    funext j
    rw [zA_s_s, zA_s_s, zA_a_o (by omega), zA_s_a n (by omega)]
theorem zA_v_a {A : zA} {r : Nat → Int} {i : Nat} (h : i < A.1) : zA_v (zA_a A r) i = zA_v A i := by
  unfold zA_v
  rw [zA_s_a (i + 1) (by omega)]
/-- the class's numbers of the new ask, made over A -/
theorem zA_v_n {A : zA} {r : Nat → Int} (h : zk_ok A.1 r) : zA_v (zA_a A r) A.1 = zA_g r (zA_v A) (zv (r 0)) := by
  have e : zk_ok A.1 ((zA_a A r).2 A.1) := by
    rw [zA_a_n]
    exact h
  rw [zA_v_eq e, zA_a_n]
  exact zA_g_congr h (fun j hj => zA_v_a hj) _ (Nat.le_refl _)
/-- the new Ask object is in order -/
def zo_is (o : Nat → Int) (A : zA) (r : Nat → Int) : Prop := zk_at o r ∧ (o 7 = min 1000000 (zA_g r (zA_v A) (zv (r 0))).1 ∧ o 8 = (zA_g r (zA_v A) (zv (r 0))).2.1 ∧ o 9 = (zA_g r (zA_v A) (zv (r 0))).2.2) ∧ zb (o 10) A.1 ∧ ∀ j, zb (o 10) j → (j = A.1 ∨ (j < A.1 ∧ ∀ p, zk_part (A.2 j) p → zb (o 10) p)) ∧ ∀ p, zk_part r p → zb (o 10) p
def cAf (n : Nat) (J J' : jZ) : Prop := ∀ x, x ≠ 9 → x ≠ 11 + n → J' x = J x
theorem cQ_A {J J' : jZ} {T : zT} {A : zA} {r : Nat → Int} (h : cQ J T A) (hS : zA_st J 9 A) (h24 : A.1 < 24) (hr : zk_ok A.1 r) (f : cAf A.1 J J') (h1 : J' 9 1 = (A.1 : Int) + 1) (ho : zo_is (J' (11 + A.1)) A r) : cQ J' T (zA_a A r) ∧ zA_st J' 9 (zA_a A r) := by
  obtain ⟨a1, a2, a3, a4, a5, a6, a7, a8⟩ := h
  have old : ∀ i, i < A.1 → J' (9 + 2 + i) = J (9 + 2 + i) := fun i hi => f _ (by omega) (by omega)
  refine ⟨⟨a1, zA_a_ok a2 h24 hr, zt_of a3 (by rw [f 1 (by omega) (by omega)]) (f _ (by omega) (by omega)) (f _ (by omega) (by omega)) (f _ (by omega) (by omega)), ⟨?_, fun i hi => ?_⟩, fun i hi => ?_, by rw [f 61 (by omega) (by omega)]; exact a6, ⟨by rw [f 63 (by omega) (by omega)]; exact a7.1, fun k hk => by simp at hk⟩, fun j hj => ?_⟩, fun i hi => ?_⟩
  · rw [h1]
    show (A.1 : Int) + 1 = ((A.1 + 1 : Nat) : Int)
    omega
  · have hi : i < A.1 + 1 := hi
    by_cases c : i = A.1
    · subst c
      rw [zA_a_n]
      exact ho.1
    · rw [zA_a_o (by omega), old i (by omega)]
      exact a4.2 i (by omega)
  · have hi : i < A.1 + 1 := hi
    by_cases c : i = A.1
    · subst c
      refine ⟨ho.2.2.1, fun j hj => ?_⟩
      have z := ho.2.2.2 j hj
      refine ⟨?_, fun p hp => ?_⟩
      · rcases z.1 with q | q <;> omega
      · rcases z.1 with q | q
        · subst q
          rw [zA_a_n] at hp
          exact z.2 p hp
        · rw [zA_a_o q.1] at hp
          exact q.2 p hp
    · have z := a5 i (by omega)
      rw [old i (by omega)]
      refine ⟨z.1, fun j hj => ⟨(z.2 j hj).1, fun p hp => ?_⟩⟩
      have := (z.2 j hj).1
      rw [zA_a_o (by omega)] at hp
      exact (z.2 j hj).2 p hp
  · rw [f 61 (by omega) (by omega)] at hj
    have z := a8 j hj
    refine ⟨by show j < A.1 + 1; omega, ?_⟩
    rw [zk_sem_a z.1]
    exact zs_at_of z.2 (by rw [f _ (by omega) (by omega)]) (fun k hk => by rw [f _ (by omega) (by omega), f _ (by omega) (by omega)]; exact ⟨rfl, rfl⟩)
  · have hi : i < A.1 + 1 := hi
    by_cases c : i = A.1
    · subst c
      rw [zA_v_n hr]
      exact ho.2.1
    · rw [zA_v_a (by omega), old i (by omega)]
      exact hS i (by omega)
def zr_5 (a b c e g : Int) : Nat → Int := fun j => if j = 0 then a else if j = 1 then b else if j = 2 then c else if j = 3 then e else g
theorem zr_5v {a b c e g : Int} : zr_5 a b c e g 0 = a ∧ zr_5 a b c e g 1 = b ∧ zr_5 a b c e g 2 = c ∧ zr_5 a b c e g 3 = e ∧ zr_5 a b c e g 4 = g := ⟨rfl, rfl, rfl, rfl, rfl⟩
/-- the class's Ask becomes -/
def zo_0 (o' : Nat → Int) (k n : Int) (i : Nat) (x y z : Int) : Prop := o' 0 = k ∧ o' 4 = n ∧ o' 1 = x ∧ o' 2 = y ∧ o' 3 = z ∧ o' 5 = 0 ∧ o' 6 = 0 ∧ o' 7 = 1 ∧ o' 8 = 0 ∧ o' 9 = 0 ∧ o' 10 = jz_shl 1 i
theorem s_81 {xs : Nat → Int32} {L d : Nat} {J K : jZ} {P : jZ → jZ → Prop} {k n : Int} {o i : Nat} (ho : jz_kd o = 10) (h : ∀ J', (∀ x, x ≠ o → J' x = J x) → zo_0 (J' o) k n i (-1) (-1) (-1) → P J' K) : q_81 xs L (d + 1) o k n (i : Int) J K P := by
  refine e_81 ho (h _ (fun x hx => ?_) ⟨?_, ?_, ?_, ?_, ?_, ?_, ?_, ?_, ?_, ?_, zu_self⟩)
  · simp only [zu_row hx]
  all_goals (repeat' (first | rw [zu_self] | rw [zu_key (by omega)]))
theorem zw_l_r (r : Nat → Int) : ∀ k : Nat, -2147483648 ≤ zw_l r k ∧ zw_l r k < 2147483648
  | 0 => by simp [zw_l]
  | k + 1 => jz_or_r
theorem zw_l_e {r : Nat → Int} {n : Nat} : ∀ m : Nat, (∀ k, n ≤ k → k < n + m → r (k + 1) = -1) → zw_l r (n + m) = zw_l r n
  | 0, _ => rfl
  | m + 1, h => by
    show jz_or (zw_l r (n + m)) (if r (n + m + 1) = -1 then 0 else jz_shl 1 (r (n + m + 1))) = _
    rw [if_pos (h _ (by omega) (by omega)), jz_or_0 (zw_l_r r _), zw_l_e m (fun k h1 h2 => h k h1 (by omega))]
theorem s_80_46 {xs : Nat → Int32} {L d : Nat} {K : jZ} {P : jZ → jZ → Prop} {r : Nat → Int} {run : Int} {o N : Nat} (ho : jz_kd o = 10) (hN : N ≤ 4) (hv : ∀ k : Nat, k < N → jz_and (jz_shr run (4 * (k : Int))) 15 = r (k + 1) ∧ ¬ r (k + 1) = -1) : ∀ (n k : Nat) (J : jZ), k + n = N → J o 9 = zw_l r k → (∀ J', (∀ x, x ≠ o → J' x = J x) → (∀ f, f ≠ 9 → J' o f = J o f) → J' o 9 = zw_l r N → P J' K) → l_80_46 xs L (d + 1) run (N : Int) o (k : Int) J K P
  | n, k, J, hn, h9, h => by
    refine e_80_46 ho ⟨by omega, by omega, fun q => ?_, fun q => ?_⟩
    · obtain rfl : k = N := by omega
      exact h J (fun _ _ => rfl) (fun _ _ => rfl) h9
    · match n, hn with
      | 0, hn => omega
      | n + 1, hn =>
        have v := hv k (by omega)
        rw [v.1]
        refine s_80_46 ho hN hv n (k + 1) _ (by omega) ?_ (fun J' f1 f2 f3 => h J' (fun x hx => by rw [f1 x hx, zu_row hx]) (fun f hf => by rw [f2 f hf, zu_key hf]) f3)
        rw [zu_self, h9]
        show _ = jz_or (zw_l r k) (if r (k + 1) = -1 then 0 else jz_shl 1 (r (k + 1)))
        rw [if_neg v.2]
