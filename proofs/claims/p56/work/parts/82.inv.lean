/-! What class and reference hold between the calls. -/
abbrev zY : Type := Option (zT × Int × zA)
def cKp (J : jZ) : zY → Prop
  | none => J 0 11 = 0
  | some y => J 0 11 = 1 ∧ cK_at J y.1 y.2.1 y.2.2
def pKp : zY → Prop
  | none => True
  | some y => zt_ok y.1 ∧ zt_sb y.1 ∧ zA_ok y.2.2
def pI (T : zT) (A : zA) (H : zH) (B : zB) (y : zY) : Prop := zt_sb T ∧ zH_ok A.1 H ∧ zB_ok B ∧ pKp y
def cI (J K : jZ) (T : zT) (s : Int) (A : zA) (H : zH) (B : zB) (R : Nat → Int) (y : zY) : Prop := cQ J T A ∧ zA_st J 9 A ∧ J 1 4 = s ∧ cH_at J K H ∧ cB_at J B ∧ (∀ k, k < 5 → J 150 k = R k) ∧ cKp J y
section IV
variable {J J' K K' : jZ} {T T' : zT} {s s' : Int} {A A' : zA} {H H' : zH} {B B' : zB} {R R' : Nat → Int} {y y' : zY}
theorem cKp_of (h : cKp J y) (hA : pKp y) (f0 : J' 0 11 = J 0 11) (f : ∀ x, (5 ≤ x ∧ x ≤ 8) ∨ (35 ≤ x ∧ x < 61) → J' x = J x) : cKp J' y := by
  cases y with
  | none =>
    have h : J 0 11 = 0 := h
    show J' 0 11 = 0
    rw [f0]
    exact h
  | some y =>
    obtain ⟨h1, t1, t2, t3, t4, t5⟩ := h
    have n24 := hA.2.2.1
    exact ⟨by rw [f0]; exact h1, zt_of t1 (by rw [f 5 (by omega)]) (f _ (by omega)) (f _ (by omega)) (f _ (by omega)), by rw [f 5 (by omega)]; exact t2, zA_at_of t3 n24 (fun x _ _ => f x (by omega)), zA_rc_of t4 n24 (fun x _ _ => f x (by omega)), fun i hi => by rw [f _ (by omega)]; exact t5 i hi⟩
theorem cH_of (h : cH_at J K H) (f : ∀ x, 151 ≤ x → x < 167 → J' x = J x) (g : ∀ x, 151 ≤ x → x < 167 → K' x = K x) : cH_at J' K' H := fun t ht => by
  rw [f _ (by omega) (by omega), g _ (by omega) (by omega)]
  exact h t ht
theorem cI_o (h : cI J K T s A H B R y) (hp : pKp y) (f : ∀ x, x < 167 → J' x = J x) (g : ∀ x, x < 167 → K' x = K x) : cI J' K' T s A H B R y := by
  obtain ⟨Q, S, hs, hH, hB, hR, hy⟩ := h
  have h24 := Q.2.1.1
  refine ⟨cQ_lo Q (fun x hx => f x (by omega)), fun i hi => ?_, by rw [f 1 (by omega)]; exact hs, cH_of hH (fun x _ h2 => f x h2) (fun x _ h2 => g x h2), ⟨by rw [f 144 (by omega)]; exact hB.1, fun i hi => by rw [f 145 (by omega)]; exact hB.2 i hi⟩, fun k hk => by rw [f 150 (by omega)]; exact hR k hk, cKp_of hy hp (by rw [f 0 (by omega)]) (fun x hx => f x (by omega))⟩
  rw [f _ (by omega)]
  exact S i hi
/-- text, seed and asks are new, all else is as it was -/
theorem cI_mk (h : cI J K T s A H B R y) (hp : pKp y) (Q : cQ J' T' A') (S : zA_st J' 9 A') (hs : J' 1 4 = s') (f : ∀ x, x = 0 ∨ (5 ≤ x ∧ x ≤ 8) ∨ (35 ≤ x ∧ x < 61) ∨ (144 ≤ x ∧ x < 167 ∧ ¬ x = 146 ∧ ¬ x = 147 ∧ ¬ x = 148) → J' x = J x) : cI J' K T' s' A' H B R y := by
  obtain ⟨-, -, -, hH, hB, hR, hy⟩ := h
  exact ⟨Q, S, hs, cH_of hH (fun x h1 h2 => f x (by omega)) (fun x _ _ => rfl), ⟨by rw [f 144 (by omega)]; exact hB.1, fun i hi => by rw [f 145 (by omega)]; exact hB.2 i hi⟩, fun k hk => by rw [f 150 (by omega)]; exact hR k hk, cKp_of hy hp (by rw [f 0 (by omega)]) (fun x hx => f x (by omega))⟩
theorem cst_of (S : zA_st J 9 A) (h24 : A.1 ≤ 24) (f : ∀ x, 11 ≤ x → x < 35 → J' x = J x) : zA_st J' 9 A := fun i hi => by
  rw [f _ (by omega) (by omega)]
  exact S i hi
def R_up (R : Nat → Int) (j : Nat) : Nat → Int := fun k => if k = j then R k + 1 else R k
theorem cI_r {j : Nat} (h : cI J K T s A H B R y) (hp : pKp y) (hj : j < 5) : cI (rC J j) K T s A H B (R_up R j) y := by
  obtain ⟨Q, S, hs, hH, hB, hR, hy⟩ := h
  have h24 := Q.2.1.1
  have f : ∀ x, x ≠ 150 → rC J j x = J x := fun x hx => zu_row hx
  refine ⟨cQ_lo Q (fun x hx => f x (by omega)), cst_of S h24 (fun x _ _ => f x (by omega)), by rw [f 1 (by omega)]; exact hs, cH_of hH (fun x _ h2 => f x (by omega)) (fun x _ h2 => rfl), ⟨by rw [f 144 (by omega)]; exact hB.1, fun i hi => by rw [f 145 (by omega)]; exact hB.2 i hi⟩, fun k hk => ?_, cKp_of hy hp (by rw [f 0 (by omega)]) (fun x hx => f x (by omega))⟩
  unfold rC R_up
  by_cases c : k = j
  · subst c
    rw [zu_self, if_pos rfl, hR k hk]
  · rw [zu_key c, if_neg c, hR k hk]
theorem cI_F (h : cI J K T s A H B R y) (hp : pKp y) (F : cF J J') (Q : cQ J' T A) : cI J' K T s A H B R y := by
  have h24 := Q.2.1.1
  exact cI_mk h hp Q (cst_of h.2.1 h24 (fun x _ _ => F.1 x (by omega) (by omega) (by omega))) (by rw [F.1 1 (by omega) (by omega) (by omega)]; exact h.2.2.1) (fun x hx => F.1 x (by omega) (by omega) (by omega))
-- what queries need
end IV
