/-! What class and reference hold between the calls. -/
abbrev zY : Type := Option (zT × Int × zA)
def cKp (J : jZ) : zY → Prop
  | none => J 0 11 = 0
  | some y => J 0 11 = 1 ∧ cK_at J y.1 y.2.1 y.2.2
def mKp (J : jZ) : zY → Prop
  | none => J 167 17 = 0
  | some y => J 167 17 = 1 ∧ mK_at J y.1 y.2.1 y.2.2
def pKp : zY → Prop
  | none => True
  | some y => zt_ok y.1 ∧ zt_sb y.1 ∧ zA_ok y.2.2
def pI (T : zT) (A : zA) (H : zH) (B : zB) (y : zY) : Prop := zt_sb T ∧ zH_ok A.1 H ∧ zB_ok B ∧ pKp y
def cI (J K : jZ) (T : zT) (s : Int) (A : zA) (H : zH) (B : zB) (R : Nat → Int) (y : zY) : Prop := cQ J T A ∧ zA_st J 9 A ∧ J 1 4 = s ∧ cH_at J K H ∧ cB_at J B ∧ (∀ k, k < 5 → J 150 k = R k) ∧ cKp J y
def mI (J K : jZ) (T : zT) (s : Int) (A : zA) (H : zH) (B : zB) (R : Nat → Int) (y : zY) : Prop := mQ J T A ∧ J 167 11 = s ∧ mH_at J K H ∧ mB_at J B ∧ (∀ k, k < 5 → J 183 (k + 2) = R k) ∧ mKp J y
def Inv (J K : jZ) : Prop := ∃ T s A H B R y, pI T A H B y ∧ cI J K T s A H B R y ∧ mI J K T s A H B R y
section IV
variable {J J' K K' : jZ} {T T' : zT} {s s' : Int} {A A' : zA} {H H' : zH} {B B' : zB} {R R' : Nat → Int} {y y' : zY}
theorem cKp_of (h : cKp J y) (hA : pKp y) (f0 : J' 0 11 = J 0 11) (f : ∀ x, (5 ≤ x ∧ x ≤ 8) ∨ (35 ≤ x ∧ x < 61) → J' x = J x) : cKp J' y := by
  cases y with
  | none =>
    have h : J 0 11 = 0 := h
    show J' 0 11 = 0
    rw [f0]
    exact h
  | some y =>
    obtain ⟨h1, t1, t2, t3, t4, t5⟩ := h
    have n24 := hA.2.2.1
    exact ⟨by rw [f0]; exact h1, zt_of t1 (by rw [f 5 (by omega)]) (f _ (by omega)) (f _ (by omega)) (f _ (by omega)), by rw [f 5 (by omega)]; exact t2, zA_at_of t3 n24 (fun x _ _ => f x (by omega)), zA_rc_of t4 n24 (fun x _ _ => f x (by omega)), fun i hi => by rw [f _ (by omega)]; exact t5 i hi⟩
theorem mKp_of (h : mKp J y) (f7 : ∀ k, 17 ≤ k ∧ k ≤ 20 → J' 167 k = J 167 k) (f : ∀ x, 189 ≤ x ∧ x ≤ 193 → J' x = J x) : mKp J' y := by
  cases y with
  | none =>
    have h : J 167 17 = 0 := h
    show J' 167 17 = 0
    rw [f7 17 (by omega)]
    exact h
  | some y =>
    obtain ⟨h1, m1, m2, m3, m4, m5, m6⟩ := h
    refine ⟨by rw [f7 17 (by omega)]; exact h1, by rw [f7 18 (by omega)]; exact m1, by rw [f7 19 (by omega)]; exact m2, by rw [f7 20 (by omega)]; exact m3, fun k hk => ?_, fun w hw => ?_, fun i hi => ?_⟩
    · rw [f 189 (by omega), f 190 (by omega)]
      exact m4 k hk
    · rw [f 191 (by omega)]
      exact m5 w hw
    · rw [f 192 (by omega), f 193 (by omega)]
      exact m6 i hi
theorem cH_of (h : cH_at J K H) (f : ∀ x, 151 ≤ x → x < 167 → J' x = J x) (g : ∀ x, 151 ≤ x → x < 167 → K' x = K x) : cH_at J' K' H := fun t ht => by
  rw [f _ (by omega) (by omega), g _ (by omega) (by omega)]
  exact h t ht
theorem mH_of (h : mH_at J K H) (f : ∀ x, x = 168 ∨ x = 169 ∨ x = 170 ∨ x = 181 → J' x = J x) (g : ∀ x, 172 ≤ x → x < 180 → K' x = K x) : mH_at J' K' H := fun t ht => by
  rw [f 168 (by omega), f 169 (by omega), f 170 (by omega), f 181 (by omega), g _ (by omega) (by omega)]
  exact h t ht
theorem mQ_hi (h : mQ J T A) (f : ∀ x, 167 ≤ x → J' x = J x) : mQ J' T A := by
  obtain ⟨a1, a2, a3, a4, a5, a6⟩ := h
  refine ⟨a1, a2, mT_of a3 (by rw [f 167 (by omega)]) (f _ (by omega)) (f _ (by omega)) (f _ (by omega)), mA_of a4 (by rw [f 167 (by omega)]) (f _ (by omega)) (f _ (by omega)), by rw [f 167 (by omega)]; exact a5, by rw [f 167 (by omega)]; exact a6.1, fun w i hi => ?_⟩
  rw [f 167 (by omega)] at w
  have z := a6.2 w i hi
  exact ⟨by rw [f 195 (by omega)]; exact z.1, fun k hk => by rw [f 196 (by omega), f 197 (by omega)]; exact z.2 k hk⟩
theorem cI_o (h : cI J K T s A H B R y) (hp : pKp y) (f : ∀ x, x < 167 → J' x = J x) (g : ∀ x, x < 167 → K' x = K x) : cI J' K' T s A H B R y := by
  obtain ⟨Q, S, hs, hH, hB, hR, hy⟩ := h
  have h24 := Q.2.1.1
  refine ⟨cQ_lo Q (fun x hx => f x (by omega)), fun i hi => ?_, by rw [f 1 (by omega)]; exact hs, cH_of hH (fun x _ h2 => f x h2) (fun x _ h2 => g x h2), ⟨by rw [f 144 (by omega)]; exact hB.1, fun i hi => by rw [f 145 (by omega)]; exact hB.2 i hi⟩, fun k hk => by rw [f 150 (by omega)]; exact hR k hk, cKp_of hy hp (by rw [f 0 (by omega)]) (fun x hx => f x (by omega))⟩
  rw [f _ (by omega)]
  exact S i hi
theorem mI_o (h : mI J K T s A H B R y) (f : ∀ x, 167 ≤ x → J' x = J x) (g : ∀ x, 167 ≤ x → K' x = K x) : mI J' K' T s A H B R y := by
  obtain ⟨Q, hs, hH, hB, hR, hy⟩ := h
  exact ⟨mQ_hi Q f, by rw [f 167 (by omega)]; exact hs, mH_of hH (fun x hx => f x (by omega)) (fun x h1 _ => g x (by omega)), ⟨by rw [f 167 (by omega)]; exact hB.1, fun i hi => by rw [f 182 (by omega)]; exact hB.2 i hi⟩, fun k hk => by rw [f 183 (by omega)]; exact hR k hk, mKp_of hy (fun k hk => by rw [f 167 (by omega)]) (fun x hx => f x (by omega))⟩
/-- text, seed and asks are new, all else is as it was -/
theorem cI_mk (h : cI J K T s A H B R y) (hp : pKp y) (Q : cQ J' T' A') (S : zA_st J' 9 A') (hs : J' 1 4 = s') (f : ∀ x, x = 0 ∨ (5 ≤ x ∧ x ≤ 8) ∨ (35 ≤ x ∧ x < 61) ∨ (144 ≤ x ∧ x < 167 ∧ ¬ x = 146 ∧ ¬ x = 147 ∧ ¬ x = 148) → J' x = J x) : cI J' K T' s' A' H B R y := by
  obtain ⟨-, -, -, hH, hB, hR, hy⟩ := h
  exact ⟨Q, S, hs, cH_of hH (fun x h1 h2 => f x (by omega)) (fun x _ _ => rfl), ⟨by rw [f 144 (by omega)]; exact hB.1, fun i hi => by rw [f 145 (by omega)]; exact hB.2 i hi⟩, fun k hk => by rw [f 150 (by omega)]; exact hR k hk, cKp_of hy hp (by rw [f 0 (by omega)]) (fun x hx => f x (by omega))⟩
theorem mI_mk (h : mI J K T s A H B R y) (Q : mQ J' T' A') (hs : J' 167 11 = s') (f : ∀ x, x = 168 ∨ x = 169 ∨ x = 170 ∨ (181 ≤ x ∧ x ≤ 183) ∨ (189 ≤ x ∧ x ≤ 193) → J' x = J x) (f7 : ∀ k, k = 7 ∨ (17 ≤ k ∧ k ≤ 20) → J' 167 k = J 167 k) (g : ∀ x, 172 ≤ x → x < 180 → K' x = K x) : mI J' K' T' s' A' H B R y := by
  obtain ⟨-, -, hH, hB, hR, hy⟩ := h
  exact ⟨Q, hs, mH_of hH (fun x hx => f x (by omega)) g, ⟨by rw [f7 7 (by omega)]; exact hB.1, fun i hi => by rw [f 182 (by omega)]; exact hB.2 i hi⟩, fun k hk => by rw [f 183 (by omega)]; exact hR k hk, mKp_of hy (fun k hk => f7 k (by omega)) (fun x hx => f x (by omega))⟩
theorem cst_of (S : zA_st J 9 A) (h24 : A.1 ≤ 24) (f : ∀ x, 11 ≤ x → x < 35 → J' x = J x) : zA_st J' 9 A := fun i hi => by
  rw [f _ (by omega) (by omega)]
  exact S i hi
def R_up (R : Nat → Int) (j : Nat) : Nat → Int := fun k => if k = j then R k + 1 else R k
theorem cI_r {j : Nat} (h : cI J K T s A H B R y) (hp : pKp y) (hj : j < 5) : cI (rC J j) K T s A H B (R_up R j) y := by
  obtain ⟨Q, S, hs, hH, hB, hR, hy⟩ := h
  have h24 := Q.2.1.1
  have f : ∀ x, x ≠ 150 → rC J j x = J x := fun x hx => zu_row hx
  refine ⟨cQ_lo Q (fun x hx => f x (by omega)), cst_of S h24 (fun x _ _ => f x (by omega)), by rw [f 1 (by omega)]; exact hs, cH_of hH (fun x _ h2 => f x (by omega)) (fun x _ h2 => rfl), ⟨by rw [f 144 (by omega)]; exact hB.1, fun i hi => by rw [f 145 (by omega)]; exact hB.2 i hi⟩, fun k hk => ?_, cKp_of hy hp (by rw [f 0 (by omega)]) (fun x hx => f x (by omega))⟩
  unfold rC R_up
  by_cases c : k = j
  · subst c
    rw [zu_self, if_pos rfl, hR k hk]
  · rw [zu_key c, if_neg c, hR k hk]
theorem mI_r {j : Nat} (h : mI J K T s A H B R y) (hj : j < 5) : mI (rM J (j + 2)) K T s A H B (R_up R j) y := by
  obtain ⟨Q, hs, hH, hB, hR, hy⟩ := h
  have f : ∀ x, x ≠ 183 → rM J (j + 2) x = J x := fun x hx => zu_row hx
  have Q' : mQ (rM J (j + 2)) T A := by
    obtain ⟨a1, a2, a3, a4, a5, a6⟩ := Q
    refine ⟨a1, a2, mT_of a3 (by rw [f 167 (by omega)]) (f _ (by omega)) (f _ (by omega)) (f _ (by omega)), mA_of a4 (by rw [f 167 (by omega)]) (f _ (by omega)) (f _ (by omega)), by rw [f 167 (by omega)]; exact a5, by rw [f 167 (by omega)]; exact a6.1, fun w i hi => ?_⟩
    rw [f 167 (by omega)] at w
    have z := a6.2 w i hi
    exact ⟨by rw [f 195 (by omega)]; exact z.1, fun k hk => by rw [f 196 (by omega), f 197 (by omega)]; exact z.2 k hk⟩
  refine ⟨Q', by rw [f 167 (by omega)]; exact hs, mH_of hH (fun x hx => f x (by omega)) (fun x h1 _ => rfl), ⟨by rw [f 167 (by omega)]; exact hB.1, fun i hi => by rw [f 182 (by omega)]; exact hB.2 i hi⟩, fun k hk => ?_, mKp_of hy (fun k hk => by rw [f 167 (by omega)]) (fun x hx => f x (by omega))⟩
  unfold rM R_up
  by_cases c : k = j
  · subst c
    rw [zu_self, if_pos rfl, hR k hk]
  · rw [zu_key (by omega), if_neg c, hR k hk]
theorem cI_F (h : cI J K T s A H B R y) (hp : pKp y) (F : cF J J') (Q : cQ J' T A) : cI J' K T s A H B R y := by
  have h24 := Q.2.1.1
  exact cI_mk h hp Q (cst_of h.2.1 h24 (fun x _ _ => F.1 x (by omega) (by omega) (by omega))) (by rw [F.1 1 (by omega) (by omega) (by omega)]; exact h.2.2.1) (fun x hx => F.1 x (by omega) (by omega) (by omega))
theorem mI_F (h : mI J K T s A H B R y) (F : mF J J') (Q : mQ J' T A) : mI J' K T s A H B R y :=
  mI_mk h Q (by rw [F.2 11 (by omega)]; exact h.2.1) (fun x hx => F.1 x (by omega) (by omega)) (fun k hk => F.2 k (by omega)) (fun x _ _ => rfl)
-- what queries need
theorem I_r {j : Nat} (m : mI J K T s A H B R y) : mI (rC J j) K T s A H B R y := mI_o m (fun x hx => zu_row (by omega)) (fun x hx => rfl)
theorem I_rr {j : Nat} (p : pI T A H B y) (c : cI J K T s A H B R y) (m : mI J K T s A H B R y) (hj : j < 5) : Inv (rM (rC J j) (j + 2)) K :=
  ⟨T, s, A, H, B, _, y, p, cI_o (cI_r c p.2.2.2 hj) p.2.2.2 (fun x hx => zu_row (by omega)) (fun x hx => rfl), mI_r (I_r m) hj⟩
theorem I_F {J1 : jZ} (m : mI J K T s A H B R y) (F : cF J J1) : mI J1 K T s A H B R y := mI_o m (fun x hx => F.1 x (by omega) (by omega) (by omega)) (fun x hx => rfl)
theorem I_FF {J1 J2 : jZ} (p : pI T A H B y) (c : cI J K T s A H B R y) (m : mI J K T s A H B R y) (F : cF J J1) (Q : cQ J1 T A) (F2 : mF J1 J2) (Q2 : mQ J2 T A) : Inv J2 K :=
  ⟨T, s, A, H, B, R, y, p, cI_o (cI_F c p.2.2.2 F Q) p.2.2.2 (fun x hx => F2.1 x (by omega) (by omega)) (fun x hx => rfl), mI_F (I_F m F) F2 Q2⟩
theorem I_Fr {J1 J2 : jZ} {j : Nat} (p : pI T A H B y) (c : cI J K T s A H B R y) (m : mI J K T s A H B R y) (F : cF J J1) (Q : cQ J1 T A) (F2 : mF (rC J1 j) J2) (Q2 : mQ J2 T A) (hj : j < 5) : Inv (rM J2 (j + 2)) K := by
  have c1 := cI_r (cI_F c p.2.2.2 F Q) p.2.2.2 hj
  have m1 := mI_r (mI_F (I_r (j := j) (I_F m F)) F2 Q2) hj
  exact ⟨T, s, A, H, B, _, y, p, cI_o c1 p.2.2.2 (fun x hx => by
    rw [show rM J2 (j + 2) x = J2 x from zu_row (by omega)]
    exact F2.1 x (by omega) (by omega)) (fun x hx => rfl), m1⟩
end IV
