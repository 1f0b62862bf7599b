/-! The class's reader: its two stacks, what is pushed and popped. -/
def zSt (a : Nat → Int) : List Int → Prop
  | [] => True
  | x :: l => a l.length = x ∧ zSt a l
theorem zSt_of {a a' : Nat → Int} : ∀ {l : List Int}, zSt a l → (∀ i, i < l.length → a' i = a i) → zSt a' l
  | [], _, _ => trivial
  | x :: l, h, f => ⟨by rw [f l.length (Nat.lt_succ_self _)]; exact h.1, zSt_of h.2 (fun i hi => f i (Nat.lt_succ_of_lt hi))⟩
theorem zu_cg {J J' : jZ} {a k x : Nat} {v : Int} (h : J' x = J x) : jm_up J' a k v x = jm_up J a k v x := by
  by_cases c : x = a
  · subst c
    funext y
    by_cases c2 : y = k
    · subst c2
      rw [zu_self, zu_self]
    · rw [zu_key c2, zu_key c2, h]
  · rw [zu_row c, zu_row c, h]
theorem cQ_lo {J J' : jZ} {T : zT} {A : zA} (h : cQ J T A) (g : ∀ x, x < 144 → J' x = J x) : cQ J' T A := by
  obtain ⟨a1, a2, a3, a4, a5, a6, a7, a8⟩ := h
  have h24 := a2.1
  refine ⟨a1, a2, zt_of a3 (by rw [g 1 (by omega)]) (g _ (by omega)) (g _ (by omega)) (g _ (by omega)), zA_at_of a4 h24 (fun x _ _ => g x (by omega)), zA_rc_of a5 h24 (fun x _ _ => g x (by omega)), by rw [g 61 (by omega)]; exact a6, ⟨by rw [g 63 (by omega)]; exact a7.1, fun k hk => by simp at hk⟩, fun j hj => ?_⟩
  rw [g 61 (by omega)] at hj
  have z := a8 j hj
  have l := z.1
  exact ⟨z.1, zs_at_of z.2 (by rw [g _ (by omega)]) (fun k hk => by rw [g _ (by omega), g _ (by omega)]; exact ⟨rfl, rfl⟩)⟩
/-- the class's asks as if those read were taken in -/
def cA (J : jZ) (T : zT) (M : zA) : Prop := M.1 ≤ 24 → cQ (jm_up J 9 1 (M.1 : Int)) T M ∧ zA_st (jm_up J 9 1 (M.1 : Int)) 9 M
theorem cA_of {J J' : jZ} {T : zT} {M : zA} (h : cA J T M) (g : ∀ x, x < 144 → J' x = J x) : cA J' T M := fun h24 => by
  obtain ⟨Q, S⟩ := h h24
  have e : ∀ x, x < 144 → jm_up J' 9 1 (M.1 : Int) x = jm_up J 9 1 (M.1 : Int) x := fun x hx => zu_cg (g x hx)
  refine ⟨cQ_lo Q e, fun i hi => ?_⟩
  rw [e _ (by omega)]
  exact S i hi
def cPf (A : zA) (J J' : jZ) : Prop := ∀ x, x ≠ 146 → x ≠ 147 → x ≠ 148 → x < 11 + A.1 ∨ 35 ≤ x → J' x = J x
def zM (A M : zA) : Prop := A.1 ≤ M.1 ∧ ∀ i, i < M.1 → zk_ok i (M.2 i)
theorem zM_a {A M : zA} {r : Nat → Int} (h : zM A M) (hr : zk_ok M.1 r) : zM A (zA_a M r) := by
  refine ⟨by have := h.1; show A.1 ≤ M.1 + 1; omega, fun i hi => ?_⟩
  have hi : i < M.1 + 1 := hi
  by_cases c : i = M.1
  · subst c
    rw [zA_a_n]
    exact hr
  · rw [zA_a_o (by omega)]
    exact h.2 i (by omega)
/-- the reader: its place, fault, whether it wants a plain, what is whole, what waits, the asks -/
def cS (J0 : jZ) (T : zT) (A : zA) (J : jZ) (p : Nat) (f w : Int) (ws ss : List Int) (M : zA) : Prop := cPf A J0 J ∧ cA J T M ∧ zM A M ∧ (J 146 4 = (ws.length : Int) ∧ zSt (J 147) ws ∧ ws.length ≤ 250) ∧ (J 146 5 = (ss.length : Int) ∧ zSt (J 148) ss ∧ ss.length ≤ 250) ∧ J 146 6 = (p : Int) ∧ J 146 7 = f ∧ J 146 8 = w ∧ J 146 9 = (M.1 : Int)
theorem cS_of {J0 J J' : jZ} {T : zT} {A M : zA} {p p' : Nat} {f w f' w' : Int} {ws ss ws' ss' : List Int} (h : cS J0 T A J p f w ws ss M) (g : ∀ x, x ≠ 146 → x ≠ 147 → x ≠ 148 → J' x = J x) (h4 : J' 146 4 = (ws'.length : Int) ∧ zSt (J' 147) ws' ∧ ws'.length ≤ 250) (h5 : J' 146 5 = (ss'.length : Int) ∧ zSt (J' 148) ss' ∧ ss'.length ≤ 250) (h6 : J' 146 6 = (p' : Int)) (h7 : J' 146 7 = f') (h8 : J' 146 8 = w') (h9 : J' 146 9 = J 146 9) : cS J0 T A J' p' f' w' ws' ss' M := by
  obtain ⟨a1, a2, a3, a4, a5, a6, a7, a8, a9⟩ := h
  exact ⟨fun x b1 b2 b3 hx => by rw [g x b1 b2 b3]; exact a1 x b1 b2 b3 hx, cA_of a2 (fun x hx => g x (by omega) (by omega) (by omega)), a3, h4, h5, h6, h7, h8, by rw [h9]; exact a9⟩
theorem s_84 {xs : Nat → Int32} {L d : Nat} {J K : jZ} {P : jZ → jZ → Prop} {J0 : jZ} {T : zT} {A M : zA} {p : Nat} {f w s : Int} {ws ss : List Int} (hS : cS J0 T A J p f w ws ss M) (hl : ss.length < 250) (h : ∀ J', cS J0 T A J' p f w ws (s :: ss) M → P J' K) : q_84 xs L (d + 1) s J K P := by
  have h5 := hS.2.2.2.2.1
  refine e_84 ⟨by omega, fun t => by omega, fun _ => ⟨by omega, ?_⟩⟩
  rw [h5.1, Int.toNat_natCast]
  refine h _ (cS_of hS (fun x a b c => by rw [zu_row a, zu_row c]) ⟨?_, ?_, hS.2.2.2.1.2.2⟩ ⟨?_, ⟨?_, ?_⟩, Nat.succ_le_of_lt hl⟩ ?_ ?_ ?_ ?_)
  · rw [zu_key (by omega), zu_row (by omega)]
    exact hS.2.2.2.1.1
  · rw [zu_row (by omega), zu_row (by omega)]
    exact hS.2.2.2.1.2.1
  · rw [zu_self]
    show (ss.length : Int) + 1 = ((ss.length + 1 : Nat) : Int)
    omega
  · rw [zu_row (by omega), zu_self]
  · exact zSt_of h5.2.1 (fun i hi => by rw [zu_row (by omega), zu_key (by omega)])
  · rw [zu_key (by omega), zu_row (by omega)]
    exact hS.2.2.2.2.2.1
  · rw [zu_key (by omega), zu_row (by omega)]
    exact hS.2.2.2.2.2.2.1
  · rw [zu_key (by omega), zu_row (by omega)]
    exact hS.2.2.2.2.2.2.2.1
  · rw [zu_key (by omega), zu_row (by omega)]
theorem s_90 {xs : Nat → Int32} {L d : Nat} {J K : jZ} {P : Int → jZ → jZ → Prop} {J0 : jZ} {T : zT} {A M : zA} {p : Nat} {f w : Int} {ws ss : List Int} (hS : cS J0 T A J p f w ws ss M) (h : P (ss.headD (-1)) J K) : q_90 xs L (d + 1) J K P := by
  have h5 := hS.2.2.2.2.1
  cases ss with
  | nil =>
    have e : J 146 5 = 0 := h5.1
    exact e_90 ⟨by omega, fun _ => h, fun t => by omega⟩
  | cons s ss =>
    have e : J 146 5 = ((ss.length + 1 : Nat) : Int) := h5.1
    have l : ss.length + 1 ≤ 250 := h5.2.2
    refine e_90 ⟨by omega, fun t => by omega, fun _ => ⟨by omega, ?_⟩⟩
    rw [show (J 146 5 - 1).toNat = ss.length by omega, h5.2.1.1]
    exact h
theorem s_91 {xs : Nat → Int32} {L d : Nat} {J K : jZ} {P : Int → jZ → jZ → Prop} {J0 : jZ} {T : zT} {A M : zA} {p : Nat} {f w x : Int} {ws ss : List Int} (hS : cS J0 T A J p f w (x :: ws) ss M) (h : ∀ J', cS J0 T A J' p f w ws ss M → P x J' K) : q_91 xs L (d + 1) J K P := by
  have h4 := hS.2.2.2.1
  have e : J 146 4 = ((ws.length + 1 : Nat) : Int) := h4.1
  have l : ws.length + 1 ≤ 250 := h4.2.2
  refine e_91 ⟨by omega, fun _ => ⟨by omega, ?_⟩, fun t => by omega⟩
  rw [show (J 146 4 - 1).toNat = ws.length by omega, h4.2.1.1]
  refine h _ (cS_of hS (fun x a b c => zu_row a) ⟨?_, ?_, by omega⟩ ⟨?_, ?_, hS.2.2.2.2.1.2.2⟩ ?_ ?_ ?_ ?_)
  · rw [zu_self]
    omega
  · rw [zu_row (by omega)]
    exact h4.2.1.2
  · rw [zu_key (by omega)]
    exact hS.2.2.2.2.1.1
  · rw [zu_row (by omega)]
    exact hS.2.2.2.2.1.2.1
  · rw [zu_key (by omega)]
    exact hS.2.2.2.2.2.1
  · rw [zu_key (by omega)]
    exact hS.2.2.2.2.2.2.1
  · rw [zu_key (by omega)]
    exact hS.2.2.2.2.2.2.2.1
  · rw [zu_key (by omega)]
/-- a sign is taken away -/
theorem cS_s {J0 J : jZ} {T : zT} {A M : zA} {p : Nat} {f w s : Int} {ws ss : List Int} (hS : cS J0 T A J p f w ws (s :: ss) M) : cS J0 T A (jm_up J 146 5 (J 146 5 - 1)) p f w ws ss M := by
  have h5 := hS.2.2.2.2.1
  have e : J 146 5 = ((ss.length + 1 : Nat) : Int) := h5.1
  have l : ss.length + 1 ≤ 250 := h5.2.2
  refine cS_of hS (fun x a b c => zu_row a) ⟨?_, ?_, hS.2.2.2.1.2.2⟩ ⟨?_, ?_, by omega⟩ ?_ ?_ ?_ ?_
  · rw [zu_key (by omega)]
    exact hS.2.2.2.1.1
  · rw [zu_row (by omega)]
    exact hS.2.2.2.1.2.1
  · rw [zu_self]
    omega
  · rw [zu_row (by omega)]
    exact h5.2.1.2
  · rw [zu_key (by omega)]
    exact hS.2.2.2.2.2.1
  · rw [zu_key (by omega)]
    exact hS.2.2.2.2.2.2.1
  · rw [zu_key (by omega)]
    exact hS.2.2.2.2.2.2.2.1
  · rw [zu_key (by omega)]
/-- place, fault and want are set -/
theorem cS_p {J0 J : jZ} {T : zT} {A M : zA} {p p' : Nat} {f w v : Int} {ws ss : List Int} (hS : cS J0 T A J p f w ws ss M) (hv : v = (p' : Int)) : cS J0 T A (jm_up J 146 6 v) p' f w ws ss M := by
  refine cS_of hS (fun x a b c => zu_row a) ⟨?_, ?_, hS.2.2.2.1.2.2⟩ ⟨?_, ?_, hS.2.2.2.2.1.2.2⟩ ?_ ?_ ?_ ?_
  · rw [zu_key (by omega)]
    exact hS.2.2.2.1.1
  · rw [zu_row (by omega)]
    exact hS.2.2.2.1.2.1
  · rw [zu_key (by omega)]
    exact hS.2.2.2.2.1.1
  · rw [zu_row (by omega)]
    exact hS.2.2.2.2.1.2.1
  · rw [zu_self]
    exact hv
  · rw [zu_key (by omega)]
    exact hS.2.2.2.2.2.2.1
  · rw [zu_key (by omega)]
    exact hS.2.2.2.2.2.2.2.1
  · rw [zu_key (by omega)]
theorem cS_f {J0 J : jZ} {T : zT} {A M : zA} {p : Nat} {f f' w : Int} {ws ss : List Int} (hS : cS J0 T A J p f w ws ss M) : cS J0 T A (jm_up J 146 7 f') p f' w ws ss M := by
  refine cS_of hS (fun x a b c => zu_row a) ⟨?_, ?_, hS.2.2.2.1.2.2⟩ ⟨?_, ?_, hS.2.2.2.2.1.2.2⟩ ?_ zu_self ?_ ?_
  · rw [zu_key (by omega)]
    exact hS.2.2.2.1.1
  · rw [zu_row (by omega)]
    exact hS.2.2.2.1.2.1
  · rw [zu_key (by omega)]
    exact hS.2.2.2.2.1.1
  · rw [zu_row (by omega)]
    exact hS.2.2.2.2.1.2.1
  · rw [zu_key (by omega)]
    exact hS.2.2.2.2.2.1
  · rw [zu_key (by omega)]
    exact hS.2.2.2.2.2.2.2.1
  · rw [zu_key (by omega)]
theorem cS_w {J0 J : jZ} {T : zT} {A M : zA} {p : Nat} {f w w' : Int} {ws ss : List Int} (hS : cS J0 T A J p f w ws ss M) : cS J0 T A (jm_up J 146 8 w') p f w' ws ss M := by
  refine cS_of hS (fun x a b c => zu_row a) ⟨?_, ?_, hS.2.2.2.1.2.2⟩ ⟨?_, ?_, hS.2.2.2.2.1.2.2⟩ ?_ ?_ zu_self ?_
  · rw [zu_key (by omega)]
    exact hS.2.2.2.1.1
  · rw [zu_row (by omega)]
    exact hS.2.2.2.1.2.1
  · rw [zu_key (by omega)]
    exact hS.2.2.2.2.1.1
  · rw [zu_row (by omega)]
    exact hS.2.2.2.2.1.2.1
  · rw [zu_key (by omega)]
    exact hS.2.2.2.2.2.1
  · rw [zu_key (by omega)]
    exact hS.2.2.2.2.2.2.1
  · rw [zu_key (by omega)]
/-- one more ask is put and counted -/
theorem s_82 {xs : Nat → Int32} {L d : Nat} {J K : jZ} {P : jZ → jZ → Prop} {J0 J1 : jZ} {T : zT} {A M : zA} {r : Nat → Int} {p : Nat} {f w : Int} {ws ss : List Int} (hS : cS J0 T A J1 p f w ws ss M) (hr : zk_ok M.1 r) (g : ∀ x, ¬ (M.1 < 24 ∧ x = 11 + M.1) → J x = J1 x) (ho : M.1 < 24 → zo_is (J (11 + M.1)) M r) (hl : ws.length < 250) (h : ∀ J', cS J0 T A J' p f w ((M.1 : Int) :: ws) ss (zA_a M r) → P J' K) : q_82 xs L (d + 1) J K P := by
  obtain ⟨a1, a2, a3, a4, a5, a6, a7, a8, a9⟩ := hS
  have g146 : J 146 = J1 146 := g 146 (by omega)
  have g147 : J 147 = J1 147 := g 147 (by omega)
  have g148 : J 148 = J1 148 := g 148 (by omega)
  have e4 := a4.1
  refine e_82 ⟨by rw [g146]; omega, fun t => by rw [g146] at t; omega, fun _ => ⟨by rw [g146]; omega, ?_⟩⟩
  rw [g146, e4, a9, Int.toNat_natCast]
  have F : ∀ x, x ≠ 146 → x ≠ 147 → jm_up (jm_up (jm_up J 147 ws.length (M.1 : Int)) 146 4 ((ws.length : Int) + 1)) 146 9 ((M.1 : Int) + 1) x = J x := fun x b c => by rw [zu_row b, zu_row b, zu_row c]
  have F6 : ∀ k, k ≠ 4 → k ≠ 9 → jm_up (jm_up (jm_up J 147 ws.length (M.1 : Int)) 146 4 ((ws.length : Int) + 1)) 146 9 ((M.1 : Int) + 1) 146 k = J1 146 k := fun k b c => by rw [zu_key c, zu_key b, zu_row (by omega), g146]
  have n1 : (((zA_a M r).1 : Nat) : Int) = (M.1 : Int) + 1 := by
    show ((M.1 + 1 : Nat) : Int) = _
    omega
  refine h _ ⟨fun x b c e hx => ?_, fun h25 => ?_, zM_a a3 hr, ⟨?_, ⟨?_, ?_⟩, Nat.succ_le_of_lt hl⟩, ⟨?_, ?_, a5.2.2⟩, ?_, ?_, ?_, ?_⟩
  · have := a3.1
    rw [F x b c, g x (by omega)]
    exact a1 x b c e hx
  · have h25 : M.1 + 1 ≤ 24 := h25
    obtain ⟨Q, S⟩ := a2 (by omega)
    have f : cAf M.1 (jm_up J1 9 1 (M.1 : Int)) (jm_up (jm_up J1 9 1 (M.1 : Int)) 9 1 (((zA_a M r).1 : Nat) : Int)) := fun x b c => zu_row b
    have base : cAf M.1 (jm_up J1 9 1 (M.1 : Int)) (jm_up J 9 1 (((zA_a M r).1 : Nat) : Int)) := fun x b c => by rw [zu_row b, zu_row b, g x (by omega)]
    have Z := cQ_A Q S (by omega) hr base (by rw [zu_self, n1]) (by rw [zu_row (by omega)]; exact ho (by omega))
    have e : ∀ x, x < 144 → jm_up (jm_up (jm_up (jm_up J 147 ws.length (M.1 : Int)) 146 4 ((ws.length : Int) + 1)) 146 9 ((M.1 : Int) + 1)) 9 1 (((zA_a M r).1 : Nat) : Int) x = jm_up J 9 1 (((zA_a M r).1 : Nat) : Int) x := fun x hx => zu_cg (F x (by omega) (by omega))
    refine ⟨cQ_lo Z.1 e, fun i hi => ?_⟩
    have hi2 : i < M.1 + 1 := hi
    rw [e _ (by omega)]
    exact Z.2 i hi
  · rw [zu_key (by omega), zu_self]
    show (ws.length : Int) + 1 = ((ws.length + 1 : Nat) : Int)
    omega
  · rw [zu_row (by omega), zu_row (by omega), zu_self]
  · exact zSt_of a4.2.1 (fun i hi => by rw [zu_row (by omega), zu_row (by omega), zu_key (by omega), g147])
  · rw [F6 5 (by omega) (by omega)]
    exact a5.1
  · rw [zu_row (by omega), zu_row (by omega), zu_row (by omega), g148]
    exact a5.2.1
  · rw [F6 6 (by omega) (by omega)]
    exact a6
  · rw [F6 7 (by omega) (by omega)]
    exact a7
  · rw [F6 8 (by omega) (by omega)]
    exact a8
  · rw [zu_self, n1]
theorem s_79 {xs : Nat → Int32} {L d : Nat} {J K : jZ} {P : jZ → jZ → Prop} {J0 : jZ} {T : zT} {A M : zA} {r : Nat → Int} {p : Nat} {f w k run len : Int} {ws ss : List Int} (hS : cS J0 T A J p f w ws ss M) (hr : zk_ok M.1 r) (hk : r 0 = 0 ∨ r 0 = 1 ∨ r 0 = 9) (ek : k = r 0) (el : len = (zk_len r : Int)) (h15 : jz_and run 15 = r 1) (hv : ∀ k : Nat, k < zk_len r → jz_and (jz_shr run (4 * (k : Int))) 15 = r (k + 1)) (hl : ws.length < 250) (hM : M.1 ≤ 1000) (h : ∀ J', cS J0 T A J' p f 0 ((M.1 : Int) :: ws) ss (zA_a M r) → P J' K) : q_79 xs L (d + 3) k run len J K P := by
  have a9 := hS.2.2.2.2.2.2.2.2
  subst ek
  subst el
  refine e_79 ?_
  rw [a9]
  by_cases c : M.1 < 24
  · exact s_80 c hr hk h15 hv (fun J1 f1 o1 => s_82 hS hr (fun x hx => f1 x (fun e => hx ⟨c, e⟩)) (fun _ => o1) hl (fun J2 S2 => h _ (cS_w S2)))
  · exact e_80 rfl ⟨by omega, fun t => by omega, fun _ => ⟨fun t => by omega, fun _ => s_82 hS hr (fun x _ => rfl) (fun t => absurd t c) hl (fun J2 S2 => h _ (cS_w S2))⟩⟩
theorem s_92 {xs : Nat → Int32} {L d : Nat} {J K : jZ} {P : jZ → jZ → Prop} {J0 : jZ} {T : zT} {A M : zA} {r : Nat → Int} {p : Nat} {f w k n x y z : Int} {ws ss : List Int} (hS : cS J0 T A J p f w ws ss M) (hr : zk_ok M.1 r) (hk : 1 ≤ zv (r 0)) (ek : k = r 0) (en : n = zk_n r) (ex : x = zk_x r) (ey : y = zk_y r) (ez : z = zk_z r) (hl : ws.length < 250) (hM : M.1 ≤ 1000) (h : ∀ J', cS J0 T A J' p f w ((M.1 : Int) :: ws) ss (zA_a M r) → P J' K) : q_92 xs L (d + 3) k n x y z J K P := by
  have a9 := hS.2.2.2.2.2.2.2.2
  subst ek
  subst en
  subst ex
  subst ey
  subst ez
  refine e_92 ?_
  rw [a9]
  by_cases c : M.1 < 24
  · obtain ⟨Q, S⟩ := hS.2.1 (by omega)
    have R := Q.2.2.2.2.1
    refine s_93 Q.2.1 c hr hk ⟨fun i hi => ?_, fun i hi => ?_⟩ (fun J1 f1 o1 => s_82 hS hr (fun x hx => f1 x (fun e => hx ⟨c, e⟩)) (fun _ => o1) hl h)
    · have := S i hi
      rw [zu_row (by omega)] at this
      exact this
    · have := R i hi
      rw [zu_row (by omega)] at this
      exact this
  · exact e_93 rfl ⟨by omega, fun t => by omega, fun _ => ⟨fun t => by omega, fun _ => e_93_10 (s_82 hS hr (fun x _ => rfl) (fun t => absurd t c) hl h)⟩⟩
