/-! The class's reader: what waits is joined; brackets close. -/
theorem jz_rem_e {x n : Int} (hx : 0 ≤ x ∧ x < 65536) (hn : 0 < n ∧ n < 2147483648) : jz_rem x n = x % n ∧ jz_div x n = x / n := by
  have bm : ∀ y : Int, 0 ≤ y → y < 65536 → y.bmod (2 ^ 32) = y := fun y h1 h2 => Int.bmod_eq_of_le (by omega) (by omega)
  have q0 : 0 ≤ x / n := Int.ediv_nonneg hx.1 (by omega)
  have q1 : x / n * n ≤ x := Int.ediv_mul_le x (by omega)
  have q2 : 0 ≤ x / n * n := Int.mul_nonneg q0 (by omega)
  have q3 : x / n ≤ x := Int.ediv_le_self n hx.1
  have r0 := Int.emod_nonneg x (show n ≠ 0 by omega)
  have r2 := Int.emod_def x n
  rw [Int.mul_comm n] at r2
  constructor
  · unfold jz_rem
    rw [Int32.toInt_sub, Int32.toInt_mul, Int32.toInt_div, jz_i32 (by omega), jz_i32 (by omega), Int.tdiv_eq_ediv_of_nonneg hx.1, bm (x / n) q0 (by omega), bm (x / n * n) q2 (by omega), bm _ (by omega) (by omega), r2]
  · unfold jz_div
    rw [Int32.toInt_div, jz_i32 (by omega), jz_i32 (by omega), Int.tdiv_eq_ediv_of_nonneg hx.1, bm (x / n) q0 (by omega)]
def zfl : zK → List Int
  | [] => []
  | e :: st => e.2 ++ zfl st
def zsg : zK → List Int
  | [] => []
  | e :: st => e.1 :: zsg st
theorem zsg_l : ∀ st : zK, (zsg st).length = st.length
  | [] => rfl
  | e :: st => by
    show (zsg st).length + 1 = st.length + 1
    rw [zsg_l st]
def zVe (m : Nat) (e : Int × List Int) : Prop := ((2 ≤ e.1 ∧ e.1 ≤ 8) ∧ ∃ x, e.2 = [x] ∧ 0 ≤ x ∧ x < (m : Int)) ∨ (e.1 = 20 ∧ e.2 = []) ∨ (∃ k, 1 ≤ k ∧ k ≤ 3 ∧ e.1 = 100 + 10 * k + (e.2.length : Int) ∧ e.2.length ≤ 2 ∧ ∀ x, x ∈ e.2 → 0 ≤ x ∧ x < (m : Int))
def zV (m : Nat) (st : zK) : Prop := ∀ e, e ∈ st → zVe m e
theorem zVe_m {m m' : Nat} {e : Int × List Int} (h : zVe m e) (hm : m ≤ m') : zVe m' e := by
  rcases h with ⟨a, x, b, c⟩ | h | ⟨k, a, b, c, g, z⟩
  · exact .inl ⟨a, x, b, by omega⟩
  · exact .inr (.inl h)
  · exact .inr (.inr ⟨k, a, b, c, g, fun x hx => by have := z x hx; omega⟩)
theorem zV_m {m m' : Nat} {st : zK} (h : zV m st) (hm : m ≤ m') : zV m' st := fun e he => zVe_m (h e he) hm
theorem zV_c {m : Nat} {e : Int × List Int} {st : zK} (h : zVe m e) (h2 : zV m st) : zV m (e :: st) := fun a ha => by
  rcases List.mem_cons.mp ha with q | q
  · rw [q]
    exact h
  · exact h2 a q
theorem zV_h {m : Nat} {e : Int × List Int} {st : zK} (h : zV m (e :: st)) : zVe m e ∧ zV m st := ⟨h e List.mem_cons_self, fun a ha => h a (List.mem_cons_of_mem _ ha)⟩
theorem zr_pr {m : Nat} {k x y : Int} (hk : 2 ≤ k ∧ k ≤ 8) (hx : 0 ≤ x ∧ x < (m : Int)) (hy : 0 ≤ y ∧ y < (m : Int)) : zk_ok m (zr_5 k x y (-1) (-1)) ∧ 1 ≤ zv (zr_5 k x y (-1) (-1) 0) ∧ -1 = zk_n (zr_5 k x y (-1) (-1)) ∧ x = zk_x (zr_5 k x y (-1) (-1)) ∧ y = zk_y (zr_5 k x y (-1) (-1)) ∧ -1 = zk_z (zr_5 k x y (-1) (-1)) := by
  have kk : zr_5 k x y (-1) (-1) 0 = k := rfl
  refine ⟨.inr (.inr (.inl ⟨hk.1, hk.2, hx.1, hx.2, hy.1, hy.2, rfl, rfl⟩)), ?_, ?_, ?_, ?_, ?_⟩
  · rw [kk]
    unfold zv
    rw [if_neg (by omega), if_neg (by omega), if_pos hk]
    omega
  · unfold zk_n
    rw [kk, if_neg (by omega), if_neg (by omega), if_neg (by omega)]
  · unfold zk_x
    rw [kk, if_pos (by omega)]
    rfl
  · unfold zk_y
    rw [kk, if_pos (by omega)]
    rfl
  · unfold zk_z
    rw [kk, if_neg (by omega)]
theorem zJ_v {A : zA} {b : Int} : ∀ (st : zK) (t : Int) (M : zA), zM A M → zV M.1 st → 0 ≤ t ∧ t < (M.1 : Int) → zM A (zJ b t st M).2.2 ∧ zV (zJ b t st M).2.2.1 (zJ b t st M).2.1 ∧ (0 ≤ (zJ b t st M).1 ∧ (zJ b t st M).1 < ((zJ b t st M).2.2.1 : Int)) ∧ M.1 ≤ (zJ b t st M).2.2.1 ∧ (zJ b t st M).2.2.1 + (zJ b t st M).2.1.length = M.1 + st.length ∧ (zfl (zJ b t st M).2.1).length ≤ (zfl st).length
  | [], t, M, hM, hV, ht => by
    rw [zJ_n]
    exact ⟨hM, hV, ht, Nat.le_refl _, rfl, Nat.le_refl _⟩
  | e :: st, t, M, hM, hV, ht => by
    by_cases c : (2 ≤ e.1 ∧ e.1 ≤ 8) ∧ min b 5 ≤ min e.1 5
    · rw [zJ_t c]
      obtain ⟨v1, v2⟩ := zV_h hV
      have hx : ∃ x, e.2 = [x] ∧ 0 ≤ x ∧ x < (M.1 : Int) := by
        rcases v1 with q | q | ⟨k, q1, q2, q3, q4, q5⟩
        · exact q.2
        · omega
        · omega
      obtain ⟨x, ex, x0, x1⟩ := hx
      rw [ex]
      have z := zr_pr c.1 ⟨x0, x1⟩ ht
      have n1 : (zA_a M (zr_5 e.1 x t (-1) (-1))).1 = M.1 + 1 := rfl
      have ih := zJ_v (A := A) (b := b) st (M.1 : Int) (zA_a M (zr_5 e.1 x t (-1) (-1))) (zM_a hM z.1) (zV_m v2 (by omega)) (by omega)
      refine ⟨ih.1, ih.2.1, ih.2.2.1, ?_, ?_, ?_⟩
      · have := ih.2.2.2.1
        show M.1 ≤ (zJ b (M.1 : Int) st (zA_a M (zr_5 e.1 x t (-1) (-1)))).2.2.1
        omega
      · have := ih.2.2.2.2.1
        show (zJ b (M.1 : Int) st (zA_a M (zr_5 e.1 x t (-1) (-1)))).2.2.1 + (zJ b (M.1 : Int) st (zA_a M (zr_5 e.1 x t (-1) (-1)))).2.1.length = M.1 + (st.length + 1)
        omega
      · have := ih.2.2.2.2.2
        show (zfl (zJ b (M.1 : Int) st (zA_a M (zr_5 e.1 x t (-1) (-1)))).2.1).length ≤ (e.2 ++ zfl st).length
        rw [List.length_append]
        omega
    · rw [zJ_f c]
      exact ⟨hM, hV, ht, Nat.le_refl _, rfl, Nat.le_refl _⟩
theorem s_88_5 {xs : Nat → Int32} {L d : Nat} {K : jZ} {P : jZ → jZ → Prop} {J0 : jZ} {T : zT} {A : zA} {p : Nat} {f w b : Int} (hb : -1 ≤ b ∧ b ≤ 100) : ∀ (st : zK) (t : Int) (M : zA) (J : jZ), cS J0 T A J p f w (t :: zfl st) (zsg st) M → zV M.1 st → 0 ≤ t ∧ t < (M.1 : Int) → M.1 + st.length ≤ 1000 → (∀ J', cS J0 T A J' p f w ((zJ b t st M).1 :: zfl (zJ b t st M).2.1) (zsg (zJ b t st M).2.1) (zJ b t st M).2.2 → P J' K) → l_88_5 xs L (d + 3) (min b 5) J K P
  | [], t, M, J, hS, hV, ht, hM, h => by
    have e5 : J 146 5 = 0 := hS.2.2.2.2.1.1
    exact e_88_5 ⟨by omega, fun _ => h J hS, fun q => by omega⟩
  | e :: st, t, M, J, hS, hV, ht, hM, h => by
    have e5 : J 146 5 = (((zsg st).length + 1 : Nat) : Int) := hS.2.2.2.2.1.1
    have l5 : (zsg st).length + 1 ≤ 250 := hS.2.2.2.2.1.2.2
    have l4 : (t :: (e.2 ++ zfl st)).length ≤ 250 := hS.2.2.2.1.2.2
    obtain ⟨v1, v2⟩ := zV_h hV
    have er : 2 ≤ e.1 ∧ e.1 ≤ 200 := by
      rcases v1 with q | q | ⟨k, q1, q2, q3, q4, q5⟩ <;> omega
    have hd : ∀ Q : Int → jZ → jZ → Prop, Q e.1 J K → q_90 xs L (d + 3) J K Q := fun Q q => s_90 hS q
    refine e_88_5 ⟨by omega, fun q => by omega, fun _ => hd _ ⟨by omega, fun q2 => hd _ ⟨by omega, by omega, by omega, fun q3 => ?_, fun q3 => hd _ ?_⟩, fun q2 => ?_⟩⟩
    · rw [zJ_f (fun c => by omega)] at h
      exact h J hS
    · have c : (2 ≤ e.1 ∧ e.1 ≤ 8) ∧ min b 5 ≤ min e.1 5 := ⟨q2, q3⟩
      rw [zJ_t c] at h
      have hx : ∃ x, e.2 = [x] ∧ 0 ≤ x ∧ x < (M.1 : Int) := by
        rcases v1 with q | q | ⟨k, q4, q5, q6, q7, q8⟩
        · exact q.2
        · omega
        · omega
      obtain ⟨x, ex, x0, x1⟩ := hx
      have z := zr_pr c.1 ⟨x0, x1⟩ ht
      have S1 : cS J0 T A (jm_up J 146 5 (J 146 5 - 1)) p f w (t :: x :: zfl st) (zsg st) M := by
        have := cS_s (s := e.1) (ss := zsg st) hS
        have e2 : zfl (e :: st) = x :: zfl st := by
          show e.2 ++ zfl st = _
          rw [ex]
          rfl
        rw [e2] at this
        exact this
      rw [ex] at h l4
      have l4 : (zfl st).length + 1 + 1 ≤ 250 := l4
      have n1 : (zA_a M (zr_5 e.1 x t (-1) (-1))).1 = M.1 + 1 := rfl
      have hM : M.1 + (st.length + 1) ≤ 1000 := hM
      exact s_91 S1 (fun J1 S2 => s_91 S2 (fun J2 S3 => s_92 (r := zr_5 e.1 x t (-1) (-1)) S3 z.1 z.2.1 rfl z.2.2.1 z.2.2.2.1 z.2.2.2.2.1 z.2.2.2.2.2 (by omega) (by omega) (fun J3 S4 => s_88_5 hb st (M.1 : Int) _ J3 S4 (zV_m v2 (by omega)) (by omega) (by omega) h)))
    · rw [zJ_f (fun c => q2 c.1)] at h
      exact h J hS
theorem s_88 {xs : Nat → Int32} {L d : Nat} {J K : jZ} {P : jZ → jZ → Prop} {J0 : jZ} {T : zT} {A M : zA} {p : Nat} {f w b t : Int} {st : zK} (hb : -1 ≤ b ∧ b ≤ 100) (hS : cS J0 T A J p f w (t :: zfl st) (zsg st) M) (hV : zV M.1 st) (ht : 0 ≤ t ∧ t < (M.1 : Int)) (hM : M.1 + st.length ≤ 1000) (h : ∀ J', cS J0 T A J' p f w ((zJ b t st M).1 :: zfl (zJ b t st M).2.1) (zsg (zJ b t st M).2.1) (zJ b t st M).2.2 → P J' K) : q_88 xs L (d + 4) b J K P :=
  e_88 ⟨by omega, s_88_5 hb st t M J hS hV ht hM h⟩
theorem s_87 {xs : Nat → Int32} {L d : Nat} {J K : jZ} {P : Int → jZ → jZ → Prop} {b : Int} (hb : -2147483648 ≤ b ∧ b < 2147483648) (h : P (zki b) J K) : q_87 xs L (d + 1) b J K P := by
  unfold zki at h
  refine e_87 ⟨hb, fun q => ?_, fun q => ⟨fun q2 => ?_, fun q2 => ⟨fun q3 => ?_, fun q3 => ⟨fun q4 => ?_, fun q4 => ⟨fun q5 => ?_, fun q5 => ⟨fun q6 => ?_, fun q6 => ⟨fun q7 => ?_, fun q7 => ?_⟩⟩⟩⟩⟩⟩⟩
  · rw [if_pos q] at h
    exact h
  · rw [if_neg q, if_pos q2] at h
    exact h
  · rw [if_neg q, if_neg q2, if_pos q3] at h
    exact h
  · rw [if_neg q, if_neg q2, if_neg q3, if_pos q4] at h
    exact h
  · rw [if_neg q, if_neg q2, if_neg q3, if_neg q4, if_pos q5] at h
    exact h
  · rw [if_neg q, if_neg q2, if_neg q3, if_neg q4, if_neg q5, if_pos q6] at h
    exact h
  · rw [if_neg q, if_neg q2, if_neg q3, if_neg q4, if_neg q5, if_neg q6, if_pos q7] at h
    exact h
  · rw [if_neg q, if_neg q2, if_neg q3, if_neg q4, if_neg q5, if_neg q6, if_neg q7] at h
    exact h
/-- what closes -/
theorem s_96 {xs : Nat → Int32} {L d : Nat} {J K : jZ} {P : Int → jZ → jZ → Prop} {J0 : jZ} {T : zT} {A M : zA} {p : Nat} {f w b t : Int} {st : zK} (hb : -2147483648 ≤ b ∧ b < 2147483648) (hS : cS J0 T A J p f w (t :: zfl st) (zsg st) M) (hV : zV M.1 st) (ht : 0 ≤ t ∧ t < (M.1 : Int)) (hM : M.1 + st.length ≤ 1000) (h0 : (∀ e st', st = e :: st' → ¬ (b = 41 ∧ e.1 = 20) ∧ ¬ (b = 44 ∧ 100 ≤ e.1 ∧ e.1 % 10 < 2) ∧ ¬ (b = 125 ∧ 100 ≤ e.1 ∧ e.1 % 10 = 2)) → P 0 J K) (h1 : ∀ e st', st = e :: st' → b = 41 ∧ e.1 = 20 → ∀ J', cS J0 T A J' p f w (t :: zfl st') (zsg st') M → P 1 J' K) (h2 : ∀ e st', st = e :: st' → b = 44 ∧ 100 ≤ e.1 ∧ e.1 % 10 < 2 → ∀ J', cS J0 T A J' p f 1 (t :: (e.2 ++ zfl st')) ((e.1 + 1) :: zsg st') M → P 1 J' K) (h3 : ∀ e st', st = e :: st' → b = 125 ∧ 100 ≤ e.1 ∧ e.1 % 10 = 2 → ∀ J', cS J0 T A J' p f w ((M.1 : Int) :: zfl st') (zsg st') (zA_a M (zr_5 11 (e.2.tail.headD 0) (e.2.headD 0) t ((e.1 - 100) / 10))) → P 1 J' K) : q_96 xs L (d + 4) b J K P := by
  cases st with
  | nil =>
    have h0 := h0 (fun e st' q => by cases q)
    have a150 : l_96_150 xs L (d + 3) J K P := e_96_150 h0
    have a41 : l_96_41 xs L (d + 3) b (-1) 0 J K P := e_96_41 ⟨hb, fun _ => e_96_83 ⟨hb, fun _ => a150, fun _ => ⟨by omega, fun _ => a150, fun q => absurd rfl q⟩⟩, fun _ => ⟨by omega, fun _ => e_96_83 ⟨hb, fun _ => a150, fun _ => ⟨by omega, fun _ => a150, fun q => absurd rfl q⟩⟩, fun q => absurd rfl q⟩⟩
    have hd : ∀ Q : Int → jZ → jZ → Prop, Q (-1) J K → q_90 xs L (d + 3) J K Q := fun Q q => s_90 hS q
    exact e_96 (hd _ ⟨by omega, fun _ => ⟨hb, fun _ => a41, fun _ => ⟨fun _ => a41, fun q => by omega⟩⟩, fun q => by omega⟩)
  | cons e st' =>
    have h0 := fun c1 c2 c3 => h0 (fun e' st'' q => by cases q; exact ⟨c1, c2, c3⟩)
    have h1 := h1 e st' rfl
    have h2 := h2 e st' rfl
    have h3 := h3 e st' rfl
    obtain ⟨v1, v2⟩ := zV_h hV
    have l4 : (t :: (e.2 ++ zfl st')).length ≤ 250 := hS.2.2.2.1.2.2
    have l5 : (zsg st').length + 1 ≤ 250 := hS.2.2.2.2.1.2.2
    have hM : M.1 + (st'.length + 1) ≤ 1000 := hM
    have er : 2 ≤ e.1 ∧ e.1 ≤ 200 ∧ (e.1 < 100 ∨ (100 ≤ e.1 ∧ ∃ k, 1 ≤ k ∧ k ≤ 3 ∧ e.1 = 100 + 10 * k + (e.2.length : Int) ∧ e.2.length ≤ 2 ∧ ∀ x, x ∈ e.2 → 0 ≤ x ∧ x < (M.1 : Int))) := by
      rcases v1 with q | q | ⟨k, q1, q2, q3, q4, q5⟩
      · omega
      · omega
      · exact ⟨by omega, by omega, .inr ⟨by omega, k, q1, q2, q3, q4, q5⟩⟩
    have S1 := cS_s (s := e.1) (ss := zsg st') hS
    have rm := jz_rem_e (x := e.1) (n := 10) (by omega) (by omega)
    have c41 : b = 41 → e.1 = 20 → P 1 (jm_up J 146 5 (J 146 5 - 1)) K := fun q q2 => by
      refine h1 ⟨q, q2⟩ _ ?_
      have e2 : e.2 = [] := by
        rcases v1 with z | z | ⟨k, q1, q2, q3, q4, q5⟩
        · omega
        · exact z.2
        · omega
      have e3 : zfl (e :: st') = zfl st' := by
        show e.2 ++ zfl st' = _
        rw [e2]
        rfl
      rw [e3] at S1
      exact S1
    have a41 : ∀ g : Int, (g = 0 ∧ e.1 < 100) ∨ (g = 1 ∧ 100 ≤ e.1) → ¬ (b = 41 ∧ e.1 = 20) → l_96_41 xs L (d + 3) b e.1 g J K P := fun g hg c1 => by
      have a150 : ¬ (b = 44 ∧ 100 ≤ e.1 ∧ e.1 % 10 < 2) → ¬ (b = 125 ∧ 100 ≤ e.1 ∧ e.1 % 10 = 2) → l_96_150 xs L (d + 3) J K P := fun c2 c3 => e_96_150 (h0 c1 c2 c3)
      have a83 : ¬ (b = 44 ∧ 100 ≤ e.1 ∧ e.1 % 10 < 2) → l_96_83 xs L (d + 3) b e.1 g J K P := fun c2 => by
        refine e_96_83 ⟨hb, fun q => a150 c2 (fun c => q c.1), fun q => ⟨by omega, fun q2 => a150 c2 (fun c => by omega), fun q2 => ?_⟩⟩
        rw [rm.1]
        refine ⟨by omega, fun q3 => a150 c2 (fun c => q3 c.2.2), fun q3 => ?_⟩
        obtain ⟨k, k1, k2, k3, k4, k5⟩ := (er.2.2.resolve_left (by omega)).2
        have two : ∃ y x, e.2 = [y, x] := by
          match e.2, show e.2.length = 2 by omega with
          | [y, x], _ => exact ⟨y, x, rfl⟩
        obtain ⟨y, x, exy⟩ := two
        have hy := k5 y (by rw [exy]; simp)
        have hx := k5 x (by rw [exy]; simp)
        have e3 : zfl (e :: st') = y :: x :: zfl st' := by
          show e.2 ++ zfl st' = _
          rw [exy]
          rfl
        rw [e3] at S1
        rw [exy] at h3 l4 k3
        have l4 : (zfl st').length + 1 + 1 + 1 ≤ 250 := l4
        have k3 : e.1 = 100 + 10 * k + 2 := k3
        have dv := jz_rem_e (x := e.1 - 100) (n := 10) (by omega) (by omega)
        have ek : (e.1 - 100) / 10 = k := by omega
        rw [dv.2]
        refine s_91 S1 (fun J1 S2 => s_91 S2 (fun J2 S3 => s_91 S3 (fun J3 S4 => s_92 (r := zr_5 11 x y t ((e.1 - 100) / 10)) S4 (.inr (.inr (.inr (.inr (.inr ⟨rfl, hx.1, hx.2, hy.1, hy.2, ht.1, ht.2, by show 1 ≤ (e.1 - 100) / 10; omega, by show (e.1 - 100) / 10 ≤ 3; omega⟩))))) (by show 1 ≤ 3; omega) rfl rfl rfl rfl rfl (by omega) (by omega) (fun J4 S5 => h3 ⟨q, by omega, q3⟩ J4 S5))))
      refine e_96_41 ⟨hb, fun q => a83 (fun c => q c.1), fun q => ⟨by omega, fun q2 => a83 (fun c => by omega), fun q2 => ?_⟩⟩
      rw [rm.1]
      refine ⟨by omega, fun q3 => a83 (fun c => by omega), fun q3 => s_84 S1 (by omega) (fun J1 S2 => h2 ⟨q, by omega, q3⟩ _ (cS_w S2))⟩
    have hd : ∀ Q : Int → jZ → jZ → Prop, Q e.1 J K → q_90 xs L (d + 3) J K Q := fun Q q => s_90 hS q
    exact e_96 (hd _ ⟨by omega, fun q => ⟨hb, fun q2 => a41 0 (.inl ⟨rfl, q⟩) (fun c => q2 c.1), fun q2 => ⟨fun q3 => a41 0 (.inl ⟨rfl, q⟩) (fun c => q3 c.2), fun q3 => c41 q2 q3⟩⟩, fun q => ⟨hb, fun q2 => a41 1 (.inr ⟨rfl, q⟩) (fun c => q2 c.1), fun q2 => ⟨fun q3 => a41 1 (.inr ⟨rfl, q⟩) (fun c => q3 c.2), fun q3 => c41 q2 q3⟩⟩⟩)
