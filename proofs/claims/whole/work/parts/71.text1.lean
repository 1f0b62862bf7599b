/-! A text read from the tape: the class's. -/
theorem zF_r {B : zB} : ∀ (n k : Nat) (m e : Int), k + n ≤ B.1 → -1 ≤ zF B n k m e ∧ zF B n k m e ≤ (B.1 : Int)
  | 0, k, m, e, h => by
    rw [zF]
    split <;> omega
  | n + 1, k, m, e, h => by
    rw [zF]
    split
    · exact zF_r n (k + 1) m e (by omega)
    · split
      · exact zF_r n (k + 1) 0 0 (by omega)
      · split
        · omega
        · exact zF_r n (k + 1) _ 0 (by omega)
theorem zF_m_r (b : Int) : 0 ≤ zF_m b ∧ zF_m b ≤ 2 := by
  unfold zF_m
  repeat' split
  all_goals omega
theorem zB_l_m {B : zB} {k : Nat} : ∀ n : Nat, zB_l B k ≤ zB_l B (k + n)
  | 0 => Int.le_refl _
  | n + 1 => by
    have ih := zB_l_m (B := B) (k := k) n
    have e : zB_l B (k + (n + 1)) = zB_l B (k + n) + (if 97 ≤ B.2 (k + n) ∧ B.2 (k + n) < 113 then 1 else 0) := rfl
    rw [e]
    split <;> omega
def zW_1 (B : zB) (i : Nat) (T : zT) : zT := if 97 ≤ B.2 i ∧ B.2 i < 113 then zT_w T (B.2 i - 97) else if 0 < zF_m (B.2 i) then zT_e T (zF_m (B.2 i)) else T
def zW (B : zB) : Nat → Nat → zT → zT
  | 0, _, T => T
  | n + 1, i, T => zW B n (i + 1) (zW_1 B i T)
theorem s_75_2 {xs : Nat → Int32} {L d : Nat} {K : jZ} {P : jZ → jZ → Prop} {B : zB} (hB : zB_ok B) : ∀ (n k : Nat) (m e : Int) (J : jZ) (X : zT × Int), k + n = B.1 → cB_at J B → cX_at J X → zt_ok X.1 → (X.1.1 = 0 → m = 2) → 0 ≤ m → zF B n k m e = -1 → (X.1.1 : Int) + (zB_l B B.1 - zB_l B k) ≤ 60 → (∀ J', cXf J J' → cX_at J' (zW B n k X.1, X.2) → zt_ok (zW B n k X.1) → P J' K) → l_75_2 xs L (d + 1) 1 (k : Int) J K P
  | n, k, m, e, J, X, hn, hr, hX, hT, h0, hm, hz, hl, h => by
    have h250 := hB.1
    have h1 := hr.1
    refine e_75_2 rfl ⟨by omega, by omega, fun q => ?_, fun q => ⟨by omega, ?_⟩⟩
    · obtain rfl : n = 0 := by omega
      exact h J (fun _ _ _ _ => rfl) hX hT
    · match n, hn, hz, h with
      | 0, hn, _, _ => omega
      | n + 1, hn, hz, h =>
        have b := hB.2 k (by omega)
        rw [Int.toNat_natCast, hr.2 k (by omega)]
        rw [zF] at hz
        have el : zB_l B (k + 1) = zB_l B k + (if 97 ≤ B.2 k ∧ B.2 k < 113 then 1 else 0) := rfl
        have mono := zB_l_m (B := B) (k := k + 1) n
        rw [show k + 1 + n = B.1 by omega] at mono
        have go : ∀ J1 m' e', cXf J J1 → cX_at J1 (zW_1 B k X.1, X.2) → zt_ok (zW_1 B k X.1) → ((zW_1 B k X.1).1 = 0 → m' = 2) → 0 ≤ m' → zF B n (k + 1) m' e' = -1 → ((zW_1 B k X.1).1 : Int) + (zB_l B B.1 - zB_l B (k + 1)) ≤ 60 → l_75_2 xs L (d + 1) 1 ((k : Int) + 1) J1 K P := fun J1 m' e' f1 x1 t1 o1 p1 z1 l1 =>
          s_75_2 hB n (k + 1) m' e' J1 (zW_1 B k X.1, X.2) (by omega) ⟨by rw [f1 144 (by omega) (by omega) (by omega)]; exact hr.1, fun i hi => by rw [f1 145 (by omega) (by omega) (by omega)]; exact hr.2 i hi⟩ x1 t1 o1 p1 z1 l1 (fun J2 f2 x2 t2 => h J2 (cXf_tr f1 f2) x2 t2)
        have mr := zF_m_r (B.2 k)
        refine ⟨by omega, fun q2 => ?_, fun q2 => s_72 (by omega) ⟨by omega, fun q3 => ?_, fun q3 => s_72 (by omega) ?_⟩⟩
        · rw [if_neg (by omega), if_pos q2] at hz
          rw [if_pos q2] at el
          have w1 : zW_1 B k X.1 = zT_w X.1 (B.2 k - 97) := by
            unfold zW_1
            rw [if_pos q2]
          refine s_58 (by omega) hX (fun J1 f1 x1 => go J1 0 0 f1 (by rw [w1]; exact x1) (by rw [w1]; exact zT_w_ok hT (by omega) (by omega)) (fun z => ?_) (by omega) hz ?_)
          · rw [w1] at z
            exact absurd z (Nat.succ_ne_zero _)
          · rw [w1]
            show ((X.1.1 + 1 : Nat) : Int) + _ ≤ 60
            omega
        · rw [if_neg q2] at el
          have w1 : zW_1 B k X.1 = X.1 := by
            unfold zW_1
            rw [if_neg q2, if_neg (by omega)]
          by_cases c : B.2 k = 32
          · rw [if_pos c] at hz
            exact go J m e (fun _ _ _ _ => rfl) (by rw [w1]; exact hX) (by rw [w1]; exact hT) (by rw [w1]; exact h0) hm hz (by rw [w1]; omega)
          · rw [if_neg c, if_neg q2, if_pos (by omega)] at hz
            omega
        · rw [if_neg q2] at el
          have n32 : ¬ B.2 k = 32 := fun c => by
            rw [c] at q3
            exact absurd q3 (by decide)
          rw [if_neg n32, if_neg q2] at hz
          have lt : m < zF_m (B.2 k) := by
            by_cases c : zF_m (B.2 k) ≤ m
            · rw [if_pos c] at hz
              omega
            · omega
          rw [if_neg (by omega)] at hz
          have w1 : zW_1 B k X.1 = zT_e X.1 (zF_m (B.2 k)) := by
            unfold zW_1
            rw [if_neg q2, if_pos q3]
          have n0 : 0 < X.1.1 := Nat.pos_of_ne_zero (fun z => by have := h0 z; omega)
          refine s_62 hT n0 hX (fun J1 f1 x1 => go J1 _ 0 f1 (by rw [w1]; exact x1) (by rw [w1]; exact zT_e_ok hT (by omega)) (fun z => ?_) (by omega) hz ?_)
          · rw [w1] at z
            exact absurd z (Nat.ne_of_gt n0)
          · rw [w1]
            show (X.1.1 : Int) + _ ≤ 60
            omega
theorem cQ_X {J J' : jZ} {T T' : zT} {A : zA} (h : cQ J T A) (g : ∀ x, x ≠ 1 → x ≠ 2 → x ≠ 3 → x ≠ 61 → x < 144 → J' x = J x) (g6 : J' 61 6 = J 61 6) (hT : zt_ok T') (rT : zt_at J' 1 T') (h5 : J' 61 5 = 0) : cQ J' T' A := by
  obtain ⟨a1, a2, a3, a4, a5, a6, a7, a8⟩ := h
  have h24 := a2.1
  refine ⟨hT, a2, rT, zA_at_of a4 h24 (fun x _ _ => g x (by omega) (by omega) (by omega) (by omega) (by omega)), zA_rc_of a5 h24 (fun x _ _ => g x (by omega) (by omega) (by omega) (by omega) (by omega)), by rw [g6]; exact a6, ⟨by rw [g 63 (by omega) (by omega) (by omega) (by omega) (by omega)]; exact a7.1, fun k hk => by simp at hk⟩, fun j hj => ?_⟩
  rw [h5] at hj
  exact absurd hj zb_0
def cWf (J J' : jZ) : Prop := (∀ x, x ≠ 1 → x ≠ 2 → x ≠ 3 → x ≠ 61 → x ≠ 144 → J' x = J x) ∧ J' 61 6 = J 61 6 ∧ J' 144 1 = 0
theorem c_69 {xs : Nat → Int32} {L d : Nat} {J K : jZ} {P : Int → jZ → jZ → Prop} {T : zT} {A : zA} (hQ : cQ J T A) {B : zB} {s : Int} (hB : zB_ok B) (hr : cB_at J B) (hs : J 1 4 = s) (hb : ¬ zF B B.1 0 (zT_l T) 1 = -1 → P (-20 - zF B B.1 0 (zT_l T) 1) (rC (jm_up J 144 1 0) 0) K) (hb2 : zF B B.1 0 (zT_l T) 1 = -1 → ¬ (T.1 : Int) + zB_l B B.1 ≤ 60 → P (-6) (rC (jm_up J 144 1 0) 4) K) (h : zF B B.1 0 (zT_l T) 1 = -1 → (T.1 : Int) + zB_l B B.1 ≤ 60 → ∀ J', cWf J J' → cQ J' (zW B B.1 0 T) A → J' 1 4 = s → P (zB_l B B.1) J' K) : q_69 xs L (d + 3) J K P := by
  have h60 := hQ.1.1
  have h250 := hB.1
  have rT := hQ.2.2.1
  have h1 := rT.1
  have lr := zT_l_r hQ.1
  have fr := zF_r (B := B) B.1 0 (zT_l T) 1 (by omega)
  have l250 := zB_l_r B B.1
  have l0 : zB_l B 0 = 0 := rfl
  refine e_69 (s_61 hQ.1 rT (s_70 hB hr lr (s_73 hB hr ⟨by omega, fun q => ⟨by omega, fun q2 => ?_, fun q2 => s_13 (k := 4) (by omega) (by omega) (hb2 q (by omega))⟩, fun q => e_74 (s_13 (k := 0) (by omega) (by omega) (hb q))⟩)))
  refine e_75 rfl (s_75_2 (X := (T, s)) hB B.1 0 (zT_l T) 1 J (by omega) hr ⟨rT, hs⟩ hQ.1 (fun z => ?_) lr.1 q (by show (T.1 : Int) + _ ≤ 60; omega) (fun J1 f1 x1 t1 => ?_))
  · show zT_l T = 2
    rw [zT_l, if_pos z]
  · refine h q (by omega) _ ⟨fun x a b c e g => by rw [zu_row e, zu_row g, f1 x a b c], by rw [zu_key (by omega), zu_row (by omega), f1 61 (by omega) (by omega) (by omega)], by rw [zu_row (by omega), zu_self]⟩ (cQ_X hQ (fun x a b c e g => by rw [zu_row e, zu_row (by omega), f1 x a b c]) (by rw [zu_key (by omega), zu_row (by omega), f1 61 (by omega) (by omega) (by omega)]) t1 ?_ zu_self) (by rw [zu_row (by omega), zu_row (by omega)]; exact x1.2)
    exact zt_of x1.1 (by rw [zu_row (by omega), zu_row (by omega)]) (by rw [zu_row (by omega), zu_row (by omega)]) (by rw [zu_row (by omega), zu_row (by omega)]) (by rw [zu_row (by omega), zu_row (by omega)])
-- seed
theorem c_156 {xs : Nat → Int32} {L d : Nat} {J K : jZ} {P : Int → jZ → jZ → Prop} {s v : Int} (hs : J 1 4 = s) (h : P s (jm_up J 1 4 v) K) : q_156 xs L (d + 1) v J K P := e_156 (by rw [hs]; exact h)
theorem m_277 {xs : Nat → Int32} {L d : Nat} {J K : jZ} {P : Int → jZ → jZ → Prop} {s v : Int} (hs : J 167 11 = s) (h : P s (jm_up J 167 11 v) K) : q_277 xs L (d + 1) v J K P := e_277 (by rw [hs]; exact h)
