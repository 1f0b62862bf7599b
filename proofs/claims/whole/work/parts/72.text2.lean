/-! A text read from the tape: the reference's. -/
theorem s_208_58 {xs : Nat → Int32} {L d : Nat} {K : jZ} {P : Int → jZ → jZ → Prop} {B : zB} {l : Int} (hB : zB_ok B) : ∀ (n k : Nat) (m e : Int) (J : jZ) (X : zT × Int), k + n = B.1 → (∀ i, i < B.1 → J 182 i = B.2 i) → mX_at J X → zt_ok X.1 → (X.1.1 = 0 → m = 2) → 0 ≤ m → zF B n k m e = -1 → (X.1.1 : Int) + (zB_l B B.1 - zB_l B k) ≤ 60 → (∀ J', mXf J J' → mX_at J' (zW B n k X.1, X.2) → zt_ok (zW B n k X.1) → P l (jm_up J' 167 26 0) K) → l_208_58 xs L (d + 2) l (B.1 : Int) (k : Int) J K P
  | n, k, m, e, J, X, hn, hr, hX, hT, h0, hm, hz, hl, h => by
    have h250 := hB.1
    have h60 := hT.1
    refine e_208_58 ⟨by omega, by omega, fun q => ?_, fun q => ⟨by omega, ?_⟩⟩
    · obtain rfl : n = 0 := by omega
      exact h J ⟨fun _ _ _ _ => rfl, fun _ _ _ _ => rfl⟩ hX hT
    · match n, hn, hz, h with
      | 0, hn, _, _ => omega
      | n + 1, hn, hz, h =>
        have b := hB.2 k (by omega)
        rw [Int.toNat_natCast, hr k (by omega)]
        rw [zF] at hz
        have el : zB_l B (k + 1) = zB_l B k + (if 97 ≤ B.2 k ∧ B.2 k < 113 then 1 else 0) := rfl
        have mono := zB_l_m (B := B) (k := k + 1) n
        rw [show k + 1 + n = B.1 by omega] at mono
        have go : ∀ J1 m' e', mXf J J1 → mX_at J1 (zW_1 B k X.1, X.2) → zt_ok (zW_1 B k X.1) → ((zW_1 B k X.1).1 = 0 → m' = 2) → 0 ≤ m' → zF B n (k + 1) m' e' = -1 → ((zW_1 B k X.1).1 : Int) + (zB_l B B.1 - zB_l B (k + 1)) ≤ 60 → l_208_141 xs L (d + 2) l (B.1 : Int) (k : Int) J1 K P := fun J1 m' e' f1 x1 t1 o1 p1 z1 l1 =>
          e_208_141 (s_208_58 hB n (k + 1) m' e' J1 (zW_1 B k X.1, X.2) (by omega) (fun i hi => by rw [f1.1 182 (by omega) (by omega) (by omega)]; exact hr i hi) x1 t1 o1 p1 z1 l1 (fun J2 f2 x2 t2 => h J2 (mXf_tr f1 f2) x2 t2))
        have x9 : J 167 9 = (X.1.1 : Int) := hX.1.1
        have mark : ∀ v, v = zF_m (B.2 k) → 0 < v → ¬ (97 ≤ B.2 k ∧ B.2 k < 113) → ¬ B.2 k = 32 → (0 ≤ (J 167 9 - 1) ∧ (J 167 9 - 1) < 60) ∧ l_208_141 xs L (d + 2) l (B.1 : Int) (k : Int) (jm_up J 185 (J 167 9 - 1).toNat v) K P := fun v ev hv q2 n32 => by
          have mr := zF_m_r (B.2 k)
          rw [if_neg q2] at el
          rw [if_neg n32, if_neg q2] at hz
          have lt : m < zF_m (B.2 k) := by
            by_cases c : zF_m (B.2 k) ≤ m
            · rw [if_pos c] at hz
              omega
            · omega
          rw [if_neg (by omega)] at hz
          have w1 : zW_1 B k X.1 = zT_e X.1 (zF_m (B.2 k)) := by
            unfold zW_1
            rw [if_neg q2, if_pos (by omega)]
          have n0 : 0 < X.1.1 := Nat.pos_of_ne_zero (fun z => by have := h0 z; omega)
          refine ⟨by omega, ?_⟩
          rw [show (J 167 9 - 1).toNat = X.1.1 - 1 by omega, ev]
          refine go _ _ 0 mXf_5 (by rw [w1]; exact mX_e hX) (by rw [w1]; exact zT_e_ok hT (by omega)) (fun z => ?_) (by omega) hz ?_
          · rw [w1] at z
            exact absurd z (Nat.ne_of_gt n0)
          · rw [w1]
            show (X.1.1 : Int) + _ ≤ 60
            omega
        refine ⟨by omega, fun q2 => ?_, fun q2 => ⟨fun q3 => ?_, fun q3 => ⟨fun q4 => ?_, fun q4 => ?_⟩⟩⟩
        · have q2' : 97 ≤ B.2 k ∧ B.2 k < 113 := by omega
          rw [if_neg (by omega), if_pos q2'] at hz
          rw [if_pos q2'] at el
          have w1 : zW_1 B k X.1 = zT_w X.1 (B.2 k - 97) := by
            unfold zW_1
            rw [if_pos q2']
          refine s_201 (by omega) hX (fun J1 f1 x1 => go J1 0 0 f1 (by rw [w1]; exact x1) (by rw [w1]; exact zT_w_ok hT (by omega) (by omega)) (fun z => ?_) (by omega) hz ?_)
          · rw [w1] at z
            exact absurd z (Nat.succ_ne_zero _)
          · rw [w1]
            show ((X.1.1 + 1 : Nat) : Int) + _ ≤ 60
            omega
        · rw [if_neg (by omega)] at el
          have w1 : zW_1 B k X.1 = X.1 := by
            unfold zW_1
            rw [if_neg (by omega), q3, if_neg (by decide)]
          rw [if_pos q3] at hz
          exact go J m e ⟨fun _ _ _ _ => rfl, fun _ _ _ _ => rfl⟩ (by rw [w1]; exact hX) (by rw [w1]; exact hT) (by rw [w1]; exact h0) hm hz (by rw [w1]; omega)
        · have v2 : zF_m (B.2 k) = 2 := by
            have q2' : ¬ (97 ≤ B.2 k ∧ B.2 k < 113) := by omega
            rw [if_neg q3, if_neg q2'] at hz
            by_cases c : zF_m (B.2 k) ≤ m
            · rw [if_pos c] at hz
              omega
            · unfold zF_m at c ⊢
              rw [if_neg q4] at c ⊢
              by_cases c2 : B.2 k = 47
              · rw [if_pos c2]
              · rw [if_neg c2] at c
                omega
          exact mark 2 v2.symm (by omega) (by omega) q3
        · have v1 : zF_m (B.2 k) = 1 := by
            unfold zF_m
            rw [if_pos q4]
          exact mark 1 v1.symm (by omega) (by omega) q3
def mWf (J J' : jZ) : Prop := (∀ x, x ≠ 167 → x ≠ 184 → x ≠ 185 → J' x = J x) ∧ (∀ k, k ≠ 7 → k ≠ 9 → k ≠ 11 → k ≠ 26 → J' 167 k = J 167 k) ∧ J' 167 7 = 0
theorem m_208 {xs : Nat → Int32} {L d : Nat} {J K : jZ} {P : Int → jZ → jZ → Prop} {T : zT} {A : zA} (hQ : mQ J T A) {B : zB} {s : Int} (hB : zB_ok B) (hr : mB_at J B) (hs : J 167 11 = s) (hb : ¬ zF B B.1 0 (zT_l T) 1 = -1 → P (-20 - zF B B.1 0 (zT_l T) 1) (rM (jm_up J 167 7 0) 2) K) (hb2 : zF B B.1 0 (zT_l T) 1 = -1 → ¬ (T.1 : Int) + zB_l B B.1 ≤ 60 → P (-6) (rM (jm_up J 167 7 0) 6) K) (h : zF B B.1 0 (zT_l T) 1 = -1 → (T.1 : Int) + zB_l B B.1 ≤ 60 → ∀ J', mWf J J' → mQ J' (zW B B.1 0 T) A → J' 167 11 = s → P (zB_l B B.1) J' K) : q_208 xs L (d + 3) J K P := by
  have h60 := hQ.1.1
  have h250 := hB.1
  have hQ' := hQ
  obtain ⟨a1, a2, a3, a4, a5, a6⟩ := hQ
  have h1 := a3.1
  have lr := zT_l_r a1
  have fr := zF_r (B := B) B.1 0 (zT_l T) 1 (by omega)
  have l250 := zB_l_r B B.1
  have l0 : zB_l B 0 = 0 := rfl
  refine e_208 (s_209 a1 hB hr a3 (s_210 hB hr ⟨by omega, fun q => ⟨by omega, fun q2 => ?_, fun q2 => s_170 (k := 6) (by omega) (by omega) (hb2 q (by omega))⟩, fun q => s_170 (k := 2) (by omega) (by omega) (hb q)⟩))
  rw [hr.1]
  refine s_208_58 (X := (T, s)) hB B.1 0 (zT_l T) 1 _ (by omega) (fun i hi => by rw [zu_row (by omega)]; exact hr.2 i hi) ⟨mT_of a3 (zu_key (by omega)) (zu_row (by omega)) (zu_row (by omega)) (zu_row (by omega)), by rw [zu_key (by omega)]; exact hs⟩ a1 (fun z => ?_) lr.1 q (by show (T.1 : Int) + _ ≤ 60; omega) (fun J1 f1 x1 t1 => ?_)
  · show zT_l T = 2
    rw [zT_l, if_pos z]
  · have F : mWf J (jm_up J1 167 26 0) := ⟨fun x a b c => by rw [zu_row a, f1.1 x a b c, zu_row a], fun k a b c e => by rw [zu_key e, f1.2 k b c e, zu_key a], by rw [zu_key (by omega), f1.2 7 (by omega) (by omega) (by omega), zu_self]⟩
    exact h q (by omega) _ F ⟨t1, a2, mT_of x1.1 (zu_key (by omega)) (zu_row (by omega)) (zu_row (by omega)) (zu_row (by omega)), mA_of a4 (F.2.1 10 (by omega) (by omega) (by omega) (by omega)) (F.1 _ (by omega) (by omega) (by omega)) (F.1 _ (by omega) (by omega) (by omega)), by rw [F.2.1 37 (by omega) (by omega) (by omega) (by omega)]; exact a5, .inl zu_self, fun w => by rw [zu_self] at w; omega⟩ (by rw [zu_key (by omega)]; exact x1.2)
