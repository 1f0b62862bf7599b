/-! A text read from the tape: the class's. -/
theorem zF_r {B : zB} : ∀ (n k : Nat) (m e : Int), k + n ≤ B.1 → -1 ≤ zF B n k m e ∧ zF B n k m e ≤ (B.1 : Int)
  | 0, k, m, e, h => by
    rw [zF]
    split <;> omega
  | n + 1, k, m, e, h => by
    rw [zF]
    split
    · exact zF_r n (k + 1) m e (by omega)
    · split
      · exact zF_r n (k + 1) 0 0 (by omega)
      · split
        · omega
        · exact zF_r n (k + 1) _ 0 (by omega)
theorem zF_m_r (b : Int) : 0 ≤ zF_m b ∧ zF_m b ≤ 2 := by
  unfold zF_m
  repeat' split
  all_goals omega
theorem zB_l_m {B : zB} {k : Nat} : ∀ n : Nat, zB_l B k ≤ zB_l B (k + n)
  | 0 => Int.le_refl _
  | n + 1 => by
    have ih := zB_l_m (B := B) (k := k) n
    have e : zB_l B (k + (n + 1)) = zB_l B (k + n) + (if 97 ≤ B.2 (k + n) ∧ B.2 (k + n) < 113 then 1 else 0) := rfl
    rw [e]
    split <;> omega
def zW_1 (B : zB) (i : Nat) (T : zT) : zT := if 97 ≤ B.2 i ∧ B.2 i < 113 then zT_w T (B.2 i - 97) else if 0 < zF_m (B.2 i) then zT_e T (zF_m (B.2 i)) else T
def zW (B : zB) : Nat → Nat → zT → zT
  | 0, _, T => T
  | n + 1, i, T => zW B n (i + 1) (zW_1 B i T)
theorem cQ_X {J J' : jZ} {T T' : zT} {A : zA} (h : cQ J T A) (g : ∀ x, x ≠ 1 → x ≠ 2 → x ≠ 3 → x ≠ 61 → x < 144 → J' x = J x) (g6 : J' 61 6 = J 61 6) (hT : zt_ok T') (rT : zt_at J' 1 T') (h5 : J' 61 5 = 0) : cQ J' T' A := by
  obtain ⟨a1, a2, a3, a4, a5, a6, a7, a8⟩ := h
  have h24 := a2.1
  refine ⟨hT, a2, rT, zA_at_of a4 h24 (fun x _ _ => g x (by omega) (by omega) (by omega) (by omega) (by omega)), zA_rc_of a5 h24 (fun x _ _ => g x (by omega) (by omega) (by omega) (by omega) (by omega)), by rw [g6]; exact a6, ⟨by rw [g 63 (by omega) (by omega) (by omega) (by omega) (by omega)]; exact a7.1, fun k hk => by simp at hk⟩, fun j hj => ?_⟩
  rw [h5] at hj
  exact absurd hj zb_0
def cWf (J J' : jZ) : Prop := (∀ x, x ≠ 1 → x ≠ 2 → x ≠ 3 → x ≠ 61 → x ≠ 144 → J' x = J x) ∧ J' 61 6 = J 61 6 ∧ J' 144 1 = 0
-- seed