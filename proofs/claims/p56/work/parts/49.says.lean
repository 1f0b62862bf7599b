/-! Says, holds, element. -/
abbrev zq_ic (k v : Int) : Prop := v = 0 ∨ (v = 1 ∧ (k = 0 ∨ k = 1 ∨ k = 9)) ∨ (v = 2 ∧ 2 ≤ k ∧ k ≤ 8) ∨ (v = 3 ∧ 2 ≤ k ∧ k ≤ 4) ∨ (v = 4 ∧ 5 ≤ k ∧ k ≤ 8) ∨ (v = 5 ∧ k = 10) ∨ (v = 6 ∧ k = 11)
def zq_ib (k v : Int) : Int := if zq_ic k v then 1 else 0
abbrev zq_is (k v : Int) : Prop := zq_ib k v = 1
theorem zq_is_i {k v : Int} : zq_is k v ↔ zq_ic k v := by
  unfold zq_is zq_ib
  constructor
  · intro h
    by_cases c : zq_ic k v
    · exact c
    · rw [if_neg c] at h
      omega
  · intro h
    rw [if_pos h]
/-- why nothing is said; 0: it is -/
def zq_sx (A : zA) (H : zH) (s v : Int) : Int := if ¬ ((0 ≤ s ∧ s < 8) ∧ (0 ≤ v ∧ v ≤ 6)) then -2 else if (H s.toNat).1 = -1 then -4 else if (H s.toNat).1 ≤ 4 then -3 else if zq_is (A.2 ((H s.toNat).1 - 10).toNat 0) v then 0 else -3
noncomputable def zq_sy (T : zT) (A : zA) (a : Nat) (v : Int) : Int := if v = 0 then ((zk_sem (-1) T A a).length : Int) else if v = 1 then zk_n (A.2 a) else if v = 2 then 100 * A.2 a 1 + A.2 a 2 else if v = 3 then ((zk_sem (-1) T A (A.2 a 1).toNat).length : Int) + ((zk_sem (-1) T A (A.2 a 2).toNat).length : Int) - ((zk_sem (-1) T A a).length : Int) else if v = 4 then ((zk_sem (-1) T A (A.2 a 1).toNat).length : Int) - ((zk_sem (-1) T A a).length : Int) else zk_n (A.2 a)
theorem zk_x_k {r : Nat → Int} (h : 2 ≤ r 0 ∧ r 0 ≤ 8) : zk_x r = r 1 ∧ zk_y r = r 2 := by
  unfold zk_x zk_y
  rw [if_pos (by omega), if_pos (by omega)]
  exact ⟨rfl, rfl⟩
theorem zk_kb {i : Nat} {r : Nat → Int} (h : zk_ok i r) : 0 ≤ r 0 ∧ r 0 ≤ 11 := by
  rcases h with q | q | q | q | q | q <;> omega
theorem zk_kd {i : Nat} {r : Nat → Int} (h : zk_ok i r) (k : 2 ≤ r 0 ∧ r 0 ≤ 8) : (0 ≤ r 1 ∧ r 1 < i) ∧ (0 ≤ r 2 ∧ r 2 < i) := by
  rcases h with q | q | q | q | q | q <;> omega
-- holds, element
def zq_ho (H : zH) (s : Int) : Int := if 0 ≤ s ∧ s < 8 then (H s.toNat).1 else -1
def zq_el (H : zH) (s i : Int) : Int := if 0 ≤ s ∧ s < 8 then (if 0 ≤ (H s.toNat).1 ∧ (H s.toNat).1 ≤ 4 then (if 0 ≤ i ∧ i < (H s.toNat).2.1 then (H s.toNat).2.2 i.toNat else 0) else 0) else 0