/-! What a word at a place would do. -/
def zt_if (T : zT) (p : Nat) (w : Int) : zT := (T.1, (fun k => if k = p then w else T.2.1 k), T.2.2.1, T.2.2.2)
theorem zt_if_ok {T : zT} {p : Nat} {w : Int} (hT : zt_ok T) (hw : 0 ≤ w ∧ w < 16) : zt_ok (zt_if T p w) := by
  refine ⟨hT.1, fun k hk => ?_, hT.2.2.1, hT.2.2.2⟩
  show 0 ≤ (if k = p then w else T.2.1 k) ∧ (if k = p then w else T.2.1 k) < 16
  split
  · exact hw
  · exact hT.2.1 k hk
noncomputable def zq_be (T : zT) (A : zA) (a p : Nat) (b : Int) : Nat → Int × Int
  | 0 => (b, -1)
  | k + 1 => if (zq_be T A a p b k).2 < ((zk_sem (-1) (zt_if T p (k : Int)) A a).length : Int) then ((k : Int), ((zk_sem (-1) (zt_if T p (k : Int)) A a).length : Int)) else zq_be T A a p b k
theorem zq_be_eq (T : zT) (A : zA) (a p : Nat) (b c : Int) : ∀ k : Nat, zq_be T A a p b (k + 1) = zq_be T A a p c (k + 1)
  | 0 => by
    show (if (-1 : Int) < _ then _ else _) = (if (-1 : Int) < _ then _ else _)
    rw [if_pos (by omega), if_pos (by omega)]
  | k + 1 => by
    have ih := zq_be_eq T A a p b c k
    show (if (zq_be T A a p b (k + 1)).2 < _ then _ else zq_be T A a p b (k + 1)) = (if (zq_be T A a p c (k + 1)).2 < _ then _ else zq_be T A a p c (k + 1))
    rw [ih]