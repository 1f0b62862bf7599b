/-! Window, gap, under, next. -/
/-- the windows so far: the best, and how much is in it -/
def zq_wd (n : Int) (l : zL) : Nat → Int × Int
  | 0 => (0, -1)
  | k + 1 => if (zq_wd n l k).2 < zs_win l k ((k : Int) + n - 1) then ((k : Int), zs_win l k ((k : Int) + n - 1)) else zq_wd n l k
def zq_wn (N : Nat) (n : Int) : Nat := if (N : Int) < n then 1 else (N - n.toNat) + 1
theorem zs_win_r {l : zL} (hg : zs_ok l) (a b : Int) : 0 ≤ zs_win l a b ∧ zs_win l a b ≤ 60 := by
  have := zn_r (f := fun k => if a ≤ zs_f l k ∧ zs_l l k ≤ b then 1 else 0) (fun k => by split <;> omega) l.length
  have := hg.1
  unfold zs_win
  omega
theorem zq_wd_r {l : zL} (hg : zs_ok l) (n : Int) : ∀ k : Nat, 0 ≤ (zq_wd n l k).1 ∧ (zq_wd n l k).1 ≤ k ∧ -1 ≤ (zq_wd n l k).2 ∧ (zq_wd n l k).2 ≤ 60
  | 0 => by simp [zq_wd]
  | k + 1 => by
    have := zq_wd_r hg n k
    have := zs_win_r hg k ((k : Int) + n - 1)
    unfold zq_wd
    split
    · dsimp only
      omega
    · omega
def zq_w2 (w : Int) (r : Int × Int) : Int := if w = 0 then r.1 else r.2
-- gap: -1 for none so far
def zq_g1 (l m : zL) (i j : Nat) : Int := max 0 (max (zs_f l i) (zs_f m j) - min (zs_l l i) (zs_l m j) - 1)
def zq_mi (u v : Int) : Int := if u = -1 ∨ v < u then v else u
def zq_gi (l m : zL) (i : Nat) (u : Int) : Nat → Int
  | 0 => u
  | j + 1 => zq_mi (zq_gi l m i u j) (zq_g1 l m i j)
def zq_go (l m : zL) : Nat → Int
  | 0 => -1
  | i + 1 => zq_gi l m i (zq_go l m i) m.length
theorem zq_g1_r {l m : zL} (hg : zs_ok l) (hg2 : zs_ok m) {i j : Nat} (hi : i < l.length) (hj : j < m.length) : 0 ≤ zq_g1 l m i j ∧ zq_g1 l m i j < 59 := by
  have := hg.2.1 i hi
  have := hg2.2.1 j hj
  unfold zq_g1
  omega
theorem zq_gi_r {l m : zL} (hg : zs_ok l) (hg2 : zs_ok m) {i : Nat} (hi : i < l.length) {u : Int} (hu : -1 ≤ u ∧ u < 59) : ∀ j : Nat, j ≤ m.length → -1 ≤ zq_gi l m i u j ∧ zq_gi l m i u j < 59
  | 0, _ => hu
  | j + 1, h => by
    have := zq_gi_r hg hg2 hi hu j (by omega)
    have := zq_g1_r hg hg2 hi (show j < m.length by omega)
    unfold zq_gi zq_mi
    split <;> omega
theorem zq_go_r {l m : zL} (hg : zs_ok l) (hg2 : zs_ok m) : ∀ i : Nat, i ≤ l.length → -1 ≤ zq_go l m i ∧ zq_go l m i < 59
  | 0, _ => by simp [zq_go]
  | i + 1, h => zq_gi_r hg hg2 (by omega) (zq_go_r hg hg2 i (by omega)) m.length (Nat.le_refl _)
def zq_60 (u : Int) : Int := if u = -1 then 60 else u