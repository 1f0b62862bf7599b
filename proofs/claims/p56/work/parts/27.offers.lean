/-! What the reference offers for each kind. -/
theorem zm_idx {i : Nat} {k : Nat} : ((i : Int) * 60 + (k : Int)).toNat = 60 * i + k := by omega
/-- S, and what the first k spans of l offer besides -/
def zo_all (S : Int → Int → Prop) (l : zL) (k : Nat) (f e : Int) : Prop := S f e ∨ ∃ j, j < k ∧ f = zs_f l j ∧ e = zs_l l j
theorem zl_lo_iff {z : Int} {S T : Int → Int → Prop} {r : Nat → Int} (h : ∀ f e, S f e ↔ T f e) (hS : zl_lo z S r) : zl_lo z T r := by
  have : S = T := by
    funext f e
    exact propext (h f e)
  rw [← this]
  exact hS
/-- what two spans offer: both, or one behind the other -/
def zo_two (k : Int) (a b c e : Int) (x y : Int) : Prop := if k = 3 then x = min a c ∧ y = max b e else b < c ∧ x = a ∧ y = e
def zo_mer (S : Int → Int → Prop) (k : Int) (l m : zL) (i j : Nat) (x y : Int) : Prop := S x y ∨ ∃ p q, (p < i ∨ (p = i ∧ q < j)) ∧ p < l.length ∧ q < m.length ∧ zo_two k (zs_f l p) (zs_l l p) (zs_f m q) (zs_l m q) x y
/-- how many spans of m the i-th one of l lies in, or, turned, lie in it -/
def zo_ly (l m : zL) (i : Nat) (t : Int) : Nat → Int := zn (fun j => if (t = 0 ∧ zs_f m j ≤ zs_f l i ∧ zs_l l i ≤ zs_l m j) ∨ (¬ t = 0 ∧ zs_f l i ≤ zs_f m j ∧ zs_l m j ≤ zs_l l i) then 1 else 0)
theorem zn_r {f : Nat → Int} (h : ∀ k, 0 ≤ f k ∧ f k ≤ 1) : ∀ n : Nat, 0 ≤ zn f n ∧ zn f n ≤ n
  | 0 => by simp [zn]
  | n + 1 => by
    have := zn_r h n
    have := h n
    unfold zn
    omega
theorem zo_ly_r {l m : zL} {i : Nat} {t : Int} (n : Nat) : 0 ≤ zo_ly l m i t n ∧ zo_ly l m i t n ≤ n := by
  refine zn_r (fun k => ?_) n
  split <;> omega
theorem zn_pos {f : Nat → Int} (h : ∀ k, 0 ≤ f k ∧ f k ≤ 1) : ∀ n : Nat, 0 < zn f n ↔ ∃ k, k < n ∧ f k = 1
  | 0 => by simp [zn]
  | n + 1 => by
    have h1 := zn_pos h n
    have h2 := h n
    have h3 := (zn_r h n).1
    unfold zn
    constructor
    · intro hp
      by_cases q : 0 < zn f n
      · obtain ⟨k, hk, e⟩ := h1.mp q
        exact ⟨k, by omega, e⟩
      · exact ⟨n, by omega, by omega⟩
    · rintro ⟨k, hk, e⟩
      by_cases q : k = n
      · subst q
        omega
      · have := h1.mpr ⟨k, by omega, e⟩
        omega
/-- whether the i-th span of l meets one of m: one that lies in it (c), or in which it lies -/
def zo_met (c : Prop) (l m : zL) (i : Nat) : Prop := ∃ j, j < m.length ∧ ((c ∧ zs_f l i ≤ zs_f m j ∧ zs_l m j ≤ zs_l l i) ∨ (¬ c ∧ zs_f m j ≤ zs_f l i ∧ zs_l l i ≤ zs_l m j))
theorem zo_ly_pos {l m : zL} {i : Nat} {t : Int} : 0 < zo_ly l m i t m.length ↔ zo_met (¬ t = 0) l m i := by
  unfold zo_ly
  rw [zn_pos (fun k => by split <;> omega)]
  constructor
  · rintro ⟨j, hj, e⟩
    refine ⟨j, hj, ?_⟩
    split at e <;> omega
  · rintro ⟨j, hj, e⟩
    refine ⟨j, hj, ?_⟩
    rw [if_pos (by omega)]
/-- whether the test of a kind keeps the i-th span -/
def zo_tst (k : Int) (l m : zL) (i : Nat) : Prop := zo_met (k = 7 ∨ k = 8) l m i ↔ (k = 5 ∨ k = 7)
def zo_tes (S : Int → Int → Prop) (k : Int) (l m : zL) (i : Nat) (x y : Int) : Prop := S x y ∨ ∃ p, p < i ∧ p < l.length ∧ zo_tst k l m p ∧ x = zs_f l p ∧ y = zs_l l p
/-- what a pair offers -/
def zp_off (k : Int) (l m : zL) (x y : Int) : Prop :=
  if k = 2 then zs_in l x y ∨ zs_in m x y
  else if k ≤ 4 then ∃ p q, p < l.length ∧ q < m.length ∧ zo_two k (zs_f l p) (zs_l l p) (zs_f m q) (zs_l m q) x y
  else ∃ p, p < l.length ∧ zo_tst k l m p ∧ x = zs_f l p ∧ y = zs_l l p
theorem zs_in_b {l : zL} (hg : zs_ok l) {x y : Int} (h : zs_in l x y) : 0 ≤ x ∧ x ≤ y ∧ y < 60 := by
  obtain ⟨k, hk, rfl, rfl⟩ := h
  exact hg.2.1 k hk
theorem zp_off_od {k : Int} {l m : zL} (hg : zs_ok l) (hg2 : zs_ok m) : zl_od (zp_off k l m) := by
  intro x y h
  unfold zp_off at h
  split at h
  · rcases h with h | h
    · exact (zs_in_b hg h).2.1
    · exact (zs_in_b hg2 h).2.1
  · split at h
    · obtain ⟨p, q, hp, hq, h⟩ := h
      have := hg.2.1 p hp
      have := hg2.2.1 q hq
      unfold zo_two at h
      split at h <;> omega
    · obtain ⟨p, hp, -, rfl, rfl⟩ := h
      exact (hg.2.1 p hp).2.1