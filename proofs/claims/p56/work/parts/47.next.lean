/-! Next. -/
def zq_ng (l : zL) (m : Int) (k : Nat) : Int := if m = 0 ∨ m = 3 then zs_f l k else zs_l l k
abbrev zq_nh (l : zL) (p m : Int) (k : Nat) : Prop := (m < 2 ∧ p ≤ zq_ng l m k) ∨ (2 ≤ m ∧ zq_ng l m k ≤ p)
def zq_nx (l : zL) (p m : Int) : Nat → Int
  | 0 => -1
  | k + 1 => if zq_nh l p m k ∧ (2 ≤ m ∨ zq_nx l p m k = -1) then (k : Int) else zq_nx l p m k
theorem zq_nx_r {l : zL} {p m : Int} : ∀ k : Nat, -1 ≤ zq_nx l p m k ∧ zq_nx l p m k < k
  | 0 => by simp [zq_nx]
  | k + 1 => by
    have := zq_nx_r (l := l) (p := p) (m := m) k
    unfold zq_nx
    split <;> omega
theorem zq_nx_up {l : zL} {p m r : Int} (hm : m < 2) (hr : 0 ≤ r) : ∀ k : Nat, (∀ j : Nat, j < k → (zq_nh l p m j ↔ r ≤ j)) → zq_nx l p m k = if r < k then r else -1
  | 0, _ => by
    rw [if_neg (by omega)]
    rfl
  | k + 1, h => by
    have ih := zq_nx_up hm hr k (fun j hj => h j (by omega))
    have hk := h k (by omega)
    rw [zq_nx, ih]
    by_cases c : r < k
    · rw [if_pos c, if_pos (show r < ((k + 1 : Nat) : Int) by omega), if_neg (fun q => by omega)]
    · rw [if_neg c]
      by_cases c2 : r = k
      · rw [if_pos ⟨hk.2 (by omega), .inr rfl⟩, if_pos (by omega)]
        exact c2.symm
      · rw [if_neg (fun q => c2 (by have := hk.1 q.1; omega)), if_neg (by omega)]
theorem zq_nx_dn {l : zL} {p m r : Int} (hm : 2 ≤ m) (hr : 0 ≤ r) : ∀ k : Nat, (∀ j : Nat, j < k → (zq_nh l p m j ↔ j < r)) → zq_nx l p m k = if r < k then r - 1 else (k : Int) - 1
  | 0, _ => by
    rw [if_neg (by omega)]
    rfl
  | k + 1, h => by
    have ih := zq_nx_dn hm hr k (fun j hj => h j (by omega))
    have hk := h k (by omega)
    rw [zq_nx, ih]
    by_cases c : r < k
    · rw [if_pos c, if_neg (fun q => by have := hk.1 q.1; omega), if_pos (show r < ((k + 1 : Nat) : Int) by omega)]
    · rw [if_neg c]
      by_cases c2 : r = k
      · rw [if_neg (fun q => by have := hk.1 q.1; omega), if_pos (by omega)]
        omega
      · rw [if_pos ⟨hk.2 (by omega), .inl hm⟩, if_neg (by omega)]
        omega
theorem zq_ng_f {l : zL} {m : Int} {k : Nat} (h : m = 0 ∨ m = 3) : zq_ng l m k = zs_f l k := by
  unfold zq_ng
  rw [if_pos h]
theorem zq_ng_l {l : zL} {m : Int} {k : Nat} (h : ¬ (m = 0 ∨ m = 3)) : zq_ng l m k = zs_l l k := by
  unfold zq_ng
  rw [if_neg h]
theorem zq_nh_0 {l : zL} {p : Int} {k : Nat} : zq_nh l p 0 k ↔ p ≤ zs_f l k := by
  have := zq_ng_f (l := l) (k := k) (m := 0) (by omega)
  unfold zq_nh
  omega
theorem zq_nh_1 {l : zL} {p : Int} {k : Nat} : zq_nh l p 1 k ↔ p ≤ zs_l l k := by
  have := zq_ng_l (l := l) (k := k) (m := 1) (by omega)
  unfold zq_nh
  omega
theorem zq_nh_2 {l : zL} {p : Int} {k : Nat} : zq_nh l p 2 k ↔ zs_l l k ≤ p := by
  have := zq_ng_l (l := l) (k := k) (m := 2) (by omega)
  unfold zq_nh
  omega
theorem zq_nh_3 {l : zL} {p : Int} {k : Nat} : zq_nh l p 3 k ↔ zs_f l k ≤ p := by
  have := zq_ng_f (l := l) (k := k) (m := 3) (by omega)
  unfold zq_nh
  omega
theorem zq_on {l : zL} (hg : zs_ok l) {p r : Int} (h : zs_on l 0 p r) {j : Nat} (hj : j < l.length) : p ≤ zs_f l j ↔ r ≤ j := by
  obtain ⟨a, b, c, e⟩ := h
  constructor
  · intro q
    by_cases t : r ≤ j
    · exact t
    · have := c j (by omega) (by omega)
      omega
  · intro q
    have := e r.toNat (by omega) (by omega)
    have := zs_mono hg (show r.toNat ≤ j by omega) hj
    omega
theorem zq_lb {l : zL} (hg : zs_ok l) {p r : Int} (h : zs_lb l p r) {j : Nat} (hj : j < l.length) : p ≤ zs_l l j ↔ r ≤ j := by
  obtain ⟨a, b, c, e⟩ := h
  constructor
  · intro q
    by_cases t : r ≤ j
    · exact t
    · have := c j (by omega)
      omega
  · intro q
    have := e r.toNat (by omega) (by omega)
    have := zs_mono hg (show r.toNat ≤ j by omega) hj
    omega
theorem c_116 {xs : Nat → Int32} {L d : Nat} {J K : jZ} {P : Int → jZ → jZ → Prop} {T : zT} {A : zA} (hQ : cQ J T A) {a p m : Int} (ha : -2147483648 ≤ a ∧ a < 2147483648) (hp : -2147483648 ≤ p ∧ p < 2147483648) (hm : -2147483648 ≤ m ∧ m < 2147483648) (hb : ¬ ((0 ≤ a ∧ a < A.1) ∧ (0 ≤ m ∧ m ≤ 3)) → P (-2) (rC J 0) K) (h : (0 ≤ a ∧ a < A.1) ∧ (0 ≤ m ∧ m ≤ 3) → ∀ J', cF J J' → cQ J' T A → P (zq_nx (zk_sem (-1) T A a.toNat) p m (zk_sem (-1) T A a.toNat).length) J' K) : q_116 xs L (d + 7) a p m J K P := by
  have h24 := hQ.2.1.1
  have h1 := hQ.2.2.2.1.1
  refine e_116 ⟨ha, by omega, fun q => ⟨hm, fun q2 => s_13 (k := 0) (by omega) (by omega) (hb (by omega)), fun q2 => ⟨fun q3 => ?_, fun q3 => s_13 (k := 0) (by omega) (by omega) (hb (by omega))⟩⟩, fun q => s_13 (k := 0) (by omega) (by omega) (hb (by omega))⟩
  obtain ⟨k, rfl⟩ : ∃ k : Nat, a = (k : Int) := ⟨a.toNat, by omega⟩
  rw [Int.toNat_natCast] at h
  have gd := (zS_gd hQ.1 hQ.2.1 (a := k) (by omega)).1
  have g60 := gd.1
  refine s_of hQ (by omega) (fun J' f _ Q _ l => ?_)
  have h := h (by omega) J' f Q
  have B := gd.2.1
  have kd := jz_e62 (i := k) (by omega)
  refine ⟨kd, hp, by omega, fun q4 => ⟨by omega, ?_⟩, fun q4 => ⟨fun q5 => ?_, fun q5 => ⟨fun q6 => ?_, fun q6 => ⟨by omega, ?_⟩⟩⟩⟩
  · refine s_45 kd l.2 gd (by omega) (by omega) (fun r hr => s_117 kd l.2 gd ?_ ?_)
    · have := hr.1
      have := hr.2.1
      omega
    · subst q4
      rw [zq_nx_up (r := r) (by omega) hr.1 _ (fun j hj => zq_nh_0.trans ((by have := B j hj; omega : p ≤ _ ↔ max (-1) (min p 60) ≤ _).trans (zq_on gd hr hj)))] at h
      have := hr.1
      by_cases c : r < (zk_sem (-1) T A k).length
      · rw [if_pos c] at h
        rw [if_pos (by omega)]
        exact h
      · rw [if_neg c] at h
        rw [if_neg (by omega)]
        exact h
  · refine s_118 kd l.2 gd (by omega) (fun r hr => s_117 kd l.2 gd ?_ ?_)
    · have := hr.1
      have := hr.2.1
      omega
    · subst q5
      rw [zq_nx_up (r := r) (by omega) hr.1 _ (fun j hj => zq_nh_1.trans ((by have := B j hj; omega : p ≤ _ ↔ max (-1) (min p 60) ≤ _).trans (zq_lb gd hr hj)))] at h
      have := hr.1
      by_cases c : r < (zk_sem (-1) T A k).length
      · rw [if_pos c] at h
        rw [if_pos (by omega)]
        exact h
      · rw [if_neg c] at h
        rw [if_neg (by omega)]
        exact h
  · refine s_118 kd l.2 gd (by omega) (fun r hr => ?_)
    subst q6
    rw [zq_nx_dn (r := r) (by omega) hr.1 _ (fun j hj => zq_nh_2.trans ((by have := B j hj; have := zq_lb gd hr hj; omega : zs_l (zk_sem (-1) T A k) j ≤ p ↔ j < r)))] at h
    have := hr.2.1
    by_cases c : r < (zk_sem (-1) T A k).length
    · rw [if_pos c] at h
      exact h
    · rw [if_neg c] at h
      rw [show r = ((zk_sem (-1) T A k).length : Int) by omega]
      exact h
  · refine s_45 kd l.2 gd (by omega) (by omega) (fun r hr => ?_)
    obtain rfl : m = 3 := by omega
    rw [zq_nx_dn (r := r) (by omega) hr.1 _ (fun j hj => zq_nh_3.trans ((by have := B j hj; have := zq_on gd hr hj; omega : zs_f (zk_sem (-1) T A k) j ≤ p ↔ j < r)))] at h
    have := hr.2.1
    by_cases c : r < (zk_sem (-1) T A k).length
    · rw [if_pos c] at h
      exact h
    · rw [if_neg c] at h
      rw [show r = ((zk_sem (-1) T A k).length : Int) by omega]
      exact h