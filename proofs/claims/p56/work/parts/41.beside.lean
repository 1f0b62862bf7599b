/-! Under, alike, same, inside, next. -/
noncomputable def zi (p : Prop) : Int := @ite _ p (Classical.propDecidable p) 1 0
theorem zi_t {p : Prop} (h : p) : zi p = 1 := by
  unfold zi
  rw [if_pos h]
theorem zi_f {p : Prop} (h : ¬ p) : zi p = 0 := by
  unfold zi
  rw [if_neg h]
theorem zi_r (p : Prop) : 0 ≤ zi p ∧ zi p ≤ 1 := by
  unfold zi
  split <;> omega
theorem zs_fil_len {l : zL} {c : Nat → Prop} : ∀ k : Nat, ((zs_fil l c k).length : Int) = zn (fun i => zi (c i)) k
  | 0 => rfl
  | k + 1 => by
    have ih := zs_fil_len (l := l) (c := c) k
    by_cases h : c k
    · rw [zs_fil_t h, zn, ← ih, zi_t h]
      simp
    · rw [zs_fil_f h, zn, ← ih, zi_f h]
      omega
/-- how many spans the test of a kind keeps -/
noncomputable def zq_cn (k : Int) (l m : zL) : Int := zn (fun i => zi (zo_tst k l m i)) l.length
theorem zq_cn_r (k : Int) (l m : zL) : 0 ≤ zq_cn k l m ∧ zq_cn k l m ≤ l.length := zn_r (fun i => zi_r _) l.length
theorem zp_cnt {k : Int} {l m l' : zL} (hk : 5 ≤ k ∧ k ≤ 8) (hg : zs_ok l) (h : zl_isl (zp_off k l m) l') : (l'.length : Int) = zq_cn k l m := by
  have h1 : zl_isl (zp_off k l m) (zs_fil l (zo_tst k l m) l.length) := by
    refine zl_isl_sub (zs_fil_ok hg _ (Nat.le_refl _)).1 (fun x y => ?_)
    rw [zs_fil_in]
    unfold zp_off
    rw [if_neg (by omega), if_neg (by omega)]
  rw [zs_ext h.1 h1.1 (fun f e => (h.2 f e).trans (h1.2 f e).symm), zs_fil_len]
  rfl
theorem zq_cn_all {k : Int} {l m : zL} : zq_cn k l m = l.length ↔ ∀ i, i < l.length → zo_tst k l m i := by
  constructor
  · intro h i hi
    by_cases c : zo_tst k l m i
    · exact c
    · exfalso
      have := zn_mono_lt (f := fun i => zi (zo_tst k l m i)) (g := fun _ => 1) l.length (fun j _ => (zi_r _).2) i hi (by rw [zi_f c]; omega)
      have e : ∀ n : Nat, zn (fun _ => 1) n = n := by
        intro n
        induction n with
        | zero => rfl
        | succ n ih => rw [zn, ih]; rfl
      rw [e] at this
      unfold zq_cn at h
      omega
  · intro h
    unfold zq_cn
    have : ∀ n : Nat, n ≤ l.length → zn (fun i => zi (zo_tst k l m i)) n = n := by
      intro n
      induction n with
      | zero => exact fun _ => rfl
      | succ n ih =>
        intro hn
        rw [zn, ih (by omega), zi_t (h n (by omega))]
        rfl
    exact this _ (Nat.le_refl _)
theorem zo_tst5 {l m : zL} {i : Nat} : zo_tst 5 l m i ↔ 0 < zo_ly l m i 0 m.length := by
  rw [zo_ly_pos]
  unfold zo_tst
  rw [show ((5 : Int) = 7 ∨ (5 : Int) = 8) = (¬ (0 : Int) = 0) from propext (by omega)]
  simp
theorem zo_tst7 {l m : zL} {i : Nat} : zo_tst 7 l m i ↔ 0 < zo_ly l m i 1 m.length := by
  rw [zo_ly_pos]
  unfold zo_tst
  rw [show ((7 : Int) = 7 ∨ (7 : Int) = 8) = (¬ (1 : Int) = 0) from propext (by omega)]
  simp
noncomputable def zq_ud (w : Int) (l m : zL) : Int := if w = 2 then zs_com l m else if w = 0 then zq_cn 5 l m else zq_cn 7 l m
theorem cQ_made {J J' : jZ} {T : zT} {A : zA} (hQ : cQ J T A) (hf : ∀ x, x ≠ 67 → x < 140 ∨ 140 + 2 < x → J' x = J x) : cF J J' ∧ cQ J' T A := by
  have F : cF J J' := ⟨fun x x1 x2 x3 => hf x x2 (by omega), fun j _ => by rw [hf 61 (by omega) (by omega)]⟩
  refine ⟨F, cQ_F hQ F (fun j hj => ?_)⟩
  have h24 := hQ.2.1.1
  rw [hf 61 (by omega) (by omega)] at hj
  have t := hQ.2.2.2.2.2.2.2 j hj
  exact ⟨t.1, ⟨by rw [hf _ (by omega) (by omega)]; exact t.2.1, fun i hi => by rw [hf _ (by omega) (by omega), hf _ (by omega) (by omega)]; exact t.2.2 i hi⟩⟩
theorem c_136 {xs : Nat → Int32} {L d : Nat} {J K : jZ} {P : Int → jZ → jZ → Prop} {T : zT} {A : zA} (hQ : cQ J T A) {a b w : Int} (ha : -2147483648 ≤ a ∧ a < 2147483648) (hb0 : -2147483648 ≤ b ∧ b < 2147483648) (hw : -2147483648 ≤ w ∧ w < 2147483648) (hb : ¬ ((0 ≤ a ∧ a < A.1) ∧ (0 ≤ b ∧ b < A.1) ∧ (0 ≤ w ∧ w ≤ 2)) → P (-2) (rC J 0) K) (h : (0 ≤ a ∧ a < A.1) ∧ (0 ≤ b ∧ b < A.1) ∧ (0 ≤ w ∧ w ≤ 2) → ∀ J', cF J J' → cQ J' T A → P (zq_ud w (zk_sem (-1) T A a.toNat) (zk_sem (-1) T A b.toNat)) J' K) : q_136 xs L (d + 7) a b w J K P := by
  have h24 := hQ.2.1.1
  have h1 := hQ.2.2.2.1.1
  have bad : ¬ ((0 ≤ a ∧ a < A.1) ∧ (0 ≤ b ∧ b < A.1) ∧ (0 ≤ w ∧ w ≤ 2)) → q_13 xs L (d + 6) (-2) J K (fun r J' K' => P r J' K') := fun q => s_13 (k := 0) (by omega) (by omega) (hb q)
  refine e_136 ⟨ha, by omega, fun q => ⟨hb0, fun q2 => ⟨hw, fun q3 => bad (by omega), fun q3 => ⟨fun q4 => ?_, fun q4 => bad (by omega)⟩⟩, fun q2 => bad (by omega)⟩, fun q => bad (by omega)⟩
  obtain ⟨k, rfl⟩ : ∃ k : Nat, a = (k : Int) := ⟨a.toNat, by omega⟩
  obtain ⟨j, rfl⟩ : ∃ j : Nat, b = (j : Int) := ⟨b.toNat, by omega⟩
  simp only [Int.toNat_natCast] at h
  have g1 := zS_gd hQ.1 hQ.2.1 (a := k) (by omega)
  have g2 := zS_gd hQ.1 hQ.2.1 (a := j) (by omega)
  refine s_of hQ (by omega) (fun J1 f1 _ Q1 _ l1 => ⟨jz_e62 (by omega), s_of Q1 (by omega) (fun J2 f2 _ Q2 k2 l2 => ⟨jz_e62 (by omega), fun q5 => ⟨fun q6 => ?_, fun q6 => ?_⟩, fun q5 => ?_⟩)⟩)
  · refine s_53 (by omega) hQ.1.1 Q2.2.2.1.1 Q2.2.2.2.2.2.2.1 (jz_e62 (by omega)) (jz_e62 (by omega)) rfl (by omega) (by omega) (by omega) g1.1 g2.1 g1.2 g2.2 (k2 k l1.1).2 l2.2 (fun J3 l3 f3 r3 i3 => ?_)
    rw [r3.1, zp_cnt (by omega) g1.1 i3]
    have := h (by omega) J3 (cF_tr f1 (cF_tr f2 (cQ_made Q2 f3).1)) (cQ_made Q2 f3).2
    rw [zq_ud, if_neg q5, if_neg q6] at this
    exact this
  · refine s_53 (by omega) hQ.1.1 Q2.2.2.1.1 Q2.2.2.2.2.2.2.1 (jz_e62 (by omega)) (jz_e62 (by omega)) rfl (by omega) (by omega) (by omega) g1.1 g2.1 g1.2 g2.2 (k2 k l1.1).2 l2.2 (fun J3 l3 f3 r3 i3 => ?_)
    rw [r3.1, zp_cnt (by omega) g1.1 i3]
    have := h (by omega) J3 (cF_tr f1 (cF_tr f2 (cQ_made Q2 f3).1)) (cQ_made Q2 f3).2
    rw [zq_ud, if_neg q5, if_pos q6] at this
    exact this
  · refine s_137 (jz_e62 (by omega)) (jz_e62 (by omega)) (k2 k l1.1).2 g1.1 l2.2 g2.1 ?_
    have := h (by omega) J2 (cF_tr f1 f2) Q2
    rw [zq_ud, if_pos q5] at this
    exact this
-- alike, same
theorem c_138 {xs : Nat → Int32} {L d : Nat} {J K : jZ} {P : Int → jZ → jZ → Prop} {T : zT} {A : zA} (hQ : cQ J T A) {a b : Int} (ha : -2147483648 ≤ a ∧ a < 2147483648) (hb0 : -2147483648 ≤ b ∧ b < 2147483648) (hb : ¬ ((0 ≤ a ∧ a < A.1) ∧ (0 ≤ b ∧ b < A.1)) → P (-2) (rC J 0) K) (h : (0 ≤ a ∧ a < A.1) ∧ (0 ≤ b ∧ b < A.1) → ∀ J', cF J J' → cQ J' T A → P (zs_un (zk_sem (-1) T A a.toNat) (zk_sem (-1) T A b.toNat)) J' K) : q_138 xs L (d + 7) a b J K P := by
  have h24 := hQ.2.1.1
  have h1 := hQ.2.2.2.1.1
  refine e_138 ⟨ha, by omega, fun q => ⟨hb0, fun q2 => ?_, fun q2 => s_13 (k := 0) (by omega) (by omega) (hb (by omega))⟩, fun q => s_13 (k := 0) (by omega) (by omega) (hb (by omega))⟩
  obtain ⟨k, rfl⟩ : ∃ k : Nat, a = (k : Int) := ⟨a.toNat, by omega⟩
  obtain ⟨j, rfl⟩ : ∃ j : Nat, b = (j : Int) := ⟨b.toNat, by omega⟩
  simp only [Int.toNat_natCast] at h
  exact s_of hQ (by omega) (fun J1 f1 _ Q1 _ l1 => ⟨jz_e62 (by omega), s_of Q1 (by omega) (fun J2 f2 _ Q2 k2 l2 => ⟨jz_e62 (by omega), s_139 (jz_e62 (by omega)) (jz_e62 (by omega)) (k2 k l1.1).2 (zS_gd hQ.1 hQ.2.1 (by omega)).1 l2.2 (zS_gd hQ.1 hQ.2.1 (by omega)).1 (h (by omega) J2 (cF_tr f1 f2) Q2)⟩)⟩)
theorem zs_un_r (l m : zL) (hg : zs_ok l) : -1 ≤ zs_un l m ∧ zs_un l m ≤ 60 := by
  have b1 := zn_fd_pos (c := zs_df l m) (min l.length m.length) 0
  have b2 := zn_fd_lt (c := zs_df l m) (min l.length m.length) 0
  have := hg.1
  unfold zs_un zs_unr
  repeat' split
  all_goals omega
theorem zs_un_self (l : zL) : zs_un l l = -1 := by
  have : ∀ n k : Nat, zn_fd (zs_df l l) n k = -1 := by
    intro n
    induction n with
    | zero => exact fun _ => rfl
    | succ n ih =>
      intro k
      rw [zn_fd_f (by unfold zs_df; simp)]
      exact ih (k + 1)
  unfold zs_un zs_unr
  rw [this, if_pos rfl, if_pos rfl]
/-- the least number of an ask with the same list: r -/
def zq_sm (T : zT) (A : zA) (a r : Nat) : Prop := r ≤ a ∧ zs_un (zk_sem (-1) T A r) (zk_sem (-1) T A a) = -1 ∧ ∀ j, j < r → ¬ zs_un (zk_sem (-1) T A j) (zk_sem (-1) T A a) = -1
theorem zq_sm_u {T : zT} {A : zA} {a r s : Nat} (h : zq_sm T A a r) (h2 : zq_sm T A a s) : r = s := by
  by_cases q : r < s
  · exact absurd h.2.1 (h2.2.2 r q)
  · by_cases q2 : s < r
    · exact absurd h2.2.1 (h.2.2 s q2)
    · omega
