/-! Kind: what the law asks of one ask's list and those it comes of. -/
section LK
variable {xs : Nat → Int32} {L d : Nat} {J K : jZ} {P : Int → jZ → jZ → Prop} {T : zT} {s : Int} {A : zA} {H : zH} {B : zB} {R : Nat → Int} {y : zY}
theorem v_110 (c : cV J K T s A H B R y) {a : Nat} {v : Int} (ha : a < A.1) (hv : 0 ≤ v ∧ v ≤ 7) (k : P (zq_ao A a v) J K) : q_110 xs L (d + 2) (a : Int) v J K P := by
  have h24 := cV_24 c
  exact c_110 c.2.1 c.2.2.1 (by omega) (by omega) (fun n => absurd (show (0 ≤ (a : Int) ∧ (a : Int) < A.1) ∧ (0 ≤ v ∧ v ≤ 7) by omega) n) (fun _ => k)
theorem v_123 (c : cV J K T s A H B R y) {a : Nat} (ha : a < A.1) (k : ∀ J', cV J' K T s A H B R y → P (zq_le 1 (zk_sem (-1) T A a) (zk_sem (-1) T A a).length) J' K) : q_123 xs L (d + 7) (a : Int) 1 J K P := by
  have h24 := cV_24 c
  exact c_123 c.2.1 (by omega) (by omega) (fun n => absurd (show (0 ≤ (a : Int) ∧ (a : Int) < A.1) ∧ (0 ≤ (1 : Int) ∧ (1 : Int) ≤ 2) by omega) n) (fun _ J1 F Q => k J1 (cV_F c F Q))
theorem v_136 (c : cV J K T s A H B R y) {a b : Nat} {w : Int} (ha : a < A.1) (hb : b < A.1) (hw : 0 ≤ w ∧ w ≤ 2) (k : ∀ J', cV J' K T s A H B R y → P (zq_ud w (zk_sem (-1) T A a) (zk_sem (-1) T A b)) J' K) : q_136 xs L (d + 7) (a : Int) (b : Int) w J K P := by
  have h24 := cV_24 c
  exact c_136 c.2.1 (by omega) (by omega) (by omega) (fun n => absurd (show (0 ≤ (a : Int) ∧ (a : Int) < A.1) ∧ (0 ≤ (b : Int) ∧ (b : Int) < A.1) ∧ (0 ≤ w ∧ w ≤ 2) by omega) n) (fun _ J1 F Q => k J1 (cV_F c F Q))
/-- under, and many, of equal numbers -/
theorem v_um (c : cV J K T s A H B R y) {a b m : Nat} {w : Int} {Q : jZ → jZ → Prop} {Z : jZ → jZ → Prop} (ha : a < A.1) (hb : b < A.1) (hm : m < A.1) (hw : 0 ≤ w ∧ w ≤ 2) (e : zq_ud w (zk_sem (-1) T A a) (zk_sem (-1) T A b) = (zk_sem (-1) T A m).length) (k : ∀ J', cV J' K T s A H B R y → Q J' K) : q_136 xs L (d + 7) (a : Int) (b : Int) w J K (fun r J1 K1 => q_113 xs L (d + 7) (m : Int) J1 K1 (fun r2 J2 K2 => (-2147483648 ≤ r ∧ r < 2147483648) ∧ (-2147483648 ≤ r2 ∧ r2 < 2147483648) ∧ (¬ r = r2 → Z J2 K2) ∧ (r = r2 → Q J2 K2))) := by
  refine v_136 c ha hb hw (fun J1 c1 => v_113 c1 hm (fun J2 c2 => ?_))
  have h60 := (v_gd c hm).1.1
  rw [e]
  exact ⟨by omega, by omega, fun q => absurd rfl q, fun _ => k J2 c2⟩
end LK
section LQ
variable {xs : Nat → Int32} {L d : Nat} {J K : jZ} {P : Int → jZ → jZ → Prop} {T : zT} {s : Int} {A : zA} {H : zH} {B : zB} {R : Nat → Int} {y : zY}
theorem ud_0 {l m : zL} : zq_ud 0 l m = zq_cn 5 l m := by
  unfold zq_ud
  rw [if_neg (by omega), if_pos rfl]
theorem ud_1 {l m : zL} : zq_ud 1 l m = zq_cn 7 l m := by
  unfold zq_ud
  rw [if_neg (by omega), if_neg (by omega)]
theorem ud_2 {l m : zL} : zq_ud 2 l m = zs_com l m := by
  unfold zq_ud
  rw [if_pos rfl]
/-- the parts of an ask of a kind -/
theorem k_part (c : cV J K T s A H B R y) {a : Nat} (ha : a < A.1) (h : 2 ≤ A.2 a 0 ∧ A.2 a 0 ≤ 8) : ∃ i j : Nat, zq_ao A a 1 = (i : Int) ∧ zq_ao A a 2 = (j : Int) ∧ i < A.1 ∧ j < A.1 ∧ zl_isl (zp_off (A.2 a 0) (zk_sem (-1) T A i) (zk_sem (-1) T A j)) (zk_sem (-1) T A a) := by
  have hr := c.2.1.2.1.2 a ha
  have g := (zk_sem_gd (wo := -1) c.2.1.1 c.2.1.2.1 a ha).1
  have hb : 0 ≤ A.2 a 1 ∧ A.2 a 1 < a ∧ 0 ≤ A.2 a 2 ∧ A.2 a 2 < a := by
    rcases hr with q | q | q | q | q | q <;> omega
  refine ⟨(A.2 a 1).toNat, (A.2 a 2).toNat, ?_, ?_, by omega, by omega, ?_⟩
  · unfold zq_ao zk_x
    rw [if_neg (by omega), if_pos rfl, if_pos (by omega)]
    omega
  · unfold zq_ao zk_y
    rw [if_neg (by omega), if_neg (by omega), if_pos rfl, if_pos (by omega)]
    omega
  · refine zl_isl_iff (fun x y => ?_) g
    unfold zk_off
    constructor
    · rintro (⟨q, -⟩ | ⟨q, -⟩ | ⟨q, -⟩ | ⟨q, -⟩ | ⟨-, -, q⟩)
      · omega
      · omega
      · omega
      · omega
      · exact q
    · exact fun q => .inr (.inr (.inr (.inr ⟨h.1, h.2, q⟩)))
theorem k_short (c : cV J K T s A H B R y) {a : Nat} (ha : a < A.1) (h : A.2 a 0 = 10) : ∃ i : Nat, zq_ao A a 1 = (i : Int) ∧ zq_ao A a 4 = A.2 a 2 ∧ (1 ≤ A.2 a 2 ∧ A.2 a 2 ≤ 60) ∧ i < A.1 ∧ zl_isl (zk_sh (zk_sem (-1) T A i) (A.2 a 2)) (zk_sem (-1) T A a) := by
  have hr := c.2.1.2.1.2 a ha
  have g := (zk_sem_gd (wo := -1) c.2.1.1 c.2.1.2.1 a ha).1
  have hb : 0 ≤ A.2 a 1 ∧ A.2 a 1 < a ∧ 1 ≤ A.2 a 2 ∧ A.2 a 2 ≤ 60 := by
    rcases hr with q | q | q | q | q | q <;> omega
  refine ⟨(A.2 a 1).toNat, ?_, ?_, by omega, by omega, ?_⟩
  · unfold zq_ao zk_x
    rw [if_neg (by omega), if_pos rfl, if_pos (by omega)]
    omega
  · unfold zq_ao zk_n
    rw [if_neg (by omega), if_neg (by omega), if_neg (by omega), if_neg (by omega), if_pos rfl, if_neg (by omega), if_pos h]
  · refine zl_isl_iff (fun x y => ?_) g
    unfold zk_off
    constructor
    · rintro (⟨q, -⟩ | ⟨q, -⟩ | ⟨-, q⟩ | ⟨q, -⟩ | ⟨-, q, -⟩)
      · omega
      · omega
      · exact q
      · omega
      · omega
    · exact fun q => .inr (.inr (.inl ⟨h, q⟩))
/-- in each span of a part of an either lies one of it -/
theorem k_2 {l m o : zL} (hl : zs_ok l) (hm : zs_ok m) (h : zl_isl (zp_off 2 l m) o) : zq_ud 1 l o = l.length ∧ zq_ud 1 m o = m.length := by
  have hS : ∀ x y, zp_off 2 l m x y → 0 ≤ x ∧ x ≤ y ∧ y < 60 := fun x y q => by
    unfold zp_off at q
    rw [if_pos rfl] at q
    rcases q with q | q
    · exact zs_in_b hl q
    · exact zs_in_b hm q
  rw [ud_1, ud_1]
  refine ⟨zf_all (fun i hi => zf_7 (zf_has h hS ?_)), zf_all (fun i hi => zf_7 (zf_has h hS ?_))⟩
  · unfold zp_off
    rw [if_pos rfl]
    exact .inl ⟨i, hi, rfl, rfl⟩
  · unfold zp_off
    rw [if_pos rfl]
    exact .inr ⟨i, hi, rfl, rfl⟩
/-- in each span of a both, of one behind the other, lies one of each part -/
theorem k_34 {k : Int} {l m o : zL} (hk : k = 3 ∨ k = 4) (hl : zs_ok l) (hm : zs_ok m) (h : zl_isl (zp_off k l m) o) : zq_ud 1 o l = o.length ∧ zq_ud 1 o m = o.length := by
  have key : ∀ i, i < o.length → ∃ p q, p < l.length ∧ q < m.length ∧ zo_two k (zs_f l p) (zs_l l p) (zs_f m q) (zs_l m q) (zs_f o i) (zs_l o i) := fun i hi => by
    have z := zf_of h hi
    unfold zp_off at z
    rw [if_neg (by omega), if_pos (by omega)] at z
    exact z
  have inn : ∀ i, i < o.length → (∃ p, p < l.length ∧ zs_f o i ≤ zs_f l p ∧ zs_l l p ≤ zs_l o i) ∧ ∃ q, q < m.length ∧ zs_f o i ≤ zs_f m q ∧ zs_l m q ≤ zs_l o i := fun i hi => by
    obtain ⟨p, q, hp, hq, z⟩ := key i hi
    have b1 := hl.2.1 p hp
    have b2 := hm.2.1 q hq
    unfold zo_two at z
    by_cases e : k = 3
    · rw [if_pos e] at z
      exact ⟨⟨p, hp, by omega, by omega⟩, q, hq, by omega, by omega⟩
    · rw [if_neg e] at z
      exact ⟨⟨p, hp, by omega, by omega⟩, q, hq, by omega, by omega⟩
  rw [ud_1, ud_1]
  exact ⟨zf_all (fun i hi => zf_7 (inn i hi).1), zf_all (fun i hi => zf_7 (inn i hi).2)⟩
/-- the spans of a kept part are those of the part -/
theorem k_58 {k : Int} {l m o : zL} (hk : 5 ≤ k ∧ k ≤ 8) (h : zl_isl (zp_off k l m) o) : zq_ud 2 o l = o.length := by
  rw [ud_2]
  refine zf_com (fun i hi => ?_)
  have z := zf_of h hi
  unfold zp_off at z
  rw [if_neg (by omega), if_neg (by omega)] at z
  obtain ⟨p, hp, -, e1, e2⟩ := z
  exact ⟨p, hp, e1.symm, e2.symm⟩
theorem k_10 {n : Int} {l o : zL} (hn : 0 ≤ n) (h : zl_isl (zk_sh l n) o) : zq_ud 2 o l = o.length ∧ zq_le 1 o o.length ≤ n := by
  refine ⟨?_, zf_le hn _ (fun i hi => ?_)⟩
  · rw [ud_2]
    refine zf_com (fun i hi => ?_)
    obtain ⟨p, hp, -, e1, e2⟩ := zf_of h hi
    exact ⟨p, hp, e1.symm, e2.symm⟩
  · obtain ⟨p, hp, e0, e1, e2⟩ := zf_of h hi
    unfold zs_s
    omega
theorem le_r {l : zL} (hg : zs_ok l) : 0 ≤ zq_le 1 l l.length ∧ zq_le 1 l l.length ≤ 60 * l.length := zq_le_r hg 1 _ (Nat.le_refl _)
set_option maxHeartbeats 4000000 in
theorem s_171 {a : Nat} (c : cV J K T s A H B R y) (ha : a < A.1) (k : ∀ J', cV J' K T s A H B R y → P 1 J' K) : q_171 xs L (d + 8) (a : Int) J K P := by
  have g := v_gd c ha
  have g60 := g.1.1
  have e0 : zq_ao A a 0 = A.2 a 0 := by
    unfold zq_ao
    rw [if_pos rfl]
  have hr := c.2.1.2.1.2 a ha
  have kr : 0 ≤ A.2 a 0 ∧ A.2 a 0 ≤ 11 := by
    rcases hr with q | q | q | q | q | q <;> omega
  refine e_171 (v_110 c ha (by omega) (v_110 c ha (by omega) (v_110 c ha (by omega) ?_)))
  rw [e0]
  by_cases k28 : 2 ≤ A.2 a 0 ∧ A.2 a 0 ≤ 8
  · obtain ⟨i, j, e1, e2, hi, hj, hl⟩ := k_part c ha k28
    have gi := v_gd c hi
    have gj := v_gd c hj
    have i60 := gi.1.1
    rw [e1, e2]
    have L2 : A.2 a 0 = 2 → zq_ud 1 (zk_sem (-1) T A i) (zk_sem (-1) T A a) = (zk_sem (-1) T A i).length ∧ zq_ud 1 (zk_sem (-1) T A j) (zk_sem (-1) T A a) = (zk_sem (-1) T A j).length := fun q => k_2 gi.1 gj.1 (by rw [q] at hl; exact hl)
    have L34 : A.2 a 0 = 3 ∨ A.2 a 0 = 4 → zq_ud 1 (zk_sem (-1) T A a) (zk_sem (-1) T A i) = (zk_sem (-1) T A a).length ∧ zq_ud 1 (zk_sem (-1) T A a) (zk_sem (-1) T A j) = (zk_sem (-1) T A a).length := fun q => k_34 q gi.1 gj.1 hl
    have L58 : 5 ≤ A.2 a 0 → zq_ud 2 (zk_sem (-1) T A a) (zk_sem (-1) T A i) = (zk_sem (-1) T A a).length := fun q => k_58 ⟨q, k28.2⟩ hl
    have C : 5 ≤ A.2 a 0 → ((zk_sem (-1) T A a).length : Int) = zq_cn (A.2 a 0) (zk_sem (-1) T A i) (zk_sem (-1) T A j) := fun q => zp_cnt ⟨q, k28.2⟩ gi.1 hl
    refine ⟨by omega, fun q5 => ?_, fun q5 => ⟨fun q8 => absurd q8 (by omega), fun q8 => ⟨fun q7 => ?_, fun q7 => ?_⟩⟩⟩
    · refine ⟨fun q => v_um c hi ha hi (by omega) (L2 q).1 (fun J1 c1 => v_um c1 hj ha hj (by omega) (L2 q).2 (fun J2 c2 => k J2 c2)), fun n2 => ?_⟩
      refine ⟨fun q => v_um c ha hi ha (by omega) (L34 (.inl q)).1 (fun J1 c1 => v_um c1 ha hj ha (by omega) (L34 (.inl q)).2 (fun J2 c2 => k J2 c2)), fun n3 => ?_⟩
      refine ⟨fun q => v_um c ha hi ha (by omega) (L34 (.inr q)).1 (fun J1 c1 => v_um c1 ha hj ha (by omega) (L34 (.inr q)).2 (fun J2 c2 => k J2 c2)), fun n4 => ?_⟩
      exfalso
      omega
    · have C5 := C q5
      have z6 := zf_cn2 (k := 5) (k2 := 6) (l := zk_sem (-1) T A i) (m := zk_sem (-1) T A j) (fun _ => zf_68.1)
      have c5r := zq_cn_r 5 (zk_sem (-1) T A i) (zk_sem (-1) T A j)
      refine v_136 c hi hj (by omega) (fun J1 c1 => ?_)
      rw [ud_0]
      refine ⟨fun q => absurd q (by omega), fun _ => ⟨fun q => absurd q (by omega), fun _ => ⟨fun q => absurd q (by omega), fun _ => ⟨fun q => ?_, fun n5 => ⟨fun q => ?_, fun n6 => absurd q7 (by omega)⟩⟩⟩⟩⟩
      · rw [q] at C5
        refine v_113 c1 ha (fun J2 c2 => ?_)
        rw [← C5]
        refine ⟨by omega, by omega, fun q1 => absurd rfl q1, fun _ => v_136 c2 ha hi (by omega) (fun J3 c3 => ?_)⟩
        rw [L58 q5]
        exact ⟨by omega, fun q1 => absurd rfl q1, fun _ => k J3 c3⟩
      · rw [q] at C5
        refine v_113 c1 ha (fun J2 c2 => v_113 c2 hi (fun J3 c3 => ?_))
        rw [C5, z6]
        exact ⟨by omega, by omega, fun q1 => absurd rfl q1, fun _ => v_um c3 ha hi ha (by omega) (L58 q5) (fun J4 c4 => k J4 c4)⟩
    · have C5 := C q5
      have z8 := zf_cn2 (k := 7) (k2 := 8) (l := zk_sem (-1) T A i) (m := zk_sem (-1) T A j) (fun _ => zf_68.2)
      have c7r := zq_cn_r 7 (zk_sem (-1) T A i) (zk_sem (-1) T A j)
      refine v_136 c hi hj (by omega) (fun J1 c1 => ?_)
      rw [ud_1]
      refine ⟨fun q => absurd q (by omega), fun _ => ⟨fun q => absurd q (by omega), fun _ => ⟨fun q => absurd q (by omega), fun _ => ⟨fun q => absurd q (by omega), fun _ => ⟨fun q => absurd q (by omega), fun _ => ⟨fun q => ?_, fun n7 => ⟨fun q => ?_, fun n8 => absurd q8 (by omega)⟩⟩⟩⟩⟩⟩⟩
      · rw [q] at C5
        refine v_113 c1 ha (fun J2 c2 => ?_)
        rw [← C5]
        refine ⟨by omega, by omega, fun q1 => absurd rfl q1, fun _ => v_136 c2 ha hi (by omega) (fun J3 c3 => ?_)⟩
        rw [L58 q5]
        exact ⟨by omega, fun q1 => absurd rfl q1, fun _ => k J3 c3⟩
      · rw [q] at C5
        refine v_113 c1 ha (fun J2 c2 => v_113 c2 hi (fun J3 c3 => ?_))
        rw [C5, z8]
        exact ⟨by omega, by omega, fun q1 => absurd rfl q1, fun _ => v_um c3 ha hi ha (by omega) (L58 q5) (fun J4 c4 => k J4 c4)⟩
  · refine ⟨by omega, fun q5 => ?_, fun q5 => ⟨fun q8 => ?_, fun q8 => absurd q8 (by omega)⟩⟩
    · exact ⟨fun q => absurd q (by omega), fun _ => ⟨fun q => absurd q (by omega), fun _ => ⟨fun q => absurd q (by omega), fun _ => ⟨fun q => absurd q (by omega), fun _ => ⟨fun q => absurd q (by omega), fun _ => ⟨fun q => absurd q (by omega), fun _ => ⟨fun q => absurd q (by omega), fun _ => ⟨fun q => absurd q (by omega), fun _ => ⟨fun q => absurd q (by omega), fun _ => k J c⟩⟩⟩⟩⟩⟩⟩⟩⟩
    · refine ⟨fun q => absurd q (by omega), fun _ => ⟨fun q => absurd q (by omega), fun _ => ⟨fun q => absurd q (by omega), fun _ => ⟨fun q => absurd q (by omega), fun _ => ⟨fun q => absurd q (by omega), fun _ => ⟨fun q => absurd q (by omega), fun _ => ⟨fun q => absurd q (by omega), fun _ => ⟨fun _ => k J c, fun _ => ⟨fun q => ?_, fun _ => k J c⟩⟩⟩⟩⟩⟩⟩⟩⟩
      obtain ⟨i, e1, e4, n1, hi, hl⟩ := k_short c ha q
      have kk := k_10 (show 0 ≤ A.2 a 2 by omega) hl
      have lr := le_r g.1
      rw [e1]
      refine v_123 c ha (fun J1 c1 => v_110 c1 ha (by omega) ?_)
      rw [e4]
      exact ⟨by omega, by omega, fun q1 => absurd kk.2 (by omega), fun _ => v_um c1 ha hi ha (by omega) kk.1 (fun J2 c2 => k J2 c2)⟩
end LQ
