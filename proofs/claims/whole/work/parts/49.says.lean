/-! Says, holds, element. -/
abbrev zq_ic (k v : Int) : Prop := v = 0 ∨ (v = 1 ∧ (k = 0 ∨ k = 1 ∨ k = 9)) ∨ (v = 2 ∧ 2 ≤ k ∧ k ≤ 8) ∨ (v = 3 ∧ 2 ≤ k ∧ k ≤ 4) ∨ (v = 4 ∧ 5 ≤ k ∧ k ≤ 8) ∨ (v = 5 ∧ k = 10) ∨ (v = 6 ∧ k = 11)
def zq_ib (k v : Int) : Int := if zq_ic k v then 1 else 0
abbrev zq_is (k v : Int) : Prop := zq_ib k v = 1
theorem zq_is_i {k v : Int} : zq_is k v ↔ zq_ic k v := by
  unfold zq_is zq_ib
  constructor
  · intro h
    by_cases c : zq_ic k v
    · exact c
    · rw [if_neg c] at h
      omega
  · intro h
    rw [if_pos h]
theorem s_29 {xs : Nat → Int32} {L d : Nat} {J K : jZ} {P : Int → jZ → jZ → Prop} {k v : Int} (hk : -2147483648 ≤ k ∧ k < 2147483648) (hv : 0 ≤ v ∧ v ≤ 6) (h1 : zq_is k v → P 1 J K) (h0 : ¬ zq_is k v → P 0 J K) : q_29 xs L (d + 2) k v J K P :=
  e_29 ⟨by omega, fun q => h1 (zq_is_i.mpr (by unfold zq_ic; omega)), fun q => ⟨fun q1 => ⟨hk, fun t => h1 (zq_is_i.mpr (by unfold zq_ic; omega)), fun t => ⟨fun t1 => h1 (zq_is_i.mpr (by unfold zq_ic; omega)), fun t1 => ⟨fun t2 => h0 (fun z => by have z := zq_is_i.mp z; unfold zq_ic at z; omega), fun t2 => h1 (zq_is_i.mpr (by unfold zq_ic; omega))⟩⟩⟩, fun q1 => ⟨fun q2 => ⟨hk, fun t => h1 (zq_is_i.mpr (by unfold zq_ic; omega)), fun t => h0 (fun z => by have z := zq_is_i.mp z; unfold zq_ic at z; omega)⟩, fun q2 => ⟨fun q3 => ⟨hk, fun t => h0 (fun z => by have z := zq_is_i.mp z; unfold zq_ic at z; omega), fun t => ⟨fun u => h0 (fun z => by have z := zq_is_i.mp z; unfold zq_ic at z; omega), fun u => h1 (zq_is_i.mpr (by unfold zq_ic; omega))⟩⟩, fun q3 => ⟨fun q4 => ⟨hk, fun t => h0 (fun z => by have z := zq_is_i.mp z; unfold zq_ic at z; omega), fun t => ⟨fun u => h0 (fun z => by have z := zq_is_i.mp z; unfold zq_ic at z; omega), fun u => h1 (zq_is_i.mpr (by unfold zq_ic; omega))⟩⟩, fun q4 => ⟨fun q5 => ⟨hk, fun t => h0 (fun z => by have z := zq_is_i.mp z; unfold zq_ic at z; omega), fun t => h1 (zq_is_i.mpr (by unfold zq_ic; omega))⟩, fun q5 => ⟨hk, fun t => h0 (fun z => by have z := zq_is_i.mp z; unfold zq_ic at z; omega), fun t => h1 (zq_is_i.mpr (by unfold zq_ic; omega))⟩⟩⟩⟩⟩⟩⟩
theorem s_180 {xs : Nat → Int32} {L d : Nat} {J K : jZ} {P : Int → jZ → jZ → Prop} {k v : Int} (hk : -2147483648 ≤ k ∧ k < 2147483648) (hv : 0 ≤ v ∧ v ≤ 6) (h1 : zq_is k v → P 1 J K) (h0 : ¬ zq_is k v → P 0 J K) : q_180 xs L (d + 1) k v J K P :=
  e_180 ⟨by omega, fun q => h1 (zq_is_i.mpr (by unfold zq_ic; omega)), fun q => ⟨fun q1 => ⟨hk, fun t => h1 (zq_is_i.mpr (by unfold zq_ic; omega)), fun t => ⟨fun t1 => h1 (zq_is_i.mpr (by unfold zq_ic; omega)), fun t1 => ⟨fun t2 => h0 (fun z => by have z := zq_is_i.mp z; unfold zq_ic at z; omega), fun t2 => h1 (zq_is_i.mpr (by unfold zq_ic; omega))⟩⟩⟩, fun q1 => ⟨fun q2 => ⟨hk, fun t => h0 (fun z => by have z := zq_is_i.mp z; unfold zq_ic at z; omega), fun t => ⟨fun u => h0 (fun z => by have z := zq_is_i.mp z; unfold zq_ic at z; omega), fun u => h1 (zq_is_i.mpr (by unfold zq_ic; omega))⟩⟩, fun q2 => ⟨fun q3 => ⟨hk, fun t => h0 (fun z => by have z := zq_is_i.mp z; unfold zq_ic at z; omega), fun t => ⟨fun u => h0 (fun z => by have z := zq_is_i.mp z; unfold zq_ic at z; omega), fun u => h1 (zq_is_i.mpr (by unfold zq_ic; omega))⟩⟩, fun q3 => ⟨fun q4 => ⟨hk, fun t => h0 (fun z => by have z := zq_is_i.mp z; unfold zq_ic at z; omega), fun t => ⟨fun u => h0 (fun z => by have z := zq_is_i.mp z; unfold zq_ic at z; omega), fun u => h1 (zq_is_i.mpr (by unfold zq_ic; omega))⟩⟩, fun q4 => ⟨fun q5 => ⟨hk, fun t => h0 (fun z => by have z := zq_is_i.mp z; unfold zq_ic at z; omega), fun t => h1 (zq_is_i.mpr (by unfold zq_ic; omega))⟩, fun q5 => ⟨hk, fun t => h0 (fun z => by have z := zq_is_i.mp z; unfold zq_ic at z; omega), fun t => h1 (zq_is_i.mpr (by unfold zq_ic; omega))⟩⟩⟩⟩⟩⟩⟩
/-- why nothing is said; 0: it is -/
def zq_sx (A : zA) (H : zH) (s v : Int) : Int := if ¬ ((0 ≤ s ∧ s < 8) ∧ (0 ≤ v ∧ v ≤ 6)) then -2 else if (H s.toNat).1 = -1 then -4 else if (H s.toNat).1 ≤ 4 then -3 else if zq_is (A.2 ((H s.toNat).1 - 10).toNat 0) v then 0 else -3
noncomputable def zq_sy (T : zT) (A : zA) (a : Nat) (v : Int) : Int := if v = 0 then ((zk_sem (-1) T A a).length : Int) else if v = 1 then zk_n (A.2 a) else if v = 2 then 100 * A.2 a 1 + A.2 a 2 else if v = 3 then ((zk_sem (-1) T A (A.2 a 1).toNat).length : Int) + ((zk_sem (-1) T A (A.2 a 2).toNat).length : Int) - ((zk_sem (-1) T A a).length : Int) else if v = 4 then ((zk_sem (-1) T A (A.2 a 1).toNat).length : Int) - ((zk_sem (-1) T A a).length : Int) else zk_n (A.2 a)
theorem zk_x_k {r : Nat → Int} (h : 2 ≤ r 0 ∧ r 0 ≤ 8) : zk_x r = r 1 ∧ zk_y r = r 2 := by
  unfold zk_x zk_y
  rw [if_pos (by omega), if_pos (by omega)]
  exact ⟨rfl, rfl⟩
theorem zk_kb {i : Nat} {r : Nat → Int} (h : zk_ok i r) : 0 ≤ r 0 ∧ r 0 ≤ 11 := by
  rcases h with q | q | q | q | q | q <;> omega
theorem zk_kd {i : Nat} {r : Nat → Int} (h : zk_ok i r) (k : 2 ≤ r 0 ∧ r 0 ≤ 8) : (0 ≤ r 1 ∧ r 1 < i) ∧ (0 ≤ r 2 ∧ r 2 < i) := by
  rcases h with q | q | q | q | q | q <;> omega
theorem c_28 {xs : Nat → Int32} {L d : Nat} {J K : jZ} {P : Int → jZ → jZ → Prop} {T : zT} {A : zA} (hQ : cQ J T A) {H : zH} {s v : Int} (hH : zH_ok A.1 H) (hr : cH_at J K H) (hs : -2147483648 ≤ s ∧ s < 2147483648) (hv : -2147483648 ≤ v ∧ v < 2147483648) (hb : ¬ zq_sx A H s v = 0 → P (zq_sx A H s v) (rC J (-2 - zq_sx A H s v).toNat) K) (h : zq_sx A H s v = 0 → ∀ J', cF J J' → cQ J' T A → P (zq_sy T A ((H s.toNat).1 - 10).toNat v) J' K) : q_28 xs L (d + 8) s v J K P := by
  have h24 := hQ.2.1.1
  have h1 := hQ.2.2.2.1.1
  have ref : ∀ w : Int, (w = -2 ∨ w = -3 ∨ w = -4) → zq_sx A H s v = w → q_13 xs L (d + 7) w J K (fun r J' K' => P r J' K') := fun w hw e => by
    rw [e] at hb
    exact s_13 (k := (-2 - w).toNat) (by omega) (by omega) (hb (by omega))
  refine e_28 ⟨hs, fun q => ⟨hv, fun q2 => ref _ (.inl rfl) (by rw [zq_sx, if_pos (by omega)]), fun q2 => ⟨fun q3 => ?_, fun q3 => ref _ (.inl rfl) (by rw [zq_sx, if_pos (by omega)])⟩⟩, fun q => ref _ (.inl rfl) (by rw [zq_sx, if_pos (by omega)])⟩
  obtain ⟨k, rfl⟩ : ∃ k : Nat, s = (k : Int) := ⟨s.toNat, by omega⟩
  have hk := hH k (by omega)
  have rk := hr k (by omega)
  have sx : zq_sx A H k v = if (H k).1 = -1 then -4 else if (H k).1 ≤ 4 then -3 else if zq_is (A.2 ((H k).1 - 10).toNat 0) v then 0 else -3 := by
    rw [zq_sx, if_neg (by omega), Int.toNat_natCast]
  simp only [Int.toNat_natCast] at h ⊢
  rw [rk.1]
  refine ⟨by omega, fun q4 => ref _ (.inr (.inl rfl)) (by rw [sx, if_neg (by omega), if_pos (by omega)]), fun q4 => ⟨by omega, by omega, fun q5 => ⟨by omega, ?_⟩, fun q5 => ref _ (.inr (.inr rfl)) (by rw [sx, if_pos (by omega)])⟩⟩
  rw [if_neg (by omega), if_neg (by omega)] at sx
  obtain ⟨a, ha⟩ : ∃ a : Nat, (H k).1 - 10 = (a : Int) := ⟨((H k).1 - 10).toNat, by omega⟩
  rw [ha] at h sx q5 ⊢
  simp only [Int.toNat_natCast] at h sx ⊢
  have o := hQ.2.2.2.1.2 a (by omega)
  rw [show 9 + 2 + a = 11 + a by omega] at o
  have ok := hQ.2.1.2 a (by omega)
  have kb := zk_kb ok
  rw [o.1]
  refine s_29 (k := A.2 a 0) (v := v) (by omega) (by omega) (fun z => ⟨by omega, fun t => by omega, fun _ => ?_⟩) (fun z => ⟨by omega, fun _ => ?_, fun t => by omega⟩)
  · rw [if_pos z] at sx
    refine e_31 ⟨by omega, s_of hQ (by omega) (fun J1 f1 _ Q1 _ l1 => ?_)⟩
    have o := Q1.2.2.2.1.2 a (by omega)
    rw [show 9 + 2 + a = 11 + a by omega] at o
    obtain ⟨o0, o1, o2, o3, o4, -⟩ := o
    simp only [Int.toNat_natCast]
    rw [o1, o2, o4, l1.2.1]
    have hh := h sx J1 f1 Q1
    unfold zq_sy at h hh
    refine ⟨jz_e62 (by omega), by omega, fun q0 => ?_, fun q0 => ⟨fun q1 => ?_, fun q1 => ⟨fun q2 => ?_, fun q2 => ⟨fun q3 => ?_, fun q3 => ⟨fun q4 => ?_, fun q4 => ?_⟩⟩⟩⟩⟩
    · rw [if_pos q0] at hh
      exact hh
    · rw [if_neg q0, if_pos q1] at hh
      exact hh
    · rw [if_neg q0, if_neg q1, if_pos q2] at hh
      have zc : 2 ≤ A.2 a 0 ∧ A.2 a 0 ≤ 8 := by have z := zq_is_i.mp z; unfold zq_ic at z; omega
      have e := zk_x_k (r := A.2 a) zc
      rw [e.1, e.2]
      exact hh
    · rw [if_neg q0, if_neg q1, if_neg q2, if_pos q3] at h
      have zc : 2 ≤ A.2 a 0 ∧ A.2 a 0 ≤ 8 := by have z := zq_is_i.mp z; unfold zq_ic at z; omega
      have e := zk_x_k (r := A.2 a) zc
      have kd := zk_kd ok zc
      rw [e.1]
      obtain ⟨b, hb1⟩ : ∃ b : Nat, A.2 a 1 = (b : Int) := ⟨(A.2 a 1).toNat, by omega⟩
      obtain ⟨c, hc1⟩ : ∃ c : Nat, A.2 a 2 = (c : Int) := ⟨(A.2 a 2).toNat, by omega⟩
      rw [hb1, hc1] at h
      simp only [Int.toNat_natCast] at h
      rw [hb1]
      refine s_of Q1 (by omega) (fun J2 f2 _ Q2 g2 l2 => ⟨jz_e62 (by omega), ?_⟩)
      have o := Q2.2.2.2.1.2 a (by omega)
      rw [show 9 + 2 + a = 11 + a by omega] at o
      rw [o.2.2.1, e.2, hc1, l2.2.1]
      refine s_of Q2 (by omega) (fun J3 f3 _ Q3 g3 l3 => ⟨jz_e62 (by omega), ?_⟩)
      rw [l3.2.1]
      exact h sx J3 (cF_tr f1 (cF_tr f2 f3)) Q3
    · rw [if_neg q0, if_neg q1, if_neg q2, if_neg q3, if_pos q4] at h
      have zc : 2 ≤ A.2 a 0 ∧ A.2 a 0 ≤ 8 := by have z := zq_is_i.mp z; unfold zq_ic at z; omega
      have e := zk_x_k (r := A.2 a) zc
      have kd := zk_kd ok zc
      rw [e.1]
      obtain ⟨b, hb1⟩ : ∃ b : Nat, A.2 a 1 = (b : Int) := ⟨(A.2 a 1).toNat, by omega⟩
      rw [hb1] at h
      simp only [Int.toNat_natCast] at h
      rw [hb1]
      refine s_of Q1 (by omega) (fun J2 f2 _ Q2 g2 l2 => ⟨jz_e62 (by omega), ?_⟩)
      rw [l2.2.1]
      exact h sx J2 (cF_tr f1 f2) Q2
    · rw [if_neg q0, if_neg q1, if_neg q2, if_neg q3, if_neg q4] at hh
      exact hh
  · rw [if_neg z] at sx
    exact ref _ (.inr (.inl rfl)) sx
theorem m_179 {xs : Nat → Int32} {L d : Nat} {J K : jZ} {P : Int → jZ → jZ → Prop} {T : zT} {A : zA} (hQ : mQ J T A) {H : zH} {s v : Int} (hH : zH_ok A.1 H) (hr : mH_at J K H) (hs : -2147483648 ≤ s ∧ s < 2147483648) (hv : -2147483648 ≤ v ∧ v < 2147483648) (hb : ¬ zq_sx A H s v = 0 → P (zq_sx A H s v) (rM J (-zq_sx A H s v).toNat) K) (h : zq_sx A H s v = 0 → ∀ J', mF J J' → mQ J' T A → P (zq_sy T A ((H s.toNat).1 - 10).toNat v) J' K) : q_179 xs L (d + 9) s v J K P := by
  have h24 := hQ.2.1.1
  have h1 := hQ.2.2.2.1.1
  have ref : ∀ w : Int, (w = -2 ∨ w = -3 ∨ w = -4) → zq_sx A H s v = w → q_170 xs L (d + 8) w J K (fun r J' K' => P r J' K') := fun w hw e => by
    rw [e] at hb
    exact s_170 (k := (-w).toNat) (by omega) (by omega) (hb (by omega))
  refine e_179 ⟨hs, fun q => ⟨hv, fun q3 => ⟨by omega, ?_⟩, fun q2 => e_179_24 (ref _ (.inl rfl) (by rw [zq_sx, if_pos (by omega)]))⟩, fun q => e_179_24 (ref _ (.inl rfl) (by rw [zq_sx, if_pos (by omega)]))⟩
  obtain ⟨k, rfl⟩ : ∃ k : Nat, s = (k : Int) := ⟨s.toNat, by omega⟩
  have hk := hH k (by omega)
  have rk := hr k (by omega)
  have sx : zq_sx A H k v = if (H k).1 = -1 then -4 else if (H k).1 ≤ 4 then -3 else if zq_is (A.2 ((H k).1 - 10).toNat 0) v then 0 else -3 := by
    rw [zq_sx, if_neg (by omega), Int.toNat_natCast]
  simp only [Int.toNat_natCast] at h ⊢
  by_cases c0 : (H k).1 = -1
  · have e := rk.1 c0
    rw [e]
    refine ⟨by omega, fun t => by omega, fun _ => ⟨fun _ => e_179_78 ⟨by omega, ?_⟩, fun t => by omega⟩⟩
    simp only [Int.toNat_natCast]
    rw [e]
    exact ⟨by omega, fun t => by omega, fun _ => ref _ (.inr (.inr rfl)) (by rw [sx, if_pos c0])⟩
  · by_cases c1 : (H k).1 ≤ 4
    · have e := (rk.2.1 (by omega)).1
      rw [e]
      exact ⟨by omega, fun _ => e_179_71 (ref _ (.inr (.inl rfl)) (by rw [sx, if_neg c0, if_pos c1])), fun t => by omega⟩
    · rw [if_neg c0, if_neg c1] at sx
      have e := rk.2.2 (by omega)
      obtain ⟨a, ha⟩ : ∃ a : Nat, (H k).1 - 10 = (a : Int) := ⟨((H k).1 - 10).toNat, by omega⟩
      rw [ha] at h sx e
      rw [e.1, e.2]
      simp only [Int.toNat_natCast] at h sx ⊢
      have ok := hQ.2.1.2 a (by omega)
      have kb := zk_kb ok
      have r0 := (hQ.2.2.2.1.2 a (by omega)).1
      rw [r0]
      refine ⟨by omega, fun t => by omega, fun _ => ⟨fun t => absurd trivial t, fun _ => ⟨by omega, s_180 (k := A.2 a 0) (v := v) (by omega) (by omega) (fun z => ⟨by omega, fun _ => ?_, fun t => by omega⟩) (fun z => ⟨by omega, fun t => by omega, fun _ => ?_⟩)⟩⟩⟩
      · rw [if_pos z] at sx
        refine e_179_78 ⟨by omega, ?_⟩
        simp only [Int.toNat_natCast]
        rw [e.1]
        refine ⟨by omega, fun _ => s_work hQ (fun J1 f1 Q1 l1 => ?_), fun t => by omega⟩
        have rr := (Q1.2.2.2.1.2 a (by omega)).2
        have r1 := rr 0 (by omega)
        have r2 := rr 1 (by omega)
        have r4 := rr 3 (by omega)
        rw [Nat.add_zero] at r1
        rw [show (4 * (a : Int)).toNat = 4 * a by omega, show (4 * (a : Int) + 1).toNat = 4 * a + 1 by omega, show (4 * (a : Int) + 3).toNat = 4 * a + 3 by omega, r1, r2, r4]
        have hh := h sx J1 f1 Q1
        simp only [Nat.zero_add, Nat.reduceAdd] at hh ⊢
        have la := (l1 a (by omega)).1
        rw [la]
        unfold zq_sy at hh
        refine ⟨by omega, by omega, by omega, fun q0 => ⟨by omega, ?_⟩, fun q0 => ⟨fun q1 => ?_, fun q1 => ⟨fun q2 => ?_, fun q2 => ⟨fun q3 => ?_, fun q3 => ⟨fun q4 => ?_, fun q4 => ⟨fun q5 => ?_, fun q5 => ⟨by omega, ?_⟩⟩⟩⟩⟩⟩⟩
        · rw [if_pos q0] at hh
          exact hh
        · rw [if_neg q0, if_pos q1, zk_n, if_pos (by have z := zq_is_i.mp z; unfold zq_ic at z; omega)] at hh
          exact hh
        · rw [if_neg q0, if_neg q1, if_pos q2] at hh
          exact hh
        · rw [if_neg q0, if_neg q1, if_neg q2, if_pos q3] at hh
          have kd := zk_kd ok (by have z := zq_is_i.mp z; unfold zq_ic at z; omega)
          have lb := (l1 (A.2 a 1).toNat (by omega)).1
          have lc := (l1 (A.2 a 2).toNat (by omega)).1
          rw [lb, lc]
          exact ⟨by omega, by omega, by omega, hh⟩
        · rw [if_neg q0, if_neg q1, if_neg q2, if_neg q3, if_pos q4] at hh
          have kd := zk_kd ok (by have z := zq_is_i.mp z; unfold zq_ic at z; omega)
          have lb := (l1 (A.2 a 1).toNat (by omega)).1
          rw [lb]
          exact ⟨by omega, by omega, hh⟩
        · rw [if_neg q0, if_neg q1, if_neg q2, if_neg q3, if_neg q4, zk_n, if_neg (by have z := zq_is_i.mp z; unfold zq_ic at z; omega), if_pos (by have z := zq_is_i.mp z; unfold zq_ic at z; omega)] at hh
          exact hh
        · rw [if_neg q0, if_neg q1, if_neg q2, if_neg q3, if_neg q4, zk_n, if_neg (by have z := zq_is_i.mp z; unfold zq_ic at z; omega), if_neg (by have z := zq_is_i.mp z; unfold zq_ic at z; omega), if_pos (by have z := zq_is_i.mp z; unfold zq_ic at z; omega)] at hh
          exact hh
      · rw [if_neg z] at sx
        exact e_179_71 (ref _ (.inr (.inl rfl)) sx)
-- holds, element
def zq_ho (H : zH) (s : Int) : Int := if 0 ≤ s ∧ s < 8 then (H s.toNat).1 else -1
def zq_el (H : zH) (s i : Int) : Int := if 0 ≤ s ∧ s < 8 then (if 0 ≤ (H s.toNat).1 ∧ (H s.toNat).1 ≤ 4 then (if 0 ≤ i ∧ i < (H s.toNat).2.1 then (H s.toNat).2.2 i.toNat else 0) else 0) else 0
theorem c_25 {xs : Nat → Int32} {L d : Nat} {J K : jZ} {P : Int → jZ → jZ → Prop} {H : zH} {s : Int} {n : Nat} (hH : zH_ok n H) (hr : cH_at J K H) (hs : -2147483648 ≤ s ∧ s < 2147483648) (h : P (zq_ho H s) J K) : q_25 xs L (d + 2) s J K P := by
  unfold zq_ho at h
  refine e_25 ⟨hs, fun q => ?_, fun q => ?_⟩
  · rw [if_pos q] at h
    rw [(hr s.toNat (by omega)).1]
    exact h
  · rw [if_neg q] at h
    exact h
theorem m_176 {xs : Nat → Int32} {L d : Nat} {J K : jZ} {P : Int → jZ → jZ → Prop} {H : zH} {s : Int} {n : Nat} (hn : n ≤ 24) (hH : zH_ok n H) (hr : mH_at J K H) (hs : -2147483648 ≤ s ∧ s < 2147483648) (h : P (zq_ho H s) J K) : q_176 xs L (d + 2) s J K P := by
  unfold zq_ho at h
  refine e_176 ⟨hs, fun q => ?_, fun q => ?_⟩
  · rw [if_pos (by omega)] at h
    have hk := hH s.toNat (by omega)
    have rk := hr s.toNat (by omega)
    by_cases c0 : (H s.toNat).1 = -1
    · rw [rk.1 c0]
      rw [c0] at h
      exact ⟨by omega, by omega, fun t => by omega, fun _ => h⟩
    · by_cases c1 : (H s.toNat).1 ≤ 4
      · have e := rk.2.1 (by omega)
        rw [e.1, e.2.1]
        exact ⟨by omega, by omega, fun _ => ⟨fun t => by omega, fun _ => h⟩, fun t => by omega⟩
      · have e := rk.2.2 (by omega)
        rw [e.1, e.2, show 10 + ((H s.toNat).1 - 10) = (H s.toNat).1 by omega]
        exact ⟨by omega, by omega, fun _ => ⟨fun _ => h, fun t => by omega⟩, fun t => by omega⟩
  · rw [if_neg (by omega)] at h
    exact h
theorem c_24 {xs : Nat → Int32} {L d : Nat} {J K : jZ} {P : Int → jZ → jZ → Prop} {H : zH} {s i : Int} {n : Nat} (hn : n ≤ 24) (hH : zH_ok n H) (hr : cH_at J K H) (hs : -2147483648 ≤ s ∧ s < 2147483648) (hi : -2147483648 ≤ i ∧ i < 2147483648) (h : P (zq_el H s i) J K) : q_24 xs L (d + 2) s i J K P := by
  unfold zq_el at h
  refine e_24 ⟨hs, fun q => ?_, fun q => ?_⟩
  · rw [if_pos q] at h
    have hk := hH s.toNat (by omega)
    have rk := hr s.toNat (by omega)
    rw [rk.1]
    refine ⟨by omega, fun t => ⟨hi, ?_⟩, fun t => ?_⟩
    · rw [if_pos t] at h
      have e := rk.2 t
      rw [e.1]
      refine ⟨by omega, fun u => ⟨by omega, ?_⟩, fun u => ?_⟩
      · rw [if_pos u] at h
        rw [e.2 i.toNat (by omega)]
        exact h
      · rw [if_neg u] at h
        exact h
    · rw [if_neg t] at h
      exact h
  · rw [if_neg q] at h
    exact h
theorem m_175 {xs : Nat → Int32} {L d : Nat} {J K : jZ} {P : Int → jZ → jZ → Prop} {H : zH} {s i : Int} {n : Nat} (hn : n ≤ 24) (hH : zH_ok n H) (hr : mH_at J K H) (hs : -2147483648 ≤ s ∧ s < 2147483648) (hi : -2147483648 ≤ i ∧ i < 2147483648) (h : P (zq_el H s i) J K) : q_175 xs L (d + 2) s i J K P := by
  unfold zq_el at h
  refine e_175 ⟨hs, fun q => ?_, fun q => ?_⟩
  · rw [if_pos (by omega)] at h
    have hk := hH s.toNat (by omega)
    have rk := hr s.toNat (by omega)
    by_cases t : 0 ≤ (H s.toNat).1 ∧ (H s.toNat).1 ≤ 4
    · rw [if_pos t] at h
      have e := rk.2.1 t
      rw [e.1, e.2.2.1]
      refine ⟨by omega, by omega, fun t => by omega, fun _ => ⟨hi, by omega, fun u => ⟨by omega, ?_⟩, fun u => ?_⟩⟩
      · rw [if_pos (by omega)] at h
        rw [e.2.2.2 i.toNat (by omega)]
        exact h
      · rw [if_neg (by omega)] at h
        exact h
    · rw [if_neg t] at h
      have e : J 168 s.toNat = 0 ∨ J 168 s.toNat = 2 := by
        by_cases c0 : (H s.toNat).1 = -1
        · exact .inl (rk.1 c0)
        · exact .inr (rk.2.2 (by omega)).1
      exact ⟨by omega, by omega, fun _ => h, fun u => by omega⟩
  · rw [if_neg (by omega)] at h
    exact h
