/-! Fair: what the law asks of one ask's list. -/
section LF
variable {xs : Nat → Int32} {L d : Nat} {J K : jZ} {P : Int → jZ → jZ → Prop} {T : zT} {s : Int} {A : zA} {H : zH} {B : zB} {R : Nat → Int} {y : zY}
theorem v_gd (c : cV J K T s A H B R y) {a : Nat} (ha : a < A.1) : zs_gd T.1 (zk_sem (-1) T A a) := (zk_sem_gd c.2.1.1 c.2.1.2.1 a ha).2
theorem v_113 (c : cV J K T s A H B R y) {a : Nat} (ha : a < A.1) (k : ∀ J', cV J' K T s A H B R y → P ((zk_sem (-1) T A a).length : Int) J' K) : q_113 xs L (d + 7) (a : Int) J K P := by
  have h24 := cV_24 c
  exact c_113 c.2.1 (by omega) (fun n => absurd (show 0 ≤ (a : Int) ∧ (a : Int) < A.1 by omega) n) (fun _ J1 F Q => k J1 (cV_F c F Q))
theorem v_114 (c : cV J K T s A H B R y) {a i : Nat} (ha : a < A.1) (hi : i < (zk_sem (-1) T A a).length) (k : ∀ J', cV J' K T s A H B R y → P (zs_t (zk_sem (-1) T A a) i) J' K) : q_114 xs L (d + 7) (a : Int) (i : Int) J K P := by
  have h24 := cV_24 c
  have h60 := (v_gd c ha).1.1
  exact c_114 c.2.1 (by omega) (by omega) (fun n => absurd (show 0 ≤ (a : Int) ∧ (a : Int) < A.1 by omega) n) (fun _ n => absurd (show 0 ≤ (i : Int) ∧ (i : Int) < ((zk_sem (-1) T A a).length : Int) by omega) n) (fun _ _ J1 F Q => k J1 (cV_F c F Q))
theorem v_116 (c : cV J K T s A H B R y) {a : Nat} {p m : Int} (ha : a < A.1) (hp : -2147483648 ≤ p ∧ p < 2147483648) (hm : 0 ≤ m ∧ m ≤ 3) (k : ∀ J', cV J' K T s A H B R y → P (zq_nx (zk_sem (-1) T A a) p m (zk_sem (-1) T A a).length) J' K) : q_116 xs L (d + 7) (a : Int) p m J K P := by
  have h24 := cV_24 c
  exact c_116 c.2.1 (by omega) hp (by omega) (fun n => absurd (show (0 ≤ (a : Int) ∧ (a : Int) < A.1) ∧ (0 ≤ m ∧ m ≤ 3) by omega) n) (fun _ J1 F Q => k J1 (cV_F c F Q))
theorem v_124 (c : cV J K T s A H B R y) {a : Nat} (ha : a < A.1) (k : ∀ J', cV J' K T s A H B R y → P (zq_ap 0 (zk_sem (-1) T A a) (-1)) J' K) : q_124 xs L (d + 7) (a : Int) (-1) J K P := by
  have h24 := cV_24 c
  exact c_124 c.2.1 (by omega) (by omega) (fun n => absurd (show (0 ≤ (a : Int) ∧ (a : Int) < A.1) ∧ -1 ≤ (-1 : Int) by omega) n) (fun _ n => absurd n (zf_ap (v_gd c ha).1 0).2.1) (fun _ _ J1 F Q => k J1 (cV_F c F Q))
theorem v_127 (c : cV J K T s A H B R y) {a : Nat} (ha : a < A.1) (k : ∀ J', cV J' K T s A H B R y → P (zq_ap 1 (zk_sem (-1) T A a) (-1)) J' K) : q_127 xs L (d + 7) (a : Int) (-1) J K P := by
  have h24 := cV_24 c
  exact c_127 c.2.1 (by omega) (by omega) (fun n => absurd (show (0 ≤ (a : Int) ∧ (a : Int) < A.1) ∧ -1 ≤ (-1 : Int) by omega) n) (fun _ n => absurd n (zf_ap (v_gd c ha).1 1).2.1) (fun _ _ J1 F Q => k J1 (cV_F c F Q))
theorem v_138 (c : cV J K T s A H B R y) {a : Nat} (ha : a < A.1) (k : ∀ J', cV J' K T s A H B R y → P (-1) J' K) : q_138 xs L (d + 7) (a : Int) (a : Int) J K P := by
  have h24 := cV_24 c
  refine c_138 c.2.1 (by omega) (by omega) (fun n => absurd (show (0 ≤ (a : Int) ∧ (a : Int) < A.1) ∧ (0 ≤ (a : Int) ∧ (a : Int) < A.1) by omega) n) (fun _ J1 F Q => ?_)
  rw [zf_un]
  exact k J1 (cV_F c F Q)
theorem v_141 (c : cV J K T s A H B R y) {a : Nat} (ha : a < A.1) (k : ∀ J' r, cV J' K T s A H B R y → jz_and (jz_shr r a) 1 = 1 → P r J' K) : q_141 xs L (d + 7) (a : Int) J K P := by
  have h24 := cV_24 c
  exact c_141 c.2.1 (by omega) (fun n => absurd (show 0 ≤ (a : Int) ∧ (a : Int) < A.1 by omega) n) (fun _ J1 F Q => k J1 _ (cV_F c F Q) (zf_bit h24 ha))
/-- shelf 7 holds a row of 40 bytes, the first 2 * i of them the first i spans -/
def vF (l : zL) (H : zH) (i : Nat) : Prop := (H 7).1 = 0 ∧ (H 7).2.1 = 40 ∧ ∀ k, k < i → (H 7).2.2 (2 * k) = zs_f l k ∧ (H 7).2.2 (2 * k + 1) = zs_l l k
theorem v_11 (c : cV J K T s A H B R y) (k : ∀ J' K' H', cV J' K' T s A H' B R y → (∀ l, vF l H' 0) → P 1 J' K') : q_11 xs L (d + 3) 7 0 40 J K P := by
  refine c_11 c.2.2.2.2.1 (by omega) (by omega) (by omega) (fun n => absurd (show (0 ≤ (7 : Int) ∧ (7 : Int) < 8) ∧ (0 ≤ (0 : Int) ∧ (0 : Int) ≤ 4) ∧ (0 ≤ (40 : Int) ∧ (40 : Int) ≤ 40) by omega) n) (fun _ J1 K1 F r => k J1 K1 _ (cV_H c (zH_ok_up c.1.2.1 (.inr (.inl ⟨by show (0 : Int) ≤ 0; omega, by show (0 : Int) ≤ 4; omega, by show (0 : Int) ≤ 40; omega, by show (40 : Int) ≤ 40; omega, fun i hi => ?_⟩))) F r) (fun l => ?_))
  · show (-9223372036854775808 : Int) ≤ 0 ∧ (0 : Int) < 9223372036854775808
    omega
  · exact ⟨rfl, rfl, fun k hk => absurd hk (Nat.not_lt_zero _)⟩
theorem zf_b : ∀ n : Nat, n < 60 → jz_b (n : Int) = n := by decide +kernel
theorem vF_rf {l : zL} {i : Nat} (h : vF l H i) {n : Int} (hn : n ≤ 40) : zH_rf H 7 n = 0 := by
  have e : (7 : Int).toNat = 7 := rfl
  unfold zH_rf
  rw [if_neg (by omega), e, h.1, h.2.1, if_neg (by omega), if_neg (by omega), if_neg (by omega)]
theorem v_16 (c : cV J K T s A H B R y) {j v : Int} (h1 : (H 7).1 = 0) (h2 : (H 7).2.1 = 40) (hj : 0 ≤ j ∧ j < 40) (hv : 0 ≤ v ∧ v < 60) (k : ∀ K' H', cV J K' T s A H' B R y → (H' 7).1 = 0 → (H' 7).2.1 = 40 → (∀ e, (H' 7).2.2 e = if e = j.toNat then v else (H 7).2.2 e) → P 1 J K') : q_16 xs L (d + 3) 7 j v J K P := by
  have rf : zH_rf H 7 0 = 0 := vF_rf (l := []) (i := 0) ⟨h1, h2, fun k hk => absurd hk (Nat.not_lt_zero _)⟩ (by omega)
  have sn : zq_sn H 7 j = 0 := by
    have e : (7 : Int).toNat = 7 := rfl
    unfold zq_sn
    rw [rf, if_neg (by omega), e, h2, if_pos (by omega)]
  have b : jz_b v = v := by
    have := zf_b v.toNat (by omega)
    rw [show ((v.toNat : Nat) : Int) = v by omega] at this
    exact this
  refine c_16 (cV_24 c) c.1.2.1 c.2.2.2.2.1 (by omega) (by omega) (by omega) (fun n => absurd sn n) (fun _ K1 F r => k K1 _ (cV_H c (sn_ok c.1.2.1 (by omega) sn) F r) h1 h2 (fun e => ?_))
  show (if e = j.toNat then zq_ft (H (7 : Int).toNat).1 v else (H (7 : Int).toNat).2.2 e) = _
  rw [show (7 : Int).toNat = 7 from rfl, h1, zq_ft, if_pos rfl, b]
theorem v_149 (c : cV J K T s A H B R y) {a n : Nat} (ha : a < A.1) (hn : n ≤ 20 ∧ n ≤ (zk_sem (-1) T A a).length) (h : vF (zk_sem (-1) T A a) H n) (k : ∀ J', cV J' K T s A H B R y → P (if (n : Int) < (zk_sem (-1) T A a).length then (n : Int) else -1) J' K) : q_149 xs L (d + 7) (a : Int) 7 (n : Int) J K P := by
  have h24 := cV_24 c
  have rf : zH_rf H 7 (2 * (n : Int)) = 0 := vF_rf h (by omega)
  refine c_149 c.2.1 c.1.2.1 c.2.2.2.2.1 (by omega) (by omega) (by omega) (fun q => absurd (show (0 ≤ (a : Int) ∧ (a : Int) < A.1) ∧ (0 ≤ (n : Int) ∧ (n : Int) ≤ 20) by omega) q) (fun _ q => absurd rf q) (fun _ _ J1 F Q => ?_)
  have := k J1 (cV_F c F Q)
  rw [← zf_ju hn.2 h.2.2] at this
  exact this
theorem s_170_225 {a : Nat} (ha : a < A.1) {N : Nat} (hN : N = min 20 (zk_sem (-1) T A a).length) (k : ∀ J' K' H', cV J' K' T s A H' B R y → P 1 J' K') : ∀ (n i : Nat) (J K : jZ) (H : zH), i + n = N → cV J K T s A H B R y → vF (zk_sem (-1) T A a) H i → l_170_225 xs L (d + 7) (a : Int) ((zk_sem (-1) T A a).length : Int) (N : Int) (i : Int) J K P
  | n, i, J, K, H, hn, c, hf => by
    have g := v_gd c ha
    have h60 := g.1.1
    refine e_170_225 ⟨by omega, by omega, fun q => ?_, fun q => ?_⟩
    · obtain rfl : i = N := by omega
      refine v_149 c ha (by omega) hf (fun J1 c1 => ⟨by omega, fun q1 => ?_, fun q1 => ?_⟩)
      · rw [if_neg (by omega)]
        exact ⟨by omega, fun q2 => absurd rfl q2, fun _ => k _ _ _ c1⟩
      · rw [if_pos (by omega)]
        exact ⟨by omega, fun q2 => absurd rfl q2, fun _ => k _ _ _ c1⟩
    · match n, hn with
      | 0, hn => omega
      | n + 1, hn =>
        have hi : i < (zk_sem (-1) T A a).length := by omega
        have t := zf_t g.1 hi
        have b := g.1.2.1 i hi
        refine v_114 c ha hi (fun J1 c1 => ?_)
        rw [t.1]
        refine ⟨by omega, v_16 c1 hf.1 hf.2.1 (by omega) (by omega) (fun K2 H2 c2 a2 b2 e2 => ?_)⟩
        refine v_114 c2 ha hi (fun J3 c3 => ?_)
        rw [t.2]
        refine ⟨by omega, v_16 c3 a2 b2 (by omega) (by omega) (fun K4 H4 c4 a4 b4 e4 => ?_)⟩
        have := s_170_225 ha hN k n (i + 1) J3 K4 H4 (by omega) c4 ⟨a4, b4, fun j hj => ?_⟩
        · rw [show ((i + 1 : Nat) : Int) = (i : Int) + 1 by omega] at this
          exact this
        · rw [e4, e4, e2, e2, show (2 * (i : Int)).toNat = 2 * i by omega, show (2 * (i : Int) + 1).toNat = 2 * i + 1 by omega]
          by_cases ej : j = i
          · subst ej
            rw [if_neg (by omega), if_pos rfl, if_pos rfl]
            exact ⟨rfl, rfl⟩
          · rw [if_neg (by omega), if_neg (by omega), if_neg (by omega), if_neg (by omega)]
            exact hf.2.2 j (by omega)
theorem s_170_17 {a : Nat} (ha : a < A.1) (k : ∀ J' K' H', cV J' K' T s A H' B R y → P 1 J' K') : ∀ (n i : Nat) (J : jZ), i + n = (zk_sem (-1) T A a).length → cV J K T s A H B R y → l_170_17 xs L (d + 7) (a : Int) ((zk_sem (-1) T A a).length : Int) (zf_p (zk_sem (-1) T A a) i) (zf_q (zk_sem (-1) T A a) i) (i : Int) J K P
  | n, i, J, hn, c => by
    have g := v_gd c ha
    have h60 := g.1.1
    have h24 := cV_24 c
    have r := zf_r g.1 (show i ≤ (zk_sem (-1) T A a).length by omega)
    refine e_170_17 ⟨by omega, by omega, fun q => ?_, fun q => ?_⟩
    · obtain rfl : i = (zk_sem (-1) T A a).length := by omega
      refine v_116 c ha (by omega) (by omega) (fun J1 c1 => ?_)
      rw [zf_n0 g.1 (Nat.le_refl _), if_neg (by omega)]
      refine ⟨by omega, fun q1 => absurd rfl q1, fun _ => v_116 c1 ha (by omega) (by omega) (fun J2 c2 => ?_)⟩
      rw [zf_n3 g.1]
      refine ⟨by omega, by omega, fun q1 => absurd rfl q1, fun _ => v_116 c2 ha (by omega) (by omega) (fun J3 c3 => ?_)⟩
      rw [zf_n2 g.1]
      refine ⟨by omega, fun q1 => absurd rfl q1, fun _ => v_124 c3 ha (fun J4 c4 => v_127 c4 ha (fun J5 c5 => ?_))⟩
      have p0 := zf_ap g.1 0
      have p1 := zf_ap g.1 1
      rw [p0.1.trans p1.1.symm]
      refine ⟨by omega, by omega, fun q1 => absurd rfl q1, fun _ => v_138 c5 ha (fun J6 c6 => ⟨by omega, fun q1 => absurd rfl q1, fun _ => v_141 c6 ha (fun J7 r7 c7 e7 => ⟨fun _ => ⟨fun q1 => ?_, fun q1 => ?_⟩, fun q1 => absurd e7 q1⟩)⟩)⟩
      · exact v_11 c7 (fun J8 K8 H8 c8 f8 => s_170_225 ha (N := 20) (by omega) k 20 0 J8 K8 H8 (by omega) c8 (f8 _))
      · exact v_11 c7 (fun J8 K8 H8 c8 f8 => s_170_225 ha (N := (zk_sem (-1) T A a).length) (by omega) k (zk_sem (-1) T A a).length 0 J8 K8 H8 (by omega) c8 (f8 _))
    · match n, hn with
      | 0, hn => omega
      | n + 1, hn =>
        have hi : i < (zk_sem (-1) T A a).length := by omega
        have t := zf_t g.1 hi
        have b := g.1.2.1 i hi
        have lt := zf_lt g.1 (Nat.le_refl i) hi
        have bn := g.2 i hi
        have t60 := c.2.1.1.1
        refine v_114 c ha hi (fun J1 c1 => v_116 c1 ha (by omega) (by omega) (fun J2 c2 => ?_))
        rw [zf_n0 g.1 (by omega), if_pos (by omega), t.1, t.2]
        refine ⟨by omega, fun q1 => absurd rfl q1, fun _ => ⟨by omega, by omega, fun q1 => by omega, fun _ => ⟨by omega, by omega, fun q1 => by omega, fun _ => v_116 c2 ha (by omega) (by omega) (fun J3 c3 => ?_)⟩⟩⟩
        rw [zf_n1 g.1 (by omega), if_pos (by omega)]
        refine ⟨by omega, fun q1 => absurd rfl q1, fun _ => v_162 c3 (by omega) ?_⟩
        rw [sa_0]
        refine ⟨by omega, fun _ => ?_, fun q1 => by omega⟩
        have := s_170_17 ha k n (i + 1) J3 (by omega) c3
        rw [show ((i + 1 : Nat) : Int) = (i : Int) + 1 by omega, zf_s.1, zf_s.2] at this
        exact this
theorem s_170 {a : Nat} (c : cV J K T s A H B R y) (ha : a < A.1) (k : ∀ J' K' H', cV J' K' T s A H' B R y → P 1 J' K') : q_170 xs L (d + 8) (a : Int) J K P :=
  e_170 (v_113 c ha (fun J1 c1 => s_170_17 ha k (zk_sem (-1) T A a).length 0 J1 (by omega) c1))
end LF
