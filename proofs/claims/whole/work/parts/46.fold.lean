/-! Fold. -/
noncomputable def zq_fo (T : zT) (A : zA) (kk : Int) (v : Nat → Int) : Nat → zL
  | 0 => zk_sem (-1) T A (v 0).toNat
  | k + 1 => zl_of (zp_off kk (zq_fo T A kk v k) (zk_sem (-1) T A (v (k + 1)).toNat))
def zq_fa (A : zA) (v : Nat → Int) (n : Nat) : Prop := ∀ e, e < n → 0 ≤ v e ∧ v e < A.1
theorem zq_fo_gd {T : zT} {A : zA} {kk : Int} {v : Nat → Int} (hT : zt_ok T) (hA : zA_ok A) {n : Nat} (h : zq_fa A v n) : ∀ k : Nat, k < n → zs_gd T.1 (zq_fo T A kk v k)
  | 0, hk => zS_gd hT hA (by have := h 0 hk; omega)
  | k + 1, hk => by
    have ih := zq_fo_gd (kk := kk) hT hA h k (by omega)
    have g := zS_gd hT hA (a := (v (k + 1)).toNat) (by have := h (k + 1) hk; omega)
    exact (zl_gd hT.1 (fun x y q => zp_off_b ih g q)).2
def zq_fv (l : zL) (i : Int) : Int := if i = -1 then (l.length : Int) else if 0 ≤ i ∧ i < (l.length : Int) then zs_t l i.toNat else -1
theorem jz_s2 {s : Nat} (h : s < 8) : jz_kd (151 + 2 * s + 1) = 2 ∧ (jz_ln (151 + 2 * s + 1) : Int) = 40 := ⟨jzk_15_1 (jz_e149 h), jzn_15_1 (jz_e149 h)⟩
theorem s_151_133 {xs : Nat → Int32} {L d : Nat} {K : jZ} {P : Int → jZ → jZ → Prop} {T : zT} {A : zA} {v : Nat → Int} {kk i : Int} {s N : Nat} (hk : 2 ≤ kk ∧ kk ≤ 8) (hi : -1 ≤ i ∧ i < 2147483648) (hN : 1 ≤ N ∧ N ≤ 6) (hs : s < 8) (hv : ∀ e, e < N → K (151 + 2 * s + 1) e = v e) (hf : zq_fa A v N) : ∀ (n k : Nat) (J : jZ), k + n = N → 1 ≤ k → cQ J T A → zs_at J 140 (zq_fo T A kk v (k - 1)) → (∀ J', cF J J' → cQ J' T A → P (zq_fv (zq_fo T A kk v (N - 1)) i) J' K) → l_151_133 xs L (d + 6) kk (N : Int) i (151 + 2 * s + 1) (k : Int) J K P
  | n, k, J, hn, hk1, hQ, hr, h => by
    have h24 := hQ.2.1.1
    have g0 := zq_fo_gd (kk := kk) hQ.1 hQ.2.1 hf (k - 1) (by omega)
    have g60 := g0.1.1
    have r2 := hr.1
    refine e_151_133 (n6 := 40) (jz_s2 hs).1 (jz_s2 hs).2 (by omega) ⟨by omega, by omega, fun q => ⟨by omega, fun q2 => ⟨by omega, fun q3 => ⟨by omega, ?_⟩, fun q3 => ?_⟩, fun q2 => ?_⟩, fun q => ?_⟩
    · have e := hr.2 i.toNat (by omega)
      rw [show 140 + 1 = 141 from rfl, show 140 + 2 = 142 from rfl] at e
      rw [e.1, e.2]
      obtain rfl : k = N := by omega
      have := h J cF_rfl hQ
      rw [zq_fv, if_neg q2, if_pos (by omega)] at this
      exact this
    · obtain rfl : k = N := by omega
      have := h J cF_rfl hQ
      rw [zq_fv, if_neg q2, if_neg (by omega)] at this
      exact this
    · obtain rfl : k = N := by omega
      have := h J cF_rfl hQ
      rw [zq_fv, if_pos q2] at this
      rw [r2]
      exact this
    · match n, hn with
      | 0, hn => omega
      | n + 1, hn =>
        have hvk := hf k (by omega)
        rw [Int.toNat_natCast, hv k (by omega)]
        obtain ⟨a, ha⟩ : ∃ a : Nat, v k = (a : Int) := ⟨(v k).toNat, by omega⟩
        rw [ha]
        have g1 := zS_gd hQ.1 hQ.2.1 (a := a) (by omega)
        refine ⟨by omega, s_of hQ (by omega) (fun J1 f1 p1 Q1 _ l1 => ⟨jz_e62 (by omega), s_53 hk hQ.1.1 Q1.2.2.1.1 Q1.2.2.2.2.2.2.1 rfl (jz_e62 (by omega)) rfl (by omega) (by omega) (.inl rfl) g0.1 g1.1 g0.2 g1.2 ⟨by rw [p1 140 (by omega) (by omega)]; exact hr.1, fun t ht => by rw [p1 (140 + 1) (by omega) (by omega), p1 (140 + 2) (by omega) (by omega)]; exact hr.2 t ht⟩ l1.2 (fun J2 l2 f2 r2' i2 => ?_)⟩)⟩
        have M := cQ_made Q1 f2
        have e2 : l2 = zq_fo T A kk v (k + 1 - 1) := by
          rw [← zl_of_eq i2]
          obtain ⟨t, rfl⟩ : ∃ t, k = t + 1 := ⟨k - 1, by omega⟩
          show _ = zl_of (zp_off kk (zq_fo T A kk v t) (zk_sem (-1) T A (v (t + 1)).toNat))
          rw [ha, Int.toNat_natCast]
          rfl
        exact s_151_133 hk hi hN hs hv hf n (k + 1) J2 (by omega) (by omega) M.2 (by rw [← e2]; exact r2') (fun J' f => h J' (cF_tr f1 (cF_tr M.1 f)))
theorem s_151_65 {xs : Nat → Int32} {L d : Nat} {J K : jZ} {P : Int → jZ → jZ → Prop} {T : zT} {A : zA} {v : Nat → Int} {kk i : Int} {s N : Nat} (hQ : cQ J T A) (hk : 2 ≤ kk ∧ kk ≤ 8) (hi : -1 ≤ i ∧ i < 2147483648) (hN : 1 ≤ N ∧ N ≤ 6) (hs : s < 8) (hv : ∀ e, e < N → K (151 + 2 * s + 1) e = v e ∧ -9223372036854775808 ≤ v e ∧ v e < 9223372036854775808) (hb : ¬ zq_fa A v N → P (-5) (rC J 3) K) (h : zq_fa A v N → ∀ J', cF J J' → cQ J' T A → P (zq_fv (zq_fo T A kk v (N - 1)) i) J' K) : ∀ (n k : Nat), k + n = N → (∀ e, e < k → 0 ≤ v e ∧ v e < A.1) → l_151_65 xs L (d + 6) kk (N : Int) i (151 + 2 * s + 1) (k : Int) J K P
  | n, k, hn, hk0 => by
    have h24 := hQ.2.1.1
    have h1 := hQ.2.2.2.1.1
    have bad : ¬ zq_fa A v N → l_151_98 xs L (d + 6) J K P := fun q => e_151_98 (s_13 (k := 3) (by omega) (by omega) (hb q))
    refine e_151_65 (n6 := 40) (jz_s2 hs).1 (jz_s2 hs).2 (by omega) ⟨by omega, by omega, fun q => ⟨by omega, ?_⟩, fun q => ?_⟩
    · have hf : zq_fa A v N := fun e he => hk0 e (by omega)
      have hv0 := hf 0 (by omega)
      rw [show Int.toNat 0 = 0 from rfl, (hv 0 (by omega)).1]
      obtain ⟨a, ha⟩ : ∃ a : Nat, v 0 = (a : Int) := ⟨(v 0).toNat, by omega⟩
      rw [ha]
      have g1 := zS_gd hQ.1 hQ.2.1 (a := a) (by omega)
      refine s_of hQ (by omega) (fun J1 f1 p1 Q1 _ l1 => ⟨jz_e62 (by omega), s_152 rfl (jz_e62 (by omega)) (by omega) ?_⟩)
      have M := cQ_made Q1 (J' := zs_tak J1 140 (68 + 3 * a)) (fun x _ hx => zs_tak_row hx)
      refine s_151_133 hk hi hN hs (fun e he => (hv e he).1) hf (N - 1) 1 _ (by omega) (by omega) M.2 ?_ (fun J' f => h hf J' (cF_tr f1 (cF_tr M.1 f)))
      have := zs_tak_at (a := 140) (b := 68 + 3 * a) (by omega) l1.2 g1.1.1
      show zs_at _ 140 (zk_sem (-1) T A (v 0).toNat)
      rw [ha, Int.toNat_natCast]
      exact this
    · match n, hn with
      | 0, hn => omega
      | n + 1, hn =>
        have v1 := hv k (by omega)
        rw [Int.toNat_natCast, v1.1]
        refine ⟨by omega, v1.2, fun q2 => bad (fun q3 => by have := q3 k (by omega); omega), fun q2 => ⟨by omega, fun q3 => ?_, fun q3 => bad (fun q4 => by have := q4 k (by omega); omega)⟩⟩
        refine s_151_65 hQ hk hi hN hs hv hb h n (k + 1) (by omega) (fun e he => ?_)
        by_cases c : e = k
        · subst c
          exact ⟨q2, by omega⟩
        · exact hk0 e (by omega)
theorem c_151 {xs : Nat → Int32} {L d : Nat} {J K : jZ} {P : Int → jZ → jZ → Prop} {T : zT} {A : zA} (hQ : cQ J T A) {H : zH} {kk s n i : Int} (hH : zH_ok A.1 H) (hr : cH_at J K H) (hk : -2147483648 ≤ kk ∧ kk < 2147483648) (hs : -2147483648 ≤ s ∧ s < 2147483648) (hn : -2147483648 ≤ n ∧ n < 2147483648) (hi : -2147483648 ≤ i ∧ i < 2147483648) (hb : ¬ ((2 ≤ kk ∧ kk ≤ 8) ∧ (1 ≤ n ∧ n ≤ 6) ∧ -1 ≤ i) → P (-2) (rC J 0) K) (hb2 : (2 ≤ kk ∧ kk ≤ 8) ∧ (1 ≤ n ∧ n ≤ 6) ∧ -1 ≤ i → ¬ zH_rf H s n = 0 → P (zH_rf H s n) (rC J (-2 - zH_rf H s n).toNat) K) (hb3 : (2 ≤ kk ∧ kk ≤ 8) ∧ (1 ≤ n ∧ n ≤ 6) ∧ -1 ≤ i → zH_rf H s n = 0 → ¬ zq_fa A (H s.toNat).2.2 n.toNat → P (-5) (rC J 3) K) (h : (2 ≤ kk ∧ kk ≤ 8) ∧ (1 ≤ n ∧ n ≤ 6) ∧ -1 ≤ i → zH_rf H s n = 0 → zq_fa A (H s.toNat).2.2 n.toNat → ∀ J', cF J J' → cQ J' T A → P (zq_fv (zq_fo T A kk (H s.toNat).2.2 (n.toNat - 1)) i) J' K) : q_151 xs L (d + 7) kk s n i J K P := by
  have h24 := hQ.2.1.1
  have bad : ¬ ((2 ≤ kk ∧ kk ≤ 8) ∧ (1 ≤ n ∧ n ≤ 6) ∧ -1 ≤ i) → q_13 xs L (d + 6) (-2) J K (fun r J' K' => P r J' K') := fun q => s_13 (k := 0) (by omega) (by omega) (hb q)
  refine e_151 ⟨hk, fun q => ⟨hn, fun t => bad (by omega), fun t => ⟨fun t2 => bad (by omega), fun t2 => ⟨hi, fun t3 => s_17 h24 hH hr hs hn ?_, fun t3 => bad (by omega)⟩⟩⟩, fun q => bad (by omega)⟩
  have rr := zH_rf_r (H := H) (s := s) (n := n)
  refine ⟨by omega, fun q2 => ?_, fun q2 => s_13 (k := (-2 - zH_rf H s n).toNat) (by omega) (by omega) (hb2 (by omega) q2)⟩
  have c := zH_rf_0 q2
  have hh := h (by omega) q2
  have hh3 := hb3 (by omega) q2
  obtain ⟨j, rfl⟩ : ∃ j : Nat, s = (j : Int) := ⟨s.toNat, by omega⟩
  obtain ⟨N, rfl⟩ : ∃ N : Nat, n = (N : Int) := ⟨n.toNat, by omega⟩
  simp only [Int.toNat_natCast] at hh hh3 c ⊢
  have hv := zH_v (N := N) hH (show j < 8 by omega) (by omega)
  have r2 := (hr j (by omega)).2 hv.1
  exact ⟨by omega, s_151_65 hQ q (by omega) (by omega) (by omega) (fun e he => ⟨r2.2 e (by omega), hv.2.2 e he⟩) hh3 hh N 0 (by omega) (fun e he => by omega)⟩
theorem s_274_130 {xs : Nat → Int32} {L d : Nat} {K : jZ} {P : Int → jZ → jZ → Prop} {T : zT} {A : zA} {v : Nat → Int} {kk i : Int} {s N : Nat} (hk : 2 ≤ kk ∧ kk ≤ 8) (hi : -1 ≤ i ∧ i < 2147483648) (hN : 1 ≤ N ∧ N ≤ 6) (hs : s < 8) (hv : ∀ e, e < N → K (172 + s) e = v e) (hf : zq_fa A v N) : ∀ (n k : Nat) (u : Nat) (J : jZ), k + n = N → 1 ≤ k → (u < A.1 ∨ u = 24 ∨ u = 26) → mQ J T A → mL_at J (-1) T A A.1 → zm_at J u (zq_fo T A kk v (k - 1)) → (∀ J', mF J J' → mQ J' T A → P (zq_fv (zq_fo T A kk v (N - 1)) i) J' K) → l_274_130 xs L (d + 8) kk (s : Int) (N : Int) i (u : Int) (k : Int) J K P
  | n, k, u, J, hn, hk1, hu, hQ, hl, hr, h => by
    have h24 := hQ.2.1.1
    have g0 := zq_fo_gd (kk := kk) hQ.1 hQ.2.1 hf (k - 1) (by omega)
    have g60 := g0.1.1
    have r2 := hr.1
    refine e_274_130 ?_
    simp only [Int.toNat_natCast]
    refine ⟨by omega, by omega, fun q => ⟨by omega, fun q2 => ⟨by omega, by omega, fun q3 => ?_, fun q3 => ⟨by omega, ?_⟩⟩, fun q2 => ⟨by omega, ?_⟩⟩, fun q => ?_⟩
    · obtain rfl : k = N := by omega
      have := h J mF_rfl hQ
      rw [zq_fv, if_neg q2, if_neg (by omega)] at this
      exact this
    · obtain rfl : k = N := by omega
      obtain ⟨j, rfl⟩ : ∃ j : Nat, i = (j : Int) := ⟨i.toNat, by omega⟩
      have e := hr.2 j (by omega)
      rw [zm_idx, e.1, e.2]
      have := h J mF_rfl hQ
      rw [zq_fv, if_neg q2, if_pos (by omega)] at this
      exact this
    · obtain rfl : k = N := by omega
      have := h J mF_rfl hQ
      rw [zq_fv, if_pos q2] at this
      rw [r2]
      exact this
    · match n, hn with
      | 0, hn => omega
      | n + 1, hn =>
        have hvk := hf k (by omega)
        rw [hv k (by omega)]
        obtain ⟨a, ha⟩ : ∃ a : Nat, v k = (a : Int) := ⟨(v k).toNat, by omega⟩
        rw [ha]
        have g1 := zS_gd hQ.1 hQ.2.1 (a := a) (by omega)
        have go : ∀ t : Nat, (t = 24 ∨ t = 26) → ¬ t = u → q_194 xs L (d + 8) (t : Int) kk (u : Int) (a : Int) J K (fun J' K' => l_274_130 xs L (d + 8) kk (s : Int) (N : Int) i (t : Int) ((k : Int) + 1) J' K' P) := fun t ht htu =>
          s_194 hk (by omega) (by omega) (by omega) g0.1 g1.1 hr (hl a (by omega)) (fun J2 l2 f2 r2' i2 => by
            have e2 : l2 = zq_fo T A kk v (k + 1 - 1) := by
              rw [← zl_of_eq i2]
              obtain ⟨t, rfl⟩ : ∃ t, k = t + 1 := ⟨k - 1, by omega⟩
              show _ = zl_of (zp_off kk (zq_fo T A kk v t) (zk_sem (-1) T A (v (t + 1)).toNat))
              rw [ha, Int.toNat_natCast]
              rfl
            exact s_274_130 hk hi hN hs hv hf n (k + 1) t J2 (by omega) (by omega) (by omega) (mQ_fr (by omega) hQ f2) (mL_fr (by omega) hQ.1 hQ.2.1 hl f2) (by rw [← e2]; exact r2') (fun J' f => h J' (mF_tr (mF_fr f2) f)))
        exact ⟨by omega, fun q2 => ⟨by omega, by omega, go 24 (.inl rfl) (by omega)⟩, fun q2 => ⟨by omega, by omega, go 26 (.inr rfl) (by omega)⟩⟩
theorem s_274_70 {xs : Nat → Int32} {L d : Nat} {J K : jZ} {P : Int → jZ → jZ → Prop} {T : zT} {A : zA} {v : Nat → Int} {kk i : Int} {s N : Nat} (hQ : mQ J T A) (hk : 2 ≤ kk ∧ kk ≤ 8) (hi : -1 ≤ i ∧ i < 2147483648) (hN : 1 ≤ N ∧ N ≤ 6) (hs : s < 8) (hv : ∀ e, e < N → K (172 + s) e = v e ∧ -9223372036854775808 ≤ v e ∧ v e < 9223372036854775808) (hb : ¬ zq_fa A v N → P (-5) (rM J 5) K) (h : zq_fa A v N → ∀ J', mF J J' → mQ J' T A → P (zq_fv (zq_fo T A kk v (N - 1)) i) J' K) : ∀ (n k : Nat), k + n = N → (∀ e, e < k → 0 ≤ v e ∧ v e < A.1) → l_274_70 xs L (d + 8) kk (s : Int) (N : Int) i (k : Int) J K P
  | n, k, hn, hk0 => by
    have h24 := hQ.2.1.1
    have h1 := hQ.2.2.2.1.1
    refine e_274_70 ⟨by omega, by omega, fun q => ?_, fun q => ?_⟩
    · have hf : zq_fa A v N := fun e he => hk0 e (by omega)
      have hv0 := hf 0 (by omega)
      obtain ⟨a, ha⟩ : ∃ a : Nat, v 0 = (a : Int) := ⟨(v 0).toNat, by omega⟩
      refine s_work hQ (fun J1 f1 Q1 l1 => ⟨by omega, ?_⟩)
      rw [show Int.toNat 0 = 0 from rfl, Int.toNat_natCast, (hv 0 (by omega)).1, ha]
      refine s_274_130 hk hi hN hs (fun e he => (hv e he).1) hf (N - 1) 1 a J1 (by omega) (by omega) (by omega) Q1 l1 ?_ (fun J' f => h hf J' (mF_tr f1 f))
      show zm_at _ a (zk_sem (-1) T A (v 0).toNat)
      rw [ha, Int.toNat_natCast]
      exact l1 a (by omega)
    · match n, hn with
      | 0, hn => omega
      | n + 1, hn =>
        have v1 := hv k (by omega)
        simp only [Int.toNat_natCast]
        rw [v1.1]
        refine ⟨by omega, by omega, by omega, v1.2, fun q2 => ?_, fun q2 => s_170 (k := 5) (by omega) (by omega) (hb (fun q3 => by have := q3 k (by omega); omega))⟩
        refine s_274_70 hQ hk hi hN hs hv hb h n (k + 1) (by omega) (fun e he => ?_)
        by_cases c : e = k
        · subst c
          omega
        · exact hk0 e (by omega)
theorem m_274 {xs : Nat → Int32} {L d : Nat} {J K : jZ} {P : Int → jZ → jZ → Prop} {T : zT} {A : zA} (hQ : mQ J T A) {H : zH} {kk s n i : Int} (hH : zH_ok A.1 H) (hr : mH_at J K H) (hk : -2147483648 ≤ kk ∧ kk < 2147483648) (hs : -2147483648 ≤ s ∧ s < 2147483648) (hn : -2147483648 ≤ n ∧ n < 2147483648) (hi : -2147483648 ≤ i ∧ i < 2147483648) (hb : ¬ ((2 ≤ kk ∧ kk ≤ 8) ∧ (1 ≤ n ∧ n ≤ 6) ∧ -1 ≤ i) → P (-2) (rM J 2) K) (hb2 : (2 ≤ kk ∧ kk ≤ 8) ∧ (1 ≤ n ∧ n ≤ 6) ∧ -1 ≤ i → ¬ zH_rf H s n = 0 → P (zH_rf H s n) (rM J (-(zH_rf H s n)).toNat) K) (hb3 : (2 ≤ kk ∧ kk ≤ 8) ∧ (1 ≤ n ∧ n ≤ 6) ∧ -1 ≤ i → zH_rf H s n = 0 → ¬ zq_fa A (H s.toNat).2.2 n.toNat → P (-5) (rM J 5) K) (h : (2 ≤ kk ∧ kk ≤ 8) ∧ (1 ≤ n ∧ n ≤ 6) ∧ -1 ≤ i → zH_rf H s n = 0 → zq_fa A (H s.toNat).2.2 n.toNat → ∀ J', mF J J' → mQ J' T A → P (zq_fv (zq_fo T A kk (H s.toNat).2.2 (n.toNat - 1)) i) J' K) : q_274 xs L (d + 9) kk s n i J K P := by
  have h24 := hQ.2.1.1
  have bad : ¬ ((2 ≤ kk ∧ kk ≤ 8) ∧ (1 ≤ n ∧ n ≤ 6) ∧ -1 ≤ i) → q_170 xs L (d + 8) (-2) J K (fun r J' K' => P r J' K') := fun q => s_170 (k := 2) (by omega) (by omega) (hb q)
  refine e_274 ⟨hk, fun q => ⟨hs, fun t => ⟨hn, fun t2 => ⟨hi, fun t3 => s_229 h24 hH hr hs (by omega) (fun q2 => ⟨by omega, fun _ => ?_, fun q3 => by omega⟩) (fun q2 => ⟨by have := zH_rf_r (H := H) (s := s) (n := n); omega, fun q3 => by omega, fun _ => hb2 (by omega) q2⟩), fun t3 => bad (by omega)⟩, fun t2 => bad (by omega)⟩, fun t => ?_⟩, fun q => bad (by omega)⟩
  · have c := zH_rf_0 q2
    have hh := h (by omega) q2
    have hh3 := hb3 (by omega) q2
    obtain ⟨j, rfl⟩ : ∃ j : Nat, s = (j : Int) := ⟨s.toNat, by omega⟩
    obtain ⟨N, rfl⟩ : ∃ N : Nat, n = (N : Int) := ⟨n.toNat, by omega⟩
    simp only [Int.toNat_natCast] at hh hh3 c ⊢
    have hv := zH_v (N := N) hH (show j < 8 by omega) (by omega)
    have r2 := (hr j (by omega)).2.1 hv.1
    exact s_274_70 hQ q (by omega) (by omega) (by omega) (fun e he => ⟨r2.2.2.2 e (by omega), hv.2.2 e he⟩) hh3 hh N 0 (by omega) (fun e he => by omega)
  · by_cases c : (1 ≤ n ∧ n ≤ 6) ∧ -1 ≤ i
    · have e : zH_rf H s n = -2 := by
        unfold zH_rf
        rw [if_pos (by omega)]
      have := hb2 (by omega) (by omega)
      rw [e] at this
      exact s_170 (k := 2) (by omega) (by omega) this
    · exact bad (by omega)
