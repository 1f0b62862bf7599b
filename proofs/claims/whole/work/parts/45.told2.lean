/-! Kinds, leap, fold. -/
noncomputable def zq_kd (T : zT) (A : zA) (a b : Nat) (v : Nat → Int) (n : Nat) (k : Nat) : Prop := 2 ≤ k ∧ zq_ju (zl_of (zp_off (k : Int) (zk_sem (-1) T A a) (zk_sem (-1) T A b))) v n = -1
theorem s_147_90 {xs : Nat → Int32} {L d : Nat} {K : jZ} {P : Int → jZ → jZ → Prop} {T : zT} {A : zA} {H : zH} {a b s N : Nat} (hN : N ≤ 20) (hs : s < 8) (ha : a < A.1) (hb : b < A.1) (hH : zH_ok A.1 H) (hh : 0 ≤ (H s).1 ∧ (H s).1 ≤ 4 ∧ 2 * (N : Int) ≤ (H s).2.1) : ∀ (n k : Nat) (v : Int) (J : jZ), k + n = 9 → 2 ≤ k → v = zq_bs (zq_kd T A a b (H s).2.2 N) k → cQ J T A → cL J T A a → cL J T A b → cH_at J K H → (∀ J', cF J J' → cQ J' T A → P (zq_bs (zq_kd T A a b (H s).2.2 N) 9) J' K) → l_147_90 xs L (d + 6) (s : Int) (N : Int) (68 + 3 * a) (68 + 3 * b) v (k : Int) J K P
  | n, k, v, J, hn, hk2, hv, hQ, la, lb, hr, h => by
    have h24 := hQ.2.1.1
    have g1 := zS_gd hQ.1 hQ.2.1 ha
    have g2 := zS_gd hQ.1 hQ.2.1 hb
    refine e_147_90 (jz_e62 (by omega)) (jz_e62 (by omega)) ⟨by omega, fun q => ?_, fun q => ?_⟩
    · obtain rfl : k = 9 := by omega
      rw [hv]
      exact h J cF_rfl hQ
    · match n, hn with
      | 0, hn => omega
      | n + 1, hn =>
        have hvv := zH_v (N := 2 * N) hH hs (by omega)
        refine s_53 (by omega) hQ.1.1 hQ.2.2.1.1 hQ.2.2.2.2.2.2.1 (jz_e62 (by omega)) (jz_e62 (by omega)) rfl (by omega) (by omega) (by omega) g1.1 g2.1 g1.2 g2.2 la.2 lb.2 (fun J2 l2 f2 r2 i2 => ⟨by omega, ?_⟩)
        have M := cQ_made hQ f2
        have b2 : J2 61 5 = J 61 5 := by rw [f2 61 (by omega) (by omega)]
        have keep : ∀ j, cL J T A j → cL J2 T A j := fun j hj => ⟨by rw [b2]; exact hj.1, (M.2.2.2.2.2.2.2.2 j (by rw [b2]; exact hj.1)).2⟩
        have hr2 := cH_F hr M.1
        have rs := hr2 s hs
        have rs2 := rs.2 ⟨hh.1, hh.2.1⟩
        have el := zl_of_eq i2
        have bj := zq_ju_r l2 (H s).2.2 N
        rw [Int.toNat_natCast]
        refine s_148 (by omega) (jz_e149 (by omega)) rfl r2 i2.1 (by omega) (fun i hi => ⟨rs2.2 i (by omega), hvv.2.2 i hi⟩) ⟨by omega, fun q2 => ?_, fun q2 => ?_⟩
        · exact s_147_90 hN hs ha hb hH hh n (k + 1) v J2 (by omega) (by omega) (by rw [zq_bs_f (fun q3 => q2 (by rw [← el]; exact q3.2))]; exact hv) M.2 (keep a la) (keep b lb) hr2 (fun J' f => h J' (cF_tr M.1 f))
        · exact s_147_90 hN hs ha hb hH hh n (k + 1) _ J2 (by omega) (by omega) (by rw [zq_bs_t ⟨hk2, by rw [el]; exact q2⟩, hv]) M.2 (keep a la) (keep b lb) hr2 (fun J' f => h J' (cF_tr M.1 f))
theorem zq_bs_2 {c : Nat → Prop} (h : ∀ k, k < 2 → ¬ c k) : zq_bs c 2 = 0 := by
  rw [zq_bs_f (h 1 (by omega)), zq_bs_f (h 0 (by omega))]
  rfl
theorem c_147 {xs : Nat → Int32} {L d : Nat} {J K : jZ} {P : Int → jZ → jZ → Prop} {T : zT} {A : zA} (hQ : cQ J T A) {H : zH} {a b s n : Int} (hH : zH_ok A.1 H) (hr : cH_at J K H) (ha : -2147483648 ≤ a ∧ a < 2147483648) (hb0 : -2147483648 ≤ b ∧ b < 2147483648) (hs : -2147483648 ≤ s ∧ s < 2147483648) (hn : -2147483648 ≤ n ∧ n < 2147483648) (hb : ¬ ((0 ≤ a ∧ a < A.1) ∧ (0 ≤ b ∧ b < A.1) ∧ (0 ≤ n ∧ n ≤ 20)) → P (-2) (rC J 0) K) (hb2 : (0 ≤ a ∧ a < A.1) ∧ (0 ≤ b ∧ b < A.1) ∧ (0 ≤ n ∧ n ≤ 20) → ¬ zH_rf H s (2 * n) = 0 → P (zH_rf H s (2 * n)) (rC J (-2 - zH_rf H s (2 * n)).toNat) K) (h : (0 ≤ a ∧ a < A.1) ∧ (0 ≤ b ∧ b < A.1) ∧ (0 ≤ n ∧ n ≤ 20) → zH_rf H s (2 * n) = 0 → ∀ J', cF J J' → cQ J' T A → P (zq_bs (zq_kd T A a.toNat b.toNat (H s.toNat).2.2 n.toNat) 9) J' K) : q_147 xs L (d + 7) a b s n J K P := by
  have h24 := hQ.2.1.1
  have h1 := hQ.2.2.2.1.1
  have bad : ¬ ((0 ≤ a ∧ a < A.1) ∧ (0 ≤ b ∧ b < A.1) ∧ (0 ≤ n ∧ n ≤ 20)) → q_13 xs L (d + 6) (-2) J K (fun r J' K' => P r J' K') := fun q => s_13 (k := 0) (by omega) (by omega) (hb q)
  refine e_147 ⟨ha, by omega, fun q => ⟨hb0, fun t0 => ⟨hn, fun t => bad (by omega), fun t => ⟨fun t2 => s_17 h24 hH hr hs (by omega) ?_, fun t2 => bad (by omega)⟩⟩, fun t0 => bad (by omega)⟩, fun q => bad (by omega)⟩
  have rr := zH_rf_r (H := H) (s := s) (n := 2 * n)
  refine ⟨by omega, fun q2 => ?_, fun q2 => s_13 (k := (-2 - zH_rf H s (2 * n)).toNat) (by omega) (by omega) (hb2 (by omega) q2)⟩
  have c := zH_rf_0 q2
  have hh := h (by omega) q2
  obtain ⟨k, rfl⟩ : ∃ k : Nat, a = (k : Int) := ⟨a.toNat, by omega⟩
  obtain ⟨m, rfl⟩ : ∃ m : Nat, b = (m : Int) := ⟨b.toNat, by omega⟩
  obtain ⟨j, rfl⟩ : ∃ j : Nat, s = (j : Int) := ⟨s.toNat, by omega⟩
  obtain ⟨N, rfl⟩ : ∃ N : Nat, n = (N : Int) := ⟨n.toNat, by omega⟩
  simp only [Int.toNat_natCast] at hh c ⊢
  have hv := zH_v (N := 2 * N) hH (show j < 8 by omega) (by omega)
  refine s_of hQ (by omega) (fun J1 f1 _ Q1 _ l1 => ⟨jz_e62 (by omega), s_of Q1 (by omega) (fun J2 f2 _ Q2 k2 l2 => ⟨jz_e62 (by omega), ?_⟩)⟩)
  exact s_147_90 (by omega) (by omega) (by omega) (by omega) hH ⟨hv.1.1, hv.1.2, by omega⟩ 7 2 0 J2 (by omega) (by omega) (by rw [zq_bs_2 (fun k hk q => by have := q.1; omega)]) Q2 (k2 k l1.1) l2 (cH_F hr (cF_tr f1 f2)) (fun J' f => hh J' (cF_tr f1 (cF_tr f2 f)))
theorem mL_fr {J J' : jZ} {wo : Int} {T : zT} {A : zA} {i : Nat} (hi : 24 ≤ i) (hT : zt_ok T) (hA : zA_ok A) (h : mL_at J wo T A A.1) (hf : zm_fr i J J') : mL_at J' wo T A A.1 := fun j hj => zm_at_fr hf (by have := hA.1; omega) (zk_sem_len hT hA hj) (h j hj)
theorem mF_fr {J J' : jZ} {i : Nat} (hf : zm_fr i J J') : mF J J' := ⟨fun x x1 x2 => hf.1 x (by omega) (by omega) (by omega) (by omega), fun k _ => by rw [hf.1 167 (by omega) (by omega) (by omega) (by omega)]⟩
theorem mQ_fr {J J' : jZ} {T : zT} {A : zA} {i : Nat} (hi : 24 ≤ i) (hQ : mQ J T A) (hf : zm_fr i J J') : mQ J' T A := mQ_F hQ (mF_fr hf) ⟨by rw [hf.1 167 (by omega) (by omega) (by omega) (by omega)]; exact hQ.2.2.2.2.2.1, fun q => by
  rw [hf.1 167 (by omega) (by omega) (by omega) (by omega)] at q
  exact mL_fr hi hQ.1 hQ.2.1 (hQ.2.2.2.2.2.2 q) hf⟩
theorem s_270_77 {xs : Nat → Int32} {L d : Nat} {K : jZ} {P : Int → jZ → jZ → Prop} {T : zT} {A : zA} {H : zH} {a b s N : Nat} (hN : N ≤ 20) (hs : s < 8) (ha : a < A.1) (hb : b < A.1) (hH : zH_ok A.1 H) (hh : 0 ≤ (H s).1 ∧ (H s).1 ≤ 4 ∧ 2 * (N : Int) ≤ (H s).2.1) : ∀ (n k : Nat) (v : Int) (J : jZ), k + n = 9 → 2 ≤ k → v = zq_bs (zq_kd T A a b (H s).2.2 N) k → mQ J T A → mL_at J (-1) T A A.1 → mH_at J K H → (∀ J', mF J J' → mQ J' T A → P (zq_bs (zq_kd T A a b (H s).2.2 N) 9) J' K) → l_270_77 xs L (d + 8) (a : Int) (b : Int) (s : Int) (N : Int) v (k : Int) J K P
  | n, k, v, J, hn, hk2, hv, hQ, hl, hr, h => by
    have h24 := hQ.2.1.1
    have g1 := zS_gd hQ.1 hQ.2.1 ha
    have g2 := zS_gd hQ.1 hQ.2.1 hb
    refine e_270_77 ⟨by omega, fun q => ?_, fun q => ?_⟩
    · obtain rfl : k = 9 := by omega
      rw [hv]
      exact h J mF_rfl hQ
    · match n, hn with
      | 0, hn => omega
      | n + 1, hn =>
        have hvv := zH_v (N := 2 * N) hH hs (by omega)
        refine s_194 (i := 24) (by omega) (by omega) (by omega) (by omega) g1.1 g2.1 (hl a ha) (hl b hb) (fun J2 l2 f2 r2 i2 => ?_)
        have el := zl_of_eq i2
        have bj := zq_ju_r l2 (H s).2.2 N
        have hr2 := mH_F hr (mF_fr f2)
        have rs := (hr2 s hs).2.1 ⟨hh.1, hh.2.1⟩
        refine s_271 (i := 24) (by omega) (by omega) hs r2 i2.1 (fun i hi => ⟨rs.2.2.2 i (by omega), hvv.2.2 i hi⟩) ⟨by omega, fun q2 => ?_, fun q2 => ?_⟩
        · exact s_270_77 hN hs ha hb hH hh n (k + 1) _ J2 (by omega) (by omega) (by rw [zq_bs_f (fun q3 => q2 (by rw [← el]; exact q3.2)), hv, jz_or_0 (zq_bs_r _ _)]) (mQ_fr (by omega) hQ f2) (mL_fr (by omega) hQ.1 hQ.2.1 hl f2) hr2 (fun J' f => h J' (mF_tr (mF_fr f2) f))
        · exact s_270_77 hN hs ha hb hH hh n (k + 1) _ J2 (by omega) (by omega) (by rw [zq_bs_t ⟨hk2, by rw [el]; exact q2⟩, hv]) (mQ_fr (by omega) hQ f2) (mL_fr (by omega) hQ.1 hQ.2.1 hl f2) hr2 (fun J' f => h J' (mF_tr (mF_fr f2) f))
theorem m_270 {xs : Nat → Int32} {L d : Nat} {J K : jZ} {P : Int → jZ → jZ → Prop} {T : zT} {A : zA} (hQ : mQ J T A) {H : zH} {a b s n : Int} (hH : zH_ok A.1 H) (hr : mH_at J K H) (ha : -2147483648 ≤ a ∧ a < 2147483648) (hb0 : -2147483648 ≤ b ∧ b < 2147483648) (hs : -2147483648 ≤ s ∧ s < 2147483648) (hn : -2147483648 ≤ n ∧ n < 2147483648) (hb : ¬ ((0 ≤ a ∧ a < A.1) ∧ (0 ≤ b ∧ b < A.1) ∧ (0 ≤ n ∧ n ≤ 20)) → P (-2) (rM J 2) K) (hb2 : (0 ≤ a ∧ a < A.1) ∧ (0 ≤ b ∧ b < A.1) ∧ (0 ≤ n ∧ n ≤ 20) → ¬ zH_rf H s (2 * n) = 0 → P (zH_rf H s (2 * n)) (rM J (-(zH_rf H s (2 * n))).toNat) K) (h : (0 ≤ a ∧ a < A.1) ∧ (0 ≤ b ∧ b < A.1) ∧ (0 ≤ n ∧ n ≤ 20) → zH_rf H s (2 * n) = 0 → ∀ J', mF J J' → mQ J' T A → P (zq_bs (zq_kd T A a.toNat b.toNat (H s.toNat).2.2 n.toNat) 9) J' K) : q_270 xs L (d + 9) a b s n J K P := by
  have h24 := hQ.2.1.1
  have h1 := hQ.2.2.2.1.1
  have bad : ¬ ((0 ≤ a ∧ a < A.1) ∧ (0 ≤ b ∧ b < A.1) ∧ (0 ≤ n ∧ n ≤ 20)) → q_170 xs L (d + 8) (-2) J K (fun r J' K' => P r J' K') := fun q => s_170 (k := 2) (by omega) (by omega) (hb q)
  refine e_270 ⟨ha, by omega, fun q => ⟨hb0, fun t0 => ⟨hs, fun t => ⟨hn, fun t2 => s_229 h24 hH hr hs (by omega) (fun q2 => ⟨by omega, fun _ => ?_, fun q3 => by omega⟩) (fun q2 => ⟨by have := zH_rf_r (H := H) (s := s) (n := 2 * n); omega, fun q3 => by omega, fun _ => hb2 (by omega) q2⟩), fun t2 => bad (by omega)⟩, fun t => ?_⟩, fun t0 => bad (by omega)⟩, fun q => bad (by omega)⟩
  · have c := zH_rf_0 q2
    have hh := h (by omega) q2
    obtain ⟨k, rfl⟩ : ∃ k : Nat, a = (k : Int) := ⟨a.toNat, by omega⟩
    obtain ⟨m, rfl⟩ : ∃ m : Nat, b = (m : Int) := ⟨b.toNat, by omega⟩
    obtain ⟨j, rfl⟩ : ∃ j : Nat, s = (j : Int) := ⟨s.toNat, by omega⟩
    obtain ⟨N, rfl⟩ : ∃ N : Nat, n = (N : Int) := ⟨n.toNat, by omega⟩
    simp only [Int.toNat_natCast] at hh c ⊢
    have hv := zH_v (N := 2 * N) hH (show j < 8 by omega) (by omega)
    exact s_work hQ (fun J1 f1 Q1 l1 => s_270_77 (by omega) (by omega) (by omega) (by omega) hH ⟨hv.1.1, hv.1.2, by omega⟩ 7 2 0 J1 (by omega) (by omega) (by rw [zq_bs_2 (fun k hk q => by have := q.1; omega)]) Q1 l1 (mH_F hr f1) (fun J' f => hh J' (mF_tr f1 f)))
  · by_cases c : 0 ≤ n ∧ n ≤ 20
    · have e : zH_rf H s (2 * n) = -2 := by
        unfold zH_rf
        rw [if_pos (by omega)]
      have := hb2 (by omega) (by omega)
      rw [e] at this
      exact s_170 (k := 2) (by omega) (by omega) this
    · exact bad (by omega)
-- leap
/-- from i on, n spans: how many come before the first whose first isn't less than p -/
def zq_lw (l : zL) (p : Int) : Nat → Nat → Nat
  | _, 0 => 0
  | i, n + 1 => if zs_f l i < p then zq_lw l p (i + 1) n + 1 else 0
/-- the cursor after the first k told numbers -/
def zq_lp (l : zL) (v : Nat → Int) : Nat → Nat
  | 0 => 0
  | k + 1 => zq_lp l v k + zq_lw l (v k) (zq_lp l v k) (l.length - zq_lp l v k)
theorem zq_lw_r (l : zL) (p : Int) : ∀ n i : Nat, zq_lw l p i n ≤ n
  | 0, i => Nat.le_refl _
  | n + 1, i => by
    have := zq_lw_r l p n (i + 1)
    unfold zq_lw
    split <;> omega
theorem zq_lp_r (l : zL) (v : Nat → Int) : ∀ k : Nat, zq_lp l v k ≤ l.length
  | 0 => Nat.zero_le _
  | k + 1 => by
    have := zq_lp_r l v k
    have := zq_lw_r l (v k) (l.length - zq_lp l v k) (zq_lp l v k)
    unfold zq_lp
    omega
theorem zq_lw_on {l : zL} {p : Int} : ∀ (n i r : Nat), i + n = l.length → zs_on l (i : Int) p (r : Int) → r = i + zq_lw l p i n
  | 0, i, r, hn, h => by
    obtain ⟨a, b, c, e⟩ := h
    unfold zq_lw
    omega
  | n + 1, i, r, hn, h => by
    obtain ⟨a, b, c, e⟩ := h
    unfold zq_lw
    split
    · rename_i q
      have h1 : i + 1 ≤ r := by
        by_cases t : i = r
        · have := e r rfl (by omega)
          subst t
          omega
        · omega
      have := zq_lw_on n (i + 1) r (by omega) ⟨by omega, b, fun k k1 k2 => c k (by omega) k2, e⟩
      omega
    · rename_i q
      by_cases t : i < r
      · have := c i (by omega) (by omega)
        omega
      · omega
theorem s_150_64 {xs : Nat → Int32} {L d : Nat} {J K : jZ} {P : Int → jZ → jZ → Prop} {T : zT} {A : zA} {H : zH} {l : zL} {b s N : Nat} (hN : N ≤ 40) (hs : s < 8) (hb : jz_kd b = 16) (hr : zs_at J b l) (hg : zs_ok l) (hv : ∀ i, i < N → K (151 + 2 * s + 1) i = (H s).2.2 i ∧ -9223372036854775808 ≤ (H s).2.2 i ∧ (H s).2.2 i < 9223372036854775808) (h : P (if zq_lp l (H s).2.2 N < l.length then (zq_lp l (H s).2.2 N : Int) else -1) J K) : ∀ (n k : Nat) (c : Int), k + n = N → c = (zq_lp l (H s).2.2 k : Int) → l_150_64 xs L (d + 6) (s : Int) (N : Int) b c (k : Int) J K P
  | n, k, c, hn, hc => by
    have h60 := hg.1
    have hlp := zq_lp_r l (H s).2.2 k
    refine e_150_64 hb ⟨by omega, by omega, fun q => ?_, fun q => ?_⟩
    · obtain rfl : k = N := by omega
      refine s_117 hb hr hg (by omega) ?_
      by_cases c2 : zq_lp l (H s).2.2 k < l.length
      · rw [if_pos c2] at h
        rw [if_pos (by omega), hc]
        exact h
      · rw [if_neg c2] at h
        rw [if_neg (by omega)]
        exact h
    · match n, hn with
      | 0, hn => omega
      | n + 1, hn =>
        have v1 := hv k (by omega)
        simp only [Int.toNat_natCast]
        rw [v1.1, hc]
        refine ⟨by omega, by omega, s_45 hb hr hg v1.2 (by omega) (fun r o => ?_)⟩
        obtain ⟨r0, rfl⟩ : ∃ r0 : Nat, r = (r0 : Int) := ⟨r.toNat, by have := o.1; omega⟩
        have e := zq_lw_on (l.length - zq_lp l (H s).2.2 k) _ r0 (by omega) o
        exact s_150_64 (T := T) (A := A) hN hs hb hr hg hv h n (k + 1) _ (by omega) (by rw [e]; rfl)
theorem c_150 {xs : Nat → Int32} {L d : Nat} {J K : jZ} {P : Int → jZ → jZ → Prop} {T : zT} {A : zA} (hQ : cQ J T A) {H : zH} {a s n : Int} (hH : zH_ok A.1 H) (hr : cH_at J K H) (ha : -2147483648 ≤ a ∧ a < 2147483648) (hs : -2147483648 ≤ s ∧ s < 2147483648) (hn : -2147483648 ≤ n ∧ n < 2147483648) (hb : ¬ ((0 ≤ a ∧ a < A.1) ∧ (0 ≤ n ∧ n ≤ 40)) → P (-2) (rC J 0) K) (hb2 : (0 ≤ a ∧ a < A.1) ∧ (0 ≤ n ∧ n ≤ 40) → ¬ zH_rf H s n = 0 → P (zH_rf H s n) (rC J (-2 - zH_rf H s n).toNat) K) (h : (0 ≤ a ∧ a < A.1) ∧ (0 ≤ n ∧ n ≤ 40) → zH_rf H s n = 0 → ∀ J', cF J J' → cQ J' T A → P (if zq_lp (zk_sem (-1) T A a.toNat) (H s.toNat).2.2 n.toNat < (zk_sem (-1) T A a.toNat).length then (zq_lp (zk_sem (-1) T A a.toNat) (H s.toNat).2.2 n.toNat : Int) else -1) J' K) : q_150 xs L (d + 7) a s n J K P := by
  have h24 := hQ.2.1.1
  have h1 := hQ.2.2.2.1.1
  have bad : ¬ ((0 ≤ a ∧ a < A.1) ∧ (0 ≤ n ∧ n ≤ 40)) → q_13 xs L (d + 6) (-2) J K (fun r J' K' => P r J' K') := fun q => s_13 (k := 0) (by omega) (by omega) (hb q)
  refine e_150 ⟨ha, by omega, fun q => ⟨hn, fun t => bad (by omega), fun t => ⟨fun t2 => s_17 h24 hH hr hs hn ?_, fun t2 => bad (by omega)⟩⟩, fun q => bad (by omega)⟩
  have rr := zH_rf_r (H := H) (s := s) (n := n)
  refine ⟨by omega, fun q2 => ?_, fun q2 => s_13 (k := (-2 - zH_rf H s n).toNat) (by omega) (by omega) (hb2 (by omega) q2)⟩
  have c := zH_rf_0 q2
  have hh := h (by omega) q2
  obtain ⟨k, rfl⟩ : ∃ k : Nat, a = (k : Int) := ⟨a.toNat, by omega⟩
  obtain ⟨j, rfl⟩ : ∃ j : Nat, s = (j : Int) := ⟨s.toNat, by omega⟩
  obtain ⟨N, rfl⟩ : ∃ N : Nat, n = (N : Int) := ⟨n.toNat, by omega⟩
  simp only [Int.toNat_natCast] at hh c ⊢
  have hv := zH_v (N := N) hH (show j < 8 by omega) (by omega)
  refine s_of hQ (by omega) (fun J1 f1 _ Q1 _ l1 => ⟨jz_e62 (by omega), ?_⟩)
  have r2 := (cH_F hr f1 j (by omega)).2 hv.1
  exact s_150_64 (T := T) (A := A) (by omega) (by omega) (jz_e62 (by omega)) l1.2 (zS_gd hQ.1 hQ.2.1 (by omega)).1 (fun i hi => ⟨r2.2 i (by omega), hv.2.2 i hi⟩) (hh J1 f1 Q1) N 0 0 (by omega) rfl
theorem s_273 {xs : Nat → Int32} {L d : Nat} {J K : jZ} {P : Int → jZ → jZ → Prop} {H : zH} {l : zL} {i s N : Nat} (hN : N ≤ 40) (hs : s < 8) (hi : i < 27) (hr : zm_at J i l) (hg : zs_ok l) (hv : ∀ i, i < N → K (172 + s) i = (H s).2.2 i ∧ -9223372036854775808 ≤ (H s).2.2 i ∧ (H s).2.2 i < 9223372036854775808) (h : P (if zq_lp l (H s).2.2 N < l.length then (zq_lp l (H s).2.2 N : Int) else -1) J K) : ∀ (n : Nat), (∀ (k : Nat) (c : Int), k + n = N → c = (zq_lp l (H s).2.2 k : Int) → l_273_65 xs L (d + 8) (i : Int) (s : Int) (N : Int) c (k : Int) J K P) ∧ (∀ (m k c : Nat), k + (n + 1) = N → c + m = l.length → c + zq_lw l ((H s).2.2 k) c m = zq_lp l (H s).2.2 (k + 1) → l_273_71 xs L (d + 8) (i : Int) (s : Int) (N : Int) (c : Int) (k : Int) J K P) := by
  have h60 := hg.1
  have hs' := hr.1
  intro n
  have walk : (∀ (k : Nat) (c : Int), k + n = N → c = (zq_lp l (H s).2.2 k : Int) → l_273_65 xs L (d + 8) (i : Int) (s : Int) (N : Int) c (k : Int) J K P) → ∀ (m k c : Nat), k + (n + 1) = N → c + m = l.length → c + zq_lw l ((H s).2.2 k) c m = zq_lp l (H s).2.2 (k + 1) → l_273_71 xs L (d + 8) (i : Int) (s : Int) (N : Int) (c : Int) (k : Int) J K P := by
    intro base m
    induction m with
    | zero =>
      intro k c hk hc he
      have e : c = zq_lp l (H s).2.2 (k + 1) := by
        rw [← he]
        rfl
      refine e_273_71 ?_
      rw [Int.toNat_natCast, hs']
      exact ⟨by omega, by omega, by omega, fun q => e_273_109 (base (k + 1) _ (by omega) (by omega)), fun q => by omega⟩
    | succ m ih =>
      intro k c hk hc he
      have v1 := hv k (by omega)
      have kk := zm_b hr hg (show c < l.length by omega)
      refine e_273_71 ?_
      rw [zm_idx]
      simp only [Int.toNat_natCast]
      rw [hs', kk.1, v1.1]
      refine ⟨by omega, by omega, by omega, fun q => by omega, fun q => ⟨by omega, by omega, by omega, by omega, v1.2, fun q2 => ?_, fun q2 => ?_⟩⟩
      · have e : c = zq_lp l (H s).2.2 (k + 1) := by
          rw [← he, zq_lw, if_neg (by omega)]
          rfl
        exact e_273_109 (base (k + 1) _ (by omega) (by omega))
      · refine ih k (c + 1) hk (by omega) ?_
        rw [zq_lw, if_pos q2] at he
        omega
  induction n with
  | zero =>
    have base : ∀ (k : Nat) (c : Int), k + 0 = N → c = (zq_lp l (H s).2.2 k : Int) → l_273_65 xs L (d + 8) (i : Int) (s : Int) (N : Int) c (k : Int) J K P := fun k c hk hc => by
      have hlp := zq_lp_r l (H s).2.2 k
      obtain rfl : k = N := by omega
      refine e_273_65 ?_
      rw [Int.toNat_natCast, hs']
      refine ⟨by omega, by omega, fun q => ⟨by omega, by omega, by omega, fun q2 => ?_, fun q2 => ?_⟩, fun q => by omega⟩
      · rw [if_neg (by omega)] at h
        exact h
      · rw [if_pos (by omega)] at h
        rw [hc]
        exact h
    exact ⟨base, walk base⟩
  | succ n ihn =>
    have ih := ihn (by
      intro base m
      induction m with
      | zero =>
        intro k c hk hc he
        have e : c = zq_lp l (H s).2.2 (k + 1) := by
          rw [← he]
          rfl
        refine e_273_71 ?_
        rw [Int.toNat_natCast, hs']
        exact ⟨by omega, by omega, by omega, fun q => e_273_109 (base (k + 1) _ (by omega) (by omega)), fun q => by omega⟩
      | succ m ih =>
        intro k c hk hc he
        have v1 := hv k (by omega)
        have kk := zm_b hr hg (show c < l.length by omega)
        refine e_273_71 ?_
        rw [zm_idx]
        simp only [Int.toNat_natCast]
        rw [hs', kk.1, v1.1]
        refine ⟨by omega, by omega, by omega, fun q => by omega, fun q => ⟨by omega, by omega, by omega, by omega, v1.2, fun q2 => ?_, fun q2 => ?_⟩⟩
        · have e : c = zq_lp l (H s).2.2 (k + 1) := by
            rw [← he, zq_lw, if_neg (by omega)]
            rfl
          exact e_273_109 (base (k + 1) _ (by omega) (by omega))
        · refine ih k (c + 1) hk (by omega) ?_
          rw [zq_lw, if_pos q2] at he
          omega)
    have base : ∀ (k : Nat) (c : Int), k + (n + 1) = N → c = (zq_lp l (H s).2.2 k : Int) → l_273_65 xs L (d + 8) (i : Int) (s : Int) (N : Int) c (k : Int) J K P := fun k c hk hc => by
      have hlp := zq_lp_r l (H s).2.2 k
      refine e_273_65 ⟨by omega, by omega, fun q => by omega, fun q => ?_⟩
      rw [hc]
      exact ih.2 (l.length - zq_lp l (H s).2.2 k) k (zq_lp l (H s).2.2 k) hk (by omega) rfl
    exact ⟨base, walk base⟩
theorem m_273 {xs : Nat → Int32} {L d : Nat} {J K : jZ} {P : Int → jZ → jZ → Prop} {T : zT} {A : zA} (hQ : mQ J T A) {H : zH} {a s n : Int} (hH : zH_ok A.1 H) (hr : mH_at J K H) (ha : -2147483648 ≤ a ∧ a < 2147483648) (hs : -2147483648 ≤ s ∧ s < 2147483648) (hn : -2147483648 ≤ n ∧ n < 2147483648) (hb : ¬ ((0 ≤ a ∧ a < A.1) ∧ (0 ≤ n ∧ n ≤ 40)) → P (-2) (rM J 2) K) (hb2 : (0 ≤ a ∧ a < A.1) ∧ (0 ≤ n ∧ n ≤ 40) → ¬ zH_rf H s n = 0 → P (zH_rf H s n) (rM J (-(zH_rf H s n)).toNat) K) (h : (0 ≤ a ∧ a < A.1) ∧ (0 ≤ n ∧ n ≤ 40) → zH_rf H s n = 0 → ∀ J', mF J J' → mQ J' T A → P (if zq_lp (zk_sem (-1) T A a.toNat) (H s.toNat).2.2 n.toNat < (zk_sem (-1) T A a.toNat).length then (zq_lp (zk_sem (-1) T A a.toNat) (H s.toNat).2.2 n.toNat : Int) else -1) J' K) : q_273 xs L (d + 9) a s n J K P := by
  have h24 := hQ.2.1.1
  have h1 := hQ.2.2.2.1.1
  have bad : ¬ ((0 ≤ a ∧ a < A.1) ∧ (0 ≤ n ∧ n ≤ 40)) → q_170 xs L (d + 8) (-2) J K (fun r J' K' => P r J' K') := fun q => s_170 (k := 2) (by omega) (by omega) (hb q)
  refine e_273 ⟨ha, by omega, fun q => ⟨hs, fun t => ⟨hn, fun t2 => s_229 h24 hH hr hs (by omega) (fun q2 => ⟨by omega, fun _ => ?_, fun q3 => by omega⟩) (fun q2 => ⟨by have := zH_rf_r (H := H) (s := s) (n := n); omega, fun q3 => by omega, fun _ => hb2 (by omega) q2⟩), fun t2 => bad (by omega)⟩, fun t => ?_⟩, fun q => bad (by omega)⟩
  · have c := zH_rf_0 q2
    have hh := h (by omega) q2
    obtain ⟨k, rfl⟩ : ∃ k : Nat, a = (k : Int) := ⟨a.toNat, by omega⟩
    obtain ⟨j, rfl⟩ : ∃ j : Nat, s = (j : Int) := ⟨s.toNat, by omega⟩
    obtain ⟨N, rfl⟩ : ∃ N : Nat, n = (N : Int) := ⟨n.toNat, by omega⟩
    simp only [Int.toNat_natCast] at hh c ⊢
    have hv := zH_v (N := N) hH (show j < 8 by omega) (by omega)
    have r2 := (hr j (by omega)).2.1 hv.1
    exact s_work hQ (fun J1 f1 Q1 l1 => (s_273 (by omega) (by omega) (by omega) (l1 k (by omega)) (zS_gd hQ.1 hQ.2.1 (by omega)).1 (fun i hi => ⟨r2.2.2.2 i (by omega), hv.2.2 i hi⟩) (hh J1 f1 Q1) N).1 0 0 (by omega) rfl)
  · by_cases c : 0 ≤ n ∧ n ≤ 40
    · have e : zH_rf H s n = -2 := by
        unfold zH_rf
        rw [if_pos (by omega)]
      have := hb2 (by omega) (by omega)
      rw [e] at this
      exact s_170 (k := 2) (by omega) (by omega) this
    · exact bad (by omega)
