/-! Under, alike, same, inside, next. -/
noncomputable def zi (p : Prop) : Int := @ite _ p (Classical.propDecidable p) 1 0
theorem zi_t {p : Prop} (h : p) : zi p = 1 := by
  unfold zi
  rw [if_pos h]
theorem zi_f {p : Prop} (h : ¬ p) : zi p = 0 := by
  unfold zi
  rw [if_neg h]
theorem zi_r (p : Prop) : 0 ≤ zi p ∧ zi p ≤ 1 := by
  unfold zi
  split <;> omega
theorem zs_fil_len {l : zL} {c : Nat → Prop} : ∀ k : Nat, ((zs_fil l c k).length : Int) = zn (fun i => zi (c i)) k
  | 0 => rfl
  | k + 1 => by
    have ih := zs_fil_len (l := l) (c := c) k
    by_cases h : c k
    · rw [zs_fil_t h, zn, ← ih, zi_t h]
      simp
    · rw [zs_fil_f h, zn, ← ih, zi_f h]
      omega
/-- how many spans the test of a kind keeps -/
noncomputable def zq_cn (k : Int) (l m : zL) : Int := zn (fun i => zi (zo_tst k l m i)) l.length
theorem zq_cn_r (k : Int) (l m : zL) : 0 ≤ zq_cn k l m ∧ zq_cn k l m ≤ l.length := zn_r (fun i => zi_r _) l.length
theorem zp_cnt {k : Int} {l m l' : zL} (hk : 5 ≤ k ∧ k ≤ 8) (hg : zs_ok l) (h : zl_isl (zp_off k l m) l') : (l'.length : Int) = zq_cn k l m := by
  have h1 : zl_isl (zp_off k l m) (zs_fil l (zo_tst k l m) l.length) := by
    refine zl_isl_sub (zs_fil_ok hg _ (Nat.le_refl _)).1 (fun x y => ?_)
    rw [zs_fil_in]
    unfold zp_off
    rw [if_neg (by omega), if_neg (by omega)]
  rw [zs_ext h.1 h1.1 (fun f e => (h.2 f e).trans (h1.2 f e).symm), zs_fil_len]
  rfl
theorem zq_cn_all {k : Int} {l m : zL} : zq_cn k l m = l.length ↔ ∀ i, i < l.length → zo_tst k l m i := by
  constructor
  · intro h i hi
    by_cases c : zo_tst k l m i
    · exact c
    · exfalso
      have := zn_mono_lt (f := fun i => zi (zo_tst k l m i)) (g := fun _ => 1) l.length (fun j _ => (zi_r _).2) i hi (by rw [zi_f c]; omega)
      have e : ∀ n : Nat, zn (fun _ => 1) n = n := by
        intro n
        induction n with
        | zero => rfl
        | succ n ih => rw [zn, ih]; rfl
      rw [e] at this
      unfold zq_cn at h
      omega
  · intro h
    unfold zq_cn
    have : ∀ n : Nat, n ≤ l.length → zn (fun i => zi (zo_tst k l m i)) n = n := by
      intro n
      induction n with
      | zero => exact fun _ => rfl
      | succ n ih =>
        intro hn
        rw [zn, ih (by omega), zi_t (h n (by omega))]
        rfl
    exact this _ (Nat.le_refl _)
theorem zo_tst5 {l m : zL} {i : Nat} : zo_tst 5 l m i ↔ 0 < zo_ly l m i 0 m.length := by
  rw [zo_ly_pos]
  unfold zo_tst
  rw [show ((5 : Int) = 7 ∨ (5 : Int) = 8) = (¬ (0 : Int) = 0) from propext (by omega)]
  simp
theorem zo_tst7 {l m : zL} {i : Nat} : zo_tst 7 l m i ↔ 0 < zo_ly l m i 1 m.length := by
  rw [zo_ly_pos]
  unfold zo_tst
  rw [show ((7 : Int) = 7 ∨ (7 : Int) = 8) = (¬ (1 : Int) = 0) from propext (by omega)]
  simp
noncomputable def zq_ud (w : Int) (l m : zL) : Int := if w = 2 then zs_com l m else if w = 0 then zq_cn 5 l m else zq_cn 7 l m
theorem cQ_made {J J' : jZ} {T : zT} {A : zA} (hQ : cQ J T A) (hf : ∀ x, x ≠ 67 → x < 140 ∨ 140 + 2 < x → J' x = J x) : cF J J' ∧ cQ J' T A := by
  have F : cF J J' := ⟨fun x x1 x2 x3 => hf x x2 (by omega), fun j _ => by rw [hf 61 (by omega) (by omega)]⟩
  refine ⟨F, cQ_F hQ F (fun j hj => ?_)⟩
  have h24 := hQ.2.1.1
  rw [hf 61 (by omega) (by omega)] at hj
  have t := hQ.2.2.2.2.2.2.2 j hj
  exact ⟨t.1, ⟨by rw [hf _ (by omega) (by omega)]; exact t.2.1, fun i hi => by rw [hf _ (by omega) (by omega), hf _ (by omega) (by omega)]; exact t.2.2 i hi⟩⟩
theorem c_136 {xs : Nat → Int32} {L d : Nat} {J K : jZ} {P : Int → jZ → jZ → Prop} {T : zT} {A : zA} (hQ : cQ J T A) {a b w : Int} (ha : -2147483648 ≤ a ∧ a < 2147483648) (hb0 : -2147483648 ≤ b ∧ b < 2147483648) (hw : -2147483648 ≤ w ∧ w < 2147483648) (hb : ¬ ((0 ≤ a ∧ a < A.1) ∧ (0 ≤ b ∧ b < A.1) ∧ (0 ≤ w ∧ w ≤ 2)) → P (-2) (rC J 0) K) (h : (0 ≤ a ∧ a < A.1) ∧ (0 ≤ b ∧ b < A.1) ∧ (0 ≤ w ∧ w ≤ 2) → ∀ J', cF J J' → cQ J' T A → P (zq_ud w (zk_sem (-1) T A a.toNat) (zk_sem (-1) T A b.toNat)) J' K) : q_136 xs L (d + 7) a b w J K P := by
  have h24 := hQ.2.1.1
  have h1 := hQ.2.2.2.1.1
  have bad : ¬ ((0 ≤ a ∧ a < A.1) ∧ (0 ≤ b ∧ b < A.1) ∧ (0 ≤ w ∧ w ≤ 2)) → q_13 xs L (d + 6) (-2) J K (fun r J' K' => P r J' K') := fun q => s_13 (k := 0) (by omega) (by omega) (hb q)
  refine e_136 ⟨ha, by omega, fun q => ⟨hb0, fun q2 => ⟨hw, fun q3 => bad (by omega), fun q3 => ⟨fun q4 => ?_, fun q4 => bad (by omega)⟩⟩, fun q2 => bad (by omega)⟩, fun q => bad (by omega)⟩
  obtain ⟨k, rfl⟩ : ∃ k : Nat, a = (k : Int) := ⟨a.toNat, by omega⟩
  obtain ⟨j, rfl⟩ : ∃ j : Nat, b = (j : Int) := ⟨b.toNat, by omega⟩
  simp only [Int.toNat_natCast] at h
  have g1 := zS_gd hQ.1 hQ.2.1 (a := k) (by omega)
  have g2 := zS_gd hQ.1 hQ.2.1 (a := j) (by omega)
  refine s_of hQ (by omega) (fun J1 f1 _ Q1 _ l1 => ⟨jz_e62 (by omega), s_of Q1 (by omega) (fun J2 f2 _ Q2 k2 l2 => ⟨jz_e62 (by omega), fun q5 => ⟨fun q6 => ?_, fun q6 => ?_⟩, fun q5 => ?_⟩)⟩)
  · refine s_53 (by omega) hQ.1.1 Q2.2.2.1.1 Q2.2.2.2.2.2.2.1 (jz_e62 (by omega)) (jz_e62 (by omega)) rfl (by omega) (by omega) (by omega) g1.1 g2.1 g1.2 g2.2 (k2 k l1.1).2 l2.2 (fun J3 l3 f3 r3 i3 => ?_)
    rw [r3.1, zp_cnt (by omega) g1.1 i3]
    have := h (by omega) J3 (cF_tr f1 (cF_tr f2 (cQ_made Q2 f3).1)) (cQ_made Q2 f3).2
    rw [zq_ud, if_neg q5, if_neg q6] at this
    exact this
  · refine s_53 (by omega) hQ.1.1 Q2.2.2.1.1 Q2.2.2.2.2.2.2.1 (jz_e62 (by omega)) (jz_e62 (by omega)) rfl (by omega) (by omega) (by omega) g1.1 g2.1 g1.2 g2.2 (k2 k l1.1).2 l2.2 (fun J3 l3 f3 r3 i3 => ?_)
    rw [r3.1, zp_cnt (by omega) g1.1 i3]
    have := h (by omega) J3 (cF_tr f1 (cF_tr f2 (cQ_made Q2 f3).1)) (cQ_made Q2 f3).2
    rw [zq_ud, if_neg q5, if_pos q6] at this
    exact this
  · refine s_137 (jz_e62 (by omega)) (jz_e62 (by omega)) (k2 k l1.1).2 g1.1 l2.2 g2.1 ?_
    have := h (by omega) J2 (cF_tr f1 f2) Q2
    rw [zq_ud, if_pos q5] at this
    exact this
theorem s_260_3 {xs : Nat → Int32} {L d : Nat} {J K : jZ} {P : Int → jZ → jZ → Prop} {u v i : Nat} {l m : zL} (hu : u < 27) (hv : v < 27) (hg : zs_ok l) (hg2 : zs_ok m) (hr : zm_at J u l) (hr2 : zm_at J v m) (hi : i < l.length) (h1 : zs_in m (zs_f l i) (zs_l l i) → P 1 J K) (h0 : ¬ zs_in m (zs_f l i) (zs_l l i) → P 0 J K) : ∀ (n j : Nat), j + n = m.length → (∀ t, t < j → ¬ (zs_f m t = zs_f l i ∧ zs_l m t = zs_l l i)) → l_260_3 xs L (d + 1) (u : Int) (i : Int) (v : Int) (j : Int) J K P
  | n, j, hn, hj => by
    have h60 := hg.1
    have h61 := hg2.1
    have hs2 := hr2.1
    refine e_260_3 ⟨by omega, by omega, by simp only [Int.toNat_natCast]; omega, fun q => ?_, fun q => ?_⟩
    · simp only [Int.toNat_natCast] at q
      refine h0 ?_
      rintro ⟨t, ht, e1, e2⟩
      exact hj t (by omega) ⟨e1, e2⟩
    · simp only [Int.toNat_natCast] at q
      match n, hn with
      | 0, hn => omega
      | n + 1, hn =>
        have k1 := zm_b hr hg hi
        have k2 := zm_b hr2 hg2 (show j < m.length by omega)
        rw [zm_idx, zm_idx, k1.1, k1.2.1, k2.1, k2.2.1]
        have next : ¬ (zs_f m j = zs_f l i ∧ zs_l m j = zs_l l i) → l_260_3 xs L (d + 1) (u : Int) (i : Int) (v : Int) ((j : Int) + 1) J K P := fun q2 =>
          s_260_3 hu hv hg hg2 hr hr2 hi h1 h0 n (j + 1) (by omega) (fun t ht => by
            by_cases c : t = j
            · subst c
              exact q2
            · exact hj t (by omega))
        exact ⟨by omega, by omega, by omega, by omega, fun q2 => next (fun q3 => q2 q3.1), fun q2 => ⟨by omega, by omega, fun q3 => next (fun q4 => q3 q4.2), fun q3 => h1 ⟨j, by omega, q2, q3⟩⟩⟩
theorem s_259_45 {xs : Nat → Int32} {L d : Nat} {J K : jZ} {P : Int → jZ → jZ → Prop} {u v : Nat} {l m : zL} {w : Int} (hw : 0 ≤ w ∧ w ≤ 2) (hu : u < 27) (hv : v < 27) (hg : zs_ok l) (hg2 : zs_ok m) (hr : zm_at J u l) (hr2 : zm_at J v m) (h : P (zq_ud w l m) J K) (F : Nat → Prop) (hF : zq_ud w l m = zn (fun i => zi (F i)) l.length) (hF2 : ∀ i, i < l.length → (F i ↔ (w = 2 ∧ zs_in m (zs_f l i) (zs_l l i)) ∨ (w = 1 ∧ 0 < zo_ly l m i 1 m.length) ∨ (w = 0 ∧ 0 < zo_ly l m i 0 m.length))) : ∀ (n i : Nat) (s : Int), i + n = l.length → s = zn (fun i => zi (F i)) i → l_259_45 xs L (d + 8) (u : Int) (v : Int) w s (i : Int) J K P
  | n, i, s, hn, hs' => by
    have h60 := hg.1
    have h61 := hg2.1
    have hs := hr.1
    refine e_259_45 ⟨by omega, by omega, by simp only [Int.toNat_natCast]; omega, fun q => ?_, fun q => ?_⟩
    · simp only [Int.toNat_natCast] at q
      obtain rfl : i = l.length := by omega
      rw [hs', ← hF]
      exact h
    · simp only [Int.toNat_natCast] at q
      match n, hn with
      | 0, hn => omega
      | n + 1, hn =>
        have hi : i < l.length := by omega
        have hf := hF2 i hi
        have r0 := zo_ly_r (l := l) (m := m) (i := i) (t := 0) m.length
        have r1 := zo_ly_r (l := l) (m := m) (i := i) (t := 1) m.length
        have yes : F i → l_259_45 xs L (d + 8) (u : Int) (v : Int) w (s + 1) ((i : Int) + 1) J K P := fun q2 =>
          s_259_45 hw hu hv hg hg2 hr hr2 h F hF hF2 n (i + 1) _ (by omega) (by rw [zn, ← hs', zi_t q2])
        have no : ¬ F i → l_259_45 xs L (d + 8) (u : Int) (v : Int) w (s + 0) ((i : Int) + 1) J K P := fun q2 =>
          s_259_45 hw hu hv hg hg2 hr hr2 h F hF hF2 n (i + 1) _ (by omega) (by rw [zn, ← hs', zi_f q2])
        refine ⟨by omega, fun q2 => ⟨fun q3 => s_198 (by omega) hu hv hg hg2 hr hr2 hi ⟨by omega, fun q4 => no (fun q5 => ?_), fun q4 => yes (hf.mpr (.inr (.inr ⟨by omega, q4⟩)))⟩, fun q3 => s_198 (by omega) hu hv hg hg2 hr hr2 hi ⟨by omega, fun q4 => no (fun q5 => ?_), fun q4 => yes (hf.mpr (.inr (.inl ⟨q3, q4⟩)))⟩⟩, fun q2 => e_260 (s_260_3 hu hv hg hg2 hr hr2 hi (fun q4 => ⟨by omega, fun q5 => by omega, fun _ => yes (hf.mpr (.inl ⟨q2, q4⟩))⟩) (fun q4 => ⟨by omega, fun _ => no (fun q5 => ?_), fun q5 => by omega⟩) m.length 0 (by omega) (fun t ht => by omega))⟩
        · rcases hf.mp q5 with q6 | q6 | q6 <;> omega
        · rcases hf.mp q5 with q6 | q6 | q6 <;> omega
        · rcases hf.mp q5 with q6 | q6 | q6
          · exact q4 q6.2
          · omega
          · omega
theorem m_259 {xs : Nat → Int32} {L d : Nat} {J K : jZ} {P : Int → jZ → jZ → Prop} {T : zT} {A : zA} (hQ : mQ J T A) {a b w : Int} (ha : -2147483648 ≤ a ∧ a < 2147483648) (hb0 : -2147483648 ≤ b ∧ b < 2147483648) (hw : -2147483648 ≤ w ∧ w < 2147483648) (hb : ¬ ((0 ≤ a ∧ a < A.1) ∧ (0 ≤ b ∧ b < A.1) ∧ (0 ≤ w ∧ w ≤ 2)) → P (-2) (rM J 2) K) (h : (0 ≤ a ∧ a < A.1) ∧ (0 ≤ b ∧ b < A.1) ∧ (0 ≤ w ∧ w ≤ 2) → ∀ J', mF J J' → mQ J' T A → P (zq_ud w (zk_sem (-1) T A a.toNat) (zk_sem (-1) T A b.toNat)) J' K) : q_259 xs L (d + 9) a b w J K P := by
  have h24 := hQ.2.1.1
  have h1 := hQ.2.2.2.1.1
  have bad : ¬ ((0 ≤ a ∧ a < A.1) ∧ (0 ≤ b ∧ b < A.1) ∧ (0 ≤ w ∧ w ≤ 2)) → q_170 xs L (d + 8) (-2) J K (fun r J' K' => P r J' K') := fun q => s_170 (k := 2) (by omega) (by omega) (hb q)
  refine e_259 ⟨ha, by omega, fun q => ⟨hb0, fun q2 => ⟨hw, fun q3 => ?_, fun q3 => bad (by omega)⟩, fun q2 => bad (by omega)⟩, fun q => bad (by omega)⟩
  obtain ⟨k, rfl⟩ : ∃ k : Nat, a = (k : Int) := ⟨a.toNat, by omega⟩
  obtain ⟨j, rfl⟩ : ∃ j : Nat, b = (j : Int) := ⟨b.toNat, by omega⟩
  simp only [Int.toNat_natCast] at h
  have cs : w = 0 ∨ w = 1 ∨ w = 2 := by omega
  refine s_work hQ (fun J' f Q l => ?_)
  have fin := fun F hF hF2 => s_259_45 (xs := xs) (L := L) (d := d) (K := K) (P := P) (w := w) q3 (by omega) (by omega) (zS_gd hQ.1 hQ.2.1 (a := k) (by omega)).1 (zS_gd hQ.1 hQ.2.1 (a := j) (by omega)).1 (l k (by omega)) (l j (by omega)) (h (by omega) J' f Q) F hF hF2 (zk_sem (-1) T A k).length 0 0 (by omega) rfl
  rcases cs with rfl | rfl | rfl
  · refine fin (fun i => zo_tst 5 (zk_sem (-1) T A k) (zk_sem (-1) T A j) i) (by rw [zq_ud, if_neg (by omega), if_pos rfl]; rfl) (fun i hi => ?_)
    rw [zo_tst5]
    exact ⟨fun q4 => .inr (.inr ⟨rfl, q4⟩), fun q4 => by rcases q4 with q4 | q4 | q4 <;> first | omega | exact q4.2⟩
  · refine fin (fun i => zo_tst 7 (zk_sem (-1) T A k) (zk_sem (-1) T A j) i) (by rw [zq_ud, if_neg (by omega), if_neg (by omega)]; rfl) (fun i hi => ?_)
    rw [zo_tst7]
    exact ⟨fun q4 => .inr (.inl ⟨rfl, q4⟩), fun q4 => by rcases q4 with q4 | q4 | q4 <;> first | omega | exact q4.2⟩
  · refine fin (fun i => zs_in (zk_sem (-1) T A j) (zs_f (zk_sem (-1) T A k) i) (zs_l (zk_sem (-1) T A k) i)) (by rw [zq_ud, if_pos rfl]; rfl) (fun i hi => ?_)
    exact ⟨fun q4 => .inl ⟨rfl, q4⟩, fun q4 => by rcases q4 with q4 | q4 | q4 <;> first | exact q4.2 | omega⟩
-- alike, same
theorem c_138 {xs : Nat → Int32} {L d : Nat} {J K : jZ} {P : Int → jZ → jZ → Prop} {T : zT} {A : zA} (hQ : cQ J T A) {a b : Int} (ha : -2147483648 ≤ a ∧ a < 2147483648) (hb0 : -2147483648 ≤ b ∧ b < 2147483648) (hb : ¬ ((0 ≤ a ∧ a < A.1) ∧ (0 ≤ b ∧ b < A.1)) → P (-2) (rC J 0) K) (h : (0 ≤ a ∧ a < A.1) ∧ (0 ≤ b ∧ b < A.1) → ∀ J', cF J J' → cQ J' T A → P (zs_un (zk_sem (-1) T A a.toNat) (zk_sem (-1) T A b.toNat)) J' K) : q_138 xs L (d + 7) a b J K P := by
  have h24 := hQ.2.1.1
  have h1 := hQ.2.2.2.1.1
  refine e_138 ⟨ha, by omega, fun q => ⟨hb0, fun q2 => ?_, fun q2 => s_13 (k := 0) (by omega) (by omega) (hb (by omega))⟩, fun q => s_13 (k := 0) (by omega) (by omega) (hb (by omega))⟩
  obtain ⟨k, rfl⟩ : ∃ k : Nat, a = (k : Int) := ⟨a.toNat, by omega⟩
  obtain ⟨j, rfl⟩ : ∃ j : Nat, b = (j : Int) := ⟨b.toNat, by omega⟩
  simp only [Int.toNat_natCast] at h
  exact s_of hQ (by omega) (fun J1 f1 _ Q1 _ l1 => ⟨jz_e62 (by omega), s_of Q1 (by omega) (fun J2 f2 _ Q2 k2 l2 => ⟨jz_e62 (by omega), s_139 (jz_e62 (by omega)) (jz_e62 (by omega)) (k2 k l1.1).2 (zS_gd hQ.1 hQ.2.1 (by omega)).1 l2.2 (zS_gd hQ.1 hQ.2.1 (by omega)).1 (h (by omega) J2 (cF_tr f1 f2) Q2)⟩)⟩)
theorem s_262_2 {xs : Nat → Int32} {L d : Nat} {J K : jZ} {P : Int → jZ → jZ → Prop} {u v : Nat} {l m : zL} (hu : u < 27) (hv : v < 27) (hg : zs_ok l) (hg2 : zs_ok m) (hr : zm_at J u l) (hr2 : zm_at J v m) (h : P (zs_un l m) J K) : ∀ (n k : Nat), k + n = min l.length m.length → zs_un l m = zs_unr l m (zn_fd (zs_df l m) n k) → l_262_2 xs L (d + 2) (u : Int) (v : Int) (k : Int) J K P
  | n, k, hn, hz => by
    have h60 := hg.1
    have h61 := hg2.1
    have hs := hr.1
    have hs2 := hr2.1
    have stop : (k < l.length ∨ k < m.length → P (k : Int) J K) → (¬ (k < l.length ∨ k < m.length) → P (-1) J K) → l_262_43 xs L (d + 2) (u : Int) (v : Int) (k : Int) J K P := fun p1 p2 => by
      refine e_262_43 ?_
      simp only [Int.toNat_natCast]
      rw [hs, hs2]
      exact ⟨by omega, by omega, by omega, fun q => e_262_63 (p1 (by omega)), fun q => ⟨by omega, by omega, fun q2 => p2 (by omega), fun q2 => e_262_63 (p1 (by omega))⟩⟩
    refine e_262_2 ?_
    simp only [Int.toNat_natCast]
    rw [hs, hs2]
    have atend : n = 0 → l_262_43 xs L (d + 2) (u : Int) (v : Int) (k : Int) J K P := fun hn0 => by
      subst hn0
      rw [zn_fd, zs_unr, if_pos rfl] at hz
      rw [hz] at h
      refine stop (fun q => ?_) (fun q => ?_)
      · rw [if_neg (by omega), show min l.length m.length = k by omega] at h
        exact h
      · rw [if_pos (by omega)] at h
        exact h
    refine ⟨by omega, by omega, by omega, fun q => atend (by omega), fun q => ⟨by omega, by omega, fun q2 => atend (by omega), fun q2 => ?_⟩⟩
    match n, hn, hz with
    | 0, hn, hz => omega
    | n + 1, hn, hz =>
      have k1 := zm_b hr hg (show k < l.length by omega)
      have k2 := zm_b hr2 hg2 (show k < m.length by omega)
      rw [zm_idx, zm_idx, k1.1, k1.2.1, k2.1, k2.2.1]
      refine ⟨by omega, by omega, by omega, by omega, fun q3 => ?_, fun q3 => ?_⟩
      · rw [zn_fd_t (by unfold zs_df zs_t; simp [q3]), zs_unr, if_neg (by omega)] at hz
        rw [hz] at h
        exact stop (fun _ => h) (fun q4 => by omega)
      · refine s_262_2 hu hv hg hg2 hr hr2 h n (k + 1) (by omega) ?_
        rw [hz, zn_fd_f (by unfold zs_df zs_t; simp [q3])]
theorem s_262 {xs : Nat → Int32} {L d : Nat} {J K : jZ} {P : Int → jZ → jZ → Prop} {u v : Nat} {l m : zL} (hu : u < 27) (hv : v < 27) (hg : zs_ok l) (hg2 : zs_ok m) (hr : zm_at J u l) (hr2 : zm_at J v m) (h : P (zs_un l m) J K) : q_262 xs L (d + 3) (u : Int) (v : Int) J K P :=
  e_262 (s_262_2 hu hv hg hg2 hr hr2 h (min l.length m.length) 0 (by omega) rfl)
theorem zs_un_r (l m : zL) (hg : zs_ok l) : -1 ≤ zs_un l m ∧ zs_un l m ≤ 60 := by
  have b1 := zn_fd_pos (c := zs_df l m) (min l.length m.length) 0
  have b2 := zn_fd_lt (c := zs_df l m) (min l.length m.length) 0
  have := hg.1
  unfold zs_un zs_unr
  repeat' split
  all_goals omega
theorem zs_un_self (l : zL) : zs_un l l = -1 := by
  have : ∀ n k : Nat, zn_fd (zs_df l l) n k = -1 := by
    intro n
    induction n with
    | zero => exact fun _ => rfl
    | succ n ih =>
      intro k
      rw [zn_fd_f (by unfold zs_df; simp)]
      exact ih (k + 1)
  unfold zs_un zs_unr
  rw [this, if_pos rfl, if_pos rfl]
theorem m_261 {xs : Nat → Int32} {L d : Nat} {J K : jZ} {P : Int → jZ → jZ → Prop} {T : zT} {A : zA} (hQ : mQ J T A) {a b : Int} (ha : -2147483648 ≤ a ∧ a < 2147483648) (hb0 : -2147483648 ≤ b ∧ b < 2147483648) (hb : ¬ ((0 ≤ a ∧ a < A.1) ∧ (0 ≤ b ∧ b < A.1)) → P (-2) (rM J 2) K) (h : (0 ≤ a ∧ a < A.1) ∧ (0 ≤ b ∧ b < A.1) → ∀ J', mF J J' → mQ J' T A → P (zs_un (zk_sem (-1) T A a.toNat) (zk_sem (-1) T A b.toNat)) J' K) : q_261 xs L (d + 9) a b J K P := by
  have h24 := hQ.2.1.1
  have h1 := hQ.2.2.2.1.1
  refine e_261 ⟨ha, by omega, fun q => ⟨hb0, fun q2 => ?_, fun q2 => s_170 (k := 2) (by omega) (by omega) (hb (by omega))⟩, fun q => s_170 (k := 2) (by omega) (by omega) (hb (by omega))⟩
  obtain ⟨k, rfl⟩ : ∃ k : Nat, a = (k : Int) := ⟨a.toNat, by omega⟩
  obtain ⟨j, rfl⟩ : ∃ j : Nat, b = (j : Int) := ⟨b.toNat, by omega⟩
  simp only [Int.toNat_natCast] at h
  exact s_work hQ (fun J' f Q l => s_262 (by omega) (by omega) (zS_gd hQ.1 hQ.2.1 (by omega)).1 (zS_gd hQ.1 hQ.2.1 (by omega)).1 (l k (by omega)) (l j (by omega)) (h (by omega) J' f Q))
/-- the least number of an ask with the same list: r -/
def zq_sm (T : zT) (A : zA) (a r : Nat) : Prop := r ≤ a ∧ zs_un (zk_sem (-1) T A r) (zk_sem (-1) T A a) = -1 ∧ ∀ j, j < r → ¬ zs_un (zk_sem (-1) T A j) (zk_sem (-1) T A a) = -1
theorem s_140_29 {xs : Nat → Int32} {L d : Nat} {K : jZ} {P : Int → jZ → jZ → Prop} {T : zT} {A : zA} {a : Nat} (ha : a < A.1) : ∀ (n i : Nat) (J : jZ), i + n = a → cQ J T A → cL J T A a → (∀ j, j < i → ¬ zs_un (zk_sem (-1) T A j) (zk_sem (-1) T A a) = -1) → (∀ J' r, cF J J' → cQ J' T A → zq_sm T A a r → P (r : Int) J' K) → l_140_29 xs L (d + 6) (a : Int) (68 + 3 * a) (i : Int) J K P
  | n, i, J, hn, hQ, hl, hi, h => by
    have h24 := hQ.2.1.1
    refine e_140_29 (jz_e62 (by omega)) ⟨by omega, by omega, fun q => ?_, fun q => ?_⟩
    · obtain rfl : i = a := by omega
      exact h J i cF_rfl hQ ⟨Nat.le_refl _, zs_un_self _, hi⟩
    · match n, hn with
      | 0, hn => omega
      | n + 1, hn =>
        have hb := zs_un_r (zk_sem (-1) T A i) (zk_sem (-1) T A a) (zS_gd hQ.1 hQ.2.1 (by omega)).1
        refine s_of hQ (by omega) (fun J1 f1 _ Q1 k1 l1 => ⟨jz_e62 (by omega), s_139 (jz_e62 (by omega)) (jz_e62 (by omega)) l1.2 (zS_gd hQ.1 hQ.2.1 (by omega)).1 (k1 a hl.1).2 (zS_gd hQ.1 hQ.2.1 (by omega)).1 ⟨by omega, fun q2 => ?_, fun q2 => ?_⟩⟩)
        · refine s_140_29 ha n (i + 1) J1 (by omega) Q1 (k1 a hl.1) (fun j hj => ?_) (fun J' r f => h J' r (cF_tr f1 f))
          by_cases c : j = i
          · subst c
            exact q2
          · exact hi j (by omega)
        · exact h J1 i f1 Q1 ⟨by omega, q2, hi⟩
theorem c_140 {xs : Nat → Int32} {L d : Nat} {J K : jZ} {P : Int → jZ → jZ → Prop} {T : zT} {A : zA} (hQ : cQ J T A) {a : Int} (ha : -2147483648 ≤ a ∧ a < 2147483648) (hb : ¬ (0 ≤ a ∧ a < A.1) → P (-2) (rC J 0) K) (h : 0 ≤ a ∧ a < A.1 → ∀ J' r, cF J J' → cQ J' T A → zq_sm T A a.toNat r → P (r : Int) J' K) : q_140 xs L (d + 7) a J K P := by
  have h24 := hQ.2.1.1
  have h1 := hQ.2.2.2.1.1
  refine e_140 ⟨ha, by omega, fun q => ?_, fun q => s_13 (k := 0) (by omega) (by omega) (hb (by omega))⟩
  obtain ⟨k, rfl⟩ : ∃ k : Nat, a = (k : Int) := ⟨a.toNat, by omega⟩
  rw [Int.toNat_natCast] at h
  exact s_of hQ (by omega) (fun J1 f1 _ Q1 _ l1 => ⟨jz_e62 (by omega), s_140_29 (by omega) k 0 J1 (by omega) Q1 l1 (fun j hj => by omega) (fun J' r f => h (by omega) J' r (cF_tr f1 f))⟩)
theorem s_263_21 {xs : Nat → Int32} {L d : Nat} {J K : jZ} {P : Int → jZ → jZ → Prop} {T : zT} {A : zA} {a : Nat} (ha : a < A.1) (hT : zt_ok T) (hA : zA_ok A) (hl : mL_at J (-1) T A A.1) (h : ∀ r, zq_sm T A a r → P (r : Int) J K) : ∀ (n i : Nat), i + n = a → (∀ j, j < i → ¬ zs_un (zk_sem (-1) T A j) (zk_sem (-1) T A a) = -1) → l_263_21 xs L (d + 8) (a : Int) (i : Int) J K P
  | n, i, hn, hi => by
    have h24 := hA.1
    have hb := zs_un_r (zk_sem (-1) T A i) (zk_sem (-1) T A a) (zS_gd hT hA (by omega)).1
    refine e_263_21 (s_262 (by omega) (by omega) (zS_gd hT hA (by omega)).1 (zS_gd hT hA (by omega)).1 (hl i (by omega)) (hl a (by omega)) ⟨by omega, fun q => h i ⟨by omega, q, hi⟩, fun q => ?_⟩)
    match n, hn with
    | 0, hn =>
      obtain rfl : i = a := by omega
      exact absurd (zs_un_self _) q
    | n + 1, hn =>
      refine s_263_21 ha hT hA hl h n (i + 1) (by omega) (fun j hj => ?_)
      by_cases c : j = i
      · subst c
        exact q
      · exact hi j (by omega)
theorem m_263 {xs : Nat → Int32} {L d : Nat} {J K : jZ} {P : Int → jZ → jZ → Prop} {T : zT} {A : zA} (hQ : mQ J T A) {a : Int} (ha : -2147483648 ≤ a ∧ a < 2147483648) (hb : ¬ (0 ≤ a ∧ a < A.1) → P (-2) (rM J 2) K) (h : 0 ≤ a ∧ a < A.1 → ∀ J' r, mF J J' → mQ J' T A → zq_sm T A a.toNat r → P (r : Int) J' K) : q_263 xs L (d + 9) a J K P := by
  have h24 := hQ.2.1.1
  have h1 := hQ.2.2.2.1.1
  refine e_263 ⟨ha, by omega, fun q => ?_, fun q => s_170 (k := 2) (by omega) (by omega) (hb (by omega))⟩
  obtain ⟨k, rfl⟩ : ∃ k : Nat, a = (k : Int) := ⟨a.toNat, by omega⟩
  rw [Int.toNat_natCast] at h
  exact s_work hQ (fun J' f Q l => s_263_21 (by omega) hQ.1 hQ.2.1 l (fun r hr => h (by omega) J' r f Q hr) k 0 (by omega) (fun j hj => by omega))
theorem zq_sm_u {T : zT} {A : zA} {a r s : Nat} (h : zq_sm T A a r) (h2 : zq_sm T A a s) : r = s := by
  by_cases q : r < s
  · exact absurd h.2.1 (h2.2.2 r q)
  · by_cases q2 : s < r
    · exact absurd h2.2.1 (h.2.2 s q2)
    · omega
