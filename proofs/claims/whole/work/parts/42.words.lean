/-! Inside; what a word does. -/
theorem jz_or_0 {v : Int} (h : -2147483648 ≤ v ∧ v < 2147483648) : jz_or v 0 = v := zb_ext jz_or_r h (fun j _ => by
  rw [zb_or]
  exact ⟨fun q => q.elim id (fun q => absurd q zb_0), .inl⟩)
/-- numbers below n of which c holds, as bits -/
noncomputable def zq_bs (c : Nat → Prop) : Nat → Int
  | 0 => 0
  | k + 1 => @ite _ (c k) (Classical.propDecidable _) (jz_or (zq_bs c k) (jz_shl 1 k)) (zq_bs c k)
theorem zq_bs_r (c : Nat → Prop) : ∀ k : Nat, -2147483648 ≤ zq_bs c k ∧ zq_bs c k < 2147483648
  | 0 => by simp [zq_bs]
  | k + 1 => by
    have := zq_bs_r c k
    unfold zq_bs
    split
    · exact jz_or_r
    · exact this
theorem zq_bs_t {c : Nat → Prop} {k : Nat} (h : c k) : zq_bs c (k + 1) = jz_or (zq_bs c k) (jz_shl 1 k) := by
  rw [zq_bs, if_pos h]
theorem zq_bs_f {c : Nat → Prop} {k : Nat} (h : ¬ c k) : zq_bs c (k + 1) = zq_bs c k := by
  rw [zq_bs, if_neg h]
theorem zq_bs_c {c e : Nat → Prop} : ∀ k : Nat, (∀ j, j < k → (c j ↔ e j)) → zq_bs c k = zq_bs e k
  | 0, _ => rfl
  | k + 1, h => by
    have ih := zq_bs_c k (fun j hj => h j (by omega))
    by_cases q : c k
    · rw [zq_bs_t q, zq_bs_t ((h k (by omega)).mp q), ih]
    · rw [zq_bs_f q, zq_bs_f (fun q2 => q ((h k (by omega)).mpr q2)), ih]
/-- ask j's spans all lie in one of ask a's -/
def zq_in (T : zT) (A : zA) (a j : Nat) : Prop := ∀ i, i < (zk_sem (-1) T A j).length → zo_tst 5 (zk_sem (-1) T A j) (zk_sem (-1) T A a) i
theorem s_141_32 {xs : Nat → Int32} {L d : Nat} {K : jZ} {P : Int → jZ → jZ → Prop} {T : zT} {A : zA} {a : Nat} (ha : a < A.1) : ∀ (n j : Nat) (v : Int) (J : jZ), j + n = A.1 → v = zq_bs (zq_in T A a) j → cQ J T A → cL J T A a → (∀ J', cF J J' → cQ J' T A → P (zq_bs (zq_in T A a) A.1) J' K) → l_141_32 xs L (d + 6) (68 + 3 * a) v (j : Int) J K P
  | n, j, v, J, hn, hv, hQ, hl, h => by
    have h24 := hQ.2.1.1
    have h1 := hQ.2.2.2.1.1
    refine e_141_32 (jz_e62 (by omega)) ⟨by omega, by omega, fun q => ?_, fun q => ?_⟩
    · obtain rfl : j = A.1 := by omega
      rw [hv]
      exact h J cF_rfl hQ
    · match n, hn with
      | 0, hn => omega
      | n + 1, hn =>
        have g1 := zS_gd hQ.1 hQ.2.1 (a := j) (by omega)
        have g2 := zS_gd hQ.1 hQ.2.1 (a := a) (by omega)
        have g60 := g1.1.1
        refine s_of hQ (by omega) (fun J1 f1 _ Q1 k1 l1 => ⟨jz_e62 (by omega), s_53 (by omega) hQ.1.1 Q1.2.2.1.1 Q1.2.2.2.2.2.2.1 (jz_e62 (by omega)) (jz_e62 (by omega)) rfl (by omega) (by omega) (by omega) g1.1 g2.1 g1.2 g2.2 l1.2 (k1 a hl.1).2 (fun J2 l2 f2 r2 i2 => ?_)⟩)
        have M := cQ_made Q1 f2
        have cn := zp_cnt (by omega) g1.1 i2
        have cr := zq_cn_r 5 (zk_sem (-1) T A j) (zk_sem (-1) T A a)
        have b2 : J2 61 5 = J1 61 5 := by rw [f2 61 (by omega) (by omega)]
        have la : cL J2 T A a := ⟨by rw [b2]; exact (k1 a hl.1).1, (M.2.2.2.2.2.2.2.2 a (by rw [b2]; exact (k1 a hl.1).1)).2⟩
        rw [r2.1, cn, f2 (68 + 3 * j) (by omega) (by omega), l1.2.1]
        have key := zq_cn_all (k := 5) (l := zk_sem (-1) T A j) (m := zk_sem (-1) T A a)
        refine ⟨by omega, by omega, fun q2 => ?_, fun q2 => ?_⟩
        · exact s_141_32 ha n (j + 1) v J2 (by omega) (by rw [zq_bs_f (fun q3 => q2 (key.mpr q3))]; exact hv) M.2 la (fun J' f => h J' (cF_tr f1 (cF_tr M.1 f)))
        · exact s_141_32 ha n (j + 1) _ J2 (by omega) (by rw [zq_bs_t (key.mp q2), hv]) M.2 la (fun J' f => h J' (cF_tr f1 (cF_tr M.1 f)))
theorem c_141 {xs : Nat → Int32} {L d : Nat} {J K : jZ} {P : Int → jZ → jZ → Prop} {T : zT} {A : zA} (hQ : cQ J T A) {a : Int} (ha : -2147483648 ≤ a ∧ a < 2147483648) (hb : ¬ (0 ≤ a ∧ a < A.1) → P (-2) (rC J 0) K) (h : 0 ≤ a ∧ a < A.1 → ∀ J', cF J J' → cQ J' T A → P (zq_bs (zq_in T A a.toNat) A.1) J' K) : q_141 xs L (d + 7) a J K P := by
  have h24 := hQ.2.1.1
  have h1 := hQ.2.2.2.1.1
  refine e_141 ⟨ha, by omega, fun q => ?_, fun q => s_13 (k := 0) (by omega) (by omega) (hb (by omega))⟩
  obtain ⟨k, rfl⟩ : ∃ k : Nat, a = (k : Int) := ⟨a.toNat, by omega⟩
  rw [Int.toNat_natCast] at h
  exact s_of hQ (by omega) (fun J1 f1 _ Q1 _ l1 => ⟨jz_e62 (by omega), s_141_32 (by omega) A.1 0 0 J1 (by omega) rfl Q1 l1 (fun J' f => h (by omega) J' (cF_tr f1 f))⟩)
theorem s_265_2 {xs : Nat → Int32} {L d : Nat} {J K : jZ} {P : Int → jZ → jZ → Prop} {u v : Nat} {l m : zL} (hu : u < 27) (hv : v < 27) (hg : zs_ok l) (hg2 : zs_ok m) (hr : zm_at J u l) (hr2 : zm_at J v m) (h1 : (∀ i, i < l.length → zo_tst 5 l m i) → P 1 J K) (h0 : (¬ ∀ i, i < l.length → zo_tst 5 l m i) → P 0 J K) : ∀ (n i : Nat), i + n = l.length → (∀ t, t < i → zo_tst 5 l m t) → l_265_2 xs L (d + 3) (u : Int) (v : Int) (i : Int) J K P
  | n, i, hn, hi => by
    have h60 := hg.1
    have h61 := hg2.1
    have hs := hr.1
    refine e_265_2 ⟨by omega, by omega, by simp only [Int.toNat_natCast]; omega, fun q => ?_, fun q => ?_⟩
    · simp only [Int.toNat_natCast] at q
      exact h1 (fun t ht => hi t (by omega))
    · simp only [Int.toNat_natCast] at q
      match n, hn with
      | 0, hn => omega
      | n + 1, hn =>
        have r0 := zo_ly_r (l := l) (m := m) (i := i) (t := 0) m.length
        have key := zo_tst5 (l := l) (m := m) (i := i)
        refine s_198 (by omega) hu hv hg hg2 hr hr2 (by omega) ⟨by omega, fun q2 => s_265_2 hu hv hg hg2 hr hr2 h1 h0 n (i + 1) (by omega) (fun t ht => ?_), fun q2 => h0 (fun q3 => ?_)⟩
        · by_cases c : t = i
          · subst c
            exact key.mpr (by omega)
          · exact hi t (by omega)
        · have := key.mp (q3 i (by omega))
          omega
theorem s_264_23 {xs : Nat → Int32} {L d : Nat} {J K : jZ} {P : Int → jZ → jZ → Prop} {T : zT} {A : zA} {a : Nat} (ha : a < A.1) (hT : zt_ok T) (hA : zA_ok A) (h10 : J 167 10 = (A.1 : Int)) (hl : mL_at J (-1) T A A.1) (h : P (zq_bs (zq_in T A a) A.1) J K) : ∀ (n j : Nat) (v : Int), j + n = A.1 → v = zq_bs (zq_in T A a) j → l_264_23 xs L (d + 8) (a : Int) v (j : Int) J K P
  | n, j, v, hn, hv => by
    have h24 := hA.1
    refine e_264_23 ⟨by omega, by omega, fun q => ?_, fun q => ?_⟩
    · obtain rfl : j = A.1 := by omega
      rw [hv]
      exact h
    · match n, hn with
      | 0, hn => omega
      | n + 1, hn =>
        refine e_265 (s_265_2 (by omega) (by omega) (zS_gd hT hA (by omega)).1 (zS_gd hT hA (by omega)).1 (hl j (by omega)) (hl a (by omega)) (fun q2 => ⟨by omega, fun q3 => by omega, fun _ => ?_⟩) (fun q2 => ⟨by omega, fun _ => ?_, fun q3 => by omega⟩) (zk_sem (-1) T A j).length 0 (by omega) (fun t ht => by omega))
        · exact s_264_23 ha hT hA h10 hl h n (j + 1) _ (by omega) (by rw [zq_bs_t q2, hv])
        · exact s_264_23 ha hT hA h10 hl h n (j + 1) _ (by omega) (by rw [zq_bs_f q2, hv, jz_or_0 (zq_bs_r _ _)])
theorem m_264 {xs : Nat → Int32} {L d : Nat} {J K : jZ} {P : Int → jZ → jZ → Prop} {T : zT} {A : zA} (hQ : mQ J T A) {a : Int} (ha : -2147483648 ≤ a ∧ a < 2147483648) (hb : ¬ (0 ≤ a ∧ a < A.1) → P (-2) (rM J 2) K) (h : 0 ≤ a ∧ a < A.1 → ∀ J', mF J J' → mQ J' T A → P (zq_bs (zq_in T A a.toNat) A.1) J' K) : q_264 xs L (d + 9) a J K P := by
  have h24 := hQ.2.1.1
  have h1 := hQ.2.2.2.1.1
  refine e_264 ⟨ha, by omega, fun q => ?_, fun q => s_170 (k := 2) (by omega) (by omega) (hb (by omega))⟩
  obtain ⟨k, rfl⟩ : ∃ k : Nat, a = (k : Int) := ⟨a.toNat, by omega⟩
  rw [Int.toNat_natCast] at h
  exact s_work hQ (fun J' f Q l => s_264_23 (by omega) hQ.1 hQ.2.1 Q.2.2.2.1.1 l (h (by omega) J' f Q) A.1 0 0 (by omega) rfl)
-- words
noncomputable def zq_wo (T : zT) (A : zA) (a : Nat) (w : Int) (k : Nat) : Prop := (w = 0 ∧ (zk_sem (k : Int) T A a).length = 0) ∨ (w = 1 ∧ (zk_sem (-1) T A a).length < (zk_sem (k : Int) T A a).length) ∨ (w = 2 ∧ (zk_sem (k : Int) T A a).length < (zk_sem (-1) T A a).length)
theorem cQ_61 {J : jZ} {T : zT} {A : zA} (hQ : cQ J T A) (hT : zt_ok T) {J' : jZ} (hf : ∀ x, x ≠ 61 → J' x = J x) (hw : J' 61 6 = -1) (hk : J' 61 5 = 0) : cQ J' T A := by
  obtain ⟨a1, a2, a3, a4, a5, a6, a7, a8⟩ := hQ
  have h24 := a2.1
  exact ⟨a1, a2, zt_of a3 (by rw [hf 1 (by omega)]) (hf _ (by omega)) (hf _ (by omega)) (hf _ (by omega)), zA_at_of a4 h24 (fun x _ _ => hf x (by omega)), zA_rc_of a5 h24 (fun x _ _ => hf x (by omega)), hw, ⟨by rw [hf 63 (by omega)]; exact a7.1, fun k hk => by simp at hk⟩, fun j hj => by rw [hk] at hj; exact absurd hj zb_0⟩
theorem s_143 {xs : Nat → Int32} {L d : Nat} {J K : jZ} {P : Int → jZ → jZ → Prop} {T : zT} {A : zA} {a : Nat} {w : Int} (hQ : cQ J T A) (ha : a < A.1) (hw : 0 ≤ w ∧ w < 16) (h : ∀ J', cF J J' ∨ True → (∀ x, x ≠ 61 → x ≠ 67 → x < 68 ∨ 140 ≤ x → J' x = J x) → (∀ k, k ≠ 5 → J' 61 k = J 61 k) → cQ J' T A → P ((zk_sem w T A a).length : Int) J' K) : q_143 xs L (d + 7) (a : Int) w J K P := by
  have hQ' := hQ
  obtain ⟨a1, a2, a3, a4, a5, a6, a7, a8⟩ := hQ
  have h24 := a2.1
  refine e_143 (s_32 a1 a2 (wo := w) (by omega) ha (zt_of a3 (by rw [zu_ne (by omega), zu_ne (by omega)]) (by rw [zu_row (by omega), zu_row (by omega)]) (by rw [zu_row (by omega), zu_row (by omega)]) (by rw [zu_row (by omega), zu_row (by omega)])) (zA_at_of a4 h24 (fun x _ _ => by rw [zu_row (by omega), zu_row (by omega)])) (zA_rc_of a5 h24 (fun x _ _ => by rw [zu_row (by omega), zu_row (by omega)])) (by rw [zu_ne (by omega), zu_self]) ⟨by rw [zu_ne (by omega), zu_ne (by omega)]; exact a7.1, fun k hk => by simp at hk⟩ (fun j hj => by rw [zu_self] at hj; exact absurd hj zb_0) (fun J1 f1 k1 g1 b1 r1 => ⟨jz_e62 (by omega), ?_⟩))
  rw [r1.1]
  have f : ∀ x, x ≠ 61 → x ≠ 67 → x < 68 ∨ 140 ≤ x → J1 x = J x := fun x x1 x2 x3 => by rw [f1.1 x x1 x2 x3, zu_row x1, zu_row x1]
  have e : ∀ k, k ≠ 5 → k ≠ 6 → J1 61 k = J 61 k := fun k h1 h2 => by rw [f1.2 k h1, zu_ne (by omega), zu_ne (by omega)]
  refine h _ (.inr trivial) (fun x x1 x2 x3 => by rw [zu_row x1, zu_row x1, f x x1 x2 x3]) (fun k hk => ?_) ?_
  · rw [zu_ne (by omega)]
    by_cases c : k = 6
    · subst c
      rw [zu_self, a6]
    · rw [zu_ne (by omega), e k hk c]
  · have z1 := a1
    refine ⟨a1, a2, zt_of a3 (by rw [zu_ne (by omega), zu_ne (by omega), f 1 (by omega) (by omega) (by omega)]) (by rw [zu_row (by omega), zu_row (by omega), f _ (by omega) (by omega) (by omega)]) (by rw [zu_row (by omega), zu_row (by omega), f _ (by omega) (by omega) (by omega)]) (by rw [zu_row (by omega), zu_row (by omega), f _ (by omega) (by omega) (by omega)]), zA_at_of a4 h24 (fun x _ _ => by rw [zu_row (by omega), zu_row (by omega), f x (by omega) (by omega) (by omega)]), zA_rc_of a5 h24 (fun x _ _ => by rw [zu_row (by omega), zu_row (by omega), f x (by omega) (by omega) (by omega)]), by rw [zu_ne (by omega), zu_self], ⟨by rw [zu_ne (by omega), zu_ne (by omega), f 63 (by omega) (by omega) (by omega)]; exact a7.1, fun k hk => by simp at hk⟩, fun j hj => by rw [zu_self] at hj; exact absurd hj zb_0⟩
theorem zk_sem_len {wo : Int} {T : zT} {A : zA} (hT : zt_ok T) (hA : zA_ok A) {a : Nat} (ha : a < A.1) : (zk_sem wo T A a).length ≤ 60 := (zk_sem_gd hT hA a ha).2.1.1
theorem s_142_45 {xs : Nat → Int32} {L d : Nat} {K : jZ} {P : Int → jZ → jZ → Prop} {T : zT} {A : zA} {a : Nat} {w : Int} (hw : 0 ≤ w ∧ w ≤ 2) (ha : a < A.1) : ∀ (n k : Nat) (v : Int) (J : jZ), k + n = 16 → v = zq_bs (zq_wo T A a w) k → cQ J T A → (∀ J', cF J J' → cQ J' T A → P (zq_bs (zq_wo T A a w) 16) J' K) → l_142_45 xs L (d + 7) (a : Int) w ((zk_sem (-1) T A a).length : Int) v (k : Int) J K P
  | n, k, v, J, hn, hv, hQ, h => by
    have h24 := hQ.2.1.1
    refine e_142_45 ⟨by omega, fun q => ?_, fun q => ?_⟩
    · obtain rfl : k = 16 := by omega
      rw [hv]
      exact h J cF_rfl hQ
    · match n, hn with
      | 0, hn => omega
      | n + 1, hn =>
        have b1 := zk_sem_len (wo := (k : Int)) hQ.1 hQ.2.1 ha
        have b2 := zk_sem_len (wo := -1) hQ.1 hQ.2.1 ha
        refine s_143 hQ ha (by omega) (fun J1 _ f1 f2 Q1 => ?_)
        have F1 : cF J J1 := ⟨fun x x1 x2 x3 => f1 x x1 x2 (by omega), f2⟩
        have yes : zq_wo T A a w k → l_142_113 xs L (d + 7) (a : Int) w ((zk_sem (-1) T A a).length : Int) v (k : Int) 1 J1 K P := fun q2 =>
          e_142_113 ⟨by omega, fun q3 => by omega, fun _ => s_142_45 hw ha n (k + 1) _ J1 (by omega) (by rw [zq_bs_t q2, hv]) Q1 (fun J' f => h J' (cF_tr F1 f))⟩
        have no : ¬ zq_wo T A a w k → l_142_113 xs L (d + 7) (a : Int) w ((zk_sem (-1) T A a).length : Int) v (k : Int) 0 J1 K P := fun q2 =>
          e_142_113 ⟨by omega, fun _ => s_142_45 hw ha n (k + 1) _ J1 (by omega) (by rw [zq_bs_f q2, hv]) Q1 (fun J' f => h J' (cF_tr F1 f)), fun q3 => by omega⟩
        have dec : zq_wo T A a w k ↔ (w = 0 ∧ (zk_sem (k : Int) T A a).length = 0) ∨ (w = 1 ∧ (zk_sem (-1) T A a).length < (zk_sem (k : Int) T A a).length) ∨ (w = 2 ∧ (zk_sem (k : Int) T A a).length < (zk_sem (-1) T A a).length) := Iff.rfl
        exact ⟨by omega, fun q2 => ⟨fun q3 => ⟨by omega, by omega, fun q4 => no (fun q5 => by have := dec.mp q5; omega), fun q4 => yes (dec.mpr (by omega))⟩, fun q3 => ⟨by omega, by omega, fun q4 => no (fun q5 => by have := dec.mp q5; omega), fun q4 => yes (dec.mpr (by omega))⟩⟩, fun q2 => ⟨by omega, fun q4 => no (fun q5 => by have := dec.mp q5; omega), fun q4 => yes (dec.mpr (by omega))⟩⟩
theorem c_142 {xs : Nat → Int32} {L d : Nat} {J K : jZ} {P : Int → jZ → jZ → Prop} {T : zT} {A : zA} (hQ : cQ J T A) {a w : Int} (ha : -2147483648 ≤ a ∧ a < 2147483648) (hw : -2147483648 ≤ w ∧ w < 2147483648) (hb : ¬ ((0 ≤ a ∧ a < A.1) ∧ (0 ≤ w ∧ w ≤ 2)) → P (-2) (rC J 0) K) (h : (0 ≤ a ∧ a < A.1) ∧ (0 ≤ w ∧ w ≤ 2) → ∀ J', cF J J' → cQ J' T A → P (zq_bs (zq_wo T A a.toNat w) 16) J' K) : q_142 xs L (d + 8) a w J K P := by
  have h24 := hQ.2.1.1
  have h1 := hQ.2.2.2.1.1
  have bad : ¬ ((0 ≤ a ∧ a < A.1) ∧ (0 ≤ w ∧ w ≤ 2)) → q_13 xs L (d + 7) (-2) J K (fun r J' K' => P r J' K') := fun q => s_13 (k := 0) (by omega) (by omega) (hb q)
  refine e_142 ⟨ha, by omega, fun q => ⟨hw, fun q2 => bad (by omega), fun q2 => ⟨fun q3 => ?_, fun q3 => bad (by omega)⟩⟩, fun q => bad (by omega)⟩
  obtain ⟨k, rfl⟩ : ∃ k : Nat, a = (k : Int) := ⟨a.toNat, by omega⟩
  rw [Int.toNat_natCast] at h
  refine s_of hQ (by omega) (fun J1 f1 _ Q1 _ l1 => ⟨jz_e62 (by omega), ?_⟩)
  rw [l1.2.1]
  exact s_142_45 (by omega) (by omega) 16 0 0 J1 (by omega) rfl Q1 (fun J' f => h (by omega) J' (cF_tr f1 f))
theorem mF_182 {J J' : jZ} {T : zT} {A : zA} {w : Int} (hQ : mQ J T A) (hf : ∀ b, b ≠ 194 → b ≠ 195 → b ≠ 196 → b ≠ 197 → b ≠ 198 → J' b = jm_up J 167 37 w b) : (∀ x, x ≠ 167 → x < 194 ∨ 205 ≤ x → J' x = J x) ∧ (∀ k, k ≠ 37 → J' 167 k = J 167 k) ∧ J' 167 37 = w :=
  ⟨fun x x1 x2 => by rw [hf x (by omega) (by omega) (by omega) (by omega) (by omega), zu_row x1], fun k hk => by rw [hf 167 (by omega) (by omega) (by omega) (by omega) (by omega), zu_key hk], by rw [hf 167 (by omega) (by omega) (by omega) (by omega) (by omega), zu_self]⟩
theorem s_266_44 {xs : Nat → Int32} {L d : Nat} {K : jZ} {P : Int → jZ → jZ → Prop} {T : zT} {A : zA} {a : Nat} {w : Int} (hw : 0 ≤ w ∧ w ≤ 2) (ha : a < A.1) (hT : zt_ok T) (hA : zA_ok A) : ∀ (n k : Nat) (v : Int) (J : jZ), k + n = 16 → v = zq_bs (zq_wo T A a w) k → mT_at J T → mA_at J A → (∀ J', (∀ x, x ≠ 167 → x < 194 ∨ 205 ≤ x → J' x = J x) → (∀ k, k ≠ 37 → J' 167 k = J 167 k) → J' 167 37 = -1 → mL_at J' (-1) T A A.1 → P (zq_bs (zq_wo T A a w) 16) J' K) → l_266_44 xs L (d + 8) (a : Int) w ((zk_sem (-1) T A a).length : Int) v (k : Int) J K P
  | n, k, v, J, hn, hv, rT, rA, h => by
    have h24 := hA.1
    have up : ∀ z : Int, mT_at (jm_up J 167 37 z) T ∧ mA_at (jm_up J 167 37 z) A := fun z => ⟨mT_of rT (zu_key (by omega)) (zu_row (by omega)) (zu_row (by omega)) (zu_row (by omega)), mA_of rA (zu_key (by omega)) (zu_row (by omega)) (zu_row (by omega))⟩
    refine e_266_44 ⟨by omega, fun q => ?_, fun q => ?_⟩
    · obtain rfl : k = 16 := by omega
      refine s_182 hT hA (wo := -1) (by omega) (up (-1)).1 (up (-1)).2 zu_self (fun J' f l => ?_)
      rw [hv]
      exact h J' (fun x x1 x2 => by rw [f x (by omega) (by omega) (by omega) (by omega) (by omega), zu_row x1]) (fun k hk => by rw [f 167 (by omega) (by omega) (by omega) (by omega) (by omega), zu_key hk]) (by rw [f 167 (by omega) (by omega) (by omega) (by omega) (by omega), zu_self]) l
    · match n, hn with
      | 0, hn => omega
      | n + 1, hn =>
        have b1 := zk_sem_len (wo := (k : Int)) hT hA ha
        have b2 := zk_sem_len (wo := -1) hT hA ha
        refine s_182 hT hA (wo := (k : Int)) (by omega) (up k).1 (up k).2 zu_self (fun J1 f l => ?_)
        have f1 : ∀ x, x ≠ 167 → x < 194 ∨ 205 ≤ x → J1 x = J x := fun x x1 x2 => by rw [f x (by omega) (by omega) (by omega) (by omega) (by omega), zu_row x1]
        have f2 : ∀ k, k ≠ 37 → J1 167 k = J 167 k := fun k hk => by rw [f 167 (by omega) (by omega) (by omega) (by omega) (by omega), zu_key hk]
        rw [Int.toNat_natCast, (l a ha).1]
        have next : ∀ v', v' = zq_bs (zq_wo T A a w) (k + 1) → l_266_44 xs L (d + 8) (a : Int) w ((zk_sem (-1) T A a).length : Int) v' ((k : Int) + 1) J1 K P := fun v' hv' =>
          s_266_44 hw ha hT hA n (k + 1) v' J1 (by omega) hv' (mT_of rT (f2 9 (by omega)) (f1 _ (by omega) (by omega)) (f1 _ (by omega) (by omega)) (f1 _ (by omega) (by omega))) (mA_of rA (f2 10 (by omega)) (f1 _ (by omega) (by omega)) (f1 _ (by omega) (by omega))) (fun J' g1 g2 => h J' (fun x x1 x2 => by rw [g1 x x1 x2, f1 x x1 x2]) (fun k hk => by rw [g2 k hk, f2 k hk]))
        have yes : zq_wo T A a w k → l_266_118 xs L (d + 8) (a : Int) w ((zk_sem (-1) T A a).length : Int) v (k : Int) 1 J1 K P := fun q2 =>
          e_266_118 ⟨by omega, fun q3 => by omega, fun _ => next _ (by rw [zq_bs_t q2, hv])⟩
        have no : ¬ zq_wo T A a w k → l_266_118 xs L (d + 8) (a : Int) w ((zk_sem (-1) T A a).length : Int) v (k : Int) 0 J1 K P := fun q2 =>
          e_266_118 ⟨by omega, fun _ => next _ (by rw [zq_bs_f q2, hv, jz_or_0 (zq_bs_r _ _)]), fun q3 => by omega⟩
        have dec : zq_wo T A a w k ↔ (w = 0 ∧ (zk_sem (k : Int) T A a).length = 0) ∨ (w = 1 ∧ (zk_sem (-1) T A a).length < (zk_sem (k : Int) T A a).length) ∨ (w = 2 ∧ (zk_sem (k : Int) T A a).length < (zk_sem (-1) T A a).length) := Iff.rfl
        exact ⟨by omega, by omega, fun q2 => ⟨fun q3 => ⟨by omega, by omega, fun q4 => no (fun q5 => by have := dec.mp q5; omega), fun q4 => yes (dec.mpr (by omega))⟩, fun q3 => ⟨by omega, by omega, fun q4 => no (fun q5 => by have := dec.mp q5; omega), fun q4 => yes (dec.mpr (by omega))⟩⟩, fun q2 => ⟨by omega, fun q4 => no (fun q5 => by have := dec.mp q5; omega), fun q4 => yes (dec.mpr (by omega))⟩⟩
theorem m_266 {xs : Nat → Int32} {L d : Nat} {J K : jZ} {P : Int → jZ → jZ → Prop} {T : zT} {A : zA} (hQ : mQ J T A) {a w : Int} (ha : -2147483648 ≤ a ∧ a < 2147483648) (hw : -2147483648 ≤ w ∧ w < 2147483648) (hb : ¬ ((0 ≤ a ∧ a < A.1) ∧ (0 ≤ w ∧ w ≤ 2)) → P (-2) (rM J 2) K) (h : (0 ≤ a ∧ a < A.1) ∧ (0 ≤ w ∧ w ≤ 2) → ∀ J', mF J J' → mQ J' T A → P (zq_bs (zq_wo T A a.toNat w) 16) J' K) : q_266 xs L (d + 9) a w J K P := by
  have h24 := hQ.2.1.1
  have h1 := hQ.2.2.2.1.1
  refine e_266 ⟨ha, by omega, fun q => ⟨hw, fun q2 => ?_, fun q2 => s_170 (k := 2) (by omega) (by omega) (hb (by omega))⟩, fun q => s_170 (k := 2) (by omega) (by omega) (hb (by omega))⟩
  obtain ⟨k, rfl⟩ : ∃ k : Nat, a = (k : Int) := ⟨a.toNat, by omega⟩
  rw [Int.toNat_natCast] at h
  refine s_work hQ (fun J1 f1 Q1 l1 => ⟨by omega, ?_⟩)
  rw [Int.toNat_natCast, (l1 k (by omega)).1]
  refine s_266_44 (by omega) (by omega) hQ.1 hQ.2.1 16 0 0 J1 (by omega) rfl Q1.2.2.1 Q1.2.2.2.1 (fun J' g1 g2 g3 l => ?_)
  have F : mF J1 J' := ⟨g1, fun j hj => by
    by_cases c : j = 37
    · subst c
      rw [g3, Q1.2.2.2.2.1]
    · exact g2 j c⟩
  exact h (by omega) J' (mF_tr f1 F) (mQ_F Q1 F ⟨by rw [g2 26 (by omega)]; exact Q1.2.2.2.2.2.1, fun _ => l⟩)
