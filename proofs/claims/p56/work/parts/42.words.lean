/-! Inside; what a word does. -/
theorem jz_or_0 {v : Int} (h : -2147483648 ≤ v ∧ v < 2147483648) : jz_or v 0 = v := zb_ext jz_or_r h (fun j _ => by
  rw [zb_or]
  exact ⟨fun q => q.elim id (fun q => absurd q zb_0), .inl⟩)
/-- numbers below n of which c holds, as bits -/
noncomputable def zq_bs (c : Nat → Prop) : Nat → Int
  | 0 => 0
  | k + 1 => @ite _ (c k) (Classical.propDecidable _) (jz_or (zq_bs c k) (jz_shl 1 k)) (zq_bs c k)
theorem zq_bs_r (c : Nat → Prop) : ∀ k : Nat, -2147483648 ≤ zq_bs c k ∧ zq_bs c k < 2147483648
  | 0 => by simp [zq_bs]
  | k + 1 => by
    have := zq_bs_r c k
    unfold zq_bs
    split
    · exact jz_or_r
    · exact this
theorem zq_bs_t {c : Nat → Prop} {k : Nat} (h : c k) : zq_bs c (k + 1) = jz_or (zq_bs c k) (jz_shl 1 k) := by
  rw [zq_bs, if_pos h]
theorem zq_bs_f {c : Nat → Prop} {k : Nat} (h : ¬ c k) : zq_bs c (k + 1) = zq_bs c k := by
  rw [zq_bs, if_neg h]
theorem zq_bs_c {c e : Nat → Prop} : ∀ k : Nat, (∀ j, j < k → (c j ↔ e j)) → zq_bs c k = zq_bs e k
  | 0, _ => rfl
  | k + 1, h => by
    have ih := zq_bs_c k (fun j hj => h j (by omega))
    by_cases q : c k
    · rw [zq_bs_t q, zq_bs_t ((h k (by omega)).mp q), ih]
    · rw [zq_bs_f q, zq_bs_f (fun q2 => q ((h k (by omega)).mpr q2)), ih]
/-- ask j's spans all lie in one of ask a's -/
def zq_in (T : zT) (A : zA) (a j : Nat) : Prop := ∀ i, i < (zk_sem (-1) T A j).length → zo_tst 5 (zk_sem (-1) T A j) (zk_sem (-1) T A a) i
theorem s_141_32 {xs : Nat → Int32} {L d : Nat} {K : jZ} {P : Int → jZ → jZ → Prop} {T : zT} {A : zA} {a : Nat} (ha : a < A.1) : ∀ (n j : Nat) (v : Int) (J : jZ), j + n = A.1 → v = zq_bs (zq_in T A a) j → cQ J T A → cL J T A a → (∀ J', cF J J' → cQ J' T A → P (zq_bs (zq_in T A a) A.1) J' K) → l_141_32 xs L (d + 6) (68 + 3 * a) v (j : Int) J K P
  | n, j, v, J, hn, hv, hQ, hl, h => by
    have h24 := hQ.2.1.1
    have h1 := hQ.2.2.2.1.1
    refine e_141_32 (jz_e62 (by omega)) ⟨by omega, by omega, fun q => ?_, fun q => ?_⟩
    · obtain rfl : j = A.1 := by omega
      rw [hv]
      exact h J cF_rfl hQ
    · match n, hn with
      | 0, hn => omega
      | n + 1, hn =>
        have g1 := zS_gd hQ.1 hQ.2.1 (a := j) (by omega)
        have g2 := zS_gd hQ.1 hQ.2.1 (a := a) (by omega)
        have g60 := g1.1.1
        refine s_of hQ (by omega) (fun J1 f1 _ Q1 k1 l1 => ⟨jz_e62 (by omega), s_53 (by omega) hQ.1.1 Q1.2.2.1.1 Q1.2.2.2.2.2.2.1 (jz_e62 (by omega)) (jz_e62 (by omega)) rfl (by omega) (by omega) (by omega) g1.1 g2.1 g1.2 g2.2 l1.2 (k1 a hl.1).2 (fun J2 l2 f2 r2 i2 => ?_)⟩)
        have M := cQ_made Q1 f2
        have cn := zp_cnt (by omega) g1.1 i2
        have cr := zq_cn_r 5 (zk_sem (-1) T A j) (zk_sem (-1) T A a)
        have b2 : J2 61 5 = J1 61 5 := by rw [f2 61 (by omega) (by omega)]
        have la : cL J2 T A a := ⟨by rw [b2]; exact (k1 a hl.1).1, (M.2.2.2.2.2.2.2.2 a (by rw [b2]; exact (k1 a hl.1).1)).2⟩
        rw [r2.1, cn, f2 (68 + 3 * j) (by omega) (by omega), l1.2.1]
        have key := zq_cn_all (k := 5) (l := zk_sem (-1) T A j) (m := zk_sem (-1) T A a)
        refine ⟨by omega, by omega, fun q2 => ?_, fun q2 => ?_⟩
        · exact s_141_32 ha n (j + 1) v J2 (by omega) (by rw [zq_bs_f (fun q3 => q2 (key.mpr q3))]; exact hv) M.2 la (fun J' f => h J' (cF_tr f1 (cF_tr M.1 f)))
        · exact s_141_32 ha n (j + 1) _ J2 (by omega) (by rw [zq_bs_t (key.mp q2), hv]) M.2 la (fun J' f => h J' (cF_tr f1 (cF_tr M.1 f)))
theorem c_141 {xs : Nat → Int32} {L d : Nat} {J K : jZ} {P : Int → jZ → jZ → Prop} {T : zT} {A : zA} (hQ : cQ J T A) {a : Int} (ha : -2147483648 ≤ a ∧ a < 2147483648) (hb : ¬ (0 ≤ a ∧ a < A.1) → P (-2) (rC J 0) K) (h : 0 ≤ a ∧ a < A.1 → ∀ J', cF J J' → cQ J' T A → P (zq_bs (zq_in T A a.toNat) A.1) J' K) : q_141 xs L (d + 7) a J K P := by
  have h24 := hQ.2.1.1
  have h1 := hQ.2.2.2.1.1
  refine e_141 ⟨ha, by omega, fun q => ?_, fun q => s_13 (k := 0) (by omega) (by omega) (hb (by omega))⟩
  obtain ⟨k, rfl⟩ : ∃ k : Nat, a = (k : Int) := ⟨a.toNat, by omega⟩
  rw [Int.toNat_natCast] at h
  exact s_of hQ (by omega) (fun J1 f1 _ Q1 _ l1 => ⟨jz_e62 (by omega), s_141_32 (by omega) A.1 0 0 J1 (by omega) rfl Q1 l1 (fun J' f => h (by omega) J' (cF_tr f1 f))⟩)
-- words
noncomputable def zq_wo (T : zT) (A : zA) (a : Nat) (w : Int) (k : Nat) : Prop := (w = 0 ∧ (zk_sem (k : Int) T A a).length = 0) ∨ (w = 1 ∧ (zk_sem (-1) T A a).length < (zk_sem (k : Int) T A a).length) ∨ (w = 2 ∧ (zk_sem (k : Int) T A a).length < (zk_sem (-1) T A a).length)
theorem cQ_61 {J : jZ} {T : zT} {A : zA} (hQ : cQ J T A) (hT : zt_ok T) {J' : jZ} (hf : ∀ x, x ≠ 61 → J' x = J x) (hw : J' 61 6 = -1) (hk : J' 61 5 = 0) : cQ J' T A := by
  obtain ⟨a1, a2, a3, a4, a5, a6, a7, a8⟩ := hQ
  have h24 := a2.1
  exact ⟨a1, a2, zt_of a3 (by rw [hf 1 (by omega)]) (hf _ (by omega)) (hf _ (by omega)) (hf _ (by omega)), zA_at_of a4 h24 (fun x _ _ => hf x (by omega)), zA_rc_of a5 h24 (fun x _ _ => hf x (by omega)), hw, ⟨by rw [hf 63 (by omega)]; exact a7.1, fun k hk => by simp at hk⟩, fun j hj => by rw [hk] at hj; exact absurd hj zb_0⟩
theorem zk_sem_len {wo : Int} {T : zT} {A : zA} (hT : zt_ok T) (hA : zA_ok A) {a : Nat} (ha : a < A.1) : (zk_sem wo T A a).length ≤ 60 := (zk_sem_gd hT hA a ha).2.1.1