/-! What a word at a place would do. -/
def zt_if (T : zT) (p : Nat) (w : Int) : zT := (T.1, (fun k => if k = p then w else T.2.1 k), T.2.2.1, T.2.2.2)
theorem zt_if_ok {T : zT} {p : Nat} {w : Int} (hT : zt_ok T) (hw : 0 ≤ w ∧ w < 16) : zt_ok (zt_if T p w) := by
  refine ⟨hT.1, fun k hk => ?_, hT.2.2.1, hT.2.2.2⟩
  show 0 ≤ (if k = p then w else T.2.1 k) ∧ (if k = p then w else T.2.1 k) < 16
  split
  · exact hw
  · exact hT.2.1 k hk
theorem s_145 {xs : Nat → Int32} {L d : Nat} {J K : jZ} {P : Int → jZ → jZ → Prop} {T : zT} {A : zA} {a p : Nat} {w : Int} (hQ : cQ J T A) (ha : a < A.1) (hp : p < T.1) (hw : 0 ≤ w ∧ w < 16) (h : ∀ J', cF J J' → cQ J' T A → P ((zk_sem (-1) (zt_if T p w) A a).length : Int) J' K) : q_145 xs L (d + 7) (a : Int) (p : Int) w J K P := by
  have hQ' := hQ
  obtain ⟨a1, a2, a3, a4, a5, a6, a7, a8⟩ := hQ
  have h24 := a2.1
  have h60 := a1.1
  have rT : zt_at (jm_up (jm_up J 2 p w) 61 5 0) 1 (zt_if T p w) := by
    refine ⟨by rw [zu_ne (by omega), zu_ne (by omega)]; exact a3.1, fun k hk => ⟨?_, ?_⟩, fun v hv => ?_⟩
    · rw [zu_ne (by omega)]
      show jm_up J 2 p w 2 k = if k = p then w else T.2.1 k
      split
      · rename_i q
        subst q
        exact zu_self
      · rename_i q
        rw [zu_key q]
        exact (a3.2.1 k hk).1
    · rw [zu_ne (by omega), zu_ne (by omega)]
      exact (a3.2.1 k hk).2
    · rw [zu_ne (by omega), zu_ne (by omega)]
      exact a3.2.2 v hv
  refine e_145 ⟨by omega, ?_⟩
  simp only [Int.toNat_natCast]
  refine s_32 (zt_if_ok a1 hw) a2 (wo := -1) (by omega) ha rT (zA_at_of a4 h24 (fun x _ _ => by rw [zu_row (by omega), zu_row (by omega)])) (zA_rc_of a5 h24 (fun x _ _ => by rw [zu_row (by omega), zu_row (by omega)])) (by rw [zu_ne (by omega), zu_ne (by omega)]; exact a6) ⟨by rw [zu_ne (by omega), zu_ne (by omega)]; exact a7.1, fun k hk => by simp at hk⟩ (fun j hj => by rw [zu_self] at hj; exact absurd hj zb_0) (fun J1 f1 k1 g1 b1 r1 => ⟨jz_e62 (by omega), ?_⟩)
  rw [r1.1]
  have f : ∀ x, x ≠ 61 → x ≠ 67 → x < 68 ∨ 140 ≤ x → jm_up (jm_up J1 2 p (J 2 p)) 61 5 0 x = J x := fun x x1 x2 x3 => by
    rw [zu_row x1]
    by_cases c : x = 2
    · subst c
      funext y
      by_cases c2 : y = p
      · subst c2
        exact zu_self
      · rw [zu_key c2, f1.1 2 (by omega) (by omega) (by omega), zu_row (by omega), zu_key c2]
    · rw [zu_row c, f1.1 x x1 x2 x3, zu_row x1, zu_row c]
  have F : cF J (jm_up (jm_up J1 2 p (J 2 p)) 61 5 0) := ⟨fun x x1 x2 x3 => f x x1 x2 (by omega), fun k hk => by rw [zu_key hk, zu_row (by omega), f1.2 k hk, zu_ne (by omega), zu_row (by omega)]⟩
  exact h _ F (cQ_F hQ' F (fun j hj => by rw [zu_self] at hj; exact absurd hj zb_0))
theorem c_144 {xs : Nat → Int32} {L d : Nat} {J K : jZ} {P : Int → jZ → jZ → Prop} {T : zT} {A : zA} (hQ : cQ J T A) {a p w : Int} (ha : -2147483648 ≤ a ∧ a < 2147483648) (hp : -2147483648 ≤ p ∧ p < 2147483648) (hw : -2147483648 ≤ w ∧ w < 2147483648) (hb : ¬ ((0 ≤ a ∧ a < A.1) ∧ (0 ≤ p ∧ p < T.1) ∧ (0 ≤ w ∧ w < 16)) → P (-2) (rC J 0) K) (h : (0 ≤ a ∧ a < A.1) ∧ (0 ≤ p ∧ p < T.1) ∧ (0 ≤ w ∧ w < 16) → ∀ J', cF J J' → cQ J' T A → P ((zk_sem (-1) (zt_if T p.toNat w) A a.toNat).length : Int) J' K) : q_144 xs L (d + 8) a p w J K P := by
  have h24 := hQ.2.1.1
  have h60 := hQ.1.1
  have h1 := hQ.2.2.2.1.1
  have h3 := hQ.2.2.1.1
  have bad : ¬ ((0 ≤ a ∧ a < A.1) ∧ (0 ≤ p ∧ p < T.1) ∧ (0 ≤ w ∧ w < 16)) → q_13 xs L (d + 7) (-2) J K (fun r J' K' => P r J' K') := fun q => s_13 (k := 0) (by omega) (by omega) (hb q)
  refine e_144 ⟨ha, by omega, fun q => ⟨hp, by omega, fun q2 => ⟨hw, fun q3 => ?_, fun q3 => bad (by omega)⟩, fun q2 => bad (by omega)⟩, fun q => bad (by omega)⟩
  obtain ⟨k, rfl⟩ : ∃ k : Nat, a = (k : Int) := ⟨a.toNat, by omega⟩
  obtain ⟨j, rfl⟩ : ∃ j : Nat, p = (j : Int) := ⟨p.toNat, by omega⟩
  simp only [Int.toNat_natCast] at h
  exact s_145 hQ (by omega) (by omega) q3 (h (by omega))
theorem s_268 {xs : Nat → Int32} {L d : Nat} {J K : jZ} {P : Int → jZ → jZ → Prop} {T : zT} {A : zA} {a p : Nat} {w : Int} (hQ : mQ J T A) (ha : a < A.1) (hp : p < T.1) (hw : 0 ≤ w ∧ w < 16) (h : ∀ J', mF J J' → mQ J' T A → P ((zk_sem (-1) (zt_if T p w) A a).length : Int) J' K) : q_268 xs L (d + 8) (a : Int) (p : Int) w J K P := by
  have hQ' := hQ
  obtain ⟨a1, a2, a3, a4, a5, a6⟩ := hQ
  have h24 := a2.1
  have h60 := a1.1
  have rT : mT_at (jm_up J 184 p w) (zt_if T p w) := by
    refine ⟨by rw [zu_ne (by omega)]; exact a3.1, fun k hk => ⟨?_, ?_⟩, fun v hv => ?_⟩
    · show jm_up J 184 p w 184 k = if k = p then w else T.2.1 k
      split
      · rename_i q
        subst q
        exact zu_self
      · rename_i q
        rw [zu_key q]
        exact (a3.2.1 k hk).1
    · rw [zu_ne (by omega)]
      exact (a3.2.1 k hk).2
    · rw [zu_ne (by omega)]
      exact a3.2.2 v hv
  refine e_268 ⟨by omega, ?_⟩
  simp only [Int.toNat_natCast]
  refine s_182 (zt_if_ok a1 hw) a2 (wo := -1) (by omega) rT (mA_of a4 (zu_ne (by omega)) (zu_row (by omega)) (zu_row (by omega))) (by rw [zu_ne (by omega)]; exact a5) (fun J1 f1 l1 => ⟨by omega, ?_⟩)
  rw [(l1 a ha).1]
  have F : mF J (jm_up (jm_up J1 184 p (J 184 p)) 167 26 0) := ⟨fun x x1 x2 => by
    rw [zu_row x1]
    by_cases c : x = 184
    · subst c
      funext y
      by_cases c2 : y = p
      · subst c2
        exact zu_self
      · rw [zu_key c2, f1 184 (by omega) (by omega) (by omega) (by omega) (by omega), zu_key c2]
    · rw [zu_row c, f1 x (by omega) (by omega) (by omega) (by omega) (by omega), zu_row c], fun k hk => by rw [zu_key hk, zu_row (by omega), f1 167 (by omega) (by omega) (by omega) (by omega) (by omega), zu_row (by omega)]⟩
  exact h _ F (mQ_F hQ' F ⟨.inl zu_self, fun q => by rw [zu_self] at q; omega⟩)
theorem m_267 {xs : Nat → Int32} {L d : Nat} {J K : jZ} {P : Int → jZ → jZ → Prop} {T : zT} {A : zA} (hQ : mQ J T A) {a p w : Int} (ha : -2147483648 ≤ a ∧ a < 2147483648) (hp : -2147483648 ≤ p ∧ p < 2147483648) (hw : -2147483648 ≤ w ∧ w < 2147483648) (hb : ¬ ((0 ≤ a ∧ a < A.1) ∧ (0 ≤ p ∧ p < T.1) ∧ (0 ≤ w ∧ w < 16)) → P (-2) (rM J 2) K) (h : (0 ≤ a ∧ a < A.1) ∧ (0 ≤ p ∧ p < T.1) ∧ (0 ≤ w ∧ w < 16) → ∀ J', mF J J' → mQ J' T A → P ((zk_sem (-1) (zt_if T p.toNat w) A a.toNat).length : Int) J' K) : q_267 xs L (d + 9) a p w J K P := by
  have h24 := hQ.2.1.1
  have h60 := hQ.1.1
  have h1 := hQ.2.2.2.1.1
  have h3 := hQ.2.2.1.1
  have bad : ¬ ((0 ≤ a ∧ a < A.1) ∧ (0 ≤ p ∧ p < T.1) ∧ (0 ≤ w ∧ w < 16)) → q_170 xs L (d + 8) (-2) J K (fun r J' K' => P r J' K') := fun q => s_170 (k := 2) (by omega) (by omega) (hb q)
  refine e_267 ⟨ha, by omega, fun q => ⟨hp, by omega, fun q2 => ⟨hw, fun q3 => ?_, fun q3 => bad (by omega)⟩, fun q2 => bad (by omega)⟩, fun q => bad (by omega)⟩
  obtain ⟨k, rfl⟩ : ∃ k : Nat, a = (k : Int) := ⟨a.toNat, by omega⟩
  obtain ⟨j, rfl⟩ : ∃ j : Nat, p = (j : Int) := ⟨p.toNat, by omega⟩
  simp only [Int.toNat_natCast] at h
  exact s_268 hQ (by omega) (by omega) (by omega) (h (by omega))
noncomputable def zq_be (T : zT) (A : zA) (a p : Nat) (b : Int) : Nat → Int × Int
  | 0 => (b, -1)
  | k + 1 => if (zq_be T A a p b k).2 < ((zk_sem (-1) (zt_if T p (k : Int)) A a).length : Int) then ((k : Int), ((zk_sem (-1) (zt_if T p (k : Int)) A a).length : Int)) else zq_be T A a p b k
theorem zq_be_eq (T : zT) (A : zA) (a p : Nat) (b c : Int) : ∀ k : Nat, zq_be T A a p b (k + 1) = zq_be T A a p c (k + 1)
  | 0 => by
    show (if (-1 : Int) < _ then _ else _) = (if (-1 : Int) < _ then _ else _)
    rw [if_pos (by omega), if_pos (by omega)]
  | k + 1 => by
    have ih := zq_be_eq T A a p b c k
    show (if (zq_be T A a p b (k + 1)).2 < _ then _ else zq_be T A a p b (k + 1)) = (if (zq_be T A a p c (k + 1)).2 < _ then _ else zq_be T A a p c (k + 1))
    rw [ih]
theorem s_146_37 {xs : Nat → Int32} {L d : Nat} {K : jZ} {P : Int → jZ → jZ → Prop} {T : zT} {A : zA} {a p : Nat} {b : Int} (ha : a < A.1) (hp : p < T.1) : ∀ (n k : Nat) (u v : Int) (J : jZ), k + n = 16 → (u, v) = zq_be T A a p b k → -1 ≤ v ∧ v ≤ 60 → cQ J T A → (∀ J', cF J J' → cQ J' T A → P (zq_be T A a p b 16).1 J' K) → l_146_37 xs L (d + 7) (a : Int) (p : Int) u v (k : Int) J K P
  | n, k, u, v, J, hn, hz, hv, hQ, h => by
    have hz1 : (zq_be T A a p b k).1 = u := by rw [← hz]
    have hz2 : (zq_be T A a p b k).2 = v := by rw [← hz]
    refine e_146_37 ⟨by omega, fun q => ?_, fun q => ?_⟩
    · obtain rfl : k = 16 := by omega
      rw [← hz1]
      exact h J cF_rfl hQ
    · match n, hn with
      | 0, hn => omega
      | n + 1, hn =>
        have hw : 0 ≤ (k : Int) ∧ (k : Int) < 16 := by omega
        have hl := zk_sem_len (wo := -1) (zt_if_ok (p := p) hQ.1 hw) hQ.2.1 ha
        refine s_145 hQ ha hp hw (fun J1 f1 Q1 => ⟨by omega, by omega, fun q2 => ?_, fun q2 => ?_⟩)
        · exact s_146_37 ha hp n (k + 1) u v J1 (by omega) (by rw [zq_be, if_neg (by omega)]; exact hz) hv Q1 (fun J' f => h J' (cF_tr f1 f))
        · exact s_146_37 ha hp n (k + 1) _ _ J1 (by omega) (by rw [zq_be, if_pos (by omega)]) (by omega) Q1 (fun J' f => h J' (cF_tr f1 f))
theorem c_146 {xs : Nat → Int32} {L d : Nat} {J K : jZ} {P : Int → jZ → jZ → Prop} {T : zT} {A : zA} (hQ : cQ J T A) {a p : Int} (ha : -2147483648 ≤ a ∧ a < 2147483648) (hp : -2147483648 ≤ p ∧ p < 2147483648) (hb : ¬ ((0 ≤ a ∧ a < A.1) ∧ (0 ≤ p ∧ p < T.1)) → P (-2) (rC J 0) K) (h : (0 ≤ a ∧ a < A.1) ∧ (0 ≤ p ∧ p < T.1) → ∀ J', cF J J' → cQ J' T A → P (zq_be T A a.toNat p.toNat 0 16).1 J' K) : q_146 xs L (d + 8) a p J K P := by
  have h24 := hQ.2.1.1
  have h60 := hQ.1.1
  have h1 := hQ.2.2.2.1.1
  have h3 := hQ.2.2.1.1
  refine e_146 ⟨ha, by omega, fun q => ⟨hp, by omega, fun q2 => ?_, fun q2 => s_13 (k := 0) (by omega) (by omega) (hb (by omega))⟩, fun q => s_13 (k := 0) (by omega) (by omega) (hb (by omega))⟩
  obtain ⟨k, rfl⟩ : ∃ k : Nat, a = (k : Int) := ⟨a.toNat, by omega⟩
  obtain ⟨j, rfl⟩ : ∃ j : Nat, p = (j : Int) := ⟨p.toNat, by omega⟩
  simp only [Int.toNat_natCast] at h
  exact s_146_37 (by omega) (by omega) 16 0 0 (-1) J (by omega) rfl (by omega) hQ (h (by omega))
theorem s_269_31 {xs : Nat → Int32} {L d : Nat} {K : jZ} {P : Int → jZ → jZ → Prop} {T : zT} {A : zA} {a p : Nat} {b : Int} (ha : a < A.1) (hp : p < T.1) : ∀ (n k : Nat) (u v : Int) (J : jZ), k + n = 16 → (u, v) = zq_be T A a p b k → -1 ≤ v ∧ v ≤ 60 → mQ J T A → (∀ J', mF J J' → mQ J' T A → P (zq_be T A a p b 16).1 J' K) → l_269_31 xs L (d + 8) (a : Int) (p : Int) u v (k : Int) J K P
  | n, k, u, v, J, hn, hz, hv, hQ, h => by
    have hz1 : (zq_be T A a p b k).1 = u := by rw [← hz]
    have hz2 : (zq_be T A a p b k).2 = v := by rw [← hz]
    refine e_269_31 ⟨by omega, fun q => ?_, fun q => ?_⟩
    · obtain rfl : k = 16 := by omega
      rw [← hz1]
      exact h J mF_rfl hQ
    · match n, hn with
      | 0, hn => omega
      | n + 1, hn =>
        have hw : 0 ≤ (k : Int) ∧ (k : Int) < 16 := by omega
        have hl := zk_sem_len (wo := -1) (zt_if_ok (p := p) hQ.1 hw) hQ.2.1 ha
        refine s_268 hQ ha hp hw (fun J1 f1 Q1 => ⟨by omega, by omega, fun q2 => ?_, fun q2 => ?_⟩)
        · exact s_269_31 ha hp n (k + 1) u v J1 (by omega) (by rw [zq_be, if_neg (by omega)]; exact hz) hv Q1 (fun J' f => h J' (mF_tr f1 f))
        · exact s_269_31 ha hp n (k + 1) _ _ J1 (by omega) (by rw [zq_be, if_pos (by omega)]) (by omega) Q1 (fun J' f => h J' (mF_tr f1 f))
theorem m_269 {xs : Nat → Int32} {L d : Nat} {J K : jZ} {P : Int → jZ → jZ → Prop} {T : zT} {A : zA} (hQ : mQ J T A) {a p : Int} (ha : -2147483648 ≤ a ∧ a < 2147483648) (hp : -2147483648 ≤ p ∧ p < 2147483648) (hb : ¬ ((0 ≤ a ∧ a < A.1) ∧ (0 ≤ p ∧ p < T.1)) → P (-2) (rM J 2) K) (h : (0 ≤ a ∧ a < A.1) ∧ (0 ≤ p ∧ p < T.1) → ∀ J', mF J J' → mQ J' T A → P (zq_be T A a.toNat p.toNat 0 16).1 J' K) : q_269 xs L (d + 9) a p J K P := by
  have h24 := hQ.2.1.1
  have h60 := hQ.1.1
  have h1 := hQ.2.2.2.1.1
  have h3 := hQ.2.2.1.1
  refine e_269 ⟨ha, by omega, fun q => ⟨hp, by omega, fun q2 => ?_, fun q2 => s_170 (k := 2) (by omega) (by omega) (hb (by omega))⟩, fun q => s_170 (k := 2) (by omega) (by omega) (hb (by omega))⟩
  obtain ⟨k, rfl⟩ : ∃ k : Nat, a = (k : Int) := ⟨a.toNat, by omega⟩
  obtain ⟨j, rfl⟩ : ∃ j : Nat, p = (j : Int) := ⟨p.toNat, by omega⟩
  simp only [Int.toNat_natCast] at h
  refine s_269_31 (b := -1) (by omega) (by omega) 16 0 (-1) (-1) J (by omega) rfl (by omega) hQ (fun J' f Q => ?_)
  rw [zq_be_eq T A k j (-1) 0 15]
  exact h (by omega) J' f Q
