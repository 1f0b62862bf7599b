/-! Rank; window; next. -/
/-- how many of n numbers are ahead of the p-th: more, or as much and sooner -/
def zq_ah (s : Nat → Int) (n p : Nat) : Int := zn (fun q => if s p < s q ∨ (s q = s p ∧ q < p) then 1 else 0) n
theorem zn_mono {f g : Nat → Int} : ∀ n : Nat, (∀ k, k < n → f k ≤ g k) → zn f n ≤ zn g n
  | 0, _ => Int.le_refl _
  | n + 1, h => by
    have := zn_mono n (fun k hk => h k (by omega))
    have := h n (by omega)
    rw [zn, zn]
    omega
theorem zn_mono_lt {f g : Nat → Int} : ∀ n : Nat, (∀ k, k < n → f k ≤ g k) → ∀ k, k < n → f k < g k → zn f n < zn g n
  | 0, _, k, hk, _ => by omega
  | n + 1, h, k, hk, hl => by
    have h1 := h n (by omega)
    rw [zn, zn]
    by_cases q : k = n
    · subst q
      have := zn_mono k (fun j hj => h j (by omega))
      omega
    · have := zn_mono_lt n (fun j hj => h j (by omega)) k (by omega) hl
      omega
theorem zq_ah_lt {s : Nat → Int} {n p q : Nat} (hp : p < n) (h : s q < s p ∨ (s p = s q ∧ p < q)) : zq_ah s n p < zq_ah s n q := by
  unfold zq_ah
  refine zn_mono_lt n (fun k _ => ?_) p hp ?_
  · by_cases c : s p < s k ∨ (s k = s p ∧ k < p)
    · rw [if_pos c, if_pos (by omega)]
      omega
    · rw [if_neg c]
      split <;> omega
  · rw [if_neg (by omega), if_pos (by omega)]
    omega
theorem zq_ah_r (s : Nat → Int) (n p : Nat) (hp : p < n) : 0 ≤ zq_ah s n p ∧ zq_ah s n p < n := by
  have h0 := zn_r (f := fun q => if s p < s q ∨ (s q = s p ∧ q < p) then 1 else 0) (fun k => by split <;> omega) n
  unfold zq_ah
  have := zn_mono_lt (f := fun q => if s p < s q ∨ (s q = s p ∧ q < p) then 1 else 0) (g := fun _ => 1) n (fun k _ => by split <;> omega) p hp (by rw [if_neg (by omega)]; omega)
  have e : ∀ n : Nat, zn (fun _ => 1) n = n := by
    intro n
    induction n with
    | zero => rfl
    | succ n ih => rw [zn, ih]; rfl
  rw [e] at this
  omega
theorem zq_ah_inj {s : Nat → Int} {n p q : Nat} (hp : p < n) (hq : q < n) (h : zq_ah s n p = zq_ah s n q) : p = q := by
  by_cases c : p = q
  · exact c
  · exfalso
    by_cases c1 : s q < s p ∨ (s p = s q ∧ p < q)
    · have := zq_ah_lt hp c1
      omega
    · have := zq_ah_lt (s := s) (p := q) (q := p) hq (by omega)
      omega
/-- numbers put in one each -/
theorem zn_php : ∀ (n : Nat) (f : Nat → Nat), (∀ k, k < n → f k < n) → (∀ j k, j < n → k < n → f j = f k → j = k) → ∀ i, i < n → ∃ k, k < n ∧ f k = i
  | 0, _, _, _, i, hi => by omega
  | n + 1, f, h1, h2, i, hi => by
    have hn := h1 n (by omega)
    have key := zn_php n (fun k => if f k = n then f n else f k) (fun k hk => by
      have a := h1 k (by omega)
      split
      · rename_i q
        by_cases c : f n = n
        · have := h2 k n (by omega) (by omega) (by omega)
          omega
        · omega
      · omega) (fun j k hj hk e => by
      split at e <;> split at e
      · exact h2 j k (by omega) (by omega) (by omega)
      · have := h2 n k (by omega) (by omega) e
        omega
      · have := h2 j n (by omega) (by omega) e
        omega
      · exact h2 j k (by omega) (by omega) e)
    by_cases c : i = f n
    · exact ⟨n, by omega, c.symm⟩
    · by_cases c2 : i = n
      · obtain ⟨k, hk, e⟩ := key (f n) (by omega)
        split at e
        · exact ⟨k, by omega, by omega⟩
        · have := h2 k n (by omega) (by omega) e
          omega
      · obtain ⟨k, hk, e⟩ := key i (by omega)
        split at e
        · omega
        · exact ⟨k, by omega, e⟩
theorem zq_ah_ex {s : Nat → Int} {n : Nat} {i : Int} (hi : 0 ≤ i ∧ i < n) : ∃ p, p < n ∧ zq_ah s n p = i := by
  obtain ⟨p, hp, e⟩ := zn_php n (fun p => (zq_ah s n p).toNat) (fun k hk => by have := zq_ah_r s n k hk; omega) (fun j k hj hk e => by
    have := zq_ah_r s n j hj
    have := zq_ah_r s n k hk
    exact zq_ah_inj (s := s) hj hk (by omega)) i.toNat (by omega)
  have := zq_ah_r s n p hp
  exact ⟨p, hp, by omega⟩
theorem s_132_5 {xs : Nat → Int32} {L d : Nat} {J K : jZ} {P : Int → jZ → jZ → Prop} {s : Nat → Int} {N p : Nat} (hN : N ≤ 60) (hp : p < N) (hr : ∀ k, k < N → J 143 k = s k ∧ -2147483648 ≤ s k ∧ s k < 2147483648) (h : P (zq_ah s N p) J K) : ∀ (n k : Nat) (v : Int), k + n = N → v = zq_ah s k p → l_132_5 xs L (d + 0) (p : Int) (N : Int) v (k : Int) J K P
  | n, k, v, hn, hv => by
    refine e_132_5 ⟨by omega, by omega, fun q => ?_, fun q => ?_⟩
    · obtain rfl : k = N := by omega
      rw [hv]
      exact h
    · match n, hn with
      | 0, hn => omega
      | n + 1, hn =>
        have hk := hr k (by omega)
        have hpp := hr p hp
        simp only [Int.toNat_natCast]
        rw [hk.1, hpp.1]
        have n0 : ¬ (s p < s k ∨ (s k = s p ∧ k < p)) → l_132_5 xs L (d + 0) (p : Int) (N : Int) v ((k : Int) + 1) J K P := fun q2 => by
          refine s_132_5 hN hp hr h n (k + 1) _ (by omega) ?_
          unfold zq_ah at hv ⊢
          rw [zn, ← hv, if_neg q2]
          omega
        have n1 : (s p < s k ∨ (s k = s p ∧ k < p)) → l_132_5 xs L (d + 0) (p : Int) (N : Int) (v + 1) ((k : Int) + 1) J K P := fun q2 => by
          refine s_132_5 hN hp hr h n (k + 1) _ (by omega) ?_
          unfold zq_ah at hv ⊢
          rw [zn, ← hv, if_pos q2]
        exact ⟨by omega, by omega, hk.2, hpp.2, fun q2 => ⟨by omega, fun q3 => n0 (by omega), fun q3 => ⟨fun q4 => n0 (by omega), fun q4 => n1 (by omega)⟩⟩, fun q2 => n1 (by omega)⟩
theorem s_131_91 {xs : Nat → Int32} {L d : Nat} {J K : jZ} {P : Int → jZ → jZ → Prop} {s : Nat → Int} {N : Nat} {i : Int} (hN : N ≤ 60) (hi : 0 ≤ i ∧ i < N) (hr : ∀ k, k < N → J 143 k = s k ∧ -2147483648 ≤ s k ∧ s k < 2147483648) (h : ∀ p : Nat, p < N → zq_ah s N p = i → P (p : Int) J K) : ∀ (n k : Nat), k + n = N → (∀ j, j < k → ¬ zq_ah s N j = i) → l_131_91 xs L (d + 6) i (N : Int) (k : Int) J K P
  | n, k, hn, hk => by
    refine e_131_91 ⟨by omega, by omega, fun q => ?_, fun q => ?_⟩
    · obtain ⟨p, hp, e⟩ := zq_ah_ex (s := s) hi
      exact absurd e (hk p (by omega))
    · match n, hn with
      | 0, hn => omega
      | n + 1, hn =>
        have hb := zq_ah_r s N k (by omega)
        refine e_132 (s_132_5 hN (by omega) hr ⟨by omega, by omega, fun q2 => ?_, fun q2 => h k (by omega) q2⟩ N 0 0 (by omega) rfl)
        refine s_131_91 hN hi hr h n (k + 1) (by omega) (fun j hj => ?_)
        by_cases c : j = k
        · subst c
          exact q2
        · exact hk j (by omega)
theorem s_131_61 {xs : Nat → Int32} {L d : Nat} {K : jZ} {P : Int → jZ → jZ → Prop} {T : zT} {l R : zL} {a : Nat} {i : Int} (hT : zt_ok T) (ha : jz_kd a = 16) (ha2 : a < 140) (hg : zs_gd T.1 l) (hR : zl_isl (zk_reg T 1) R) (N : Nat) (hNc : (N : Int) = zt_ct T 2) (hi : 0 ≤ i ∧ i < N) : ∀ (n k : Nat) (J : jZ), k + n = N → zs_at J a l → zs_at J 140 R → (∀ j, j < k → J 143 j = zq_sc T l j) → (∀ J' (p : Nat), (∀ x, x ≠ 143 → J' x = J x) → p < N → zq_ah (fun j => zq_sc T l j) N p = i → P (p : Int) J' K) → l_131_61 xs L (d + 6) i (N : Int) a (k : Int) J K P
  | n, k, J, hn, hr, hr2, hs, h => by
    have h60 := hT.1
    have hct := zt_ct_r hT 2
    refine e_131_61 ha ⟨by omega, by omega, fun q => ?_, fun q => ?_⟩
    · obtain rfl : k = N := by omega
      refine s_131_91 (s := fun j => zq_sc T l j) (by omega) hi (fun j hj => ⟨hs j hj, ?_⟩) (fun p hp e => h J p (fun _ _ => rfl) hp e) k 0 (by omega) (fun j hj => by omega)
      have := zq_sc_r (T := T) hg.1 (j : Int) l.length (Nat.le_refl _)
      have := hg.1.1
      unfold zq_sc
      omega
    · match n, hn with
      | 0, hn => omega
      | n + 1, hn =>
        refine s_130 hT ha hr hg hR hr2 (by omega) ⟨by omega, ?_⟩
        rw [Int.toNat_natCast]
        refine s_131_61 hT ha ha2 hg hR N hNc hi n (k + 1) _ (by omega) ⟨by rw [zu_row (by omega)]; exact hr.1, fun t ht => by rw [zu_row (by omega), zu_row (by omega)]; exact hr.2 t ht⟩ ⟨by rw [zu_row (by omega)]; exact hr2.1, fun t ht => by rw [zu_row (by omega), zu_row (by omega)]; exact hr2.2 t ht⟩ (fun j hj => ?_) (fun J' p f => h J' p (fun x hx => by rw [f x hx, zu_row hx]))
        by_cases c : j = k
        · subst c
          exact zu_self
        · rw [zu_key c]
          exact hs j (by omega)
theorem c_131 {xs : Nat → Int32} {L d : Nat} {J K : jZ} {P : Int → jZ → jZ → Prop} {T : zT} {A : zA} (hQ : cQ J T A) {a i : Int} (ha : -2147483648 ≤ a ∧ a < 2147483648) (hi : -2147483648 ≤ i ∧ i < 2147483648) (hb : ¬ ((0 ≤ a ∧ a < A.1) ∧ (0 ≤ i ∧ i < zt_ct T 2)) → P (-2) (rC J 0) K) (h : (0 ≤ a ∧ a < A.1) ∧ (0 ≤ i ∧ i < zt_ct T 2) → ∀ J' (p : Nat), cF J J' → cQ J' T A → p < (zt_ct T 2).toNat → zq_ah (fun j => zq_sc T (zk_sem (-1) T A a.toNat) j) (zt_ct T 2).toNat p = i → P (p : Int) J' K) : q_131 xs L (d + 7) a i J K P := by
  have hQ' := hQ
  obtain ⟨q1, q2, q3, q4, q5, q6, q7, q8⟩ := hQ
  have h24 := q2.1
  have h1 := q4.1
  have hct := zt_ct_r q1 2
  have h60 := q1.1
  refine e_131 (s_129 q1 (by omega) rfl q3 ⟨ha, by omega, fun q => ⟨hi, fun t => s_13 (k := 0) (by omega) (by omega) (hb (by omega)), fun t => ⟨by omega, fun t2 => ?_, fun t2 => s_13 (k := 0) (by omega) (by omega) (hb (by omega))⟩⟩, fun q => s_13 (k := 0) (by omega) (by omega) (hb (by omega))⟩)
  obtain ⟨k, rfl⟩ : ∃ k : Nat, a = (k : Int) := ⟨a.toNat, by omega⟩
  rw [Int.toNat_natCast] at h
  refine s_of hQ' (by omega) (fun J1 f1 _ Q1 _ l1 => ⟨jz_e62 (by omega), s_38 (by omega) rfl rfl (by omega) q1 Q1.2.2.1 (fun J2 R f2 r2 i2 => ?_)⟩)
  have F2 : cF J1 J2 := ⟨fun x x1 x2 x3 => f2 x (by omega), fun j _ => by rw [f2 61 (by omega)]⟩
  have kn : ∀ J3 : jZ, (∀ x, x ≠ 143 → J3 x = J2 x) → cF J1 J3 ∧ cQ J3 T A := fun J3 f3 => by
    have F3 : cF J1 J3 := ⟨fun x x1 x2 x3 => by rw [f3 x (by omega), f2 x (by omega)], fun j _ => by rw [f3 61 (by omega), f2 61 (by omega)]⟩
    refine ⟨F3, cQ_F Q1 F3 (fun j hj => ?_)⟩
    rw [f3 61 (by omega), f2 61 (by omega)] at hj
    have t := Q1.2.2.2.2.2.2.2 j hj
    exact ⟨t.1, ⟨by rw [f3 _ (by omega), f2 _ (by omega)]; exact t.2.1, fun i hi => by rw [f3 _ (by omega), f2 _ (by omega), f3 _ (by omega), f2 _ (by omega)]; exact t.2.2 i hi⟩⟩
  have e : zt_ct T 2 = (((zt_ct T 2).toNat : Nat) : Int) := by omega
  rw [e]
  exact s_131_61 q1 (jz_e62 (by omega)) (by omega) (zS_gd q1 q2 (by omega)) i2 (zt_ct T 2).toNat (by omega) (by omega) (zt_ct T 2).toNat 0 J2 (by omega) ⟨by rw [f2 _ (by omega)]; exact l1.2.1, fun i hi => by rw [f2 _ (by omega), f2 _ (by omega)]; exact l1.2.2 i hi⟩ r2 (fun j hj => by omega) (fun J' p f3 hp e2 => h (by omega) J' p (cF_tr f1 (kn J' f3).1) (kn J' f3).2 hp e2)
theorem s_256_84 {xs : Nat → Int32} {L d : Nat} {K : jZ} {P : Int → jZ → jZ → Prop} {s : Nat → Int} {i : Int} (N : Nat) (hN : N ≤ 60) (hi : 0 ≤ i ∧ i < N) : ∀ (n : Nat), (∀ (p : Nat) (J : jZ), p + n = N → (∀ k, k < N → J 202 k = s k ∧ -2147483648 ≤ s k ∧ s k < 2147483648) → (∀ q, q < p → J 203 (zq_ah s N q).toNat = (q : Int)) → (∀ J', (∀ x, x ≠ 203 → J' x = J x) → (∀ q, q < N → J' 203 (zq_ah s N q).toNat = (q : Int)) → P (J' 203 i.toNat) J' K) → l_256_72 xs L (d + 8) i (N : Int) (p : Int) J K P) ∧ (∀ (m k p : Nat) (v : Int) (J : jZ), k + m = N → p + (n + 1) = N → v = zq_ah s k p → (∀ k, k < N → J 202 k = s k ∧ -2147483648 ≤ s k ∧ s k < 2147483648) → (∀ q, q < p → J 203 (zq_ah s N q).toNat = (q : Int)) → (∀ J', (∀ x, x ≠ 203 → J' x = J x) → (∀ q, q < N → J' 203 (zq_ah s N q).toNat = (q : Int)) → P (J' 203 i.toNat) J' K) → l_256_84 xs L (d + 8) i (N : Int) (p : Int) v (k : Int) J K P) := by
  intro n
  induction n with
  | zero =>
    have base : ∀ (p : Nat) (J : jZ), p + 0 = N → (∀ k, k < N → J 202 k = s k ∧ -2147483648 ≤ s k ∧ s k < 2147483648) → (∀ q, q < p → J 203 (zq_ah s N q).toNat = (q : Int)) → (∀ J', (∀ x, x ≠ 203 → J' x = J x) → (∀ q, q < N → J' 203 (zq_ah s N q).toNat = (q : Int)) → P (J' 203 i.toNat) J' K) → l_256_72 xs L (d + 8) i (N : Int) (p : Int) J K P := fun p J hp hr hq h =>
      e_256_72 ⟨by omega, by omega, fun q => ⟨by omega, h J (fun _ _ => rfl) (fun q hq2 => hq q (by omega))⟩, fun q => by omega⟩
    refine ⟨base, ?_⟩
    intro m
    induction m with
    | zero =>
      intro k p v J hk hp hv hr hq h
      have hb := zq_ah_r s N p (by omega)
      have hkN : k = N := by omega
      rw [hkN] at hv
      refine e_256_84 ⟨by omega, by omega, fun q => ⟨by omega, ?_⟩, fun q => by omega⟩
      refine base (p + 1) _ (by omega) (by rw [zu_row (by omega)]; exact hr) (fun q hq2 => ?_) (fun J' f => h J' (fun x hx => by rw [f x hx, zu_row hx]))
      rw [hv]
      by_cases c : q = p
      · subst c
        exact zu_self
      · have ne : ¬ (zq_ah s N q).toNat = (zq_ah s N p).toNat := fun e => c (zq_ah_inj (s := s) (n := N) (by omega) (by omega) (by have := zq_ah_r s N q (by omega); omega))
        rw [zu_key ne]
        exact hq q (by omega)
    | succ m ih =>
      intro k p v J hk hp hv hr hq h
      have hb := zn_r (f := fun q => if s p < s q ∨ (s q = s p ∧ q < p) then 1 else 0) (fun k => by split <;> omega) k
      have rk := hr k (by omega)
      have rp := hr p (by omega)
      have n0 : ¬ (s p < s k ∨ (s k = s p ∧ k < p)) → l_256_84 xs L (d + 8) i (N : Int) (p : Int) (v + 0) ((k : Int) + 1) J K P := fun q2 => by
        refine ih (k + 1) p _ J (by omega) hp ?_ hr hq h
        unfold zq_ah at hv ⊢
        rw [zn, ← hv, if_neg q2]
      have n1 : (s p < s k ∨ (s k = s p ∧ k < p)) → l_256_84 xs L (d + 8) i (N : Int) (p : Int) (v + 1) ((k : Int) + 1) J K P := fun q2 => by
        refine ih (k + 1) p _ J (by omega) hp ?_ hr hq h
        unfold zq_ah at hv ⊢
        rw [zn, ← hv, if_pos q2]
      refine e_256_84 ?_
      simp only [Int.toNat_natCast]
      rw [rk.1, rp.1]
      exact ⟨by omega, by omega, fun q => by omega, fun q => ⟨by omega, by omega, rk.2, rp.2, fun q2 => n1 (by omega), fun q2 => ⟨fun q3 => n0 (by omega), fun q3 => ⟨by omega, fun q4 => n0 (by omega), fun q4 => n1 (by omega)⟩⟩⟩⟩
  | succ n ihn =>
    have base : ∀ (p : Nat) (J : jZ), p + (n + 1) = N → (∀ k, k < N → J 202 k = s k ∧ -2147483648 ≤ s k ∧ s k < 2147483648) → (∀ q, q < p → J 203 (zq_ah s N q).toNat = (q : Int)) → (∀ J', (∀ x, x ≠ 203 → J' x = J x) → (∀ q, q < N → J' 203 (zq_ah s N q).toNat = (q : Int)) → P (J' 203 i.toNat) J' K) → l_256_72 xs L (d + 8) i (N : Int) (p : Int) J K P := fun p J hp hr hq h =>
      e_256_72 ⟨by omega, by omega, fun q => by omega, fun q => ihn.2 N 0 p 0 J (by omega) hp rfl hr hq h⟩
    refine ⟨base, ?_⟩
    intro m
    induction m with
    | zero =>
      intro k p v J hk hp hv hr hq h
      have hb := zq_ah_r s N p (by omega)
      have hkN : k = N := by omega
      rw [hkN] at hv
      refine e_256_84 ⟨by omega, by omega, fun q => ⟨by omega, ?_⟩, fun q => by omega⟩
      refine base (p + 1) _ (by omega) (by rw [zu_row (by omega)]; exact hr) (fun q hq2 => ?_) (fun J' f => h J' (fun x hx => by rw [f x hx, zu_row hx]))
      rw [hv]
      by_cases c : q = p
      · subst c
        exact zu_self
      · have ne : ¬ (zq_ah s N q).toNat = (zq_ah s N p).toNat := fun e => c (zq_ah_inj (s := s) (n := N) (by omega) (by omega) (by have := zq_ah_r s N q (by omega); omega))
        rw [zu_key ne]
        exact hq q (by omega)
    | succ m ih =>
      intro k p v J hk hp hv hr hq h
      have hb := zn_r (f := fun q => if s p < s q ∨ (s q = s p ∧ q < p) then 1 else 0) (fun k => by split <;> omega) k
      have rk := hr k (by omega)
      have rp := hr p (by omega)
      have n0 : ¬ (s p < s k ∨ (s k = s p ∧ k < p)) → l_256_84 xs L (d + 8) i (N : Int) (p : Int) (v + 0) ((k : Int) + 1) J K P := fun q2 => by
        refine ih (k + 1) p _ J (by omega) hp ?_ hr hq h
        unfold zq_ah at hv ⊢
        rw [zn, ← hv, if_neg q2]
      have n1 : (s p < s k ∨ (s k = s p ∧ k < p)) → l_256_84 xs L (d + 8) i (N : Int) (p : Int) (v + 1) ((k : Int) + 1) J K P := fun q2 => by
        refine ih (k + 1) p _ J (by omega) hp ?_ hr hq h
        unfold zq_ah at hv ⊢
        rw [zn, ← hv, if_pos q2]
      refine e_256_84 ?_
      simp only [Int.toNat_natCast]
      rw [rk.1, rp.1]
      exact ⟨by omega, by omega, fun q => by omega, fun q => ⟨by omega, by omega, rk.2, rp.2, fun q2 => n1 (by omega), fun q2 => ⟨fun q3 => n0 (by omega), fun q3 => ⟨by omega, fun q4 => n0 (by omega), fun q4 => n1 (by omega)⟩⟩⟩⟩
theorem s_256_43 {xs : Nat → Int32} {L d : Nat} {K : jZ} {P : Int → jZ → jZ → Prop} {T : zT} {l : zL} {j : Nat} {i : Int} (hT : zt_ok T) (hj : j < 24) (hg : zs_gd T.1 l) (N : Nat) (hNc : (N : Int) = zt_ct T 2) (hi : 0 ≤ i ∧ i < N) : ∀ (n k : Nat) (J : jZ), k + n = N → zm_at J j l → mT_at J T → (∀ q, q < k → J 202 q = zq_sc T l q) → (∀ J' (p : Nat), (∀ x, x ≠ 202 → x ≠ 203 → J' x = J x) → p < N → zq_ah (fun j => zq_sc T l j) N p = i → P (p : Int) J' K) → l_256_43 xs L (d + 8) (j : Int) i (N : Int) (k : Int) J K P
  | n, k, J, hn, hr, hm, hs, h => by
    have h60 := hT.1
    have hct := zt_ct_r hT 2
    refine e_256_43 ⟨by omega, by omega, fun q => ?_, fun q => ?_⟩
    · obtain rfl : k = N := by omega
      refine (s_256_84 (s := fun j => zq_sc T l j) k (by omega) hi k).1 0 J (by omega) (fun j hj => ⟨hs j hj, ?_⟩) (fun q hq => by omega) (fun J' f g => ?_)
      · have := zq_sc_r (T := T) hg.1 (j : Int) l.length (Nat.le_refl _)
        have := hg.1.1
        unfold zq_sc
        omega
      · obtain ⟨p, hp, e⟩ := zq_ah_ex (s := fun j => zq_sc T l j) hi
        have := g p hp
        rw [e] at this
        rw [this]
        exact h J' p (fun x _ hx => f x hx) hp e
    · match n, hn with
      | 0, hn => omega
      | n + 1, hn =>
        refine s_255 hT (by omega) hr hm hg (by omega) ⟨by omega, ?_⟩
        rw [Int.toNat_natCast]
        refine s_256_43 hT hj hg N hNc hi n (k + 1) _ (by omega) ⟨by rw [zu_row (by omega)]; exact hr.1, fun t ht => by rw [zu_row (by omega), zu_row (by omega)]; exact hr.2 t ht⟩ (mT_of hm (by rw [zu_row (by omega)]) (zu_row (by omega)) (zu_row (by omega)) (zu_row (by omega))) (fun j hj => ?_) (fun J' p f => h J' p (fun x hx hx2 => by rw [f x hx hx2, zu_row hx]))
        by_cases c : j = k
        · subst c
          exact zu_self
        · rw [zu_key c]
          exact hs j (by omega)
theorem m_256 {xs : Nat → Int32} {L d : Nat} {J K : jZ} {P : Int → jZ → jZ → Prop} {T : zT} {A : zA} (hQ : mQ J T A) {a i : Int} (ha : -2147483648 ≤ a ∧ a < 2147483648) (hi : -2147483648 ≤ i ∧ i < 2147483648) (hb : ¬ ((0 ≤ a ∧ a < A.1) ∧ (0 ≤ i ∧ i < zt_ct T 2)) → P (-2) (rM J 2) K) (h : (0 ≤ a ∧ a < A.1) ∧ (0 ≤ i ∧ i < zt_ct T 2) → ∀ J' (p : Nat), mF J J' → mQ J' T A → p < (zt_ct T 2).toNat → zq_ah (fun j => zq_sc T (zk_sem (-1) T A a.toNat) j) (zt_ct T 2).toNat p = i → P (p : Int) J' K) : q_256 xs L (d + 9) a i J K P := by
  have h24 := hQ.2.1.1
  have h1 := hQ.2.2.2.1.1
  have hct := zt_ct_r hQ.1 2
  have h60 := hQ.1.1
  refine e_256 ⟨ha, by omega, fun q => ⟨hi, s_254 hQ.1 hQ.2.2.1 ⟨by omega, fun q2 => ?_, fun q2 => s_170 (k := 2) (by omega) (by omega) (hb (by omega))⟩⟩, fun q => s_170 (k := 2) (by omega) (by omega) (hb (by omega))⟩
  obtain ⟨k, rfl⟩ : ∃ k : Nat, a = (k : Int) := ⟨a.toNat, by omega⟩
  rw [Int.toNat_natCast] at h
  have e : zt_ct T 2 = (((zt_ct T 2).toNat : Nat) : Int) := by omega
  refine s_work hQ (fun J1 f1 Q1 l1 => s_254 hQ.1 Q1.2.2.1 ?_)
  rw [e]
  refine s_256_43 hQ.1 (by omega) (zS_gd hQ.1 hQ.2.1 (by omega)) (zt_ct T 2).toNat (by omega) (by omega) (zt_ct T 2).toNat 0 J1 (by omega) (l1 k (by omega)) Q1.2.2.1 (fun q hq => by omega) (fun J' p f hp e2 => ?_)
  have F2 : mF J1 J' := ⟨fun x x1 x2 => f x (by omega) (by omega), fun j _ => by rw [f 167 (by omega) (by omega)]⟩
  refine h (by omega) J' p (mF_tr f1 F2) (mQ_F Q1 F2 ⟨by rw [f 167 (by omega) (by omega)]; exact Q1.2.2.2.2.2.1, fun _ => fun j hj => ?_⟩) hp e2
  have := l1 j hj
  exact ⟨by rw [f _ (by omega) (by omega)]; exact this.1, fun t ht => by rw [f _ (by omega) (by omega), f _ (by omega) (by omega)]; exact this.2 t ht⟩
