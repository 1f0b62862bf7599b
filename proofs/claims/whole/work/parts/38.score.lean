/-! Parts and sentences counted; score. -/
def zt_ea (T : zT) (m : Int) : Nat → Int := zn (fun k => if m ≤ T.2.2.1 k then 1 else 0)
theorem zt_ea_r (T : zT) (m : Int) (n : Nat) : 0 ≤ zt_ea T m n ∧ zt_ea T m n ≤ n := zn_r (fun k => by split <;> omega) n
def zt_ct (T : zT) (m : Int) : Int := if T.1 = 0 then 0 else zt_ea T m (T.1 - 1) + 1
theorem zt_ct_r {T : zT} (hT : zt_ok T) (m : Int) : 0 ≤ zt_ct T m ∧ zt_ct T m ≤ T.1 := by
  have := zt_ea_r T m (T.1 - 1)
  unfold zt_ct
  split <;> omega
theorem s_112_5 {xs : Nat → Int32} {L d : Nat} {J K : jZ} {P : Int → jZ → jZ → Prop} {T : zT} {m : Int} {a N : Nat} (hT : zt_ok T) (hm : -2147483648 ≤ m ∧ m < 2147483648) (ha : jz_kd a = 18) (hr : ∀ k, k < T.1 → J (a + 2) k = T.2.2.1 k) (hN : N ≤ T.1) (h : P (zt_ea T m N) J K) : ∀ (n k : Nat) (u : Int), k + n = N → u = zt_ea T m k → l_112_5 xs L (d + 0) a (N : Int) m u (k : Int) J K P
  | n, k, u, hn, hu => by
    have h60 := hT.1
    refine e_112_5 ha ⟨by omega, by omega, fun q => ?_, fun q => ?_⟩
    · obtain rfl : k = N := by omega
      rw [hu]
      exact h
    · match n, hn with
      | 0, hn => omega
      | n + 1, hn =>
        have hb := hT.2.2.1 k (by omega)
        rw [Int.toNat_natCast, hr k (by omega)]
        refine ⟨by omega, by omega, hm, fun q2 => ?_, fun q2 => ?_⟩
        · refine s_112_5 hT hm ha hr hN h n (k + 1) _ (by omega) ?_
          unfold zt_ea at hu ⊢
          rw [zn, ← hu, if_neg (by omega)]
        · refine s_112_5 hT hm ha hr hN h n (k + 1) _ (by omega) ?_
          unfold zt_ea at hu ⊢
          rw [zn, ← hu, if_pos (by omega)]
theorem s_112 {xs : Nat → Int32} {L d : Nat} {J K : jZ} {P : Int → jZ → jZ → Prop} {T : zT} {m : Int} {a N : Nat} (hT : zt_ok T) (hm : -2147483648 ≤ m ∧ m < 2147483648) (ha : jz_kd a = 18) (hr : zt_at J a T) (hN : N ≤ T.1) (h : P (zt_ea T m N) J K) : q_112 xs L (d + 1) a (N : Int) m J K P :=
  e_112 ha (s_112_5 hT hm ha (fun k hk => (hr.2.1 k hk).2) hN h N 0 0 (by omega) rfl)
theorem s_129 {xs : Nat → Int32} {L d : Nat} {J K : jZ} {P : Int → jZ → jZ → Prop} {T : zT} {m : Int} {a : Nat} (hT : zt_ok T) (hm : -2147483648 ≤ m ∧ m < 2147483648) (ha : jz_kd a = 18) (hr : zt_at J a T) (h : P (zt_ct T m) J K) : q_129 xs L (d + 2) a m J K P := by
  have h60 := hT.1
  have h3 := hr.1
  refine e_129 ha ⟨by omega, fun q => ?_, fun q => ?_⟩
  · rw [h3, show (T.1 : Int) - 1 = ((T.1 - 1 : Nat) : Int) by omega]
    refine s_112 hT hm ha hr (by omega) ?_
    rw [zt_ct, if_neg (by omega)] at h
    exact h
  · rw [zt_ct, if_pos (by omega)] at h
    exact h
theorem s_240_5 {xs : Nat → Int32} {L d : Nat} {J K : jZ} {P : Int → jZ → jZ → Prop} {T : zT} {m : Int} {N : Nat} (hT : zt_ok T) (hm : -2147483648 ≤ m ∧ m < 2147483648) (hr : ∀ k, k < T.1 → J 185 k = T.2.2.1 k) (hN : N ≤ T.1) (h : P (zt_ea T m N) J K) : ∀ (n k : Nat) (u : Int), k + n = N → u = zt_ea T m k → l_240_5 xs L (d + 0) (N : Int) m u (k : Int) J K P
  | n, k, u, hn, hu => by
    have h60 := hT.1
    refine e_240_5 ⟨by omega, by omega, fun q => ?_, fun q => ?_⟩
    · obtain rfl : k = N := by omega
      rw [hu]
      exact h
    · match n, hn with
      | 0, hn => omega
      | n + 1, hn =>
        have hb := hT.2.2.1 k (by omega)
        rw [Int.toNat_natCast, hr k (by omega)]
        refine ⟨by omega, by omega, hm, fun q2 => ?_, fun q2 => ?_⟩
        · refine s_240_5 hT hm hr hN h n (k + 1) _ (by omega) ?_
          unfold zt_ea at hu ⊢
          rw [zn, ← hu, if_neg (by omega)]
        · refine s_240_5 hT hm hr hN h n (k + 1) _ (by omega) ?_
          unfold zt_ea at hu ⊢
          rw [zn, ← hu, if_pos (by omega)]
theorem s_240 {xs : Nat → Int32} {L d : Nat} {J K : jZ} {P : Int → jZ → jZ → Prop} {T : zT} {m : Int} {N : Nat} (hT : zt_ok T) (hm : -2147483648 ≤ m ∧ m < 2147483648) (hr : mT_at J T) (hN : N ≤ T.1) (h : P (zt_ea T m N) J K) : q_240 xs L (d + 1) (N : Int) m J K P :=
  e_240 (s_240_5 hT hm (fun k hk => (hr.2.1 k hk).2) hN h N 0 0 (by omega) rfl)
theorem s_254 {xs : Nat → Int32} {L d : Nat} {J K : jZ} {P : Int → jZ → jZ → Prop} {T : zT} (hT : zt_ok T) (hr : mT_at J T) (h : P (zt_ct T 2) J K) : q_254 xs L (d + 2) J K P := by
  have h60 := hT.1
  have h3 := hr.1
  refine e_254 ⟨by omega, fun q => ?_, fun q => ?_⟩
  · rw [h3, show (T.1 : Int) - 1 = ((T.1 - 1 : Nat) : Int) by omega]
    refine s_240 hT (by omega) hr (by omega) ?_
    rw [zt_ct, if_neg (by omega)] at h
    exact h
  · rw [zt_ct, if_pos (by omega)] at h
    exact h
-- the parts as regions
theorem zk_reg_ex {T : zT} {g : Int} {a : Nat} (ha : a < T.1) (h : a = 0 ∨ zk_end T g (a - 1)) : ∃ b, zk_reg T g (a : Int) (b : Int) ∧ a ≤ b ∧ b < T.1 := by
  have he : ∃ k, a ≤ k ∧ k < T.1 ∧ zk_end T g k := ⟨T.1 - 1, by omega, by omega, .inl (by omega)⟩
  obtain ⟨b, ⟨h1, h2, h3⟩, h4⟩ := zn_least he
  exact ⟨(b : Int), ⟨a, b, rfl, rfl, h1, h2, h3, h, fun p p1 p2 p3 => h4 p p2 ⟨p1, by omega, p3⟩⟩, by omega, by omega⟩
/-- the parts' list: the number of a place's part, by the ends ahead of it -/
theorem zr_in {T : zT} {R : zL} (hR : zl_isl (zk_reg T 1) R) (hN : T.1 ≤ 60) : ∀ p : Nat, p < T.1 → ∃ j : Nat, zt_ea T 2 p = (j : Int) ∧ j < R.length ∧ zs_f R j ≤ p ∧ (p : Int) ≤ zs_l R j := by
  have mem : ∀ {x y : Int}, zk_reg T 1 x y → zs_in R x y := fun {x y} q => by
    have hb := zk_reg_b q
    refine (hR.2 x y).mpr ⟨hb.1, by omega, q, fun e' q2 => ?_, fun f' e' h1 h2 q2 => ?_⟩
    · obtain ⟨a, b, rfl, rfl, c1, c2, c3, c4, c5⟩ := q
      obtain ⟨a', b', e1, rfl, d1, d2, d3, d4, d5⟩ := q2
      by_cases t : b ≤ b'
      · omega
      · exact absurd d3 (c5 b' (by omega) (by omega))
    · obtain ⟨a, b, rfl, rfl, c1, c2, c3, c4, c5⟩ := q
      obtain ⟨a', b', rfl, rfl, d1, d2, d3, d4, d5⟩ := q2
      by_cases t : b < b'
      · omega
      · rcases d4 with d4 | d4
        · omega
        · by_cases t2 : b' = b
          · exact absurd d4 (c5 (a' - 1) (by omega) (by omega))
          · exact absurd d3 (c5 b' (by omega) (by omega))
  have reg : ∀ {j : Nat}, j < R.length → zk_reg T 1 (zs_f R j) (zs_l R j) := fun hj => ((hR.2 _ _).mp ⟨_, hj, rfl, rfl⟩).2.2.1
  intro p
  induction p with
  | zero =>
    intro hp
    obtain ⟨b, q, h1, h2⟩ := zk_reg_ex (g := 1) hp (.inl rfl)
    obtain ⟨j, hj, e1, e2⟩ := mem q
    have : j = 0 := by
      by_cases t : j = 0
      · exact t
      · have := hR.1.2.2 0 j (by omega) hj
        have := hR.1.2.1 0 (by omega)
        omega
    subst this
    exact ⟨0, rfl, hj, by omega, by omega⟩
  | succ p ih =>
    intro hp
    obtain ⟨j, h1, h2, h3, h4⟩ := ih (by omega)
    have hreg := reg h2
    obtain ⟨a, b, e1, e2, c1, c2, c3, c4, c5⟩ := hreg
    by_cases q : zk_end T 1 p
    · have hpb : b = p := by
        by_cases t : p < b
        · exact absurd q (c5 p (by omega) t)
        · omega
      have hm : 2 ≤ T.2.2.1 p := by
        unfold zk_end at q
        omega
      obtain ⟨b', q2, h5, h6⟩ := zk_reg_ex (T := T) (g := 1) (a := p + 1) (by omega) (.inr (by simpa using q))
      obtain ⟨i, hi, e3, e4⟩ := mem q2
      have hij : j < i := by
        by_cases t : j < i
        · exact t
        · have := zs_mono hR.1 (show i ≤ j by omega) h2
          omega
      have : i = j + 1 := by
        by_cases t : i = j + 1
        · exact t
        · exfalso
          have m1 := hR.1.2.2 j (j + 1) (by omega) (by omega)
          have m2 := hR.1.2.2 (j + 1) i (by omega) hi
          obtain ⟨a2, b2, f1, f2, g1, g2, g3, g4, g5⟩ := reg (show j + 1 < R.length by omega)
          rcases g4 with g4 | g4
          · omega
          · exact c5 (a2 - 1) (by omega) (by omega) g4
      subst this
      refine ⟨j + 1, ?_, hi, by omega, by omega⟩
      unfold zt_ea at h1 ⊢
      rw [zn, h1, if_pos hm]
      rfl
    · have hm : ¬ 2 ≤ T.2.2.1 p := by
        unfold zk_end at q
        omega
      refine ⟨j, ?_, h2, by omega, ?_⟩
      · unfold zt_ea at h1 ⊢
        rw [zn, h1, if_neg hm]
        omega
      · by_cases t : b = p
        · subst t
          exact absurd c3 q
        · omega
/-- a place is in one part only -/
theorem zr_u {T : zT} {R : zL} (hR : zl_isl (zk_reg T 1) R) {i j : Nat} {p : Int} (hi : i < R.length) (hj : j < R.length) (h1 : zs_f R i ≤ p ∧ p ≤ zs_l R i) (h2 : zs_f R j ≤ p ∧ p ≤ zs_l R j) : i = j := by
  have key : ∀ i j : Nat, i < j → j < R.length → zs_f R i ≤ p ∧ p ≤ zs_l R i → zs_f R j ≤ p ∧ p ≤ zs_l R j → False := fun i j hij hj h1 h2 => by
    have m := hR.1.2.2 i j hij hj
    obtain ⟨a, b, e1, e2, c1, c2, c3, c4, c5⟩ := ((hR.2 _ _).mp ⟨i, by omega, rfl, rfl⟩).2.2.1
    obtain ⟨a2, b2, f1, f2, g1, g2, g3, g4, g5⟩ := ((hR.2 _ _).mp ⟨j, hj, rfl, rfl⟩).2.2.1
    rcases g4 with g4 | g4
    · omega
    · exact c5 (a2 - 1) (by omega) (by omega) g4
  by_cases q : i < j
  · exact (key i j q hj h1 h2).elim
  · by_cases q2 : j < i
    · exact (key j i q2 hi h2 h1).elim
    · omega
theorem zr_len {T : zT} {R : zL} (hR : zl_isl (zk_reg T 1) R) (hN : T.1 ≤ 60) : (R.length : Int) = zt_ct T 2 := by
  unfold zt_ct
  split
  · rename_i h0
    by_cases q : R.length = 0
    · omega
    · obtain ⟨a, b, e1, e2, c1, c2, -⟩ := ((hR.2 _ _).mp ⟨0, by omega, rfl, rfl⟩).2.2.1
      omega
  · rename_i h0
    obtain ⟨j, h1, h2, h3, h4⟩ := zr_in hR hN (T.1 - 1) (by omega)
    rw [h1]
    by_cases q : j + 1 = R.length
    · omega
    · have := hR.1.2.2 j (j + 1) (by omega) (by omega)
      obtain ⟨a, b, e1, e2, c1, c2, -⟩ := ((hR.2 _ _).mp ⟨j + 1, by omega, rfl, rfl⟩).2.2.1
      omega
theorem zr_ea {T : zT} {R : zL} (hR : zl_isl (zk_reg T 1) R) (hN : T.1 ≤ 60) {j : Nat} (hj : j < R.length) {p : Nat} (hp : p < T.1) : zt_ea T 2 p = (j : Int) ↔ zs_f R j ≤ p ∧ (p : Int) ≤ zs_l R j := by
  obtain ⟨i, h1, h2, h3, h4⟩ := zr_in hR hN p hp
  constructor
  · intro q
    obtain rfl : i = j := by omega
    exact ⟨h3, h4⟩
  · intro q
    rw [h1, zr_u hR h2 hj ⟨h3, h4⟩ q]
/-- what the k-th span gives to a part -/
def zq_g (T : zT) (l : zL) (p : Int) (k : Nat) : Int := if zt_ea T 2 (zs_f l k).toNat = p ∧ zt_ea T 2 (zs_l l k).toNat = p then jz_div 5040 (zs_s l k) else 0
def zq_sc (T : zT) (l : zL) (p : Int) : Int := zn (zq_g T l p) l.length
theorem zq_div {s : Int} (h : 1 ≤ s ∧ s ≤ 60) : 0 ≤ jz_div 5040 s ∧ jz_div 5040 s ≤ 5040 := by
  have key : ∀ n : Nat, n < 60 → (0 ≤ jz_div 5040 ((n : Int) + 1) ∧ jz_div 5040 ((n : Int) + 1) ≤ 5040) := by decide +kernel
  have := key (s - 1).toNat (by omega)
  rwa [show (((s - 1).toNat : Nat) : Int) + 1 = s by omega] at this
theorem zq_sc_r {T : zT} {l : zL} (hg : zs_ok l) (p : Int) : ∀ n : Nat, n ≤ l.length → 0 ≤ zn (zq_g T l p) n ∧ zn (zq_g T l p) n ≤ 5040 * n
  | 0, _ => by simp [zn]
  | n + 1, h => by
    have := zq_sc_r (T := T) hg p n (by omega)
    have := zq_div (zs_s_r hg (show n < l.length by omega))
    have hg2 : 0 ≤ zq_g T l p n ∧ zq_g T l p n ≤ 5040 := by
      unfold zq_g
      split <;> omega
    rw [zn]
    omega
theorem zn_z {f : Nat → Int} : ∀ n : Nat, (∀ k, k < n → f k = 0) → zn f n = 0
  | 0, _ => rfl
  | n + 1, h => by rw [zn, zn_z n (fun k hk => h k (by omega)), h n (by omega)]; rfl
theorem zn_keep {f : Nat → Int} {a : Nat} : ∀ n : Nat, a ≤ n → (∀ k, a ≤ k → k < n → f k = 0) → zn f n = zn f a
  | 0, h, _ => by
    obtain rfl : a = 0 := by omega
    rfl
  | n + 1, h, hz => by
    by_cases q : a = n + 1
    · subst q
      rfl
    · rw [zn, zn_keep n (by omega) (fun k h1 h2 => hz k h1 (by omega)), hz n (by omega) (by omega)]
      omega
theorem s_130_49 {xs : Nat → Int32} {L d : Nat} {J K : jZ} {P : Int → jZ → jZ → Prop} {l : zL} {a : Nat} {F : Nat → Int} {e : Int} (ha : jz_kd a = 16) (hr : zs_at J a l) (hg : zs_ok l) (he : 0 ≤ e ∧ e ≤ l.length) (h : P (zn F l.length) J K) (hF : ∀ k : Nat, (k : Int) < e → F k = 0 ∨ True) : ∀ (n k : Nat) (v : Int), (k : Int) + n = max e k → v = zn F k → (∀ j, k ≤ j → (j : Int) < e → F j = jz_div 5040 (zs_s l j)) → (∀ j : Nat, e ≤ (j : Int) → k ≤ j → j < l.length → F j = 0) → k ≤ l.length → l_130_49 xs L (d + 1) a v e (k : Int) J K P
  | n, k, v, hn, hv, h1, h2, hkl => by
    have h60 := hg.1
    refine e_130_49 ha ⟨by omega, by omega, fun q => ?_, fun q => ?_⟩
    · rw [zn_keep l.length hkl (fun j j1 j2 => h2 j (by omega) j1 j2), ← hv] at h
      exact h
    · match n, hn with
      | 0, hn => omega
      | n + 1, hn =>
        have hk := hr.2 k (by omega)
        have hs := zs_s_r hg (show k < l.length by omega)
        rw [Int.toNat_natCast, hk.1, hk.2, show zs_l l k - zs_f l k + 1 = zs_s l k from rfl]
        refine ⟨by omega, by omega, fun q2 => by omega, fun q2 => ⟨by omega, s_130_49 ha hr hg he h hF n (k + 1) _ (by omega) ?_ (fun j j1 j2 => h1 j (by omega) j2) (fun j j1 j2 j3 => h2 j j1 (by omega) j3) (by omega)⟩⟩
        rw [zn, ← hv, h1 k (Nat.le_refl _) q]
theorem s_130 {xs : Nat → Int32} {L d : Nat} {J K : jZ} {P : Int → jZ → jZ → Prop} {T : zT} {l R : zL} {a : Nat} {p : Int} (hT : zt_ok T) (ha : jz_kd a = 16) (hr : zs_at J a l) (hg : zs_gd T.1 l) (hR : zl_isl (zk_reg T 1) R) (hr2 : zs_at J 140 R) (hp : 0 ≤ p ∧ p < zt_ct T 2) (h : P (zq_sc T l p) J K) : q_130 xs L (d + 2) a p J K P := by
  have h60 := hT.1
  have hl60 := hg.1.1
  have hlen := zr_len hR h60
  have hct := zt_ct_r hT 2
  have r2 := hr2.1
  obtain ⟨k, rfl⟩ : ∃ k : Nat, p = (k : Int) := ⟨p.toNat, by omega⟩
  have hk : k < R.length := by omega
  have hrk := hr2.2 k hk
  have hbk := hR.1.2.1 k hk
  rw [show 140 + 1 = 141 from rfl, show 140 + 2 = 142 from rfl] at hrk
  refine e_130 ha ⟨by omega, by omega, fun q => ⟨by omega, ?_⟩, fun q => by omega⟩
  rw [Int.toNat_natCast, hrk.2]
  refine s_118 ha hr hg.1 (by omega) (fun e he => ?_)
  rw [hrk.1]
  refine ⟨by omega, s_45 ha hr hg.1 (by omega) (by omega) (fun r hr' => ?_)⟩
  obtain ⟨b1, b2, b3, b4⟩ := he
  obtain ⟨a1, a2, a3, a4⟩ := hr'
  obtain ⟨r0, rfl⟩ : ∃ r0 : Nat, r = (r0 : Int) := ⟨r.toNat, by omega⟩
  have cond : ∀ j, j < l.length → ((zt_ea T 2 (zs_f l j).toNat = (k : Int) ∧ zt_ea T 2 (zs_l l j).toNat = (k : Int)) ↔ r0 ≤ j ∧ (j : Int) < e) := fun j hj => by
    have hb := hg.1.2.1 j hj
    have hn := hg.2 j hj
    rw [zr_ea hR h60 hk (by omega), zr_ea hR h60 hk (by omega)]
    have m1 : r0 ≤ j → zs_f R k ≤ zs_f l j := fun t => by
      have := a4 r0 rfl (by omega)
      have := zs_mono hg.1 t hj
      omega
    have m2 : e ≤ (j : Int) → zs_l R k + 1 ≤ zs_l l j := fun t => by
      have := b4 e.toNat (by omega) (by omega)
      have := zs_mono hg.1 (show e.toNat ≤ j by omega) hj
      omega
    have m3 : j < r0 → zs_f l j < zs_f R k := fun t => a3 j (by omega) (by omega)
    have m4 : (j : Int) < e → zs_l l j < zs_l R k + 1 := fun t => b3 j t
    constructor
    · rintro ⟨⟨c1, c2⟩, c3, c4⟩
      exact ⟨by by_cases t : r0 ≤ j
                · exact t
                · have := m3 (by omega)
                  omega, by by_cases t : (j : Int) < e
                            · exact t
                            · have := m2 (by omega)
                              omega⟩
    · rintro ⟨c1, c2⟩
      have := m1 c1
      have := m4 c2
      omega
  refine s_130_49 (F := zq_g T l (k : Int)) ha hr hg.1 ⟨b1, b2⟩ h (fun _ _ => .inr trivial) (max e (r0 : Int) - r0).toNat r0 0 (by omega) ?_ (fun j j1 j2 => ?_) (fun j j1 j2 j3 => ?_) (by omega)
  · rw [zn_z r0 (fun j hj => ?_)]
    unfold zq_g
    rw [if_neg (fun t => by have := (cond j (by omega)).mp t; omega)]
  · unfold zq_g
    rw [if_pos ((cond j (by omega)).mpr ⟨j1, j2⟩)]
  · unfold zq_g
    rw [if_neg (fun t => by have := (cond j j3).mp t; omega)]
theorem c_128 {xs : Nat → Int32} {L d : Nat} {J K : jZ} {P : Int → jZ → jZ → Prop} {T : zT} {A : zA} (hQ : cQ J T A) {a p : Int} (ha : -2147483648 ≤ a ∧ a < 2147483648) (hp : -2147483648 ≤ p ∧ p < 2147483648) (hb : ¬ ((0 ≤ a ∧ a < A.1) ∧ (0 ≤ p ∧ p < zt_ct T 2)) → P (-2) (rC J 0) K) (h : (0 ≤ a ∧ a < A.1) ∧ (0 ≤ p ∧ p < zt_ct T 2) → ∀ J', cF J J' → cQ J' T A → P (zq_sc T (zk_sem (-1) T A a.toNat) p) J' K) : q_128 xs L (d + 7) a p J K P := by
  have hQ' := hQ
  obtain ⟨q1, q2, q3, q4, q5, q6, q7, q8⟩ := hQ
  have h24 := q2.1
  have h1 := q4.1
  have hct := zt_ct_r q1 2
  have h60 := q1.1
  refine e_128 ⟨ha, by omega, fun q => ⟨hp, fun t => s_13 (k := 0) (by omega) (by omega) (hb (by omega)), fun t => s_129 q1 (by omega) rfl q3 ⟨by omega, fun t2 => ?_, fun t2 => s_13 (k := 0) (by omega) (by omega) (hb (by omega))⟩⟩, fun q => s_13 (k := 0) (by omega) (by omega) (hb (by omega))⟩
  obtain ⟨k, rfl⟩ : ∃ k : Nat, a = (k : Int) := ⟨a.toNat, by omega⟩
  rw [Int.toNat_natCast] at h
  refine s_38 (by omega) rfl rfl (by omega) q1 q3 (fun J1 R f1 r1 i1 => ?_)
  have F1 : cF J J1 := ⟨fun x x1 x2 x3 => f1 x (by omega), fun j _ => by rw [f1 61 (by omega)]⟩
  have Q1 : cQ J1 T A := cQ_F hQ' F1 (fun j hj => by
    rw [f1 61 (by omega)] at hj
    have := q8 j hj
    exact ⟨this.1, ⟨by rw [f1 _ (by omega)]; exact this.2.1, fun i hi => by rw [f1 _ (by omega), f1 _ (by omega)]; exact this.2.2 i hi⟩⟩)
  refine s_of Q1 (by omega) (fun J' f f' Q _ l => ⟨jz_e62 (by omega), s_130 q1 (jz_e62 (by omega)) l.2 (zS_gd q1 q2 (by omega)) i1 ⟨by rw [f' 140 (by omega) (by omega)]; exact r1.1, fun i hi => by rw [f' _ (by omega) (by omega), f' _ (by omega) (by omega)]; exact r1.2 i hi⟩ (by omega) (h (by omega) J' (cF_tr F1 f) Q)⟩)
theorem s_255_5 {xs : Nat → Int32} {L d : Nat} {J K : jZ} {P : Int → jZ → jZ → Prop} {T : zT} {l : zL} {i : Nat} {p : Int} (hT : zt_ok T) (hi : i < 27) (hr : zm_at J i l) (hm : mT_at J T) (hg : zs_gd T.1 l) (hp : -2147483648 ≤ p ∧ p < 2147483648) (h : P (zq_sc T l p) J K) : ∀ (n k : Nat) (v : Int), k + n = l.length → v = zn (zq_g T l p) k → l_255_5 xs L (d + 2) (i : Int) p v (k : Int) J K P
  | n, k, v, hn, hv => by
    have h60 := hT.1
    have hs := hr.1
    have hl60 := hg.1.1
    have hsc := zq_sc_r (T := T) hg.1 p k (by omega)
    refine e_255_5 ⟨by omega, by omega, by simp only [Int.toNat_natCast]; omega, fun q => ?_, fun q => ?_⟩
    · simp only [Int.toNat_natCast] at q
      obtain rfl : k = l.length := by omega
      rw [hv]
      exact h
    · simp only [Int.toNat_natCast] at q
      match n, hn with
      | 0, hn => omega
      | n + 1, hn =>
        have hk := zm_b hr hg.1 (show k < l.length by omega)
        have hbn := hg.2 k (by omega)
        have hsr := zs_s_r hg.1 (show k < l.length by omega)
        have e1 := zt_ea_r T 2 (zs_f l k).toNat
        have e2 := zt_ea_r T 2 (zs_l l k).toNat
        have no : ¬ (zt_ea T 2 (zs_f l k).toNat = p ∧ zt_ea T 2 (zs_l l k).toNat = p) → l_255_5 xs L (d + 2) (i : Int) p (v + 0) ((k : Int) + 1) J K P := fun q2 => by
          refine s_255_5 hT hi hr hm hg hp h n (k + 1) _ (by omega) ?_
          rw [zn, ← hv]
          unfold zq_g
          rw [if_neg q2]
        rw [zm_idx, hk.1]
        refine ⟨by omega, ?_⟩
        have g1 : zs_f l k = (((zs_f l k).toNat : Nat) : Int) := by omega
        have g2 : zs_l l k = (((zs_l l k).toNat : Nat) : Int) := by omega
        rw [g1]
        refine s_240 hT (by omega) hm (by omega) ⟨by omega, hp, fun q2 => no (fun q3 => q2 q3.1), fun q2 => ?_⟩
        rw [hk.2.1, g2]
        refine s_240 hT (by omega) hm (by omega) ⟨by omega, fun q3 => no (fun q4 => q3 q4.2), fun q3 => ?_⟩
        rw [hk.2.1, hk.1, show zs_l l k - zs_f l k + 1 = zs_s l k from rfl]
        refine ⟨by omega, by omega, s_255_5 hT hi hr hm hg hp h n (k + 1) _ (by omega) ?_⟩
        rw [zn, ← hv]
        unfold zq_g
        rw [if_pos ⟨q2, q3⟩]
theorem s_255 {xs : Nat → Int32} {L d : Nat} {J K : jZ} {P : Int → jZ → jZ → Prop} {T : zT} {l : zL} {i : Nat} {p : Int} (hT : zt_ok T) (hi : i < 27) (hr : zm_at J i l) (hm : mT_at J T) (hg : zs_gd T.1 l) (hp : -2147483648 ≤ p ∧ p < 2147483648) (h : P (zq_sc T l p) J K) : q_255 xs L (d + 3) (i : Int) p J K P :=
  e_255 (s_255_5 hT hi hr hm hg hp h l.length 0 0 (by omega) rfl)
theorem m_253 {xs : Nat → Int32} {L d : Nat} {J K : jZ} {P : Int → jZ → jZ → Prop} {T : zT} {A : zA} (hQ : mQ J T A) {a p : Int} (ha : -2147483648 ≤ a ∧ a < 2147483648) (hp : -2147483648 ≤ p ∧ p < 2147483648) (hb : ¬ ((0 ≤ a ∧ a < A.1) ∧ (0 ≤ p ∧ p < zt_ct T 2)) → P (-2) (rM J 2) K) (h : (0 ≤ a ∧ a < A.1) ∧ (0 ≤ p ∧ p < zt_ct T 2) → ∀ J', mF J J' → mQ J' T A → P (zq_sc T (zk_sem (-1) T A a.toNat) p) J' K) : q_253 xs L (d + 9) a p J K P := by
  have h24 := hQ.2.1.1
  have h1 := hQ.2.2.2.1.1
  have hct := zt_ct_r hQ.1 2
  have h60 := hQ.1.1
  refine e_253 ⟨ha, by omega, fun q => ⟨hp, s_254 hQ.1 hQ.2.2.1 ⟨by omega, fun q2 => ?_, fun q2 => s_170 (k := 2) (by omega) (by omega) (hb (by omega))⟩⟩, fun q => s_170 (k := 2) (by omega) (by omega) (hb (by omega))⟩
  obtain ⟨k, rfl⟩ : ∃ k : Nat, a = (k : Int) := ⟨a.toNat, by omega⟩
  rw [Int.toNat_natCast] at h
  exact s_work hQ (fun J' f Q l => s_255 hQ.1 (by omega) (l k (by omega)) Q.2.2.1 (zS_gd hQ.1 hQ.2.1 (by omega)) (by omega) (h (by omega) J' f Q))
