/-! Parts and sentences counted; score. -/
def zt_ea (T : zT) (m : Int) : Nat → Int := zn (fun k => if m ≤ T.2.2.1 k then 1 else 0)
theorem zt_ea_r (T : zT) (m : Int) (n : Nat) : 0 ≤ zt_ea T m n ∧ zt_ea T m n ≤ n := zn_r (fun k => by split <;> omega) n
def zt_ct (T : zT) (m : Int) : Int := if T.1 = 0 then 0 else zt_ea T m (T.1 - 1) + 1
theorem zt_ct_r {T : zT} (hT : zt_ok T) (m : Int) : 0 ≤ zt_ct T m ∧ zt_ct T m ≤ T.1 := by
  have := zt_ea_r T m (T.1 - 1)
  unfold zt_ct
  split <;> omega
theorem s_112_5 {xs : Nat → Int32} {L d : Nat} {J K : jZ} {P : Int → jZ → jZ → Prop} {T : zT} {m : Int} {a N : Nat} (hT : zt_ok T) (hm : -2147483648 ≤ m ∧ m < 2147483648) (ha : jz_kd a = 18) (hr : ∀ k, k < T.1 → J (a + 2) k = T.2.2.1 k) (hN : N ≤ T.1) (h : P (zt_ea T m N) J K) : ∀ (n k : Nat) (u : Int), k + n = N → u = zt_ea T m k → l_112_5 xs L (d + 0) a (N : Int) m u (k : Int) J K P
  | n, k, u, hn, hu => by
    have h60 := hT.1
    refine e_112_5 ha ⟨by omega, by omega, fun q => ?_, fun q => ?_⟩
    · obtain rfl : k = N := by omega
      rw [hu]
      exact h
    · match n, hn with
      | 0, hn => omega
      | n + 1, hn =>
        have hb := hT.2.2.1 k (by omega)
        rw [Int.toNat_natCast, hr k (by omega)]
        refine ⟨by omega, by omega, hm, fun q2 => ?_, fun q2 => ?_⟩
        · refine s_112_5 hT hm ha hr hN h n (k + 1) _ (by omega) ?_
          unfold zt_ea at hu ⊢
          rw [zn, ← hu, if_neg (by omega)]
        · refine s_112_5 hT hm ha hr hN h n (k + 1) _ (by omega) ?_
          unfold zt_ea at hu ⊢
          rw [zn, ← hu, if_pos (by omega)]
theorem s_112 {xs : Nat → Int32} {L d : Nat} {J K : jZ} {P : Int → jZ → jZ → Prop} {T : zT} {m : Int} {a N : Nat} (hT : zt_ok T) (hm : -2147483648 ≤ m ∧ m < 2147483648) (ha : jz_kd a = 18) (hr : zt_at J a T) (hN : N ≤ T.1) (h : P (zt_ea T m N) J K) : q_112 xs L (d + 1) a (N : Int) m J K P :=
  e_112 ha (s_112_5 hT hm ha (fun k hk => (hr.2.1 k hk).2) hN h N 0 0 (by omega) rfl)
theorem s_129 {xs : Nat → Int32} {L d : Nat} {J K : jZ} {P : Int → jZ → jZ → Prop} {T : zT} {m : Int} {a : Nat} (hT : zt_ok T) (hm : -2147483648 ≤ m ∧ m < 2147483648) (ha : jz_kd a = 18) (hr : zt_at J a T) (h : P (zt_ct T m) J K) : q_129 xs L (d + 2) a m J K P := by
  have h60 := hT.1
  have h3 := hr.1
  refine e_129 ha ⟨by omega, fun q => ?_, fun q => ?_⟩
  · rw [h3, show (T.1 : Int) - 1 = ((T.1 - 1 : Nat) : Int) by omega]
    refine s_112 hT hm ha hr (by omega) ?_
    rw [zt_ct, if_neg (by omega)] at h
    exact h
  · rw [zt_ct, if_pos (by omega)] at h
    exact h
-- the parts as regions
theorem zk_reg_ex {T : zT} {g : Int} {a : Nat} (ha : a < T.1) (h : a = 0 ∨ zk_end T g (a - 1)) : ∃ b, zk_reg T g (a : Int) (b : Int) ∧ a ≤ b ∧ b < T.1 := by
  have he : ∃ k, a ≤ k ∧ k < T.1 ∧ zk_end T g k := ⟨T.1 - 1, by omega, by omega, .inl (by omega)⟩
  obtain ⟨b, ⟨h1, h2, h3⟩, h4⟩ := zn_least he
  exact ⟨(b : Int), ⟨a, b, rfl, rfl, h1, h2, h3, h, fun p p1 p2 p3 => h4 p p2 ⟨p1, by omega, p3⟩⟩, by omega, by omega⟩
/-- the parts' list: the number of a place's part, by the ends ahead of it -/
theorem zr_in {T : zT} {R : zL} (hR : zl_isl (zk_reg T 1) R) (hN : T.1 ≤ 60) : ∀ p : Nat, p < T.1 → ∃ j : Nat, zt_ea T 2 p = (j : Int) ∧ j < R.length ∧ zs_f R j ≤ p ∧ (p : Int) ≤ zs_l R j := by
  have mem : ∀ {x y : Int}, zk_reg T 1 x y → zs_in R x y := fun {x y} q => by
    have hb := zk_reg_b q
    refine (hR.2 x y).mpr ⟨hb.1, by omega, q, fun e' q2 => ?_, fun f' e' h1 h2 q2 => ?_⟩
    · obtain ⟨a, b, rfl, rfl, c1, c2, c3, c4, c5⟩ := q
      obtain ⟨a', b', e1, rfl, d1, d2, d3, d4, d5⟩ := q2
      by_cases t : b ≤ b'
      · omega
      · exact absurd d3 (c5 b' (by omega) (by omega))
    · obtain ⟨a, b, rfl, rfl, c1, c2, c3, c4, c5⟩ := q
      obtain ⟨a', b', rfl, rfl, d1, d2, d3, d4, d5⟩ := q2
      by_cases t : b < b'
      · omega
      · rcases d4 with d4 | d4
        · omega
        · by_cases t2 : b' = b
          · exact absurd d4 (c5 (a' - 1) (by omega) (by omega))
          · exact absurd d3 (c5 b' (by omega) (by omega))
  have reg : ∀ {j : Nat}, j < R.length → zk_reg T 1 (zs_f R j) (zs_l R j) := fun hj => ((hR.2 _ _).mp ⟨_, hj, rfl, rfl⟩).2.2.1
  intro p
  induction p with
  | zero =>
    intro hp
    obtain ⟨b, q, h1, h2⟩ := zk_reg_ex (g := 1) hp (.inl rfl)
    obtain ⟨j, hj, e1, e2⟩ := mem q
    have : j = 0 := by
      by_cases t : j = 0
      · exact t
      · have := hR.1.2.2 0 j (by omega) hj
        have := hR.1.2.1 0 (by omega)
        omega
    subst this
    exact ⟨0, rfl, hj, by omega, by omega⟩
  | succ p ih =>
    intro hp
    obtain ⟨j, h1, h2, h3, h4⟩ := ih (by omega)
    have hreg := reg h2
    obtain ⟨a, b, e1, e2, c1, c2, c3, c4, c5⟩ := hreg
    by_cases q : zk_end T 1 p
    · have hpb : b = p := by
        by_cases t : p < b
        · exact absurd q (c5 p (by omega) t)
        · omega
      have hm : 2 ≤ T.2.2.1 p := by
        unfold zk_end at q
        omega
      obtain ⟨b', q2, h5, h6⟩ := zk_reg_ex (T := T) (g := 1) (a := p + 1) (by omega) (.inr (by simpa using q))
      obtain ⟨i, hi, e3, e4⟩ := mem q2
      have hij : j < i := by
        by_cases t : j < i
        · exact t
        · have := zs_mono hR.1 (show i ≤ j by omega) h2
          omega
      have : i = j + 1 := by
        by_cases t : i = j + 1
        · exact t
        · exfalso
          have m1 := hR.1.2.2 j (j + 1) (by omega) (by omega)
          have m2 := hR.1.2.2 (j + 1) i (by omega) hi
          obtain ⟨a2, b2, f1, f2, g1, g2, g3, g4, g5⟩ := reg (show j + 1 < R.length by omega)
          rcases g4 with g4 | g4
          · omega
          · exact c5 (a2 - 1) (by omega) (by omega) g4
      subst this
      refine ⟨j + 1, ?_, hi, by omega, by omega⟩
      unfold zt_ea at h1 ⊢
      rw [zn, h1, if_pos hm]
      rfl
    · have hm : ¬ 2 ≤ T.2.2.1 p := by
        unfold zk_end at q
        omega
      refine ⟨j, ?_, h2, by omega, ?_⟩
      · unfold zt_ea at h1 ⊢
        rw [zn, h1, if_neg hm]
        omega
      · by_cases t : b = p
        · subst t
          exact absurd c3 q
        · omega
/-- a place is in one part only -/
theorem zr_u {T : zT} {R : zL} (hR : zl_isl (zk_reg T 1) R) {i j : Nat} {p : Int} (hi : i < R.length) (hj : j < R.length) (h1 : zs_f R i ≤ p ∧ p ≤ zs_l R i) (h2 : zs_f R j ≤ p ∧ p ≤ zs_l R j) : i = j := by
  have key : ∀ i j : Nat, i < j → j < R.length → zs_f R i ≤ p ∧ p ≤ zs_l R i → zs_f R j ≤ p ∧ p ≤ zs_l R j → False := fun i j hij hj h1 h2 => by
    have m := hR.1.2.2 i j hij hj
    obtain ⟨a, b, e1, e2, c1, c2, c3, c4, c5⟩ := ((hR.2 _ _).mp ⟨i, by omega, rfl, rfl⟩).2.2.1
    obtain ⟨a2, b2, f1, f2, g1, g2, g3, g4, g5⟩ := ((hR.2 _ _).mp ⟨j, hj, rfl, rfl⟩).2.2.1
    rcases g4 with g4 | g4
    · omega
    · exact c5 (a2 - 1) (by omega) (by omega) g4
  by_cases q : i < j
  · exact (key i j q hj h1 h2).elim
  · by_cases q2 : j < i
    · exact (key j i q2 hi h2 h1).elim
    · omega
theorem zr_len {T : zT} {R : zL} (hR : zl_isl (zk_reg T 1) R) (hN : T.1 ≤ 60) : (R.length : Int) = zt_ct T 2 := by
  unfold zt_ct
  split
  · rename_i h0
    by_cases q : R.length = 0
    · omega
    · obtain ⟨a, b, e1, e2, c1, c2, -⟩ := ((hR.2 _ _).mp ⟨0, by omega, rfl, rfl⟩).2.2.1
      omega
  · rename_i h0
    obtain ⟨j, h1, h2, h3, h4⟩ := zr_in hR hN (T.1 - 1) (by omega)
    rw [h1]
    by_cases q : j + 1 = R.length
    · omega
    · have := hR.1.2.2 j (j + 1) (by omega) (by omega)
      obtain ⟨a, b, e1, e2, c1, c2, -⟩ := ((hR.2 _ _).mp ⟨j + 1, by omega, rfl, rfl⟩).2.2.1
      omega
theorem zr_ea {T : zT} {R : zL} (hR : zl_isl (zk_reg T 1) R) (hN : T.1 ≤ 60) {j : Nat} (hj : j < R.length) {p : Nat} (hp : p < T.1) : zt_ea T 2 p = (j : Int) ↔ zs_f R j ≤ p ∧ (p : Int) ≤ zs_l R j := by
  obtain ⟨i, h1, h2, h3, h4⟩ := zr_in hR hN p hp
  constructor
  · intro q
    obtain rfl : i = j := by omega
    exact ⟨h3, h4⟩
  · intro q
    rw [h1, zr_u hR h2 hj ⟨h3, h4⟩ q]
/-- what the k-th span gives to a part -/
def zq_g (T : zT) (l : zL) (p : Int) (k : Nat) : Int := if zt_ea T 2 (zs_f l k).toNat = p ∧ zt_ea T 2 (zs_l l k).toNat = p then jz_div 5040 (zs_s l k) else 0
def zq_sc (T : zT) (l : zL) (p : Int) : Int := zn (zq_g T l p) l.length
theorem zq_div {s : Int} (h : 1 ≤ s ∧ s ≤ 60) : 0 ≤ jz_div 5040 s ∧ jz_div 5040 s ≤ 5040 := by
  have key : ∀ n : Nat, n < 60 → (0 ≤ jz_div 5040 ((n : Int) + 1) ∧ jz_div 5040 ((n : Int) + 1) ≤ 5040) := by decide +kernel
  have := key (s - 1).toNat (by omega)
  rwa [show (((s - 1).toNat : Nat) : Int) + 1 = s by omega] at this
theorem zq_sc_r {T : zT} {l : zL} (hg : zs_ok l) (p : Int) : ∀ n : Nat, n ≤ l.length → 0 ≤ zn (zq_g T l p) n ∧ zn (zq_g T l p) n ≤ 5040 * n
  | 0, _ => by simp [zn]
  | n + 1, h => by
    have := zq_sc_r (T := T) hg p n (by omega)
    have := zq_div (zs_s_r hg (show n < l.length by omega))
    have hg2 : 0 ≤ zq_g T l p n ∧ zq_g T l p n ≤ 5040 := by
      unfold zq_g
      split <;> omega
    rw [zn]
    omega
theorem zn_z {f : Nat → Int} : ∀ n : Nat, (∀ k, k < n → f k = 0) → zn f n = 0
  | 0, _ => rfl
  | n + 1, h => by rw [zn, zn_z n (fun k hk => h k (by omega)), h n (by omega)]; rfl
theorem zn_keep {f : Nat → Int} {a : Nat} : ∀ n : Nat, a ≤ n → (∀ k, a ≤ k → k < n → f k = 0) → zn f n = zn f a
  | 0, h, _ => by
    obtain rfl : a = 0 := by omega
    rfl
  | n + 1, h, hz => by
    by_cases q : a = n + 1
    · subst q
      rfl
    · rw [zn, zn_keep n (by omega) (fun k h1 h2 => hz k h1 (by omega)), hz n (by omega) (by omega)]
      omega