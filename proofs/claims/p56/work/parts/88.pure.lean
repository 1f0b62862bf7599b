/-! What the law compares, of lists alone. -/
theorem zf_un (l : zL) : zs_un l l = -1 := by
  have key : ∀ (n k : Nat), zn_fd (zs_df l l) n k = -1 := by
    intro n
    induction n with
    | zero => exact fun _ => rfl
    | succ n ih =>
      intro k
      rw [zn_fd_f (by unfold zs_df; simp)]
      exact ih (k + 1)
  unfold zs_un
  rw [key, zs_unr, if_pos rfl, if_pos rfl]
theorem zf_ju {l : zL} {v : Nat → Int} {n : Nat} (hn : n ≤ l.length) (h : ∀ k, k < n → v (2 * k) = zs_f l k ∧ v (2 * k + 1) = zs_l l k) : zq_ju l v n = if (n : Int) < l.length then (n : Int) else -1 := by
  have key : ∀ (m k : Nat), k + m ≤ n → zn_fd (zq_jf l v) m k = -1 := by
    intro m
    induction m with
    | zero => exact fun _ _ => rfl
    | succ m ih =>
      intro k hk
      have hh := h k (by omega)
      rw [zn_fd_f (by
        unfold zq_jf
        rw [Bool.not_eq_false', decide_eq_true_eq]
        exact ⟨by omega, hh.1.symm, hh.2.symm⟩)]
      exact ih (k + 1) (by omega)
  rw [zq_ju_eq, key n 0 (by omega), zq_jr, if_pos rfl]
/-- the first, the last before the i-th span; -1 -/
def zf_p (l : zL) (i : Nat) : Int := if i = 0 then -1 else zs_f l (i - 1)
def zf_q (l : zL) (i : Nat) : Int := if i = 0 then -1 else zs_l l (i - 1)
theorem zf_s {l : zL} {i : Nat} : zf_p l (i + 1) = zs_f l i ∧ zf_q l (i + 1) = zs_l l i := ⟨by unfold zf_p; rw [if_neg (by omega)]; rfl, by unfold zf_q; rw [if_neg (by omega)]; rfl⟩
theorem zf_r {l : zL} (hg : zs_ok l) {i : Nat} (hi : i ≤ l.length) : -1 ≤ zf_p l i ∧ zf_p l i < 60 ∧ -1 ≤ zf_q l i ∧ zf_q l i < 60 := by
  unfold zf_p zf_q
  by_cases c : i = 0
  · rw [if_pos c, if_pos c]
    omega
  · rw [if_neg c, if_neg c]
    have := hg.2.1 (i - 1) (by omega)
    omega
theorem zf_lt {l : zL} (hg : zs_ok l) {i j : Nat} (hij : i ≤ j) (hj : j < l.length) : zf_p l i < zs_f l j ∧ zf_q l i < zs_l l j := by
  have b := hg.2.1 j hj
  unfold zf_p zf_q
  by_cases c : i = 0
  · rw [if_pos c, if_pos c]
    omega
  · rw [if_neg c, if_neg c]
    exact hg.2.2 (i - 1) j (by omega) hj
theorem zf_ge {l : zL} (hg : zs_ok l) {i j : Nat} (hij : j < i) (hi : i ≤ l.length) : zs_f l j ≤ zf_p l i ∧ zs_l l j ≤ zf_q l i := by
  unfold zf_p zf_q
  rw [if_neg (by omega), if_neg (by omega)]
  exact zs_mono hg (by omega) (by omega)
theorem zf_ng {l : zL} {k : Nat} : zq_ng l 0 k = zs_f l k ∧ zq_ng l 3 k = zs_f l k ∧ zq_ng l 1 k = zs_l l k ∧ zq_ng l 2 k = zs_l l k := by
  unfold zq_ng
  refine ⟨if_pos (by omega), if_pos (by omega), if_neg (by omega), if_neg (by omega)⟩
theorem zf_n0 {l : zL} (hg : zs_ok l) {i : Nat} (hi : i ≤ l.length) : zq_nx l (zf_p l i + 1) 0 l.length = if (i : Int) < l.length then (i : Int) else -1 := by
  refine zq_nx_up (by omega) (by omega) l.length (fun j hj => ?_)
  show (((0 : Int) < 2 ∧ zf_p l i + 1 ≤ zq_ng l 0 j) ∨ ((2 : Int) ≤ 0 ∧ zq_ng l 0 j ≤ zf_p l i + 1)) ↔ (i : Int) ≤ j
  rw [zf_ng.1]
  constructor
  · intro h
    by_cases c : i ≤ j
    · omega
    · have := zf_ge hg (show j < i by omega) hi
      omega
  · intro h
    have := zf_lt hg (show i ≤ j by omega) hj
    omega
theorem zf_n1 {l : zL} (hg : zs_ok l) {i : Nat} (hi : i ≤ l.length) : zq_nx l (zf_q l i + 1) 1 l.length = if (i : Int) < l.length then (i : Int) else -1 := by
  refine zq_nx_up (by omega) (by omega) l.length (fun j hj => ?_)
  show (((1 : Int) < 2 ∧ zf_q l i + 1 ≤ zq_ng l 1 j) ∨ ((2 : Int) ≤ 1 ∧ zq_ng l 1 j ≤ zf_q l i + 1)) ↔ (i : Int) ≤ j
  rw [zf_ng.2.2.1]
  constructor
  · intro h
    by_cases c : i ≤ j
    · omega
    · have := zf_ge hg (show j < i by omega) hi
      omega
  · intro h
    have := zf_lt hg (show i ≤ j by omega) hj
    omega
theorem zf_n3 {l : zL} (hg : zs_ok l) : zq_nx l (zf_p l l.length) 3 l.length = (l.length : Int) - 1 := by
  have h := zq_nx_dn (l := l) (p := zf_p l l.length) (m := 3) (r := l.length) (by omega) (by omega) l.length (fun j hj => ?_)
  · rw [h, if_neg (by omega)]
  show (((3 : Int) < 2 ∧ zf_p l l.length ≤ zq_ng l 3 j) ∨ ((2 : Int) ≤ 3 ∧ zq_ng l 3 j ≤ zf_p l l.length)) ↔ (j : Int) < l.length
  rw [zf_ng.2.1]
  have := zf_ge hg hj (Nat.le_refl _)
  omega
theorem zf_n2 {l : zL} (hg : zs_ok l) : zq_nx l (zf_q l l.length) 2 l.length = (l.length : Int) - 1 := by
  have h := zq_nx_dn (l := l) (p := zf_q l l.length) (m := 2) (r := l.length) (by omega) (by omega) l.length (fun j hj => ?_)
  · rw [h, if_neg (by omega)]
  show (((2 : Int) < 2 ∧ zf_q l l.length ≤ zq_ng l 2 j) ∨ ((2 : Int) ≤ 2 ∧ zq_ng l 2 j ≤ zf_q l l.length)) ↔ (j : Int) < l.length
  rw [zf_ng.2.2.2]
  have := zf_ge hg hj (Nat.le_refl _)
  omega
theorem zf_t {l : zL} (hg : zs_ok l) {k : Nat} (hk : k < l.length) : jz_div (zs_t l k) 100 = zs_f l k ∧ jz_rem (zs_t l k) 100 = zs_l l k := by
  have b := hg.2.1 k hk
  have e := jz_rem_e (x := zs_t l k) (n := 100) (by unfold zs_t; omega) (by omega)
  rw [e.1, e.2]
  unfold zs_t
  omega
theorem zf_ap {l : zL} (hg : zs_ok l) (t : Int) : zq_ap t l (-1) = (zs_ap l l.length).1 ∧ ¬ zq_ap t l (-1) = -2 ∧ 0 ≤ zq_ap t l (-1) ∧ zq_ap t l (-1) ≤ 60 := by
  have b := zs_ap_r hg l.length (Nat.le_refl _)
  have h60 := hg.1
  have e : zq_ap t l (-1) = (zs_ap l l.length).1 := by
    unfold zq_ap
    rw [if_pos rfl]
  rw [e]
  exact ⟨rfl, by omega, by omega, by omega⟩
theorem zf_bs {c : Nat → Prop} {j : Nat} : ∀ n : Nat, n ≤ 31 → (zb (zq_bs c n) j ↔ j < n ∧ c j)
  | 0, _ => ⟨fun h => absurd h zb_0, fun h => absurd h.1 (Nat.not_lt_zero _)⟩
  | n + 1, hn => by
    have ih := zf_bs (c := c) (j := j) n (by omega)
    by_cases q : c n
    · rw [zq_bs_t q, zb_or, zb_bit (by omega), ih]
      constructor
      · rintro (h | h)
        · exact ⟨by omega, h.2⟩
        · subst h
          exact ⟨by omega, q⟩
      · rintro ⟨h1, h2⟩
        by_cases e : j = n
        · exact .inr e
        · exact .inl ⟨by omega, h2⟩
    · rw [zq_bs_f q, ih]
      constructor
      · exact fun h => ⟨by omega, h.2⟩
      · rintro ⟨h1, h2⟩
        refine ⟨?_, h2⟩
        by_cases e : j = n
        · subst e
          exact absurd h2 q
        · omega
theorem zf_in (l : zL) : ∀ i, i < l.length → zo_tst 5 l l i := fun i hi => by
  unfold zo_tst zo_met
  refine ⟨fun _ => .inl rfl, fun _ => ⟨i, hi, .inr ⟨by omega, Int.le_refl _, Int.le_refl _⟩⟩⟩
theorem zf_bit {T : zT} {A : zA} {a : Nat} (hA : A.1 ≤ 24) (ha : a < A.1) : jz_and (jz_shr (zq_bs (zq_in T A a) A.1) a) 1 = 1 :=
  (zb_tst (by omega)).2.mpr ((zf_bs A.1 (by omega)).mpr ⟨ha, fun i hi => zf_in _ i hi⟩)
-- kinds
theorem zf_all {k : Int} {l m : zL} (h : ∀ i, i < l.length → zo_tst k l m i) : zq_cn k l m = l.length := zq_cn_all.mpr h
theorem zf_com {l m : zL} (h : ∀ i, i < l.length → zs_in m (zs_f l i) (zs_l l i)) : zs_com l m = l.length := by
  have key : ∀ n : Nat, n ≤ l.length → zn (fun k => @ite _ (zs_in m (zs_f l k) (zs_l l k)) (Classical.propDecidable _) (1 : Int) 0) n = n := by
    intro n
    induction n with
    | zero => exact fun _ => rfl
    | succ n ih =>
      intro hn
      rw [zn, ih (by omega), if_pos (h n (by omega))]
      rfl
  exact key _ (Nat.le_refl _)
/-- a span of a list is one of those offered -/
theorem zf_of {S : Int → Int → Prop} {l : zL} (h : zl_isl S l) {i : Nat} (hi : i < l.length) : S (zs_f l i) (zs_l l i) := ((h.2 _ _).mp ⟨i, hi, rfl, rfl⟩).2.2.1
/-- in each offered span lies one of the list -/
theorem zf_has {S : Int → Int → Prop} {l : zL} (h : zl_isl S l) (hS : ∀ x y, S x y → 0 ≤ x ∧ x ≤ y ∧ y < 60) {x y : Int} (q : S x y) : ∃ j, j < l.length ∧ x ≤ zs_f l j ∧ zs_l l j ≤ y := by
  have b := hS x y q
  -- the greatest first of a span inside
  have key : ∀ n : Nat, ∀ f e : Int, 60 - f.toNat ≤ n → S f e → x ≤ f → e ≤ y → ∃ f' e', S f' e' ∧ x ≤ f' ∧ e' ≤ y ∧ ∀ f2 e2, f' < f2 → S f2 e2 → ¬ e2 ≤ y := by
    intro n
    induction n with
    | zero =>
      intro f e hn hs h1 h2
      have := hS f e hs
      omega
    | succ n ih =>
      intro f e hn hs h1 h2
      by_cases c : ∃ f2 e2, f < f2 ∧ S f2 e2 ∧ e2 ≤ y
      · obtain ⟨f2, e2, c1, c2, c3⟩ := c
        have := hS f e hs
        have := hS f2 e2 c2
        exact ih f2 e2 (by omega) c2 (by omega) c3
      · exact ⟨f, e, hs, h1, h2, fun f2 e2 c1 c2 c3 => c ⟨f2, e2, c1, c2, c3⟩⟩
  obtain ⟨f, e, g1, g2, g3, g4⟩ := key 60 x y (by omega) q (Int.le_refl _) (Int.le_refl _)
  -- the least last from there
  have bf := hS f e g1
  obtain ⟨k, k1, k2⟩ := zn_least (p := fun k => S f (k : Int)) ⟨e.toNat, by rw [show ((e.toNat : Nat) : Int) = e by omega]; exact g1⟩
  have ke : (k : Int) ≤ e := by
    by_cases c : k ≤ e.toNat
    · omega
    · exact absurd (show S f ((e.toNat : Nat) : Int) by rw [show ((e.toNat : Nat) : Int) = e by omega]; exact g1) (k2 _ (by omega))
  obtain ⟨j, hj, e1, e2⟩ := (h.2 f (k : Int)).mpr ⟨by omega, by omega, k1, fun e' he' => by
    have := hS f e' he'
    by_cases c : (k : Int) ≤ e'
    · exact c
    · exact absurd (show S f ((e'.toNat : Nat) : Int) by rw [show ((e'.toNat : Nat) : Int) = e' by omega]; exact he') (k2 _ (by omega)), fun f' e' c1 c2 c3 => by
    have := g4 f' e' c1 c3
    omega⟩
  exact ⟨j, hj, by omega, by omega⟩
theorem zf_cn2 {k k2 : Int} {l m : zL} (h : ∀ i, zo_tst k2 l m i ↔ ¬ zo_tst k l m i) : zq_cn k2 l m = l.length - zq_cn k l m := by
  have key : ∀ n : Nat, zn (fun i => zi (zo_tst k2 l m i)) n = n - zn (fun i => zi (zo_tst k l m i)) n := by
    intro n
    induction n with
    | zero => rfl
    | succ n ih =>
      rw [zn, zn, ih]
      by_cases c : zo_tst k l m n
      · rw [zi_t c, zi_f (fun q => (h n).mp q c)]
        omega
      · rw [zi_f c, zi_t ((h n).mpr c)]
        omega
  exact key _
theorem zf_68 {l m : zL} {i : Nat} : (zo_tst 6 l m i ↔ ¬ zo_tst 5 l m i) ∧ (zo_tst 8 l m i ↔ ¬ zo_tst 7 l m i) := by
  have e5 : zo_met ((5 : Int) = 7 ∨ (5 : Int) = 8) l m i = zo_met ((6 : Int) = 7 ∨ (6 : Int) = 8) l m i := by
    rw [show ((5 : Int) = 7 ∨ (5 : Int) = 8) = ((6 : Int) = 7 ∨ (6 : Int) = 8) from propext (by omega)]
  have e7 : zo_met ((7 : Int) = 7 ∨ (7 : Int) = 8) l m i = zo_met ((8 : Int) = 7 ∨ (8 : Int) = 8) l m i := by
    rw [show ((7 : Int) = 7 ∨ (7 : Int) = 8) = ((8 : Int) = 7 ∨ (8 : Int) = 8) from propext (by omega)]
  unfold zo_tst
  rw [e5, e7, show ((6 : Int) = 5 ∨ (6 : Int) = 7) = False from eq_false (by omega), show ((5 : Int) = 5 ∨ (5 : Int) = 7) = True from eq_true (by omega), show ((8 : Int) = 5 ∨ (8 : Int) = 7) = False from eq_false (by omega), show ((7 : Int) = 5 ∨ (7 : Int) = 7) = True from eq_true (by omega)]
  simp
theorem zf_le {l : zL} {n : Int} (hn : 0 ≤ n) : ∀ k : Nat, (∀ i, i < k → zs_s l i ≤ n) → zq_le 1 l k ≤ n
  | 0, _ => hn
  | k + 1, h => by
    have ih := zf_le hn k (fun i hi => h i (by omega))
    have := h k (by omega)
    unfold zq_le
    repeat' split
    all_goals omega
theorem zf_7 {l m : zL} {i : Nat} (h : ∃ j, j < m.length ∧ zs_f l i ≤ zs_f m j ∧ zs_l m j ≤ zs_l l i) : zo_tst 7 l m i := by
  obtain ⟨j, h1, h2, h3⟩ := h
  unfold zo_tst zo_met
  exact ⟨fun _ => .inr rfl, fun _ => ⟨j, h1, .inl ⟨.inl rfl, h2, h3⟩⟩⟩
theorem zf_ct {T : zT} : zt_ct T 2 ≤ zt_ct T 1 := by
  unfold zt_ct
  split
  · omega
  · have : zt_ea T 2 (T.1 - 1) ≤ zt_ea T 1 (T.1 - 1) := zn_mono _ (fun k _ => by
      by_cases c : 2 ≤ T.2.2.1 k
      · rw [if_pos c, if_pos (by omega)]
        omega
      · rw [if_neg c]
        split <;> omega)
    omega
-- numbers
theorem zf_and {x m : Int} (k : Nat) (hm : (Int32.ofInt m).toBitVec.toNat = 2 ^ k - 1) (hk : k ≤ 30) : 0 ≤ jz_and x m ∧ jz_and x m < 2 ^ k := by
  unfold jz_and
  rw [pk_and _ k hm]
  have h1 : (Int32.ofInt x).toBitVec.toNat % 2 ^ k < 2 ^ k := Nat.mod_lt _ (Nat.two_pow_pos k)
  have h2 : 2 ^ k ≤ 2 ^ 30 := Nat.pow_le_pow_right (by omega) hk
  rw [nI_toInt (by omega)]
  refine ⟨by omega, ?_⟩
  have : ((2 ^ k : Nat) : Int) = 2 ^ k := by simp
  omega
theorem zf_ch (x : Int) : 0 ≤ jz_ch x ∧ jz_ch x < 128 := by
  unfold jz_ch
  repeat' split
  all_goals omega
