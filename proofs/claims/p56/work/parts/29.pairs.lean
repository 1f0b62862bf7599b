/-! That the class's offers have the same least spans as the reference's; the pairs' lists. -/
theorem zn_least {p : Nat → Prop} (h : ∃ k, p k) : ∃ k, p k ∧ ∀ j, j < k → ¬ p j := by
  obtain ⟨k, hk⟩ := h
  induction k using Nat.strongRecOn with
  | ind k ih =>
    by_cases q : ∃ j, j < k ∧ p j
    · obtain ⟨j, h1, h2⟩ := q
      exact ih j h1 h2
    · exact ⟨k, hk, fun j hj hp => q ⟨j, hj, hp⟩⟩
theorem zs_nxt_ex (l : zL) (f : Int) : ∃ v, zs_nxt l f v := by
  by_cases h : ∃ k, k < l.length ∧ f ≤ zs_f l k
  · obtain ⟨k, ⟨h1, h2⟩, h3⟩ := zn_least h
    exact ⟨_, .inl ⟨k, h1, h2, rfl, fun j hj => by
      by_cases q : zs_f l j < f
      · exact q
      · exact absurd ⟨by omega, by omega⟩ (h3 j hj)⟩⟩
  · exact ⟨60, .inr ⟨rfl, fun k hk => by
      by_cases q : zs_f l k < f
      · exact q
      · exact absurd ⟨k, hk, by omega⟩ h⟩⟩
theorem zs_nxt_le {l : zL} (hg : zs_ok l) {f v : Int} (h : zs_nxt l f v) {k : Nat} (hk : k < l.length) (hf : f ≤ zs_f l k) : v ≤ zs_l l k := by
  rcases h with ⟨i, a, b, c, e⟩ | ⟨a, b⟩
  · have : i ≤ k := by
      by_cases q : i ≤ k
      · exact q
      · have := e k (by omega)
        omega
    have := zs_mono hg this hk
    omega
  · have := b k hk
    omega
theorem zs_nxt_get {l : zL} {f v : Int} (h : zs_nxt l f v) (hv : v < 60) : ∃ k, k < l.length ∧ f ≤ zs_f l k ∧ zs_l l k = v := by
  rcases h with ⟨i, a, b, c, e⟩ | ⟨a, b⟩
  · exact ⟨i, a, b, c⟩
  · omega
theorem zs_nxt_nil {f v : Int} (h : zs_nxt [] f v) : v = 60 := by
  rcases h with ⟨i, a, _⟩ | ⟨a, b⟩
  · simp at a
  · exact a
theorem zs_nil_ok : zs_ok [] := ⟨by simp, fun k hk => by simp at hk, fun j k _ hk => by simp at hk⟩
/-- all lie in N places -/
def zs_bn (N : Nat) (l : zL) : Prop := ∀ k, k < l.length → zs_l l k < N
theorem zs_bn_f {N : Nat} {l : zL} (hg : zs_ok l) (h : zs_bn N l) {k : Nat} (hk : k < l.length) : 0 ≤ zs_f l k ∧ zs_f l k < N := by
  have := h k hk
  have := hg.2.1 k hk
  omega
theorem zg_S_od {k : Int} {l m o : zL} {N : Nat} (hk : 1 ≤ k ∧ k ≤ 3) (hg : zs_ok l) (hg2 : zs_ok m) (hg3 : zs_ok o) : zl_od (zg_S k l m o N) := by
  rintro f e ⟨h1, h2, h3, a, b, c, n1, n2, n3, rfl⟩
  have w1 := zs_nxt_r hg n1
  have w2 := zs_nxt_r hg2 n2
  have w3 := zs_nxt_r hg3 n3
  unfold zg_3 at h3 ⊢
  repeat' split
  all_goals (repeat' split at h3)
  all_goals omega
theorem zf_S_od {l m : zL} {n : Nat} (hg : zs_ok l) (hg2 : zs_ok m) : zl_od (zf_S l m n) := by
  rintro f e ⟨h1, p, h2, h3, rfl, n1⟩
  have w1 := zs_nxt_r hg2 n1
  have := hg.2.1 p h3
  omega
theorem zp_either {l m l' : zL} {N : Nat} (hN : N ≤ 60) (hg : zs_ok l) (hg2 : zs_ok m) (hb : zs_bn N l) (hb2 : zs_bn N m) (h : zl_isl (zg_S 1 l m [] N) l') : zl_isl (zp_off 2 l m) l' := by
  refine zl_isl_eq (fun f e h0 h60 hs => ?_) (fun f e h0 h60 hs => ?_) h
  · obtain ⟨h1, h2, h3, a, b, c, n1, n2, n3, he⟩ := hs
    have e3 := zs_nxt_nil n3
    have w1 := zs_nxt_r hg n1
    have w2 := zs_nxt_r hg2 n2
    unfold zg_3 at he
    rw [if_pos rfl] at he
    unfold zp_off
    simp only [if_true]
    by_cases q : a ≤ b
    · obtain ⟨k, k1, k2, k3⟩ := zs_nxt_get n1 (by omega)
      have := hg.2.1 k k1
      exact ⟨zs_f l k, zs_l l k, k2, by omega, by omega, .inl ⟨k, k1, rfl, rfl⟩⟩
    · obtain ⟨k, k1, k2, k3⟩ := zs_nxt_get n2 (by omega)
      have := hg2.2.1 k k1
      exact ⟨zs_f m k, zs_l m k, k2, by omega, by omega, .inr ⟨k, k1, rfl, rfl⟩⟩
  · obtain ⟨a, n1⟩ := zs_nxt_ex l f
    obtain ⟨b, n2⟩ := zs_nxt_ex m f
    obtain ⟨c, n3⟩ := zs_nxt_ex [] f
    have e3 := zs_nxt_nil n3
    unfold zp_off at hs
    simp only [if_true] at hs
    have w1 := zs_nxt_r hg n1
    have w2 := zs_nxt_r hg2 n2
    rcases hs with ⟨k, k1, rfl, rfl⟩ | ⟨k, k1, rfl, rfl⟩
    · have := zs_nxt_le hg n1 k1 (by omega)
      have := zs_bn_f hg hb k1
      have := hg.2.1 k k1
      refine ⟨_, zg_3 1 a b c, Int.le_refl _, by omega, ?_, by omega, by omega, ?_, a, b, c, n1, n2, n3, rfl⟩
      · unfold zg_3
        rw [if_pos rfl]
        omega
      · unfold zg_3
        rw [if_pos rfl]
        omega
    · have := zs_nxt_le hg2 n2 k1 (by omega)
      have := zs_bn_f hg2 hb2 k1
      have := hg2.2.1 k k1
      refine ⟨_, zg_3 1 a b c, Int.le_refl _, by omega, ?_, by omega, by omega, ?_, a, b, c, n1, n2, n3, rfl⟩
      · unfold zg_3
        rw [if_pos rfl]
        omega
      · unfold zg_3
        rw [if_pos rfl]
        omega
/-- both of two of three lists -/
def zo_bth (l m : zL) (x y : Int) : Prop := ∃ p q, p < l.length ∧ q < m.length ∧ x = min (zs_f l p) (zs_f m q) ∧ y = max (zs_l l p) (zs_l m q)
theorem zo_bth_nil {l : zL} {x y : Int} : ¬ zo_bth l [] x y := by
  rintro ⟨p, q, _, h, _⟩
  simp at h
theorem zp_two {l m o l' : zL} {N : Nat} (hN : N ≤ 60) (hg : zs_ok l) (hg2 : zs_ok m) (hg3 : zs_ok o) (hb : zs_bn N l) (hb2 : zs_bn N m) (hb3 : zs_bn N o) (h : zl_isl (zg_S 2 l m o N) l') : zl_isl (fun x y => zo_bth l m x y ∨ zo_bth l o x y ∨ zo_bth m o x y) l' := by
  refine zl_isl_eq (fun f e h0 h60 hs => ?_) (fun f e h0 h60 hs => ?_) h
  · obtain ⟨h1, h2, h3, a, b, c, n1, n2, n3, he⟩ := hs
    have w1 := zs_nxt_r hg n1
    have w2 := zs_nxt_r hg2 n2
    have w3 := zs_nxt_r hg3 n3
    unfold zg_3 at he
    rw [if_neg (by omega), if_neg (by omega)] at he
    have cs : (a ≤ e ∧ b ≤ e) ∨ (a ≤ e ∧ c ≤ e) ∨ (b ≤ e ∧ c ≤ e) := by omega
    rcases cs with q | q | q
    · obtain ⟨k, k1, k2, k3⟩ := zs_nxt_get n1 (by omega)
      obtain ⟨j, j1, j2, j3⟩ := zs_nxt_get n2 (by omega)
      have := hg.2.1 k k1
      exact ⟨_, _, by omega, by omega, by omega, .inl ⟨k, j, k1, j1, rfl, rfl⟩⟩
    · obtain ⟨k, k1, k2, k3⟩ := zs_nxt_get n1 (by omega)
      obtain ⟨j, j1, j2, j3⟩ := zs_nxt_get n3 (by omega)
      have := hg.2.1 k k1
      exact ⟨_, _, by omega, by omega, by omega, .inr (.inl ⟨k, j, k1, j1, rfl, rfl⟩)⟩
    · obtain ⟨k, k1, k2, k3⟩ := zs_nxt_get n2 (by omega)
      obtain ⟨j, j1, j2, j3⟩ := zs_nxt_get n3 (by omega)
      have := hg2.2.1 k k1
      exact ⟨_, _, by omega, by omega, by omega, .inr (.inr ⟨k, j, k1, j1, rfl, rfl⟩)⟩
  · obtain ⟨a, n1⟩ := zs_nxt_ex l f
    obtain ⟨b, n2⟩ := zs_nxt_ex m f
    obtain ⟨c, n3⟩ := zs_nxt_ex o f
    have w1 := zs_nxt_r hg n1
    have w2 := zs_nxt_r hg2 n2
    have w3 := zs_nxt_r hg3 n3
    have fin : ((a ≤ e ∧ b ≤ e) ∨ (a ≤ e ∧ c ≤ e) ∨ (b ≤ e ∧ c ≤ e)) → f < N → e < 60 → ∃ f' e', f ≤ f' ∧ f' < 60 ∧ e' ≤ e ∧ zg_S 2 l m o N f' e' := fun q hf he => by
      refine ⟨f, zg_3 2 a b c, Int.le_refl _, by omega, ?_, by omega, by omega, ?_, a, b, c, n1, n2, n3, rfl⟩
      · unfold zg_3
        rw [if_neg (by omega), if_neg (by omega)]
        omega
      · unfold zg_3
        rw [if_neg (by omega), if_neg (by omega)]
        omega
    rcases hs with ⟨p, q, p1, q1, rfl, rfl⟩ | ⟨p, q, p1, q1, rfl, rfl⟩ | ⟨p, q, p1, q1, rfl, rfl⟩
    · have := zs_nxt_le hg n1 p1 (by omega)
      have := zs_nxt_le hg2 n2 q1 (by omega)
      have := zs_bn_f hg hb p1
      have := hb p p1
      have := hb2 q q1
      exact fin (by omega) (by omega) (by omega)
    · have := zs_nxt_le hg n1 p1 (by omega)
      have := zs_nxt_le hg3 n3 q1 (by omega)
      have := zs_bn_f hg hb p1
      have := hb p p1
      have := hb3 q q1
      exact fin (by omega) (by omega) (by omega)
    · have := zs_nxt_le hg2 n2 p1 (by omega)
      have := zs_nxt_le hg3 n3 q1 (by omega)
      have := zs_bn_f hg2 hb2 p1
      have := hb2 p p1
      have := hb3 q q1
      exact fin (by omega) (by omega) (by omega)
theorem zl_isl_iff {S T : Int → Int → Prop} {l : zL} (h : ∀ x y, S x y ↔ T x y) (hs : zl_isl S l) : zl_isl T l := by
  have : S = T := by
    funext x y
    exact propext (h x y)
  rw [← this]
  exact hs
theorem zp_both_iff {l m : zL} {x y : Int} : zp_off 3 l m x y ↔ zo_bth l m x y := by
  unfold zp_off zo_two zo_bth
  rw [if_neg (by omega), if_pos (by omega)]
  simp only [if_true]
theorem zp_both {l m l' : zL} {N : Nat} (hN : N ≤ 60) (hg : zs_ok l) (hg2 : zs_ok m) (hb : zs_bn N l) (hb2 : zs_bn N m) (h : zl_isl (zg_S 2 l m [] N) l') : zl_isl (zp_off 3 l m) l' := by
  refine zl_isl_iff (fun x y => ?_) (zp_two hN hg hg2 zs_nil_ok hb hb2 (fun k hk => by simp at hk) h)
  rw [zp_both_iff]
  constructor
  · rintro (h | h | h)
    · exact h
    · exact absurd h zo_bth_nil
    · exact absurd h zo_bth_nil
  · exact .inl
theorem zp_then {l m l' : zL} (hg : zs_ok l) (hg2 : zs_ok m) (h : zl_isl (zf_S l m l.length) l') : zl_isl (zp_off 4 l m) l' := by
  refine zl_isl_eq (fun f e h0 h60 hs => ?_) (fun f e h0 h60 hs => ?_) h
  · obtain ⟨h1, p, h2, h3, rfl, n1⟩ := hs
    obtain ⟨j, j1, j2, j3⟩ := zs_nxt_get n1 (by omega)
    refine ⟨_, _, Int.le_refl _, h60, Int.le_of_eq j3, ?_⟩
    unfold zp_off zo_two
    rw [if_neg (by omega), if_pos (by omega)]
    simp only [show ¬ ((4 : Int) = 3) by omega, if_false]
    exact ⟨p, j, h3, j1, by omega, rfl, rfl⟩
  · unfold zp_off zo_two at hs
    rw [if_neg (by omega), if_pos (by omega)] at hs
    simp only [show ¬ ((4 : Int) = 3) by omega, if_false] at hs
    obtain ⟨p, q, p1, q1, h1, rfl, rfl⟩ := hs
    obtain ⟨b, n2⟩ := zs_nxt_ex m (zs_l l p + 1)
    have := zs_nxt_le hg2 n2 q1 (by omega)
    have := hg2.2.1 q q1
    exact ⟨_, b, Int.le_refl _, h60, by omega, by omega, p, p1, p1, rfl, n2⟩
theorem zl_isl_sub {S : Int → Int → Prop} {l : zL} (hg : zs_ok l) (h : ∀ x y, S x y ↔ zs_in l x y) : zl_isl S l := by
  refine ⟨hg, fun f e => ⟨fun q => ?_, fun q => (h f e).mp q.2.2.1⟩⟩
  have hb := zs_in_b hg q
  refine ⟨hb.1, by omega, (h f e).mpr q, fun e' q2 => ?_, fun f' e' h1 h2 q2 => ?_⟩
  · obtain ⟨i, i1, i2, i3⟩ := q
    obtain ⟨j, j1, j2, j3⟩ := (h f e').mp q2
    have : i = j := by
      by_cases t : i < j
      · have := hg.2.2 i j t j1
        omega
      · by_cases t2 : j < i
        · have := hg.2.2 j i t2 i1
          omega
        · omega
    subst this
    omega
  · obtain ⟨i, i1, i2, i3⟩ := q
    obtain ⟨j, j1, j2, j3⟩ := (h f' e').mp q2
    have : i < j := by
      by_cases t : i < j
      · exact t
      · have := zs_mono hg (show j ≤ i by omega) i1
        omega
    have := hg.2.2 i j this j1
    omega
theorem zp_sift {k o w : Int} {l m : zL} (hk : 5 ≤ k ∧ k ≤ 8) (ho : o = 1 ∧ (k = 5 ∨ k = 6) ∨ o = 0 ∧ (k = 7 ∨ k = 8)) (hw : w = 1 ∧ (k = 5 ∨ k = 7) ∨ w = 0 ∧ (k = 6 ∨ k = 8)) (hg : zs_ok l) : zl_isl (zp_off k l m) (zs_fil l (zo_ts2 o w l m) l.length) := by
  refine zl_isl_sub (zs_fil_ok hg _ (Nat.le_refl _)).1 (fun x y => ?_)
  rw [zs_fil_in]
  unfold zp_off
  rw [if_neg (by omega), if_neg (by omega)]
  exact ⟨fun ⟨p, a, b, c⟩ => ⟨p, a, (zo_ts2_eq ho hw).mpr b, c⟩, fun ⟨p, a, b, c⟩ => ⟨p, a, (zo_ts2_eq ho hw).mp b, c⟩⟩
theorem s_54 {xs : Nat → Int32} {L d : Nat} {J K : jZ} {P : jZ → jZ → Prop} {a b c : Nat} {l m : zL} {k : Int} (hk : 5 ≤ k ∧ k ≤ 8) (ha : jz_kd a = 16) (hb : jz_kd b = 16) (hc : jz_kd c = 16) (hbc : b + 2 < c ∨ c + 2 < b) (hac : a = c ∨ a + 2 < c ∨ c + 2 < a) (hg : zs_ok l) (hg2 : zs_ok m) (hr : zs_at J a l) (hr2 : zs_at J b m) (h : ∀ J' l', (∀ x, x < c ∨ c + 2 < x → J' x = J x) → zs_at J' c l' → zl_isl (zp_off k l m) l' → P J' K) : q_54 xs L (d + 3) k a b c J K P := by
  have fin : ∀ o w : Int, (o = 1 ∧ (k = 5 ∨ k = 6) ∨ o = 0 ∧ (k = 7 ∨ k = 8)) → (w = 1 ∧ (k = 5 ∨ k = 7) ∨ w = 0 ∧ (k = 6 ∨ k = 8)) → l_54_36 xs L (d + 2) a b c o w J K P := fun o w ho hw => by
    refine e_54_36 ha hb hc ?_
    rw [hr.1]
    refine s_54_54 (by omega) (by omega) ha hb hc hbc hg hg2 l.length 0 0 _ (by omega) (fun j _ hj => ?_) ?_ ?_ hac ⟨by omega, by omega, fun j hj => by omega⟩ (fun J' f1 a1 => h J' _ (fun x hx => by rw [f1 x hx, zu_row (by omega)]) a1 (zp_sift hk ho hw hg))
    · rw [zu_row (by omega), zu_row (by omega)]
      exact hr.2 j hj
    · exact ⟨by rw [zu_ne (by omega)]; exact hr2.1, fun j hj => by rw [zu_ne (by omega), zu_ne (by omega)]; exact hr2.2 j hj⟩
    · exact ⟨zu_self, fun j hj => by simp [zs_fil] at hj⟩
  have mid : ∀ o : Int, (o = 1 ∧ (k = 5 ∨ k = 6) ∨ o = 0 ∧ (k = 7 ∨ k = 8)) → l_54_18 xs L (d + 2) k a b c o J K P := fun o ho =>
    e_54_18 ha hb hc ⟨by omega, fun q => fin o 1 ho (by omega), fun q => ⟨fun q2 => fin o 0 ho (by omega), fun q2 => fin o 1 ho (by omega)⟩⟩
  exact e_54 ha hb hc ⟨by omega, fun q => mid 1 (by omega), fun q => ⟨fun q2 => mid 0 (by omega), fun q2 => mid 1 (by omega)⟩⟩
theorem s_53 {xs : Nat → Int32} {L d : Nat} {J K : jZ} {P : jZ → jZ → Prop} {a b c : Nat} {l m : zL} {k : Int} {N : Nat} (hk : 2 ≤ k ∧ k ≤ 8) (hN : N ≤ 60) (hp : J 1 3 = (N : Int)) (he : zs_at J 63 []) (ha : jz_kd a = 16) (hb : jz_kd b = 16) (hc : jz_kd c = 16) (hc63 : ¬ c = 63) (hbc : b + 2 < c ∨ c + 2 < b) (hac : a = c ∨ a + 2 < c ∨ c + 2 < a) (hg : zs_ok l) (hg2 : zs_ok m) (hn : zs_bn N l) (hn2 : zs_bn N m) (hr : zs_at J a l) (hr2 : zs_at J b m) (h : ∀ J' l', (∀ x, x ≠ 67 → x < c ∨ c + 2 < x → J' x = J x) → zs_at J' c l' → zl_isl (zp_off k l m) l' → P J' K) : q_53 xs L (d + 4) k a b c J K P := by
  have hcc := zk_16 hc
  have fr : ∀ {J1 J2 J3 : jZ}, (∀ x, x ≠ 67 → J1 x = J x) → (∀ x, x ≠ 67 → J2 x = J1 x) → (∀ x, x ≠ 67 → x < c ∨ c + 2 < x → J3 x = J2 x) → ∀ x, x ≠ 67 → x < c ∨ c + 2 < x → J3 x = J x := fun f1 f2 f3 x h1 h2 => by rw [f3 x h1 h2, f2 x h1, f1 x h1]
  refine e_53 ha hb hc ⟨by omega, fun q => s_42 (fun J1 f1 S1 => ⟨fun q2 => ⟨fun q3 => ?_, fun q3 => ?_⟩, fun q2 => ?_⟩), fun q => s_54 (by omega) ha hb hc hbc hac hg hg2 hr hr2 (fun J' l' f1 a1 e1 => h J' l' (fun x h1 h2 => f1 x h2) a1 e1)⟩
  · refine s_44 (by omega) ha hb (by rfl) hg hg2 zs_nil_ok hN (by rw [f1 1 (by omega)]; exact hp) (zs_at_67 ha hr f1) (zs_at_67 hb hr2 f1) (zs_at_67 rfl he f1) S1 (fun J2 f2 S2 => s_52 hc (by omega) (zg_S_od (by omega) hg hg2 zs_nil_ok) S2 (fun J3 l' f3 a3 e3 => h J3 l' (fr f1 f2 f3) a3 ?_))
    obtain rfl : k = 3 := by omega
    exact zp_both hN hg hg2 hn hn2 e3
  · subst q3
    exact s_44 (by omega) ha hb (by rfl) hg hg2 zs_nil_ok hN (by rw [f1 1 (by omega)]; exact hp) (zs_at_67 ha hr f1) (zs_at_67 hb hr2 f1) (zs_at_67 rfl he f1) S1 (fun J2 f2 S2 => s_52 hc (by omega) (zg_S_od (by omega) hg hg2 zs_nil_ok) S2 (fun J3 l' f3 a3 e3 => h J3 l' (fr f1 f2 f3) a3 (zp_either hN hg hg2 hn hn2 e3)))
  · subst q2
    exact s_55 ha hb hg hg2 (zs_at_67 ha hr f1) (zs_at_67 hb hr2 f1) S1 (fun J2 f2 S2 => s_52 hc (by omega) (zf_S_od hg hg2) S2 (fun J3 l' f3 a3 e3 => h J3 l' (fr f1 f2 f3) a3 (zp_then hg hg2 e3)))
