/-! The class's lists as they are wanted. -/
theorem zl_below {S : Int → Int → Prop} {l : zL} (hi : zl_isl S l) (hod : zl_od S) : ∀ (n : Nat) (f e : Int), (e - f).toNat ≤ n → 0 ≤ f → f < 60 → S f e → ∃ f' e', f ≤ f' ∧ e' ≤ e ∧ zs_in l f' e' := by
  intro n
  induction n with
  | zero =>
    intro f e hn h0 h60 hs
    have := hod f e hs
    refine ⟨f, e, Int.le_refl _, Int.le_refl _, (hi.2 f e).mpr ⟨h0, h60, hs, fun e' h1 => by have := hod f e' h1; omega, fun f' e' h1 h2 h3 => by have := hod f' e' h3; omega⟩⟩
  | succ n ih =>
    intro f e hn h0 h60 hs
    have h1 := hod f e hs
    by_cases q : zl_mn S f e
    · exact ⟨f, e, Int.le_refl _, Int.le_refl _, (hi.2 f e).mpr ⟨h0, h60, q⟩⟩
    · by_cases q2 : ∃ e', S f e' ∧ e' < e
      · obtain ⟨e', a, b⟩ := q2
        have := hod f e' a
        obtain ⟨f1, e1, c1, c2, c3⟩ := ih f e' (by omega) h0 h60 a
        exact ⟨f1, e1, c1, by omega, c3⟩
      · by_cases q3 : ∃ f' e', f < f' ∧ f' < 60 ∧ S f' e' ∧ e' ≤ e
        · obtain ⟨f', e', a, b, c, t⟩ := q3
          have := hod f' e' c
          obtain ⟨f1, e1, c1, c2, c3⟩ := ih f' e' (by omega) (by omega) b c
          exact ⟨f1, e1, by omega, by omega, c3⟩
        · refine absurd ⟨hs, fun e' a => ?_, fun f' e' a b c => ?_⟩ q
          · by_cases t : e ≤ e'
            · exact t
            · exact absurd ⟨e', a, by omega⟩ q2
          · by_cases t : e < e'
            · exact t
            · exact absurd ⟨f', e', a, b, c, by omega⟩ q3
theorem zp_one {l m o l' : zL} {N : Nat} (hN : N ≤ 60) (hg : zs_gd N l) (hg2 : zs_gd N m) (hg3 : zs_gd N o) (h : zl_isl (zg_S 1 l m o N) l') : zl_isl (fun x y => zs_in l x y ∨ zs_in m x y ∨ zs_in o x y) l' := by
  refine zl_isl_eq (fun f e h0 h60 hs => ?_) (fun f e h0 h60 hs => ?_) h
  · obtain ⟨h1, h2, h3, a, b, c, n1, n2, n3, he⟩ := hs
    have w1 := zs_nxt_r hg.1 n1
    have w2 := zs_nxt_r hg2.1 n2
    have w3 := zs_nxt_r hg3.1 n3
    unfold zg_3 at he
    rw [if_pos rfl] at he
    have cs : a ≤ e ∨ b ≤ e ∨ c ≤ e := by omega
    rcases cs with q | q | q
    · obtain ⟨k, k1, k2, k3⟩ := zs_nxt_get n1 (by omega)
      have := hg.1.2.1 k k1
      exact ⟨zs_f l k, zs_l l k, k2, by omega, by omega, .inl ⟨k, k1, rfl, rfl⟩⟩
    · obtain ⟨k, k1, k2, k3⟩ := zs_nxt_get n2 (by omega)
      have := hg2.1.2.1 k k1
      exact ⟨zs_f m k, zs_l m k, k2, by omega, by omega, .inr (.inl ⟨k, k1, rfl, rfl⟩)⟩
    · obtain ⟨k, k1, k2, k3⟩ := zs_nxt_get n3 (by omega)
      have := hg3.1.2.1 k k1
      exact ⟨zs_f o k, zs_l o k, k2, by omega, by omega, .inr (.inr ⟨k, k1, rfl, rfl⟩)⟩
  · obtain ⟨a, n1⟩ := zs_nxt_ex l f
    obtain ⟨b, n2⟩ := zs_nxt_ex m f
    obtain ⟨c, n3⟩ := zs_nxt_ex o f
    have w1 := zs_nxt_r hg.1 n1
    have w2 := zs_nxt_r hg2.1 n2
    have w3 := zs_nxt_r hg3.1 n3
    have fin : (a ≤ e ∨ b ≤ e ∨ c ≤ e) → f < N → e < 60 → ∃ f' e', f ≤ f' ∧ f' < 60 ∧ e' ≤ e ∧ zg_S 1 l m o N f' e' := fun q hf he => by
      refine ⟨f, zg_3 1 a b c, Int.le_refl _, by omega, ?_, by omega, by omega, ?_, a, b, c, n1, n2, n3, rfl⟩
      · unfold zg_3
        rw [if_pos rfl]
        omega
      · unfold zg_3
        rw [if_pos rfl]
        omega
    rcases hs with q | q | q
    · have hb := zs_gd_in hg q
      obtain ⟨k, k1, rfl, rfl⟩ := q
      have := zs_nxt_le hg.1 n1 k1 (by omega)
      exact fin (by omega) (by omega) (by omega)
    · have hb := zs_gd_in hg2 q
      obtain ⟨k, k1, rfl, rfl⟩ := q
      have := zs_nxt_le hg2.1 n2 k1 (by omega)
      exact fin (by omega) (by omega) (by omega)
    · have hb := zs_gd_in hg3 q
      obtain ⟨k, k1, rfl, rfl⟩ := q
      have := zs_nxt_le hg3.1 n3 k1 (by omega)
      exact fin (by omega) (by omega) (by omega)
theorem zp_three {l m o l' : zL} {N : Nat} (hN : N ≤ 60) (hg : zs_gd N l) (hg2 : zs_gd N m) (hg3 : zs_gd N o) (h : zl_isl (zg_S 3 l m o N) l') : zl_isl (zp_off 3 (zl_of (zp_off 3 l m)) o) l' := by
  have g12 := zl_gd hN (fun x y q => zp_off_b hg hg2 q) (S := zp_off 3 l m)
  refine zl_isl_iff (fun x y => zp_both_iff.symm) (zl_isl_eq (T := zo_bth (zl_of (zp_off 3 l m)) o) (fun f e h0 h60 hs => ?_) (fun f e h0 h60 hs => ?_) h)
  · obtain ⟨h1, h2, h3, a, b, c, n1, n2, n3, he⟩ := hs
    unfold zg_3 at he
    rw [if_neg (by omega), if_pos rfl] at he
    obtain ⟨k, k1, k2, k3⟩ := zs_nxt_get n1 (by omega)
    obtain ⟨j, j1, j2, j3⟩ := zs_nxt_get n2 (by omega)
    obtain ⟨t, t1, t2, t3⟩ := zs_nxt_get n3 (by omega)
    have b1 := hg.1.2.1 k k1
    have b2 := hg2.1.2.1 j j1
    have b3 := hg3.1.2.1 t t1
    obtain ⟨f', e', c1, c2, p, p1, p2, p3⟩ := zl_below g12.1 (fun x y q => (zp_off_b hg hg2 q).2.1) _ _ _ (Nat.le_refl _) (by omega) (by omega) (zp_both_iff.mpr ⟨k, j, k1, j1, rfl, rfl⟩)
    have b4 := g12.2.1.2.1 p p1
    exact ⟨_, _, by omega, by omega, by omega, p, t, p1, t1, rfl, rfl⟩
  · obtain ⟨p, t, p1, t1, rfl, rfl⟩ := hs
    have hp := (zp_both_iff.mp ((g12.1.2 _ _).mp ⟨p, p1, rfl, rfl⟩).2.2.1)
    obtain ⟨k, j, k1, j1, e1, e2⟩ := hp
    obtain ⟨a, n1⟩ := zs_nxt_ex l (min (zs_f (zl_of (zp_off 3 l m)) p) (zs_f o t))
    obtain ⟨b, n2⟩ := zs_nxt_ex m (min (zs_f (zl_of (zp_off 3 l m)) p) (zs_f o t))
    obtain ⟨c, n3⟩ := zs_nxt_ex o (min (zs_f (zl_of (zp_off 3 l m)) p) (zs_f o t))
    have b1 := hg.1.2.1 k k1
    have b2 := hg2.1.2.1 j j1
    have b3 := hg3.1.2.1 t t1
    have d1 := hg.2 k k1
    have d2 := hg2.2 j j1
    have d3 := hg3.2 t t1
    have q1 := zs_nxt_le hg.1 n1 k1 (by omega)
    have q2 := zs_nxt_le hg2.1 n2 j1 (by omega)
    have q3 := zs_nxt_le hg3.1 n3 t1 (by omega)
    refine ⟨_, zg_3 3 a b c, Int.le_refl _, by omega, ?_, by omega, by omega, ?_, a, b, c, n1, n2, n3, rfl⟩
    · unfold zg_3
      rw [if_neg (by omega), if_pos rfl]
      omega
    · unfold zg_3
      rw [if_neg (by omega), if_pos rfl]
      omega
theorem zp_som {k : Int} {l m o l' : zL} {N : Nat} (hk : 1 ≤ k ∧ k ≤ 3) (hN : N ≤ 60) (hg : zs_gd N l) (hg2 : zs_gd N m) (hg3 : zs_gd N o) (h : zl_isl (zg_S k l m o N) l') : zl_isl (zk_som k l m o) l' := by
  have cs : k = 1 ∨ k = 2 ∨ k = 3 := by omega
  rcases cs with rfl | rfl | rfl
  · refine zl_isl_iff (fun x y => ?_) (zp_one hN hg hg2 hg3 h)
    unfold zk_som
    exact ⟨fun q => .inr (.inl ⟨rfl, q⟩), fun q => by rcases q with ⟨c, -⟩ | ⟨-, q⟩ | ⟨c, -⟩ <;> first | omega | exact q⟩
  · refine zl_isl_iff (fun x y => ?_) (zp_two hN hg.1 hg2.1 hg3.1 hg.2 hg2.2 hg3.2 h)
    unfold zk_som
    exact ⟨fun q => .inr (.inr ⟨rfl, q⟩), fun q => by rcases q with ⟨c, -⟩ | ⟨c, -⟩ | ⟨-, q⟩ <;> first | omega | exact q⟩
  · refine zl_isl_iff (fun x y => ?_) (zp_three hN hg hg2 hg3 h)
    unfold zk_som
    exact ⟨fun q => .inl ⟨rfl, q⟩, fun q => by rcases q with ⟨-, q⟩ | ⟨c, -⟩ | ⟨c, -⟩ <;> first | omega | exact q⟩
theorem s_39 {xs : Nat → Int32} {L d : Nat} {J K : jZ} {P : Nat → jZ → jZ → Prop} {i : Nat} (hi : i < 24) (h : P (68 + 3 * i) J K) : q_39 xs L (d + 1) (i : Int) J K P := by
  refine e_39 ⟨by omega, fun q => by omega, fun q => ⟨fun q2 => by omega, fun q2 => ⟨by omega, ?_⟩⟩⟩
  rw [Int.toNat_natCast]
  exact h
/-- j is one of those that an ask is over -/
def zk_part (r : Nat → Int) (j : Nat) : Prop := (2 ≤ r 0 ∧ r 0 ≤ 8 ∧ ((j : Int) = r 1 ∨ (j : Int) = r 2)) ∨ (r 0 = 10 ∧ (j : Int) = r 1) ∨ (r 0 = 11 ∧ ((j : Int) = r 1 ∨ (j : Int) = r 2 ∨ (j : Int) = r 3))
def zA_at (J : jZ) (b : Nat) (A : zA) : Prop := J b 1 = (A.1 : Int) ∧ ∀ i, i < A.1 → zk_at (J (b + 2 + i)) (A.2 i)
theorem jz_e62 {i : Nat} (h : i < 24) : jz_kd (68 + 3 * i) = 16 := by
  have := jze_62 (i := (i : Int)) (by omega)
  simpa using this
theorem jz_e10 {i : Nat} (h : i < 24) : jz_kd (11 + i) = 10 := by
  have := jze_10 (i := (i : Int)) (by omega)
  simpa using this
theorem s_33 {xs : Nat → Int32} {L d : Nat} {J K : jZ} {P : jZ → jZ → Prop} {T : zT} {A : zA} {wo : Int} {i : Nat} (hT : zt_ok T) (hA : zA_ok A) (hw : -1 ≤ wo ∧ wo < 16) (hi : i < A.1) (rT : zt_at J 1 T) (rA : zA_at J 9 A) (hwo : J 61 6 = wo) (he : zs_at J 63 []) (hp : ∀ j, zk_part (A.2 i) j → zs_at J (68 + 3 * j) (zk_sem wo T A j)) (h : ∀ J', (∀ x, x ≠ 67 → x < 68 + 3 * i ∨ 68 + 3 * i + 2 < x → J' x = J x) → zs_at J' (68 + 3 * i) (zk_sem wo T A i) → P J' K) : q_33 xs L (d + 5) (i : Int) J K P := by
  have h24 := hA.1
  have hk := hA.2 i hi
  have ra := rA.2 i hi
  rw [show 9 + 2 + i = 11 + i by omega] at ra
  have gd := fun j (hj : j < A.1) => (zk_sem_gd (wo := wo) hT hA j hj).2
  have kc : jz_kd (68 + 3 * i) = 16 := jz_e62 (by omega)
  have fin : ∀ J' l', (∀ x, x ≠ 67 → x < 68 + 3 * i ∨ 68 + 3 * i + 2 < x → J' x = J x) → zs_at J' (68 + 3 * i) l' → zl_isl (zk_off wo T (A.2 i) (zk_sem wo T A)) l' → P J' K := fun J' l' q1 q2 q3 => h J' q1 (by rw [← zk_sem_of hk q3]; exact q2)
  have leaf : (A.2 i 0 = 0 ∨ A.2 i 0 = 1) → q_34 xs L (d + 4) (11 + i) (68 + 3 * i) J K (fun J' K' => P J' K') := fun q =>
    s_34 hT (jz_e10 (by omega)) kc (by omega) (by omega) hw hk q rT hwo ra (fun J' l' q1 q2 q3 => fin J' l' (fun x _ hx => q1 x hx) q2 (zl_isl_iff (fun x y => by
      unfold zk_off
      constructor
      · exact fun r => .inl ⟨q, r⟩
      · rintro (⟨-, r⟩ | ⟨r, -⟩ | ⟨r, -⟩ | ⟨r, -⟩ | ⟨r, -, -⟩)
        · exact r
        · omega
        · omega
        · omega
        · omega) q3))
  refine e_33 ?_
  rw [Int.toNat_natCast, ra.1]
  refine ⟨by omega, by rcases hk with q | q | q | q | q | q <;> omega, fun q => leaf (.inl q), fun q => ⟨fun q2 => ⟨fun q3 => ⟨fun q4 => ⟨fun q5 => ?_, fun q5 => ?_⟩, fun q4 => ?_⟩, fun q3 => ?_⟩, fun q2 => leaf (.inr q2)⟩⟩
  · have hb : 2 ≤ A.2 i 0 ∧ A.2 i 0 ≤ 8 ∧ 0 ≤ A.2 i 1 ∧ A.2 i 1 < i ∧ 0 ≤ A.2 i 2 ∧ A.2 i 2 < i := by rcases hk with q | q | q | q | q | q <;> omega
    obtain ⟨u, hu⟩ : ∃ u : Nat, A.2 i 1 = (u : Int) := ⟨(A.2 i 1).toNat, by omega⟩
    obtain ⟨v, hv⟩ : ∃ v : Nat, A.2 i 2 = (v : Int) := ⟨(A.2 i 2).toNat, by omega⟩
    have e1 : J (11 + i) 1 = (u : Int) := by
      rw [ra.2.1]
      unfold zk_x
      rw [if_pos (.inl ⟨hb.1, hb.2.1⟩), hu]
    have e2 : J (11 + i) 2 = (v : Int) := by
      rw [ra.2.2.1]
      unfold zk_y
      rw [if_pos (.inl ⟨hb.1, hb.2.1⟩), hv]
    rw [e1]
    refine s_39 (by omega) ⟨jz_e62 (by omega), ?_⟩
    rw [e2]
    refine s_39 (by omega) ⟨jz_e62 (by omega), s_53 (by omega) hT.1 rT.1 he (jz_e62 (by omega)) (jz_e62 (by omega)) kc (by omega) (by omega) (by omega) (gd u (by omega)).1 (gd v (by omega)).1 (gd u (by omega)).2 (gd v (by omega)).2 (hp u (.inl ⟨hb.1, hb.2.1, .inl hu.symm⟩)) (hp v (.inl ⟨hb.1, hb.2.1, .inr hv.symm⟩)) (fun J' l' c1 c2 c3 => fin J' l' c1 c2 (zl_isl_iff (fun x y => ?_) c3))⟩
    unfold zk_off
    rw [hu, hv, Int.toNat_natCast, Int.toNat_natCast]
    constructor
    · exact fun r => .inr (.inr (.inr (.inr ⟨by omega, by omega, r⟩)))
    · rintro (⟨r, -⟩ | ⟨r, -⟩ | ⟨r, -⟩ | ⟨r, -⟩ | ⟨-, -, r⟩)
      · omega
      · omega
      · omega
      · omega
      · exact r
  · have hb : 0 ≤ A.2 i 1 ∧ A.2 i 1 < i ∧ 0 ≤ A.2 i 2 ∧ A.2 i 2 < i ∧ 0 ≤ A.2 i 3 ∧ A.2 i 3 < i ∧ 1 ≤ A.2 i 4 ∧ A.2 i 4 ≤ 3 := by rcases hk with q | q | q | q | q | q <;> omega
    obtain ⟨u, hu⟩ : ∃ u : Nat, A.2 i 1 = (u : Int) := ⟨(A.2 i 1).toNat, by omega⟩
    obtain ⟨v, hv⟩ : ∃ v : Nat, A.2 i 2 = (v : Int) := ⟨(A.2 i 2).toNat, by omega⟩
    obtain ⟨w, hw'⟩ : ∃ w : Nat, A.2 i 3 = (w : Int) := ⟨(A.2 i 3).toNat, by omega⟩
    have e1 : J (11 + i) 1 = (u : Int) := by
      rw [ra.2.1]
      unfold zk_x
      rw [if_pos (by omega), hu]
    have e2 : J (11 + i) 2 = (v : Int) := by
      rw [ra.2.2.1]
      unfold zk_y
      rw [if_pos (by omega), hv]
    have e3 : J (11 + i) 3 = (w : Int) := by
      rw [ra.2.2.2.1]
      unfold zk_z
      rw [if_pos (by omega), hw']
    have e4 : J (11 + i) 4 = A.2 i 4 := by
      rw [ra.2.2.2.2.1]
      unfold zk_n
      rw [if_neg (by omega), if_neg (by omega), if_pos (by omega)]
    refine s_42 (fun J1 f1 S1 => ?_)
    rw [f1 (11 + i) (by omega), e1, e4]
    refine s_39 (by omega) ⟨jz_e62 (by omega), ?_⟩
    rw [f1 (11 + i) (by omega), e2]
    refine s_39 (by omega) ⟨jz_e62 (by omega), ?_⟩
    rw [f1 (11 + i) (by omega), e3]
    have k1 := jz_e62 (i := u) (by omega)
    have k2 := jz_e62 (i := v) (by omega)
    have k3 := jz_e62 (i := w) (by omega)
    refine s_39 (by omega) ⟨k3, s_44 (by omega) k1 k2 k3 (gd u (by omega)).1 (gd v (by omega)).1 (gd w (by omega)).1 hT.1 (by rw [f1 1 (by omega)]; exact rT.1) (zs_at_67 k1 (hp u (.inr (.inr ⟨q5, .inl hu.symm⟩))) f1) (zs_at_67 k2 (hp v (.inr (.inr ⟨q5, .inr (.inl hv.symm)⟩))) f1) (zs_at_67 k3 (hp w (.inr (.inr ⟨q5, .inr (.inr hw'.symm)⟩))) f1) S1 (fun J2 f2 S2 => s_52 kc (by omega) (zg_S_od (by omega) (gd u (by omega)).1 (gd v (by omega)).1 (gd w (by omega)).1) S2 (fun J3 l' f3 a3 c3 => fin J3 l' (fun x x1 x2 => by rw [f3 x x1 x2, f2 x x1, f1 x x1]) a3 (zl_isl_iff (fun x y => ?_) (zp_som (by omega) hT.1 (gd u (by omega)) (gd v (by omega)) (gd w (by omega)) c3))))⟩
    unfold zk_off
    rw [hu, hv, hw', Int.toNat_natCast, Int.toNat_natCast, Int.toNat_natCast]
    constructor
    · exact fun r => .inr (.inr (.inr (.inl ⟨q5, r⟩)))
    · rintro (⟨r, -⟩ | ⟨r, -⟩ | ⟨r, -⟩ | ⟨-, r⟩ | ⟨-, r, -⟩)
      · omega
      · omega
      · omega
      · exact r
      · omega
  · have hb : 0 ≤ A.2 i 1 ∧ A.2 i 1 < i ∧ 1 ≤ A.2 i 2 ∧ A.2 i 2 ≤ 60 := by rcases hk with q | q | q | q | q | q <;> omega
    obtain ⟨u, hu⟩ : ∃ u : Nat, A.2 i 1 = (u : Int) := ⟨(A.2 i 1).toNat, by omega⟩
    have e1 : J (11 + i) 1 = (u : Int) := by
      rw [ra.2.1]
      unfold zk_x
      rw [if_pos (by omega), hu]
    have e4 : J (11 + i) 4 = A.2 i 2 := by
      rw [ra.2.2.2.2.1]
      unfold zk_n
      rw [if_neg (by omega), if_pos (by omega)]
    rw [e1]
    refine s_39 (by omega) ⟨jz_e62 (by omega), ?_⟩
    rw [e4]
    refine s_40 (jz_e62 (by omega)) kc (by omega) (gd u (by omega)).1 (by omega) (hp u (.inr (.inl ⟨q4, hu.symm⟩))) (fun J' l' c1 c2 c3 => fin J' l' (fun x _ hx => c1 x hx) c2 (zl_isl_iff (fun x y => ?_) c3))
    unfold zk_off
    rw [hu, Int.toNat_natCast]
    constructor
    · exact fun r => .inr (.inr (.inl ⟨q4, r⟩))
    · rintro (⟨r, -⟩ | ⟨r, -⟩ | ⟨-, r⟩ | ⟨r, -⟩ | ⟨-, r, -⟩)
      · omega
      · omega
      · exact r
      · omega
      · omega
  · have hb : 0 ≤ A.2 i 1 ∧ A.2 i 1 ≤ 2 := by rcases hk with q | q | q | q | q | q <;> omega
    have e4 : J (11 + i) 4 = A.2 i 1 := by
      rw [ra.2.2.2.2.1]
      unfold zk_n
      rw [if_pos (by omega)]
    rw [e4]
    refine s_38 hb rfl kc (by omega) hT rT (fun J' l' c1 c2 c3 => fin J' l' (fun x _ hx => c1 x hx) c2 (zl_isl_iff (fun x y => ?_) c3))
    unfold zk_off
    constructor
    · exact fun r => .inr (.inl ⟨q3, r⟩)
    · rintro (⟨r, -⟩ | ⟨-, r⟩ | ⟨r, -⟩ | ⟨r, -⟩ | ⟨-, r, -⟩)
      · omega
      · exact r
      · omega
      · omega
      · omega
/-- reach: an ask, and all asks that its list comes of -/
def zA_rc (J : jZ) (b : Nat) (A : zA) : Prop := ∀ i, i < A.1 → zb (J (b + 2 + i) 10) i ∧ ∀ j, zb (J (b + 2 + i) 10) j → j ≤ i ∧ ∀ p, zk_part (A.2 j) p → zb (J (b + 2 + i) 10) p
/-- the lists that are known are as they are now -/
def zl_kn (J : jZ) (wo : Int) (T : zT) (A : zA) : Prop := ∀ j, zb (J 61 5) j → j < A.1 ∧ zs_at J (68 + 3 * j) (zk_sem wo T A j)
/-- what finding lists changes -/
def zl_fr (J J' : jZ) : Prop := (∀ x, x ≠ 61 → x ≠ 67 → x < 68 ∨ 140 ≤ x → J' x = J x) ∧ ∀ k, k ≠ 5 → J' 61 k = J 61 k
theorem zk_part_lt {i j : Nat} {r : Nat → Int} (h : zk_ok i r) (hp : zk_part r j) : j < i := by
  unfold zk_part at hp
  rcases h with q | q | q | q | q | q <;> omega
theorem s_32_38 {xs : Nat → Int32} {L d : Nat} {K : jZ} {P : Nat → jZ → jZ → Prop} {T : zT} {A : zA} {wo kn wt : Int} {a : Nat} (hT : zt_ok T) (hA : zA_ok A) (hw : -1 ≤ wo ∧ wo < 16) (ha : a < A.1) (rcm : Nat → Prop) (hwt2 : ∀ j, zb wt j ↔ (rcm j ∧ ¬ zb kn j)) (hrc : ∀ j, rcm j → j ≤ a ∧ ∀ p, zk_part (A.2 j) p → rcm p) (hra : rcm a) : ∀ (n i : Nat) (J : jZ), i + n = a + 1 → zt_at J 1 T → zA_at J 9 A → J 61 6 = wo → J 61 5 = kn → zs_at J 63 [] → (∀ j, zb kn j → j < A.1 ∧ zs_at J (68 + 3 * j) (zk_sem wo T A j)) → (∀ j, j < i → rcm j → zs_at J (68 + 3 * j) (zk_sem wo T A j)) → (∀ J', zl_fr J J' → zl_kn J' wo T A → (∀ j, zb kn j → zb (J' 61 5) j) → zb (J' 61 5) a → zs_at J' (68 + 3 * a) (zk_sem wo T A a) → P (68 + 3 * a) J' K) → l_32_38 xs L (d + 5) (a : Int) wt (i : Int) J K P
  | n, i, J, hn, rT, rA, hwo, hkn, he, hk, hr, h => by
    have h24 := hA.1
    refine e_32_38 ⟨by omega, by omega, fun q => ⟨by omega, ?_⟩, fun q => ?_⟩
    · obtain rfl : i = a + 1 := by omega
      rw [Int.toNat_natCast]
      have keep : ∀ j l, zs_at J (68 + 3 * j) l → zs_at (jm_up J 61 5 (jz_or (J 61 5) wt)) (68 + 3 * j) l := fun j l q => ⟨by rw [zu_ne (by omega)]; exact q.1, fun k hk => by rw [zu_ne (by omega), zu_ne (by omega)]; exact q.2 k hk⟩
      refine h _ ⟨fun x h1 _ _ => zu_row h1, fun k hk => zu_key hk⟩ (fun j hj => ?_) (fun j hj => by rw [zu_self, zb_or, hkn]; exact .inl hj) (by rw [zu_self, zb_or, hkn]; exact (Classical.em (zb kn a)).elim .inl (fun q2 => .inr ((hwt2 a).mpr ⟨hra, q2⟩))) (keep a _ (hr a (by omega) hra))
      rw [zu_self, zb_or, hkn] at hj
      rcases hj with hj | hj
      · exact ⟨(hk j hj).1, keep j _ (hk j hj).2⟩
      · have h1 := (hwt2 j).mp hj
        have h2 := hrc j h1.1
        exact ⟨by omega, keep j _ (hr j (by omega) h1.1)⟩
    · match n, hn with
      | 0, hn => omega
      | n + 1, hn =>
        rw [(zb_tst (by omega)).1]
        refine ⟨fun q2 => ?_, fun q2 => ?_⟩
        · refine s_32_38 hT hA hw ha rcm hwt2 hrc hra n (i + 1) J (by omega) rT rA hwo hkn he hk (fun j hj hj2 => ?_) h
          by_cases q3 : j = i
          · subst q3
            by_cases q4 : zb kn j
            · exact (hk j q4).2
            · exact absurd ((hwt2 j).mpr ⟨hj2, q4⟩) q2
          · exact hr j (by omega) hj2
        · have q3 := (hwt2 i).mp (Classical.not_not.mp q2)
          have q4 := hrc i q3.1
          refine s_33 hT hA hw (by omega) rT rA hwo he (fun j hj => hr j (zk_part_lt (hA.2 i (by omega)) hj) (q4.2 j hj)) (fun J' f1 a1 => ?_)
          have keep : ∀ j l, j ≠ i → zs_at J (68 + 3 * j) l → zs_at J' (68 + 3 * j) l := fun j l hj q => ⟨by rw [f1 _ (by omega) (by omega)]; exact q.1, fun k hk => by rw [f1 _ (by omega) (by omega), f1 _ (by omega) (by omega)]; exact q.2 k hk⟩
          refine s_32_38 hT hA hw ha rcm hwt2 hrc hra n (i + 1) J' (by omega) (zt_of rT (by rw [f1 1 (by omega) (by omega)]) (f1 _ (by omega) (by omega)) (f1 _ (by omega) (by omega)) (f1 _ (by omega) (by omega))) ⟨by rw [f1 9 (by omega) (by omega)]; exact rA.1, fun j hj => by rw [f1 _ (by omega) (by omega)]; exact rA.2 j hj⟩ (by rw [f1 61 (by omega) (by omega)]; exact hwo) (by rw [f1 61 (by omega) (by omega)]; exact hkn) ⟨by rw [f1 63 (by omega) (by omega)]; exact he.1, fun k hk => by simp at hk⟩ (fun j hj => ⟨(hk j hj).1, keep j _ (fun q5 => q3.2 (q5 ▸ hj)) (hk j hj).2⟩) (fun j hj hj2 => ?_) (fun J'' f2 => h J'' ⟨fun x h1 h2 h3 => by rw [f2.1 x h1 h2 h3, f1 x h2 (by omega)], fun k hk => by rw [f2.2 k hk, f1 61 (by omega) (by omega)]⟩)
          by_cases q5 : j = i
          · subst q5
            exact a1
          · exact keep j _ q5 (hr j (by omega) hj2)
theorem s_32 {xs : Nat → Int32} {L d : Nat} {J K : jZ} {P : Nat → jZ → jZ → Prop} {T : zT} {A : zA} {wo : Int} {a : Nat} (hT : zt_ok T) (hA : zA_ok A) (hw : -1 ≤ wo ∧ wo < 16) (ha : a < A.1) (rT : zt_at J 1 T) (rA : zA_at J 9 A) (hrc : zA_rc J 9 A) (hwo : J 61 6 = wo) (he : zs_at J 63 []) (hk : zl_kn J wo T A) (h : ∀ J', zl_fr J J' → zl_kn J' wo T A → (∀ j, zb (J 61 5) j → zb (J' 61 5) j) → zb (J' 61 5) a → zs_at J' (68 + 3 * a) (zk_sem wo T A a) → P (68 + 3 * a) J' K) : q_32 xs L (d + 6) (a : Int) J K P := by
  have h24 := hA.1
  have h1 := rA.1
  have hr := hrc a ha
  rw [show 9 + 2 + a = 11 + a by omega] at hr
  refine e_32 ⟨by omega, by omega, fun q => ⟨by omega, ?_⟩, fun q => by omega⟩
  rw [Int.toNat_natCast]
  refine s_32_38 (kn := J 61 5) hT hA hw ha (fun j => zb (J (11 + a) 10) j) (fun j => ?_) hr.2 hr.1 (a + 1) 0 J (by omega) rT rA hwo rfl he hk (fun j hj => by omega) h
  rw [zb_and, zb_xor, zb_m1]
  constructor
  · rintro ⟨q1, q2⟩
    exact ⟨q1, fun q3 => q2 ⟨fun _ => zb_lt q3, fun _ => q3⟩⟩
  · rintro ⟨q1, q2⟩
    exact ⟨q1, fun q3 => q2 (q3.mpr (zb_lt q1))⟩
