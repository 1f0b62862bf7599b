/-! What queries lean on; the first of them, in class and reference. -/
def rC (J : jZ) (k : Nat) : jZ := jm_up J 150 k (J 150 k + 1)
def rM (J : jZ) (k : Nat) : jZ := jm_up J 183 k (J 183 k + 1)
theorem s_13 {xs : Nat → Int32} {L d : Nat} {J K : jZ} {P : Int → jZ → jZ → Prop} {w : Int} {k : Nat} (hk : k < 5) (hw : w = -2 - (k : Int)) (h : P w (rC J k) K) : q_13 xs L (d + 1) w J K P := by
  refine e_13 ⟨by omega, fun q => by omega, fun q => ⟨fun q2 => by omega, fun q2 => ⟨by omega, ?_⟩⟩⟩
  rw [show (-2 - w).toNat = k by omega]
  exact h
theorem s_170 {xs : Nat → Int32} {L d : Nat} {J K : jZ} {P : Int → jZ → jZ → Prop} {w : Int} {k : Nat} (hk : k < 8) (hw : w = -(k : Int)) (h : P w (rM J k) K) : q_170 xs L (d + 1) w J K P := by
  refine e_170 ⟨by omega, ?_⟩
  rw [show (-w).toNat = k by omega]
  exact h
/-- the class's text and asks, and the lists that it knows -/
def cQ (J : jZ) (T : zT) (A : zA) : Prop := zt_ok T ∧ zA_ok A ∧ zt_at J 1 T ∧ zA_at J 9 A ∧ zA_rc J 9 A ∧ J 61 6 = -1 ∧ zs_at J 63 [] ∧ zl_kn J (-1) T A
def cF (J J' : jZ) : Prop := (∀ x, x ≠ 61 → x ≠ 67 → x < 68 ∨ 144 ≤ x → J' x = J x) ∧ ∀ k, k ≠ 5 → J' 61 k = J 61 k
theorem cF_rfl {J : jZ} : cF J J := ⟨fun _ _ _ _ => rfl, fun _ _ => rfl⟩
theorem cF_tr {J J' J'' : jZ} (h : cF J J') (h' : cF J' J'') : cF J J'' := ⟨fun x a b c => by rw [h'.1 x a b c, h.1 x a b c], fun k hk => by rw [h'.2 k hk, h.2 k hk]⟩
theorem cF_of {J J' : jZ} (h : zl_fr J J') : cF J J' := ⟨fun x a b c => h.1 x a b (by omega), h.2⟩
theorem zA_at_of {J J' : jZ} {b : Nat} {A : zA} (h : zA_at J b A) (h24 : A.1 ≤ 24) (hf : ∀ x, b ≤ x → x < b + 26 → J' x = J x) : zA_at J' b A := ⟨by rw [hf b (by omega) (by omega)]; exact h.1, fun i hi => by rw [hf _ (by omega) (by omega)]; exact h.2 i hi⟩
theorem zA_rc_of {J J' : jZ} {b : Nat} {A : zA} (h : zA_rc J b A) (h24 : A.1 ≤ 24) (hf : ∀ x, b ≤ x → x < b + 26 → J' x = J x) : zA_rc J' b A := fun i hi => by rw [hf _ (by omega) (by omega)]; exact h i hi
theorem cQ_F {J J' : jZ} {T : zT} {A : zA} (h : cQ J T A) (hf : cF J J') (hk : zl_kn J' (-1) T A) : cQ J' T A := by
  obtain ⟨a1, a2, a3, a4, a5, a6, a7, a8⟩ := h
  have h24 := a2.1
  have f := hf.1
  refine ⟨a1, a2, zt_of a3 (by rw [f 1 (by omega) (by omega) (by omega)]) (f _ (by omega) (by omega) (by omega)) (f _ (by omega) (by omega) (by omega)) (f _ (by omega) (by omega) (by omega)), zA_at_of a4 h24 (fun x _ _ => f x (by omega) (by omega) (by omega)), zA_rc_of a5 h24 (fun x _ _ => f x (by omega) (by omega) (by omega)), by rw [hf.2 6 (by omega)]; exact a6, ⟨by rw [f 63 (by omega) (by omega) (by omega)]; exact a7.1, fun k hk => by simp at hk⟩, hk⟩
theorem zS_gd {T : zT} {A : zA} {a : Nat} (hT : zt_ok T) (hA : zA_ok A) (ha : a < A.1) : zs_gd T.1 (zk_sem (-1) T A a) := (zk_sem_gd hT hA a ha).2
/-- ask a's list is found and kept -/
def cL (J : jZ) (T : zT) (A : zA) (a : Nat) : Prop := zb (J 61 5) a ∧ zs_at J (68 + 3 * a) (zk_sem (-1) T A a)
theorem s_of {xs : Nat → Int32} {L d : Nat} {J K : jZ} {P : Nat → jZ → jZ → Prop} {T : zT} {A : zA} {a : Nat} (hQ : cQ J T A) (ha : a < A.1) (h : ∀ J', cF J J' → (∀ x, 140 ≤ x → x < 144 → J' x = J x) → cQ J' T A → (∀ j, zb (J 61 5) j → cL J' T A j) → cL J' T A a → P (68 + 3 * a) J' K) : q_32 xs L (d + 6) (a : Int) J K P := by
  have hQ' := hQ
  obtain ⟨a1, a2, a3, a4, a5, a6, a7, a8⟩ := hQ
  refine s_32 a1 a2 (by omega) ha a3 a4 a5 a6 a7 a8 (fun J' f k g b r => h J' (cF_of f) (fun x h1 h2 => f.1 x (by omega) (by omega) (by omega)) (cQ_F hQ' (cF_of f) k) (fun j hj => ⟨g j hj, (k j (g j hj)).2⟩) ⟨b, r⟩)
/-- the reference's text and asks, and its lists once it has worked -/
def mQ (J : jZ) (T : zT) (A : zA) : Prop := zt_ok T ∧ zA_ok A ∧ mT_at J T ∧ mA_at J A ∧ J 167 37 = -1 ∧ mW_at J T A
def mF (J J' : jZ) : Prop := (∀ x, x ≠ 167 → x < 194 ∨ 205 ≤ x → J' x = J x) ∧ ∀ k, k ≠ 26 → J' 167 k = J 167 k
theorem mF_rfl {J : jZ} : mF J J := ⟨fun _ _ _ => rfl, fun _ _ => rfl⟩
theorem mF_tr {J J' J'' : jZ} (h : mF J J') (h' : mF J' J'') : mF J J'' := ⟨fun x a b => by rw [h'.1 x a b, h.1 x a b], fun k hk => by rw [h'.2 k hk, h.2 k hk]⟩
theorem mQ_F {J J' : jZ} {T : zT} {A : zA} (h : mQ J T A) (hf : mF J J') (hw : mW_at J' T A) : mQ J' T A := by
  obtain ⟨a1, a2, a3, a4, a5, a6⟩ := h
  exact ⟨a1, a2, mT_of a3 (hf.2 9 (by omega)) (hf.1 _ (by omega) (by omega)) (hf.1 _ (by omega) (by omega)) (hf.1 _ (by omega) (by omega)), mA_of a4 (hf.2 10 (by omega)) (hf.1 _ (by omega) (by omega)) (hf.1 _ (by omega) (by omega)), by rw [hf.2 37 (by omega)]; exact a5, hw⟩
theorem s_work {xs : Nat → Int32} {L d : Nat} {J K : jZ} {P : jZ → jZ → Prop} {T : zT} {A : zA} (hQ : mQ J T A) (h : ∀ J', mF J J' → mQ J' T A → mL_at J' (-1) T A A.1 → P J' K) : q_181 xs L (d + 8) J K P := by
  have hQ' := hQ
  obtain ⟨a1, a2, a3, a4, a5, a6⟩ := hQ
  refine s_181 a1 a2 a3 a4 a5 a6 (fun J' f1 f2 w l => ?_)
  have f : mF J J' := ⟨fun x h1 h2 => f1 x h1 (by omega) (by omega) (by omega) (by omega) (by omega), f2⟩
  exact h J' f (mQ_F hQ' f ⟨.inr w, fun _ => l⟩) l
-- many
theorem c_113 {xs : Nat → Int32} {L d : Nat} {J K : jZ} {P : Int → jZ → jZ → Prop} {T : zT} {A : zA} {a : Int} (hQ : cQ J T A) (ha : -2147483648 ≤ a ∧ a < 2147483648) (hb : ¬ (0 ≤ a ∧ a < A.1) → P (-2) (rC J 0) K) (h : 0 ≤ a ∧ a < A.1 → ∀ J', cF J J' → cQ J' T A → P ((zk_sem (-1) T A a.toNat).length : Int) J' K) : q_113 xs L (d + 7) a J K P := by
  have h24 := hQ.2.1.1
  have h1 := hQ.2.2.2.1.1
  refine e_113 ⟨ha, by omega, fun q => ?_, fun q => s_13 (k := 0) (by omega) (by omega) (hb (by omega))⟩
  obtain ⟨k, rfl⟩ : ∃ k : Nat, a = (k : Int) := ⟨a.toNat, by omega⟩
  refine s_of hQ (by omega) (fun J' f _ Q _ l => ⟨jz_e62 (by omega), ?_⟩)
  have := h (by omega) J' f Q
  rw [Int.toNat_natCast] at this
  rw [l.2.1]
  exact this
theorem m_241 {xs : Nat → Int32} {L d : Nat} {J K : jZ} {P : Int → jZ → jZ → Prop} {T : zT} {A : zA} {a : Int} (hQ : mQ J T A) (ha : -2147483648 ≤ a ∧ a < 2147483648) (hb : ¬ (0 ≤ a ∧ a < A.1) → P (-2) (rM J 2) K) (h : 0 ≤ a ∧ a < A.1 → ∀ J', mF J J' → mQ J' T A → P ((zk_sem (-1) T A a.toNat).length : Int) J' K) : q_241 xs L (d + 9) a J K P := by
  have h24 := hQ.2.1.1
  have h1 := hQ.2.2.2.1.1
  refine e_241 ⟨ha, by omega, fun q => ?_, fun q => s_170 (k := 2) (by omega) (by omega) (hb (by omega))⟩
  obtain ⟨k, rfl⟩ : ∃ k : Nat, a = (k : Int) := ⟨a.toNat, by omega⟩
  refine s_work hQ (fun J' f Q l => ⟨by omega, ?_⟩)
  have := h (by omega) J' f Q
  rw [Int.toNat_natCast] at this ⊢
  rw [(l k (by omega)).1]
  exact this
-- span
theorem c_114 {xs : Nat → Int32} {L d : Nat} {J K : jZ} {P : Int → jZ → jZ → Prop} {T : zT} {A : zA} {a i : Int} (hQ : cQ J T A) (ha : -2147483648 ≤ a ∧ a < 2147483648) (hi : -2147483648 ≤ i ∧ i < 2147483648) (hb : ¬ (0 ≤ a ∧ a < A.1) → P (-2) (rC J 0) K) (hb2 : 0 ≤ a ∧ a < A.1 → ¬ (0 ≤ i ∧ i < ((zk_sem (-1) T A a.toNat).length : Int)) → ∀ J', cF J J' → cQ J' T A → P (-2) (rC J' 0) K) (h : 0 ≤ a ∧ a < A.1 → (0 ≤ i ∧ i < ((zk_sem (-1) T A a.toNat).length : Int)) → ∀ J', cF J J' → cQ J' T A → P (zs_t (zk_sem (-1) T A a.toNat) i.toNat) J' K) : q_114 xs L (d + 7) a i J K P := by
  have h24 := hQ.2.1.1
  have h1 := hQ.2.2.2.1.1
  refine e_114 ⟨ha, by omega, fun q => ?_, fun q => s_13 (k := 0) (by omega) (by omega) (hb (by omega))⟩
  obtain ⟨k, rfl⟩ : ∃ k : Nat, a = (k : Int) := ⟨a.toNat, by omega⟩
  rw [Int.toNat_natCast] at hb2 h
  have gd := zS_gd hQ.1 hQ.2.1 (a := k) (by omega)
  have g60 := gd.1.1
  refine s_of hQ (by omega) (fun J' f _ Q _ l => ⟨jz_e62 (by omega), hi, ?_⟩)
  rw [l.2.1]
  refine ⟨by omega, fun q2 => s_of Q (by omega) (fun J2 f2 _ Q2 _ l2 => ⟨jz_e62 (by omega), by omega, ?_⟩), fun q2 => s_13 (k := 0) (by omega) (by omega) (hb2 (by omega) q2 J' f Q)⟩
  have e := l2.2.2 i.toNat (by omega)
  rw [e.1, e.2]
  exact h (by omega) q2 J2 (cF_tr f f2) Q2
theorem m_242 {xs : Nat → Int32} {L d : Nat} {J K : jZ} {P : Int → jZ → jZ → Prop} {T : zT} {A : zA} {a i : Int} (hQ : mQ J T A) (ha : -2147483648 ≤ a ∧ a < 2147483648) (hi : -2147483648 ≤ i ∧ i < 2147483648) (hb : ¬ (0 ≤ a ∧ a < A.1) → P (-2) (rM J 2) K) (hb2 : 0 ≤ a ∧ a < A.1 → ¬ (0 ≤ i ∧ i < ((zk_sem (-1) T A a.toNat).length : Int)) → ∀ J', mF J J' → mQ J' T A → P (-2) (rM J' 2) K) (h : 0 ≤ a ∧ a < A.1 → (0 ≤ i ∧ i < ((zk_sem (-1) T A a.toNat).length : Int)) → ∀ J', mF J J' → mQ J' T A → P (zs_t (zk_sem (-1) T A a.toNat) i.toNat) J' K) : q_242 xs L (d + 9) a i J K P := by
  have h24 := hQ.2.1.1
  have h1 := hQ.2.2.2.1.1
  refine e_242 ⟨ha, by omega, fun q => ?_, fun q => s_170 (k := 2) (by omega) (by omega) (hb (by omega))⟩
  obtain ⟨k, rfl⟩ : ∃ k : Nat, a = (k : Int) := ⟨a.toNat, by omega⟩
  rw [Int.toNat_natCast] at hb2 h
  have gd := zS_gd hQ.1 hQ.2.1 (a := k) (by omega)
  have g60 := gd.1.1
  refine s_work hQ (fun J' f Q l => ?_)
  have h2 := Q.2.2.2.1.1
  have lk := l k (by omega)
  rw [Int.toNat_natCast, lk.1]
  refine ⟨by omega, fun q2 => ⟨hi, by omega, by omega, fun q3 => ⟨by omega, ?_⟩, fun q3 => s_170 (k := 2) (by omega) (by omega) (hb2 (by omega) (by omega) J' f Q)⟩, fun q2 => by omega⟩
  obtain ⟨j, rfl⟩ : ∃ j : Nat, i = (j : Int) := ⟨i.toNat, by omega⟩
  have e := lk.2 j (by omega)
  rw [zm_idx, e.1, e.2]
  exact h (by omega) (by omega) J' f Q
-- at
theorem s_246_5 {xs : Nat → Int32} {L d : Nat} {J K : jZ} {P : Int → jZ → jZ → Prop} {l : zL} {p : Int} {i : Nat} (hi : i < 27) (hr : zm_at J i l) (hg : zs_ok l) (hp : -2147483648 ≤ p ∧ p < 2147483648) (h : P (zs_thr l p) J K) : ∀ (n k : Nat) (u : Int), k + n = l.length → u = zn (fun k => if zs_f l k ≤ p ∧ p ≤ zs_l l k then 1 else 0) k → l_246_5 xs L (d + 1) (i : Int) p u (k : Int) J K P
  | n, k, u, hn, hu => by
    have h60 := hg.1
    have hs := hr.1
    refine e_246_5 ⟨by omega, by omega, by simp only [Int.toNat_natCast]; omega, fun q => ?_, fun q => ?_⟩
    · simp only [Int.toNat_natCast] at q
      obtain rfl : k = l.length := by omega
      rw [hu]
      exact h
    · simp only [Int.toNat_natCast] at q
      match n, hn with
      | 0, hn => omega
      | n + 1, hn =>
        have hb := zm_b hr hg (show k < l.length by omega)
        rw [zm_idx, hb.1, hb.2.1]
        refine ⟨by omega, by omega, hp, fun q2 => ?_, fun q2 => ⟨by omega, fun q3 => ?_, fun q3 => ?_⟩⟩
        · refine s_246_5 hi hr hg hp h n (k + 1) _ (by omega) ?_
          rw [zn, ← hu, if_neg (by omega)]
        · refine s_246_5 hi hr hg hp h n (k + 1) _ (by omega) ?_
          rw [zn, ← hu, if_neg (by omega)]
        · refine s_246_5 hi hr hg hp h n (k + 1) _ (by omega) ?_
          rw [zn, ← hu, if_pos (by omega)]
theorem s_246 {xs : Nat → Int32} {L d : Nat} {J K : jZ} {P : Int → jZ → jZ → Prop} {l : zL} {p : Int} {i : Nat} (hi : i < 27) (hr : zm_at J i l) (hg : zs_ok l) (hp : -2147483648 ≤ p ∧ p < 2147483648) (h : P (zs_thr l p) J K) : q_246 xs L (d + 2) (i : Int) p J K P :=
  e_246 (s_246_5 hi hr hg hp h l.length 0 0 (by omega) rfl)
theorem zs_thr_r {l : zL} (hg : zs_ok l) (p : Int) : 0 ≤ zs_thr l p ∧ zs_thr l p ≤ 60 := by
  have := zn_r (f := fun k => if zs_f l k ≤ p ∧ p ≤ zs_l l k then 1 else 0) (fun k => by split <;> omega) l.length
  have := hg.1
  unfold zs_thr
  omega
theorem c_119 {xs : Nat → Int32} {L d : Nat} {J K : jZ} {P : Int → jZ → jZ → Prop} {T : zT} {A : zA} {a p : Int} (hQ : cQ J T A) (ha : -2147483648 ≤ a ∧ a < 2147483648) (hp : -2147483648 ≤ p ∧ p < 2147483648) (hb : ¬ ((0 ≤ a ∧ a < A.1) ∧ (0 ≤ p ∧ p < T.1)) → P (-2) (rC J 0) K) (h : (0 ≤ a ∧ a < A.1) ∧ (0 ≤ p ∧ p < T.1) → ∀ J', cF J J' → cQ J' T A → P (zs_thr (zk_sem (-1) T A a.toNat) p) J' K) : q_119 xs L (d + 7) a p J K P := by
  have h24 := hQ.2.1.1
  have h60 := hQ.1.1
  have h1 := hQ.2.2.2.1.1
  have h2 := hQ.2.2.1.1
  refine e_119 ⟨ha, by omega, fun q => ⟨hp, by omega, fun q2 => ?_, fun q2 => s_13 (k := 0) (by omega) (by omega) (hb (by omega))⟩, fun q => s_13 (k := 0) (by omega) (by omega) (hb (by omega))⟩
  obtain ⟨k, rfl⟩ : ∃ k : Nat, a = (k : Int) := ⟨a.toNat, by omega⟩
  rw [Int.toNat_natCast] at h
  refine s_of hQ (by omega) (fun J' f _ Q _ l => ⟨jz_e62 (by omega), s_120 (jz_e62 (by omega)) l.2 (zS_gd hQ.1 hQ.2.1 (by omega)).1 (by omega) (h (by omega) J' f Q)⟩)
theorem m_245 {xs : Nat → Int32} {L d : Nat} {J K : jZ} {P : Int → jZ → jZ → Prop} {T : zT} {A : zA} {a p : Int} (hQ : mQ J T A) (ha : -2147483648 ≤ a ∧ a < 2147483648) (hp : -2147483648 ≤ p ∧ p < 2147483648) (hb : ¬ ((0 ≤ a ∧ a < A.1) ∧ (0 ≤ p ∧ p < T.1)) → P (-2) (rM J 2) K) (h : (0 ≤ a ∧ a < A.1) ∧ (0 ≤ p ∧ p < T.1) → ∀ J', mF J J' → mQ J' T A → P (zs_thr (zk_sem (-1) T A a.toNat) p) J' K) : q_245 xs L (d + 9) a p J K P := by
  have h24 := hQ.2.1.1
  have h60 := hQ.1.1
  have h1 := hQ.2.2.2.1.1
  have h2 := hQ.2.2.1.1
  refine e_245 ⟨ha, by omega, fun q => ⟨hp, by omega, fun q2 => ?_, fun q2 => s_170 (k := 2) (by omega) (by omega) (hb (by omega))⟩, fun q => s_170 (k := 2) (by omega) (by omega) (hb (by omega))⟩
  obtain ⟨k, rfl⟩ : ∃ k : Nat, a = (k : Int) := ⟨a.toNat, by omega⟩
  rw [Int.toNat_natCast] at h
  exact s_work hQ (fun J' f Q l => s_246 (by omega) (l k (by omega)) (zS_gd hQ.1 hQ.2.1 (by omega)).1 (by omega) (h (by omega) J' f Q))
-- crowd
def zq_cr (l : zL) : Nat → Int × Int
  | 0 => (-1, 0)
  | k + 1 => if (zq_cr l k).2 < zs_thr l k then ((k : Int), zs_thr l k) else zq_cr l k
theorem zq_cr_r {l : zL} (hg : zs_ok l) : ∀ k : Nat, (-1 ≤ (zq_cr l k).1 ∧ (zq_cr l k).1 < k) ∧ (0 ≤ (zq_cr l k).2 ∧ (zq_cr l k).2 ≤ 60) ∧ ((zq_cr l k).1 = -1 → (zq_cr l k).2 = 0) ∧ (¬ (zq_cr l k).1 = -1 → (zq_cr l k).2 = zs_thr l (zq_cr l k).1)
  | 0 => by simp [zq_cr]
  | k + 1 => by
    have := zq_cr_r hg k
    have := zs_thr_r hg k
    unfold zq_cr
    split
    · dsimp only
      refine ⟨by omega, by omega, fun q => by omega, fun _ => rfl⟩
    · exact ⟨by omega, by omega, by omega, by omega⟩
theorem s_121_35 {xs : Nat → Int32} {L d : Nat} {J K : jZ} {P : Int → jZ → jZ → Prop} {N : Nat} {l : zL} {a : Nat} (hN : N ≤ 60) (h3 : J 1 3 = (N : Int)) (ha : jz_kd a = 16) (hr : zs_at J a l) (hg : zs_ok l) (h : P (zq_cr l N).1 J K) : ∀ (n k : Nat) (u v : Int), k + n = N → (u, v) = zq_cr l k → l_121_35 xs L (d + 6) a u v (k : Int) J K P
  | n, k, u, v, hn, hz => by
    have hz0 := zq_cr_r hg k
    have hz1 : (zq_cr l k).1 = u := by rw [← hz]
    have hz2 : (zq_cr l k).2 = v := by rw [← hz]
    have ht := zs_thr_r hg k
    refine e_121_35 ha ⟨by omega, by omega, fun q => ?_, fun q => ?_⟩
    · obtain rfl : k = N := by omega
      rw [← hz1]
      exact h
    · match n, hn with
      | 0, hn => omega
      | n + 1, hn =>
        refine s_120 ha hr hg (by omega) ⟨by omega, by omega, fun q2 => ?_, fun q2 => ?_⟩
        · exact s_121_35 hN h3 ha hr hg h n (k + 1) u v (by omega) (by unfold zq_cr; rw [if_neg (by omega)]; exact hz)
        · exact s_121_35 hN h3 ha hr hg h n (k + 1) _ _ (by omega) (by unfold zq_cr; rw [if_pos (by omega)])
theorem c_121 {xs : Nat → Int32} {L d : Nat} {J K : jZ} {P : Int → jZ → jZ → Prop} {T : zT} {A : zA} {a : Int} (hQ : cQ J T A) (ha : -2147483648 ≤ a ∧ a < 2147483648) (hb : ¬ (0 ≤ a ∧ a < A.1) → P (-2) (rC J 0) K) (h : 0 ≤ a ∧ a < A.1 → ∀ J', cF J J' → cQ J' T A → P (zq_cr (zk_sem (-1) T A a.toNat) T.1).1 J' K) : q_121 xs L (d + 7) a J K P := by
  have h24 := hQ.2.1.1
  have h1 := hQ.2.2.2.1.1
  refine e_121 ⟨ha, by omega, fun q => ?_, fun q => s_13 (k := 0) (by omega) (by omega) (hb (by omega))⟩
  obtain ⟨k, rfl⟩ : ∃ k : Nat, a = (k : Int) := ⟨a.toNat, by omega⟩
  rw [Int.toNat_natCast] at h
  exact s_of hQ (by omega) (fun J' f _ Q _ l => ⟨jz_e62 (by omega), s_121_35 hQ.1.1 Q.2.2.1.1 (jz_e62 (by omega)) l.2 (zS_gd hQ.1 hQ.2.1 (by omega)).1 (h (by omega) J' f Q) T.1 0 (-1) 0 (by omega) rfl⟩)
theorem s_247_23 {xs : Nat → Int32} {L d : Nat} {J K : jZ} {P : Int → jZ → jZ → Prop} {N : Nat} {l : zL} {i : Nat} (hN : N ≤ 60) (h3 : J 167 9 = (N : Int)) (hi : i < 27) (hr : zm_at J i l) (hg : zs_ok l) (h : P (zq_cr l N).1 J K) : ∀ (n k : Nat) (u : Int), k + n = N → u = (zq_cr l k).1 → l_247_23 xs L (d + 8) (i : Int) u (k : Int) J K P
  | n, k, u, hn, hz => by
    have hz0 := zq_cr_r hg k
    have ht := zs_thr_r hg k
    have ht2 := zs_thr_r hg u
    have e : zq_cr l (k + 1) = if (zq_cr l k).2 < zs_thr l k then ((k : Int), zs_thr l k) else zq_cr l k := rfl
    refine e_247_23 ⟨by omega, by omega, fun q => ?_, fun q => ?_⟩
    · obtain rfl : k = N := by omega
      rw [hz]
      exact h
    · match n, hn with
      | 0, hn => omega
      | n + 1, hn =>
        have n1 : ¬ (zq_cr l k).2 < zs_thr l k → l_247_23 xs L (d + 8) (i : Int) u ((k : Int) + 1) J K P := fun q2 =>
          s_247_23 hN h3 hi hr hg h n (k + 1) u (by omega) (by rw [e, if_neg q2]; exact hz)
        have n2 : (zq_cr l k).2 < zs_thr l k → l_247_23 xs L (d + 8) (i : Int) (k : Int) ((k : Int) + 1) J K P := fun q2 =>
          s_247_23 hN h3 hi hr hg h n (k + 1) _ (by omega) (by rw [e, if_pos q2])
        refine s_246 hi hr hg (by omega) ⟨by omega, fun q2 => s_246 hi hr hg (by omega) ⟨by omega, by omega, fun q3 => n1 ?_, fun q3 => n2 ?_⟩, fun q2 => ⟨by omega, fun q3 => n1 ?_, fun q3 => n2 ?_⟩⟩
        · have := hz0.2.2.2 (by omega)
          rw [← hz] at this
          omega
        · have := hz0.2.2.2 (by omega)
          rw [← hz] at this
          omega
        · have := hz0.2.2.1 (by omega)
          omega
        · have := hz0.2.2.1 (by omega)
          omega
theorem m_247 {xs : Nat → Int32} {L d : Nat} {J K : jZ} {P : Int → jZ → jZ → Prop} {T : zT} {A : zA} {a : Int} (hQ : mQ J T A) (ha : -2147483648 ≤ a ∧ a < 2147483648) (hb : ¬ (0 ≤ a ∧ a < A.1) → P (-2) (rM J 2) K) (h : 0 ≤ a ∧ a < A.1 → ∀ J', mF J J' → mQ J' T A → P (zq_cr (zk_sem (-1) T A a.toNat) T.1).1 J' K) : q_247 xs L (d + 9) a J K P := by
  have h24 := hQ.2.1.1
  have h1 := hQ.2.2.2.1.1
  refine e_247 ⟨ha, by omega, fun q => ?_, fun q => s_170 (k := 2) (by omega) (by omega) (hb (by omega))⟩
  obtain ⟨k, rfl⟩ : ∃ k : Nat, a = (k : Int) := ⟨a.toNat, by omega⟩
  rw [Int.toNat_natCast] at h
  exact s_work hQ (fun J' f Q l => s_247_23 hQ.1.1 Q.2.2.1.1 (by omega) (l k (by omega)) (zS_gd hQ.1 hQ.2.1 (by omega)).1 (h (by omega) J' f Q) T.1 0 (-1) (by omega) rfl)
