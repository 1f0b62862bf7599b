/-! What queries lean on; the first of them, in class and reference. -/
def rC (J : jZ) (k : Nat) : jZ := jm_up J 150 k (J 150 k + 1)
theorem s_13 {xs : Nat → Int32} {L d : Nat} {J K : jZ} {P : Int → jZ → jZ → Prop} {w : Int} {k : Nat} (hk : k < 5) (hw : w = -2 - (k : Int)) (h : P w (rC J k) K) : q_13 xs L (d + 1) w J K P := by
  refine e_13 ⟨by omega, fun q => by omega, fun q => ⟨fun q2 => by omega, fun q2 => ⟨by omega, ?_⟩⟩⟩
  rw [show (-2 - w).toNat = k by omega]
  exact h
/-- the class's text and asks, and the lists that it knows -/
def cQ (J : jZ) (T : zT) (A : zA) : Prop := zt_ok T ∧ zA_ok A ∧ zt_at J 1 T ∧ zA_at J 9 A ∧ zA_rc J 9 A ∧ J 61 6 = -1 ∧ zs_at J 63 [] ∧ zl_kn J (-1) T A
def cF (J J' : jZ) : Prop := (∀ x, x ≠ 61 → x ≠ 67 → x < 68 ∨ 144 ≤ x → J' x = J x) ∧ ∀ k, k ≠ 5 → J' 61 k = J 61 k
theorem cF_rfl {J : jZ} : cF J J := ⟨fun _ _ _ _ => rfl, fun _ _ => rfl⟩
theorem cF_tr {J J' J'' : jZ} (h : cF J J') (h' : cF J' J'') : cF J J'' := ⟨fun x a b c => by rw [h'.1 x a b c, h.1 x a b c], fun k hk => by rw [h'.2 k hk, h.2 k hk]⟩
theorem cF_of {J J' : jZ} (h : zl_fr J J') : cF J J' := ⟨fun x a b c => h.1 x a b (by omega), h.2⟩
theorem zA_at_of {J J' : jZ} {b : Nat} {A : zA} (h : zA_at J b A) (h24 : A.1 ≤ 24) (hf : ∀ x, b ≤ x → x < b + 26 → J' x = J x) : zA_at J' b A := ⟨by rw [hf b (by omega) (by omega)]; exact h.1, fun i hi => by rw [hf _ (by omega) (by omega)]; exact h.2 i hi⟩
theorem zA_rc_of {J J' : jZ} {b : Nat} {A : zA} (h : zA_rc J b A) (h24 : A.1 ≤ 24) (hf : ∀ x, b ≤ x → x < b + 26 → J' x = J x) : zA_rc J' b A := fun i hi => by rw [hf _ (by omega) (by omega)]; exact h i hi
theorem cQ_F {J J' : jZ} {T : zT} {A : zA} (h : cQ J T A) (hf : cF J J') (hk : zl_kn J' (-1) T A) : cQ J' T A := by
  obtain ⟨a1, a2, a3, a4, a5, a6, a7, a8⟩ := h
  have h24 := a2.1
  have f := hf.1
  refine ⟨a1, a2, zt_of a3 (by rw [f 1 (by omega) (by omega) (by omega)]) (f _ (by omega) (by omega) (by omega)) (f _ (by omega) (by omega) (by omega)) (f _ (by omega) (by omega) (by omega)), zA_at_of a4 h24 (fun x _ _ => f x (by omega) (by omega) (by omega)), zA_rc_of a5 h24 (fun x _ _ => f x (by omega) (by omega) (by omega)), by rw [hf.2 6 (by omega)]; exact a6, ⟨by rw [f 63 (by omega) (by omega) (by omega)]; exact a7.1, fun k hk => by simp at hk⟩, hk⟩
theorem zS_gd {T : zT} {A : zA} {a : Nat} (hT : zt_ok T) (hA : zA_ok A) (ha : a < A.1) : zs_gd T.1 (zk_sem (-1) T A a) := (zk_sem_gd hT hA a ha).2
/-- ask a's list is found and kept -/
def cL (J : jZ) (T : zT) (A : zA) (a : Nat) : Prop := zb (J 61 5) a ∧ zs_at J (68 + 3 * a) (zk_sem (-1) T A a)
theorem s_of {xs : Nat → Int32} {L d : Nat} {J K : jZ} {P : Nat → jZ → jZ → Prop} {T : zT} {A : zA} {a : Nat} (hQ : cQ J T A) (ha : a < A.1) (h : ∀ J', cF J J' → (∀ x, 140 ≤ x → x < 144 → J' x = J x) → cQ J' T A → (∀ j, zb (J 61 5) j → cL J' T A j) → cL J' T A a → P (68 + 3 * a) J' K) : q_32 xs L (d + 6) (a : Int) J K P := by
  have hQ' := hQ
  obtain ⟨a1, a2, a3, a4, a5, a6, a7, a8⟩ := hQ
  refine s_32 a1 a2 (by omega) ha a3 a4 a5 a6 a7 a8 (fun J' f k g b r => h J' (cF_of f) (fun x h1 h2 => f.1 x (by omega) (by omega) (by omega)) (cQ_F hQ' (cF_of f) k) (fun j hj => ⟨g j hj, (k j (g j hj)).2⟩) ⟨b, r⟩)
-- many
theorem c_113 {xs : Nat → Int32} {L d : Nat} {J K : jZ} {P : Int → jZ → jZ → Prop} {T : zT} {A : zA} {a : Int} (hQ : cQ J T A) (ha : -2147483648 ≤ a ∧ a < 2147483648) (hb : ¬ (0 ≤ a ∧ a < A.1) → P (-2) (rC J 0) K) (h : 0 ≤ a ∧ a < A.1 → ∀ J', cF J J' → cQ J' T A → P ((zk_sem (-1) T A a.toNat).length : Int) J' K) : q_113 xs L (d + 7) a J K P := by
  have h24 := hQ.2.1.1
  have h1 := hQ.2.2.2.1.1
  refine e_113 ⟨ha, by omega, fun q => ?_, fun q => s_13 (k := 0) (by omega) (by omega) (hb (by omega))⟩
  obtain ⟨k, rfl⟩ : ∃ k : Nat, a = (k : Int) := ⟨a.toNat, by omega⟩
  refine s_of hQ (by omega) (fun J' f _ Q _ l => ⟨jz_e62 (by omega), ?_⟩)
  have := h (by omega) J' f Q
  rw [Int.toNat_natCast] at this
  rw [l.2.1]
  exact this
-- span
theorem c_114 {xs : Nat → Int32} {L d : Nat} {J K : jZ} {P : Int → jZ → jZ → Prop} {T : zT} {A : zA} {a i : Int} (hQ : cQ J T A) (ha : -2147483648 ≤ a ∧ a < 2147483648) (hi : -2147483648 ≤ i ∧ i < 2147483648) (hb : ¬ (0 ≤ a ∧ a < A.1) → P (-2) (rC J 0) K) (hb2 : 0 ≤ a ∧ a < A.1 → ¬ (0 ≤ i ∧ i < ((zk_sem (-1) T A a.toNat).length : Int)) → ∀ J', cF J J' → cQ J' T A → P (-2) (rC J' 0) K) (h : 0 ≤ a ∧ a < A.1 → (0 ≤ i ∧ i < ((zk_sem (-1) T A a.toNat).length : Int)) → ∀ J', cF J J' → cQ J' T A → P (zs_t (zk_sem (-1) T A a.toNat) i.toNat) J' K) : q_114 xs L (d + 7) a i J K P := by
  have h24 := hQ.2.1.1
  have h1 := hQ.2.2.2.1.1
  refine e_114 ⟨ha, by omega, fun q => ?_, fun q => s_13 (k := 0) (by omega) (by omega) (hb (by omega))⟩
  obtain ⟨k, rfl⟩ : ∃ k : Nat, a = (k : Int) := ⟨a.toNat, by omega⟩
  rw [Int.toNat_natCast] at hb2 h
  have gd := zS_gd hQ.1 hQ.2.1 (a := k) (by omega)
  have g60 := gd.1.1
  refine s_of hQ (by omega) (fun J' f _ Q _ l => ⟨jz_e62 (by omega), hi, ?_⟩)
  rw [l.2.1]
  refine ⟨by omega, fun q2 => s_of Q (by omega) (fun J2 f2 _ Q2 _ l2 => ⟨jz_e62 (by omega), by omega, ?_⟩), fun q2 => s_13 (k := 0) (by omega) (by omega) (hb2 (by omega) q2 J' f Q)⟩
  have e := l2.2.2 i.toNat (by omega)
  rw [e.1, e.2]
  exact h (by omega) q2 J2 (cF_tr f f2) Q2
-- at
theorem zs_thr_r {l : zL} (hg : zs_ok l) (p : Int) : 0 ≤ zs_thr l p ∧ zs_thr l p ≤ 60 := by
  have := zn_r (f := fun k => if zs_f l k ≤ p ∧ p ≤ zs_l l k then 1 else 0) (fun k => by split <;> omega) l.length
  have := hg.1
  unfold zs_thr
  omega
-- crowd
def zq_cr (l : zL) : Nat → Int × Int
  | 0 => (-1, 0)
  | k + 1 => if (zq_cr l k).2 < zs_thr l k then ((k : Int), zs_thr l k) else zq_cr l k
theorem zq_cr_r {l : zL} (hg : zs_ok l) : ∀ k : Nat, (-1 ≤ (zq_cr l k).1 ∧ (zq_cr l k).1 < k) ∧ (0 ≤ (zq_cr l k).2 ∧ (zq_cr l k).2 ≤ 60) ∧ ((zq_cr l k).1 = -1 → (zq_cr l k).2 = 0) ∧ (¬ (zq_cr l k).1 = -1 → (zq_cr l k).2 = zs_thr l (zq_cr l k).1)
  | 0 => by simp [zq_cr]
  | k + 1 => by
    have := zq_cr_r hg k
    have := zs_thr_r hg k
    unfold zq_cr
    split
    · dsimp only
      refine ⟨by omega, by omega, fun q => by omega, fun _ => rfl⟩
    · exact ⟨by omega, by omega, by omega, by omega⟩