/-! Days, through. -/
theorem s_153_20 {xs : Nat → Int32} {L d : Nat} {K : jZ} {P : Int → jZ → jZ → Prop} {N : Nat} (hN : N ≤ 60) : ∀ (n k : Nat) (J : jZ) (X : zT × Int), k + n = N → cX_at J X → zt_ok X.1 → (∀ J', cXf J J' → cX_at J' (zD_n n X) → P (((zD_n n X).1.1 : Nat) : Int) (jm_up J' 61 5 0) K) → l_153_20 xs L (d + 2) (N : Int) (k : Int) J K P
  | n, k, J, X, hn, hr, hT, h => by
    refine e_153_20 ⟨by omega, by omega, fun q => ?_, fun q => ?_⟩
    · obtain rfl : n = 0 := by omega
      rw [hr.1.1]
      exact h J (fun _ _ _ _ => rfl) hr
    · match n, hn, h with
      | 0, hn, h => omega
      | n + 1, hn, h => exact s_154 hT hr (fun J1 f1 x1 => s_153_20 hN n (k + 1) J1 _ (by omega) x1 (zD_2_ok (zD_1_ok hT).1) (fun J2 f2 x2 => h J2 (cXf_tr f1 f2) x2))
def cDf (J J' : jZ) : Prop := (∀ x, x ≠ 1 → x ≠ 2 → x ≠ 3 → x ≠ 61 → J' x = J x) ∧ J' 61 6 = J 61 6
theorem c_153 {xs : Nat → Int32} {L d : Nat} {J K : jZ} {P : Int → jZ → jZ → Prop} {T : zT} {A : zA} (hQ : cQ J T A) {n s : Int} (hs : J 1 4 = s) (hn : -2147483648 ≤ n ∧ n < 2147483648) (hb : ¬ (1 ≤ n ∧ n ≤ 60) → P (-2) (rC J 0) K) (h : 1 ≤ n ∧ n ≤ 60 → ∀ J', cDf J J' → cQ J' (zD_n n.toNat (T, s)).1 A → J' 1 4 = (zD_n n.toNat (T, s)).2 → zt_ok (zD_n n.toNat (T, s)).1 → P (((zD_n n.toNat (T, s)).1.1 : Nat) : Int) J' K) (hS : zt_sb T) : q_153 xs L (d + 3) n J K P := by
  refine e_153 ⟨hn, fun q => s_13 (k := 0) (by omega) (by omega) (hb (by omega)), fun q => ⟨fun q2 => ?_, fun q2 => s_13 (k := 0) (by omega) (by omega) (hb (by omega))⟩⟩
  obtain ⟨N, rfl⟩ : ∃ N : Nat, n = (N : Int) := ⟨n.toNat, by omega⟩
  rw [Int.toNat_natCast] at h
  obtain ⟨a1, a2, a3, a4, a5, a6, a7, a8⟩ := hQ
  have h24 := a2.1
  refine s_153_20 (N := N) (by omega) N 0 J (T, s) (by omega) ⟨a3, hs⟩ a1 (fun J1 f1 x1 => ?_)
  have ok := (zD_n_ok N (T, s) a1 hS).1
  have F : cDf J (jm_up J1 61 5 0) := ⟨fun x a b c e => by rw [zu_row e, f1 x a b c], by rw [zu_key (by omega), f1 61 (by omega) (by omega) (by omega)]⟩
  have g := F.1
  refine h ⟨q, q2⟩ _ F ⟨ok, a2, zt_of x1.1 (by rw [zu_row (by omega)]) (zu_row (by omega)) (zu_row (by omega)) (zu_row (by omega)), zA_at_of a4 h24 (fun x _ _ => g x (by omega) (by omega) (by omega) (by omega)), zA_rc_of a5 h24 (fun x _ _ => g x (by omega) (by omega) (by omega) (by omega)), by rw [F.2]; exact a6, ⟨by rw [g 63 (by omega) (by omega) (by omega) (by omega)]; exact a7.1, fun k hk => by simp at hk⟩, fun j hj => ?_⟩ (by rw [zu_row (by omega)]; exact x1.2) ok
  rw [zu_self] at hj
  exact absurd hj zb_0
/-- the reference's page and its seed -/
def mX_at (J : jZ) (X : zT × Int) : Prop := mT_at J X.1 ∧ J 167 11 = X.2
def mXf (J J' : jZ) : Prop := (∀ x, x ≠ 167 → x ≠ 184 → x ≠ 185 → J' x = J x) ∧ ∀ k, k ≠ 9 → k ≠ 11 → k ≠ 26 → J' 167 k = J 167 k
theorem mXf_tr {J J' J'' : jZ} (h : mXf J J') (h' : mXf J' J'') : mXf J J'' := ⟨fun x a b c => by rw [h'.1 x a b c, h.1 x a b c], fun k a b c => by rw [h'.2 k a b c, h.2 k a b c]⟩
theorem s_276 {xs : Nat → Int32} {L d : Nat} {J K : jZ} {P : Int → jZ → jZ → Prop} {X : zT × Int} {n : Int} (hn : 0 < n ∧ n ≤ 60) (hr : mX_at J X) (h : ∀ J', mXf J J' → mX_at J' (X.1, zD_s X.2) → P (zD_r X.2 n) J' K) : q_276 xs L (d + 1) n J K P := by
  refine e_276 ⟨by omega, by omega, ?_⟩
  rw [hr.2]
  refine h _ ⟨fun x a b c => zu_row a, fun k a b c => zu_key b⟩ ⟨?_, zu_self⟩
  exact mT_of hr.1 (zu_key (by omega)) (zu_row (by omega)) (zu_row (by omega)) (zu_row (by omega))
theorem s_201 {xs : Nat → Int32} {L d : Nat} {J K : jZ} {P : jZ → jZ → Prop} {X : zT × Int} {w : Int} (h60 : X.1.1 < 60) (hr : mX_at J X) (h : ∀ J', mXf J J' → mX_at J' (zT_w X.1 w, X.2) → P J' K) : q_201 xs L (d + 1) w J K P := by
  obtain ⟨rT, r4⟩ := hr
  have h1 := rT.1
  refine e_201 ⟨by omega, ?_⟩
  rw [h1, Int.toNat_natCast]
  refine h _ ⟨fun x a b c => by rw [zu_row a, zu_row a, zu_row c, zu_row b], fun k a b c => by rw [zu_key c, zu_key a, zu_row (by omega), zu_row (by omega)]⟩ ⟨⟨?_, fun k hk => ?_, fun x hx => ?_⟩, ?_⟩
  · rw [zu_key (by omega), zu_self]
    show (X.1.1 : Int) + 1 = ((X.1.1 + 1 : Nat) : Int)
    omega
  · have hk : k < X.1.1 + 1 := hk
    constructor
    · rw [zu_row (by omega), zu_row (by omega), zu_row (by omega)]
      show _ = (if k = X.1.1 then w else X.1.2.1 k)
      by_cases c : k = X.1.1
      · rw [if_pos c, c, zu_self]
      · rw [if_neg c, zu_key c]
        exact (rT.2.1 k (by omega)).1
    · rw [zu_row (by omega), zu_row (by omega)]
      show _ = (if k = X.1.1 then (0 : Int) else X.1.2.2.1 k)
      by_cases c : k = X.1.1
      · rw [if_pos c, c, zu_self]
      · rw [if_neg c, zu_key c, zu_row (by omega)]
        exact (rT.2.1 k (by omega)).2
  · rw [zu_row (by omega), zu_row (by omega), zu_row (by omega), zu_row (by omega)]
    exact rT.2.2 x hx
  · rw [zu_key (by omega), zu_key (by omega), zu_row (by omega), zu_row (by omega)]
    exact r4
theorem mX_e {J : jZ} {X : zT × Int} {m : Int} (hr : mX_at J X) : mX_at (jm_up J 185 (X.1.1 - 1) m) (zT_e X.1 m, X.2) := by
  obtain ⟨rT, r4⟩ := hr
  refine ⟨⟨?_, fun k hk => ?_, fun x hx => ?_⟩, ?_⟩
  · rw [zu_row (by omega)]
    exact rT.1
  · have hk : k < X.1.1 := hk
    rw [zu_row (by omega)]
    show _ = X.1.2.1 k ∧ _ = (if k = X.1.1 - 1 then m else X.1.2.2.1 k)
    have e := rT.2.1 k hk
    refine ⟨e.1, ?_⟩
    by_cases c : k = X.1.1 - 1
    · rw [if_pos c, c, zu_self]
    · rw [if_neg c, zu_key c]
      exact e.2
  · rw [zu_row (by omega)]
    exact rT.2.2 x hx
  · rw [zu_row (by omega)]
    exact r4
theorem mX_c {J : jZ} {X : zT × Int} {p : Nat} {w : Int} (hr : mX_at J X) : mX_at (jm_up J 184 p w) (zT_c X.1 p w, X.2) := by
  obtain ⟨rT, r4⟩ := hr
  refine ⟨⟨?_, fun k hk => ?_, fun x hx => ?_⟩, ?_⟩
  · rw [zu_row (by omega)]
    exact rT.1
  · have hk : k < X.1.1 := hk
    have e := rT.2.1 k hk
    refine ⟨?_, by rw [zu_row (by omega)]; exact e.2⟩
    show _ = (if k = p then w else X.1.2.1 k)
    by_cases c : k = p
    · rw [if_pos c, c, zu_self]
    · rw [if_neg c, zu_key c]
      exact e.1
  · rw [zu_row (by omega)]
    exact rT.2.2 x hx
  · rw [zu_row (by omega)]
    exact r4
theorem mXf_4 {J : jZ} {p : Nat} {w : Int} : mXf J (jm_up J 184 p w) := ⟨fun x a b c => zu_row b, fun k a b c => by rw [zu_row (by omega)]⟩
theorem mXf_5 {J : jZ} {p : Nat} {w : Int} : mXf J (jm_up J 185 p w) := ⟨fun x a b c => zu_row c, fun k a b c => by rw [zu_row (by omega)]⟩
theorem s_275_62 {xs : Nat → Int32} {L d : Nat} {J K : jZ} {P : Int → jZ → jZ → Prop} {X : zT × Int} {n v : Int} (hT : zt_ok X.1) (h0 : 0 < X.1.1) (hr : mX_at J X) (h : ∀ J', mXf J J' → mX_at J' (zD_2 X) → l_275_21 xs L (d + 1) n (v + 1) J' K P) : l_275_62 xs L (d + 1) n v J K P := by
  have h60 := hT.1
  have m := zD_r_r (s := X.2) (n := 8) (by omega)
  have lr := zT_l_r hT
  refine e_275_62 (s_276 (by omega) hr (fun J1 f1 x1 => ?_))
  have h1 : J1 167 9 = (X.1.1 : Int) := x1.1.1
  have hl : J1 185 (X.1.1 - 1) = zT_l X.1 := by
    rw [zT_l, if_neg (by omega)]
    exact (x1.1.2.1 (X.1.1 - 1) (by show X.1.1 - 1 < X.1.1; omega)).2
  rw [show (J1 167 9 - 1).toNat = X.1.1 - 1 by omega, hl]
  refine ⟨by omega, fun q => ⟨fun q2 => e_275_122 (h J1 f1 ?_), fun q2 => ⟨by omega, by omega, fun q3 => e_275_122 (h J1 f1 ?_), fun q3 => e_275_122 (h _ (mXf_tr f1 mXf_5) ?_)⟩⟩, fun q => ⟨by omega, e_275_122 (h _ (mXf_tr f1 mXf_5) ?_)⟩⟩
  · rw [zD_2, if_neg q, if_neg (by omega)]
    exact x1
  · rw [zD_2, if_neg q, if_neg (by omega)]
    exact x1
  · rw [zD_2, if_neg q, if_pos ⟨q2, q3⟩]
    exact mX_e (X := (X.1, zD_s X.2)) x1
  · rw [zD_2, if_pos q]
    exact mX_e (X := (X.1, zD_s X.2)) x1
theorem s_275_21 {xs : Nat → Int32} {L d : Nat} {K : jZ} {P : Int → jZ → jZ → Prop} {N : Nat} (hN : N ≤ 60) : ∀ (n k : Nat) (J : jZ) (X : zT × Int), k + n = N → mX_at J X → zt_ok X.1 → (∀ J', mXf J J' → mX_at J' (zD_n n X) → P (((zD_n n X).1.1 : Nat) : Int) (jm_up J' 167 26 0) K) → l_275_21 xs L (d + 1) (N : Int) (k : Int) J K P
  | n, k, J, X, hn, hr, hT, h => by
    refine e_275_21 ⟨by omega, by omega, fun q => ?_, fun q => ?_⟩
    · obtain rfl : n = 0 := by omega
      rw [hr.1.1]
      exact h J ⟨fun _ _ _ _ => rfl, fun _ _ _ _ => rfl⟩ hr
    · match n, hn, h with
      | 0, hn, h => omega
      | n + 1, hn, h =>
        have h60 := hT.1
        have D1 := zD_1_ok hT
        have tl : ∀ J2, mXf J J2 → mX_at J2 (zD_1 X) → l_275_62 xs L (d + 1) (N : Int) (k : Int) J2 K P := fun J2 f2 x2 =>
          s_275_62 D1.1 D1.2 x2 (fun J3 f3 x3 => s_275_21 hN n (k + 1) J3 _ (by omega) x3 (zD_2_ok D1.1) (fun J4 f4 x4 => h J4 (mXf_tr f2 (mXf_tr f3 f4)) x4))
        refine s_276 (by omega) hr (fun J1 f1 x1 => ?_)
        have h1 : J1 167 9 = (X.1.1 : Int) := x1.1.1
        rw [h1]
        refine ⟨by omega, fun q => s_276 (by omega) x1 (fun J2 f2 x2 => ?_), fun q => s_201 (X := (X.1, zD_s X.2)) (by show X.1.1 < 60; omega) x1 (fun J2 f2 x2 => tl J2 (mXf_tr f1 f2) ?_)⟩
        · have p := zD_r_r (s := zD_s X.2) (n := 60) (by omega)
          refine ⟨p, tl _ (mXf_tr f1 (mXf_tr f2 mXf_4)) ?_⟩
          rw [zD_1, if_pos (by omega)]
          exact mX_c (X := (X.1, zD_s (zD_s X.2))) x2
        · rw [zD_1, if_neg (by omega)]
          exact x2
def mDf (J J' : jZ) : Prop := (∀ x, x ≠ 167 → x ≠ 184 → x ≠ 185 → J' x = J x) ∧ ∀ k, k ≠ 9 → k ≠ 11 → k ≠ 26 → J' 167 k = J 167 k
theorem m_275 {xs : Nat → Int32} {L d : Nat} {J K : jZ} {P : Int → jZ → jZ → Prop} {T : zT} {A : zA} (hQ : mQ J T A) {n s : Int} (hs : J 167 11 = s) (hn : -2147483648 ≤ n ∧ n < 2147483648) (hb : ¬ (1 ≤ n ∧ n ≤ 60) → P (-2) (rM J 2) K) (h : 1 ≤ n ∧ n ≤ 60 → ∀ J', mDf J J' → mQ J' (zD_n n.toNat (T, s)).1 A → J' 167 11 = (zD_n n.toNat (T, s)).2 → P (((zD_n n.toNat (T, s)).1.1 : Nat) : Int) J' K) (hS : zt_sb T) : q_275 xs L (d + 2) n J K P := by
  refine e_275 ⟨hn, fun q => ?_, fun q => s_170 (k := 2) (by omega) (by omega) (hb q)⟩
  obtain ⟨N, rfl⟩ : ∃ N : Nat, n = (N : Int) := ⟨n.toNat, by omega⟩
  rw [Int.toNat_natCast] at h
  obtain ⟨a1, a2, a3, a4, a5, a6⟩ := hQ
  refine s_275_21 (N := N) (by omega) N 0 J (T, s) (by omega) ⟨a3, hs⟩ a1 (fun J1 f1 x1 => ?_)
  have ok := (zD_n_ok N (T, s) a1 hS).1
  have F : mDf J (jm_up J1 167 26 0) := ⟨fun x a b c => by rw [zu_row a, f1.1 x a b c], fun k a b c => by rw [zu_key c, f1.2 k a b c]⟩
  exact h q _ F ⟨ok, a2, mT_of x1.1 (zu_key (by omega)) (zu_row (by omega)) (zu_row (by omega)) (zu_row (by omega)), mA_of a4 (F.2 10 (by omega) (by omega) (by omega)) (F.1 _ (by omega) (by omega) (by omega)) (F.1 _ (by omega) (by omega) (by omega)), by rw [F.2 37 (by omega) (by omega) (by omega)]; exact a5, .inl zu_self, fun w => by rw [zu_self] at w; omega⟩ (by rw [zu_key (by omega)]; exact x1.2)
