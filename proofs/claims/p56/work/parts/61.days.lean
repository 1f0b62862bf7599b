/-! Days. -/
def zD_s (s : Int) : Int := s * 1103515245 + 12345
def zD_r (s n : Int) : Int := jz_rem (jz_ushr (zD_s s) 16) n
theorem jz_ushr_16 {x : Int} : 0 ≤ jz_ushr x 16 ∧ jz_ushr x 16 < 65536 :=
  zb_sm ⟨Int32.le_toInt _, Int32.toInt_lt _⟩ (fun j hj q => by
    rw [show (16 : Int) = ((16 : Nat) : Int) from rfl, zb_ushr (by omega)] at q
    have := zb_lt q
    omega)
theorem jz_rem_r {x n : Int} (hx : 0 ≤ x ∧ x < 65536) (hn : 0 < n ∧ n < 2147483648) : 0 ≤ jz_rem x n ∧ jz_rem x n < n := by
  have bm : ∀ y : Int, 0 ≤ y → y < 65536 → y.bmod (2 ^ 32) = y := fun y h1 h2 => Int.bmod_eq_of_le (by omega) (by omega)
  have q0 : 0 ≤ x / n := Int.ediv_nonneg hx.1 (by omega)
  have q1 : x / n * n ≤ x := Int.ediv_mul_le x (by omega)
  have q2 : 0 ≤ x / n * n := Int.mul_nonneg q0 (by omega)
  have q3 : x / n ≤ x := Int.ediv_le_self n hx.1
  have r0 := Int.emod_nonneg x (show n ≠ 0 by omega)
  have r1 := Int.emod_lt_of_pos x hn.1
  have r2 := Int.emod_def x n
  rw [Int.mul_comm n] at r2
  have e : jz_rem x n = x - x / n * n := by
    unfold jz_rem
    rw [Int32.toInt_sub, Int32.toInt_mul, Int32.toInt_div, jz_i32 (by omega), jz_i32 (by omega), Int.tdiv_eq_ediv_of_nonneg hx.1, bm (x / n) q0 (by omega), bm (x / n * n) q2 (by omega), bm _ (by omega) (by omega)]
  rw [e]
  omega
theorem zD_r_r {s n : Int} (hn : 0 < n ∧ n < 2147483648) : 0 ≤ zD_r s n ∧ zD_r s n < n := jz_rem_r jz_ushr_16 hn
def zD_1 (X : zT × Int) : zT × Int := if 60 ≤ X.1.1 then (zT_c X.1 (zD_r (zD_s X.2) 60).toNat (zD_r X.2 16), zD_s (zD_s X.2)) else (zT_w X.1 (zD_r X.2 16), zD_s X.2)
def zD_2 (X : zT × Int) : zT × Int := (if zD_r X.2 8 = 0 then zT_e X.1 2 else if zD_r X.2 8 ≤ 2 ∧ zT_l X.1 = 0 then zT_e X.1 1 else X.1, zD_s X.2)
def zD_n : Nat → zT × Int → zT × Int
  | 0, X => X
  | n + 1, X => zD_n n (zD_2 (zD_1 X))
theorem zD_1_ok {X : zT × Int} (h : zt_ok X.1) : zt_ok (zD_1 X).1 ∧ 0 < (zD_1 X).1.1 := by
  have h60 := h.1
  have w := zD_r_r (s := X.2) (n := 16) (by omega)
  unfold zD_1
  split
  · exact ⟨zT_c_ok h w, by show 0 < X.1.1; omega⟩
  · exact ⟨zT_w_ok h w (by omega), Nat.succ_pos _⟩
theorem zD_2_ok {X : zT × Int} (h : zt_ok X.1) : zt_ok (zD_2 X).1 := by
  unfold zD_2
  dsimp only
  split
  · exact zT_e_ok h (.inr rfl)
  · split
    · exact zT_e_ok h (.inl rfl)
    · exact h
theorem zD_sb {X : zT × Int} (h : zt_sb X.1) : zt_sb (zD_2 (zD_1 X)).1 := by
  have h1 : zt_sb (zD_1 X).1 := by
    unfold zD_1
    split <;> exact h
  unfold zD_2
  dsimp only
  split
  · exact h1
  · split <;> exact h1
theorem zD_n_ok : ∀ (n : Nat) (X : zT × Int), zt_ok X.1 → zt_sb X.1 → zt_ok (zD_n n X).1 ∧ zt_sb (zD_n n X).1
  | 0, X, h, g => ⟨h, g⟩
  | n + 1, X, h, g => zD_n_ok n _ (zD_2_ok (zD_1_ok h).1) (zD_sb g)
/-- the class's page and its seed -/
def cX_at (J : jZ) (X : zT × Int) : Prop := zt_at J 1 X.1 ∧ J 1 4 = X.2
def cXf (J J' : jZ) : Prop := ∀ x, x ≠ 1 → x ≠ 2 → x ≠ 3 → J' x = J x
theorem cXf_tr {J J' J'' : jZ} (h : cXf J J') (h' : cXf J' J'') : cXf J J'' := fun x a b c => by rw [h' x a b c, h x a b c]
theorem s_155 {xs : Nat → Int32} {L d : Nat} {J K : jZ} {P : Int → jZ → jZ → Prop} {X : zT × Int} {n : Int} (hn : 0 < n ∧ n ≤ 60) (hr : cX_at J X) (h : ∀ J', cXf J J' → cX_at J' (X.1, zD_s X.2) → P (zD_r X.2 n) J' K) : q_155 xs L (d + 1) 1 n J K P := by
  refine e_155 rfl ⟨by omega, fun q => by omega, fun _ => ⟨by omega, ?_⟩⟩
  rw [hr.2]
  refine h _ (fun x a b c => zu_row a) ⟨?_, zu_self⟩
  refine zt_of hr.1 (zu_key (by omega)) (zu_row (by omega)) (zu_row (by omega)) (zu_row (by omega))
theorem s_58 {xs : Nat → Int32} {L d : Nat} {J K : jZ} {P : jZ → jZ → Prop} {X : zT × Int} {w : Int} (h60 : X.1.1 < 60) (hr : cX_at J X) (h : ∀ J', cXf J J' → cX_at J' (zT_w X.1 w, X.2) → P J' K) : q_58 xs L (d + 1) 1 w J K P := by
  obtain ⟨rT, r4⟩ := hr
  have h1 := rT.1
  refine e_58 rfl ⟨by omega, fun t => by omega, fun t => ⟨by omega, ?_⟩⟩
  rw [h1, Int.toNat_natCast, show 1 + 1 = 2 from rfl, show 1 + 2 = 3 from rfl]
  refine h _ (fun x a b c => by rw [zu_row a, zu_row c, zu_row b]) ⟨⟨?_, fun k hk => ?_, fun x hx => ?_⟩, ?_⟩
  · rw [zu_self]
    show (X.1.1 : Int) + 1 = ((X.1.1 + 1 : Nat) : Int)
    omega
  · have hk : k < X.1.1 + 1 := hk
    rw [show 1 + 1 = 2 from rfl, show 1 + 2 = 3 from rfl]
    constructor
    · rw [zu_row (by omega), zu_row (by omega)]
      show _ = (if k = X.1.1 then w else X.1.2.1 k)
      by_cases c : k = X.1.1
      · rw [if_pos c, c, zu_self]
      · rw [if_neg c, zu_key c]
        exact (rT.2.1 k (by omega)).1
    · rw [zu_row (by omega)]
      show _ = (if k = X.1.1 then (0 : Int) else X.1.2.2.1 k)
      by_cases c : k = X.1.1
      · rw [if_pos c, c, zu_self]
      · rw [if_neg c, zu_key c, zu_row (by omega)]
        exact (rT.2.1 k (by omega)).2
  · rw [zu_row (by omega), zu_row (by omega), zu_row (by omega)]
    exact rT.2.2 x hx
  · rw [zu_key (by omega), zu_row (by omega), zu_row (by omega)]
    exact r4
theorem s_62 {xs : Nat → Int32} {L d : Nat} {J K : jZ} {P : jZ → jZ → Prop} {X : zT × Int} {m : Int} (hT : zt_ok X.1) (h0 : 0 < X.1.1) (hr : cX_at J X) (h : ∀ J', cXf J J' → cX_at J' (zT_e X.1 m, X.2) → P J' K) : q_62 xs L (d + 1) 1 m J K P := by
  obtain ⟨rT, r4⟩ := hr
  have h1 := rT.1
  have h60 := hT.1
  refine e_62 rfl ⟨by omega, fun t => by omega, fun t => ⟨by omega, ?_⟩⟩
  rw [show (J 1 3 - 1).toNat = X.1.1 - 1 by omega, show 1 + 2 = 3 from rfl]
  refine h _ (fun x a b c => zu_row c) ⟨⟨?_, fun k hk => ?_, fun x hx => ?_⟩, ?_⟩
  · rw [zu_row (by omega)]
    exact h1
  · have hk : k < X.1.1 := hk
    rw [show 1 + 1 = 2 from rfl, show 1 + 2 = 3 from rfl, zu_row (by omega)]
    show _ = X.1.2.1 k ∧ _ = (if k = X.1.1 - 1 then m else X.1.2.2.1 k)
    have e := rT.2.1 k hk
    refine ⟨e.1, ?_⟩
    by_cases c : k = X.1.1 - 1
    · rw [if_pos c, c, zu_self]
    · rw [if_neg c, zu_key c]
      exact e.2
  · rw [zu_row (by omega)]
    exact rT.2.2 x hx
  · rw [zu_row (by omega)]
    exact r4
theorem s_154 {xs : Nat → Int32} {L d : Nat} {J K : jZ} {P : jZ → jZ → Prop} {X : zT × Int} (hT : zt_ok X.1) (hr : cX_at J X) (h : ∀ J', cXf J J' → cX_at J' (zD_2 (zD_1 X)) → P J' K) : q_154 xs L (d + 2) 1 J K P := by
  have h60 := hT.1
  have w := zD_r_r (s := X.2) (n := 16) (by omega)
  have D1 := zD_1_ok hT
  have tl : ∀ J2 K2, cXf J J2 → cX_at J2 (zD_1 X) → K2 = K → q_155 xs L (d + 1) 1 8 J2 K2 (fun r12 J10 K11 => (-2147483648 ≤ r12 ∧ r12 < 2147483648) ∧ (¬ r12 = 0 → (2 < r12 → P J10 K11) ∧ (r12 ≤ 2 → q_61 xs L (d + 1) 1 J10 K11 (fun r18 J16 K17 => (-2147483648 ≤ r18 ∧ r18 < 2147483648) ∧ (¬ r18 = 0 → P J16 K17) ∧ (r18 = 0 → q_62 xs L (d + 1) 1 1 J16 K17 (fun J21 K22 => P J21 K22))))) ∧ (r12 = 0 → q_62 xs L (d + 1) 1 2 J10 K11 (fun J23 K24 => P J23 K24))) := fun J2 K2 f2 x2 ek => by
    subst ek
    have m := zD_r_r (s := (zD_1 X).2) (n := 8) (by omega)
    have lr := zT_l_r D1.1
    refine s_155 (by omega) x2 (fun J3 f3 x3 => ⟨by omega, fun q => ⟨fun q2 => h J3 (cXf_tr f2 f3) ?_, fun q2 => s_61 D1.1 x3.1 ⟨by omega, fun q3 => h J3 (cXf_tr f2 f3) ?_, fun q3 => s_62 (X := ((zD_1 X).1, zD_s (zD_1 X).2)) D1.1 D1.2 x3 (fun J4 f4 x4 => h J4 (cXf_tr f2 (cXf_tr f3 f4)) ?_)⟩⟩, fun q => s_62 (X := ((zD_1 X).1, zD_s (zD_1 X).2)) D1.1 D1.2 x3 (fun J4 f4 x4 => h J4 (cXf_tr f2 (cXf_tr f3 f4)) ?_)⟩)
    · rw [zD_2, if_neg q, if_neg (by omega)]
      exact x3
    · rw [zD_2, if_neg q, if_neg (by omega)]
      exact x3
    · rw [zD_2, if_neg q, if_pos ⟨q2, q3⟩]
      exact x4
    · rw [zD_2, if_pos q]
      exact x4
  refine e_154 rfl (s_155 (by omega) hr (fun J1 f1 x1 => ?_))
  have h1 : J1 1 3 = (X.1.1 : Int) := x1.1.1
  rw [h1]
  refine ⟨by omega, fun q => s_155 (by omega) x1 (fun J2 f2 x2 => ?_), fun q => s_58 (X := (X.1, zD_s X.2)) (by show X.1.1 < 60; omega) x1 (fun J2 f2 x2 => tl J2 K (cXf_tr f1 f2) ?_ rfl)⟩
  · have p := zD_r_r (s := zD_s X.2) (n := 60) (by omega)
    refine ⟨p, tl _ K (cXf_tr f1 (cXf_tr f2 (fun x a b c => zu_row b))) ?_ rfl⟩
    rw [zD_1, if_pos (by omega)]
    refine ⟨⟨?_, fun k hk => ?_, fun x hx => ?_⟩, ?_⟩
    · rw [zu_row (by omega)]
      exact x2.1.1
    · have hk : k < X.1.1 := hk
      have e := x2.1.2.1 k hk
      rw [show 1 + 1 = 2 from rfl, show 1 + 2 = 3 from rfl] at e ⊢
      refine ⟨?_, by rw [zu_row (by omega)]; exact e.2⟩
      show _ = (if k = (zD_r (zD_s X.2) 60).toNat then zD_r X.2 16 else X.1.2.1 k)
      by_cases c : k = (zD_r (zD_s X.2) 60).toNat
      · rw [if_pos c, c]
        exact zu_self
      · rw [if_neg c, ← e.1]
        exact zu_key c
    · rw [zu_row (by omega)]
      exact x2.1.2.2 x hx
    · rw [zu_row (by omega)]
      exact x2.2
  · rw [zD_1, if_neg (by omega)]
    exact x2
