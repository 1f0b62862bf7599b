/-! Stand; the tape: feed, wipe. -/
theorem zb_hi {x : Int} (h : 0 ≤ x ∧ x < 65536) {j : Nat} (hj : 16 ≤ j) : ¬ zb x j := by
  intro q
  have h32 := zb_lt q
  obtain ⟨n, rfl⟩ : ∃ n : Nat, x = (n : Int) := ⟨x.toNat, by omega⟩
  rw [zb_nat h32, Nat.testBit_lt_two_pow (Nat.lt_of_lt_of_le (show n < 2 ^ 16 by omega) (Nat.pow_le_pow_right (by omega) hj))] at q
  cases q
theorem zb_sm {x : Int} (hx : -2147483648 ≤ x ∧ x < 2147483648) (h : ∀ j, 16 ≤ j → ¬ zb x j) : 0 ≤ x ∧ x < 65536 := by
  have e : x = (((BitVec.ofInt 32 x).toNat % 2 ^ 16 : Nat) : Int) := by
    refine zb_ext hx (by omega) (fun j hj => ?_)
    rw [zb_nat hj, Nat.testBit_mod_two_pow]
    have hh := h j
    unfold zb at hh ⊢
    rw [show (BitVec.ofInt 32 x).getLsbD j = (BitVec.ofInt 32 x).toNat.testBit j from rfl] at hh ⊢
    by_cases c : j < 16
    · simp [c]
    · have := hh (by omega)
      simp [c]
      simpa using this
  omega
/-- what a word stands for, changed -/
def zq_ss (S b v : Int) : Int := if v = 1 then jz_or S (jz_shl 1 b) else jz_and S (jz_xor (jz_shl 1 b) (-1))
theorem zq_ss_b {S v : Int} {b j : Nat} (hb : b < 16) (hv : 0 ≤ v ∧ v ≤ 1) (hj : j < 32) : zb (zq_ss S (b : Int) v) j ↔ if j = b then v = 1 else zb S j := by
  have one : zb (jz_shl 1 (b : Int)) j ↔ j = b := by
    rw [zb_shl (by omega), zb_1]
    omega
  unfold zq_ss
  by_cases c : v = 1
  · rw [if_pos c, zb_or, one]
    by_cases e : j = b
    · rw [if_pos e]
      simp [e, c]
    · rw [if_neg e]
      simp [e]
  · rw [if_neg c, zb_and, zb_xor, one]
    have m1 : zb (-1) j := zb_m1.mpr hj
    by_cases e : j = b
    · rw [if_pos e]
      simp [e, c]
      intro _
      rw [← e]
      exact m1
    · rw [if_neg e]
      simp [e, m1]
theorem zq_ss_r {S b v : Int} : -2147483648 ≤ zq_ss S b v ∧ zq_ss S b v < 2147483648 := by
  unfold zq_ss
  split
  · exact jz_or_r
  · exact ⟨Int32.le_toInt _, Int32.toInt_lt _⟩
theorem zq_ss_s {S v : Int} {b : Nat} (hS : 0 ≤ S ∧ S < 65536) (hb : b < 16) (hv : 0 ≤ v ∧ v ≤ 1) : 0 ≤ zq_ss S (b : Int) v ∧ zq_ss S (b : Int) v < 65536 :=
  zb_sm zq_ss_r (fun j hj q => by
    have h32 := zb_lt q
    rw [zq_ss_b hb hv h32, if_neg (by omega)] at q
    exact zb_hi hS hj q)
def zT_s (T : zT) (a : Nat) (S : Int) : zT := (T.1, T.2.1, T.2.2.1, fun w => if w = a then S else T.2.2.2 w)
theorem zT_s_ok {T : zT} {a : Nat} {S : Int} (hT : zt_ok T) (hS : -2147483648 ≤ S ∧ S < 2147483648) : zt_ok (zT_s T a S) := by
  obtain ⟨p, b, c, e⟩ := hT
  refine ⟨p, b, c, fun w hw => ?_⟩
  show -2147483648 ≤ (if w = a then S else T.2.2.2 w) ∧ (if w = a then S else T.2.2.2 w) < 2147483648
  split
  · exact hS
  · exact e w hw
theorem zT_s_sb {T : zT} {a : Nat} {S : Int} (hT : zt_sb T) (hS : 0 ≤ S ∧ S < 65536) : zt_sb (zT_s T a S) := by
  intro w hw
  show 0 ≤ (if w = a then S else T.2.2.2 w) ∧ (if w = a then S else T.2.2.2 w) < 65536
  split
  · exact hS
  · exact hT w hw
theorem zT_s_eq {T : zT} {a : Nat} : zT_s T a (T.2.2.2 a) = T := by
  have : (fun w => if w = a then T.2.2.2 a else T.2.2.2 w) = T.2.2.2 := by
    funext w
    by_cases c : w = a
    · rw [if_pos c, c]
    · rw [if_neg c]
  unfold zT_s
  rw [this]
def zq_sg (a b v : Int) : Prop := (0 ≤ a ∧ a < 16) ∧ (0 ≤ b ∧ b < 16) ∧ ¬ a = b ∧ (0 ≤ v ∧ v ≤ 1)
def zq_so (T : zT) (a b : Int) : Int := jz_and (jz_shr (T.2.2.2 a.toNat) b) 1
theorem c_65 {xs : Nat → Int32} {L d : Nat} {J K : jZ} {P : Int → jZ → jZ → Prop} {T : zT} {A : zA} (hQ : cQ J T A) {a b v : Int} (ha : -2147483648 ≤ a ∧ a < 2147483648) (hb0 : -2147483648 ≤ b ∧ b < 2147483648) (hv : -2147483648 ≤ v ∧ v < 2147483648) (hb : ¬ zq_sg a b v → P (-2) (rC J 0) K) (h : zq_sg a b v → ∀ J', cTf J J' → cQ J' (zT_s T a.toNat (zq_ss (T.2.2.2 a.toNat) b v)) A → P (zq_so T a b) J' K) : q_65 xs L (d + 2) a b v J K P := by
  have rT := hQ.2.2.1
  have bad : ¬ zq_sg a b v → q_13 xs L (d + 1) (-2) J K (fun r J' K' => P r J' K') := fun q => s_13 (k := 0) (by omega) (by omega) (hb q)
  refine e_65 ⟨ha, fun q => ⟨hb0, fun q2 => ⟨fun q3 => bad (fun u => u.2.2.1 q3), fun q3 => ⟨hv, fun q4 => bad (fun u => by have := u.2.2.2; omega), fun q4 => ⟨fun q5 => ?_, fun q5 => bad (fun u => by have := u.2.2.2; omega)⟩⟩⟩, fun q2 => bad (fun u => q2 u.2.1)⟩, fun q => bad (fun u => q u.1)⟩
  have h := h ⟨q, q2, q3, q4, q5⟩
  obtain ⟨a, rfl⟩ : ∃ x : Nat, a = (x : Int) := ⟨a.toNat, by omega⟩
  obtain ⟨b, rfl⟩ : ∃ x : Nat, b = (x : Int) := ⟨b.toNat, by omega⟩
  have e := rT.2.2 a (by omega)
  rw [show 1 + 3 = 4 from rfl] at e
  unfold zq_so at h
  rw [Int.toNat_natCast] at h ⊢
  rw [e]
  have tst := zb_tst (x := T.2.2.2 a) (j := b) (by omega)
  have hr := hQ.1.2.2.2 a (by omega)
  have x01 : jz_and (jz_shr (T.2.2.2 a) b) 1 = 0 ∨ jz_and (jz_shr (T.2.2.2 a) b) 1 = 1 := by
    by_cases c : zb (T.2.2.2 a) b
    · exact .inr (tst.2.mpr c)
    · exact .inl (tst.1.mpr c)
  have isv : jz_and (jz_shr (T.2.2.2 a) b) 1 = v ↔ (zb (T.2.2.2 a) b ↔ v = 1) := by
    by_cases c : zb (T.2.2.2 a) b
    · have := tst.2.mpr c
      simp only [c, true_iff]
      omega
    · have := tst.1.mpr c
      simp only [c, false_iff]
      omega
  refine ⟨fun q6 => ?_, fun q6 => ?_⟩
  · have s : zq_ss (T.2.2.2 a) (b : Int) v = T.2.2.2 a := zb_ext zq_ss_r hr (fun j hj => by
      rw [zq_ss_b (by omega) (by omega) hj]
      by_cases c : j = b
      · rw [if_pos c, c]
        exact (isv.mp q6).symm
      · rw [if_neg c])
    rw [s, zT_s_eq] at h
    exact h J ⟨fun _ _ _ _ _ _ => rfl, rfl, rfl⟩ hQ
  · have s : jz_xor (T.2.2.2 a) (jz_shl 1 (b : Int)) = zq_ss (T.2.2.2 a) (b : Int) v := zb_ext ⟨Int32.le_toInt _, Int32.toInt_lt _⟩ zq_ss_r (fun j hj => by
      rw [zq_ss_b (by omega) (by omega) hj, zb_xor, zb_shl (by omega), zb_1]
      have one : (j < 32 ∧ b ≤ j ∧ j - b = 0) ↔ j = b := by omega
      rw [one]
      by_cases c : j = b
      · rw [if_pos c, c]
        have := mt isv.mpr q6
        by_cases c2 : zb (T.2.2.2 a) b
        · simp only [c2, true_iff] at this ⊢
          simp [this]
        · simp only [c2, false_iff, Classical.not_not] at this ⊢
          simp [this]
      · rw [if_neg c]
        simp [c])
    rw [s]
    have f : cTf J (jm_up (jm_up J 4 a (zq_ss (T.2.2.2 a) b v)) 61 5 0) := ⟨fun x a1 a2 a3 a4 a5 => by rw [zu_row a5, zu_row a4], by rw [zu_row (by omega), zu_row (by omega)], by rw [zu_key (by omega), zu_row (by omega)]⟩
    refine h _ f (cQ_T hQ f (zT_s_ok hQ.1 zq_ss_r) ⟨?_, fun k hk => ?_, fun x hx => ?_⟩ zu_self)
    · rw [zu_row (by omega), zu_row (by omega)]
      exact rT.1
    · rw [show 1 + 1 = 2 from rfl, show 1 + 2 = 3 from rfl]
      have hk : k < T.1 := hk
      have e := rT.2.1 k hk
      exact ⟨by rw [zu_row (by omega), zu_row (by omega)]; exact e.1, by rw [zu_row (by omega), zu_row (by omega)]; exact e.2⟩
    · rw [show 1 + 3 = 4 from rfl, zu_row (by omega)]
      show _ = (if x = a then _ else T.2.2.2 x)
      by_cases c : x = a
      · rw [if_pos c, c, zu_self]
      · rw [if_neg c, zu_key c]
        exact rT.2.2 x hx
/-- the tape -/
abbrev zB : Type := Nat × (Nat → Int)
def zB_ok (B : zB) : Prop := B.1 ≤ 250 ∧ ∀ i, i < B.1 → 0 ≤ B.2 i ∧ B.2 i ≤ 255
def cB_at (J : jZ) (B : zB) : Prop := J 144 1 = (B.1 : Int) ∧ ∀ i, i < B.1 → J 145 i = B.2 i
def cBf (J J' : jZ) : Prop := ∀ x, x ≠ 144 → x ≠ 145 → J' x = J x
def zB_f (B : zB) (b : Int) : zB := (B.1 + 1, fun i => if i = B.1 then b else B.2 i)
theorem zB_f_ok {B : zB} {b : Int} (h : zB_ok B) (hb : 0 ≤ b ∧ b ≤ 255) (h2 : B.1 < 250) : zB_ok (zB_f B b) := by
  refine ⟨by show B.1 + 1 ≤ 250; omega, fun i hi => ?_⟩
  have hi : i < B.1 + 1 := hi
  show 0 ≤ (if i = B.1 then b else B.2 i) ∧ (if i = B.1 then b else B.2 i) ≤ 255
  split
  · exact hb
  · exact h.2 i (by omega)
theorem c_66 {xs : Nat → Int32} {L d : Nat} {J K : jZ} {P : Int → jZ → jZ → Prop} {B : zB} {b : Int} (hB : zB_ok B) (hr : cB_at J B) (hb0 : -2147483648 ≤ b ∧ b < 2147483648) (hb : ¬ (0 ≤ b ∧ b ≤ 255) → P (-2) (rC J 0) K) (hb2 : 0 ≤ b ∧ b ≤ 255 → ¬ B.1 < 250 → P (-6) (rC J 4) K) (h : 0 ≤ b ∧ b ≤ 255 → B.1 < 250 → ∀ J', cBf J J' → cB_at J' (zB_f B b) → P ((B.1 : Int) + 1) J' K) : q_66 xs L (d + 2) b J K P := by
  have h250 := hB.1
  have h1 := hr.1
  refine e_66 ⟨hb0, fun q => s_13 (k := 0) (by omega) (by omega) (hb (by omega)), fun q => ⟨fun q2 => ⟨by omega, fun q3 => e_67 ⟨by omega, fun t => by omega, fun t => ⟨by omega, ?_⟩⟩, fun q3 => s_13 (k := 4) (by omega) (by omega) (hb2 (by omega) (by omega))⟩, fun q2 => s_13 (k := 0) (by omega) (by omega) (hb (by omega))⟩⟩
  rw [zu_self, h1, Int.toNat_natCast]
  refine h (by omega) (by omega) _ (fun x a1 a2 => by rw [zu_row a1, zu_row a2]) ⟨?_, fun i hi => ?_⟩
  · rw [zu_self]
    show (B.1 : Int) + 1 = ((B.1 + 1 : Nat) : Int)
    omega
  · have hi : i < B.1 + 1 := hi
    rw [zu_row (by omega)]
    show _ = (if i = B.1 then b else B.2 i)
    by_cases c : i = B.1
    · rw [if_pos c, c, zu_self]
    · rw [if_neg c, zu_key c]
      exact hr.2 i (by omega)
def zB_0 : zB := (0, fun _ => 0)