/-! Status. -/
theorem zp_c_s {n : Nat} (h : n < 65536) (h0 : ¬ n = 0) : zp_c n = zp_c (n &&& (n - 1)) + 1 := by
  have := zp_all (n / 256) (by omega) (n % 256) (by omega)
  rw [show 256 * (n / 256) + n % 256 = n by omega] at this
  exact this.resolve_left h0
theorem zb_nat {n j : Nat} (hj : j < 32) : zb (n : Int) j ↔ n.testBit j = true := by
  unfold zb
  rw [BitVec.ofInt_natCast, BitVec.getLsbD_ofNat]
  simp [hj]
theorem jz_and_n {a b : Nat} (ha : a < 2147483648) (hb : b < 2147483648) : jz_and (a : Int) (b : Int) = ((a &&& b : Nat) : Int) := by
  have := Nat.and_le_left (n := a) (m := b)
  refine zb_ext ⟨Int32.le_toInt _, Int32.toInt_lt _⟩ (by omega) (fun j hj => ?_)
  rw [zb_and, zb_nat hj, zb_nat hj, zb_nat hj, Nat.testBit_and, Bool.and_eq_true]
theorem jz_or_n {a b : Nat} (ha : a < 65536) (hb : b < 65536) : jz_or (a : Int) (b : Int) = ((a ||| b : Nat) : Int) ∧ a ||| b < 65536 := by
  have h := Nat.or_lt_two_pow (n := 16) (show a < 2 ^ 16 by omega) (show b < 2 ^ 16 by omega)
  refine ⟨zb_ext ⟨Int32.le_toInt _, Int32.toInt_lt _⟩ (by omega) (fun j hj => ?_), h⟩
  rw [zb_or, zb_nat hj, zb_nat hj, zb_nat hj, Nat.testBit_or, Bool.or_eq_true]
theorem zb_um : ∀ k : Nat, k < 32 → (UInt32.mod ((Int32.ofInt (k : Int)).toUInt32 &&& Int32.toUInt32 31) 32).toBitVec.toNat = k := by decide +kernel
theorem zb_ushr {x : Int} {k j : Nat} (hk : k < 32) : zb (jz_ushr x k) j ↔ zb x (k + j) := by
  unfold zb jz_ushr
  rw [zb_t, show ((Int32.ofInt x).toUInt32 >>> ((Int32.ofInt (k : Int)).toUInt32 &&& Int32.toUInt32 31)).toInt32.toBitVec = BitVec.ofInt 32 x >>> (UInt32.mod ((Int32.ofInt (k : Int)).toUInt32 &&& Int32.toUInt32 31) 32).toBitVec from rfl, BitVec.ushiftRight_eq', BitVec.getLsbD_ushiftRight, zb_um k hk]
theorem jz_ushr_n {a k : Nat} (ha : a < 2147483648) (hk : k < 32) : jz_ushr (a : Int) (k : Int) = ((a >>> k : Nat) : Int) := by
  have := Nat.shiftRight_le a k
  refine zb_ext ⟨Int32.le_toInt _, Int32.toInt_lt _⟩ ⟨Int.le_trans (by decide) (Int.natCast_nonneg _), Int.lt_of_le_of_lt (Int.ofNat_le.mpr this) (by omega)⟩ (fun j hj => ?_)
  rw [zb_ushr hk, zb_nat hj, Nat.testBit_shiftRight]
  by_cases q : k + j < 32
  · rw [zb_nat q]
  · constructor
    · intro h
      exact absurd (zb_lt h) q
    · intro h
      rw [Nat.testBit_lt_two_pow (Nat.lt_of_lt_of_le ha (Nat.le_trans (by decide : 2147483648 ≤ 2 ^ 31) (Nat.pow_le_pow_right (by omega) (by omega))))] at h
      cases h
theorem s_164 {xs : Nat → Int32} {L d : Nat} {J K : jZ} {P : Int → jZ → jZ → Prop} {n : Nat} (hn : n < 65536) (h : P (zp_c n : Int) J K) : q_164 xs L (d + 1) (n : Int) J K P := by
  have a1 := Nat.shiftRight_le n 1
  have b1 := Nat.and_le_left (n := n >>> 1) (m := 1431655765)
  have u1 := jz_ushr_n (a := n) (k := 1) (by omega) (by omega)
  have v1 := jz_and_n (a := n >>> 1) (b := 1431655765) (by omega) (by omega)
  have e1 : (n : Int) - jz_and (jz_ushr (n : Int) 1) 1431655765 = (zp_1 n : Int) := by
    unfold zp_1
    rw [show (1 : Int) = ((1 : Nat) : Int) from rfl, u1, show (1431655765 : Int) = ((1431655765 : Nat) : Int) from rfl, v1]
    omega
  have c1 : zp_1 n < 65536 := by
    unfold zp_1
    omega
  generalize hz1 : zp_1 n = m at e1 c1
  have a2 := Nat.shiftRight_le m 2
  have b2 := Nat.and_le_left (n := m >>> 2) (m := 858993459)
  have b2' := Nat.and_le_left (n := m) (m := 858993459)
  have u2 := jz_ushr_n (a := m) (k := 2) (by omega) (by omega)
  have v2 := jz_and_n (a := m >>> 2) (b := 858993459) (by omega) (by omega)
  have v2' := jz_and_n (a := m) (b := 858993459) (by omega) (by omega)
  have e2 : jz_and (m : Int) 858993459 + jz_and (jz_ushr (m : Int) 2) 858993459 = (zp_2 m : Int) := by
    unfold zp_2
    rw [show (2 : Int) = ((2 : Nat) : Int) from rfl, u2, show (858993459 : Int) = ((858993459 : Nat) : Int) from rfl, v2, v2']
    omega
  have c2 : zp_2 m < 131072 := by
    unfold zp_2
    omega
  generalize hz2 : zp_2 m = p at e2 c2
  have a3 := Nat.shiftRight_le p 4
  have u3 := jz_ushr_n (a := p) (k := 4) (by omega) (by omega)
  have b3 := Nat.and_le_left (n := p + p >>> 4) (m := 252645135)
  have v3 := jz_and_n (a := p + p >>> 4) (b := 252645135) (by omega) (by omega)
  have e3 : jz_and ((p : Int) + jz_ushr (p : Int) 4) 252645135 = (zp_3 p : Int) := by
    unfold zp_3
    rw [show (4 : Int) = ((4 : Nat) : Int) from rfl, u3, show (252645135 : Int) = ((252645135 : Nat) : Int) from rfl, ← Int.natCast_add, v3]
  have c3 : zp_3 p < 262144 := by
    unfold zp_3
    omega
  generalize hz3 : zp_3 p = q at e3 c3
  have a4 := Nat.shiftRight_le q 8
  have u4 := jz_ushr_n (a := q) (k := 8) (by omega) (by omega)
  have e4 : (q : Int) + jz_ushr (q : Int) 8 = (zp_4 q : Int) := by
    unfold zp_4
    rw [show (8 : Int) = ((8 : Nat) : Int) from rfl, u4, ← Int.natCast_add]
  have c4 : zp_4 q < 524288 := by
    unfold zp_4
    omega
  generalize hz4 : zp_4 q = r at e4 c4
  have a5 := Nat.shiftRight_le r 16
  have u5 := jz_ushr_n (a := r) (k := 16) (by omega) (by omega)
  have v5 := jz_and_n (a := r + r >>> 16) (b := 63) (by omega) (by omega)
  have e5 : jz_and ((r : Int) + jz_ushr (r : Int) 16) 63 = (zp_5 r : Int) := by
    unfold zp_5
    rw [show (16 : Int) = ((16 : Nat) : Int) from rfl, u5, show (63 : Int) = ((63 : Nat) : Int) from rfl, ← Int.natCast_add, v5]
  have ec : zp_c n = zp_5 r := by
    unfold zp_c
    rw [hz1, hz2, hz3, hz4]
  refine e_164 ?_
  rw [e1, e2, e3, e4, e5, ← ec]
  exact h
/-- the different words of a text, as bits -/
def zq_dw (T : zT) : Nat → Nat
  | 0 => 0
  | k + 1 => zq_dw T k ||| 2 ^ (T.2.1 k).toNat
theorem jz_shl_1 : ∀ w : Nat, w < 16 → jz_shl 1 (w : Int) = ((2 ^ w : Nat) : Int) ∧ 2 ^ w < 65536 := by decide +kernel
theorem zq_dw_r {T : zT} (hT : zt_ok T) : ∀ k : Nat, k ≤ T.1 → zq_dw T k < 65536
  | 0, _ => by simp [zq_dw]
  | k + 1, hk => by
    have w := hT.2.1 k (by omega)
    exact (jz_or_n (zq_dw_r hT k (by omega)) (jz_shl_1 (T.2.1 k).toNat (by omega)).2).2
theorem zq_dw_s {T : zT} (hT : zt_ok T) {k : Nat} (hk : k < T.1) : jz_or (zq_dw T k : Int) (jz_shl 1 (T.2.1 k)) = (zq_dw T (k + 1) : Int) := by
  have w := hT.2.1 k (by omega)
  have e := jz_shl_1 (T.2.1 k).toNat (by omega)
  rw [show (((T.2.1 k).toNat : Nat) : Int) = T.2.1 k by omega] at e
  rw [e.1]
  exact (jz_or_n (zq_dw_r hT k (by omega)) e.2).1
/-- what words stand for is among the sixteen -/
def zt_sb (T : zT) : Prop := ∀ w, w < 16 → 0 ≤ T.2.2.2 w ∧ T.2.2.2 w < 65536
theorem s_163_4 {xs : Nat → Int32} {L d : Nat} {J K : jZ} {P : Int → jZ → jZ → Prop} {T : zT} {a : Nat} (hT : zt_ok T) (ha : jz_kd a = 18) (hr : zt_at J a T) (h : P (zp_c (zq_dw T T.1) : Int) J K) : ∀ (n k : Nat), k + n = T.1 → l_163_4 xs L (d + 1) a (zq_dw T k : Int) (k : Int) J K P
  | n, k, hn => by
    have h60 := hT.1
    have h1 := hr.1
    refine e_163_4 ha ⟨by omega, by omega, fun q => ?_, fun q => ⟨by omega, ?_⟩⟩
    · obtain rfl : k = T.1 := by omega
      exact s_164 (zq_dw_r hT _ (Nat.le_refl _)) h
    · match n, hn with
      | 0, hn => omega
      | n + 1, hn =>
        rw [Int.toNat_natCast, (hr.2.1 k (by omega)).1, zq_dw_s hT (by omega)]
        exact s_163_4 hT ha hr h n (k + 1) (by omega)
theorem s_163 {xs : Nat → Int32} {L d : Nat} {J K : jZ} {P : Int → jZ → jZ → Prop} {T : zT} {a : Nat} (hT : zt_ok T) (ha : jz_kd a = 18) (hr : zt_at J a T) (h : P (zp_c (zq_dw T T.1) : Int) J K) : q_163 xs L (d + 2) a J K P :=
  e_163 ha (s_163_4 hT ha hr h T.1 0 (by omega))
def zq_tw (T : zT) : Nat → Int := zn (fun w => (zp_c (T.2.2.2 w).toNat : Int))
theorem s_165_4 {xs : Nat → Int32} {L d : Nat} {J K : jZ} {P : Int → jZ → jZ → Prop} {T : zT} {a : Nat} (hS : zt_sb T) (ha : jz_kd a = 18) (hr : zt_at J a T) (h : P (zq_tw T 16) J K) : ∀ (n k : Nat), k + n = 16 → l_165_4 xs L (d + 1) a (zq_tw T k) (k : Int) J K P
  | n, k, hn => by
    refine e_165_4 ha ⟨by omega, fun q => ?_, fun q => ⟨by omega, ?_⟩⟩
    · obtain rfl : k = 16 := by omega
      exact h
    · match n, hn with
      | 0, hn => omega
      | n + 1, hn =>
        have b := hS k (by omega)
        rw [Int.toNat_natCast, hr.2.2 k (by omega), show T.2.2.2 k = (((T.2.2.2 k).toNat : Nat) : Int) by omega]
        exact s_164 (by omega) (s_165_4 hS ha hr h n (k + 1) (by omega))
theorem s_165 {xs : Nat → Int32} {L d : Nat} {J K : jZ} {P : Int → jZ → jZ → Prop} {T : zT} {a : Nat} (hS : zt_sb T) (ha : jz_kd a = 18) (hr : zt_at J a T) (h : P (zq_tw T 16) J K) : q_165 xs L (d + 2) a J K P :=
  e_165 ha (s_165_4 hS ha hr h 16 0 (by omega))
def zq_us (H : zH) : Nat → Int := zn (fun s => if (H s).1 = -1 then 0 else 1)
theorem s_166_4 {xs : Nat → Int32} {L d : Nat} {J K : jZ} {P : Int → jZ → jZ → Prop} {H : zH} {m : Nat} (hm : m ≤ 24) (hH : zH_ok m H) (hr : cH_at J K H) (h : P (zq_us H 8) J K) : ∀ (n k : Nat), k + n = 8 → l_166_4 xs L (d + 0) (zq_us H k) (k : Int) J K P
  | n, k, hn => by
    refine e_166_4 ⟨by omega, fun q => ?_, fun q => ⟨by omega, ?_⟩⟩
    · obtain rfl : k = 8 := by omega
      exact h
    · match n, hn with
      | 0, hn => omega
      | n + 1, hn =>
        have hk := hH k (by omega)
        have ih := s_166_4 (xs := xs) (L := L) (d := d) hm hH hr h n (k + 1) (by omega)
        have e : zq_us H (k + 1) = zq_us H k + (if (H k).1 = -1 then 0 else 1) := rfl
        rw [e] at ih
        rw [Int.toNat_natCast, (hr k (by omega)).1]
        refine ⟨by omega, fun q2 => ?_, fun q2 => ?_⟩
        · rw [if_neg q2] at ih
          exact ih
        · rw [if_pos q2] at ih
          exact ih
def zq_sa (T : zT) (A : zA) (H : zH) (tp sd : Int) (rf : Nat → Int) (v : Int) : Int := if v = 0 then (T.1 : Int) else if v = 1 then zt_ct T 1 else if v = 2 then zt_ct T 2 else if v = 3 then (A.1 : Int) else if v = 4 then (zp_c (zq_dw T T.1) : Int) else if v = 5 then zq_tw T 16 else if v = 6 then tp else if v = 7 then sd else if v = 8 then zq_us H 8 else if 12 ≤ v ∧ v < 17 then rf (v - 12).toNat else -1
theorem c_162 {xs : Nat → Int32} {L d : Nat} {J K : jZ} {P : Int → jZ → jZ → Prop} {T : zT} {A : zA} (hQ : cQ J T A) {H : zH} {tp sd v : Int} {rf : Nat → Int} (hS : zt_sb T) (hH : zH_ok A.1 H) (hr : cH_at J K H) (ht : J 144 1 = tp) (hsd : J 1 4 = sd) (hrf : ∀ k, k < 5 → J 150 k = rf k) (hv : -2147483648 ≤ v ∧ v < 2147483648) (h : P (zq_sa T A H tp sd rf v) J K) : q_162 xs L (d + 3) v J K P := by
  have h24 := hQ.2.1.1
  have rT := hQ.2.2.1
  unfold zq_sa at h
  refine e_162 ⟨hv, fun q0 => ?_, fun q0 => ⟨fun q1 => ?_, fun q1 => ⟨fun q2 => ?_, fun q2 => ⟨fun q3 => ?_, fun q3 => ⟨fun q4 => ?_, fun q4 => ⟨fun q5 => ?_, fun q5 => ⟨fun q6 => ?_, fun q6 => ⟨fun q7 => ?_, fun q7 => ⟨fun q8 => ?_, fun q8 => ⟨fun q9 => ?_, fun q9 => ⟨fun q10 => ?_, fun q10 => ⟨by omega, ?_⟩⟩⟩⟩⟩⟩⟩⟩⟩⟩⟩⟩
  · rw [if_pos q0] at h
    rw [rT.1]
    exact h
  · rw [if_neg q0, if_pos q1] at h
    exact s_129 hQ.1 (by omega) rfl rT h
  · rw [if_neg q0, if_neg q1, if_pos q2] at h
    exact s_129 hQ.1 (by omega) rfl rT h
  · rw [if_neg q0, if_neg q1, if_neg q2, if_pos q3] at h
    rw [hQ.2.2.2.1.1]
    exact h
  · rw [if_neg q0, if_neg q1, if_neg q2, if_neg q3, if_pos q4] at h
    exact s_163 hQ.1 rfl rT h
  · rw [if_neg q0, if_neg q1, if_neg q2, if_neg q3, if_neg q4, if_pos q5] at h
    exact s_165 hS rfl rT h
  · rw [if_neg q0, if_neg q1, if_neg q2, if_neg q3, if_neg q4, if_neg q5, if_pos q6] at h
    rw [ht]
    exact h
  · rw [if_neg q0, if_neg q1, if_neg q2, if_neg q3, if_neg q4, if_neg q5, if_neg q6, if_pos q7] at h
    rw [hsd]
    exact h
  · rw [if_neg q0, if_neg q1, if_neg q2, if_neg q3, if_neg q4, if_neg q5, if_neg q6, if_neg q7, if_pos q8] at h
    exact e_166 (s_166_4 h24 hH hr h 8 0 (by omega))
  · rw [if_neg q0, if_neg q1, if_neg q2, if_neg q3, if_neg q4, if_neg q5, if_neg q6, if_neg q7, if_neg q8, if_neg (by omega)] at h
    exact h
  · rw [if_neg q0, if_neg q1, if_neg q2, if_neg q3, if_neg q4, if_neg q5, if_neg q6, if_neg q7, if_neg q8, if_neg (by omega)] at h
    exact h
  · rw [if_neg q0, if_neg q1, if_neg q2, if_neg q3, if_neg q4, if_neg q5, if_neg q6, if_neg q7, if_neg q8, if_pos (by omega)] at h
    rw [hrf _ (by omega)]
    exact h