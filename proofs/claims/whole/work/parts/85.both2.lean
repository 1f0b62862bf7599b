/-! Class and reference side by side: what changes something. -/
section WC
variable {xs : Nat → Int32} {L d : Nat} {J K : jZ}
theorem w_11 {xu xk xn : Int} (hxu : -2147483648 ≤ xu ∧ xu < 2147483648) (hxk : -2147483648 ≤ xk ∧ xk < 2147483648) (hxn : -2147483648 ≤ xn ∧ xn < 2147483648) (h : Inv J K) : q_11 xs L (d + 1700) xu xk xn J K (fun r J1 K1 => q_168 xs L (d + 1700) xu xk xn J1 K1 (fun r2 J2 K2 => r = r2 ∧ Inv J2 K2)) := by
  obtain ⟨T, s, A, H, B, R, y, p, c, m⟩ := h
  refine c_11 c.2.2.2.1 hxu hxk hxn (fun n => m_168 (I_r (j := 0) m).2.2.1 hxu hxk hxn (fun _ => ⟨rfl, (I_rr (j := 0) p c m (by omega))⟩) (fun z => absurd z n)) (fun z J1 K1 F1 r1 => m_168 (I_H m F1).2.2.1 hxu hxk hxn (fun n => absurd z n) (fun _ J2 K2 F2 r2 => ⟨rfl, I_HH ⟨p.1, zH_ok_up p.2.1 (.inr (.inl ⟨z.2.1.1, z.2.1.2, z.2.2.1, z.2.2.2, fun i hi => ?_⟩)), p.2.2⟩ c m F1 r1 F2 r2⟩))
  show (-9223372036854775808 : Int) ≤ 0 ∧ (0 : Int) < 9223372036854775808
  omega
theorem sn_j {H : zH} {t i : Int} (h : ¬ zq_sn H t i = 0) : (-2 - zq_sn H t i).toNat < 5 ∧ (-(zq_sn H t i)).toNat = (-2 - zq_sn H t i).toNat + 2 := by
  have : zq_sn H t i = 0 ∨ zq_sn H t i = -2 ∨ zq_sn H t i = -3 ∨ zq_sn H t i = -4 := by
    have := zH_rf_r (H := H) (s := t) (n := 0)
    unfold zq_sn
    repeat' split
    all_goals omega
  omega
theorem sn_ok {n : Nat} {H : zH} {t i v : Int} (hH : zH_ok n H) (hv : -9223372036854775808 ≤ v ∧ v < 9223372036854775808) (h : zq_sn H t i = 0) : zH_ok n (zH_up H t.toNat (zq_sv H t i v)) := by
  have rf : zH_rf H t 0 = 0 := by
    unfold zq_sn at h
    by_cases c : zH_rf H t 0 = 0
    · exact c
    · rw [if_pos c] at h
      exact absurd h c
  have z := zH_rf_0 rf
  rcases hH t.toNat (by omega) with c | c | c
  · exact absurd c z.2.2.1
  · refine zH_ok_up hH (.inr (.inl ⟨c.1, c.2.1, c.2.2.1, c.2.2.2.1, fun e he => ?_⟩))
    show -9223372036854775808 ≤ (if e = i.toNat then zq_ft (H t.toNat).1 v else (H t.toNat).2.2 e) ∧ (if e = i.toNat then zq_ft (H t.toNat).1 v else (H t.toNat).2.2 e) < 9223372036854775808
    split
    · exact zq_ft_r hv
    · exact c.2.2.2.2 e he
  · exact absurd c.1 z.2.1
theorem w_16 {xu xi xv : Int} (hxu : -2147483648 ≤ xu ∧ xu < 2147483648) (hxi : -2147483648 ≤ xi ∧ xi < 2147483648) (hxv : -9223372036854775808 ≤ xv ∧ xv < 9223372036854775808) (h : Inv J K) : q_16 xs L (d + 1700) xu xi xv J K (fun r J1 K1 => q_171 xs L (d + 1700) xu xi xv J1 K1 (fun r2 J2 K2 => r = r2 ∧ Inv J2 K2)) := by
  obtain ⟨T, s, A, H, B, R, y, p, c, m⟩ := h
  have h24 := c.1.2.1.1
  refine c_16 h24 p.2.1 c.2.2.2.1 hxu hxi hxv (fun n => m_171 h24 p.2.1 (I_r m).2.2.1 hxu hxi hxv (fun _ => ⟨rfl, ?_⟩) (fun z => absurd z n)) (fun z K1 F1 r1 => m_171 h24 p.2.1 (I_H m F1).2.2.1 hxu hxi hxv (fun n => absurd z n) (fun _ K2 F2 r2 => ⟨rfl, I_HH ⟨p.1, sn_ok p.2.1 hxv z, p.2.2⟩ c m F1 r1 F2 r2⟩))
  have e := sn_j n
  rw [e.2]
  exact I_rr p c m e.1
theorem w_26 {xu xv : Int} (hxu : -2147483648 ≤ xu ∧ xu < 2147483648) (hxv : -2147483648 ≤ xv ∧ xv < 2147483648) (h : Inv J K) : q_26 xs L (d + 1700) xu xv J K (fun r J1 K1 => q_177 xs L (d + 1700) xu xv J1 K1 (fun r2 J2 K2 => r = r2 ∧ Inv J2 K2)) := by
  obtain ⟨T, s, A, H, B, R, y, p, c, m⟩ := h
  refine c_26 c.1 c.2.2.2.1 hxu hxv (fun n => m_177 (I_r (j := 0) m).1 (I_r (j := 0) m).2.2.1 hxu hxv (fun _ => ⟨rfl, (I_rr (j := 0) p c m (by omega))⟩) (fun z => absurd z n)) (fun z J1 F1 r1 => m_177 (I_H m F1).1 (I_H m F1).2.2.1 hxu hxv (fun n => absurd z n) (fun _ J2 F2 r2 => ⟨rfl, I_HH ⟨p.1, zH_ok_up p.2.1 ?_, p.2.2⟩ c m F1 r1 F2 r2⟩))
  show (if xv = -1 then -1 else 10 + xv) = -1 ∨ (0 ≤ (if xv = -1 then -1 else 10 + xv) ∧ (if xv = -1 then -1 else 10 + xv) ≤ 4 ∧ _) ∨ (10 ≤ (if xv = -1 then -1 else 10 + xv) ∧ (if xv = -1 then -1 else 10 + xv) < 10 + (A.1 : Int))
  by_cases q : xv = -1
  · rw [if_pos q]
    exact .inl rfl
  · rw [if_neg q]
    exact .inr (.inr (by omega))
theorem cx_j {H : zH} {t v i j n : Int} (h : ¬ zq_cx H t v i j n = 0) : (-2 - zq_cx H t v i j n).toNat < 5 ∧ (-(zq_cx H t v i j n)).toNat = (-2 - zq_cx H t v i j n).toNat + 2 := by
  have : zq_cx H t v i j n = 0 ∨ zq_cx H t v i j n = -2 ∨ zq_cx H t v i j n = -3 ∨ zq_cx H t v i j n = -4 := by
    unfold zq_cx
    repeat' split
    all_goals omega
  omega
theorem w_22 {xp xq xi xj xn : Int} (hxp : -2147483648 ≤ xp ∧ xp < 2147483648) (hxq : -2147483648 ≤ xq ∧ xq < 2147483648) (hxi : -2147483648 ≤ xi ∧ xi < 2147483648) (hxj : -2147483648 ≤ xj ∧ xj < 2147483648) (hxn : -2147483648 ≤ xn ∧ xn < 2147483648) (h : Inv J K) : q_22 xs L (d + 1700) xp xq xi xj xn J K (fun r J1 K1 => q_174 xs L (d + 1700) xp xq xi xj xn J1 K1 (fun r2 J2 K2 => r = r2 ∧ Inv J2 K2)) := by
  obtain ⟨T, s, A, H, B, R, y, p, c, m⟩ := h
  have h24 := c.1.2.1.1
  refine c_22 h24 p.2.1 c.2.2.2.1 hxp hxq hxi hxj hxn (fun n => m_174 h24 p.2.1 (I_r m).2.2.1 hxp hxq hxi hxj hxn (fun _ => ⟨rfl, ?_⟩) (fun z => absurd z n)) (fun z g K1 F1 r1 => m_174 h24 p.2.1 (I_H m F1).2.2.1 hxp hxq hxi hxj hxn (fun n => absurd z n) (fun _ K2 F2 r2 => ⟨rfl, I_HH ⟨p.1, g.2, p.2.2⟩ c m F1 r1 F2 r2⟩))
  have e := cx_j n
  rw [e.2]
  exact I_rr p c m e.1
theorem w_56 {xw : Int} (hxw : -2147483648 ≤ xw ∧ xw < 2147483648) (h : Inv J K) : q_56 xs L (d + 1700) xw J K (fun r J1 K1 => q_200 xs L (d + 1700) xw J1 K1 (fun r2 J2 K2 => r = r2 ∧ Inv J2 K2)) := by
  obtain ⟨T, s, A, H, B, R, y, p, c, m⟩ := h
  exact c_56 c.1 hxw (fun n => m_200 (I_r (j := 0) m).1 hxw (fun _ => ⟨rfl, (I_rr (j := 0) p c m (by omega))⟩) (fun z => absurd z n) (fun z => absurd z n)) (fun z n2 => m_200 (I_r (j := 4) m).1 hxw (fun n => absurd z n) (fun _ _ => ⟨rfl, I_rr (j := 4) p c m (by omega)⟩) (fun _ z2 => absurd z2 n2)) (fun z z2 J1 F1 Q1 => m_200 (I_T m F1).1 hxw (fun n => absurd z n) (fun _ n2 => absurd z2 n2) (fun _ _ J2 F2 Q2 => ⟨rfl, I_TT (T' := zT_w T xw) ⟨p.1, p.2⟩ c m F1 Q1 F2 Q2⟩))
theorem w_60 {xw : Int} (hxw : -2147483648 ≤ xw ∧ xw < 2147483648) (h : Inv J K) : q_60 xs L (d + 1700) xw J K (fun r J1 K1 => q_202 xs L (d + 1700) xw J1 K1 (fun r2 J2 K2 => r = r2 ∧ Inv J2 K2)) := by
  obtain ⟨T, s, A, H, B, R, y, p, c, m⟩ := h
  exact c_60 c.1 hxw (fun n => m_202 (I_r (j := 0) m).1 hxw (fun _ => ⟨rfl, (I_rr (j := 0) p c m (by omega))⟩) (fun z => absurd z n) (fun z => absurd z n)) (fun z n2 => m_202 (I_r (j := 3) m).1 hxw (fun n => absurd z n) (fun _ _ => ⟨rfl, I_rr (j := 3) p c m (by omega)⟩) (fun _ z2 => absurd z2 n2)) (fun z z2 J1 F1 Q1 => m_202 (I_T m F1).1 hxw (fun n => absurd z n) (fun _ n2 => absurd z2 n2) (fun _ _ J2 F2 Q2 => ⟨rfl, I_TT (T' := zT_e T xw) ⟨p.1, p.2⟩ c m F1 Q1 F2 Q2⟩))
theorem w_63 {xp xw : Int} (hxp : -2147483648 ≤ xp ∧ xp < 2147483648) (hxw : -2147483648 ≤ xw ∧ xw < 2147483648) (h : Inv J K) : q_63 xs L (d + 1700) xp xw J K (fun r J1 K1 => q_203 xs L (d + 1700) xp xw J1 K1 (fun r2 J2 K2 => r = r2 ∧ Inv J2 K2)) := by
  obtain ⟨T, s, A, H, B, R, y, p, c, m⟩ := h
  exact c_63 c.1 hxp hxw (fun n => m_203 (I_r (j := 0) m).1 hxp hxw (fun _ => ⟨rfl, (I_rr (j := 0) p c m (by omega))⟩) (fun z => absurd z n)) (fun z J1 F1 Q1 => m_203 (I_T m F1).1 hxp hxw (fun n => absurd z n) (fun _ J2 F2 Q2 => ⟨rfl, I_TT (T' := zT_c T xp.toNat xw) ⟨p.1, p.2⟩ c m F1 Q1 F2 Q2⟩))
theorem w_65 {xa xb xv : Int} (hxa : -2147483648 ≤ xa ∧ xa < 2147483648) (hxb : -2147483648 ≤ xb ∧ xb < 2147483648) (hxv : -2147483648 ≤ xv ∧ xv < 2147483648) (h : Inv J K) : q_65 xs L (d + 1700) xa xb xv J K (fun r J1 K1 => q_205 xs L (d + 1700) xa xb xv J1 K1 (fun r2 J2 K2 => r = r2 ∧ Inv J2 K2)) := by
  obtain ⟨T, s, A, H, B, R, y, p, c, m⟩ := h
  refine c_65 c.1 hxa hxb hxv (fun n => m_205 (I_r (j := 0) m).1 hxa hxb hxv (fun _ => ⟨rfl, (I_rr (j := 0) p c m (by omega))⟩) (fun z => absurd z n)) (fun z J1 F1 Q1 => m_205 (I_T m F1).1 hxa hxb hxv (fun n => absurd z n) (fun _ J2 F2 Q2 => ⟨rfl, I_TT ⟨zT_s_sb p.1 ?_, p.2⟩ c m F1 Q1 F2 Q2⟩))
  obtain ⟨⟨a0, a1⟩, ⟨b0, b1⟩, -, v⟩ := z
  obtain ⟨b, rfl⟩ : ∃ b : Nat, xb = (b : Int) := ⟨xb.toNat, by omega⟩
  exact zq_ss_s (p.1 xa.toNat (by omega)) (by omega) v
theorem w_66 {xb : Int} (hxb : -2147483648 ≤ xb ∧ xb < 2147483648) (h : Inv J K) : q_66 xs L (d + 1700) xb J K (fun r J1 K1 => q_206 xs L (d + 1700) xb J1 K1 (fun r2 J2 K2 => r = r2 ∧ Inv J2 K2)) := by
  obtain ⟨T, s, A, H, B, R, y, p, c, m⟩ := h
  exact c_66 p.2.2.1 c.2.2.2.2.1 hxb (fun n => m_206 p.2.2.1 (I_r (j := 0) m).2.2.2.1 hxb (fun _ => ⟨rfl, (I_rr (j := 0) p c m (by omega))⟩) (fun z => absurd z n) (fun z => absurd z n)) (fun z n2 => m_206 p.2.2.1 (I_r (j := 4) m).2.2.2.1 hxb (fun n => absurd z n) (fun _ _ => ⟨rfl, I_rr (j := 4) p c m (by omega)⟩) (fun _ z2 => absurd z2 n2)) (fun z z2 J1 F1 r1 => m_206 p.2.2.1 (I_B m F1).2.2.2.1 hxb (fun n => absurd z n) (fun _ n2 => absurd z2 n2) (fun _ _ J2 F2 r2 => ⟨rfl, I_BB ⟨p.1, p.2.1, zB_f_ok p.2.2.1 z z2, p.2.2.2⟩ c m F1 r1 F2 r2⟩))
theorem w_68 (h : Inv J K) : q_68 xs L (d + 1700)  J K (fun r J1 K1 => q_207 xs L (d + 1700)  J1 K1 (fun r2 J2 K2 => r = r2 ∧ Inv J2 K2)) := by
  obtain ⟨T, s, A, H, B, R, y, p, c, m⟩ := h
  exact c_68 c.2.2.2.2.1 (fun J1 F1 r1 => m_207 (I_B m F1).2.2.2.1 (fun J2 F2 r2 => ⟨rfl, I_BB ⟨p.1, p.2.1, zB_0_ok, p.2.2.2⟩ c m F1 r1 F2 r2⟩))
theorem w_97 {xw : Int} (hxw : -2147483648 ≤ xw ∧ xw < 2147483648) (h : Inv J K) : q_97 xs L (d + 1700) xw J K (fun r J1 K1 => q_226 xs L (d + 1700) xw J1 K1 (fun r2 J2 K2 => r = r2 ∧ Inv J2 K2)) := by
  obtain ⟨T, s, A, H, B, R, y, p, c, m⟩ := h
  exact c_97 c.1 c.2.1 hxw (fun n => m_226 (I_r (j := 0) m).1 hxw (fun _ => ⟨rfl, (I_rr (j := 0) p c m (by omega))⟩) (fun z => absurd z n) (fun z => absurd z n)) (fun z n2 => m_226 (I_r (j := 4) m).1 hxw (fun n => absurd z n) (fun _ _ => ⟨rfl, I_rr (j := 4) p c m (by omega)⟩) (fun _ z2 => absurd z2 n2)) (fun z z2 J1 F1 Q1 S1 => m_226 (I_A z2 m F1).1 hxw (fun n => absurd z n) (fun _ n2 => absurd z2 n2) (fun _ _ J2 F2 Q2 => ⟨rfl, I_AA z2 (pI_A p) c m F1 Q1 S1 F2 Q2⟩))
theorem w_104 {xw : Int} (hxw : -2147483648 ≤ xw ∧ xw < 2147483648) (h : Inv J K) : q_104 xs L (d + 1700) xw J K (fun r J1 K1 => q_231 xs L (d + 1700) xw J1 K1 (fun r2 J2 K2 => r = r2 ∧ Inv J2 K2)) := by
  obtain ⟨T, s, A, H, B, R, y, p, c, m⟩ := h
  exact c_104 c.1 c.2.1 hxw (fun n => m_231 (I_r (j := 0) m).1 hxw (fun _ => ⟨rfl, (I_rr (j := 0) p c m (by omega))⟩) (fun z => absurd z n) (fun z => absurd z n)) (fun z n2 => m_231 (I_r (j := 4) m).1 hxw (fun n => absurd z n) (fun _ _ => ⟨rfl, I_rr (j := 4) p c m (by omega)⟩) (fun _ z2 => absurd z2 n2)) (fun z z2 J1 F1 Q1 S1 => m_231 (I_A z2 m F1).1 hxw (fun n => absurd z n) (fun _ n2 => absurd z2 n2) (fun _ _ J2 F2 Q2 => ⟨rfl, I_AA z2 (pI_A p) c m F1 Q1 S1 F2 Q2⟩))
theorem w_102 {xk xa xb : Int} (hxk : -2147483648 ≤ xk ∧ xk < 2147483648) (hxa : -2147483648 ≤ xa ∧ xa < 2147483648) (hxb : -2147483648 ≤ xb ∧ xb < 2147483648) (h : Inv J K) : q_102 xs L (d + 1700) xk xa xb J K (fun r J1 K1 => q_230 xs L (d + 1700) xk xa xb J1 K1 (fun r2 J2 K2 => r = r2 ∧ Inv J2 K2)) := by
  obtain ⟨T, s, A, H, B, R, y, p, c, m⟩ := h
  exact c_102 c.1 c.2.1 hxk hxa hxb (fun n => m_230 (I_r (j := 0) m).1 hxk hxa hxb (fun _ => ⟨rfl, (I_rr (j := 0) p c m (by omega))⟩) (fun z => absurd z n) (fun z => absurd z n)) (fun z n2 => m_230 (I_r (j := 4) m).1 hxk hxa hxb (fun n => absurd z n) (fun _ _ => ⟨rfl, I_rr (j := 4) p c m (by omega)⟩) (fun _ z2 => absurd z2 n2)) (fun z z2 J1 F1 Q1 S1 => m_230 (I_A z2 m F1).1 hxk hxa hxb (fun n => absurd z n) (fun _ n2 => absurd z2 n2) (fun _ _ J2 F2 Q2 => ⟨rfl, I_AA z2 (pI_A p) c m F1 Q1 S1 F2 Q2⟩))
theorem w_105 {xa xn : Int} (hxa : -2147483648 ≤ xa ∧ xa < 2147483648) (hxn : -2147483648 ≤ xn ∧ xn < 2147483648) (h : Inv J K) : q_105 xs L (d + 1700) xa xn J K (fun r J1 K1 => q_232 xs L (d + 1700) xa xn J1 K1 (fun r2 J2 K2 => r = r2 ∧ Inv J2 K2)) := by
  obtain ⟨T, s, A, H, B, R, y, p, c, m⟩ := h
  exact c_105 c.1 c.2.1 hxa hxn (fun n => m_232 (I_r (j := 0) m).1 hxa hxn (fun _ => ⟨rfl, (I_rr (j := 0) p c m (by omega))⟩) (fun z => absurd z n) (fun z => absurd z n)) (fun z n2 => m_232 (I_r (j := 4) m).1 hxa hxn (fun n => absurd z n) (fun _ _ => ⟨rfl, I_rr (j := 4) p c m (by omega)⟩) (fun _ z2 => absurd z2 n2)) (fun z z2 J1 F1 Q1 S1 => m_232 (I_A z2 m F1).1 hxa hxn (fun n => absurd z n) (fun _ n2 => absurd z2 n2) (fun _ _ J2 F2 Q2 => ⟨rfl, I_AA z2 (pI_A p) c m F1 Q1 S1 F2 Q2⟩))
theorem w_106 {xk xa xb xe : Int} (hxk : -2147483648 ≤ xk ∧ xk < 2147483648) (hxa : -2147483648 ≤ xa ∧ xa < 2147483648) (hxb : -2147483648 ≤ xb ∧ xb < 2147483648) (hxe : -2147483648 ≤ xe ∧ xe < 2147483648) (h : Inv J K) : q_106 xs L (d + 1700) xk xa xb xe J K (fun r J1 K1 => q_233 xs L (d + 1700) xk xa xb xe J1 K1 (fun r2 J2 K2 => r = r2 ∧ Inv J2 K2)) := by
  obtain ⟨T, s, A, H, B, R, y, p, c, m⟩ := h
  exact c_106 c.1 c.2.1 hxk hxa hxb hxe (fun n => m_233 (I_r (j := 0) m).1 hxk hxa hxb hxe (fun _ => ⟨rfl, (I_rr (j := 0) p c m (by omega))⟩) (fun z => absurd z n) (fun z => absurd z n)) (fun z n2 => m_233 (I_r (j := 4) m).1 hxk hxa hxb hxe (fun n => absurd z n) (fun _ _ => ⟨rfl, I_rr (j := 4) p c m (by omega)⟩) (fun _ z2 => absurd z2 n2)) (fun z z2 J1 F1 Q1 S1 => m_233 (I_A z2 m F1).1 hxk hxa hxb hxe (fun n => absurd z n) (fun _ n2 => absurd z2 n2) (fun _ _ J2 F2 Q2 => ⟨rfl, I_AA z2 (pI_A p) c m F1 Q1 S1 F2 Q2⟩))
theorem w_101 {xu xn : Int} (hxu : -2147483648 ≤ xu ∧ xu < 2147483648) (hxn : -2147483648 ≤ xn ∧ xn < 2147483648) (h : Inv J K) : q_101 xs L (d + 1700) xu xn J K (fun r J1 K1 => q_228 xs L (d + 1700) xu xn J1 K1 (fun r2 J2 K2 => r = r2 ∧ Inv J2 K2)) := by
  obtain ⟨T, s, A, H, B, R, y, p, c, m⟩ := h
  refine c_101 c.1 c.2.1 p.2.1 c.2.2.2.1 hxu hxn (fun n => m_228 (I_r (j := 0) m).1 p.2.1 (I_r (j := 0) m).2.2.1 hxu hxn (fun _ => ⟨rfl, (I_rr (j := 0) p c m (by omega))⟩) (fun z => absurd z n) (fun z => absurd z n) (fun z => absurd z n) (fun z => absurd z n)) (fun z n1 => m_228 (I_r m).1 p.2.1 (I_r m).2.2.1 hxu hxn (fun n => absurd z n) (fun _ _ => ⟨rfl, ?_⟩) (fun _ z1 => absurd z1 n1) (fun _ z1 => absurd z1 n1) (fun _ z1 => absurd z1 n1)) (fun z z1 n2 => m_228 (I_r (j := 3) m).1 p.2.1 (I_r (j := 3) m).2.2.1 hxu hxn (fun n => absurd z n) (fun _ n1 => absurd z1 n1) (fun _ _ _ => ⟨rfl, I_rr (j := 3) p c m (by omega)⟩) (fun _ _ z2 => absurd z2 n2) (fun _ _ z2 => absurd z2 n2)) (fun z z1 z2 n3 => m_228 (I_r (j := 4) m).1 p.2.1 (I_r (j := 4) m).2.2.1 hxu hxn (fun n => absurd z n) (fun _ n1 => absurd z1 n1) (fun _ _ n2 => absurd z2 n2) (fun _ _ _ _ => ⟨rfl, I_rr (j := 4) p c m (by omega)⟩) (fun _ _ _ z3 => absurd z3 n3)) (fun z z1 z2 z3 J1 F1 Q1 S1 => m_228 (I_A z3 m F1).1 p.2.1 (I_A z3 m F1).2.2.1 hxu hxn (fun n => absurd z n) (fun _ n1 => absurd z1 n1) (fun _ _ n2 => absurd z2 n2) (fun _ _ _ n3 => absurd z3 n3) (fun _ _ _ _ J2 F2 Q2 => ⟨rfl, I_AA z3 (pI_A p) c m F1 Q1 S1 F2 Q2⟩))
  have e := rf_j n1
  rw [e.2]
  exact I_rr p c m e.1
theorem w_107 (h : Inv J K) : q_107 xs L (d + 1700)  J K (fun r J1 K1 => q_234 xs L (d + 1700)  J1 K1 (fun r2 J2 K2 => r = r2 ∧ Inv J2 K2)) := by
  obtain ⟨T, s, A, H, B, R, y, p, c, m⟩ := h
  refine c_107 c.1 c.2.1 p.2.1 c.2.2.2.1 (fun n => m_234 (I_r (j := 3) m).1 p.2.1 (I_r (j := 3) m).2.2.1 (fun _ => ⟨rfl, I_rr (j := 3) p c m (by omega)⟩) (fun z => absurd n z)) (fun z J1 F1 Q1 S1 r1 => ?_)
  have m0 : mI J1 K T s A H B R y := mI_o m (fun x hx => F1 x (by omega) (by omega) (by omega)) (fun x hx => rfl)
  refine m_234 m0.1 p.2.1 m0.2.2.1 (fun n => absurd n z) (fun _ J2 F2 G2 Q2 r2 => ⟨rfl, ?_⟩)
  have c1 : cI J1 K T s (zA_d A) (zH_k (A.1 - 1) H 8) B R y := by
    obtain ⟨Q, S, hs, hH, hB, hR, hy⟩ := c
    exact ⟨Q1, S1, by rw [F1 1 (by omega) (by omega) (by omega)]; exact hs, r1, ⟨by rw [F1 144 (by omega) (by omega) (by omega)]; exact hB.1, fun i hi => by rw [F1 145 (by omega) (by omega) (by omega)]; exact hB.2 i hi⟩, fun k hk => by rw [F1 150 (by omega) (by omega) (by omega)]; exact hR k hk, cKp_of hy p.2.2.2 (by rw [F1 0 (by omega) (by omega) (by omega)]) (fun x hx => F1 x (by omega) (by omega) (by omega))⟩
  have m1 : mI J2 K T s (zA_d A) (zH_k (A.1 - 1) H 8) B R y := by
    obtain ⟨Q, hs, hH, hB, hR, hy⟩ := m0
    exact ⟨Q2, by rw [G2 11 (by omega)]; exact hs, r2, ⟨by rw [G2 7 (by omega)]; exact hB.1, fun i hi => by rw [F2 182 (by omega) (by omega)]; exact hB.2 i hi⟩, fun k hk => by rw [F2 183 (by omega) (by omega)]; exact hR k hk, mKp_of hy (fun k hk => G2 k (by omega)) (fun x hx => F2 x (by omega) (by omega))⟩
  exact ⟨T, s, zA_d A, zH_k (A.1 - 1) H 8, B, R, y, ⟨p.1, zH_k8_ok p.2.1, p.2.2⟩, cI_o c1 p.2.2.2 (fun x hx => F2 x (by omega) (by omega)) (fun x hx => rfl), m1⟩
theorem w_153 {xn : Int} (hxn : -2147483648 ≤ xn ∧ xn < 2147483648) (h : Inv J K) : q_153 xs L (d + 1700) xn J K (fun r J1 K1 => q_275 xs L (d + 1700) xn J1 K1 (fun r2 J2 K2 => r = r2 ∧ Inv J2 K2)) := by
  obtain ⟨T, s, A, H, B, R, y, p, c, m⟩ := h
  exact c_153 c.1 c.2.2.1 hxn (fun n => m_275 (I_r (j := 0) m).1 (I_r (j := 0) m).2.1 hxn (fun _ => ⟨rfl, (I_rr (j := 0) p c m (by omega))⟩) (fun z => absurd z n) p.1) (fun z J1 F1 Q1 h1 _ => m_275 (I_D m F1).1 (I_D m F1).2.1 hxn (fun n => absurd z n) (fun _ J2 F2 Q2 h2 => ⟨rfl, I_DD ⟨(zD_n_ok xn.toNat (T, s) c.1.1 p.1).2, p.2⟩ c m F1 Q1 h1 F2 Q2 h2⟩) p.1) p.1
theorem w_156 {xv : Int} (hxv : -2147483648 ≤ xv ∧ xv < 2147483648) (h : Inv J K) : q_156 xs L (d + 1700) xv J K (fun r J1 K1 => q_277 xs L (d + 1700) xv J1 K1 (fun r2 J2 K2 => r = r2 ∧ Inv J2 K2)) := by
  obtain ⟨T, s, A, H, B, R, y, p, c, m⟩ := h
  have m0 : mI (jm_up J 1 4 xv) K T s A H B R y := mI_o m (fun x hx => zu_row (by omega)) (fun x hx => rfl)
  exact c_156 c.2.2.1 (m_277 m0.2.1 ⟨rfl, I_S p c m⟩)
end WC
