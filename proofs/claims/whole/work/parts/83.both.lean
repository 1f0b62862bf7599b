/-! Class and reference side by side: queries. -/
section WQ
variable {xs : Nat → Int32} {L d : Nat} {J K : jZ}
theorem w_113 {xa : Int} (hxa : -2147483648 ≤ xa ∧ xa < 2147483648) (h : Inv J K) : q_113 xs L (d + 1700) xa J K (fun r J1 K1 => q_241 xs L (d + 1700) xa J1 K1 (fun r2 J2 K2 => r = r2 ∧ Inv J2 K2)) := by
  obtain ⟨T, s, A, H, B, R, y, p, c, m⟩ := h
  exact c_113 c.1 hxa (fun n => m_241 (I_r (j := 0) m).1 hxa (fun _ => ⟨rfl, (I_rr (j := 0) p c m (by omega))⟩) (fun z => absurd z n)) (fun z J1 F1 Q1 => m_241 (I_F m F1).1 hxa (fun n => absurd z n) (fun _ J2 F2 Q2 => ⟨rfl, I_FF p c m F1 Q1 F2 Q2⟩))
theorem w_119 {xa xp : Int} (hxa : -2147483648 ≤ xa ∧ xa < 2147483648) (hxp : -2147483648 ≤ xp ∧ xp < 2147483648) (h : Inv J K) : q_119 xs L (d + 1700) xa xp J K (fun r J1 K1 => q_245 xs L (d + 1700) xa xp J1 K1 (fun r2 J2 K2 => r = r2 ∧ Inv J2 K2)) := by
  obtain ⟨T, s, A, H, B, R, y, p, c, m⟩ := h
  exact c_119 c.1 hxa hxp (fun n => m_245 (I_r (j := 0) m).1 hxa hxp (fun _ => ⟨rfl, (I_rr (j := 0) p c m (by omega))⟩) (fun z => absurd z n)) (fun z J1 F1 Q1 => m_245 (I_F m F1).1 hxa hxp (fun n => absurd z n) (fun _ J2 F2 Q2 => ⟨rfl, I_FF p c m F1 Q1 F2 Q2⟩))
theorem w_121 {xa : Int} (hxa : -2147483648 ≤ xa ∧ xa < 2147483648) (h : Inv J K) : q_121 xs L (d + 1700) xa J K (fun r J1 K1 => q_247 xs L (d + 1700) xa J1 K1 (fun r2 J2 K2 => r = r2 ∧ Inv J2 K2)) := by
  obtain ⟨T, s, A, H, B, R, y, p, c, m⟩ := h
  exact c_121 c.1 hxa (fun n => m_247 (I_r (j := 0) m).1 hxa (fun _ => ⟨rfl, (I_rr (j := 0) p c m (by omega))⟩) (fun z => absurd z n)) (fun z J1 F1 Q1 => m_247 (I_F m F1).1 hxa (fun n => absurd z n) (fun _ J2 F2 Q2 => ⟨rfl, I_FF p c m F1 Q1 F2 Q2⟩))
theorem w_122 {xa xw : Int} (hxa : -2147483648 ≤ xa ∧ xa < 2147483648) (hxw : -2147483648 ≤ xw ∧ xw < 2147483648) (h : Inv J K) : q_122 xs L (d + 1700) xa xw J K (fun r J1 K1 => q_248 xs L (d + 1700) xa xw J1 K1 (fun r2 J2 K2 => r = r2 ∧ Inv J2 K2)) := by
  obtain ⟨T, s, A, H, B, R, y, p, c, m⟩ := h
  exact c_122 c.1 hxa hxw (fun n => m_248 (I_r (j := 0) m).1 hxa hxw (fun _ => ⟨rfl, (I_rr (j := 0) p c m (by omega))⟩) (fun z => absurd z n)) (fun z J1 F1 Q1 => m_248 (I_F m F1).1 hxa hxw (fun n => absurd z n) (fun _ J2 F2 Q2 => ⟨rfl, I_FF p c m F1 Q1 F2 Q2⟩))
theorem w_123 {xa xw : Int} (hxa : -2147483648 ≤ xa ∧ xa < 2147483648) (hxw : -2147483648 ≤ xw ∧ xw < 2147483648) (h : Inv J K) : q_123 xs L (d + 1700) xa xw J K (fun r J1 K1 => q_249 xs L (d + 1700) xa xw J1 K1 (fun r2 J2 K2 => r = r2 ∧ Inv J2 K2)) := by
  obtain ⟨T, s, A, H, B, R, y, p, c, m⟩ := h
  exact c_123 c.1 hxa hxw (fun n => m_249 (I_r (j := 0) m).1 hxa hxw (fun _ => ⟨rfl, (I_rr (j := 0) p c m (by omega))⟩) (fun z => absurd z n)) (fun z J1 F1 Q1 => m_249 (I_F m F1).1 hxa hxw (fun n => absurd z n) (fun _ J2 F2 Q2 => ⟨rfl, I_FF p c m F1 Q1 F2 Q2⟩))
theorem w_128 {xa xp : Int} (hxa : -2147483648 ≤ xa ∧ xa < 2147483648) (hxp : -2147483648 ≤ xp ∧ xp < 2147483648) (h : Inv J K) : q_128 xs L (d + 1700) xa xp J K (fun r J1 K1 => q_253 xs L (d + 1700) xa xp J1 K1 (fun r2 J2 K2 => r = r2 ∧ Inv J2 K2)) := by
  obtain ⟨T, s, A, H, B, R, y, p, c, m⟩ := h
  exact c_128 c.1 hxa hxp (fun n => m_253 (I_r (j := 0) m).1 hxa hxp (fun _ => ⟨rfl, (I_rr (j := 0) p c m (by omega))⟩) (fun z => absurd z n)) (fun z J1 F1 Q1 => m_253 (I_F m F1).1 hxa hxp (fun n => absurd z n) (fun _ J2 F2 Q2 => ⟨rfl, I_FF p c m F1 Q1 F2 Q2⟩))
theorem w_133 {xa xn xw : Int} (hxa : -2147483648 ≤ xa ∧ xa < 2147483648) (hxn : -2147483648 ≤ xn ∧ xn < 2147483648) (hxw : -2147483648 ≤ xw ∧ xw < 2147483648) (h : Inv J K) : q_133 xs L (d + 1700) xa xn xw J K (fun r J1 K1 => q_257 xs L (d + 1700) xa xn xw J1 K1 (fun r2 J2 K2 => r = r2 ∧ Inv J2 K2)) := by
  obtain ⟨T, s, A, H, B, R, y, p, c, m⟩ := h
  exact c_133 c.1 hxa hxn hxw (fun n => m_257 (I_r (j := 0) m).1 hxa hxn hxw (fun _ => ⟨rfl, (I_rr (j := 0) p c m (by omega))⟩) (fun z => absurd z n)) (fun z J1 F1 Q1 => m_257 (I_F m F1).1 hxa hxn hxw (fun n => absurd z n) (fun _ J2 F2 Q2 => ⟨rfl, I_FF p c m F1 Q1 F2 Q2⟩))
theorem w_135 {xa xb : Int} (hxa : -2147483648 ≤ xa ∧ xa < 2147483648) (hxb : -2147483648 ≤ xb ∧ xb < 2147483648) (h : Inv J K) : q_135 xs L (d + 1700) xa xb J K (fun r J1 K1 => q_258 xs L (d + 1700) xa xb J1 K1 (fun r2 J2 K2 => r = r2 ∧ Inv J2 K2)) := by
  obtain ⟨T, s, A, H, B, R, y, p, c, m⟩ := h
  exact c_135 c.1 hxa hxb (fun n => m_258 (I_r (j := 0) m).1 hxa hxb (fun _ => ⟨rfl, (I_rr (j := 0) p c m (by omega))⟩) (fun z => absurd z n)) (fun z J1 F1 Q1 => m_258 (I_F m F1).1 hxa hxb (fun n => absurd z n) (fun _ J2 F2 Q2 => ⟨rfl, I_FF p c m F1 Q1 F2 Q2⟩))
theorem w_136 {xa xb xw : Int} (hxa : -2147483648 ≤ xa ∧ xa < 2147483648) (hxb : -2147483648 ≤ xb ∧ xb < 2147483648) (hxw : -2147483648 ≤ xw ∧ xw < 2147483648) (h : Inv J K) : q_136 xs L (d + 1700) xa xb xw J K (fun r J1 K1 => q_259 xs L (d + 1700) xa xb xw J1 K1 (fun r2 J2 K2 => r = r2 ∧ Inv J2 K2)) := by
  obtain ⟨T, s, A, H, B, R, y, p, c, m⟩ := h
  exact c_136 c.1 hxa hxb hxw (fun n => m_259 (I_r (j := 0) m).1 hxa hxb hxw (fun _ => ⟨rfl, (I_rr (j := 0) p c m (by omega))⟩) (fun z => absurd z n)) (fun z J1 F1 Q1 => m_259 (I_F m F1).1 hxa hxb hxw (fun n => absurd z n) (fun _ J2 F2 Q2 => ⟨rfl, I_FF p c m F1 Q1 F2 Q2⟩))
theorem w_138 {xa xb : Int} (hxa : -2147483648 ≤ xa ∧ xa < 2147483648) (hxb : -2147483648 ≤ xb ∧ xb < 2147483648) (h : Inv J K) : q_138 xs L (d + 1700) xa xb J K (fun r J1 K1 => q_261 xs L (d + 1700) xa xb J1 K1 (fun r2 J2 K2 => r = r2 ∧ Inv J2 K2)) := by
  obtain ⟨T, s, A, H, B, R, y, p, c, m⟩ := h
  exact c_138 c.1 hxa hxb (fun n => m_261 (I_r (j := 0) m).1 hxa hxb (fun _ => ⟨rfl, (I_rr (j := 0) p c m (by omega))⟩) (fun z => absurd z n)) (fun z J1 F1 Q1 => m_261 (I_F m F1).1 hxa hxb (fun n => absurd z n) (fun _ J2 F2 Q2 => ⟨rfl, I_FF p c m F1 Q1 F2 Q2⟩))
theorem w_141 {xa : Int} (hxa : -2147483648 ≤ xa ∧ xa < 2147483648) (h : Inv J K) : q_141 xs L (d + 1700) xa J K (fun r J1 K1 => q_264 xs L (d + 1700) xa J1 K1 (fun r2 J2 K2 => r = r2 ∧ Inv J2 K2)) := by
  obtain ⟨T, s, A, H, B, R, y, p, c, m⟩ := h
  exact c_141 c.1 hxa (fun n => m_264 (I_r (j := 0) m).1 hxa (fun _ => ⟨rfl, (I_rr (j := 0) p c m (by omega))⟩) (fun z => absurd z n)) (fun z J1 F1 Q1 => m_264 (I_F m F1).1 hxa (fun n => absurd z n) (fun _ J2 F2 Q2 => ⟨rfl, I_FF p c m F1 Q1 F2 Q2⟩))
theorem w_142 {xa xw : Int} (hxa : -2147483648 ≤ xa ∧ xa < 2147483648) (hxw : -2147483648 ≤ xw ∧ xw < 2147483648) (h : Inv J K) : q_142 xs L (d + 1700) xa xw J K (fun r J1 K1 => q_266 xs L (d + 1700) xa xw J1 K1 (fun r2 J2 K2 => r = r2 ∧ Inv J2 K2)) := by
  obtain ⟨T, s, A, H, B, R, y, p, c, m⟩ := h
  exact c_142 c.1 hxa hxw (fun n => m_266 (I_r (j := 0) m).1 hxa hxw (fun _ => ⟨rfl, (I_rr (j := 0) p c m (by omega))⟩) (fun z => absurd z n)) (fun z J1 F1 Q1 => m_266 (I_F m F1).1 hxa hxw (fun n => absurd z n) (fun _ J2 F2 Q2 => ⟨rfl, I_FF p c m F1 Q1 F2 Q2⟩))
theorem w_144 {xa xp xw : Int} (hxa : -2147483648 ≤ xa ∧ xa < 2147483648) (hxp : -2147483648 ≤ xp ∧ xp < 2147483648) (hxw : -2147483648 ≤ xw ∧ xw < 2147483648) (h : Inv J K) : q_144 xs L (d + 1700) xa xp xw J K (fun r J1 K1 => q_267 xs L (d + 1700) xa xp xw J1 K1 (fun r2 J2 K2 => r = r2 ∧ Inv J2 K2)) := by
  obtain ⟨T, s, A, H, B, R, y, p, c, m⟩ := h
  exact c_144 c.1 hxa hxp hxw (fun n => m_267 (I_r (j := 0) m).1 hxa hxp hxw (fun _ => ⟨rfl, (I_rr (j := 0) p c m (by omega))⟩) (fun z => absurd z n)) (fun z J1 F1 Q1 => m_267 (I_F m F1).1 hxa hxp hxw (fun n => absurd z n) (fun _ J2 F2 Q2 => ⟨rfl, I_FF p c m F1 Q1 F2 Q2⟩))
theorem w_146 {xa xp : Int} (hxa : -2147483648 ≤ xa ∧ xa < 2147483648) (hxp : -2147483648 ≤ xp ∧ xp < 2147483648) (h : Inv J K) : q_146 xs L (d + 1700) xa xp J K (fun r J1 K1 => q_269 xs L (d + 1700) xa xp J1 K1 (fun r2 J2 K2 => r = r2 ∧ Inv J2 K2)) := by
  obtain ⟨T, s, A, H, B, R, y, p, c, m⟩ := h
  exact c_146 c.1 hxa hxp (fun n => m_269 (I_r (j := 0) m).1 hxa hxp (fun _ => ⟨rfl, (I_rr (j := 0) p c m (by omega))⟩) (fun z => absurd z n)) (fun z J1 F1 Q1 => m_269 (I_F m F1).1 hxa hxp (fun n => absurd z n) (fun _ J2 F2 Q2 => ⟨rfl, I_FF p c m F1 Q1 F2 Q2⟩))
theorem w_116 {xa xp xm : Int} (hxa : -2147483648 ≤ xa ∧ xa < 2147483648) (hxp : -2147483648 ≤ xp ∧ xp < 2147483648) (hxm : -2147483648 ≤ xm ∧ xm < 2147483648) (h : Inv J K) : q_116 xs L (d + 1700) xa xp xm J K (fun r J1 K1 => q_244 xs L (d + 1700) xa xp xm J1 K1 (fun r2 J2 K2 => r = r2 ∧ Inv J2 K2)) := by
  obtain ⟨T, s, A, H, B, R, y, p, c, m⟩ := h
  exact c_116 c.1 hxa hxp hxm (fun n => m_244 (I_r (j := 0) m).1 hxa hxp hxm (fun _ => ⟨rfl, (I_rr (j := 0) p c m (by omega))⟩) (fun z => absurd z n)) (fun z J1 F1 Q1 => m_244 (I_F m F1).1 hxa hxp hxm (fun n => absurd z n) (fun _ J2 F2 Q2 => ⟨rfl, I_FF p c m F1 Q1 F2 Q2⟩))
theorem w_114 {xa xi : Int} (hxa : -2147483648 ≤ xa ∧ xa < 2147483648) (hxi : -2147483648 ≤ xi ∧ xi < 2147483648) (h : Inv J K) : q_114 xs L (d + 1700) xa xi J K (fun r J1 K1 => q_242 xs L (d + 1700) xa xi J1 K1 (fun r2 J2 K2 => r = r2 ∧ Inv J2 K2)) := by
  obtain ⟨T, s, A, H, B, R, y, p, c, m⟩ := h
  exact c_114 c.1 hxa hxi (fun n => m_242 (I_r (j := 0) m).1 hxa hxi (fun _ => ⟨rfl, (I_rr (j := 0) p c m (by omega))⟩) (fun z => absurd z n) (fun z => absurd z n)) (fun z n2 J1 F1 Q1 => m_242 (I_r (j := 0) (I_F m F1)).1 hxa hxi (fun n => absurd z n) (fun _ _ J2 F2 Q2 => ⟨rfl, I_Fr p c m F1 Q1 F2 Q2 (by omega)⟩) (fun _ z2 => absurd z2 n2)) (fun z z2 J1 F1 Q1 => m_242 (I_F m F1).1 hxa hxi (fun n => absurd z n) (fun _ n2 => absurd z2 n2) (fun _ _ J2 F2 Q2 => ⟨rfl, I_FF p c m F1 Q1 F2 Q2⟩))
theorem w_124 {xa xi : Int} (hxa : -2147483648 ≤ xa ∧ xa < 2147483648) (hxi : -2147483648 ≤ xi ∧ xi < 2147483648) (h : Inv J K) : q_124 xs L (d + 1700) xa xi J K (fun r J1 K1 => q_251 xs L (d + 1700) xa xi J1 K1 (fun r2 J2 K2 => r = r2 ∧ Inv J2 K2)) := by
  obtain ⟨T, s, A, H, B, R, y, p, c, m⟩ := h
  exact c_124 c.1 hxa hxi (fun n => m_251 (I_r (j := 0) m).1 hxa hxi (fun _ => ⟨rfl, (I_rr (j := 0) p c m (by omega))⟩) (fun z => absurd z n) (fun z => absurd z n)) (fun z n2 J1 F1 Q1 => m_251 (I_r (j := 0) (I_F m F1)).1 hxa hxi (fun n => absurd z n) (fun _ _ J2 F2 Q2 => ⟨rfl, I_Fr p c m F1 Q1 F2 Q2 (by omega)⟩) (fun _ z2 => absurd n2 z2)) (fun z z2 J1 F1 Q1 => m_251 (I_F m F1).1 hxa hxi (fun n => absurd z n) (fun _ n2 => absurd n2 z2) (fun _ _ J2 F2 Q2 => ⟨rfl, I_FF p c m F1 Q1 F2 Q2⟩))
theorem w_127 {xa xi : Int} (hxa : -2147483648 ≤ xa ∧ xa < 2147483648) (hxi : -2147483648 ≤ xi ∧ xi < 2147483648) (h : Inv J K) : q_127 xs L (d + 1700) xa xi J K (fun r J1 K1 => q_252 xs L (d + 1700) xa xi J1 K1 (fun r2 J2 K2 => r = r2 ∧ Inv J2 K2)) := by
  obtain ⟨T, s, A, H, B, R, y, p, c, m⟩ := h
  exact c_127 c.1 hxa hxi (fun n => m_252 (I_r (j := 0) m).1 hxa hxi (fun _ => ⟨rfl, (I_rr (j := 0) p c m (by omega))⟩) (fun z => absurd z n) (fun z => absurd z n)) (fun z n2 J1 F1 Q1 => m_252 (I_r (j := 0) (I_F m F1)).1 hxa hxi (fun n => absurd z n) (fun _ _ J2 F2 Q2 => ⟨rfl, I_Fr p c m F1 Q1 F2 Q2 (by omega)⟩) (fun _ z2 => absurd n2 z2)) (fun z z2 J1 F1 Q1 => m_252 (I_F m F1).1 hxa hxi (fun n => absurd z n) (fun _ n2 => absurd n2 z2) (fun _ _ J2 F2 Q2 => ⟨rfl, I_FF p c m F1 Q1 F2 Q2⟩))
theorem w_131 {xa xi : Int} (hxa : -2147483648 ≤ xa ∧ xa < 2147483648) (hxi : -2147483648 ≤ xi ∧ xi < 2147483648) (h : Inv J K) : q_131 xs L (d + 1700) xa xi J K (fun r J1 K1 => q_256 xs L (d + 1700) xa xi J1 K1 (fun r2 J2 K2 => r = r2 ∧ Inv J2 K2)) := by
  obtain ⟨T, s, A, H, B, R, y, p, c, m⟩ := h
  refine c_131 c.1 hxa hxi (fun n => m_256 (I_r (j := 0) m).1 hxa hxi (fun _ => ⟨rfl, (I_rr (j := 0) p c m (by omega))⟩) (fun z => absurd z n)) (fun z J1 q F1 Q1 hq eq => m_256 (I_F m F1).1 hxa hxi (fun n => absurd z n) (fun _ J2 q2 F2 Q2 hq2 eq2 => ⟨?_, I_FF p c m F1 Q1 F2 Q2⟩))
  rw [zq_ah_inj hq hq2 (by rw [eq, eq2])]
theorem w_140 {xa : Int} (hxa : -2147483648 ≤ xa ∧ xa < 2147483648) (h : Inv J K) : q_140 xs L (d + 1700) xa J K (fun r J1 K1 => q_263 xs L (d + 1700) xa J1 K1 (fun r2 J2 K2 => r = r2 ∧ Inv J2 K2)) := by
  obtain ⟨T, s, A, H, B, R, y, p, c, m⟩ := h
  refine c_140 c.1 hxa (fun n => m_263 (I_r (j := 0) m).1 hxa (fun _ => ⟨rfl, (I_rr (j := 0) p c m (by omega))⟩) (fun z => absurd z n)) (fun z J1 q F1 Q1 hq => m_263 (I_F m F1).1 hxa (fun n => absurd z n) (fun _ J2 q2 F2 Q2 hq2 => ⟨?_, I_FF p c m F1 Q1 F2 Q2⟩))
  rw [zq_sm_u hq hq2]
theorem rf_j {H : zH} {t n : Int} (h : ¬ zH_rf H t n = 0) : (-2 - zH_rf H t n).toNat < 5 ∧ (-(zH_rf H t n)).toNat = (-2 - zH_rf H t n).toNat + 2 := by
  have := zH_rf_r (H := H) (s := t) (n := n)
  omega
theorem w_149 {xa xu xn : Int} (hxa : -2147483648 ≤ xa ∧ xa < 2147483648) (hxu : -2147483648 ≤ xu ∧ xu < 2147483648) (hxn : -2147483648 ≤ xn ∧ xn < 2147483648) (h : Inv J K) : q_149 xs L (d + 1700) xa xu xn J K (fun r J1 K1 => q_272 xs L (d + 1700) xa xu xn J1 K1 (fun r2 J2 K2 => r = r2 ∧ Inv J2 K2)) := by
  obtain ⟨T, s, A, H, B, R, y, p, c, m⟩ := h
  refine c_149 c.1 p.2.1 c.2.2.2.1 hxa hxu hxn (fun n => m_272 (I_r (j := 0) m).1 p.2.1 (I_r (j := 0) m).2.2.1 hxa hxu hxn (fun _ => ⟨rfl, (I_rr (j := 0) p c m (by omega))⟩) (fun z => absurd z n) (fun z => absurd z n)) (fun z n2 => m_272 (I_r m).1 p.2.1 (I_r m).2.2.1 hxa hxu hxn (fun n => absurd z n) (fun _ _ => ⟨rfl, ?_⟩) (fun _ z2 => absurd z2 n2)) (fun z z2 J1 F1 Q1 => m_272 (I_F m F1).1 p.2.1 (I_F m F1).2.2.1 hxa hxu hxn (fun n => absurd z n) (fun _ n2 => absurd z2 n2) (fun _ _ J2 F2 Q2 => ⟨rfl, I_FF p c m F1 Q1 F2 Q2⟩))
  have e := rf_j n2
  rw [e.2]
  exact I_rr p c m e.1
theorem w_147 {xa xb xu xn : Int} (hxa : -2147483648 ≤ xa ∧ xa < 2147483648) (hxb : -2147483648 ≤ xb ∧ xb < 2147483648) (hxu : -2147483648 ≤ xu ∧ xu < 2147483648) (hxn : -2147483648 ≤ xn ∧ xn < 2147483648) (h : Inv J K) : q_147 xs L (d + 1700) xa xb xu xn J K (fun r J1 K1 => q_270 xs L (d + 1700) xa xb xu xn J1 K1 (fun r2 J2 K2 => r = r2 ∧ Inv J2 K2)) := by
  obtain ⟨T, s, A, H, B, R, y, p, c, m⟩ := h
  refine c_147 c.1 p.2.1 c.2.2.2.1 hxa hxb hxu hxn (fun n => m_270 (I_r (j := 0) m).1 p.2.1 (I_r (j := 0) m).2.2.1 hxa hxb hxu hxn (fun _ => ⟨rfl, (I_rr (j := 0) p c m (by omega))⟩) (fun z => absurd z n) (fun z => absurd z n)) (fun z n2 => m_270 (I_r m).1 p.2.1 (I_r m).2.2.1 hxa hxb hxu hxn (fun n => absurd z n) (fun _ _ => ⟨rfl, ?_⟩) (fun _ z2 => absurd z2 n2)) (fun z z2 J1 F1 Q1 => m_270 (I_F m F1).1 p.2.1 (I_F m F1).2.2.1 hxa hxb hxu hxn (fun n => absurd z n) (fun _ n2 => absurd z2 n2) (fun _ _ J2 F2 Q2 => ⟨rfl, I_FF p c m F1 Q1 F2 Q2⟩))
  have e := rf_j n2
  rw [e.2]
  exact I_rr p c m e.1
theorem w_150 {xa xu xn : Int} (hxa : -2147483648 ≤ xa ∧ xa < 2147483648) (hxu : -2147483648 ≤ xu ∧ xu < 2147483648) (hxn : -2147483648 ≤ xn ∧ xn < 2147483648) (h : Inv J K) : q_150 xs L (d + 1700) xa xu xn J K (fun r J1 K1 => q_273 xs L (d + 1700) xa xu xn J1 K1 (fun r2 J2 K2 => r = r2 ∧ Inv J2 K2)) := by
  obtain ⟨T, s, A, H, B, R, y, p, c, m⟩ := h
  refine c_150 c.1 p.2.1 c.2.2.2.1 hxa hxu hxn (fun n => m_273 (I_r (j := 0) m).1 p.2.1 (I_r (j := 0) m).2.2.1 hxa hxu hxn (fun _ => ⟨rfl, (I_rr (j := 0) p c m (by omega))⟩) (fun z => absurd z n) (fun z => absurd z n)) (fun z n2 => m_273 (I_r m).1 p.2.1 (I_r m).2.2.1 hxa hxu hxn (fun n => absurd z n) (fun _ _ => ⟨rfl, ?_⟩) (fun _ z2 => absurd z2 n2)) (fun z z2 J1 F1 Q1 => m_273 (I_F m F1).1 p.2.1 (I_F m F1).2.2.1 hxa hxu hxn (fun n => absurd z n) (fun _ n2 => absurd z2 n2) (fun _ _ J2 F2 Q2 => ⟨rfl, I_FF p c m F1 Q1 F2 Q2⟩))
  have e := rf_j n2
  rw [e.2]
  exact I_rr p c m e.1
theorem w_151 {xk xu xn xi : Int} (hxk : -2147483648 ≤ xk ∧ xk < 2147483648) (hxu : -2147483648 ≤ xu ∧ xu < 2147483648) (hxn : -2147483648 ≤ xn ∧ xn < 2147483648) (hxi : -2147483648 ≤ xi ∧ xi < 2147483648) (h : Inv J K) : q_151 xs L (d + 1700) xk xu xn xi J K (fun r J1 K1 => q_274 xs L (d + 1700) xk xu xn xi J1 K1 (fun r2 J2 K2 => r = r2 ∧ Inv J2 K2)) := by
  obtain ⟨T, s, A, H, B, R, y, p, c, m⟩ := h
  refine c_151 c.1 p.2.1 c.2.2.2.1 hxk hxu hxn hxi (fun n => m_274 (I_r (j := 0) m).1 p.2.1 (I_r (j := 0) m).2.2.1 hxk hxu hxn hxi (fun _ => ⟨rfl, (I_rr (j := 0) p c m (by omega))⟩) (fun z => absurd z n) (fun z => absurd z n) (fun z => absurd z n)) (fun z n2 => m_274 (I_r m).1 p.2.1 (I_r m).2.2.1 hxk hxu hxn hxi (fun n => absurd z n) (fun _ _ => ⟨rfl, ?_⟩) (fun _ z2 => absurd z2 n2) (fun _ z2 => absurd z2 n2)) (fun z z2 n3 => m_274 (I_r (j := 3) m).1 p.2.1 (I_r (j := 3) m).2.2.1 hxk hxu hxn hxi (fun n => absurd z n) (fun _ n2 => absurd z2 n2) (fun _ _ _ => ⟨rfl, I_rr (j := 3) p c m (by omega)⟩) (fun _ _ z3 => absurd z3 n3)) (fun z z2 z3 J1 F1 Q1 => m_274 (I_F m F1).1 p.2.1 (I_F m F1).2.2.1 hxk hxu hxn hxi (fun n => absurd z n) (fun _ n2 => absurd z2 n2) (fun _ _ n3 => absurd z3 n3) (fun _ _ _ J2 F2 Q2 => ⟨rfl, I_FF p c m F1 Q1 F2 Q2⟩))
  have e := rf_j n2
  rw [e.2]
  exact I_rr p c m e.1
theorem w_110 {xa xv : Int} (hxa : -2147483648 ≤ xa ∧ xa < 2147483648) (hxv : -2147483648 ≤ xv ∧ xv < 2147483648) (h : Inv J K) : q_110 xs L (d + 1700) xa xv J K (fun r J1 K1 => q_235 xs L (d + 1700) xa xv J1 K1 (fun r2 J2 K2 => r = r2 ∧ Inv J2 K2)) := by
  obtain ⟨T, s, A, H, B, R, y, p, c, m⟩ := h
  refine c_110 c.1 c.2.1 hxa hxv (fun n => m_235 (I_r (j := 0) m).1 hxa hxv (fun _ => ⟨rfl, (I_rr (j := 0) p c m (by omega))⟩) (fun z => absurd z n)) (fun z => m_235 m.1 hxa hxv (fun n => absurd z n) (fun _ J2 K2 F2 => ⟨rfl, T, s, A, H, B, R, y, p, cI_o c p.2.2.2 (fun x hx => F2.1 x (by omega) (by omega)) (fun x hx => F2.2 x (by omega)), ?_⟩))
  have f := F2.1
  obtain ⟨⟨a1, a2, a3, a4, a5, a6⟩, ms, mr⟩ := m
  refine mI_mk ⟨⟨a1, a2, a3, a4, a5, a6⟩, ms, mr⟩ ⟨a1, a2, mT_of a3 (by rw [f 167 (by omega) (by omega)]) (f _ (by omega) (by omega)) (f _ (by omega) (by omega)) (f _ (by omega) (by omega)), mA_of a4 (by rw [f 167 (by omega) (by omega)]) (f _ (by omega) (by omega)) (f _ (by omega) (by omega)), by rw [f 167 (by omega) (by omega)]; exact a5, by rw [f 167 (by omega) (by omega)]; exact a6.1, fun w i hi => ?_⟩ (by rw [f 167 (by omega) (by omega)]; exact ms) (fun x hx => f x (by omega) (by omega)) (fun k hk => by rw [f 167 (by omega) (by omega)]) (fun x h1 h2 => F2.2 x (by omega))
  rw [f 167 (by omega) (by omega)] at w
  have z := a6.2 w i hi
  exact ⟨by rw [f 195 (by omega) (by omega)]; exact z.1, fun k hk => by rw [f 196 (by omega) (by omega), f 197 (by omega) (by omega)]; exact z.2 k hk⟩
theorem I_id {T : zT} {s : Int} {A : zA} {H : zH} {B : zB} {R : Nat → Int} {y : zY} (p : pI T A H B y) (c : cI J K T s A H B R y) (m : mI J K T s A H B R y) : Inv J K := ⟨T, s, A, H, B, R, y, p, c, m⟩
theorem w_111 {xa xv : Int} (hxa : -2147483648 ≤ xa ∧ xa < 2147483648) (hxv : -2147483648 ≤ xv ∧ xv < 2147483648) (h : Inv J K) : q_111 xs L (d + 1700) xa xv J K (fun r J1 K1 => q_239 xs L (d + 1700) xa xv J1 K1 (fun r2 J2 K2 => r = r2 ∧ Inv J2 K2)) := by
  obtain ⟨T, s, A, H, B, R, y, p, c, m⟩ := h
  exact c_111 c.1 hxa hxv (fun n => m_239 (I_r (j := 0) m).1 hxa hxv (fun _ => ⟨rfl, (I_rr (j := 0) p c m (by omega))⟩) (fun z => absurd z n)) (fun z => m_239 m.1 hxa hxv (fun n => absurd z n) (fun _ => ⟨rfl, I_id p c m⟩))
theorem sx_j {A : zA} {H : zH} {t v : Int} (h : ¬ zq_sx A H t v = 0) : (-2 - zq_sx A H t v).toNat < 5 ∧ (-(zq_sx A H t v)).toNat = (-2 - zq_sx A H t v).toNat + 2 := by
  have : zq_sx A H t v = 0 ∨ zq_sx A H t v = -2 ∨ zq_sx A H t v = -3 ∨ zq_sx A H t v = -4 := by
    unfold zq_sx
    repeat' split
    all_goals omega
  omega
theorem w_28 {xu xv : Int} (hxu : -2147483648 ≤ xu ∧ xu < 2147483648) (hxv : -2147483648 ≤ xv ∧ xv < 2147483648) (h : Inv J K) : q_28 xs L (d + 1700) xu xv J K (fun r J1 K1 => q_179 xs L (d + 1700) xu xv J1 K1 (fun r2 J2 K2 => r = r2 ∧ Inv J2 K2)) := by
  obtain ⟨T, s, A, H, B, R, y, p, c, m⟩ := h
  refine c_28 c.1 p.2.1 c.2.2.2.1 hxu hxv (fun n => m_179 (I_r m).1 p.2.1 (I_r m).2.2.1 hxu hxv (fun _ => ⟨rfl, ?_⟩) (fun z => absurd z n)) (fun z J1 F1 Q1 => m_179 (I_F m F1).1 p.2.1 (I_F m F1).2.2.1 hxu hxv (fun n => absurd z n) (fun _ J2 F2 Q2 => ⟨rfl, I_FF p c m F1 Q1 F2 Q2⟩))
  have e := sx_j n
  rw [e.2]
  exact I_rr p c m e.1
theorem w_25 {xu : Int} (hxu : -2147483648 ≤ xu ∧ xu < 2147483648) (h : Inv J K) : q_25 xs L (d + 1700) xu J K (fun r J1 K1 => q_176 xs L (d + 1700) xu J1 K1 (fun r2 J2 K2 => r = r2 ∧ Inv J2 K2)) := by
  obtain ⟨T, s, A, H, B, R, y, p, c, m⟩ := h
  exact c_25 p.2.1 c.2.2.2.1 hxu (m_176 c.1.2.1.1 p.2.1 m.2.2.1 hxu ⟨rfl, I_id p c m⟩)
theorem w_24 {xu xi : Int} (hxu : -2147483648 ≤ xu ∧ xu < 2147483648) (hxi : -2147483648 ≤ xi ∧ xi < 2147483648) (h : Inv J K) : q_24 xs L (d + 1700) xu xi J K (fun r J1 K1 => q_175 xs L (d + 1700) xu xi J1 K1 (fun r2 J2 K2 => r = r2 ∧ Inv J2 K2)) := by
  obtain ⟨T, s, A, H, B, R, y, p, c, m⟩ := h
  exact c_24 c.1.2.1.1 p.2.1 c.2.2.2.1 hxu hxi (m_175 c.1.2.1.1 p.2.1 m.2.2.1 hxu hxi ⟨rfl, I_id p c m⟩)
theorem w_162 {xv : Int} (hxv : -2147483648 ≤ xv ∧ xv < 2147483648) (h : Inv J K) : q_162 xs L (d + 1700) xv J K (fun r J1 K1 => q_281 xs L (d + 1700) xv J1 K1 (fun r2 J2 K2 => r = r2 ∧ Inv J2 K2)) := by
  obtain ⟨T, s, A, H, B, R, y, p, c, m⟩ := h
  exact c_162 c.1 p.1 p.2.1 c.2.2.2.1 c.2.2.2.2.1.1 c.2.2.1 c.2.2.2.2.2.1 hxv (m_281 m.1 p.1 p.2.1 m.2.2.1 m.2.2.2.1.1 m.2.1 m.2.2.2.2.1 hxv ⟨rfl, I_id p c m⟩)
end WQ
