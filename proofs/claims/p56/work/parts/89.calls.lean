/-! The class's calls, with all that it holds between them. -/
def cV (J K : jZ) (T : zT) (s : Int) (A : zA) (H : zH) (B : zB) (R : Nat → Int) (y : zY) : Prop := pI T A H B y ∧ cI J K T s A H B R y
def vR (N : Nat) (R : Nat → Int) : Prop := ∀ k, k < 5 → 0 ≤ R k ∧ R k ≤ N
theorem vR_up {N j : Nat} {R : Nat → Int} (h : vR N R) : vR (N + 1) (R_up R j) := fun k hk => by
  have := h k hk
  unfold R_up
  split <;> omega
theorem vR_le {N M : Nat} {R : Nat → Int} (h : vR N R) (hn : N ≤ M) : vR M R := fun k hk => by
  have := h k hk
  omega
/-- with an empty tape, and what is kept -/
def Iy (N : Nat) (y : zY) (J K : jZ) : Prop := ∃ T s A H R, cV J K T s A H zB_0 R y ∧ vR N R
def Ib (N : Nat) (y : zY) (J K : jZ) : Prop := ∃ T s A H B R, cV J K T s A H B R y ∧ vR N R
theorem Iy_b {N : Nat} {y : zY} {J K : jZ} (h : Iy N y J K) : Ib N y J K := by
  obtain ⟨T, s, A, H, R, c, r⟩ := h
  exact ⟨T, s, A, H, zB_0, R, c, r⟩
theorem Iy_le {N M : Nat} {y : zY} {J K : jZ} (h : Iy N y J K) (hn : N ≤ M) : Iy M y J K := by
  obtain ⟨T, s, A, H, R, c, r⟩ := h
  exact ⟨T, s, A, H, R, c, vR_le r hn⟩
section IV
variable {J J' J1 K K' K1 : jZ} {T T' : zT} {s s' : Int} {A A' : zA} {H H' : zH} {B B' : zB} {R R' : Nat → Int} {y y' : zY} {N : Nat}
theorem cV_24 (h : cV J K T s A H B R y) : A.1 ≤ 24 := h.2.1.2.1.1
theorem cV_r {j : Nat} (h : cV J K T s A H B R y) (hj : j < 5) : cV (rC J j) K T s A H B (R_up R j) y := ⟨h.1, cI_r h.2 h.1.2.2.2 hj⟩
theorem cV_F (h : cV J K T s A H B R y) (F : cF J J') (Q : cQ J' T A) : cV J' K T s A H B R y := ⟨h.1, cI_F h.2 h.1.2.2.2 F Q⟩
theorem cV_T (h : cV J K T s A H B R y) (p : zt_sb T') (F : cTf J J1) (Q : cQ J1 T' A) : cV J1 K T' s A H B R y := by
  have h24 := Q.2.1.1
  exact ⟨⟨p, h.1.2⟩, cI_mk h.2 h.1.2.2.2 Q (cst_of h.2.2.1 h24 (fun x _ _ => F.1 x (by omega) (by omega) (by omega) (by omega) (by omega))) (by rw [F.2.1]; exact h.2.2.2.1) (fun x hx => F.1 x (by omega) (by omega) (by omega) (by omega) (by omega))⟩
theorem cV_D (h : cV J K T s A H B R y) (p : zt_sb T') (F : cDf J J1) (Q : cQ J1 T' A) (h1 : J1 1 4 = s') : cV J1 K T' s' A H B R y := by
  have h24 := Q.2.1.1
  exact ⟨⟨p, h.1.2⟩, cI_mk h.2 h.1.2.2.2 Q (cst_of h.2.2.1 h24 (fun x _ _ => F.1 x (by omega) (by omega) (by omega) (by omega))) h1 (fun x hx => F.1 x (by omega) (by omega) (by omega) (by omega))⟩
theorem cV_B (h : cV J K T s A H B R y) (hB : zB_ok B') (F : cBf J J1) (r : cB_at J1 B') : cV J1 K T s A H B' R y := ⟨⟨h.1.1, h.1.2.1, hB, h.1.2.2.2⟩, cI_B h.1.2.2.2 h.2 F r⟩
theorem cV_A {n : Nat} {r : Nat → Int} (h : cV J K T s A H B R y) (hn : n < 24) (F : cAf n J J1) (Q : cQ J1 T (zA_a A r)) (S : zA_st J1 9 (zA_a A r)) : cV J1 K T s (zA_a A r) H B R y :=
  ⟨pI_A h.1, cI_mk h.2 h.1.2.2.2 Q S (by rw [F 1 (by omega) (by omega)]; exact h.2.2.2.1) (fun x hx => F x (by omega) (by omega))⟩
theorem cV_H (h : cV J K T s A H B R y) (hH : zH_ok A.1 H') (F : cHf J J1 K K1) (r : cH_at J1 K1 H') : cV J1 K1 T s A H' B R y := by
  have h24 := cV_24 h
  obtain ⟨p, Q, S, hs, hH0, hB, hR, hy⟩ := h
  exact ⟨⟨p.1, hH, p.2.2⟩, cQ_lo Q (fun x hx => F.1 x (by omega)), cst_of S h24 (fun x _ _ => F.1 x (by omega)), by rw [F.1 1 (by omega)]; exact hs, r, ⟨by rw [F.1 144 (by omega)]; exact hB.1, fun i hi => by rw [F.1 145 (by omega)]; exact hB.2 i hi⟩, fun k hk => by rw [F.1 150 (by omega)]; exact hR k hk, cKp_of hy p.2.2.2 (by rw [F.1 0 (by omega)]) (fun x hx => F.1 x (by omega))⟩
theorem Iy_r {j : Nat} (c : cV J K T s A H zB_0 R y) (r : vR N R) (hj : j < 5) : Iy (N + 1) y (rC J j) K := ⟨T, s, A, H, _, cV_r c hj, vR_up r⟩
theorem Ib_r {j : Nat} (c : cV J K T s A H B R y) (r : vR N R) (hj : j < 5) : Ib (N + 1) y (rC J j) K := ⟨T, s, A, H, B, _, cV_r c hj, vR_up r⟩
end IV
section IA
variable {xs : Nat → Int32} {L d N : Nat} {J K : jZ} {P : Int → jZ → jZ → Prop} {y : zY}
theorem i_56 {w : Int} (hw : -2147483648 ≤ w ∧ w < 2147483648) (h : Iy N y J K) (k : ∀ r J' K', Iy (N + 1) y J' K' → P r J' K') : q_56 xs L (d + 2) w J K P := by
  obtain ⟨T, s, A, H, R, c, r⟩ := h
  exact c_56 c.2.1 hw (fun _ => k _ _ _ (Iy_r c r (by omega))) (fun _ _ => k _ _ _ (Iy_r c r (by omega))) (fun z z2 J1 F1 Q1 => k _ _ _ ⟨_, s, A, H, R, cV_T (T' := zT_w T w) c c.1.1 F1 Q1, vR_le r (by omega)⟩)
theorem i_60 {w : Int} (hw : -2147483648 ≤ w ∧ w < 2147483648) (h : Iy N y J K) (k : ∀ r J' K', Iy (N + 1) y J' K' → P r J' K') : q_60 xs L (d + 2) w J K P := by
  obtain ⟨T, s, A, H, R, c, r⟩ := h
  exact c_60 c.2.1 hw (fun _ => k _ _ _ (Iy_r c r (by omega))) (fun _ _ => k _ _ _ (Iy_r c r (by omega))) (fun z z2 J1 F1 Q1 => k _ _ _ ⟨_, s, A, H, R, cV_T (T' := zT_e T w) c c.1.1 F1 Q1, vR_le r (by omega)⟩)
theorem i_63 {p w : Int} (hp : -2147483648 ≤ p ∧ p < 2147483648) (hw : -2147483648 ≤ w ∧ w < 2147483648) (h : Iy N y J K) (k : ∀ r J' K', Iy (N + 1) y J' K' → P r J' K') : q_63 xs L (d + 2) p w J K P := by
  obtain ⟨T, s, A, H, R, c, r⟩ := h
  exact c_63 c.2.1 hp hw (fun _ => k _ _ _ (Iy_r c r (by omega))) (fun z J1 F1 Q1 => k _ _ _ ⟨_, s, A, H, R, cV_T (T' := zT_c T p.toNat w) c c.1.1 F1 Q1, vR_le r (by omega)⟩)
theorem i_65 {a b v : Int} (ha : -2147483648 ≤ a ∧ a < 2147483648) (hb : -2147483648 ≤ b ∧ b < 2147483648) (hv : -2147483648 ≤ v ∧ v < 2147483648) (h : Iy N y J K) (k : ∀ r J' K', Iy (N + 1) y J' K' → P r J' K') : q_65 xs L (d + 2) a b v J K P := by
  obtain ⟨T, s, A, H, R, c, r⟩ := h
  refine c_65 c.2.1 ha hb hv (fun _ => k _ _ _ (Iy_r c r (by omega))) (fun z J1 F1 Q1 => k _ _ _ ⟨_, s, A, H, R, cV_T c (zT_s_sb c.1.1 ?_) F1 Q1, vR_le r (by omega)⟩)
  obtain ⟨⟨a0, a1⟩, ⟨b0, b1⟩, -, v⟩ := z
  obtain ⟨b, rfl⟩ : ∃ b9 : Nat, b = (b9 : Int) := ⟨b.toNat, by omega⟩
  exact zq_ss_s (c.1.1 a.toNat (by omega)) (by omega) v
theorem i_66 {b : Int} (hb : -2147483648 ≤ b ∧ b < 2147483648) (h : Ib N y J K) (k : ∀ r J' K', Ib (N + 1) y J' K' → P r J' K') : q_66 xs L (d + 2) b J K P := by
  obtain ⟨T, s, A, H, B, R, c, r⟩ := h
  exact c_66 c.1.2.2.1 c.2.2.2.2.2.1 hb (fun _ => k _ _ _ (Ib_r c r (by omega))) (fun _ _ => k _ _ _ (Ib_r c r (by omega))) (fun z z2 J1 F1 r1 => k _ _ _ ⟨T, s, A, H, _, R, cV_B c (zB_f_ok c.1.2.2.1 z z2) F1 r1, vR_le r (by omega)⟩)
theorem i_97 {w : Int} (hw : -2147483648 ≤ w ∧ w < 2147483648) (h : Iy N y J K) (k : ∀ r J' K', Iy (N + 1) y J' K' → P r J' K') : q_97 xs L (d + 4) w J K P := by
  obtain ⟨T, s, A, H, R, c, r⟩ := h
  exact c_97 c.2.1 c.2.2.1 hw (fun _ => k _ _ _ (Iy_r c r (by omega))) (fun _ _ => k _ _ _ (Iy_r c r (by omega))) (fun z z2 J1 F1 Q1 S1 => k _ _ _ ⟨T, s, _, H, R, cV_A c z2 F1 Q1 S1, vR_le r (by omega)⟩)
theorem i_104 {w : Int} (hw : -2147483648 ≤ w ∧ w < 2147483648) (h : Iy N y J K) (k : ∀ r J' K', Iy (N + 1) y J' K' → P r J' K') : q_104 xs L (d + 4) w J K P := by
  obtain ⟨T, s, A, H, R, c, r⟩ := h
  exact c_104 c.2.1 c.2.2.1 hw (fun _ => k _ _ _ (Iy_r c r (by omega))) (fun _ _ => k _ _ _ (Iy_r c r (by omega))) (fun z z2 J1 F1 Q1 S1 => k _ _ _ ⟨T, s, _, H, R, cV_A c z2 F1 Q1 S1, vR_le r (by omega)⟩)
theorem i_102 {a b v : Int} (ha : -2147483648 ≤ a ∧ a < 2147483648) (hb : -2147483648 ≤ b ∧ b < 2147483648) (hv : -2147483648 ≤ v ∧ v < 2147483648) (h : Iy N y J K) (k : ∀ r J' K', Iy (N + 1) y J' K' → P r J' K') : q_102 xs L (d + 4) a b v J K P := by
  obtain ⟨T, s, A, H, R, c, r⟩ := h
  exact c_102 c.2.1 c.2.2.1 ha hb hv (fun _ => k _ _ _ (Iy_r c r (by omega))) (fun _ _ => k _ _ _ (Iy_r c r (by omega))) (fun z z2 J1 F1 Q1 S1 => k _ _ _ ⟨T, s, _, H, R, cV_A c z2 F1 Q1 S1, vR_le r (by omega)⟩)
theorem i_105 {a b : Int} (ha : -2147483648 ≤ a ∧ a < 2147483648) (hb : -2147483648 ≤ b ∧ b < 2147483648) (h : Iy N y J K) (k : ∀ r J' K', Iy (N + 1) y J' K' → P r J' K') : q_105 xs L (d + 4) a b J K P := by
  obtain ⟨T, s, A, H, R, c, r⟩ := h
  exact c_105 c.2.1 c.2.2.1 ha hb (fun _ => k _ _ _ (Iy_r c r (by omega))) (fun _ _ => k _ _ _ (Iy_r c r (by omega))) (fun z z2 J1 F1 Q1 S1 => k _ _ _ ⟨T, s, _, H, R, cV_A c z2 F1 Q1 S1, vR_le r (by omega)⟩)
theorem i_106 {a b v e : Int} (ha : -2147483648 ≤ a ∧ a < 2147483648) (hb : -2147483648 ≤ b ∧ b < 2147483648) (hv : -2147483648 ≤ v ∧ v < 2147483648) (he : -2147483648 ≤ e ∧ e < 2147483648) (h : Iy N y J K) (k : ∀ r J' K', Iy (N + 1) y J' K' → P r J' K') : q_106 xs L (d + 4) a b v e J K P := by
  obtain ⟨T, s, A, H, R, c, r⟩ := h
  exact c_106 c.2.1 c.2.2.1 ha hb hv he (fun _ => k _ _ _ (Iy_r c r (by omega))) (fun _ _ => k _ _ _ (Iy_r c r (by omega))) (fun z z2 J1 F1 Q1 S1 => k _ _ _ ⟨T, s, _, H, R, cV_A c z2 F1 Q1 S1, vR_le r (by omega)⟩)
theorem i_107 (h : Iy N y J K) (k : ∀ r J' K', Iy (N + 1) y J' K' → P r J' K') : q_107 xs L (d + 2) J K P := by
  obtain ⟨T, s, A, H, R, c, r⟩ := h
  refine c_107 c.2.1 c.2.2.1 c.1.2.1 c.2.2.2.2.1 (fun _ => k _ _ _ (Iy_r c r (by omega))) (fun z J1 F1 Q1 S1 r1 => k _ _ _ ⟨T, s, zA_d A, zH_k (A.1 - 1) H 8, R, ⟨⟨c.1.1, zH_k8_ok c.1.2.1, c.1.2.2⟩, ?_⟩, vR_le r (by omega)⟩)
  obtain ⟨p, Q, S, hs, hH, hB, hR, hy⟩ := c
  exact ⟨Q1, S1, by rw [F1 1 (by omega) (by omega) (by omega)]; exact hs, r1, ⟨by rw [F1 144 (by omega) (by omega) (by omega)]; exact hB.1, fun i hi => by rw [F1 145 (by omega) (by omega) (by omega)]; exact hB.2 i hi⟩, fun k hk => by rw [F1 150 (by omega) (by omega) (by omega)]; exact hR k hk, cKp_of hy p.2.2.2 (by rw [F1 0 (by omega) (by omega) (by omega)]) (fun x hx => F1 x (by omega) (by omega) (by omega))⟩
theorem i_153 {n : Int} (hn : -2147483648 ≤ n ∧ n < 2147483648) (h : Iy N y J K) (k : ∀ r J' K', Iy (N + 1) y J' K' → P r J' K') : q_153 xs L (d + 3) n J K P := by
  obtain ⟨T, s, A, H, R, c, r⟩ := h
  exact c_153 c.2.1 c.2.2.2.1 hn (fun _ => k _ _ _ (Iy_r c r (by omega))) (fun z J1 F1 Q1 h1 _ => k _ _ _ ⟨_, _, A, H, R, cV_D c (zD_n_ok n.toNat (T, s) c.2.1.1 c.1.1).2 F1 Q1 h1, vR_le r (by omega)⟩) c.1.1
theorem i_76 (h : Ib N y J K) (k : ∀ r J' K', Iy (N + 1) y J' K' → P r J' K') : q_76 xs L (d + 7) J K P := by
  obtain ⟨T, s, A, H, B, R, c, r⟩ := h
  have h24 := cV_24 c
  have gr := zG_r (A := A) c.1.2.2.1 (B.1 + 1) 0 (-1) [] A (by omega) (by omega)
  have gg := zG_ge (B := B) (B.1 + 1) 0 (-1) [] A
  have cc : ∀ J1, cRf A J J1 → J1 9 = J 9 → cV J1 K T s A H zB_0 R y := fun J1 F1 g9 => by
    have f := F1.1
    refine ⟨⟨c.1.1, c.1.2.1, zB_0_ok, c.1.2.2.2⟩, cI_m0 c.2 c.1.2.2.2 (cQ_ask c.2.1 g9 (fun x h1 h2 h3 => f x (by omega) (by omega) (by omega) (by omega) (by omega))) (fun i hi => ?_) (by rw [f 1 (by omega) (by omega) (by omega) (by omega) (by omega)]; exact c.2.2.2.1) F1.2 (fun x hx => f x (by omega) (by omega) (by omega) (by omega) (by omega))⟩
    rw [f _ (by omega) (by omega) (by omega) (by omega) (by omega)]
    exact c.2.2.1 i hi
  refine c_76 c.2.1 c.2.2.1 c.1.2.2.1 c.2.2.2.2.2.1 (fun n J1 F1 g9 => k _ _ _ (Iy_r (cc J1 F1 g9) r (by omega))) (fun z n2 J1 F1 g9 => k _ _ _ (Iy_r (cc J1 F1 g9) r (by omega))) (fun z z2 J1 F1 Q1 S1 => k _ _ _ ⟨T, s, _, H, R, ⟨⟨c.1.1, fun t ht => ?_, zB_0_ok, c.1.2.2.2⟩, cI_m0 (s' := s) c.2 c.1.2.2.2 Q1 S1 (by rw [F1.1 1 (by omega) (by omega) (by omega) (by omega) (by omega)]; exact c.2.2.2.1) F1.2 (fun x hx => F1.1 x (by omega) (by omega) (by omega) (by omega) (by omega))⟩, vR_le r (by omega)⟩) gr
  rcases c.1.2.1 t ht with q | q | q
  · exact .inl q
  · exact .inr (.inl q)
  · exact .inr (.inr ⟨q.1, by omega⟩)
/-- image, just -/
theorem v_157 {T : zT} {s : Int} {A : zA} {H : zH} {B : zB} {R : Nat → Int} (c : cV J K T s A H B R y) (k : ∀ J', cV J' K T s A H B R (some (T, s, A)) → P 1 J' K) : q_157 xs L (d + 3) J K P := by
  refine c_157 c.2.1 c.2.2.1 c.2.2.2.1 (fun J1 F1 G1 Q1 S1 k1 y1 => k J1 ?_)
  have h24 := cV_24 c
  obtain ⟨p, Q, S, hs, hH, hB, hR, hy⟩ := c
  exact ⟨⟨p.1, p.2.1, p.2.2.1, Q.1, p.1, Q.2.1⟩, Q1, S1, by rw [F1 1 (by omega) (by omega) (by omega)]; exact hs, cH_of hH (fun x _ _ => F1 x (by omega) (by omega) (by omega)) (fun x _ _ => rfl), ⟨by rw [F1 144 (by omega) (by omega) (by omega)]; exact hB.1, fun i hi => by rw [F1 145 (by omega) (by omega) (by omega)]; exact hB.2 i hi⟩, fun k hk => by rw [F1 150 (by omega) (by omega) (by omega)]; exact hR k hk, k1, y1⟩
theorem v_161 {T : zT} {s : Int} {A : zA} {H : zH} {B : zB} {R : Nat → Int} {y : zT × Int × zA} (c : cV J K T s A H B R (some y)) (k : ∀ J' H', cV J' K y.1 y.2.1 y.2.2 H' B R (some y) → P 1 J' K) : q_161 xs L (d + 3) J K P := by
  have k0 : J 0 11 = 1 ∧ cK_at J y.1 y.2.1 y.2.2 := c.2.2.2.2.2.2.2
  have pk : zt_ok y.1 ∧ zt_sb y.1 ∧ zA_ok y.2.2 := c.1.2.2.2
  refine c_161 (T' := y.1) (A' := y.2.2) (s' := y.2.1) c.2.1 pk.1 pk.2.2 c.1.2.1 c.2.2.2.2.1 (.inr k0) (fun z => by omega) (fun _ J1 F1 Q1 S1 h1 r1 => k J1 (zH_k y.2.2.1 H 8) ?_)
  obtain ⟨p, Q, S, hs, hH, hB, hR, hy⟩ := c
  exact ⟨⟨pk.2.1, zH_k8_ok p.2.1, p.2.2.1, pk⟩, Q1, S1, h1, r1, ⟨by rw [F1 144 (by omega) (by omega) (by omega) (by omega)]; exact hB.1, fun i hi => by rw [F1 145 (by omega) (by omega) (by omega) (by omega)]; exact hB.2 i hi⟩, fun k hk => by rw [F1 150 (by omega) (by omega) (by omega) (by omega)]; exact hR k hk, cKp_of hy pk (by rw [F1 0 (by omega) (by omega) (by omega) (by omega)]) (fun x hx => F1 x (by omega) (by omega) (by omega) (by omega))⟩
theorem i_161 (h : Iy N y J K) (k : ∀ r J' K', Iy (N + 1) y J' K' → P r J' K') : q_161 xs L (d + 3) J K P := by
  obtain ⟨T, s, A, H, R, c, r⟩ := h
  cases y with
  | none =>
    have k0 : J 0 11 = 0 := c.2.2.2.2.2.2.2
    exact c_161 (T' := T) (A' := A) (s' := s) c.2.1 c.2.1.1 c.2.1.2.1 c.1.2.1 c.2.2.2.2.1 (.inl k0) (fun _ => k _ _ _ (Iy_r c r (by omega))) (fun z => by omega)
  | some y => exact v_161 c (fun J1 H1 c1 => k _ _ _ ⟨_, _, _, H1, R, c1, vR_le r (by omega)⟩)
end IA
