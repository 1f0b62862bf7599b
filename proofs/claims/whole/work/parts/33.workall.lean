theorem s_193_122 {xs : Nat → Int32} {L d : Nat} {J K : jZ} {P : jZ → jZ → Prop} {S : Int → Int → Prop} {i : Nat} (hi : i < 27) (hod : zl_od S) (hS : zl_lo (-1) S (J 198)) (h : ∀ J' l', zm_fr i J J' → zm_at J' i l' → zl_isl S l' → P J' K) : l_193_122 xs L (d + 5) (i : Int) J K P :=
  e_193_122 (s_187 hi hod hS h)
theorem zm_k_tr {i : Nat} {J J' J'' : jZ} (h : zm_k i J J') (h' : zm_k i J' J'') : zm_k i J J'' := ⟨fun b q1 q2 q3 q4 => by rw [h'.1 b q1 q2 q3 q4, h.1 b q1 q2 q3 q4], fun j l hj hji hl ha => h'.2 j l hj hji hl (h.2 j l hj hji hl ha)⟩
theorem zm_k_fr {i : Nat} {J J' : jZ} (h : zm_fr i J J') : zm_k i J J' := ⟨h.1, fun j l _ hji hl ha => zm_at_fr h hji hl ha⟩
theorem zm_k_25 {i : Nat} {J J' : jZ} (h : zm_fr 25 J J') : zm_k i J J' := ⟨h.1, fun j l hj _ hl ha => zm_at_fr h (by omega) hl ha⟩
theorem zm_k_98 {i : Nat} {J J' : jZ} (h : ∀ b, b ≠ 198 → J' b = J b) : zm_k i J J' := ⟨fun b _ _ _ q => h b q, fun j l _ _ _ ha => zm_at_98 ha h⟩
theorem s_193 {xs : Nat → Int32} {L d : Nat} {J K : jZ} {P : jZ → jZ → Prop} {A : zA} {i u v w N : Nat} {l m o : zL} (hi : i < 24) (hN : N ≤ 60) (hu : u < 24) (hv : v < 24) (hw : w < 24) (hui : ¬ u = i) (hvi : ¬ v = i) (hwi : ¬ w = i) (hg : zs_gd N l) (hg2 : zs_gd N m) (hg3 : zs_gd N o) (h1 : A.2 i 1 = (u : Int)) (h2 : A.2 i 2 = (v : Int)) (h3 : A.2 i 3 = (w : Int)) (h4 : 1 ≤ A.2 i 4 ∧ A.2 i 4 ≤ 3) (hr : zm_at J u l) (hr2 : zm_at J v m) (hr3 : zm_at J w o) (hA : ∀ j, j < 4 → J 188 (4 * i + j) = A.2 i (j + 1)) (h : ∀ J' l', zm_k i J J' → zm_at J' i l' → zl_isl (zk_som (A.2 i 4) l m o) l' → P J' K) : q_193 xs L (d + 6) (i : Int) J K P := by
  have a0 : J 188 (4 * i) = A.2 i 1 := hA 0 (by omega)
  have a1 : J 188 (4 * i + 1) = A.2 i 2 := hA 1 (by omega)
  have a2 : J 188 (4 * i + 2) = A.2 i 3 := hA 2 (by omega)
  have a3 : J 188 (4 * i + 3) = A.2 i 4 := hA 3 (by omega)
  refine e_193 ?_
  rw [show (4 * (i : Int)).toNat = 4 * i by omega, show (4 * (i : Int) + 1).toNat = 4 * i + 1 by omega, show (4 * (i : Int) + 2).toNat = 4 * i + 2 by omega, show (4 * (i : Int) + 3).toNat = 4 * i + 3 by omega, a0, a1, a2, a3, h1, h2, h3]
  have g1 := hg.1
  have g2 := hg2.1
  have g3 := hg3.1
  refine ⟨by omega, by omega, by omega, by omega, by omega, fun q => s_185 (fun J1 f1 S1 => ⟨fun q2 => ?_, fun q2 => ?_⟩), fun q => ?_⟩
  · have od : zl_od (zk_som (A.2 i 4) l m o) := fun x y r => by
      rcases r with ⟨c, -⟩ | ⟨c, -⟩ | ⟨-, r⟩
      · omega
      · omega
      · rcases r with r | r | r
        · exact (zo_bth_b hg hg2 r).2.1
        · exact (zo_bth_b hg hg3 r).2.1
        · exact (zo_bth_b hg2 hg3 r).2.1
    have bt : ∀ {l m : zL} {x y : Int}, (∃ p q, p < l.length ∧ q < m.length ∧ zo_two 3 (zs_f l p) (zs_l l p) (zs_f m q) (zs_l m q) x y) ↔ zo_bth l m x y := by
      intro l m x y
      unfold zo_two zo_bth
      simp only [if_true]
    refine s_196 (T := fun x y => zo_bth l m x y) (by omega) (by omega) (by omega) g1 g2 (zm_at_98 hr f1) (zm_at_98 hr2 f1) S1 (fun x y => by rw [bt]; exact ⟨.inr, fun h => h.elim False.elim id⟩) (fun J2 f2 S2 => ?_)
    refine s_196 (T := fun x y => zo_bth l m x y ∨ zo_bth l o x y) (by omega) (by omega) (by omega) g1 g3 (zm_at_98 (zm_at_98 hr f1) f2) (zm_at_98 (zm_at_98 hr3 f1) f2) S2 (fun x y => by rw [bt]) (fun J3 f3 S3 => ?_)
    refine s_196 (T := zk_som (A.2 i 4) l m o) (by omega) (by omega) (by omega) g2 g3 (zm_at_98 (zm_at_98 (zm_at_98 hr2 f1) f2) f3) (zm_at_98 (zm_at_98 (zm_at_98 hr3 f1) f2) f3) S3 (fun x y => ?_) (fun J4 f4 S4 => ?_)
    · rw [bt]
      unfold zk_som
      constructor
      · rintro (⟨c, -⟩ | ⟨c, -⟩ | ⟨-, r⟩)
        · omega
        · omega
        · rw [or_assoc]
          exact r
      · intro r
        rw [or_assoc] at r
        exact .inr (.inr ⟨by omega, r⟩)
    · exact s_193_122 (by omega) od S4 (fun J' l' b1 b2 b3 => h J' l' (zm_k_tr (zm_k_98 f1) (zm_k_tr (zm_k_98 f2) (zm_k_tr (zm_k_98 f3) (zm_k_tr (zm_k_98 f4) (zm_k_fr b1))))) b2 b3)
  · have od : zl_od (zk_som (A.2 i 4) l m o) := fun x y r => by
      rcases r with ⟨c, -⟩ | ⟨-, r⟩ | ⟨c, -⟩
      · omega
      · rcases r with r | r | r
        · exact (zs_gd_in hg r).2.1
        · exact (zs_gd_in hg2 r).2.1
        · exact (zs_gd_in hg3 r).2.1
      · omega
    refine s_195 (T := fun x y => zs_in l x y) (by omega) g1 (zm_at_98 hr f1) S1 (fun x y => ⟨.inr, fun h => h.elim False.elim id⟩) (fun J2 f2 S2 => ?_)
    refine s_195 (T := fun x y => zs_in l x y ∨ zs_in m x y) (by omega) g2 (zm_at_98 (zm_at_98 hr2 f1) f2) S2 (fun x y => Iff.rfl) (fun J3 f3 S3 => ?_)
    refine s_195 (T := zk_som (A.2 i 4) l m o) (by omega) g3 (zm_at_98 (zm_at_98 (zm_at_98 hr3 f1) f2) f3) S3 (fun x y => ?_) (fun J4 f4 S4 => ?_)
    · unfold zk_som
      constructor
      · rintro (⟨c, -⟩ | ⟨-, r⟩ | ⟨c, -⟩)
        · omega
        · rw [or_assoc]
          exact r
        · omega
      · intro r
        rw [or_assoc] at r
        exact .inr (.inl ⟨by omega, r⟩)
    · exact s_193_122 (by omega) od S4 (fun J' l' b1 b2 b3 => h J' l' (zm_k_tr (zm_k_98 f1) (zm_k_tr (zm_k_98 f2) (zm_k_tr (zm_k_98 f3) (zm_k_tr (zm_k_98 f4) (zm_k_fr b1))))) b2 b3)
  · refine s_194 (i := 25) (by omega) (by omega) (by omega) (by omega) g1 g2 hr hr2 (fun J1 l1 b1 b2 b3 => ?_)
    have hl1 := zl_of_eq b3
    have gd1 : zs_gd N l1 := ⟨b3.1, zl_isl_bn b3 (fun x y r => (zp_off_b hg hg2 r).2.2)⟩
    refine s_194 (i := i) (u := 25) (by omega) (by omega) (by omega) (by omega) gd1.1 g3 b2 (zm_at_fr b1 (by omega) g3.1 hr3) (fun J2 l2 c1 c2 c3 => h J2 l2 (zm_k_tr (zm_k_25 b1) (zm_k_fr c1)) c2 (zl_isl_iff (fun x y => ?_) c3))
    unfold zk_som
    rw [hl1]
    constructor
    · exact fun r => .inl ⟨q, r⟩
    · rintro (⟨-, r⟩ | ⟨c, -⟩ | ⟨c, -⟩)
      · exact r
      · omega
      · omega
/-- the reference's lists of the first asks -/
def mL_at (J : jZ) (wo : Int) (T : zT) (A : zA) (n : Nat) : Prop := ∀ i, i < n → zm_at J i (zk_sem wo T A i)
theorem s_182_6 {xs : Nat → Int32} {L d : Nat} {K : jZ} {P : jZ → jZ → Prop} {T : zT} {A : zA} {wo : Int} (hT : zt_ok T) (hA : zA_ok A) : ∀ (n i : Nat) (J : jZ), i + n = A.1 → mT_at J T → mA_at J A → mS_at J wo T → mL_at J wo T A i → (∀ J', (∀ b, b ≠ 195 → b ≠ 196 → b ≠ 197 → b ≠ 198 → J' b = J b) → mL_at J' wo T A A.1 → P J' K) → l_182_6 xs L (d + 6) (i : Int) J K P
  | n, i, J, hn, rT, rA, rS, rL, h => by
    have h24 := hA.1
    have h0 := rA.1
    refine e_182_6 ⟨by omega, by omega, fun hc => ?_, fun hc => ⟨by omega, ?_⟩⟩
    · obtain rfl : i = A.1 := by omega
      exact h J (fun _ _ _ _ _ => rfl) rL
    · match n, hn with
      | 0, hn => omega
      | n + 1, hn =>
        have hi : i < A.1 := by omega
        have hk := hA.2 i hi
        have ra := rA.2 i hi
        have a0 : J 188 (4 * i) = A.2 i 1 := ra.2 0 (by omega)
        have a1 : J 188 (4 * i + 1) = A.2 i 2 := ra.2 1 (by omega)
        have gd := fun j (hj : j < A.1) => (zk_sem_gd (wo := wo) hT hA j hj).2
        rw [Int.toNat_natCast, ra.1, show (4 * (i : Int)).toNat = 4 * i by omega, show (4 * (i : Int) + 1).toNat = 4 * i + 1 by omega, a0, a1]
        have step : ∀ J' l', zm_k i J J' → zm_at J' i l' → zl_isl (zk_off wo T (A.2 i) (zk_sem wo T A)) l' → l_182_6 xs L (d + 6) ((i : Int) + 1) J' K P := fun J' l' q1 q2 q3 => by
          refine s_182_6 hT hA n (i + 1) J' (by omega) (mT_of rT (by rw [q1.1 167 (by omega) (by omega) (by omega) (by omega)]) (q1.1 184 (by omega) (by omega) (by omega) (by omega)) (q1.1 185 (by omega) (by omega) (by omega) (by omega)) (q1.1 186 (by omega) (by omega) (by omega) (by omega))) (mA_of rA (by rw [q1.1 167 (by omega) (by omega) (by omega) (by omega)]) (q1.1 187 (by omega) (by omega) (by omega) (by omega)) (q1.1 188 (by omega) (by omega) (by omega) (by omega))) (fun k hk => by rw [q1.1 194 (by omega) (by omega) (by omega) (by omega)]; exact rS k hk) (fun j hj => ?_) (fun J'' f1 L1 => h J'' (fun b c1 c2 c3 c4 => by rw [f1 b c1 c2 c3 c4, q1.1 b c1 c2 c3 c4]) L1)
          by_cases q : j = i
          · subst q
            rw [← zk_sem_of hk q3]
            exact q2
          · exact q1.2 j _ (by omega) q (gd j (by omega)).1.1 (rL j (by omega))
        have leaf : (A.2 i 0 = 0 ∨ A.2 i 0 = 1) → q_184 xs L (d + 6) (i : Int) J K (fun J' K' => l_182_6 xs L (d + 6) ((i : Int) + 1) J' K' P) := fun q =>
          s_184 (by omega) hk q hT rT.1 rS ra.1 ra.2 (fun J' l' q1 q2 q3 => step J' l' q1 q2 (zl_isl_iff (fun x y => ?_) q3))
        refine ⟨by rcases hk with q | q | q | q | q | q <;> omega, fun q => leaf (.inl q), fun q => ⟨fun q2 => ⟨fun q3 => ⟨fun q4 => ⟨fun q5 => ?_, fun q5 => ?_⟩, fun q4 => ?_⟩, fun q3 => ?_⟩, fun q2 => leaf (.inr q2)⟩⟩
        · have hb : 2 ≤ A.2 i 0 ∧ A.2 i 0 ≤ 8 ∧ 0 ≤ A.2 i 1 ∧ A.2 i 1 < i ∧ 0 ≤ A.2 i 2 ∧ A.2 i 2 < i := by rcases hk with q | q | q | q | q | q <;> omega
          obtain ⟨u, hu⟩ : ∃ u : Nat, A.2 i 1 = (u : Int) := ⟨(A.2 i 1).toNat, by omega⟩
          obtain ⟨v, hv⟩ : ∃ v : Nat, A.2 i 2 = (v : Int) := ⟨(A.2 i 2).toNat, by omega⟩
          rw [hu, hv]
          refine ⟨by omega, by omega, s_194 (by omega) (by omega) (by omega) (by omega) (gd u (by omega)).1 (gd v (by omega)).1 (rL u (by omega)) (rL v (by omega)) (fun J' l' q1 q2 q3 => step J' l' (zm_k_fr q1) q2 (zl_isl_iff (fun x y => ?_) q3))⟩
          unfold zk_off
          rw [hu, hv, Int.toNat_natCast, Int.toNat_natCast]
          constructor
          · exact fun r => .inr (.inr (.inr (.inr ⟨by omega, by omega, r⟩)))
          · rintro (⟨r, -⟩ | ⟨r, -⟩ | ⟨r, -⟩ | ⟨r, -⟩ | ⟨-, -, r⟩)
            · omega
            · omega
            · omega
            · omega
            · exact r
        · have hb : 0 ≤ A.2 i 1 ∧ A.2 i 1 < i ∧ 0 ≤ A.2 i 2 ∧ A.2 i 2 < i ∧ 0 ≤ A.2 i 3 ∧ A.2 i 3 < i ∧ 1 ≤ A.2 i 4 ∧ A.2 i 4 ≤ 3 := by rcases hk with q | q | q | q | q | q <;> omega
          obtain ⟨u, hu⟩ : ∃ u : Nat, A.2 i 1 = (u : Int) := ⟨(A.2 i 1).toNat, by omega⟩
          obtain ⟨v, hv⟩ : ∃ v : Nat, A.2 i 2 = (v : Int) := ⟨(A.2 i 2).toNat, by omega⟩
          obtain ⟨w, hw⟩ : ∃ w : Nat, A.2 i 3 = (w : Int) := ⟨(A.2 i 3).toNat, by omega⟩
          refine s_193 (A := A) (by omega) hT.1 (by omega) (by omega) (by omega) (by omega) (by omega) (by omega) (gd u (by omega)) (gd v (by omega)) (gd w (by omega)) hu hv hw (by omega) (rL u (by omega)) (rL v (by omega)) (rL w (by omega)) ra.2 (fun J' l' q1 q2 q3 => step J' l' q1 q2 (zl_isl_iff (fun x y => ?_) q3))
          unfold zk_off
          rw [hu, hv, hw, Int.toNat_natCast, Int.toNat_natCast, Int.toNat_natCast]
          constructor
          · exact fun r => .inr (.inr (.inr (.inl ⟨by omega, r⟩)))
          · rintro (⟨r, -⟩ | ⟨r, -⟩ | ⟨r, -⟩ | ⟨-, r⟩ | ⟨-, r, -⟩)
            · omega
            · omega
            · omega
            · exact r
            · omega
        · have hb : 0 ≤ A.2 i 1 ∧ A.2 i 1 < i ∧ 1 ≤ A.2 i 2 ∧ A.2 i 2 ≤ 60 := by rcases hk with q | q | q | q | q | q <;> omega
          obtain ⟨u, hu⟩ : ∃ u : Nat, A.2 i 1 = (u : Int) := ⟨(A.2 i 1).toNat, by omega⟩
          refine s_190 (A := A) (by omega) (by omega) (gd u (by omega)).1 hu (by omega) (rL u (by omega)) ra.2 (fun J' l' q1 q2 q3 => step J' l' q1 q2 (zl_isl_iff (fun x y => ?_) q3))
          unfold zk_off
          rw [hu, Int.toNat_natCast]
          constructor
          · exact fun r => .inr (.inr (.inl ⟨by omega, r⟩))
          · rintro (⟨r, -⟩ | ⟨r, -⟩ | ⟨-, r⟩ | ⟨r, -⟩ | ⟨-, r, -⟩)
            · omega
            · omega
            · exact r
            · omega
            · omega
        · have hb : 0 ≤ A.2 i 1 ∧ A.2 i 1 ≤ 2 := by rcases hk with q | q | q | q | q | q <;> omega
          refine s_188 (A := A) (by omega) hb hT rT.1 (fun k hk => (rT.2.1 k hk).2) ra.2 (fun J' l' q1 q2 q3 => step J' l' q1 q2 (zl_isl_iff (fun x y => ?_) q3))
          unfold zk_off
          constructor
          · exact fun r => .inr (.inl ⟨by omega, r⟩)
          · rintro (⟨r, -⟩ | ⟨-, r⟩ | ⟨r, -⟩ | ⟨r, -⟩ | ⟨-, r, -⟩)
            · omega
            · exact r
            · omega
            · omega
            · omega
        · unfold zk_off
          constructor
          · exact fun r => .inl ⟨q, r⟩
          · rintro (⟨-, r⟩ | ⟨r, -⟩ | ⟨r, -⟩ | ⟨r, -⟩ | ⟨r, -, -⟩)
            · exact r
            · omega
            · omega
            · omega
            · omega
theorem s_182 {xs : Nat → Int32} {L d : Nat} {J K : jZ} {P : jZ → jZ → Prop} {T : zT} {A : zA} {wo : Int} (hT : zt_ok T) (hA : zA_ok A) (hw : -1 ≤ wo ∧ wo < 16) (rT : mT_at J T) (rA : mA_at J A) (hwo : J 167 37 = wo) (h : ∀ J', (∀ b, b ≠ 194 → b ≠ 195 → b ≠ 196 → b ≠ 197 → b ≠ 198 → J' b = J b) → mL_at J' wo T A A.1 → P J' K) : q_182 xs L (d + 7) J K P :=
  e_182 (s_183 hT hw rT hwo (fun J1 f1 S1 => s_182_6 hT hA A.1 0 J1 (by omega) (mT_of rT (by rw [f1 167 (by omega)]) (f1 184 (by omega)) (f1 185 (by omega)) (f1 186 (by omega))) (mA_of rA (by rw [f1 167 (by omega)]) (f1 187 (by omega)) (f1 188 (by omega))) S1 (fun j hj => by omega) (fun J' f2 L2 => h J' (fun b q0 q1 q2 q3 q4 => by rw [f2 b q1 q2 q3 q4, f1 b q0]) L2)))
/-- the reference's lists stand, once it has worked -/
def mW_at (J : jZ) (T : zT) (A : zA) : Prop := (J 167 26 = 0 ∨ J 167 26 = 1) ∧ (J 167 26 = 1 → mL_at J (-1) T A A.1)
theorem s_181 {xs : Nat → Int32} {L d : Nat} {J K : jZ} {P : jZ → jZ → Prop} {T : zT} {A : zA} (hT : zt_ok T) (hA : zA_ok A) (rT : mT_at J T) (rA : mA_at J A) (hwo : J 167 37 = -1) (rW : mW_at J T A) (h : ∀ J', (∀ b, b ≠ 167 → b ≠ 194 → b ≠ 195 → b ≠ 196 → b ≠ 197 → b ≠ 198 → J' b = J b) → (∀ k, k ≠ 26 → J' 167 k = J 167 k) → J' 167 26 = 1 → mL_at J' (-1) T A A.1 → P J' K) : q_181 xs L (d + 8) J K P := by
  refine e_181 ⟨by have := rW.1; omega, fun q => ?_, fun q => s_182 hT hA (by omega) rT rA hwo (fun J' f1 L1 => h _ (fun b q0 q1 q2 q3 q4 q5 => by rw [zu_row q0, f1 b q1 q2 q3 q4 q5]) (fun k hk => by rw [zu_key hk, f1 167 (by omega) (by omega) (by omega) (by omega) (by omega)]) zu_self (fun i hi => ?_))⟩
  · have q1 : J 167 26 = 1 := by have := rW.1; omega
    exact h J (fun _ _ _ _ _ _ _ => rfl) (fun _ _ => rfl) q1 (rW.2 q1)
  · have := L1 i hi
    exact ⟨by rw [zu_row (by omega)]; exact this.1, fun k hk => by rw [zu_row (by omega), zu_row (by omega)]; exact this.2 k hk⟩
