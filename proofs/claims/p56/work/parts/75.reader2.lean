/-! The class's reader: numbers and phrases. -/
def zdw (B : zB) (m : Int) (a p : Nat) : Int := if p ≤ a + 2 then zdv B a p else m + 1
theorem zdw_0 {B : zB} {m : Int} {a : Nat} : zdw B m a a = 0 := by
  unfold zdw zdv
  rw [if_pos (by omega), if_pos rfl]
theorem zdw_s {B : zB} {m : Int} {a p : Nat} (ha : a ≤ p) : zdw B m a (p + 1) = if 2 ≤ (p : Int) - a then m + 1 else 10 * zdw B m a p + B.2 p - 48 := by
  unfold zdw zdv
  by_cases c : p = a
  · subst c
    rw [if_pos (by omega), if_neg (by omega), if_pos rfl, if_neg (by omega), if_pos (by omega), if_pos rfl]
    omega
  · by_cases c2 : p = a + 1
    · subst c2
      rw [if_pos (by omega), if_neg (by omega), if_neg (by omega), if_neg (by omega), if_pos (by omega), if_neg (by omega), if_pos rfl]
    · rw [if_neg (by omega), if_pos (by omega)]
section RN
variable {J0 : jZ} {T : zT} {A M : zA} {B : zB} {f w m : Int} {ws ss : List Int}
theorem s_85_149 {xs : Nat → Int32} {L d : Nat} {J K : jZ} {P : Int → jZ → jZ → Prop} {a p : Nat} (hB : zB_ok B) (hm : 1 ≤ m ∧ m ≤ 60) (ha : a ≤ p) (hp : p ≤ B.1) (hS : cS J0 T A J p f w ws ss M) (h9 : 0 ≤ zdw B m a p ∧ zdw B m a p ≤ 99) (h : p ≤ a + 2 ∧ 1 ≤ zdv B a p ∧ zdv B a p ≤ m → ∀ J', cS J0 T A J' p f w ws ss M → P (zdv B a p) J' K) (hb : ¬ (p ≤ a + 2 ∧ 1 ≤ zdv B a p ∧ zdv B a p ≤ m) → ∀ J', cS J0 T A J' p (a : Int) w ws ss M → P 0 J' K) : l_85_149 xs L (d + 0) m (a : Int) (zdw B m a p) J K P := by
  have bad : ¬ (p ≤ a + 2 ∧ 1 ≤ zdv B a p ∧ zdv B a p ≤ m) → l_85_159 xs L (d + 0) (a : Int) J K P := fun q => e_85_159 (hb q _ (cS_f hS))
  by_cases c : p ≤ a + 2
  · have e : zdw B m a p = zdv B a p := by
      unfold zdw
      rw [if_pos c]
    rw [e] at h9 ⊢
    exact e_85_149 ⟨by omega, fun q => bad (by omega), fun q => ⟨by omega, fun q2 => h ⟨c, q, q2⟩ J hS, fun q2 => bad (by omega)⟩⟩
  · have e : zdw B m a p = m + 1 := by
      unfold zdw
      rw [if_neg c]
    rw [e]
    exact e_85_149 ⟨by omega, fun q => bad (by omega), fun q => ⟨by omega, fun q2 => by omega, fun q2 => bad (by omega)⟩⟩
theorem s_85_51 {xs : Nat → Int32} {L d : Nat} {K : jZ} {P : Int → jZ → jZ → Prop} {a : Nat} (hB : zB_ok B) (h0 : cB_at J0 B) (hm : 1 ≤ m ∧ m ≤ 60) (hA : A.1 ≤ 24) (h : zde B a ≤ a + 2 ∧ 1 ≤ zdv B a (zde B a) ∧ zdv B a (zde B a) ≤ m → ∀ J', cS J0 T A J' (zde B a) f w ws ss M → P (zdv B a (zde B a)) J' K) (hb : ¬ (zde B a ≤ a + 2 ∧ 1 ≤ zdv B a (zde B a) ∧ zdv B a (zde B a) ≤ m) → ∀ J', cS J0 T A J' (zde B a) (a : Int) w ws ss M → P 0 J' K) : ∀ (n p : Nat) (J : jZ), p + n = B.1 → a ≤ p → zde B p = zde B a → (p = a → zdw B m a p = 0) → (p = a + 1 → 0 ≤ zdw B m a p ∧ zdw B m a p ≤ 9) → 0 ≤ zdw B m a p ∧ zdw B m a p ≤ 99 → cS J0 T A J p f w ws ss M → l_85_51 xs L (d + 0) m (a : Int) (zdw B m a p) J K P
  | n, p, J, hn, ha, hz, z0, z1, h9, hS => by
    have h250 := hB.1
    have e6 := hS.2.2.2.2.2.1
    have r144 : J 144 = J0 144 := hS.1 144 (by omega) (by omega) (by omega) (by omega)
    have r145 : J 145 = J0 145 := hS.1 145 (by omega) (by omega) (by omega) (by omega)
    have b1 : J 144 1 = (B.1 : Int) := by rw [r144]; exact h0.1
    have fin : zde B p = p → l_85_149 xs L (d + 0) m (a : Int) (zdw B m a p) J K P := fun q => by
      rw [← hz, q] at h hb
      exact s_85_149 hB hm ha (by omega) hS h9 h hb
    refine e_85_51 ⟨by omega, by omega, fun q => fin (zde_n (by omega)), fun q => ⟨by omega, ?_⟩⟩
    match n, hn with
    | 0, hn => omega
    | n + 1, hn =>
      have b := hB.2 p (by omega)
      rw [e6, Int.toNat_natCast, r145, h0.2 p (by omega)]
      refine ⟨by omega, fun q2 => fin (zde_f (by omega)), fun q2 => ⟨fun q3 => fin (zde_f (by omega)), fun q3 => ⟨by omega, fun q4 => ?_, fun q4 => ?_⟩⟩⟩
      · have s := zdw_s (B := B) (m := m) ha
        rw [if_pos (by omega)] at s
        have ih := s_85_51 hB h0 hm hA h hb n (p + 1) (jm_up J 146 6 ((p : Int) + 1)) (by omega) (by omega) (by rw [← zde_t (by omega) ⟨q2, q3⟩]; exact hz) (fun t => by omega) (fun t => by omega) (by omega) (cS_p hS (by omega)) (xs := xs) (L := L) (d := d)
        rw [s] at ih
        exact ih
      · have s := zdw_s (B := B) (m := m) ha
        rw [if_neg (by omega)] at s
        have pc : p = a ∨ p = a + 1 := by omega
        have r : 0 ≤ 10 * zdw B m a p + B.2 p - 48 ∧ 10 * zdw B m a p + B.2 p - 48 ≤ 99 := by
          rcases pc with c | c
          · have := z0 c
            omega
          · have := z1 c
            omega
        have ih := s_85_51 hB h0 hm hA h hb n (p + 1) (jm_up J 146 6 ((p : Int) + 1)) (by omega) (by omega) (by rw [← zde_t (by omega) ⟨q2, q3⟩]; exact hz) (fun t => by omega) (fun t => by
          have := z0 (by omega)
          omega) (by omega) (cS_p hS (by omega)) (xs := xs) (L := L) (d := d)
        rw [s] at ih
        exact ih
theorem s_85_44 {xs : Nat → Int32} {L d : Nat} {J K : jZ} {P : Int → jZ → jZ → Prop} {p q : Nat} (hB : zB_ok B) (h0 : cB_at J0 B) (hm : 1 ≤ m ∧ m ≤ 60) (hA : A.1 ≤ 24) (hp : p ≤ B.1) (hq : zsk B p = q) (hqp : zsk B q = q) (hq1 : q ≤ B.1) (h : zNo B m p → ∀ J', cS J0 T A J' (zNe B p) f w ws ss M → P (zNv B p) J' K) (hb : ¬ zNo B m p → ∀ J', cS J0 T A J' (zNe B p) (zNa B p : Int) w ws ss M → P 0 J' K) (hS : cS J0 T A J q f w ws ss M) : l_85_44 xs L (d + 0) m J K P := by
  have e6 := hS.2.2.2.2.2.1
  refine e_85_44 ?_
  rw [e6]
  have ea : zNa B p = q := hq
  have ee : zNe B p = zde B q := by
    unfold zNe
    rw [hq]
  unfold zNo zNv at h hb
  rw [ee, ea] at h hb
  have z := s_85_51 (xs := xs) (L := L) (d := d) hB h0 hm hA h hb (B.1 - q) q J (by omega) (Nat.le_refl _) rfl (fun _ => zdw_0) (fun t => by omega) (by rw [zdw_0]; omega) hS
  rw [zdw_0] at z
  exact z
theorem s_85_0 {xs : Nat → Int32} {L d : Nat} {K : jZ} {P : Int → jZ → jZ → Prop} {p0 : Nat} (hB : zB_ok B) (h0 : cB_at J0 B) (hm : 1 ≤ m ∧ m ≤ 60) (hA : A.1 ≤ 24) (hp0 : p0 ≤ B.1) (h : zNo B m p0 → ∀ J', cS J0 T A J' (zNe B p0) f w ws ss M → P (zNv B p0) J' K) (hb : ¬ zNo B m p0 → ∀ J', cS J0 T A J' (zNe B p0) (zNa B p0 : Int) w ws ss M → P 0 J' K) : ∀ (n p : Nat) (J : jZ), p + n = B.1 → zsk B p = zsk B p0 → cS J0 T A J p f w ws ss M → l_85_0 xs L (d + 0) m J K P
  | n, p, J, hn, hz, hS => by
    have h250 := hB.1
    have e6 := hS.2.2.2.2.2.1
    have r144 : J 144 = J0 144 := hS.1 144 (by omega) (by omega) (by omega) (by omega)
    have r145 : J 145 = J0 145 := hS.1 145 (by omega) (by omega) (by omega) (by omega)
    have b1 : J 144 1 = (B.1 : Int) := by rw [r144]; exact h0.1
    have fin : zsk B p = p → l_85_44 xs L (d + 0) m J K P := fun q => s_85_44 hB h0 hm hA hp0 (by rw [← hz, q]) q (by omega) h hb hS
    refine e_85_0 ⟨by omega, by omega, fun q => fin (zsk_n (by omega)), fun q => ⟨by omega, ?_⟩⟩
    match n, hn with
    | 0, hn => omega
    | n + 1, hn =>
      have b := hB.2 p (by omega)
      rw [e6, Int.toNat_natCast, r145, h0.2 p (by omega)]
      exact ⟨by omega, fun q2 => fin (zsk_f q2), fun q2 => s_85_0 hB h0 hm hA hp0 h hb n (p + 1) _ (by omega) (by rw [← zsk_t (by omega) q2]; exact hz) (cS_p hS (by omega))⟩
theorem s_85 {xs : Nat → Int32} {L d : Nat} {J K : jZ} {P : Int → jZ → jZ → Prop} {p : Nat} (hB : zB_ok B) (h0 : cB_at J0 B) (hm : 1 ≤ m ∧ m ≤ 60) (hA : A.1 ≤ 24) (hp : p ≤ B.1) (hS : cS J0 T A J p f w ws ss M) (h : zNo B m p → ∀ J', cS J0 T A J' (zNe B p) f w ws ss M → P (zNv B p) J' K) (hb : ¬ zNo B m p → ∀ J', cS J0 T A J' (zNe B p) (zNa B p : Int) w ws ss M → P 0 J' K) : q_85 xs L (d + 1) m J K P := by
  have h250 := hB.1
  have e6 := hS.2.2.2.2.2.1
  have r144 : J 144 = J0 144 := hS.1 144 (by omega) (by omega) (by omega) (by omega)
  have r145 : J 145 = J0 145 := hS.1 145 (by omega) (by omega) (by omega) (by omega)
  have b1 : J 144 1 = (B.1 : Int) := by rw [r144]; exact h0.1
  have fin : zsk B p = p → l_85_44 xs L (d + 0) m J K P := fun q => s_85_44 hB h0 hm hA hp q q hp h hb hS
  refine e_85 ⟨by omega, by omega, fun q => fin (zsk_n (by omega)), fun q => ⟨by omega, ?_⟩⟩
  have b := hB.2 p (by omega)
  rw [e6, Int.toNat_natCast, r145, h0.2 p (by omega)]
  exact ⟨by omega, fun q2 => fin (zsk_f q2), fun q2 => s_85_0 hB h0 hm hA hp h hb (B.1 - (p + 1)) (p + 1) _ (by omega) (by rw [← zsk_t (by omega) q2]) (cS_p hS (by omega))⟩
end RN
-- phrases
theorem zq_rn_c {v u : Nat → Int} : ∀ N : Nat, (∀ k, k < N → v k = u k) → zq_rn v N = zq_rn u N
  | 0, _ => rfl
  | N + 1, h => by
    show jz_or (zq_rn v N) (jz_shl (v N) (4 * (N : Int))) = jz_or (zq_rn u N) (jz_shl (u N) (4 * (N : Int)))
    rw [zq_rn_c N (fun k hk => h k (by omega)), h N (by omega)]
theorem s_83_4 {xs : Nat → Int32} {L d : Nat} {K : jZ} {P : jZ → jZ → Prop} {J0 : jZ} {T : zT} {A M : zA} {B : zB} {ws ss : List Int} (hB : zB_ok B) (h0 : cB_at J0 B) (hA : A.1 ≤ 24) (hM : M.1 ≤ 1000) (hl : ws.length < 250) : ∀ (n p N : Nat) (v : Nat → Int) (J : jZ), p + n = B.1 → N ≤ 4 → zq_w4 v N → cS J0 T A J p (-1) 1 ws ss M → ((zPk B n p N v).1 = -1 → ∀ J', cS J0 T A J' (zPk B n p N v).2.2.2 (-1) 0 ((M.1 : Int) :: ws) ss (zA_a M (zr_ph (zPk B n p N v).2.2.1 (zPk B n p N v).2.1)) → P J' K) → (¬ (zPk B n p N v).1 = -1 → ∀ J' p', p' ≤ B.1 → cS J0 T A J' p' (zPk B n p N v).1 1 ws ss M → P J' K) → l_83_4 xs L (d + 3) (zq_rn v N) (N : Int) J K P
  | n, p, N, v, J, hn, hN, hv, hS, h, hb => by
    have h250 := hB.1
    have e6 := hS.2.2.2.2.2.1
    have r144 : J 144 = J0 144 := hS.1 144 (by omega) (by omega) (by omega) (by omega)
    have r145 : J 145 = J0 145 := hS.1 145 (by omega) (by omega) (by omega) (by omega)
    have b1 : J 144 1 = (B.1 : Int) := by rw [r144]; exact h0.1
    refine e_83_4 ⟨by omega, by omega, fun q => ?_, fun q => ⟨by omega, ?_⟩⟩
    · obtain rfl : n = 0 := by omega
      rw [b1]
      rw [zPk] at hb
      exact hb (by dsimp only; omega) _ p (by omega) (cS_f hS)
    · match n, hn, h, hb with
      | 0, hn, _, _ => omega
      | n + 1, hn, h, hb =>
        have b := hB.2 p (by omega)
        rw [e6, Int.toNat_natCast, r145, h0.2 p (by omega)]
        rw [zPk] at h hb
        have t89 : ¬ ((97 ≤ B.2 p ∧ B.2 p < 113) ∧ N < 4) → ¬ (B.2 p = 39 ∧ 2 ≤ N) → l_83_89 xs L (d + 3) (zq_rn v N) (N : Int) (B.2 p) J K P := fun c1 c2 => by
          rw [if_neg c1, if_neg c2] at h hb
          refine e_83_89 ⟨by omega, fun q2 => e_83_104 ?_, fun q2 => ?_⟩
          · rw [if_pos q2] at h hb
            rw [e6]
            exact s_83_4 hB h0 hA hM hl n (p + 1) N v _ (by omega) hN hv (cS_p hS (by omega)) h hb
          · rw [if_neg q2] at hb
            rw [e6]
            exact hb (by dsimp only; omega) _ p (by omega) (cS_f hS)
        have t60 : ¬ ((97 ≤ B.2 p ∧ B.2 p < 113) ∧ N < 4) → l_83_60 xs L (d + 3) (zq_rn v N) (N : Int) (B.2 p) J K P := fun c1 => by
          refine e_83_60 ⟨by omega, fun q2 => t89 c1 (fun c => q2 c.1), fun q2 => ⟨by omega, fun q3 => t89 c1 (fun c => by omega), fun q3 => ?_⟩⟩
          have c2 : B.2 p = 39 ∧ 2 ≤ N := ⟨q2, by omega⟩
          rw [if_neg c1, if_pos c2] at h
          rw [e6]
          have hN2 : 2 ≤ N ∧ N ≤ 4 := ⟨c2.2, hN⟩
          have l : zk_len (zr_ph v N) = N := by
            unfold zk_len
            rw [if_pos (.inr rfl), zr_ph_sz hN2 hv]
          refine s_79 (cS_p (p' := p + 1) hS (by omega)) (zr_ph_ok hN2 hv) (.inr (.inl rfl)) rfl (by rw [l]) (zq_rn_0 hN hv (by omega)) (fun k hk => ?_) hl hM (h rfl)
          rw [l] at hk
          rw [zr_ph_v hk hN]
          exact zq_rn_d hN hv hk
        refine ⟨by omega, fun q2 => ⟨by omega, fun q3 => t60 (by omega), fun q3 => e_83_104 ?_⟩, fun q2 => t60 (fun c => q2 c.1)⟩
        have c1 : (97 ≤ B.2 p ∧ B.2 p < 113) ∧ N < 4 := ⟨q2, by omega⟩
        rw [if_pos c1] at h hb
        rw [e6]
        have ih := s_83_4 (xs := xs) (L := L) (d := d) hB h0 hA hM hl n (p + 1) (N + 1) (fun i => if i = N then B.2 p - 97 else v i) (jm_up J 146 6 ((p : Int) + 1)) (by omega) (by omega) (fun k hk => by
          dsimp only
          split
          · omega
          · exact hv k (by omega)) (cS_p hS (by omega)) h hb
        have e : zq_rn (fun i => if i = N then B.2 p - 97 else v i) (N + 1) = jz_or (zq_rn v N) (jz_shl (B.2 p - 97) (4 * (N : Int))) := by
          show jz_or (zq_rn (fun i => if i = N then B.2 p - 97 else v i) N) (jz_shl (if N = N then B.2 p - 97 else v N) (4 * (N : Int))) = _
          rw [if_pos rfl, zq_rn_c (u := v) N (fun k hk => if_neg (by omega))]
        rw [e] at ih
        exact ih
theorem s_83 {xs : Nat → Int32} {L d : Nat} {J K : jZ} {P : jZ → jZ → Prop} {J0 : jZ} {T : zT} {A M : zA} {B : zB} {ws ss : List Int} {p : Nat} (hB : zB_ok B) (h0 : cB_at J0 B) (hA : A.1 ≤ 24) (hM : M.1 ≤ 1000) (hl : ws.length < 250) (hp : p ≤ B.1) (hS : cS J0 T A J p (-1) 1 ws ss M) (h : (zP B p).1 = -1 → ∀ J', cS J0 T A J' (zP B p).2.2.2 (-1) 0 ((M.1 : Int) :: ws) ss (zA_a M (zr_ph (zP B p).2.2.1 (zP B p).2.1)) → P J' K) (hb : ¬ (zP B p).1 = -1 → ∀ J' p', p' ≤ B.1 → cS J0 T A J' p' (zP B p).1 1 ws ss M → P J' K) : q_83 xs L (d + 4) J K P :=
  e_83 (s_83_4 hB h0 hA hM hl (B.1 - p) p 0 (fun _ => 0) J (by omega) (by omega) (fun k hk => by omega) hS h hb)
