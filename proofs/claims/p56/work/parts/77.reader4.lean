/-! The class's reader, through. -/
def zFn (A : zA) (T : zT) (J0 K : jZ) (P : Int → jZ → jZ → Prop) (o : Int × zA) : Prop := (o.1 = -1 → o.2.1 ≤ 1000 → ∀ J' p' w ws ss, cS J0 T A J' p' (-1) w ws ss o.2 → P (-1) J' K) ∧ (¬ o.1 = -1 → ∀ J' p' w ws ss M', cS J0 T A J' p' o.1 w ws ss M' → P o.1 J' K)
theorem s_77_166 {xs : Nat → Int32} {L d : Nat} {J K : jZ} {P : Int → jZ → jZ → Prop} {J0 : jZ} {T : zT} {A M : zA} {p : Nat} {f w : Int} {ws ss : List Int} (hS : cS J0 T A J p f w ws ss M) (h : P f J K) : l_77_166 xs L (d + 5) J K P := by
  refine e_77_166 ?_
  rw [hS.2.2.2.2.2.2.1]
  exact h
theorem s_77_f {xs : Nat → Int32} {L d : Nat} {J K : jZ} {P : Int → jZ → jZ → Prop} {J0 : jZ} {T : zT} {A M : zA} {B : zB} {p : Nat} {f w : Int} {ws ss : List Int} (hB : zB_ok B) (h0 : cB_at J0 B) (hp : p ≤ 300) (hf : 0 ≤ f ∧ f ≤ 300) (hS : cS J0 T A J p f w ws ss M) (h : P f J K) : l_77_36 xs L (d + 5) J K P := by
  have h250 := hB.1
  have e6 := hS.2.2.2.2.2.1
  have e7 := hS.2.2.2.2.2.2.1
  have r144 : J 144 = J0 144 := hS.1 144 (by omega) (by omega) (by omega) (by omega)
  have b1 : J 144 1 = (B.1 : Int) := by rw [r144]; exact h0.1
  have a113 : l_77_113 xs L (d + 5) J K P := e_77_113 ⟨by omega, fun _ => e_77_133 ⟨by omega, fun _ => s_77_166 hS h, fun q => by omega⟩, fun q => by omega⟩
  exact e_77_36 ⟨by omega, by omega, fun _ => a113, fun _ => ⟨by omega, fun _ => a113, fun q => by omega⟩⟩
theorem s_77_36 {xs : Nat → Int32} {L d : Nat} {K : jZ} {P : Int → jZ → jZ → Prop} {J0 : jZ} {T : zT} {A : zA} {B : zB} (hB : zB_ok B) (h0 : cB_at J0 B) (hA : A.1 ≤ 24) : ∀ (n p : Nat) (t : Int) (st : zK) (M : zA) (J : jZ), B.1 < n + p → p ≤ B.1 → ((t = -1 ∧ cS J0 T A J p (-1) 1 (zfl st) (zsg st) M) ∨ ((0 ≤ t ∧ t < (M.1 : Int)) ∧ cS J0 T A J p (-1) 0 (t :: zfl st) (zsg st) M)) → zV M.1 st → M.1 + st.length ≤ 24 + p → st.length ≤ p → (t = -1 → (zfl st).length ≤ p) → (¬ t = -1 → (zfl st).length + 1 ≤ p) → zFn A T J0 K P (zG B n p t st M) → l_77_36 xs L (d + 5) J K P
  | 0, p, t, st, M, J, hn, hp, hS, hV, hM, hl, hw, hw2, h => by omega
  | n + 1, p, t, st, M, J, hn, hp, hS, hV, hM, hl, hw, hw2, h => by
    have h250 := hB.1
    have core : ∃ w ws, cS J0 T A J p (-1) w ws (zsg st) M ∧ ((t = -1 ∧ w = 1 ∧ ws = zfl st) ∨ ((0 ≤ t ∧ t < (M.1 : Int)) ∧ w = 0 ∧ ws = t :: zfl st)) := by
      rcases hS with q | q
      · exact ⟨1, _, q.2, .inl ⟨q.1, rfl, rfl⟩⟩
      · exact ⟨0, _, q.2, .inr ⟨q.1, rfl, rfl⟩⟩
    obtain ⟨w, ws, C, hc⟩ := core
    have zM0 := C.2.2.1
    have e5 := C.2.2.2.2.1.1
    have e6 := C.2.2.2.2.2.1
    have e7 := C.2.2.2.2.2.2.1
    have e8 := C.2.2.2.2.2.2.2.1
    have r144 : J 144 = J0 144 := C.1 144 (by omega) (by omega) (by omega) (by omega)
    have r145 : J 145 = J0 145 := C.1 145 (by omega) (by omega) (by omega) (by omega)
    have b1 : J 144 1 = (B.1 : Int) := by rw [r144]; exact h0.1
    have ih := s_77_36 (xs := xs) (L := L) (d := d) (K := K) (P := P) (T := T) hB h0 hA n
    -- a fault, and on
    have flt : ∀ (J1 : jZ) (p1 : Nat) (f : Int) (w1 : Int) (ws1 ss1 : List Int) (M1 : zA), zFn A T J0 K P (f, M1) → p1 ≤ 300 → 0 ≤ f ∧ f ≤ 300 → cS J0 T A J1 p1 f w1 ws1 ss1 M1 → l_77_110 xs L (d + 5) J1 K P := fun J1 p1 f w1 ws1 ss1 M1 hh a1 a2 S1 => e_77_110 (s_77_f hB h0 a1 a2 S1 (hh.2 (by show ¬ f = -1; omega) J1 p1 w1 ws1 ss1 M1 S1))
    refine e_77_36 ⟨by omega, by omega, fun q => ?_, fun q => ⟨by omega, fun q2 => by omega, fun _ => ⟨by omega, ?_⟩⟩⟩
    · obtain rfl : p = B.1 := by omega
      rw [zG_e (by omega)] at h
      unfold zEn at h
      rcases hc with ⟨ht, rfl, rfl⟩ | ⟨ht, rfl, rfl⟩
      · rw [if_pos ht] at h
        refine e_77_113 ⟨by omega, fun q2 => by omega, fun _ => ⟨by omega, fun _ => ?_, fun q2 => by omega⟩⟩
        refine e_77_133 ⟨by omega, fun q2 => by omega, fun _ => ⟨by omega, fun _ => e_77_155 ?_, fun q2 => by omega⟩⟩
        rw [b1]
        exact s_77_166 (cS_f C) (h.2 (by show ¬ (B.1 : Int) = -1; omega) _ _ _ _ _ _ (cS_f C))
      · rw [if_neg (by omega)] at h
        refine e_77_113 ⟨by omega, fun q2 => by omega, fun _ => ⟨by omega, fun q2 => by omega, fun _ => ?_⟩⟩
        have v := zJ_v (A := A) (b := 2) st t M zM0 hV ht
        refine s_88 (by omega) C hV ht (by omega) (fun J1 S1 => ?_)
        have f5 := S1.2.2.2.2.1.1
        have f7 := S1.2.2.2.2.2.2.1
        have f8 := S1.2.2.2.2.2.2.2.1
        have g144 : J1 144 = J0 144 := S1.1 144 (by omega) (by omega) (by omega) (by omega)
        have c1 : J1 144 1 = (B.1 : Int) := by rw [g144]; exact h0.1
        have l2 := zsg_l (zJ 2 t st M).2.1
        refine e_77_133 ⟨by omega, fun q2 => by omega, fun _ => ⟨by omega, fun q2 => by omega, fun _ => ⟨by omega, fun q2 => ?_, fun q2 => e_77_155 ?_⟩⟩⟩
        · have e : (zJ 2 t st M).2.1 = [] := List.length_eq_zero_iff.mp (by omega)
          have hz : zFi B (zJ 2 t st M) = (-1, (zJ 2 t st M).2.2) := by
            unfold zFi
            rw [e]
          rw [hz] at h
          exact s_77_166 S1 (h.1 rfl (by show (zJ 2 t st M).2.2.1 ≤ 1000; omega) _ _ _ _ _ S1)
        · have hz : zFi B (zJ 2 t st M) = ((B.1 : Int), (zJ 2 t st M).2.2) := by
            unfold zFi
            cases e : (zJ 2 t st M).2.1 with
            | nil =>
              rw [e] at l2
              have l2 : (zsg (zJ 2 t st M).2.1).length = 0 := by
                rw [e]
                rfl
              omega
            | cons a b => rfl
          rw [hz] at h
          rw [c1]
          exact s_77_166 (cS_f S1) (h.2 (by show ¬ (B.1 : Int) = -1; omega) _ _ _ _ _ _ (cS_f S1))
    · have lt : p < B.1 := by omega
      have b := hB.2 p lt
      rw [e6, Int.toNat_natCast, r145, h0.2 p lt]
      have Cp : cS J0 T A (jm_up J 146 6 ((p : Int) + 1)) (p + 1) (-1) w ws (zsg st) M := cS_p C (by omega)
      refine ⟨by omega, fun q2 => ⟨by omega, fun q3 => ?_, fun q3 => ?_⟩, fun q2 => ?_⟩
      · -- behind an ask
        have hc : (0 ≤ t ∧ t < (M.1 : Int)) ∧ w = 0 ∧ ws = t :: zfl st := by
          rcases hc with c | c
          · omega
          · exact c
        obtain ⟨ht, rfl, rfl⟩ := hc
        have nt : ¬ t = -1 := by omega
        have hw2 := hw2 nt
        have kr := zki_r (B.2 p)
        refine e_86 (s_87 (by omega) ⟨by omega, fun q4 => ⟨by omega, fun q5 => s_88 (by omega) Cp hV ht (by omega) (fun J1 S1 => ?_), fun q5 => s_88 (by omega) Cp hV ht (by omega) (fun J1 S1 => e_95 ?_)⟩, fun q4 => s_88 (by omega) Cp hV ht (by omega) (fun J1 S1 => ?_)⟩)
        · rw [zG_c lt q2 nt q4 q5] at h
          unfold zCl at h
          have v := zJ_v (A := A) (b := 2) st t M zM0 hV ht
          have l2 := zsg_l (zJ 2 t st M).2.1
          generalize zJ 2 t st M = Q at *
          obtain ⟨t1, st1, M1⟩ := Q
          dsimp only at *
          refine s_96 (by omega) S1 v.2.1 v.2.2.1 (by omega) (fun hno => ⟨by omega, fun q6 => by omega, fun _ => ?_⟩) (fun e st' es c J2 S2 => ⟨by omega, fun _ => e_77_110 ?_, fun q6 => by omega⟩) (fun e st' es c J2 S2 => ⟨by omega, fun _ => e_77_110 ?_, fun q6 => by omega⟩) (fun e st' es c J2 S2 => ⟨by omega, fun _ => e_77_110 ?_, fun q6 => by omega⟩)
          · rw [zu_self, show (p : Int) + 1 - 1 = (p : Int) by omega]
            refine flt _ (p + 1) (p : Int) _ _ _ M1 ?_ (by omega) (by omega) (cS_f S1)
            cases st1 with
            | nil => exact h
            | cons e st' =>
              have no := hno e st' rfl
              dsimp only at h
              rw [if_neg no.1, if_neg no.2.1, if_neg no.2.2] at h
              exact h
          · subst es
            dsimp only at h
            rw [if_pos c] at h
            obtain ⟨v1, v2⟩ := zV_h v.2.1
            have l3 : (zfl st').length ≤ (zfl (e :: st')).length := by
              show _ ≤ (e.2 ++ zfl st').length
              rw [List.length_append]
              omega
            have l4 : (e :: st').length = st'.length + 1 := rfl
            exact ih (p + 1) t1 st' M1 J2 (by omega) (by omega) (.inr ⟨v.2.2.1, S2⟩) v2 (by omega) (by omega) (fun z => by omega) (fun _ => by omega) h
          · subst es
            dsimp only at h
            rw [if_neg (by omega), if_pos c] at h
            obtain ⟨v1, v2⟩ := zV_h v.2.1
            have l3 : (zfl (e :: st')).length = e.2.length + (zfl st').length := by
              show (e.2 ++ zfl st').length = _
              rw [List.length_append]
            have l4 : (e :: st').length = st'.length + 1 := rfl
            have l5 : ((e.1 + 1, t1 :: e.2) :: st').length = st'.length + 1 := rfl
            have l6 : (zfl ((e.1 + 1, t1 :: e.2) :: st')).length = e.2.length + 1 + (zfl st').length := by
              show (t1 :: (e.2 ++ zfl st')).length = _
              rw [List.length_cons, List.length_append]
              omega
            refine ih (p + 1) (-1) ((e.1 + 1, t1 :: e.2) :: st') M1 J2 (by omega) (by omega) (.inl ⟨rfl, S2⟩) (zV_c (.inr (.inr ?_)) v2) (by omega) (by omega) (fun _ => by omega) (fun z => absurd rfl z) h
            rcases v1 with z | z | ⟨k, k1, k2, k3, k4, k5⟩
            · omega
            · omega
            · refine ⟨k, k1, k2, ?_, ?_, fun x hx => ?_⟩
              · show e.1 + 1 = 100 + 10 * k + ((e.2.length + 1 : Nat) : Int)
                omega
              · show e.2.length + 1 ≤ 2
                omega
              · have hx : x ∈ t1 :: e.2 := hx
                rcases List.mem_cons.mp hx with z | z
                · rw [z]
                  exact v.2.2.1
                · exact k5 x z
          · subst es
            dsimp only at h
            rw [if_neg (by omega), if_neg (by omega), if_pos c] at h
            obtain ⟨v1, v2⟩ := zV_h v.2.1
            have l3 : (zfl st').length ≤ (zfl (e :: st')).length := by
              show _ ≤ (e.2 ++ zfl st').length
              rw [List.length_append]
              omega
            have l4 : (e :: st').length = st'.length + 1 := rfl
            have n1 : (zA_a M1 (zr_5 11 (e.2.tail.headD 0) (e.2.headD 0) t1 ((e.1 - 100) / 10))).1 = M1.1 + 1 := rfl
            exact ih (p + 1) (M1.1 : Int) st' _ J2 (by omega) (by omega) (.inr ⟨by omega, S2⟩) (zV_m v2 (by omega)) (by omega) (by omega) (fun z => by omega) (fun _ => by omega) h
        · rw [zG_s lt q5 nt] at h
          have v := zJ_v (A := A) (b := 5) st t M zM0 hV ht
          generalize zJ 5 t st M = Q at *
          obtain ⟨t1, st1, M1⟩ := Q
          dsimp only at *
          have nr := zN_r (B := B) (p := p + 1) (by omega)
          refine s_85 hB h0 (by omega) hA (by omega) S1 (fun ok J2 S2 => ?_) (fun no J2 S2 => ?_)
          · have f7 := S2.2.2.2.2.2.2.1
            rw [if_pos ok] at h
            refine ⟨by omega, fun q6 => absurd f7 q6, fun _ => s_91 S2 (fun J3 S3 => ?_)⟩
            have n1 : (zA_a M1 (zr_5 10 t1 (zNv B (p + 1)) (-1) (-1))).1 = M1.1 + 1 := rfl
            have ok2 := ok.2
            exact s_92 (r := zr_5 10 t1 (zNv B (p + 1)) (-1) (-1)) S3 (.inr (.inr (.inr (.inr (.inl ⟨rfl, v.2.2.1.1, v.2.2.1.2, ok.2.1, ok.2.2, rfl, rfl⟩))))) (Nat.le_refl 1) rfl rfl rfl rfl rfl (by omega) (by omega) (fun J4 S4 => e_77_110 (ih (zNe B (p + 1)) (M1.1 : Int) st1 _ J4 (by omega) (by omega) (.inr ⟨by omega, S4⟩) (zV_m v.2.1 (by omega)) (by omega) (by omega) (fun z => by omega) (fun _ => by omega) h))
          · have f7 := S2.2.2.2.2.2.2.1
            rw [if_neg no] at h
            exact ⟨by omega, fun _ => flt J2 _ _ _ _ _ M1 h (by omega) (by omega) S2, fun q6 => by omega⟩
        · rw [zG_k lt q2 nt q4] at h
          have v := zJ_v (A := A) (b := zki (B.2 p)) st t M zM0 hV ht
          have l2 := zsg_l (zJ (zki (B.2 p)) t st M).2.1
          generalize zJ (zki (B.2 p)) t st M = Q at *
          obtain ⟨t1, st1, M1⟩ := Q
          dsimp only at *
          refine s_84 S1 (by omega) (fun J2 S2 => e_77_110 ?_)
          have l5 : ((zki (B.2 p), [t1]) :: st1).length = st1.length + 1 := rfl
          have l6 : (zfl ((zki (B.2 p), [t1]) :: st1)).length = (zfl st1).length + 1 := rfl
          exact ih (p + 1) (-1) ((zki (B.2 p), [t1]) :: st1) M1 _ (by omega) (by omega) (.inl ⟨rfl, cS_w S2⟩) (zV_c (.inl ⟨kr.resolve_left q4, t1, rfl, v.2.2.1⟩) v.2.1) (by omega) (by omega) (fun _ => by omega) (fun z => absurd rfl z) h
      · -- a plain
        have hc : t = -1 ∧ w = 1 ∧ ws = zfl st := by
          rcases hc with c | c
          · exact c
          · omega
        obtain ⟨rfl, rfl, rfl⟩ := hc
        have hw := hw rfl
        rw [zG_p lt q2] at h
        have leaf : ∀ (r : Nat → Int) (k run len : Int), zk_ok M.1 r → (r 0 = 0 ∨ r 0 = 1 ∨ r 0 = 9) → k = r 0 → len = (zk_len r : Int) → jz_and run 15 = r 1 → (∀ k : Nat, k < zk_len r → jz_and (jz_shr run (4 * (k : Int))) 15 = r (k + 1)) → zFn A T J0 K P (zG B n (p + 1) (M.1 : Int) st (zA_a M r)) → q_79 xs L (d + 4) k run len (jm_up J 146 6 ((p : Int) + 1)) K (fun J' K' => l_77_110 xs L (d + 5) J' K' P) := fun r k run len ok k0 ek el h15 hv hh => by
          have n1 : (zA_a M r).1 = M.1 + 1 := rfl
          exact s_79 Cp ok k0 ek el h15 hv (by omega) (by omega) (fun J1 S1 => e_77_110 (ih (p + 1) (M.1 : Int) st _ J1 (by omega) (by omega) (.inr ⟨by omega, S1⟩) (zV_m hV (by omega)) (by omega) (by omega) (fun z => by omega) (fun _ => by omega) hh))
        have reg : ∀ g : Nat, g ≤ 2 → zFn A T J0 K P (zG B n (p + 1) (M.1 : Int) st (zA_a M (zr_5 9 (g : Int) (-1) (-1) (-1)))) → q_79 xs L (d + 4) 9 (g : Int) 0 (jm_up J 146 6 ((p : Int) + 1)) K (fun J' K' => l_77_110 xs L (d + 5) J' K' P) := fun g hg hh =>
          leaf (zr_5 9 (g : Int) (-1) (-1) (-1)) 9 (g : Int) 0 (.inr (.inr (.inr (.inl ⟨rfl, by show (0 : Int) ≤ (g : Int); omega, by show (g : Int) ≤ 2; omega, rfl, rfl, rfl⟩)))) (.inr (.inr rfl)) rfl rfl (jz_d16 g (by omega)).1 (fun k hk => absurd hk (Nat.not_lt_zero k)) hh
        refine e_78 ⟨by omega, fun q4 => ?_, fun q4 => ⟨fun q5 => ⟨fun q6 => ⟨fun q7 => ⟨fun q8 => ⟨fun q9 => ⟨fun q10 => ?_, fun q10 => ?_⟩, fun q9 => ?_⟩, fun q8 => ?_⟩, fun q7 => ?_⟩, fun q6 => ?_⟩, fun q5 => ?_⟩⟩
        · rw [if_pos q4] at h
          obtain ⟨m, hm⟩ : ∃ m : Nat, B.2 p - 97 = (m : Int) := ⟨(B.2 p - 97).toNat, by omega⟩
          have bb := jz_d16 m (by omega)
          rw [hm] at h ⊢
          refine leaf (zr_5 0 (m : Int) (-1) (-1) (-1)) 0 (m : Int) 1 (.inl ⟨rfl, by show (0 : Int) ≤ (m : Int); omega, by show (m : Int) < 16; omega, rfl, rfl, rfl⟩) (.inl rfl) rfl rfl bb.1 (fun k hk => ?_) h
          have hk : k < 1 := hk
          obtain rfl : k = 0 := by omega
          exact bb.2
        · rw [if_neg q4, if_neg q5, if_neg q6, if_neg q7, if_neg q8, if_neg q9, if_neg q10] at h
          rw [zu_self, show (p : Int) + 1 - 1 = (p : Int) by omega]
          exact flt _ (p + 1) (p : Int) _ _ _ M h (by omega) (by omega) (cS_f Cp)
        · rw [if_neg q4, if_neg q5, if_neg q6, if_neg q7, if_neg q8, if_neg q9, if_pos q10] at h
          have nr := zN_r (B := B) (p := p + 1) (by omega)
          have lz := zsg_l st
          refine s_85 hB h0 (by omega) hA (by omega) Cp (fun ok J2 S2 => ?_) (fun no J2 S2 => ?_)
          · rw [if_pos ok] at h
            have ok1 := ok.2.1
            have ok2 := ok.2.2
            refine s_84 S2 (by omega) (fun J3 S3 => e_77_110 ?_)
            have l5 : ((100 + 10 * zNv B (p + 1), ([] : List Int)) :: st).length = st.length + 1 := rfl
            have l6 : (zfl ((100 + 10 * zNv B (p + 1), []) :: st)).length = (zfl st).length := rfl
            exact ih (zNe B (p + 1)) (-1) ((100 + 10 * zNv B (p + 1), []) :: st) M J3 (by omega) (by omega) (.inl ⟨rfl, S3⟩) (zV_c (.inr (.inr ⟨zNv B (p + 1), ok1, ok2, by show 100 + 10 * zNv B (p + 1) = 100 + 10 * zNv B (p + 1) + ((0 : Nat) : Int); omega, Nat.zero_le _, fun x hx => by cases hx⟩)) hV) (by omega) (by omega) (fun _ => by omega) (fun z => absurd rfl z) h
          · rw [if_neg no] at h
            exact s_84 S2 (by omega) (fun J3 S3 => flt J3 _ _ _ _ _ M h (by omega) (by omega) S3)
        · rw [if_neg q4, if_neg q5, if_neg q6, if_neg q7, if_neg q8, if_pos q9] at h
          have lz := zsg_l st
          refine s_84 Cp (by omega) (fun J3 S3 => e_77_110 ?_)
          have l5 : ((20, ([] : List Int)) :: st : zK).length = st.length + 1 := rfl
          have l6 : (zfl ((20, []) :: st)).length = (zfl st).length := rfl
          exact ih (p + 1) (-1) ((20, []) :: st) M J3 (by omega) (by omega) (.inl ⟨rfl, S3⟩) (zV_c (.inr (.inl ⟨rfl, rfl⟩)) hV) (by omega) (by omega) (fun _ => by omega) (fun z => absurd rfl z) h
        · rw [if_neg q4, if_neg q5, if_neg q6, if_neg q7, if_pos q8] at h
          have pr := zP_r (B := B) (p := p + 1) (by omega)
          refine s_83 hB h0 hA (by omega) (by omega) (by omega) Cp (fun ok J2 S2 => e_77_110 ?_) (fun no J2 p2 hp2 S2 => ?_)
          · rw [if_pos ok] at h
            have pr := pr.resolve_right (by omega)
            have n1 : (zA_a M (zr_ph (zP B (p + 1)).2.2.1 (zP B (p + 1)).2.1)).1 = M.1 + 1 := rfl
            exact ih _ (M.1 : Int) st _ J2 (by omega) (by omega) (.inr ⟨by omega, S2⟩) (zV_m hV (by omega)) (by omega) (by omega) (fun z => by omega) (fun _ => by omega) h
          · rw [if_neg no] at h
            have pr := pr.resolve_left (fun z => no z.1)
            exact flt J2 p2 _ _ _ _ M h (by omega) (by omega) S2
        · rw [if_neg q4, if_neg q5, if_neg q6, if_pos q7] at h
          exact reg 2 (by omega) h
        · rw [if_neg q4, if_neg q5, if_pos q6] at h
          exact reg 1 (by omega) h
        · rw [if_neg q4, if_pos q5] at h
          exact reg 0 (by omega) h
      · rw [zG_b lt q2] at h
        rcases hc with ⟨ht, rfl, rfl⟩ | ⟨ht, rfl, rfl⟩
        · exact ih (p + 1) t st M _ (by omega) (by omega) (.inl ⟨ht, Cp⟩) hV (by omega) (by omega) (fun z => by have := hw z; omega) (fun z => absurd ht z) h
        · exact ih (p + 1) t st M _ (by omega) (by omega) (.inr ⟨ht, Cp⟩) hV (by omega) (by omega) (fun z => by omega) (fun z => by have := hw2 z; omega) h
theorem s_77 {xs : Nat → Int32} {L d : Nat} {J K : jZ} {P : Int → jZ → jZ → Prop} {T : zT} {A : zA} {B : zB} (hQ : cQ J T A) (hSt : zA_st J 9 A) (hB : zB_ok B) (h0 : cB_at J B) (h : zFn A T J K P (zG B (B.1 + 1) 0 (-1) [] A)) : q_77 xs L (d + 6) J K P := by
  have h24 := hQ.2.1.1
  have h1 := hQ.2.2.2.1.1
  refine e_77 (s_77_36 (J0 := J) hB h0 h24 (B.1 + 1) 0 (-1) [] A _ (by omega) (by omega) (.inl ⟨rfl, fun x a b c _ => ?_, fun _ => ?_, ⟨Nat.le_refl _, hQ.2.1.2⟩, ⟨?_, trivial, Nat.zero_le _⟩, ⟨?_, trivial, Nat.zero_le _⟩, ?_, ?_, ?_, ?_⟩) (fun e he => by cases he) (by show A.1 + 0 ≤ 24 + 0; omega) (Nat.le_refl _) (fun _ => Nat.le_refl _) (fun z => absurd rfl z) h)
  · rw [zu_row a, zu_row a, zu_row a, zu_row a, zu_row a, zu_row a]
  · have e : ∀ x, x < 144 → jm_up (jm_up (jm_up (jm_up (jm_up (jm_up (jm_up J 146 4 0) 146 5 0) 146 6 0) 146 7 (-1)) 146 8 1) 146 9 (J 9 1)) 9 1 (A.1 : Int) x = J x := fun x hx => by
      by_cases c : x = 9
      · subst c
        funext k
        by_cases c2 : k = 1
        · subst c2
          rw [zu_self, h1]
        · rw [zu_key c2, zu_row (by omega), zu_row (by omega), zu_row (by omega), zu_row (by omega), zu_row (by omega), zu_row (by omega)]
      · rw [zu_row c, zu_row (by omega), zu_row (by omega), zu_row (by omega), zu_row (by omega), zu_row (by omega), zu_row (by omega)]
    refine ⟨cQ_lo hQ e, fun i hi => ?_⟩
    rw [e _ (by omega)]
    exact hSt i hi
  · rw [zu_key (by omega), zu_key (by omega), zu_key (by omega), zu_key (by omega), zu_key (by omega), zu_self]
    rfl
  · rw [zu_key (by omega), zu_key (by omega), zu_key (by omega), zu_key (by omega), zu_self]
    rfl
  · rw [zu_key (by omega), zu_key (by omega), zu_key (by omega), zu_self]
    rfl
  · rw [zu_key (by omega), zu_key (by omega), zu_self]
  · rw [zu_key (by omega), zu_self]
  · rw [zu_self]
    exact h1
/-- the class's ask -/
def cRf (A : zA) (J J' : jZ) : Prop := (∀ x, x ≠ 144 → x ≠ 146 → x ≠ 147 → x ≠ 148 → (x < 11 + A.1 ∧ x ≠ 9) ∨ 35 ≤ x → J' x = J x) ∧ J' 144 1 = 0
theorem c_76 {xs : Nat → Int32} {L d : Nat} {J K : jZ} {P : Int → jZ → jZ → Prop} {T : zT} {A : zA} (hQ : cQ J T A) {B : zB} (hSt : zA_st J 9 A) (hB : zB_ok B) (h0 : cB_at J B) (hb : ¬ (zG B (B.1 + 1) 0 (-1) [] A).1 = -1 → ∀ J', cRf A J J' → J' 9 = J 9 → P (-20 - (zG B (B.1 + 1) 0 (-1) [] A).1) (rC J' 0) K) (hb2 : (zG B (B.1 + 1) 0 (-1) [] A).1 = -1 → ¬ (zG B (B.1 + 1) 0 (-1) [] A).2.1 ≤ 24 → ∀ J', cRf A J J' → J' 9 = J 9 → P (-6) (rC J' 4) K) (h : (zG B (B.1 + 1) 0 (-1) [] A).1 = -1 → (zG B (B.1 + 1) 0 (-1) [] A).2.1 ≤ 24 → ∀ J', cRf A J J' → cQ J' T (zG B (B.1 + 1) 0 (-1) [] A).2 → zA_st J' 9 (zG B (B.1 + 1) 0 (-1) [] A).2 → P (((zG B (B.1 + 1) 0 (-1) [] A).2.1 : Int) - 1) J' K) (hr : -1 ≤ (zG B (B.1 + 1) 0 (-1) [] A).1 ∧ (zG B (B.1 + 1) 0 (-1) [] A).1 ≤ 300) : q_76 xs L (d + 7) J K P := by
  have h24 := hQ.2.1.1
  obtain ⟨o, eo⟩ : ∃ o, zG B (B.1 + 1) 0 (-1) [] A = o := ⟨_, rfl⟩
  rw [eo] at hb hb2 h hr
  have fr : ∀ J1, cPf A J J1 → cRf A J (jm_up J1 144 1 0) := fun J1 f => ⟨fun x a b c e hx => by rw [zu_row a]; exact f x b c e (by omega), zu_self⟩
  have f9 : ∀ J1, cPf A J J1 → jm_up J1 144 1 0 9 = J 9 := fun J1 f => by rw [zu_row (by omega)]; exact f 9 (by omega) (by omega) (by omega) (by omega)
  refine e_76 (s_77 hQ hSt hB h0 ?_)
  rw [eo]
  refine ⟨fun q k1 J1 p w ws ss S1 => ?_, fun q J1 p w ws ss M' S1 => ?_⟩
  · have e9 := S1.2.2.2.2.2.2.2.2
    refine ⟨by omega, fun _ => ⟨by omega, fun q2 => ?_, fun q2 => s_13 (k := 4) (by omega) (by omega) (hb2 q (by omega) _ (fr J1 S1.1) (f9 J1 S1.1))⟩, fun z => absurd rfl z⟩
    rw [e9]
    obtain ⟨Q, S⟩ := S1.2.1 (by omega)
    have e : ∀ x, x < 144 → jm_up (jm_up J1 144 1 0) 9 1 (o.2.1 : Int) x = jm_up J1 9 1 (o.2.1 : Int) x := fun x hx => zu_cg (zu_row (by omega))
    refine h q (by omega) _ ⟨fun x a b c e hx => ?_, by rw [zu_row (by omega)]; exact zu_self⟩ (cQ_lo Q e) (fun i hi => ?_)
    · rw [zu_row (by omega), zu_row a]
      exact S1.1 x b c e (by omega)
    · rw [e _ (by omega)]
      exact S i hi
  · exact ⟨by omega, fun z => absurd z q, fun _ => e_74 (s_13 (k := 0) (by omega) (by omega) (hb q _ (fr J1 S1.1) (f9 J1 S1.1)))⟩
