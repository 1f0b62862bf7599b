/-! The reference's reader: plains, and through. -/
theorem zlv_no {b : Int} (h : zlv b < 2) : zki b = -1 ∧ ¬ b = 94 := by
  have := zki_r b
  unfold zlv at h
  split at h
  · omega
  · omega
theorem zG_cl {B : zB} {n p : Nat} {t : Int} {e : Int × List Int} {st : zK} {M : zA} (hn : B.1 < n + p) (hp : p ≤ B.1) (ha : zAf B 2 p) (ht : 0 ≤ t) (he : ¬ (2 ≤ e.1 ∧ e.1 ≤ 8)) : ∃ n', B.1 < n' + (p + 1) ∧ (p < B.1 → zG B n p t (e :: st) M = zCl B n' p (t, e :: st, M)) ∧ (¬ p < B.1 → zG B n p t (e :: st) M = ((B.1 : Int), M)) := by
  obtain ⟨n', rfl⟩ : ∃ n', n = n' + 1 := ⟨n - 1, by omega⟩
  have j : zJ 2 t (e :: st) M = (t, e :: st, M) := zJ_f (fun c => he c.1)
  refine ⟨n', by omega, fun c => ?_, fun c => ?_⟩
  · have z := zlv_no (ha c).2
    rw [zG_c c (ha c).1 (by omega) z.1 z.2, j]
  · rw [zG_e (by omega)]
    unfold zEn
    rw [if_neg (by omega), j]
    rfl
theorem zG_c41 {B : zB} {n p : Nat} {t : Int} {e : Int × List Int} {st : zK} {M : zA} (h : B.2 p = 41 ∧ e.1 = 20) : zCl B n p (t, e :: st, M) = zG B n (p + 1) t st M := by
  unfold zCl
  dsimp only
  rw [if_pos h]
theorem zG_c44 {B : zB} {n p : Nat} {t : Int} {e : Int × List Int} {st : zK} {M : zA} (h : B.2 p = 44 ∧ 100 ≤ e.1 ∧ e.1 % 10 < 2) : zCl B n p (t, e :: st, M) = zG B n (p + 1) (-1) ((e.1 + 1, t :: e.2) :: st) M := by
  unfold zCl
  dsimp only
  rw [if_neg (by omega), if_pos h]
theorem zG_c125 {B : zB} {n p : Nat} {t : Int} {e : Int × List Int} {st : zK} {M : zA} (h : B.2 p = 125 ∧ 100 ≤ e.1 ∧ e.1 % 10 = 2) : zCl B n p (t, e :: st, M) = zG B n (p + 1) (M.1 : Int) st (zA_a M (zr_5 11 (e.2.tail.headD 0) (e.2.headD 0) t ((e.1 - 100) / 10))) := by
  unfold zCl
  dsimp only
  rw [if_neg (by omega), if_neg (by omega), if_pos h]
theorem zG_c0 {B : zB} {n p : Nat} {t : Int} {e : Int × List Int} {st : zK} {M : zA} (h1 : ¬ (B.2 p = 41 ∧ e.1 = 20)) (h2 : ¬ (B.2 p = 44 ∧ 100 ≤ e.1 ∧ e.1 % 10 < 2)) (h3 : ¬ (B.2 p = 125 ∧ 100 ≤ e.1 ∧ e.1 % 10 = 2)) : zCl B n p (t, e :: st, M) = ((p : Int), M) := by
  unfold zCl
  dsimp only
  rw [if_neg h1, if_neg h2, if_neg h3]
section RM
variable {J0 : jZ} {A : zA} {B : zB}
/-- the reference's brace: p is behind it -/
theorem s_223 {xs : Nat → Int32} {L : Nat} {K : jZ} {P : Int → jZ → jZ → Prop} {m n p D : Nat} {st : zK} {M : zA} {J : jZ} {o : Int × zA} (hB : zB_ok B) (h0 : mB_at J0 B) (hy : mLv A B J0 K (fun D => q_212 xs L D) 12 2 m) (hD : 6 * m + 13 ≤ D) (hm : B.1 < p + m) (hn : B.1 < n + p) (hp : p ≤ B.1) (hM : M.1 + 1 ≤ 24 + p) (hS : mP A J0 J p M) (ho : o = if zNo B 3 p then zG B n (zNe B p) (-1) ((100 + 10 * zNv B p, []) :: st) M else ((zNa B p : Int), M)) (hb : ∀ J' f r, mE A J0 J' f → 0 ≤ f ∧ f ≤ 250 → o.1 = f → P r J' K) (h : ∀ J' n' p' t M', mP A J0 J' p' M' → B.1 < n' + p' → p < p' → p' ≤ B.1 → o = zG B n' p' t st M' → 0 ≤ t ∧ t < (M'.1 : Int) → M'.1 + p ≤ M.1 + p' → M.1 ≤ M'.1 → P t J' K) : q_223 xs L D J K P := by
  have h250 := hB.1
  obtain ⟨E, rfl⟩ : ∃ E, D = E + 13 := ⟨D - 13, by omega⟩
  have nr := zN_r hp
  -- faults
  have F7 : ∀ (J1 : jZ) (f x y z k : Int), mE A J0 J1 f → 0 ≤ f ∧ f ≤ 250 → o.1 = f → (-2147483648 ≤ J1 167 39 ∧ J1 167 39 < 2147483648) ∧ ((J1 167 39) = (-1) → q_218 xs L (E + 12) 11 x y z k J1 K (fun r23 J21 K22 => P r23 J21 K22)) ∧ (¬ (J1 167 39) = (-1) → P 0 J1 K) := fun J1 f x y z k e hf hof => by
    have e9 := e.2
    exact ⟨by omega, fun c => by omega, fun _ => hb J1 f 0 e hf hof⟩
  refine e_223 (s_224 hB h0 (by omega) hp hS (fun ok J1 S1 => ?_) (fun no J1 E1 => ?_))
  · rw [if_pos ok] at ho
    have ok1 := ok.2.1
    have ok2 := ok.2.2
    generalize zNv B p = kk at *
    refine hy (E + 12) n (zNe B p) ((100 + 10 * kk, []) :: st) M J1 _ (by omega) (by omega) (by omega) nr.2.2 (zTp_c (by omega)) (by omega) S1 ⟨fun J2 f r e2 f0 ef => ?_, fun J2 n2 p2 t2 M2 S2 hn2 hp2 hp2' hg2 ht2 hM2 hM2' ha2 => ?_⟩
    · have ef : o.1 = f := by rw [ho, ef]
      exact s_221f (by omega) e2 (s_212f (by omega) e2 (fun r3 J3 e3 => s_221f (by omega) e3 (s_212f (by omega) e3 (fun r4 J4 e4 => s_221f (by omega) e4 (F7 J4 f _ _ _ _ e4 f0 ef)))))
    · have ha2 := ha2 (by omega)
      have zq2 := zAf_s ha2
      obtain ⟨m2, hm2, g2, g2'⟩ := zG_cl (B := B) (t := t2) (e := (100 + 10 * kk, [])) (st := st) (M := M2) hn2 hp2' ha2 ht2.1 (by show ¬ (2 ≤ 100 + 10 * kk ∧ 100 + 10 * kk ≤ 8); omega)
      refine s_221 hB h0 hp2' (by omega) S2 (fun c1 c2 J3 S3 _ => ?_) (fun c J3 e3 => ?_)
      · rw [zq2] at c1 c2 S3
        have h44 : zG B n2 p2 t2 ((100 + 10 * kk, []) :: st) M2 = zG B m2 (p2 + 1) (-1) ((100 + 10 * kk + 1, [t2]) :: st) M2 := by
          rw [g2 c1, zG_c44 (e := (100 + 10 * kk, [])) ⟨c2, by show 100 ≤ 100 + 10 * kk; omega, by show (100 + 10 * kk) % 10 < 2; omega⟩]
        refine hy (E + 12) m2 (p2 + 1) ((100 + 10 * kk + 1, [t2]) :: st) M2 J3 _ (by omega) (by omega) (by omega) (by omega) (zTp_c (by omega)) (by omega) S3 ⟨fun J4 f r e4 f0 ef => ?_, fun J4 n4 p4 t4 M4 S4 hn4 hp4 hp4' hg4 ht4 hM4 hM4' ha4 => ?_⟩
        · have ef : o.1 = f := by rw [ho, hg2, h44, ef]
          exact s_221f (by omega) e4 (s_212f (by omega) e4 (fun r5 J5 e5 => s_221f (by omega) e5 (F7 J5 f _ _ _ _ e5 f0 ef)))
        · have ha4 := ha4 (by omega)
          have zq4 := zAf_s ha4
          obtain ⟨m4, hm4, g4, g4'⟩ := zG_cl (B := B) (t := t4) (e := (100 + 10 * kk + 1, [t2])) (st := st) (M := M4) hn4 hp4' ha4 ht4.1 (by show ¬ (2 ≤ 100 + 10 * kk + 1 ∧ 100 + 10 * kk + 1 ≤ 8); omega)
          refine s_221 hB h0 hp4' (by omega) S4 (fun c3 c4 J5 S5 _ => ?_) (fun c J5 e5 => ?_)
          · rw [zq4] at c3 c4 S5
            have h44' : zG B n4 p4 t4 ((100 + 10 * kk + 1, [t2]) :: st) M4 = zG B m4 (p4 + 1) (-1) ((100 + 10 * kk + 1 + 1, [t4, t2]) :: st) M4 := by
              rw [g4 c3, zG_c44 (e := (100 + 10 * kk + 1, [t2])) ⟨c4, by show 100 ≤ 100 + 10 * kk + 1; omega, by show (100 + 10 * kk + 1) % 10 < 2; omega⟩]
            refine hy (E + 12) m4 (p4 + 1) ((100 + 10 * kk + 1 + 1, [t4, t2]) :: st) M4 J5 _ (by omega) (by omega) (by omega) (by omega) (zTp_c (by omega)) (by omega) S5 ⟨fun J6 f r e6 f0 ef => ?_, fun J6 n6 p6 t6 M6 S6 hn6 hp6 hp6' hg6 ht6 hM6 hM6' ha6 => ?_⟩
            · have ef : o.1 = f := by rw [ho, hg2, h44, hg4, h44', ef]
              exact s_221f (by omega) e6 (F7 J6 f _ _ _ _ e6 f0 ef)
            · have ha6 := ha6 (by omega)
              have zq6 := zAf_s ha6
              obtain ⟨m6, hm6, g6, g6'⟩ := zG_cl (B := B) (t := t6) (e := (100 + 10 * kk + 1 + 1, [t4, t2])) (st := st) (M := M6) hn6 hp6' ha6 ht6.1 (by show ¬ (2 ≤ 100 + 10 * kk + 1 + 1 ∧ 100 + 10 * kk + 1 + 1 ≤ 8); omega)
              refine s_221 hB h0 hp6' (by omega) S6 (fun c5 c6 J7 S7 _ => ?_) (fun c J7 e7 => ?_)
              · rw [zq6] at c5 c6 S7
                have e9 := S7.2.2.2.1
                have h125 : zG B n6 p6 t6 ((100 + 10 * kk + 1 + 1, [t4, t2]) :: st) M6 = zG B m6 (p6 + 1) (M6.1 : Int) st (zA_a M6 (zr_5 11 t2 t4 t6 kk)) := by
                  rw [g6 c5, zG_c125 (e := (100 + 10 * kk + 1 + 1, [t4, t2])) ⟨c6, by show 100 ≤ 100 + 10 * kk + 1 + 1; omega, by show (100 + 10 * kk + 1 + 1) % 10 = 2; omega⟩]
                  show zG B m6 (p6 + 1) (M6.1 : Int) st (zA_a M6 (zr_5 11 t2 t4 t6 ((100 + 10 * kk + 1 + 1 - 100) / 10))) = _
                  rw [show (100 + 10 * kk + 1 + 1 - 100) / 10 = kk by omega]
                have n1' : (zA_a M6 (zr_5 11 t2 t4 t6 kk)).1 = M6.1 + 1 := rfl
                refine ⟨by omega, fun _ => s_218 (by omega) (.inr (.inr (.inr (.inr (.inr ⟨rfl, ht2.1, by show t2 < (M6.1 : Int); omega, ht4.1, by show t4 < (M6.1 : Int); omega, ht6.1, by show t6 < (M6.1 : Int); omega, ok1, ok2⟩))))) S7 (fun J8 S8 => h J8 m6 (p6 + 1) (M6.1 : Int) _ S8 hm6 (by omega) (by omega) (by rw [ho, hg2, h44, hg4, h44', hg6, h125]) (by omega) (by omega) (by omega)), fun c => absurd e9 c⟩
              · rw [zq6] at c e7
                have ef : o.1 = (p6 : Int) := by
                  rw [ho, hg2, h44, hg4, h44', hg6]
                  by_cases c5 : p6 < B.1
                  · rw [g6 c5, zG_c0 (e := (100 + 10 * kk + 1 + 1, [t4, t2])) (fun z => by have z : B.2 p6 = 41 ∧ 100 + 10 * kk + 1 + 1 = 20 := z; omega) (fun z => by have z : B.2 p6 = 44 ∧ 100 ≤ 100 + 10 * kk + 1 + 1 ∧ (100 + 10 * kk + 1 + 1) % 10 < 2 := z; omega) (fun z => c ⟨c5, z.1⟩)]
                  · rw [g6' c5]
                    show (B.1 : Int) = (p6 : Int)
                    omega
                exact F7 J7 _ _ _ _ _ e7 (by omega) ef
          · rw [zq4] at c e5
            have ef : o.1 = (p4 : Int) := by
              rw [ho, hg2, h44, hg4]
              by_cases c5 : p4 < B.1
              · rw [g4 c5, zG_c0 (e := (100 + 10 * kk + 1, [t2])) (fun z => by have z : B.2 p4 = 41 ∧ 100 + 10 * kk + 1 = 20 := z; omega) (fun z => c ⟨c5, z.1⟩) (fun z => by have z : B.2 p4 = 125 ∧ 100 ≤ 100 + 10 * kk + 1 ∧ (100 + 10 * kk + 1) % 10 = 2 := z; omega)]
              · rw [g4' c5]
                show (B.1 : Int) = (p4 : Int)
                omega
            exact s_212f (by omega) e5 (fun r6 J6 e6 => s_221f (by omega) e6 (F7 J6 _ _ _ _ _ e6 (by omega) ef))
      · rw [zq2] at c e3
        have ef : o.1 = (p2 : Int) := by
          rw [ho, hg2]
          by_cases c5 : p2 < B.1
          · rw [g2 c5, zG_c0 (e := (100 + 10 * kk, [])) (fun z => by have z : B.2 p2 = 41 ∧ 100 + 10 * kk = 20 := z; omega) (fun z => c ⟨c5, z.1⟩) (fun z => by have z : B.2 p2 = 125 ∧ 100 ≤ 100 + 10 * kk ∧ (100 + 10 * kk) % 10 = 2 := z; omega)]
          · rw [g2' c5]
            show (B.1 : Int) = (p2 : Int)
            omega
        exact s_212f (by omega) e3 (fun r4 J4 e4 => s_221f (by omega) e4 (s_212f (by omega) e4 (fun r6 J6 e6 => s_221f (by omega) e6 (F7 J6 _ _ _ _ _ e6 (by omega) ef))))
  · rw [if_neg no] at ho
    have ef : o.1 = (zNa B p : Int) := by rw [ho]
    exact s_212f (by omega) E1 (fun r2 J2 e2 => s_221f (by omega) e2 (s_212f (by omega) e2 (fun r4 J4 e4 => s_221f (by omega) e4 (s_212f (by omega) e4 (fun r6 J6 e6 => s_221f (by omega) e6 (F7 J6 _ _ _ _ _ e6 (by omega) ef))))))
theorem r_216 {xs : Nat → Int32} {L : Nat} {K : jZ} {m : Nat} (hB : zB_ok B) (h0 : mB_at J0 B) (hy : mLv A B J0 K (fun D => q_212 xs L D) 12 2 m) : mLv A B J0 K (fun D => q_216 xs L D) 8 6 (m + 1) := by
  intro D n p st M J P hD hm hn hp hT hM hS hC
  have h250 := hB.1
  obtain ⟨E, rfl⟩ : ∃ E, D = E + 14 := ⟨D - 14, by omega⟩
  have e9 := hS.2.2.2.1
  have sr := zsk_r hp
  obtain ⟨n1, hn1, hz⟩ := zG_z (B := B) (t := -1) (st := st) (M := M) (B.1 - p) n p (by omega) hn
  obtain ⟨n2, rfl⟩ : ∃ n2, n1 = n2 + 1 := ⟨n1 - 1, by omega⟩
  refine e_216 ⟨by omega, fun _ => s_217 hB h0 hp hS (fun J1 S1 _ => ?_), fun c => absurd e9 c⟩
  generalize hq : zsk B p = q at *
  have e8 := S1.2.2.1
  have br := zbt_r hB q
  rw [e8]
  -- what stands there when it is a letter
  have lt : ¬ zbt B q = -1 → q < B.1 ∧ zbt B q = B.2 q := fun c => by
    by_cases c2 : q < B.1
    · exact ⟨c2, (br.1 c2).1⟩
    · exact absurd (br.2.1 c2) c
  have ok1 : ∀ (J2 : jZ) (r : Nat → Int), mP A J0 J2 (q + 1) (zA_a M r) → q < B.1 → zG B n p (-1) st M = zG B n2 (q + 1) (M.1 : Int) st (zA_a M r) → P (M.1 : Int) J2 K := fun J2 r S2 c hg => by
    have n1' : (zA_a M r).1 = M.1 + 1 := rfl
    exact hC.2 J2 n2 (q + 1) (M.1 : Int) _ S2 (by omega) (by omega) (by omega) hg (by omega) (by omega) (by omega) (fun c => by omega)
  have reg : ∀ g : Int, 0 ≤ g → g ≤ 2 → q < B.1 → zG B n p (-1) st M = zG B n2 (q + 1) (M.1 : Int) st (zA_a M (zr_5 9 g (-1) (-1) (-1))) → q_218 xs L (E + 13) 9 g (-1) (-1) (-1) (jm_up J1 167 38 ((q : Int) + 1)) K (fun r J K => P r J K) := fun g g0 g2 c hg =>
    s_218 (by omega) (.inr (.inr (.inr (.inl ⟨rfl, g0, g2, rfl, rfl, rfl⟩)))) (mP_p S1 (by omega)) (fun J2 S2 => ok1 J2 _ S2 c hg)
  refine ⟨by omega, fun c => ?_, fun c => ⟨fun c39 => ?_, fun c39 => ⟨fun c40 => ?_, fun c40 => ⟨fun c80 => ?_, fun c80 => ⟨fun c83 => ?_, fun c83 => ⟨fun c84 => ?_, fun c84 => ⟨fun c123 => ?_, fun c123 => ?_⟩⟩⟩⟩⟩⟩⟩
  · obtain ⟨l, e⟩ := lt (by omega)
    rw [e] at c ⊢
    refine s_218 (by omega) (.inl ⟨rfl, by show 0 ≤ B.2 q - 97; omega, by show B.2 q - 97 < 16; omega, rfl, rfl, rfl⟩) (mP_p S1 (by omega)) (fun J2 S2 => ok1 J2 _ S2 l ?_)
    rw [hz, zG_p l (sr.2.2 l), if_pos (by omega)]
  · obtain ⟨l, e⟩ := lt (by omega)
    rw [e] at c c39
    have g : zG B n p (-1) st M = (if (zP B (q + 1)).1 = -1 then zG B n2 (zP B (q + 1)).2.2.2 (M.1 : Int) st (zA_a M (zr_ph (zP B (q + 1)).2.2.1 (zP B (q + 1)).2.1)) else ((zP B (q + 1)).1, M)) := by
      rw [hz, zG_p l (sr.2.2 l), if_neg (by omega), if_neg (by omega), if_neg (by omega), if_neg (by omega), if_pos c39]
    have pr := zP_r (B := B) (p := q + 1) (by omega)
    refine s_219 (p := q + 1) hB h0 (by omega) (by omega) (mP_p S1 (by omega)) (fun ok J2 S2 => ?_) (fun no J2 E2 => ?_)
    · rw [if_pos ok] at g
      have pr := pr.resolve_right (by omega)
      have n1' : (zA_a M (zr_ph (zP B (q + 1)).2.2.1 (zP B (q + 1)).2.1)).1 = M.1 + 1 := rfl
      exact hC.2 J2 n2 _ (M.1 : Int) _ S2 (by omega) (by omega) (by omega) g (by omega) (by omega) (by omega) (fun c => by omega)
    · rw [if_neg no] at g
      have pr := pr.resolve_left (fun z => no z.1)
      exact hC.1 J2 _ 0 E2 (by omega) (by rw [g])
  · obtain ⟨l, e⟩ := lt (by omega)
    rw [e] at c c39 c40
    have g : zG B n p (-1) st M = zG B n2 (q + 1) (-1) ((20, []) :: st) M := by
      rw [hz, zG_p l (sr.2.2 l), if_neg (by omega), if_neg (by omega), if_neg (by omega), if_neg (by omega), if_neg (by omega), if_pos c40]
    refine hy (E + 13) n2 (q + 1) ((20, []) :: st) M _ _ (by omega) (by omega) (by omega) (by omega) (zTp_c (by omega)) (by omega) (mP_p S1 (by omega)) ⟨fun J3 f r e3 f0 ef => ?_, fun J3 n3 p3 t3 M3 S3 hn3 hp3 hp3' hg3 ht3 hM3 hM3' ha3 => ?_⟩
    · exact s_221f (by omega) e3 (hC.1 J3 f r e3 f0 (by rw [g, ef]))
    · have ha3 := ha3 (by omega)
      have zq3 := zAf_s ha3
      obtain ⟨m3, hm3, g3, g3'⟩ := zG_cl (B := B) (t := t3) (e := (20, [])) (st := st) (M := M3) hn3 hp3' ha3 ht3.1 (by show ¬ ((2 : Int) ≤ 20 ∧ (20 : Int) ≤ 8); omega)
      refine s_221 hB h0 hp3' (by omega) S3 (fun c1 c2 J4 S4 _ => ?_) (fun c5 J4 e4 => ?_)
      · rw [zq3] at c1 c2 S4
        exact hC.2 J4 m3 (p3 + 1) t3 M3 S4 hm3 (by omega) (by omega) (by rw [g, hg3, g3 c1, zG_c41 (e := (20, [])) ⟨c2, rfl⟩]) ht3 (by omega) hM3' (fun c => by omega)
      · rw [zq3] at c5 e4
        refine hC.1 J4 _ _ e4 (by omega) ?_
        rw [g, hg3]
        by_cases c6 : p3 < B.1
        · rw [g3 c6, zG_c0 (e := (20, [])) (fun z => c5 ⟨c6, z.1⟩) (fun z => by have z : B.2 p3 = 44 ∧ (100 : Int) ≤ 20 ∧ (20 : Int) % 10 < 2 := z; omega) (fun z => by have z : B.2 p3 = 125 ∧ (100 : Int) ≤ 20 ∧ (20 : Int) % 10 = 2 := z; omega)]
        · rw [g3' c6]
          show (B.1 : Int) = (p3 : Int)
          omega
  · obtain ⟨l, e⟩ := lt (by omega)
    rw [e] at c c39 c40 c80
    exact reg 1 (by omega) (by omega) l (by rw [hz, zG_p l (sr.2.2 l), if_neg (by omega), if_neg (by omega), if_pos c80])
  · obtain ⟨l, e⟩ := lt (by omega)
    rw [e] at c c39 c40 c80 c83
    exact reg 0 (by omega) (by omega) l (by rw [hz, zG_p l (sr.2.2 l), if_neg (by omega), if_pos c83])
  · obtain ⟨l, e⟩ := lt (by omega)
    rw [e] at c c39 c40 c80 c83 c84
    exact reg 2 (by omega) (by omega) l (by rw [hz, zG_p l (sr.2.2 l), if_neg (by omega), if_neg (by omega), if_neg (by omega), if_pos c84])
  · obtain ⟨l, e⟩ := lt (by omega)
    rw [e] at c c39 c40 c80 c83 c84 c123
    refine s_223 (n := n2) (o := zG B n p (-1) st M) hB h0 hy (by omega) (by omega) (by omega) (by omega) (by omega) (mP_p (p' := q + 1) S1 (by omega)) ?_ hC.1 (fun J3 n3 p3 t3 M3 S3 hn3 hp3 hp3' hg3 ht3 hM3 hM3' => hC.2 J3 n3 p3 t3 M3 S3 hn3 (by omega) hp3' hg3 ht3 (by omega) hM3' (fun c => by omega))
    rw [hz, zG_p l (sr.2.2 l), if_neg (by omega), if_neg (by omega), if_neg (by omega), if_neg (by omega), if_neg (by omega), if_neg (by omega), if_pos c123]
  · rw [show (q : Int) + 1 - 1 = (q : Int) by omega]
    have S2 : mP A J0 (jm_up (jm_up J1 167 38 ((q : Int) + 1)) 167 38 (q : Int)) q M := mP_p (mP_p (p' := q + 1) S1 (by omega)) rfl
    refine s_220 S2 (fun J3 E3 => hC.1 J3 _ 0 E3 (by omega) ?_)
    rw [hz]
    by_cases l : q < B.1
    · have e := (br.1 l).1
      rw [e] at c c39 c40 c80 c83 c84 c123
      rw [zG_p l (sr.2.2 l), if_neg (by omega), if_neg (by omega), if_neg (by omega), if_neg (by omega), if_neg (by omega), if_neg (by omega), if_neg (by omega)]
    · rw [zG_e (by omega)]
      unfold zEn
      rw [if_pos rfl]
      show (B.1 : Int) = (q : Int)
      omega
theorem r_all {xs : Nat → Int32} {L : Nat} {K : jZ} (hB : zB_ok B) (h0 : mB_at J0 B) : ∀ m : Nat, mLv A B J0 K (fun D => q_212 xs L D) 12 2 m
  | 0 => fun D n p st M J P hD hm hn hp => by omega
  | m + 1 => r_212 hB h0 (r_213 hB h0 (r_214 hB h0 (r_215 hB h0 (r_216 hB h0 (r_all hB h0 m)))))
end RM
/-- the reference's ask -/
def mRf (A : zA) (J J' : jZ) : Prop := (∀ x, x ≠ 167 → x ≠ 187 → x ≠ 188 → x ≠ 204 → J' x = J x) ∧ ∀ k, k ≠ 7 → k ≠ 10 → k ≠ 26 → k ≠ 38 → k ≠ 39 → k ≠ 40 → J' 167 k = J 167 k
theorem m_211 {xs : Nat → Int32} {L d : Nat} {J K : jZ} {P : Int → jZ → jZ → Prop} {T : zT} {A : zA} (hQ : mQ J T A) {B : zB} (hB : zB_ok B) (h0 : mB_at J B) (hb : ¬ (zG B (B.1 + 1) 0 (-1) [] A).1 = -1 → ∀ J', mRf A J J' → mQ J' T A → J' 167 7 = 0 → P (-20 - (zG B (B.1 + 1) 0 (-1) [] A).1) (rM J' 2) K) (hb2 : (zG B (B.1 + 1) 0 (-1) [] A).1 = -1 → ¬ (zG B (B.1 + 1) 0 (-1) [] A).2.1 ≤ 24 → ∀ J', mRf A J J' → mQ J' T A → J' 167 7 = 0 → P (-6) (rM J' 6) K) (h : (zG B (B.1 + 1) 0 (-1) [] A).1 = -1 → (zG B (B.1 + 1) 0 (-1) [] A).2.1 ≤ 24 → ∀ J', mRf A J J' → mQ J' T (zG B (B.1 + 1) 0 (-1) [] A).2 → J' 167 7 = 0 → P (((zG B (B.1 + 1) 0 (-1) [] A).2.1 : Int) - 1) J' K) : q_211 xs L (d + 1600) J K P := by
  obtain ⟨a1, a2, a3, a4, a5, a6⟩ := hQ
  have h24 := a2.1
  have h250 := hB.1
  have e10 := a4.1
  -- J is as it was, but for the reader's places
  have oldQ : ∀ J1, mPf A J J1 → mQ (jm_up J1 167 7 0) T A := fun J1 f => by
    have g : ∀ k, k ≠ 7 → k ≠ 38 → k ≠ 39 → k ≠ 40 → jm_up J1 167 7 0 167 k = J 167 k := fun k b1 b2 b3 b4 => by rw [zu_key b1, f.2.2.2 k b2 b3 b4]
    have gr : ∀ x, x ≠ 167 → x ≠ 187 → x ≠ 188 → x ≠ 204 → jm_up J1 167 7 0 x = J x := fun x b1 b2 b3 b4 => by rw [zu_row b1, f.1 x b1 b2 b3 b4]
    refine ⟨a1, a2, mT_of a3 (g 9 (by omega) (by omega) (by omega) (by omega)) (gr _ (by omega) (by omega) (by omega) (by omega)) (gr _ (by omega) (by omega) (by omega) (by omega)) (gr _ (by omega) (by omega) (by omega) (by omega)), ⟨by rw [g 10 (by omega) (by omega) (by omega) (by omega)]; exact a4.1, fun i hi => ⟨?_, fun j hj => ?_⟩⟩, by rw [g 37 (by omega) (by omega) (by omega) (by omega)]; exact a5, by rw [g 26 (by omega) (by omega) (by omega) (by omega)]; exact a6.1, fun w i hi => ?_⟩
    · rw [zu_row (by omega), f.2.1 i hi]
      exact (a4.2 i hi).1
    · rw [zu_row (by omega), f.2.2.1 _ (by omega)]
      exact (a4.2 i hi).2 j hj
    · rw [g 26 (by omega) (by omega) (by omega) (by omega)] at w
      have z := a6.2 w i hi
      exact ⟨by rw [gr 195 (by omega) (by omega) (by omega) (by omega)]; exact z.1, fun k hk => by rw [gr 196 (by omega) (by omega) (by omega) (by omega), gr 197 (by omega) (by omega) (by omega) (by omega)]; exact z.2 k hk⟩
  have oldF : ∀ J1, mPf A J J1 → mRf A J (jm_up J1 167 7 0) := fun J1 f => ⟨fun x b1 b2 b3 b4 => by rw [zu_row b1, f.1 x b1 b2 b3 b4], fun k b1 b2 b3 b4 b5 b6 => by rw [zu_key b1, f.2.2.2 k b4 b5 b6]⟩
  have flt : ∀ J1 f, mE A J J1 f → 0 ≤ f ∧ f ≤ 250 → (zG B (B.1 + 1) 0 (-1) [] A).1 = f → q_170 xs L (d + 1599) (-2) (jm_up J1 167 7 0) K (fun r J2 K2 => P ((-20) - (J2 167 39)) J2 K2) := fun J1 f e hf ef => by
    refine s_170 (k := 2) (by omega) (by omega) ?_
    have e39 : rM (jm_up J1 167 7 0) 2 167 39 = f := by
      unfold rM
      rw [zu_row (by omega), zu_key (by omega)]
      exact e.2
    rw [e39]
    rw [ef] at hb
    exact hb (by omega) _ (oldF J1 e.1) (oldQ J1 e.1) zu_self
  have start : mP A J (jm_up (jm_up (jm_up J 167 38 0) 167 39 (-1)) 167 40 (J 167 10)) 0 A := ⟨⟨fun x b1 b2 b3 b4 => by rw [zu_row b1, zu_row b1, zu_row b1], fun i hi => by rw [zu_row (by omega), zu_row (by omega), zu_row (by omega)], fun i hi => by rw [zu_row (by omega), zu_row (by omega), zu_row (by omega)], fun k b1 b2 b3 => by rw [zu_key b3, zu_key b2, zu_key b1]⟩, ⟨Nat.le_refl _, a2.2⟩, by rw [zu_key (by omega), zu_key (by omega), zu_self]; rfl, by rw [zu_key (by omega), zu_self], by rw [zu_self, e10], fun i hi _ => by
    rw [zu_row (by omega), zu_row (by omega), zu_row (by omega), zu_row (by omega), zu_row (by omega), zu_row (by omega)]
    exact a4.2 i hi⟩
  refine e_211 (r_all (xs := xs) (L := L) (K := K) hB h0 (B.1 + 1) (d + 1599) (B.1 + 1) 0 [] A _ _ (by omega) (by omega) (by omega) (by omega) zTp_n (by omega) start ⟨fun J1 f r e1 f0 ef => ?_, fun J1 n1 p1 t1 M1 S1 hn1 hp1 hp1' hg ht1 hM1 hM1' ha => ?_⟩)
  · have e9 := e1.2
    exact ⟨by omega, fun _ => by
      have := flt J1 f e1 f0 ef
      exact this, fun c => by omega⟩
  · have ha := ha (by omega)
    have e9 := S1.2.2.2.1
    have zq := zAf_s ha
    refine ⟨by omega, fun c => absurd e9 c, fun _ => s_217 hB h0 hp1' S1 (fun J2 S2 _ => ?_)⟩
    rw [zq] at S2 ⊢
    have br := zbt_r hB p1
    have e9' := S2.2.2.2.1
    have e8 := S2.2.2.1
    have e4 := S2.2.2.2.2.1
    obtain ⟨n2, rfl⟩ : ∃ n2, n1 = n2 + 1 := ⟨n1 - 1, by omega⟩
    refine ⟨by omega, fun c => ⟨by omega, fun _ => ⟨by omega, fun q => ?_, fun q => ?_⟩, fun z => absurd e9' z⟩, fun c => ?_⟩
    · have l : ¬ p1 < B.1 := fun l => by
        have := br.1 l
        omega
      have g : zG B (B.1 + 1) 0 (-1) [] A = (-1, M1) := by
        rw [hg, zG_e (by omega)]
        unfold zEn
        rw [if_neg (by omega), zJ_n]
        rfl
      rw [g] at h
      rw [e4]
      have sM := S2.2.1
      have f := S2.1
      have hm24 : M1.1 ≤ 24 := by omega
      have gk : ∀ k, k ≠ 7 → k ≠ 10 → k ≠ 26 → k ≠ 38 → k ≠ 39 → k ≠ 40 → jm_up (jm_up (jm_up J2 167 7 0) 167 10 (M1.1 : Int)) 167 26 0 167 k = J 167 k := fun k b1 b2 b3 b4 b5 b6 => by rw [zu_key b3, zu_key b2, zu_key b1, f.2.2.2 k b4 b5 b6]
      have gr : ∀ x, x ≠ 167 → x ≠ 187 → x ≠ 188 → x ≠ 204 → jm_up (jm_up (jm_up J2 167 7 0) 167 10 (M1.1 : Int)) 167 26 0 x = J x := fun x b1 b2 b3 b4 => by rw [zu_row b1, zu_row b1, zu_row b1, f.1 x b1 b2 b3 b4]
      refine h rfl hm24 _ ⟨gr, gk⟩ ⟨a1, ⟨hm24, sM.2⟩, mT_of a3 (gk 9 (by omega) (by omega) (by omega) (by omega) (by omega) (by omega)) (gr _ (by omega) (by omega) (by omega) (by omega)) (gr _ (by omega) (by omega) (by omega) (by omega)) (gr _ (by omega) (by omega) (by omega) (by omega)), ⟨by rw [zu_key (by omega), zu_self], fun i hi => ?_⟩, by rw [gk 37 (by omega) (by omega) (by omega) (by omega) (by omega) (by omega)]; exact a5, .inl zu_self, fun w => by rw [zu_self] at w; omega⟩ (by rw [zu_key (by omega), zu_key (by omega), zu_self])
      have hi : i < M1.1 := hi
      rw [zu_row (by omega), zu_row (by omega), zu_row (by omega), zu_row (by omega), zu_row (by omega), zu_row (by omega)]
      exact S2.2.2.2.2.2 i hi (by omega)
    · have l : ¬ p1 < B.1 := fun l => by
        have := br.1 l
        omega
      have g : zG B (B.1 + 1) 0 (-1) [] A = (-1, M1) := by
        rw [hg, zG_e (by omega)]
        unfold zEn
        rw [if_neg (by omega), zJ_n]
        rfl
      rw [g] at hb2
      have q : ¬ M1.1 ≤ 24 := by omega
      exact s_170 (k := 6) (by omega) (by omega) (hb2 rfl q _ (oldF J2 S2.1) (oldQ J2 S2.1) zu_self)
    · have l : p1 < B.1 := by
        by_cases l : p1 < B.1
        · exact l
        · exact absurd (br.2.1 l) c
      have z := zlv_no (ha l).2
      have g : (zG B (B.1 + 1) 0 (-1) [] A).1 = (p1 : Int) := by
        rw [hg, zG_c l (ha l).1 (by omega) z.1 z.2, zJ_n]
        rfl
      rw [e8]
      refine s_220 S2 (fun J3 E3 => ?_)
      have e93 := E3.2
      exact ⟨by omega, fun c => by omega, fun _ => flt J3 _ E3 (by omega) g⟩
theorem zG_r {A : zA} {B : zB} (hB : zB_ok B) : ∀ (n p : Nat) (t : Int) (st : zK) (M : zA), p ≤ B.1 → B.1 < n + p → -1 ≤ (zG B n p t st M).1 ∧ (zG B n p t st M).1 ≤ 300
  | 0, p, t, st, M, hp, hn => by omega
  | n + 1, p, t, st, M, hp, hn => by
    have h250 := hB.1
    by_cases l : p < B.1
    · by_cases h32 : B.2 p = 32
      · rw [zG_b l h32]
        exact zG_r (A := A) hB n (p + 1) t st M (by omega) (by omega)
      · have nr := zN_r (B := B) (p := p + 1) (by omega)
        have pr := zP_r (B := B) (p := p + 1) (by omega)
        by_cases ht : t = -1
        · subst ht
          rw [zG_p l h32]
          split
          · exact zG_r (A := A) hB n (p + 1) _ _ _ (by omega) (by omega)
          · split
            · exact zG_r (A := A) hB n (p + 1) _ _ _ (by omega) (by omega)
            · split
              · exact zG_r (A := A) hB n (p + 1) _ _ _ (by omega) (by omega)
              · split
                · exact zG_r (A := A) hB n (p + 1) _ _ _ (by omega) (by omega)
                · split
                  · split
                    · have pr := pr.resolve_right (by omega)
                      exact zG_r (A := A) hB n _ _ _ _ (by omega) (by omega)
                    · rename_i c
                      have pr := pr.resolve_left (fun z => c z.1)
                      dsimp only
                      omega
                  · split
                    · exact zG_r (A := A) hB n (p + 1) _ _ _ (by omega) (by omega)
                    · split
                      · split
                        · exact zG_r (A := A) hB n _ _ _ _ (by omega) (by omega)
                        · dsimp only
                          omega
                      · dsimp only
                        omega
        · by_cases hk : zki (B.2 p) = -1
          · by_cases h94 : B.2 p = 94
            · rw [zG_s l h94 ht]
              split
              · exact zG_r (A := A) hB n _ _ _ _ (by omega) (by omega)
              · dsimp only
                omega
            · rw [zG_c l h32 ht hk h94]
              generalize zJ 2 t st M = Q
              obtain ⟨t1, st1, M1⟩ := Q
              unfold zCl
              cases st1 with
              | nil =>
                dsimp only
                omega
              | cons e st' =>
                dsimp only
                split
                · exact zG_r (A := A) hB n (p + 1) _ _ _ (by omega) (by omega)
                · split
                  · exact zG_r (A := A) hB n (p + 1) _ _ _ (by omega) (by omega)
                  · split
                    · exact zG_r (A := A) hB n (p + 1) _ _ _ (by omega) (by omega)
                    · dsimp only
                      omega
          · rw [zG_k l h32 ht hk]
            exact zG_r (A := A) hB n (p + 1) _ _ _ (by omega) (by omega)
    · rw [zG_e (by omega)]
      unfold zEn
      split
      · dsimp only
        omega
      · generalize zJ 2 t st M = Q
        obtain ⟨t1, st1, M1⟩ := Q
        unfold zFi
        cases st1 with
        | nil =>
          dsimp only
          omega
        | cons e st' =>
          dsimp only
          omega
