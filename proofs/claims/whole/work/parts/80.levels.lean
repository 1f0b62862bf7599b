/-! The reference's reader: the levels of an ask, against the one stack. -/
def mC (A : zA) (B : zB) (J0 K : jZ) (P : Int → jZ → jZ → Prop) (l : Int) (n p : Nat) (st : zK) (M : zA) : Prop :=
  (∀ J' f r, mE A J0 J' f → 0 ≤ f ∧ f ≤ 250 → (zG B n p (-1) st M).1 = f → P r J' K) ∧
  (∀ J' n' p' t M', mP A J0 J' p' M' → B.1 < n' + p' → p < p' → p' ≤ B.1 → zG B n p (-1) st M = zG B n' p' t st M' → 0 ≤ t ∧ t < (M'.1 : Int) → M'.1 + p ≤ M.1 + p' → M.1 ≤ M'.1 → (l ≤ 5 → zAf B l p') → P t J' K)
def mLv (A : zA) (B : zB) (J0 K : jZ) (Q : Nat → jZ → jZ → (Int → jZ → jZ → Prop) → Prop) (h : Nat) (l : Int) (m : Nat) : Prop := ∀ (D n p : Nat) (st : zK) (M : zA) (J : jZ) (P : Int → jZ → jZ → Prop), 6 * m + h ≤ D → B.1 < p + m → B.1 < n + p → p ≤ B.1 → zTp l st → M.1 ≤ 24 + p → mP A J0 J p M → mC A B J0 K P l n p st M → Q D J K P
theorem zAf_s {B : zB} {l : Int} {p : Nat} (h : zAf B l p) : zsk B p = p := by
  by_cases c : p < B.1
  · exact zsk_f (h c).1
  · exact zsk_n (by omega)
theorem zbt_r {B : zB} (hB : zB_ok B) (p : Nat) : (p < B.1 → zbt B p = B.2 p ∧ 0 ≤ B.2 p ∧ B.2 p ≤ 255) ∧ (¬ p < B.1 → zbt B p = -1) ∧ -1 ≤ zbt B p ∧ zbt B p ≤ 255 := by
  unfold zbt
  by_cases c : p < B.1
  · have := hB.2 p c
    rw [if_pos c]
    exact ⟨fun _ => ⟨rfl, this⟩, fun z => absurd c z, by omega, by omega⟩
  · rw [if_neg c]
    exact ⟨fun z => absurd z c, fun _ => rfl, by omega, by omega⟩
theorem zlv_5 (b : Int) : zlv b ≤ 5 := by
  unfold zlv
  split <;> omega
section RM
variable {J0 : jZ} {A : zA} {B : zB}
theorem s_215_25 {xs : Nat → Int32} {L : Nat} {K : jZ} {P : Int → jZ → jZ → Prop} {m n p D : Nat} {st : zK} {M : zA} (hB : zB_ok B) (h0 : mB_at J0 B) (hy : mLv A B J0 K (fun D => q_216 xs L D) 8 6 m) (hD : 6 * m + 8 ≤ D) (hm : B.1 < p + m) (hT : zTp 5 st) (hM : M.1 ≤ 24 + p) (hC : mC A B J0 K P 5 n p st M) : ∀ (k n1 p1 : Nat) (t1 : Int) (M1 : zA) (J : jZ), B.1 < p1 + k → p < p1 → B.1 < n1 + p1 → p1 ≤ B.1 → mP A J0 J p1 M1 → zG B n p (-1) st M = zG B n1 p1 t1 st M1 → 0 ≤ t1 ∧ t1 < (M1.1 : Int) → M1.1 + p ≤ M.1 + p1 → M.1 ≤ M1.1 → (p1 < B.1 → ¬ B.2 p1 = 32) → l_215_25 xs L D t1 (zte (zbt B p1)) J K P
  | 0, n1, p1, t1, M1, J, hk, hp1, hn1, hp, hS, hG, ht, hM1, hM2, h32 => by omega
  | k + 1, n1, p1, t1, M1, J, hk, hp1, hn1, hp, hS, hG, ht, hM1, hM2, h32 => by
    have h250 := hB.1
    obtain ⟨E, rfl⟩ : ∃ E, D = E + 8 := ⟨D - 8, by omega⟩
    have e8 := hS.2.2.1
    have br := zbt_r hB p1
    have zr := zte_r (zbt B p1)
    have nt : ¬ t1 = -1 := by omega
    -- behind one more
    have tail : ∀ (J9 : jZ) (n3 p3 : Nat) (t3 : Int) (M3 : zA), mP A J0 J9 p3 M3 → p1 < p3 → B.1 < n3 + p3 → p3 ≤ B.1 → 0 ≤ t3 ∧ t3 < (M3.1 : Int) → M3.1 + p ≤ M.1 + p3 → M.1 ≤ M3.1 → (∀ n4, B.1 < n4 + zsk B p3 → True) → (∃ n4, B.1 < n4 + zsk B p3 ∧ zG B n p (-1) st M = zG B n4 (zsk B p3) t3 st M3) → (-2147483648 ≤ J9 167 39 ∧ J9 167 39 < 2147483648) ∧ (¬ (J9 167 39) = (-1) → l_215_25 xs L (E + 8) t3 (-1) J9 K P) ∧ ((J9 167 39) = (-1) → q_217 xs L (E + 8) J9 K (fun r16 J14 K15 => q_225 xs L (E + 8) r16 J14 K15 (fun r19 J17 K18 => l_215_25 xs L (E + 8) t3 r19 J17 K18 P))) := fun J9 n3 p3 t3 M3 S3 hp3 hn3 hp3' ht3 hM3 hM4 _ hz => by
      obtain ⟨n4, hn4, hg⟩ := hz
      have e9 := S3.2.2.2.1
      have sr := zsk_r hp3'
      refine ⟨by omega, fun z => absurd e9 z, fun _ => s_217 hB h0 hp3' S3 (fun J5 S5 _ => ?_)⟩
      have br3 := zbt_r hB (zsk B p3)
      exact s_225 (by omega) (s_215_25 hB h0 hy hD hm hT hM hC k n4 (zsk B p3) t3 M3 J5 (by omega) (by omega) hn4 sr.2.1 S5 hg ht3 (by omega) hM4 sr.2.2)
    rcases zr with z | z | z
    · rw [z]
      refine e_215_25 ⟨by omega, fun _ => hC.2 J n1 p1 t1 M1 hS hn1 hp1 hp hG ht hM1 hM2 (fun _ c => ⟨h32 c, ?_⟩), fun c => absurd rfl c⟩
      have := br.1 c
      rw [this.1] at z
      exact zte_n z
    · have lt : p1 < B.1 := by
        by_cases c : p1 < B.1
        · exact c
        · have := br.2.1 c
          rw [this] at z
          have e : zte (-1) = -1 := by decide
          omega
      have bb := br.1 lt
      rw [bb.1] at z ⊢
      obtain ⟨n2, rfl⟩ : ∃ n2, n1 = n2 + 1 := ⟨n1 - 1, by omega⟩
      have g : zG B (n2 + 1) p1 t1 st M1 = zG B n2 (p1 + 1) (-1) ((zte (B.2 p1), [t1]) :: st) M1 := by
        rw [zG_k lt (h32 lt) nt (by omega), zJ_tp (l := 5) hT (by omega), z.2.2.1]
      refine e_215_25 ⟨by omega, fun c => by omega, fun _ => ⟨fun _ => ?_, fun c => by omega⟩⟩
      rw [e8]
      refine hy (E + 8) n2 (p1 + 1) ((zte (B.2 p1), [t1]) :: st) M1 _ _ hD (by omega) (by omega) (by omega) (zTp_c (by omega)) (by omega) (mP_p hS (by omega)) ⟨fun J3 f r e3 f0 ef => ?_, fun J3 n3 p3 t3 M3 S3 hn3 hp3 hp3' hg ht3 hM3 hM4 _ => ?_⟩
      · have e9 := e3.2
        exact ⟨by omega, fun c => by omega, fun _ => e_215_25 ⟨by omega, fun _ => hC.1 J3 f 0 e3 f0 (by rw [hG, g, ef]), fun c => absurd rfl c⟩⟩
      · have e9 := S3.2.2.2.1
        have ok := zr_pr (m := M3.1) (k := zte (B.2 p1)) (x := t1) (y := t3) (by omega) (by omega) ht3
        have n1' : (zA_a M3 (zr_5 (zte (B.2 p1)) t1 t3 (-1) (-1))).1 = M3.1 + 1 := rfl
        refine ⟨by omega, fun _ => s_218 (by omega) ok.1 S3 (fun J4 S4 => tail J4 n3 p3 (M3.1 : Int) _ S4 (by omega) hn3 hp3' (by omega) (by omega) (by omega) (fun _ _ => trivial) ?_), fun c => absurd e9 c⟩
        obtain ⟨n4, h1, h2⟩ := zG_z (B := B) (t := t3) (st := (zte (B.2 p1), [t1]) :: st) (M := M3) (B.1 - p3) n3 p3 (by omega) hn3
        have sr := zsk_r hp3'
        refine ⟨n4, h1, ?_⟩
        rw [hG, g, hg, h2]
        refine zG_j (by omega) ht3.1 (by omega) (fun c => ⟨sr.2.2 c, ?_⟩)
        have := zlv_5 (B.2 (zsk B p3))
        omega
    · have lt : p1 < B.1 := by
        by_cases c : p1 < B.1
        · exact c
        · have := br.2.1 c
          omega
      have bb := br.1 lt
      rw [bb.1] at z
      rw [bb.1, z.1]
      obtain ⟨n2, rfl⟩ : ∃ n2, n1 = n2 + 1 := ⟨n1 - 1, by omega⟩
      have g := zG_s (B := B) (n := n2) (p := p1) (t := t1) (st := st) (M := M1) lt z.2 nt
      rw [zJ_tp (l := 5) hT (by omega)] at g
      dsimp only at g
      have nr := zN_r (B := B) (p := p1 + 1) (by omega)
      refine e_215_25 ⟨by omega, fun c => by omega, fun _ => ⟨fun c => absurd rfl c, fun _ => ?_⟩⟩
      rw [e8]
      refine s_224 hB h0 (by omega) (by omega) (mP_p (p' := p1 + 1) hS (by omega)) (fun ok J3 S3 => ?_) (fun no J3 E3 => ?_)
      · have e9 := S3.2.2.2.1
        rw [if_pos ok] at g
        have n1' : (zA_a M1 (zr_5 10 t1 (zNv B (p1 + 1)) (-1) (-1))).1 = M1.1 + 1 := rfl
        refine ⟨by omega, fun _ => s_218 (by omega) (.inr (.inr (.inr (.inr (.inl ⟨rfl, ht.1, ht.2, ok.2.1, ok.2.2, rfl, rfl⟩))))) S3 (fun J4 S4 => tail J4 n2 (zNe B (p1 + 1)) (M1.1 : Int) _ S4 (by omega) (by omega) (by omega) (by omega) (by omega) (by omega) (fun _ _ => trivial) ?_), fun c => absurd e9 c⟩
        obtain ⟨n4, h1, h2⟩ := zG_z (B := B) (t := (M1.1 : Int)) (st := st) (M := zA_a M1 (zr_5 10 t1 (zNv B (p1 + 1)) (-1) (-1))) (B.1 - zNe B (p1 + 1)) n2 (zNe B (p1 + 1)) (by omega) (by omega)
        exact ⟨n4, h1, by rw [hG, g, h2]⟩
      · have e9 := E3.2
        rw [if_neg no] at g
        exact ⟨by omega, fun c => by omega, fun _ => e_215_25 ⟨by omega, fun _ => hC.1 J3 _ 0 E3 (by omega) (by rw [hG, g]), fun c => absurd rfl c⟩⟩
theorem r_215 {xs : Nat → Int32} {L : Nat} {K : jZ} {m : Nat} (hB : zB_ok B) (h0 : mB_at J0 B) (hy : mLv A B J0 K (fun D => q_216 xs L D) 8 6 m) : mLv A B J0 K (fun D => q_215 xs L D) 9 5 m := by
  intro D n p st M J P hD hm hn hp hT hM hS hC
  have h250 := hB.1
  obtain ⟨E, rfl⟩ : ∃ E, D = E + 9 := ⟨D - 9, by omega⟩
  refine e_215 (hy (E + 8) n p st M J _ (by omega) hm hn hp (zTp_m hT (by omega)) hM hS ⟨fun J3 f r e3 f0 ef => ?_, fun J3 n3 p3 t3 M3 S3 hn3 hp3 hp3' hg ht3 hM3 hM4 _ => ?_⟩)
  · have e9 := e3.2
    exact ⟨by omega, fun _ => e_215_25 ⟨by omega, fun _ => hC.1 J3 f r e3 f0 ef, fun c => absurd rfl c⟩, fun c => by omega⟩
  · have e9 := S3.2.2.2.1
    have sr := zsk_r hp3'
    refine ⟨by omega, fun c => absurd e9 c, fun _ => s_217 hB h0 hp3' S3 (fun J5 S5 _ => ?_)⟩
    have br3 := zbt_r hB (zsk B p3)
    obtain ⟨n4, h1, h2⟩ := zG_z (B := B) (t := t3) (st := st) (M := M3) (B.1 - p3) n3 p3 (by omega) hn3
    exact s_225 (by omega) (s_215_25 hB h0 hy (by omega) hm hT hM hC (B.1 + 1) n4 (zsk B p3) t3 M3 J5 (by omega) (by omega) h1 sr.2.1 S5 (by rw [hg, h2]) ht3 (by omega) hM4 sr.2.2)
theorem zlv_4 {b : Int} (h : zlv b < 5) (hb : ¬ b = 60) : zlv b < 4 := by
  unfold zlv zki at *
  repeat' split at h
  all_goals (repeat' split)
  all_goals omega
theorem s_214_5 {xs : Nat → Int32} {L : Nat} {K : jZ} {P : Int → jZ → jZ → Prop} {m n p D : Nat} {st : zK} {M : zA} (hB : zB_ok B) (h0 : mB_at J0 B) (hy : mLv A B J0 K (fun D => q_215 xs L D) 9 5 m) (hD : 6 * m + 9 ≤ D) (hm : B.1 < p + m) (hT : zTp 4 st) (hM : M.1 ≤ 24 + p) (hC : mC A B J0 K P 4 n p st M) : ∀ (k n1 p1 : Nat) (t1 : Int) (M1 : zA) (J : jZ), B.1 < p1 + k → p < p1 → B.1 < n1 + p1 → p1 ≤ B.1 → mP A J0 J p1 M1 → zG B n p (-1) st M = zG B n1 p1 t1 st M1 → 0 ≤ t1 ∧ t1 < (M1.1 : Int) → M1.1 + p ≤ M.1 + p1 → M.1 ≤ M1.1 → zAf B 5 p1 → l_214_5 xs L D t1 J K P
  | 0, n1, p1, t1, M1, J, hk, hp1, hn1, hp, hS, hG, ht, hM1, hM2, ha => by omega
  | k + 1, n1, p1, t1, M1, J, hk, hp1, hn1, hp, hS, hG, ht, hM1, hM2, ha => by
    have h250 := hB.1
    obtain ⟨E, rfl⟩ : ∃ E, D = E + 8 := ⟨D - 8, by omega⟩
    have zq := zAf_s ha
    have nt : ¬ t1 = -1 := by omega
    refine e_214_5 (s_222 hB h0 hp (by omega) hS (fun c1 c2 J2 S2 _ => ?_) (fun c J2 S2 _ => ?_))
    · rw [zq] at c1 c2 S2
      obtain ⟨n2, rfl⟩ : ∃ n2, n1 = n2 + 1 := ⟨n1 - 1, by omega⟩
      have hki : zki (B.2 p1) = 4 := by
        rw [c2]
        decide
      have g : zG B (n2 + 1) p1 t1 st M1 = zG B n2 (p1 + 1) (-1) ((4, [t1]) :: st) M1 := by
        rw [zG_k c1 (ha c1).1 nt (by omega), hki, zJ_tp (l := 4) hT (by omega)]
      refine ⟨by omega, fun z => by omega, fun _ => hy (E + 8) n2 (p1 + 1) ((4, [t1]) :: st) M1 _ _ hD (by omega) (by omega) (by omega) (zTp_c (by omega)) (by omega) S2 ⟨fun J3 f r e3 f0 ef => ?_, fun J3 n3 p3 t3 M3 S3 hn3 hp3 hp3' hg ht3 hM3 hM4 ha3 => ?_⟩⟩
      · have e9 := e3.2
        exact ⟨by omega, fun z => by omega, fun _ => s_214_5f (by omega) e3 (fun r4 J4 e4 => hC.1 J4 f r4 e4 f0 (by rw [hG, g, ef]))⟩
      · have e9 := S3.2.2.2.1
        have ha3 := ha3 (by omega)
        have ok := zr_pr (m := M3.1) (k := 4) (x := t1) (y := t3) (by omega) (by omega) ht3
        have n1' : (zA_a M3 (zr_5 4 t1 t3 (-1) (-1))).1 = M3.1 + 1 := rfl
        refine ⟨by omega, fun _ => s_218 (by omega) ok.1 S3 (fun J4 S4 => s_214_5 hB h0 hy hD hm hT hM hC k n3 p3 (M3.1 : Int) _ J4 (by omega) (by omega) hn3 hp3' S4 ?_ (by omega) (by omega) (by omega) ha3), fun z => absurd e9 z⟩
        rw [hG, g, hg]
        refine zG_j (by omega) ht3.1 (by omega) (fun c => ⟨(ha3 c).1, ?_⟩)
        have := (ha3 c).2
        omega
    · rw [zq] at c S2
      refine ⟨by omega, fun _ => hC.2 J2 n1 p1 t1 M1 S2 hn1 hp1 hp hG ht hM1 hM2 (fun _ c2 => ⟨(ha c2).1, zlv_4 (ha c2).2 (fun e => c ⟨c2, e⟩)⟩), fun z => absurd rfl z⟩
theorem r_214 {xs : Nat → Int32} {L : Nat} {K : jZ} {m : Nat} (hB : zB_ok B) (h0 : mB_at J0 B) (hy : mLv A B J0 K (fun D => q_215 xs L D) 9 5 m) : mLv A B J0 K (fun D => q_214 xs L D) 10 4 m := by
  intro D n p st M J P hD hm hn hp hT hM hS hC
  have h250 := hB.1
  obtain ⟨E, rfl⟩ : ∃ E, D = E + 9 := ⟨D - 9, by omega⟩
  refine e_214 (hy (E + 8) n p st M J _ (by omega) hm hn hp (zTp_m hT (by omega)) hM hS ⟨fun J3 f r e3 f0 ef => ?_, fun J3 n3 p3 t3 M3 S3 hn3 hp3 hp3' hg ht3 hM3 hM4 ha3 => ?_⟩)
  · exact s_214_5f (by omega) e3 (fun r4 J4 e4 => hC.1 J4 f r4 e4 f0 ef)
  · exact s_214_5 hB h0 hy (by omega) hm hT hM hC (B.1 + 1) n3 p3 t3 M3 J3 (by omega) hp3 hn3 hp3' S3 hg ht3 hM3 hM4 (ha3 (by omega))
theorem zlv_3 {b : Int} (h : zlv b < 4) (hb : ¬ b = 38) : zlv b < 3 := by
  unfold zlv zki at *
  repeat' split at h
  all_goals (repeat' split)
  all_goals omega
theorem s_213_5 {xs : Nat → Int32} {L : Nat} {K : jZ} {P : Int → jZ → jZ → Prop} {m n p D : Nat} {st : zK} {M : zA} (hB : zB_ok B) (h0 : mB_at J0 B) (hy : mLv A B J0 K (fun D => q_214 xs L D) 10 4 m) (hD : 6 * m + 10 ≤ D) (hm : B.1 < p + m) (hT : zTp 3 st) (hM : M.1 ≤ 24 + p) (hC : mC A B J0 K P 3 n p st M) : ∀ (k n1 p1 : Nat) (t1 : Int) (M1 : zA) (J : jZ), B.1 < p1 + k → p < p1 → B.1 < n1 + p1 → p1 ≤ B.1 → mP A J0 J p1 M1 → zG B n p (-1) st M = zG B n1 p1 t1 st M1 → 0 ≤ t1 ∧ t1 < (M1.1 : Int) → M1.1 + p ≤ M.1 + p1 → M.1 ≤ M1.1 → zAf B 4 p1 → l_213_5 xs L D t1 J K P
  | 0, n1, p1, t1, M1, J, hk, hp1, hn1, hp, hS, hG, ht, hM1, hM2, ha => by omega
  | k + 1, n1, p1, t1, M1, J, hk, hp1, hn1, hp, hS, hG, ht, hM1, hM2, ha => by
    have h250 := hB.1
    obtain ⟨E, rfl⟩ : ∃ E, D = E + 8 := ⟨D - 8, by omega⟩
    have zq := zAf_s ha
    have nt : ¬ t1 = -1 := by omega
    refine e_213_5 (s_222 hB h0 hp (by omega) hS (fun c1 c2 J2 S2 _ => ?_) (fun c J2 S2 _ => ?_))
    · rw [zq] at c1 c2 S2
      obtain ⟨n2, rfl⟩ : ∃ n2, n1 = n2 + 1 := ⟨n1 - 1, by omega⟩
      have hki : zki (B.2 p1) = 3 := by
        rw [c2]
        decide
      have g : zG B (n2 + 1) p1 t1 st M1 = zG B n2 (p1 + 1) (-1) ((3, [t1]) :: st) M1 := by
        rw [zG_k c1 (ha c1).1 nt (by omega), hki, zJ_tp (l := 3) hT (by omega)]
      refine ⟨by omega, fun z => by omega, fun _ => hy (E + 8) n2 (p1 + 1) ((3, [t1]) :: st) M1 _ _ hD (by omega) (by omega) (by omega) (zTp_c (by omega)) (by omega) S2 ⟨fun J3 f r e3 f0 ef => ?_, fun J3 n3 p3 t3 M3 S3 hn3 hp3 hp3' hg ht3 hM3 hM4 ha3 => ?_⟩⟩
      · have e9 := e3.2
        exact ⟨by omega, fun z => by omega, fun _ => s_213_5f (by omega) e3 (fun r4 J4 e4 => hC.1 J4 f r4 e4 f0 (by rw [hG, g, ef]))⟩
      · have e9 := S3.2.2.2.1
        have ha3 := ha3 (by omega)
        have ok := zr_pr (m := M3.1) (k := 3) (x := t1) (y := t3) (by omega) (by omega) ht3
        have n1' : (zA_a M3 (zr_5 3 t1 t3 (-1) (-1))).1 = M3.1 + 1 := rfl
        refine ⟨by omega, fun _ => s_218 (by omega) ok.1 S3 (fun J4 S4 => s_213_5 hB h0 hy hD hm hT hM hC k n3 p3 (M3.1 : Int) _ J4 (by omega) (by omega) hn3 hp3' S4 ?_ (by omega) (by omega) (by omega) ha3), fun z => absurd e9 z⟩
        rw [hG, g, hg]
        refine zG_j (by omega) ht3.1 (by omega) (fun c => ⟨(ha3 c).1, ?_⟩)
        have := (ha3 c).2
        omega
    · rw [zq] at c S2
      refine ⟨by omega, fun _ => hC.2 J2 n1 p1 t1 M1 S2 hn1 hp1 hp hG ht hM1 hM2 (fun _ c2 => ⟨(ha c2).1, zlv_3 (ha c2).2 (fun e => c ⟨c2, e⟩)⟩), fun z => absurd rfl z⟩
theorem r_213 {xs : Nat → Int32} {L : Nat} {K : jZ} {m : Nat} (hB : zB_ok B) (h0 : mB_at J0 B) (hy : mLv A B J0 K (fun D => q_214 xs L D) 10 4 m) : mLv A B J0 K (fun D => q_213 xs L D) 11 3 m := by
  intro D n p st M J P hD hm hn hp hT hM hS hC
  have h250 := hB.1
  obtain ⟨E, rfl⟩ : ∃ E, D = E + 9 := ⟨D - 9, by omega⟩
  refine e_213 (hy (E + 8) n p st M J _ (by omega) hm hn hp (zTp_m hT (by omega)) hM hS ⟨fun J3 f r e3 f0 ef => ?_, fun J3 n3 p3 t3 M3 S3 hn3 hp3 hp3' hg ht3 hM3 hM4 ha3 => ?_⟩)
  · exact s_213_5f (by omega) e3 (fun r4 J4 e4 => hC.1 J4 f r4 e4 f0 ef)
  · exact s_213_5 hB h0 hy (by omega) hm hT hM hC (B.1 + 1) n3 p3 t3 M3 J3 (by omega) hp3 hn3 hp3' S3 hg ht3 hM3 hM4 (ha3 (by omega))
theorem zlv_2 {b : Int} (h : zlv b < 3) (hb : ¬ b = 124) : zlv b < 2 := by
  unfold zlv zki at *
  repeat' split at h
  all_goals (repeat' split)
  all_goals omega
theorem s_212_5 {xs : Nat → Int32} {L : Nat} {K : jZ} {P : Int → jZ → jZ → Prop} {m n p D : Nat} {st : zK} {M : zA} (hB : zB_ok B) (h0 : mB_at J0 B) (hy : mLv A B J0 K (fun D => q_213 xs L D) 11 3 m) (hD : 6 * m + 11 ≤ D) (hm : B.1 < p + m) (hT : zTp 2 st) (hM : M.1 ≤ 24 + p) (hC : mC A B J0 K P 2 n p st M) : ∀ (k n1 p1 : Nat) (t1 : Int) (M1 : zA) (J : jZ), B.1 < p1 + k → p < p1 → B.1 < n1 + p1 → p1 ≤ B.1 → mP A J0 J p1 M1 → zG B n p (-1) st M = zG B n1 p1 t1 st M1 → 0 ≤ t1 ∧ t1 < (M1.1 : Int) → M1.1 + p ≤ M.1 + p1 → M.1 ≤ M1.1 → zAf B 3 p1 → l_212_5 xs L D t1 J K P
  | 0, n1, p1, t1, M1, J, hk, hp1, hn1, hp, hS, hG, ht, hM1, hM2, ha => by omega
  | k + 1, n1, p1, t1, M1, J, hk, hp1, hn1, hp, hS, hG, ht, hM1, hM2, ha => by
    have h250 := hB.1
    obtain ⟨E, rfl⟩ : ∃ E, D = E + 8 := ⟨D - 8, by omega⟩
    have zq := zAf_s ha
    have nt : ¬ t1 = -1 := by omega
    refine e_212_5 (s_222 hB h0 hp (by omega) hS (fun c1 c2 J2 S2 _ => ?_) (fun c J2 S2 _ => ?_))
    · rw [zq] at c1 c2 S2
      obtain ⟨n2, rfl⟩ : ∃ n2, n1 = n2 + 1 := ⟨n1 - 1, by omega⟩
      have hki : zki (B.2 p1) = 2 := by
        rw [c2]
        decide
      have g : zG B (n2 + 1) p1 t1 st M1 = zG B n2 (p1 + 1) (-1) ((2, [t1]) :: st) M1 := by
        rw [zG_k c1 (ha c1).1 nt (by omega), hki, zJ_tp (l := 2) hT (by omega)]
      refine ⟨by omega, fun z => by omega, fun _ => hy (E + 8) n2 (p1 + 1) ((2, [t1]) :: st) M1 _ _ hD (by omega) (by omega) (by omega) (zTp_c (by omega)) (by omega) S2 ⟨fun J3 f r e3 f0 ef => ?_, fun J3 n3 p3 t3 M3 S3 hn3 hp3 hp3' hg ht3 hM3 hM4 ha3 => ?_⟩⟩
      · have e9 := e3.2
        exact ⟨by omega, fun z => by omega, fun _ => s_212_5f (by omega) e3 (fun r4 J4 e4 => hC.1 J4 f r4 e4 f0 (by rw [hG, g, ef]))⟩
      · have e9 := S3.2.2.2.1
        have ha3 := ha3 (by omega)
        have ok := zr_pr (m := M3.1) (k := 2) (x := t1) (y := t3) (by omega) (by omega) ht3
        have n1' : (zA_a M3 (zr_5 2 t1 t3 (-1) (-1))).1 = M3.1 + 1 := rfl
        refine ⟨by omega, fun _ => s_218 (by omega) ok.1 S3 (fun J4 S4 => s_212_5 hB h0 hy hD hm hT hM hC k n3 p3 (M3.1 : Int) _ J4 (by omega) (by omega) hn3 hp3' S4 ?_ (by omega) (by omega) (by omega) ha3), fun z => absurd e9 z⟩
        rw [hG, g, hg]
        refine zG_j (by omega) ht3.1 (by omega) (fun c => ⟨(ha3 c).1, ?_⟩)
        have := (ha3 c).2
        omega
    · rw [zq] at c S2
      refine ⟨by omega, fun _ => hC.2 J2 n1 p1 t1 M1 S2 hn1 hp1 hp hG ht hM1 hM2 (fun _ c2 => ⟨(ha c2).1, zlv_2 (ha c2).2 (fun e => c ⟨c2, e⟩)⟩), fun z => absurd rfl z⟩
theorem r_212 {xs : Nat → Int32} {L : Nat} {K : jZ} {m : Nat} (hB : zB_ok B) (h0 : mB_at J0 B) (hy : mLv A B J0 K (fun D => q_213 xs L D) 11 3 m) : mLv A B J0 K (fun D => q_212 xs L D) 12 2 m := by
  intro D n p st M J P hD hm hn hp hT hM hS hC
  have h250 := hB.1
  obtain ⟨E, rfl⟩ : ∃ E, D = E + 9 := ⟨D - 9, by omega⟩
  refine e_212 (hy (E + 8) n p st M J _ (by omega) hm hn hp (zTp_m hT (by omega)) hM hS ⟨fun J3 f r e3 f0 ef => ?_, fun J3 n3 p3 t3 M3 S3 hn3 hp3 hp3' hg ht3 hM3 hM4 ha3 => ?_⟩)
  · exact s_212_5f (by omega) e3 (fun r4 J4 e4 => hC.1 J4 f r4 e4 f0 ef)
  · exact s_212_5 hB h0 hy (by omega) hm hT hM hC (B.1 + 1) n3 p3 t3 M3 J3 (by omega) hp3 hn3 hp3' S3 hg ht3 hM3 hM4 (ha3 (by omega))
end RM
