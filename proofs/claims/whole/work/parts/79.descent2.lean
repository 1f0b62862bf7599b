/-! The reference's reader: phrases; what it does behind a fault. -/
theorem zPk_z {B : zB} {N : Nat} {v : Nat → Int} : ∀ n p : Nat, p + n = B.1 → ∃ n', zsk B p + n' = B.1 ∧ n' ≤ n ∧ zPk B n p N v = zPk B n' (zsk B p) N v
  | 0, p, h => ⟨0, by rw [zsk_n (by omega)]; omega, by omega, by rw [zsk_n (by omega)]⟩
  | n + 1, p, h => by
    by_cases c : B.2 p = 32
    · obtain ⟨n', h1, h2, h3⟩ := zPk_z (B := B) (N := N) (v := v) n (p + 1) (by omega)
      rw [zsk_t (by omega) c]
      exact ⟨n', h1, by omega, by rw [zPk, if_neg (by omega), if_neg (by omega), if_pos c]; exact h3⟩
    · exact ⟨n + 1, by rw [zsk_f c]; omega, by omega, by rw [zsk_f c]⟩
theorem zPk_e {B : zB} {N n p : Nat} {v : Nat → Int} (h : p + n = B.1) (h32 : p < B.1 → ¬ B.2 p = 32) (hl : ¬ (p < B.1 ∧ (97 ≤ B.2 p ∧ B.2 p < 113) ∧ N < 4)) : (p < B.1 ∧ B.2 p = 39 ∧ 2 ≤ N → zPk B n p N v = (-1, N, v, p + 1)) ∧ (¬ (p < B.1 ∧ B.2 p = 39 ∧ 2 ≤ N) → (zPk B n p N v).1 = (p : Int)) := by
  cases n with
  | zero => exact ⟨fun c => by omega, fun _ => by
      rw [zPk]
      show (B.1 : Int) = (p : Int)
      omega⟩
  | succ n =>
    have lt : p < B.1 := by omega
    constructor
    · intro c
      rw [zPk, if_neg (fun z => hl ⟨lt, z⟩), if_pos c.2]
    · intro c
      rw [zPk, if_neg (fun z => hl ⟨lt, z⟩), if_neg (fun z => c ⟨lt, z⟩), if_neg (h32 lt)]
section RM
variable {J0 : jZ} {A M : zA} {B : zB}
theorem s_219_22 {xs : Nat → Int32} {L d : Nat} {K : jZ} {P : Int → jZ → jZ → Prop} (hB : zB_ok B) (h0 : mB_at J0 B) (hM : M.1 ≤ 1000) : ∀ (m n p N : Nat) (v : Nat → Int) (J : jZ), n < m → p + n = B.1 → N ≤ 4 → zq_w4 v N → mP A J0 J p M → (∀ k, k < 4 → J 204 k = if k < N then v k else -1) → ((zPk B n p N v).1 = -1 → ∀ J', mP A J0 J' (zPk B n p N v).2.2.2 (zA_a M (zr_ph (zPk B n p N v).2.2.1 (zPk B n p N v).2.1)) → P (M.1 : Int) J' K) → (¬ (zPk B n p N v).1 = -1 → ∀ J', mE A J0 J' (zPk B n p N v).1 → P 0 J' K) → l_219_22 xs L (d + 3) (N : Int) J K P
  | 0, n, p, N, v, J, hm, hn, hN, hv, hS, h4, h, hb => by omega
  | m + 1, n, p, N, v, J, hm, hn, hN, hv, hS, h4, h, hb => by
    have h250 := hB.1
    obtain ⟨n', z1, z2, z3⟩ := zPk_z (B := B) (N := N) (v := v) n p hn
    rw [z3] at h hb
    have sr := zsk_r (show p ≤ B.1 by omega)
    generalize hq : zsk B p = q at *
    -- behind the letters
    have fin : ∀ (J1 : jZ) (p1 : Nat), mP A J0 J1 p1 M → p1 ≤ B.1 → zsk B p1 = q → J1 204 = J 204 → 2 ≤ N → ¬ (q < B.1 ∧ (97 ≤ B.2 q ∧ B.2 q < 113) ∧ N < 4) → q_221 xs L (d + 3) 39 J1 K (fun J4 K5 => (-2147483648 ≤ J4 167 39 ∧ J4 167 39 < 2147483648) ∧ ((J4 167 39) = (-1) → q_218 xs L (d + 3) 1 (J4 204 (Int.toNat 0)) (J4 204 (Int.toNat 1)) (J4 204 (Int.toNat 2)) (J4 204 (Int.toNat 3)) J4 K5 (fun r10 J8 K9 => P r10 J8 K9)) ∧ (¬ (J4 167 39) = (-1) → P 0 J4 K5)) := fun J1 p1 S1 hp1 hq1 f4 h2 hl => by
      have ze := zPk_e (v := v) z1 sr.2.2 hl
      refine s_221 hB h0 hp1 (by omega) S1 (fun c1 c2 J2 S2 f2 => ?_) (fun c J2 E2 => ?_)
      · rw [hq1] at c1 c2 S2
        have e := ze.1 ⟨c1, c2, h2⟩
        rw [e] at h
        have e9 := S2.2.2.2.1
        have e0 : J2 204 (Int.toNat 0) = v 0 := by
          rw [f2, f4]
          have := h4 0 (by omega)
          rw [if_pos (by omega)] at this
          exact this
        have e1 : J2 204 (Int.toNat 1) = v 1 := by
          rw [f2, f4]
          have := h4 1 (by omega)
          rw [if_pos (by omega)] at this
          exact this
        have e2 : J2 204 (Int.toNat 2) = if 2 < N then v 2 else -1 := by
          rw [f2, f4]
          exact h4 2 (by omega)
        have e3 : J2 204 (Int.toNat 3) = if 3 < N then v 3 else -1 := by
          rw [f2, f4]
          exact h4 3 (by omega)
        refine ⟨by omega, fun _ => ?_, fun z => absurd e9 z⟩
        rw [e0, e1, e2, e3]
        exact s_218 hM (zr_ph_ok ⟨h2, hN⟩ hv) S2 (fun J3 S3 => h rfl J3 S3)
      · rw [hq1] at c E2
        have e := ze.2 (fun z => c ⟨z.1, z.2.1⟩)
        rw [e] at hb
        have e9 := E2.2
        exact ⟨by omega, fun z => by omega, fun _ => hb (by omega) J2 E2⟩
    refine e_219_22 ⟨by omega, fun c => ⟨fun _ => fin J p hS (by omega) hq rfl (by omega) (fun z => by omega), fun c2 => by omega⟩, fun c => s_217 hB h0 (by omega) hS (fun J1 S1 f1 => ?_)⟩
    rw [hq] at S1 ⊢
    have e8 := S1.2.2.1
    have b1 := mB_of h0 S1.1
    have hqq : zsk B q = q := by
      by_cases c2 : q < B.1
      · exact zsk_f (sr.2.2 c2)
      · exact zsk_n (by omega)
    have bt : (q < B.1 → zbt B q = B.2 q ∧ 0 ≤ B.2 q ∧ B.2 q ≤ 255) ∧ (¬ q < B.1 → zbt B q = -1) := by
      unfold zbt
      constructor
      · intro c2
        rw [if_pos c2]
        exact ⟨rfl, hB.2 q c2⟩
      · intro c2
        rw [if_neg c2]
    have br : -1 ≤ zbt B q ∧ zbt B q ≤ 255 := by
      by_cases c2 : q < B.1
      · have := bt.1 c2
        omega
      · have := bt.2 c2
        omega
    refine ⟨by omega, fun c2 => ⟨by omega, by omega, ?_⟩, fun c2 => ?_⟩
    · have lt : q < B.1 := by
        by_cases c3 : q < B.1
        · exact c3
        · have := bt.2 c3
          omega
      have bq := bt.1 lt
      obtain ⟨n2, rfl⟩ : ∃ n2, n' = n2 + 1 := ⟨n' - 1, by omega⟩
      have c1 : (97 ≤ B.2 q ∧ B.2 q < 113) ∧ N < 4 := by omega
      rw [zPk, if_pos c1] at h hb
      rw [e8, Int.toNat_natCast, Int.toNat_natCast, b1.2 q lt]
      refine s_219_22 hB h0 hM m n2 (q + 1) (N + 1) (fun i => if i = N then B.2 q - 97 else v i) _ (by omega) (by omega) (by omega) (fun k hk => ?_) (mP_4 (mP_p S1 (by omega))) (fun k hk => ?_) h hb
      · dsimp only
        split
        · omega
        · exact hv k (by omega)
      · by_cases c3 : k = N
        · subst c3
          rw [zu_self, if_pos (by omega), if_pos rfl]
        · rw [zu_key c3, zu_row (by omega), f1, h4 k hk, if_neg c3]
          by_cases c4 : k < N
          · rw [if_pos c4, if_pos (by omega)]
          · rw [if_neg c4, if_neg (by omega)]
    · have hl : ¬ (q < B.1 ∧ (97 ≤ B.2 q ∧ B.2 q < 113) ∧ N < 4) := fun z => by
        have := bt.1 z.1
        omega
      refine ⟨fun c3 => fin J1 q S1 (by omega) hqq f1 (by omega) hl, fun c3 => ?_⟩
      have e := (zPk_e (v := v) z1 sr.2.2 hl).2 (fun z => by omega)
      rw [e] at hb
      rw [e8]
      exact s_220 S1 (hb (by omega))
theorem s_219_4 {xs : Nat → Int32} {L d : Nat} {K : jZ} {P : Int → jZ → jZ → Prop} (hB : zB_ok B) (h0 : mB_at J0 B) (hM : M.1 ≤ 1000) {p : Nat} (hp : p ≤ B.1) (h : (zP B p).1 = -1 → ∀ J', mP A J0 J' (zP B p).2.2.2 (zA_a M (zr_ph (zP B p).2.2.1 (zP B p).2.1)) → P (M.1 : Int) J' K) (hb : ¬ (zP B p).1 = -1 → ∀ J', mE A J0 J' (zP B p).1 → P 0 J' K) : ∀ (n k : Nat) (J : jZ), k + n = 4 → (∀ i, i < k → J 204 i = -1) → mP A J0 J p M → l_219_4 xs L (d + 3) 0 (k : Int) J K P
  | n, k, J, hn, h4, hS => by
    refine e_219_4 ⟨by omega, fun q => ?_, fun q => ⟨by omega, ?_⟩⟩
    · exact s_219_22 hB h0 hM (B.1 - p + 1) (B.1 - p) p 0 (fun _ => 0) J (by omega) (by omega) (by omega) (fun k hk => by omega) hS (fun i hi => by rw [if_neg (by omega)]; exact h4 i (by omega)) h hb
    · match n, hn with
      | 0, hn => omega
      | n + 1, hn =>
        rw [Int.toNat_natCast]
        refine s_219_4 hB h0 hM hp h hb n (k + 1) _ (by omega) (fun i hi => ?_) (mP_4 hS)
        by_cases c : i = k
        · subst c
          exact zu_self
        · rw [zu_key c]
          exact h4 i (by omega)
theorem s_219 {xs : Nat → Int32} {L d : Nat} {J K : jZ} {P : Int → jZ → jZ → Prop} (hB : zB_ok B) (h0 : mB_at J0 B) (hM : M.1 ≤ 1000) {p : Nat} (hp : p ≤ B.1) (hS : mP A J0 J p M) (h : (zP B p).1 = -1 → ∀ J', mP A J0 J' (zP B p).2.2.2 (zA_a M (zr_ph (zP B p).2.2.1 (zP B p).2.1)) → P (M.1 : Int) J' K) (hb : ¬ (zP B p).1 = -1 → ∀ J', mE A J0 J' (zP B p).1 → P 0 J' K) : q_219 xs L (d + 4) J K P :=
  e_219 (s_219_4 hB h0 hM hp h hb 4 0 J (by omega) (fun i hi => by omega) hS)
def zte (b : Int) : Int := if b = 64 then 5 else if b = 33 then 6 else if b = 35 then 7 else if b = 45 then 8 else if b = 94 then 10 else -1
theorem s_225 {xs : Nat → Int32} {L d : Nat} {J K : jZ} {P : Int → jZ → jZ → Prop} {b : Int} (hb : -2147483648 ≤ b ∧ b < 2147483648) (h : P (zte b) J K) : q_225 xs L (d + 1) b J K P := by
  unfold zte at h
  refine e_225 ⟨hb, fun q => ⟨fun q2 => ⟨fun q3 => ⟨fun q4 => ⟨fun q5 => ?_, fun q5 => ?_⟩, fun q4 => ?_⟩, fun q3 => ?_⟩, fun q2 => ?_⟩, fun q => ?_⟩
  · rw [if_neg q, if_neg q2, if_neg q3, if_neg q4, if_neg q5] at h
    exact h
  · rw [if_neg q, if_neg q2, if_neg q3, if_neg q4, if_pos q5] at h
    exact h
  · rw [if_neg q, if_neg q2, if_neg q3, if_pos q4] at h
    exact h
  · rw [if_neg q, if_neg q2, if_pos q3] at h
    exact h
  · rw [if_neg q, if_pos q2] at h
    exact h
  · rw [if_pos q] at h
    exact h
theorem zte_r (b : Int) : zte b = -1 ∨ (5 ≤ zte b ∧ zte b ≤ 8 ∧ zki b = zte b ∧ ¬ b = 94) ∨ (zte b = 10 ∧ b = 94) := by
  unfold zte zki
  repeat' split
  all_goals omega
theorem zte_n {b : Int} (h : zte b = -1) : zlv b < 5 := by
  unfold zte at h
  unfold zlv zki
  repeat' split
  all_goals (repeat' split at h)
  all_goals omega
-- behind a fault
theorem s_216f {xs : Nat → Int32} {L d : Nat} {J K : jZ} {P : Int → jZ → jZ → Prop} {f : Int} (hf : 0 ≤ f ∧ f ≤ 300) (hE : mE A J0 J f) (h : P 0 J K) : q_216 xs L (d + 2) J K P := by
  have e9 := hE.2
  exact e_216 ⟨by omega, fun c => by omega, fun _ => h⟩
theorem s_215f {xs : Nat → Int32} {L d : Nat} {J K : jZ} {P : Int → jZ → jZ → Prop} {f : Int} (hf : 0 ≤ f ∧ f ≤ 300) (hE : mE A J0 J f) (h : ∀ r J', mE A J0 J' f → P r J' K) : q_215 xs L (d + 3) J K P := by
  have e9 := hE.2
  exact e_215 (s_216f hf hE ⟨by omega, fun _ => e_215_25 ⟨by omega, fun _ => h _ J hE, fun c => absurd rfl c⟩, fun c => by omega⟩)
theorem s_214_5f {xs : Nat → Int32} {L d : Nat} {J K : jZ} {P : Int → jZ → jZ → Prop} {f v : Int} (hf : 0 ≤ f ∧ f ≤ 300) (hE : mE A J0 J f) (h : ∀ r J', mE A J0 J' f → P r J' K) : l_214_5 xs L (d + 2) v J K P :=
  e_214_5 (s_222f hf hE (fun J1 E1 => ⟨by omega, fun _ => h _ J1 E1, fun c => absurd rfl c⟩))
theorem s_214f {xs : Nat → Int32} {L d : Nat} {J K : jZ} {P : Int → jZ → jZ → Prop} {f : Int} (hf : 0 ≤ f ∧ f ≤ 300) (hE : mE A J0 J f) (h : ∀ r J', mE A J0 J' f → P r J' K) : q_214 xs L (d + 4) J K P :=
  e_214 (s_215f hf hE (fun r J1 E1 => s_214_5f hf E1 h))
theorem s_213_5f {xs : Nat → Int32} {L d : Nat} {J K : jZ} {P : Int → jZ → jZ → Prop} {f v : Int} (hf : 0 ≤ f ∧ f ≤ 300) (hE : mE A J0 J f) (h : ∀ r J', mE A J0 J' f → P r J' K) : l_213_5 xs L (d + 2) v J K P :=
  e_213_5 (s_222f hf hE (fun J1 E1 => ⟨by omega, fun _ => h _ J1 E1, fun c => absurd rfl c⟩))
theorem s_213f {xs : Nat → Int32} {L d : Nat} {J K : jZ} {P : Int → jZ → jZ → Prop} {f : Int} (hf : 0 ≤ f ∧ f ≤ 300) (hE : mE A J0 J f) (h : ∀ r J', mE A J0 J' f → P r J' K) : q_213 xs L (d + 5) J K P :=
  e_213 (s_214f hf hE (fun r J1 E1 => s_213_5f hf E1 h))
theorem s_212_5f {xs : Nat → Int32} {L d : Nat} {J K : jZ} {P : Int → jZ → jZ → Prop} {f v : Int} (hf : 0 ≤ f ∧ f ≤ 300) (hE : mE A J0 J f) (h : ∀ r J', mE A J0 J' f → P r J' K) : l_212_5 xs L (d + 2) v J K P :=
  e_212_5 (s_222f hf hE (fun J1 E1 => ⟨by omega, fun _ => h _ J1 E1, fun c => absurd rfl c⟩))
theorem s_212f {xs : Nat → Int32} {L d : Nat} {J K : jZ} {P : Int → jZ → jZ → Prop} {f : Int} (hf : 0 ≤ f ∧ f ≤ 300) (hE : mE A J0 J f) (h : ∀ r J', mE A J0 J' f → P r J' K) : q_212 xs L (d + 6) J K P :=
  e_212 (s_213f hf hE (fun r J1 E1 => s_212_5f hf E1 h))
end RM
