/-! Asks read from the tape, by one stack: what both programs do. -/
def zwk (c : Nat → Bool) : Nat → Nat → Nat
  | 0, p => p
  | n + 1, p => if c p = true then zwk c n (p + 1) else p
def zwl (N : Nat) (c : Nat → Bool) (p : Nat) : Nat := zwk c (N - p) p
theorem zwl_t {N p : Nat} {c : Nat → Bool} (h : p < N) (hc : c p = true) : zwl N c p = zwl N c (p + 1) := by
  unfold zwl
  rw [show N - p = (N - (p + 1)) + 1 by omega, zwk, if_pos hc]
theorem zwl_f {N p : Nat} {c : Nat → Bool} (hc : c p = false) : zwl N c p = p := by
  unfold zwl
  cases N - p with
  | zero => rfl
  | succ n =>
    rw [zwk, if_neg (by rw [hc]; decide)]
theorem zwl_n {N p : Nat} {c : Nat → Bool} (h : N ≤ p) : zwl N c p = p := by
  unfold zwl
  rw [show N - p = 0 by omega]
  rfl
theorem zwl_r {N : Nat} {c : Nat → Bool} : ∀ (n p : Nat), p + n = N → p ≤ zwl N c p ∧ zwl N c p ≤ N ∧ (zwl N c p < N → c (zwl N c p) = false)
  | 0, p, h => by
    rw [zwl_n (by omega)]
    exact ⟨by omega, by omega, fun q => by omega⟩
  | n + 1, p, h => by
    cases hc : c p with
    | true =>
      rw [zwl_t (by omega) hc]
      have := zwl_r (N := N) (c := c) n (p + 1) (by omega)
      exact ⟨by omega, this.2.1, this.2.2⟩
    | false =>
      rw [zwl_f hc]
      exact ⟨by omega, by omega, fun _ => hc⟩
/-- behind the blanks -/
def zsk (B : zB) (p : Nat) : Nat := zwl B.1 (fun i => decide (B.2 i = 32)) p
theorem zsk_t {B : zB} {p : Nat} (h : p < B.1) (hc : B.2 p = 32) : zsk B p = zsk B (p + 1) := zwl_t h (by simp [hc])
theorem zsk_f {B : zB} {p : Nat} (hc : ¬ B.2 p = 32) : zsk B p = p := zwl_f (by simp [hc])
theorem zsk_n {B : zB} {p : Nat} (h : B.1 ≤ p) : zsk B p = p := zwl_n h
theorem zsk_r {B : zB} {p : Nat} (h : p ≤ B.1) : p ≤ zsk B p ∧ zsk B p ≤ B.1 ∧ (zsk B p < B.1 → ¬ B.2 (zsk B p) = 32) := by
  have := zwl_r (N := B.1) (c := fun i => decide (B.2 i = 32)) (B.1 - p) p (by omega)
  refine ⟨this.1, this.2.1, fun q => ?_⟩
  have := this.2.2 q
  show ¬ B.2 (zwl B.1 (fun i => decide (B.2 i = 32)) p) = 32
  simpa using this
/-- behind the digits -/
def zde (B : zB) (p : Nat) : Nat := zwl B.1 (fun i => decide (48 ≤ B.2 i ∧ B.2 i ≤ 57)) p
theorem zde_t {B : zB} {p : Nat} (h : p < B.1) (hc : 48 ≤ B.2 p ∧ B.2 p ≤ 57) : zde B p = zde B (p + 1) := zwl_t h (by simp [hc])
theorem zde_f {B : zB} {p : Nat} (hc : ¬ (48 ≤ B.2 p ∧ B.2 p ≤ 57)) : zde B p = p := zwl_f (by simpa using hc)
theorem zde_n {B : zB} {p : Nat} (h : B.1 ≤ p) : zde B p = p := zwl_n h
theorem zde_r {B : zB} {p : Nat} (h : p ≤ B.1) : p ≤ zde B p ∧ zde B p ≤ B.1 := by
  have := zwl_r (N := B.1) (c := fun i => decide (48 ≤ B.2 i ∧ B.2 i ≤ 57)) (B.1 - p) p (by omega)
  exact ⟨this.1, this.2.1⟩
def zdv (B : zB) (a p : Nat) : Int := if p = a then 0 else if p = a + 1 then B.2 a - 48 else 10 * (B.2 a - 48) + B.2 (a + 1) - 48
def zNa (B : zB) (p : Nat) : Nat := zsk B p
def zNe (B : zB) (p : Nat) : Nat := zde B (zsk B p)
def zNv (B : zB) (p : Nat) : Int := zdv B (zNa B p) (zNe B p)
abbrev zNo (B : zB) (m : Int) (p : Nat) : Prop := zNe B p ≤ zNa B p + 2 ∧ 1 ≤ zNv B p ∧ zNv B p ≤ m
theorem zN_r {B : zB} {p : Nat} (h : p ≤ B.1) : p ≤ zNa B p ∧ zNa B p ≤ zNe B p ∧ zNe B p ≤ B.1 := by
  have a := zsk_r h
  have b := zde_r a.2.1
  exact ⟨a.1, b.1, b.2⟩
/-- a phrase: its fault, how many letters, which, and where it ends -/
def zPk (B : zB) : Nat → Nat → Nat → (Nat → Int) → Int × Nat × (Nat → Int) × Nat
  | 0, p, N, v => ((B.1 : Int), N, v, p)
  | n + 1, p, N, v => if (97 ≤ B.2 p ∧ B.2 p < 113) ∧ N < 4 then zPk B n (p + 1) (N + 1) (fun i => if i = N then B.2 p - 97 else v i) else if B.2 p = 39 ∧ 2 ≤ N then (-1, N, v, p + 1) else if B.2 p = 32 then zPk B n (p + 1) N v else ((p : Int), N, v, p)
def zP (B : zB) (p : Nat) : Int × Nat × (Nat → Int) × Nat := zPk B (B.1 - p) p 0 (fun _ => 0)
theorem zPk_r {B : zB} : ∀ (n p N : Nat) (v : Nat → Int), p + n = B.1 → N ≤ 4 → zq_w4 v N → (((zPk B n p N v).1 = -1 ∧ p < (zPk B n p N v).2.2.2 ∧ (zPk B n p N v).2.2.2 ≤ B.1 ∧ 2 ≤ (zPk B n p N v).2.1 ∧ (zPk B n p N v).2.1 ≤ 4 ∧ zq_w4 (zPk B n p N v).2.2.1 (zPk B n p N v).2.1) ∨ (0 ≤ (zPk B n p N v).1 ∧ (zPk B n p N v).1 ≤ (B.1 : Int)))
  | 0, p, N, v, h, hN, hv => by
    rw [zPk]
    right
    dsimp only
    omega
  | n + 1, p, N, v, h, hN, hv => by
    rw [zPk]
    split
    · rename_i c
      have := zPk_r (B := B) n (p + 1) (N + 1) (fun i => if i = N then B.2 p - 97 else v i) (by omega) (by omega) (fun k hk => by
        dsimp only
        split
        · omega
        · exact hv k (by omega))
      rcases this with q | q
      · exact .inl ⟨q.1, by omega, q.2.2⟩
      · exact .inr q
    · split
      · rename_i c
        left
        dsimp only
        exact ⟨rfl, by omega, by omega, c.2, hN, hv⟩
      · split
        · have := zPk_r (B := B) n (p + 1) N v (by omega) hN hv
          rcases this with q | q
          · exact .inl ⟨q.1, by omega, q.2.2⟩
          · exact .inr q
        · right
          dsimp only
          omega
theorem zP_r {B : zB} {p : Nat} (h : p ≤ B.1) : ((zP B p).1 = -1 ∧ p < (zP B p).2.2.2 ∧ (zP B p).2.2.2 ≤ B.1 ∧ 2 ≤ (zP B p).2.1 ∧ (zP B p).2.1 ≤ 4 ∧ zq_w4 (zP B p).2.2.1 (zP B p).2.1) ∨ (0 ≤ (zP B p).1 ∧ (zP B p).1 ≤ (B.1 : Int)) := zPk_r (B.1 - p) p 0 _ (by omega) (by omega) (fun k hk => by omega)
/-- the kind that a sign is -/
def zki (b : Int) : Int := if b = 33 then 6 else if b = 35 then 7 else if b = 38 then 3 else if b = 45 then 8 else if b = 60 then 4 else if b = 64 then 5 else if b = 124 then 2 else -1
theorem zki_r (b : Int) : zki b = -1 ∨ (2 ≤ zki b ∧ zki b ≤ 8) := by
  unfold zki
  repeat' split
  all_goals omega
/-- what waits: a sign, and the asks under it -/
abbrev zK : Type := List (Int × List Int)
def zJ (b : Int) : Int → zK → zA → Int × zK × zA
  | t, [], M => (t, [], M)
  | t, e :: st, M => if (2 ≤ e.1 ∧ e.1 ≤ 8) ∧ min b 5 ≤ min e.1 5 then zJ b (M.1 : Int) st (zA_a M (zr_5 e.1 (e.2.headD 0) t (-1) (-1))) else (t, e :: st, M)
theorem zJ_n {b t : Int} {M : zA} : zJ b t [] M = (t, [], M) := rfl
theorem zJ_t {b t : Int} {e : Int × List Int} {st : zK} {M : zA} (h : (2 ≤ e.1 ∧ e.1 ≤ 8) ∧ min b 5 ≤ min e.1 5) : zJ b t (e :: st) M = zJ b (M.1 : Int) st (zA_a M (zr_5 e.1 (e.2.headD 0) t (-1) (-1))) := by
  rw [zJ, if_pos h]
theorem zJ_f {b t : Int} {e : Int × List Int} {st : zK} {M : zA} (h : ¬ ((2 ≤ e.1 ∧ e.1 ≤ 8) ∧ min b 5 ≤ min e.1 5)) : zJ b t (e :: st) M = (t, e :: st, M) := by
  rw [zJ, if_neg h]
/-- where the tape ends -/
def zFi (B : zB) (q : Int × zK × zA) : Int × zA := match q.2.1 with
  | [] => (-1, q.2.2)
  | _ :: _ => ((B.1 : Int), q.2.2)
def zEn (B : zB) (t : Int) (st : zK) (M : zA) : Int × zA := if t = -1 then ((B.1 : Int), M) else zFi B (zJ 2 t st M)
/-- the fault, and the asks that are made: n bounds the steps, p is the place, t the ask that is whole (-1: none) -/
def zG (B : zB) : Nat → Nat → Int → zK → zA → Int × zA
  | 0, _, _, _, M => (0, M)
  | n + 1, p, t, st, M =>
    if p < B.1 then
      (if B.2 p = 32 then zG B n (p + 1) t st M
      else if t = -1 then
        (if 97 ≤ B.2 p ∧ B.2 p < 113 then zG B n (p + 1) (M.1 : Int) st (zA_a M (zr_5 0 (B.2 p - 97) (-1) (-1) (-1)))
        else if B.2 p = 83 then zG B n (p + 1) (M.1 : Int) st (zA_a M (zr_5 9 0 (-1) (-1) (-1)))
        else if B.2 p = 80 then zG B n (p + 1) (M.1 : Int) st (zA_a M (zr_5 9 1 (-1) (-1) (-1)))
        else if B.2 p = 84 then zG B n (p + 1) (M.1 : Int) st (zA_a M (zr_5 9 2 (-1) (-1) (-1)))
        else if B.2 p = 39 then (if (zP B (p + 1)).1 = -1 then zG B n (zP B (p + 1)).2.2.2 (M.1 : Int) st (zA_a M (zr_ph (zP B (p + 1)).2.2.1 (zP B (p + 1)).2.1)) else ((zP B (p + 1)).1, M))
        else if B.2 p = 40 then zG B n (p + 1) (-1) ((20, []) :: st) M
        else if B.2 p = 123 then (if zNo B 3 (p + 1) then zG B n (zNe B (p + 1)) (-1) ((100 + 10 * zNv B (p + 1), []) :: st) M else ((zNa B (p + 1) : Int), M))
        else ((p : Int), M))
      else if ¬ zki (B.2 p) = -1 then zG B n (p + 1) (-1) ((zki (B.2 p), [(zJ (zki (B.2 p)) t st M).1]) :: (zJ (zki (B.2 p)) t st M).2.1) (zJ (zki (B.2 p)) t st M).2.2
      else if B.2 p = 94 then (if zNo B 60 (p + 1) then zG B n (zNe B (p + 1)) ((zJ 5 t st M).2.2.1 : Int) (zJ 5 t st M).2.1 (zA_a (zJ 5 t st M).2.2 (zr_5 10 (zJ 5 t st M).1 (zNv B (p + 1)) (-1) (-1))) else ((zNa B (p + 1) : Int), (zJ 5 t st M).2.2))
      else (match (zJ 2 t st M).2.1 with
        | [] => ((p : Int), (zJ 2 t st M).2.2)
        | e :: st' =>
          if B.2 p = 41 ∧ e.1 = 20 then zG B n (p + 1) (zJ 2 t st M).1 st' (zJ 2 t st M).2.2
          else if B.2 p = 44 ∧ 100 ≤ e.1 ∧ e.1 % 10 < 2 then zG B n (p + 1) (-1) ((e.1 + 1, (zJ 2 t st M).1 :: e.2) :: st') (zJ 2 t st M).2.2
          else if B.2 p = 125 ∧ 100 ≤ e.1 ∧ e.1 % 10 = 2 then zG B n (p + 1) ((zJ 2 t st M).2.2.1 : Int) st' (zA_a (zJ 2 t st M).2.2 (zr_5 11 (e.2.tail.headD 0) (e.2.headD 0) (zJ 2 t st M).1 ((e.1 - 100) / 10)))
          else ((p : Int), (zJ 2 t st M).2.2)))
    else zEn B t st M
theorem zG_e {B : zB} {n p : Nat} {t : Int} {st : zK} {M : zA} (h : B.1 ≤ p) : zG B (n + 1) p t st M = zEn B t st M := by
  rw [zG, if_neg (by omega)]
theorem zG_b {B : zB} {n p : Nat} {t : Int} {st : zK} {M : zA} (h : p < B.1) (h32 : B.2 p = 32) : zG B (n + 1) p t st M = zG B n (p + 1) t st M := by
  rw [zG, if_pos h, if_pos h32]
/-- from one place on: the plain -/
theorem zG_p {B : zB} {n p : Nat} {st : zK} {M : zA} (h : p < B.1) (h32 : ¬ B.2 p = 32) : zG B (n + 1) p (-1) st M =
        (if 97 ≤ B.2 p ∧ B.2 p < 113 then zG B n (p + 1) (M.1 : Int) st (zA_a M (zr_5 0 (B.2 p - 97) (-1) (-1) (-1)))
        else if B.2 p = 83 then zG B n (p + 1) (M.1 : Int) st (zA_a M (zr_5 9 0 (-1) (-1) (-1)))
        else if B.2 p = 80 then zG B n (p + 1) (M.1 : Int) st (zA_a M (zr_5 9 1 (-1) (-1) (-1)))
        else if B.2 p = 84 then zG B n (p + 1) (M.1 : Int) st (zA_a M (zr_5 9 2 (-1) (-1) (-1)))
        else if B.2 p = 39 then (if (zP B (p + 1)).1 = -1 then zG B n (zP B (p + 1)).2.2.2 (M.1 : Int) st (zA_a M (zr_ph (zP B (p + 1)).2.2.1 (zP B (p + 1)).2.1)) else ((zP B (p + 1)).1, M))
        else if B.2 p = 40 then zG B n (p + 1) (-1) ((20, []) :: st) M
        else if B.2 p = 123 then (if zNo B 3 (p + 1) then zG B n (zNe B (p + 1)) (-1) ((100 + 10 * zNv B (p + 1), []) :: st) M else ((zNa B (p + 1) : Int), M))
        else ((p : Int), M)) := by
  rw [zG, if_pos h, if_neg h32, if_pos rfl]
theorem zG_k {B : zB} {n p : Nat} {t : Int} {st : zK} {M : zA} (h : p < B.1) (h32 : ¬ B.2 p = 32) (ht : ¬ t = -1) (hk : ¬ zki (B.2 p) = -1) : zG B (n + 1) p t st M = zG B n (p + 1) (-1) ((zki (B.2 p), [(zJ (zki (B.2 p)) t st M).1]) :: (zJ (zki (B.2 p)) t st M).2.1) (zJ (zki (B.2 p)) t st M).2.2 := by
  rw [zG, if_pos h, if_neg h32, if_neg ht, if_pos hk]
theorem zG_s {B : zB} {n p : Nat} {t : Int} {st : zK} {M : zA} (h : p < B.1) (h94 : B.2 p = 94) (ht : ¬ t = -1) : zG B (n + 1) p t st M = (if zNo B 60 (p + 1) then zG B n (zNe B (p + 1)) ((zJ 5 t st M).2.2.1 : Int) (zJ 5 t st M).2.1 (zA_a (zJ 5 t st M).2.2 (zr_5 10 (zJ 5 t st M).1 (zNv B (p + 1)) (-1) (-1))) else ((zNa B (p + 1) : Int), (zJ 5 t st M).2.2)) := by
  have hk : ¬ ¬ zki (B.2 p) = -1 := by
    rw [h94]
    decide
  rw [zG, if_pos h, if_neg (by omega), if_neg ht, if_neg hk, if_pos h94]
/-- of what else stands behind an ask -/
def zCl (B : zB) (n p : Nat) (q : Int × zK × zA) : Int × zA := match q.2.1 with
  | [] => ((p : Int), q.2.2)
  | e :: st' =>
    if B.2 p = 41 ∧ e.1 = 20 then zG B n (p + 1) q.1 st' q.2.2
    else if B.2 p = 44 ∧ 100 ≤ e.1 ∧ e.1 % 10 < 2 then zG B n (p + 1) (-1) ((e.1 + 1, q.1 :: e.2) :: st') q.2.2
    else if B.2 p = 125 ∧ 100 ≤ e.1 ∧ e.1 % 10 = 2 then zG B n (p + 1) (q.2.2.1 : Int) st' (zA_a q.2.2 (zr_5 11 (e.2.tail.headD 0) (e.2.headD 0) q.1 ((e.1 - 100) / 10)))
    else ((p : Int), q.2.2)
theorem zG_c {B : zB} {n p : Nat} {t : Int} {st : zK} {M : zA} (h : p < B.1) (h32 : ¬ B.2 p = 32) (ht : ¬ t = -1) (hk : zki (B.2 p) = -1) (h94 : ¬ B.2 p = 94) : zG B (n + 1) p t st M = zCl B n p (zJ 2 t st M) := by
  rw [zG, if_pos h, if_neg h32, if_neg ht, if_neg (fun c => c hk), if_neg h94]
  rfl
/-- over blanks -/
theorem zG_z {B : zB} {t : Int} {st : zK} {M : zA} : ∀ (m n p : Nat), p + m = B.1 → B.1 < n + p → ∃ n', B.1 < n' + zsk B p ∧ zG B n p t st M = zG B n' (zsk B p) t st M
  | 0, n, p, h, hn => ⟨n, by rw [zsk_n (by omega)]; omega, by rw [zsk_n (by omega)]⟩
  | m + 1, n, p, h, hn => by
    by_cases c : B.2 p = 32
    · obtain ⟨k, rfl⟩ : ∃ k, n = k + 1 := ⟨n - 1, by omega⟩
      obtain ⟨n', h1, h2⟩ := zG_z (B := B) (t := t) (st := st) (M := M) m k (p + 1) (by omega) (by omega)
      rw [zsk_t (by omega) c]
      exact ⟨n', h1, by rw [zG_b (by omega) c]; exact h2⟩
    · exact ⟨n, by rw [zsk_f c]; omega, by rw [zsk_f c]⟩
/-- the letter that comes next binds less -/
def zlv (b : Int) : Int := if b = 94 then 5 else min (zki b) 5
def zAf (B : zB) (l : Int) (p : Nat) : Prop := p < B.1 → ¬ B.2 p = 32 ∧ zlv (B.2 p) < l
/-- what waits on top binds less -/
def zTp (l : Int) (st : zK) : Prop := ∀ e st', st = e :: st' → ¬ ((2 ≤ e.1 ∧ e.1 ≤ 8) ∧ l ≤ min e.1 5)
theorem zJ_tp {b l t : Int} {st : zK} {M : zA} (h : zTp l st) (hb : l ≤ min b 5) : zJ b t st M = (t, st, M) := by
  cases st with
  | nil => rfl
  | cons e st => exact zJ_f (fun c => h e st rfl ⟨c.1, by omega⟩)
theorem zTp_m {l l' : Int} {st : zK} (h : zTp l st) (hl : l ≤ l') : zTp l' st := fun e st' q c => h e st' q ⟨c.1, by omega⟩
theorem zTp_n {l : Int} : zTp l [] := fun e st' q => by cases q
theorem zTp_c {l s : Int} {w : List Int} {st : zK} (h : ¬ ((2 ≤ s ∧ s ≤ 8) ∧ l ≤ min s 5)) : zTp l ((s, w) :: st) := fun e st' q => by
  cases q
  exact h
/-- a pair whose sign binds no less than what comes next is made at once -/
theorem zG_j {B : zB} {k t x : Int} {st : zK} {M : zA} {n p : Nat} (hk : 2 ≤ k ∧ k ≤ 8) (ht : 0 ≤ t) (hn : 0 < n) (hp : p < B.1 → ¬ B.2 p = 32 ∧ zlv (B.2 p) ≤ min k 5) : zG B n p t ((k, [x]) :: st) M = zG B n p (M.1 : Int) st (zA_a M (zr_5 k x t (-1) (-1))) := by
  obtain ⟨n, rfl⟩ : ∃ j, n = j + 1 := ⟨n - 1, by omega⟩
  have j : ∀ b, min b 5 ≤ min k 5 → zJ b t ((k, [x]) :: st) M = zJ b (M.1 : Int) st (zA_a M (zr_5 k x t (-1) (-1))) := fun b hb => zJ_t (e := (k, [x])) ⟨hk, hb⟩
  have nt : ¬ t = -1 := by omega
  have nm : ¬ (M.1 : Int) = -1 := by omega
  by_cases c : p < B.1
  · obtain ⟨h32, hl⟩ := hp c
    by_cases h94 : B.2 p = 94
    · have e : zlv (B.2 p) = 5 := by
        unfold zlv
        rw [if_pos h94]
      rw [zG_s c h94 nt, zG_s c h94 nm, j 5 (by omega)]
    · by_cases hz : zki (B.2 p) = -1
      · rw [zG_c c h32 nt hz h94, zG_c c h32 nm hz h94, j 2 (by omega)]
      · have e : zlv (B.2 p) = min (zki (B.2 p)) 5 := by
          unfold zlv
          rw [if_neg h94]
        rw [zG_k c h32 nt hz, zG_k c h32 nm hz, j _ (by omega)]
  · rw [zG_e (by omega), zG_e (by omega)]
    unfold zEn
    rw [if_neg nt, if_neg nm, j 2 (by omega)]
