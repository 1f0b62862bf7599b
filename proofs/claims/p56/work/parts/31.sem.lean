/-! What the lists of asks are, of a text and the asks. -/
/-- a text: how many places; words, marks, for each word those for which it stands -/
abbrev zT : Type := Nat × (Nat → Int) × (Nat → Int) × (Nat → Int)
def zt_ok (T : zT) : Prop := T.1 ≤ 60 ∧ (∀ k, k < T.1 → 0 ≤ T.2.1 k ∧ T.2.1 k < 16) ∧ (∀ k, k < T.1 → 0 ≤ T.2.2.1 k ∧ T.2.2.1 k ≤ 2) ∧ (∀ w, w < 16 → -2147483648 ≤ T.2.2.2 w ∧ T.2.2.2 w < 2147483648)
/-- the words that a place has, as bits -/
def zt_set (T : zT) (p : Nat) : Int := jz_or (jz_shl 1 (T.2.1 p)) (T.2.2.2 (T.2.1 p).toNat)
/-- a place has a word, without the word wo -/
def zt_has (wo : Int) (T : zT) (p : Nat) (x : Int) : Prop := ¬ T.2.1 p = wo ∧ zb (zt_set T p) x.toNat
/-- asks: how many; for each its kind and four numbers -/
abbrev zA : Type := Nat × (Nat → Nat → Int)
def zk_sz (r : Nat → Int) : Nat := if r 0 = 0 then 1 else if r 4 = -1 then (if r 3 = -1 then 2 else 3) else 4
def zk_ok (i : Nat) (r : Nat → Int) : Prop :=
  (r 0 = 0 ∧ 0 ≤ r 1 ∧ r 1 < 16 ∧ r 2 = -1 ∧ r 3 = -1 ∧ r 4 = -1) ∨
  (r 0 = 1 ∧ (∀ k, k < zk_sz r → 0 ≤ r (k + 1) ∧ r (k + 1) < 16) ∧ -1 ≤ r 3 ∧ r 3 < 16 ∧ -1 ≤ r 4 ∧ r 4 < 16 ∧ (r 3 = -1 → r 4 = -1)) ∨
  (2 ≤ r 0 ∧ r 0 ≤ 8 ∧ 0 ≤ r 1 ∧ r 1 < i ∧ 0 ≤ r 2 ∧ r 2 < i ∧ r 3 = -1 ∧ r 4 = -1) ∨
  (r 0 = 9 ∧ 0 ≤ r 1 ∧ r 1 ≤ 2 ∧ r 2 = -1 ∧ r 3 = -1 ∧ r 4 = -1) ∨
  (r 0 = 10 ∧ 0 ≤ r 1 ∧ r 1 < i ∧ 1 ≤ r 2 ∧ r 2 ≤ 60 ∧ r 3 = -1 ∧ r 4 = -1) ∨
  (r 0 = 11 ∧ 0 ≤ r 1 ∧ r 1 < i ∧ 0 ≤ r 2 ∧ r 2 < i ∧ 0 ≤ r 3 ∧ r 3 < i ∧ 1 ≤ r 4 ∧ r 4 ≤ 3)
def zA_ok (A : zA) : Prop := A.1 ≤ 24 ∧ ∀ i, i < A.1 → zk_ok i (A.2 i)
def zk_leaf (wo : Int) (T : zT) (r : Nat → Int) (x y : Int) : Prop := 0 ≤ x ∧ y = x + zk_sz r - 1 ∧ x + zk_sz r ≤ T.1 ∧ ∀ k, k < zk_sz r → zt_has wo T (x + k).toNat (r (k + 1))
/-- a region ends at a place -/
def zk_end (T : zT) (g : Int) (p : Nat) : Prop := p + 1 = T.1 ∨ (¬ g = 2 ∧ g + 1 ≤ T.2.2.1 p)
def zk_reg (T : zT) (g : Int) (x y : Int) : Prop := ∃ a b : Nat, x = a ∧ y = b ∧ a ≤ b ∧ b < T.1 ∧ zk_end T g b ∧ (a = 0 ∨ zk_end T g (a - 1)) ∧ ∀ p, a ≤ p → p < b → ¬ zk_end T g p
def zk_sh (l : zL) (n x y : Int) : Prop := ∃ p, p < l.length ∧ zs_l l p - zs_f l p < n ∧ x = zs_f l p ∧ y = zs_l l p
noncomputable def zk_som (k : Int) (l m o : zL) (x y : Int) : Prop :=
  (k = 3 ∧ zp_off 3 (zl_of (zp_off 3 l m)) o x y) ∨ (k = 1 ∧ (zs_in l x y ∨ zs_in m x y ∨ zs_in o x y)) ∨ (k = 2 ∧ (zo_bth l m x y ∨ zo_bth l o x y ∨ zo_bth m o x y))
/-- what is offered for an ask, over the lists G -/
noncomputable def zk_off (wo : Int) (T : zT) (r : Nat → Int) (G : Nat → zL) (x y : Int) : Prop :=
  ((r 0 = 0 ∨ r 0 = 1) ∧ zk_leaf wo T r x y) ∨ (r 0 = 9 ∧ zk_reg T (r 1) x y) ∨ (r 0 = 10 ∧ zk_sh (G (r 1).toNat) (r 2) x y) ∨ (r 0 = 11 ∧ zk_som (r 4) (G (r 1).toNat) (G (r 2).toNat) (G (r 3).toNat) x y) ∨ (2 ≤ r 0 ∧ r 0 ≤ 8 ∧ zp_off (r 0) (G (r 1).toNat) (G (r 2).toNat) x y)
/-- the lists of the first asks -/
noncomputable def zk_ls (wo : Int) (T : zT) (A : zA) : Nat → Nat → zL
  | 0 => fun _ => []
  | i + 1 => fun j => if j = i then zl_of (zk_off wo T (A.2 i) (zk_ls wo T A i)) else zk_ls wo T A i j
/-- the list of an ask -/
noncomputable def zk_sem (wo : Int) (T : zT) (A : zA) (i : Nat) : zL := zk_ls wo T A (i + 1) i
theorem zk_ls_s {wo : Int} {T : zT} {A : zA} {i j : Nat} : zk_ls wo T A (i + 1) j = if j = i then zl_of (zk_off wo T (A.2 i) (zk_ls wo T A i)) else zk_ls wo T A i j := rfl
theorem zk_ls_lt {wo : Int} {T : zT} {A : zA} : ∀ (n i : Nat), i < n → zk_ls wo T A n i = zk_sem wo T A i
  | 0, i, h => by omega
  | n + 1, i, h => by
    by_cases q : i = n
    · subst q
      rfl
    · rw [zk_ls_s, if_neg q]
      exact zk_ls_lt n i (by omega)
theorem zk_off_congr {wo : Int} {T : zT} {i : Nat} {r : Nat → Int} {G G' : Nat → zL} (hr : zk_ok i r) (h : ∀ j, j < i → G j = G' j) : zk_off wo T r G = zk_off wo T r G' := by
  funext x y
  unfold zk_off
  rcases hr with q | q | q | q | q | q
  · simp [q.1]
  · simp [q.1]
  · rw [h (r 1).toNat (by omega), h (r 2).toNat (by omega)]
    have h1 : ¬ r 0 = 10 := by omega
    have h2 : ¬ r 0 = 11 := by omega
    simp [h1, h2]
  · simp [q.1]
  · rw [h (r 1).toNat (by omega)]
    simp [q.1]
  · rw [h (r 1).toNat (by omega), h (r 2).toNat (by omega), h (r 3).toNat (by omega)]
theorem zk_sem_eq {wo : Int} {T : zT} {A : zA} {i : Nat} (hr : zk_ok i (A.2 i)) : zk_sem wo T A i = zl_of (zk_off wo T (A.2 i) (zk_sem wo T A)) := by
  have h : zk_sem wo T A i = zl_of (zk_off wo T (A.2 i) (zk_ls wo T A i)) := by
    unfold zk_sem
    rw [zk_ls_s, if_pos rfl]
  rw [h]
  congr 1
  exact zk_off_congr hr (fun j hj => zk_ls_lt i j hj)
theorem zl_ex {S : Int → Int → Prop} (hod : zl_od S) (hb : ∀ f e, S f e → e < 60) : ∃ l, zl_isl S l := by
  have key : ∀ k : Nat, k ≤ 60 → ∃ l, zl_pre S k l := by
    intro k
    induction k with
    | zero => exact fun _ => ⟨[], zl_pre_0⟩
    | succ k ih =>
      intro hk
      obtain ⟨l, hl⟩ := ih (by omega)
      by_cases q : ∃ e, zl_mn S k e
      · obtain ⟨e, he⟩ := q
        have h1 := hod _ _ he.1
        have h2 := hb _ _ he.1
        exact ⟨_, zl_pre_some (by omega) hl (by omega) h1 he⟩
      · exact ⟨l, zl_pre_none hl (fun e he => q ⟨e, he⟩)⟩
  obtain ⟨l, hl⟩ := key 60 (Nat.le_refl _)
  exact ⟨l, zl_pre_end hl⟩
theorem zl_of_isl {S : Int → Int → Prop} (hod : zl_od S) (hb : ∀ f e, S f e → e < 60) : zl_isl S (zl_of S) := by
  obtain ⟨l, hl⟩ := zl_ex hod hb
  rw [zl_of_eq hl]
  exact hl
theorem zl_isl_bn {S : Int → Int → Prop} {l : zL} {N : Nat} (h : zl_isl S l) (hb : ∀ f e, S f e → e < N) : zs_bn N l := fun k hk => hb _ _ ((h.2 _ _).mp ⟨k, hk, rfl, rfl⟩).2.2.1
/-- a good list in N places -/
def zs_gd (N : Nat) (l : zL) : Prop := zs_ok l ∧ zs_bn N l
theorem zs_gd_in {N : Nat} {l : zL} (h : zs_gd N l) {x y : Int} (q : zs_in l x y) : 0 ≤ x ∧ x ≤ y ∧ y < N := by
  obtain ⟨k, hk, rfl, rfl⟩ := q
  have := h.1.2.1 k hk
  have := h.2 k hk
  omega
theorem zo_bth_b {N : Nat} {l m : zL} (h : zs_gd N l) (h2 : zs_gd N m) {x y : Int} (q : zo_bth l m x y) : 0 ≤ x ∧ x ≤ y ∧ y < N := by
  obtain ⟨p, q, hp, hq, rfl, rfl⟩ := q
  have := h.1.2.1 p hp
  have := h.2 p hp
  have := h2.1.2.1 q hq
  have := h2.2 q hq
  omega
theorem zp_off_b {N : Nat} {k : Int} {l m : zL} (h : zs_gd N l) (h2 : zs_gd N m) {x y : Int} (q : zp_off k l m x y) : 0 ≤ x ∧ x ≤ y ∧ y < N := by
  unfold zp_off at q
  split at q
  · rcases q with q | q
    · exact zs_gd_in h q
    · exact zs_gd_in h2 q
  · split at q
    · obtain ⟨p, q, hp, hq, r⟩ := q
      have := h.1.2.1 p hp
      have := h.2 p hp
      have := h2.1.2.1 q hq
      have := h2.2 q hq
      unfold zo_two at r
      split at r <;> omega
    · obtain ⟨p, hp, -, rfl, rfl⟩ := q
      have := h.1.2.1 p hp
      have := h.2 p hp
      omega
theorem zl_gd {N : Nat} (hN : N ≤ 60) {S : Int → Int → Prop} (h : ∀ x y, S x y → 0 ≤ x ∧ x ≤ y ∧ y < N) : zl_isl S (zl_of S) ∧ zs_gd N (zl_of S) := by
  have h1 := zl_of_isl (S := S) (fun x y q => (h x y q).2.1) (fun x y q => by have := h x y q; omega)
  exact ⟨h1, h1.1, zl_isl_bn h1 (fun x y q => (h x y q).2.2)⟩
theorem zk_sz_r (r : Nat → Int) : 1 ≤ zk_sz r ∧ zk_sz r ≤ 4 := by
  unfold zk_sz
  repeat' split
  all_goals omega
theorem zk_off_b {wo : Int} {T : zT} {i : Nat} {r : Nat → Int} {G : Nat → zL} (hT : zt_ok T) (hr : zk_ok i r) (h : ∀ j, j < i → zs_gd T.1 (G j)) {x y : Int} (q : zk_off wo T r G x y) : 0 ≤ x ∧ x ≤ y ∧ y < T.1 := by
  have hs := zk_sz_r r
  have ht := hT.1
  unfold zk_off at q
  rcases q with ⟨-, q⟩ | ⟨-, q⟩ | ⟨k1, q⟩ | ⟨k1, q⟩ | ⟨k1, k2, q⟩
  · obtain ⟨a, b, c, -⟩ := q
    omega
  · obtain ⟨a, b, rfl, rfl, h1, h2, -⟩ := q
    omega
  · have hi : 0 ≤ r 1 ∧ r 1 < i := by rcases hr with q | q | q | q | q | q <;> omega
    obtain ⟨p, hp, -, rfl, rfl⟩ := q
    exact zs_gd_in (h (r 1).toNat (by omega)) ⟨p, hp, rfl, rfl⟩
  · have hi : 0 ≤ r 1 ∧ r 1 < i ∧ 0 ≤ r 2 ∧ r 2 < i ∧ 0 ≤ r 3 ∧ r 3 < i := by rcases hr with q | q | q | q | q | q <;> omega
    have g1 := h (r 1).toNat (by omega)
    have g2 := h (r 2).toNat (by omega)
    have g3 := h (r 3).toNat (by omega)
    rcases q with ⟨-, q⟩ | ⟨-, q⟩ | ⟨-, q⟩
    · exact zp_off_b (zl_gd ht (fun x y q => zp_off_b g1 g2 q)).2 g3 q
    · rcases q with q | q | q
      · exact zs_gd_in g1 q
      · exact zs_gd_in g2 q
      · exact zs_gd_in g3 q
    · rcases q with q | q | q
      · exact zo_bth_b g1 g2 q
      · exact zo_bth_b g1 g3 q
      · exact zo_bth_b g2 g3 q
  · have hi : 0 ≤ r 1 ∧ r 1 < i ∧ 0 ≤ r 2 ∧ r 2 < i := by rcases hr with q | q | q | q | q | q <;> omega
    exact zp_off_b (h (r 1).toNat (by omega)) (h (r 2).toNat (by omega)) q
theorem zk_sem_gd {wo : Int} {T : zT} {A : zA} (hT : zt_ok T) (hA : zA_ok A) : ∀ i, i < A.1 → zl_isl (zk_off wo T (A.2 i) (zk_sem wo T A)) (zk_sem wo T A i) ∧ zs_gd T.1 (zk_sem wo T A i) := by
  intro i
  induction i using Nat.strongRecOn with
  | ind i ih =>
    intro hi
    have hr := hA.2 i hi
    have := zl_gd hT.1 (fun x y q => zk_off_b hT hr (fun j hj => (ih j hj (by omega)).2) (wo := wo) (G := zk_sem wo T A) q)
    rw [← zk_sem_eq hr] at this
    exact this
/-- what a program finds for an ask is its list -/
theorem zk_sem_of {wo : Int} {T : zT} {A : zA} {i : Nat} {l : zL} (hr : zk_ok i (A.2 i)) (h : zl_isl (zk_off wo T (A.2 i) (zk_sem wo T A)) l) : l = zk_sem wo T A i := by
  rw [zk_sem_eq hr, zl_of_eq h]
