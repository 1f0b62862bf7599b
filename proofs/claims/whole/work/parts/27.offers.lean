/-! What the reference offers for each kind. -/
theorem zm_idx {i : Nat} {k : Nat} : ((i : Int) * 60 + (k : Int)).toNat = 60 * i + k := by omega
theorem zm_b {J : jZ} {i : Nat} {l : zL} (h : zm_at J i l) (hg : zs_ok l) {k : Nat} (hk : k < l.length) : J 196 (60 * i + k) = zs_f l k ∧ J 197 (60 * i + k) = zs_l l k ∧ 0 ≤ zs_f l k ∧ zs_f l k ≤ zs_l l k ∧ zs_l l k < 60 := ⟨(h.2 k hk).1, (h.2 k hk).2, hg.2.1 k hk⟩
theorem zm_at_98 {J J' : jZ} {i : Nat} {l : zL} (h : zm_at J i l) (hf : ∀ b, b ≠ 198 → J' b = J b) : zm_at J' i l := ⟨by rw [hf 195 (by omega)]; exact h.1, fun k hk => by rw [hf 196 (by omega), hf 197 (by omega)]; exact h.2 k hk⟩
/-- S, and what the first k spans of l offer besides -/
def zo_all (S : Int → Int → Prop) (l : zL) (k : Nat) (f e : Int) : Prop := S f e ∨ ∃ j, j < k ∧ f = zs_f l j ∧ e = zs_l l j
theorem s_195_2 {xs : Nat → Int32} {L d : Nat} {K : jZ} {P : jZ → jZ → Prop} {S : Int → Int → Prop} {i : Nat} {l : zL} (hi : i < 27) (hg : zs_ok l) : ∀ (n k : Nat) (J : jZ), k + n = l.length → zm_at J i l → zl_lo (-1) (zo_all S l k) (J 198) → (∀ J', (∀ b, b ≠ 198 → J' b = J b) → zl_lo (-1) (zo_all S l l.length) (J' 198) → P J' K) → l_195_2 xs L (d + 1) (i : Int) (k : Int) J K P
  | n, k, J, hn, hr, hS, h => by
    have h60 := hg.1
    have hs := hr.1
    refine e_195_2 ⟨by omega, by omega, by simp only [Int.toNat_natCast]; omega, fun hc => ?_, fun hc => ?_⟩
    · simp only [Int.toNat_natCast] at hc
      obtain rfl : k = l.length := by omega
      exact h J (fun _ _ => rfl) hS
    · simp only [Int.toNat_natCast] at hc
      match n, hn with
      | 0, hn => omega
      | n + 1, hn =>
        have hb := zm_b hr hg (show k < l.length by omega)
        rw [zm_idx, hb.1, hb.2.1]
        refine ⟨by omega, s_186 hS (by omega) (by omega) (T := zo_all S l (k + 1)) (fun x y => ?_) (fun J' h1 h2 => ?_)⟩
        · unfold zo_all
          constructor
          · rintro (h | ⟨j, hj, rfl, rfl⟩)
            · exact .inl (.inl h)
            · by_cases q : j = k
              · subst q
                exact .inr ⟨rfl, rfl⟩
              · exact .inl (.inr ⟨j, by omega, rfl, rfl⟩)
          · rintro ((h | ⟨j, hj, rfl, rfl⟩) | ⟨rfl, rfl⟩)
            · exact .inl h
            · exact .inr ⟨j, by omega, rfl, rfl⟩
            · exact .inr ⟨k, by omega, rfl, rfl⟩
        · exact s_195_2 hi hg n (k + 1) J' (by omega) (zm_at_98 hr h1) h2 (fun J'' q1 q2 => h J'' (fun b hb => by rw [q1 b hb, h1 b hb]) q2)
theorem zl_lo_iff {z : Int} {S T : Int → Int → Prop} {r : Nat → Int} (h : ∀ f e, S f e ↔ T f e) (hS : zl_lo z S r) : zl_lo z T r := by
  have : S = T := by
    funext f e
    exact propext (h f e)
  rw [← this]
  exact hS
theorem s_195 {xs : Nat → Int32} {L d : Nat} {J K : jZ} {P : jZ → jZ → Prop} {S T : Int → Int → Prop} {i : Nat} {l : zL} (hi : i < 27) (hg : zs_ok l) (hr : zm_at J i l) (hS : zl_lo (-1) S (J 198)) (hT : ∀ f e, T f e ↔ (S f e ∨ zs_in l f e)) (h : ∀ J', (∀ b, b ≠ 198 → J' b = J b) → zl_lo (-1) T (J' 198) → P J' K) : q_195 xs L (d + 2) (i : Int) J K P := by
  refine e_195 (s_195_2 (S := S) hi hg l.length 0 J (by omega) hr (zl_lo_iff (fun f e => ?_) hS) (fun J' h1 h2 => h J' h1 (zl_lo_iff (fun f e => ?_) h2)))
  · unfold zo_all
    exact ⟨.inl, fun h => h.elim id (fun ⟨j, hj, _⟩ => by omega)⟩
  · rw [hT]
    unfold zo_all zs_in
    exact or_congr Iff.rfl ⟨fun ⟨j, a, b, c⟩ => ⟨j, a, b.symm, c.symm⟩, fun ⟨j, a, b, c⟩ => ⟨j, a, b.symm, c.symm⟩⟩
/-- what two spans offer: both, or one behind the other -/
def zo_two (k : Int) (a b c e : Int) (x y : Int) : Prop := if k = 3 then x = min a c ∧ y = max b e else b < c ∧ x = a ∧ y = e
def zo_mer (S : Int → Int → Prop) (k : Int) (l m : zL) (i j : Nat) (x y : Int) : Prop := S x y ∨ ∃ p q, (p < i ∨ (p = i ∧ q < j)) ∧ p < l.length ∧ q < m.length ∧ zo_two k (zs_f l p) (zs_l l p) (zs_f m q) (zs_l m q) x y
theorem s_196_17 {xs : Nat → Int32} {L d : Nat} {K : jZ} {P : jZ → jZ → Prop} {S : Int → Int → Prop} {kk : Int} {u v : Nat} {l m : zL} (hk : -2147483648 ≤ kk ∧ kk < 2147483648) (hu : u < 27) (hv : v < 27) (hg : zs_ok l) (hg2 : zs_ok m) (i : Nat) (hi : i < l.length) : ∀ (n j : Nat) (J : jZ), j + n = m.length → zm_at J u l → zm_at J v m → zl_lo (-1) (zo_mer S kk l m i j) (J 198) → (∀ J', (∀ b, b ≠ 198 → J' b = J b) → zl_lo (-1) (zo_mer S kk l m (i + 1) 0) (J' 198) → l_196_3 xs L (d + 1) kk (u : Int) (v : Int) ((i : Int) + 1) J' K P) → l_196_17 xs L (d + 1) kk (u : Int) (v : Int) (i : Int) (j : Int) J K P
  | n, j, J, hn, hr, hr2, hS, h => by
    have h60 := hg.1
    have h61 := hg2.1
    have hs := hr.1
    have hs2 := hr2.1
    have hb := zm_b hr hg hi
    have step : ∀ (J' : jZ), (∀ b, b ≠ 198 → J' b = J b) → j < m.length → zl_lo (-1) (zo_mer S kk l m i (j + 1)) (J' 198) → l_196_151 xs L (d + 1) kk (u : Int) (v : Int) (i : Int) (j : Int) J' K P := fun J' h1 hj h2 => by
      match n, hn with
      | 0, hn => omega
      | n + 1, hn => exact e_196_151 (s_196_17 hk hu hv hg hg2 i hi n (j + 1) J' (by omega) (zm_at_98 hr h1) (zm_at_98 hr2 h1) h2 (fun J'' q1 q2 => h J'' (fun b hb => by rw [q1 b hb, h1 b hb]) q2))
    refine e_196_17 ⟨by omega, by omega, by simp only [Int.toNat_natCast]; omega, fun hc => ?_, fun hc => ?_⟩
    · simp only [Int.toNat_natCast] at hc
      refine h J (fun _ _ => rfl) (zl_lo_iff (fun x y => ?_) hS)
      unfold zo_mer
      refine or_congr Iff.rfl ⟨fun ⟨p, q, a, b⟩ => ⟨p, q, by omega, b⟩, fun ⟨p, q, a, b⟩ => ⟨p, q, by omega, b⟩⟩
    · simp only [Int.toNat_natCast] at hc
      have hj : j < m.length := by omega
      have hb2 := zm_b hr2 hg2 hj
      have more : ∀ x y, zo_mer S kk l m i (j + 1) x y ↔ (zo_mer S kk l m i j x y ∨ zo_two kk (zs_f l i) (zs_l l i) (zs_f m j) (zs_l m j) x y) := fun x y => by
        unfold zo_mer
        constructor
        · rintro (h | ⟨p, q, a, b, c, e⟩)
          · exact .inl (.inl h)
          · by_cases hq : p = i ∧ q = j
            · obtain ⟨rfl, rfl⟩ := hq
              exact .inr e
            · exact .inl (.inr ⟨p, q, by omega, b, c, e⟩)
        · rintro ((h | ⟨p, q, a, b⟩) | h)
          · exact .inl h
          · exact .inr ⟨p, q, by omega, b⟩
          · exact .inr ⟨i, j, by omega, hi, hj, h⟩
      rw [zm_idx, zm_idx, hb.1, hb2.1]
      have last : ∀ f, f = min (zs_f l i) (zs_f m j) → l_196_64 xs L (d + 1) kk (u : Int) (v : Int) (i : Int) (j : Int) f J K P := fun f hf => by
        have fin : ∀ e, e = max (zs_l l i) (zs_l m j) → l_196_100 xs L (d + 1) kk (u : Int) (v : Int) (i : Int) (j : Int) f e J K P := fun e he => by
          refine e_196_100 ⟨hk, fun hc3 => ?_, fun hc3 => ?_⟩
          · rw [zm_idx, zm_idx, hb.1, hb.2.1, hb2.1, hb2.2.1]
            refine ⟨by omega, by omega, by omega, by omega, fun hc4 => ?_, fun hc4 => ?_⟩
            · refine step J (fun _ _ => rfl) hj (zl_lo_iff (fun x y => ?_) hS)
              rw [more]
              unfold zo_two
              rw [if_neg hc3]
              exact ⟨.inl, fun h => h.elim id (fun h => by omega)⟩
            · refine s_186 hS (by omega) (by omega) (T := zo_mer S kk l m i (j + 1)) (fun x y => ?_) (fun J' h1 h2 => step J' h1 hj h2)
              rw [more]
              unfold zo_two
              rw [if_neg hc3]
              exact or_congr Iff.rfl ⟨fun h => h.2, fun h => ⟨hc4, h⟩⟩
          · refine s_186 hS (by omega) (by omega) (T := zo_mer S kk l m i (j + 1)) (fun x y => ?_) (fun J' h1 h2 => step J' h1 hj h2)
            rw [more]
            unfold zo_two
            rw [if_pos hc3, hf, he]
        refine e_196_64 ?_
        rw [zm_idx, zm_idx, hb.2.1, hb2.2.1]
        exact ⟨by omega, by omega, by omega, by omega, fun hc5 => fin _ (by omega), fun hc5 => fin _ (by omega)⟩
      exact ⟨by omega, by omega, by omega, by omega, fun hc2 => last _ (by omega), fun hc2 => last _ (by omega)⟩
theorem s_196_3 {xs : Nat → Int32} {L d : Nat} {K : jZ} {P : jZ → jZ → Prop} {S : Int → Int → Prop} {kk : Int} {u v : Nat} {l m : zL} (hk : -2147483648 ≤ kk ∧ kk < 2147483648) (hu : u < 27) (hv : v < 27) (hg : zs_ok l) (hg2 : zs_ok m) : ∀ (n i : Nat) (J : jZ), i + n = l.length → zm_at J u l → zm_at J v m → zl_lo (-1) (zo_mer S kk l m i 0) (J 198) → (∀ J', (∀ b, b ≠ 198 → J' b = J b) → zl_lo (-1) (zo_mer S kk l m l.length 0) (J' 198) → P J' K) → l_196_3 xs L (d + 1) kk (u : Int) (v : Int) (i : Int) J K P
  | n, i, J, hn, hr, hr2, hS, h => by
    have h60 := hg.1
    have hs := hr.1
    refine e_196_3 ⟨by omega, by omega, by simp only [Int.toNat_natCast]; omega, fun hc => ?_, fun hc => ?_⟩
    · simp only [Int.toNat_natCast] at hc
      obtain rfl : i = l.length := by omega
      exact h J (fun _ _ => rfl) hS
    · simp only [Int.toNat_natCast] at hc
      match n, hn with
      | 0, hn => omega
      | n + 1, hn =>
        exact s_196_17 hk hu hv hg hg2 i (by omega) m.length 0 J (by omega) hr hr2 hS (fun J' h1 h2 => s_196_3 hk hu hv hg hg2 n (i + 1) J' (by omega) (zm_at_98 hr h1) (zm_at_98 hr2 h1) h2 (fun J'' q1 q2 => h J'' (fun b hb => by rw [q1 b hb, h1 b hb]) q2))
theorem s_196 {xs : Nat → Int32} {L d : Nat} {J K : jZ} {P : jZ → jZ → Prop} {S T : Int → Int → Prop} {kk : Int} {u v : Nat} {l m : zL} (hk : -2147483648 ≤ kk ∧ kk < 2147483648) (hu : u < 27) (hv : v < 27) (hg : zs_ok l) (hg2 : zs_ok m) (hr : zm_at J u l) (hr2 : zm_at J v m) (hS : zl_lo (-1) S (J 198)) (hT : ∀ x y, T x y ↔ (S x y ∨ ∃ p q, p < l.length ∧ q < m.length ∧ zo_two kk (zs_f l p) (zs_l l p) (zs_f m q) (zs_l m q) x y)) (h : ∀ J', (∀ b, b ≠ 198 → J' b = J b) → zl_lo (-1) T (J' 198) → P J' K) : q_196 xs L (d + 2) kk (u : Int) (v : Int) J K P := by
  refine e_196 (s_196_3 (S := S) hk hu hv hg hg2 l.length 0 J (by omega) hr hr2 (zl_lo_iff (fun x y => ?_) hS) (fun J' h1 h2 => h J' h1 (zl_lo_iff (fun x y => ?_) h2)))
  · unfold zo_mer
    exact ⟨.inl, fun h => h.elim id (fun ⟨p, q, a, _⟩ => by omega)⟩
  · rw [hT]
    unfold zo_mer
    exact or_congr Iff.rfl ⟨fun ⟨p, q, a, b⟩ => ⟨p, q, b⟩, fun ⟨p, q, a, b⟩ => ⟨p, q, by omega, a, b⟩⟩
theorem s_199 {xs : Nat → Int32} {L d : Nat} {J K : jZ} {P : Int → jZ → jZ → Prop} {u v i j : Nat} {l m : zL} (hu : u < 27) (hv : v < 27) (hg : zs_ok l) (hg2 : zs_ok m) (hr : zm_at J u l) (hr2 : zm_at J v m) (hi : i < l.length) (hj : j < m.length) (h : P (if zs_f m j ≤ zs_f l i ∧ zs_l l i ≤ zs_l m j then 1 else 0) J K) : q_199 xs L (d + 2) (u : Int) (i : Int) (v : Int) (j : Int) J K P := by
  have h60 := hg.1
  have h61 := hg2.1
  have hb := zm_b hr hg hi
  have hb2 := zm_b hr2 hg2 hj
  refine e_199 ?_
  rw [zm_idx, zm_idx, hb.1, hb.2.1, hb2.1, hb2.2.1]
  refine ⟨by omega, by omega, by omega, by omega, fun hc => ?_, fun hc => ⟨by omega, by omega, fun hc2 => ?_, fun hc2 => ?_⟩⟩
  · rw [if_neg (by omega)] at h
    exact h
  · rw [if_neg (by omega)] at h
    exact h
  · rw [if_pos (by omega)] at h
    exact h
/-- how many spans of m the i-th one of l lies in, or, turned, lie in it -/
def zo_ly (l m : zL) (i : Nat) (t : Int) : Nat → Int := zn (fun j => if (t = 0 ∧ zs_f m j ≤ zs_f l i ∧ zs_l l i ≤ zs_l m j) ∨ (¬ t = 0 ∧ zs_f l i ≤ zs_f m j ∧ zs_l m j ≤ zs_l l i) then 1 else 0)
theorem zn_r {f : Nat → Int} (h : ∀ k, 0 ≤ f k ∧ f k ≤ 1) : ∀ n : Nat, 0 ≤ zn f n ∧ zn f n ≤ n
  | 0 => by simp [zn]
  | n + 1 => by
    have := zn_r h n
    have := h n
    unfold zn
    omega
theorem zo_ly_r {l m : zL} {i : Nat} {t : Int} (n : Nat) : 0 ≤ zo_ly l m i t n ∧ zo_ly l m i t n ≤ n := by
  refine zn_r (fun k => ?_) n
  split <;> omega
theorem s_198_6 {xs : Nat → Int32} {L d : Nat} {J K : jZ} {P : Int → jZ → jZ → Prop} {u v i : Nat} {t : Int} {l m : zL} (ht : -2147483648 ≤ t ∧ t < 2147483648) (hu : u < 27) (hv : v < 27) (hg : zs_ok l) (hg2 : zs_ok m) (hr : zm_at J u l) (hr2 : zm_at J v m) (hi : i < l.length) (h : P (zo_ly l m i t m.length) J K) : ∀ (n j : Nat) (w : Int), j + n = m.length → w = zo_ly l m i t j → l_198_6 xs L (d + 2) (u : Int) (i : Int) (v : Int) t w (j : Int) J K P
  | n, j, w, hn, hw => by
    have h61 := hg2.1
    have hs2 := hr2.1
    have hwr := zo_ly_r (l := l) (m := m) (i := i) (t := t) j
    refine e_198_6 ⟨by omega, by omega, by simp only [Int.toNat_natCast]; omega, fun hc => ?_, fun hc => ?_⟩
    · simp only [Int.toNat_natCast] at hc
      obtain rfl : j = m.length := by omega
      rw [hw]
      exact h
    · simp only [Int.toNat_natCast] at hc
      match n, hn with
      | 0, hn => omega
      | n + 1, hn =>
        refine ⟨ht, fun h0 => s_199 hu hv hg hg2 hr hr2 hi (by omega) ?_, fun h0 => s_199 hv hu hg2 hg hr2 hr (by omega) hi ?_⟩
        · refine ⟨by split <;> omega, fun hc2 => ?_, fun hc2 => ?_⟩
          · refine s_198_6 ht hu hv hg hg2 hr hr2 hi h n (j + 1) _ (by omega) ?_
            unfold zo_ly at hw ⊢
            rw [zn, ← hw]
            split at hc2 <;> split <;> omega
          · refine s_198_6 ht hu hv hg hg2 hr hr2 hi h n (j + 1) _ (by omega) ?_
            unfold zo_ly at hw ⊢
            rw [zn, ← hw]
            split at hc2 <;> split <;> omega
        · refine ⟨by split <;> omega, fun hc2 => ?_, fun hc2 => ?_⟩
          · refine s_198_6 ht hu hv hg hg2 hr hr2 hi h n (j + 1) _ (by omega) ?_
            unfold zo_ly at hw ⊢
            rw [zn, ← hw]
            split at hc2 <;> split <;> omega
          · refine s_198_6 ht hu hv hg hg2 hr hr2 hi h n (j + 1) _ (by omega) ?_
            unfold zo_ly at hw ⊢
            rw [zn, ← hw]
            split at hc2 <;> split <;> omega
theorem s_198 {xs : Nat → Int32} {L d : Nat} {J K : jZ} {P : Int → jZ → jZ → Prop} {u v i : Nat} {t : Int} {l m : zL} (ht : -2147483648 ≤ t ∧ t < 2147483648) (hu : u < 27) (hv : v < 27) (hg : zs_ok l) (hg2 : zs_ok m) (hr : zm_at J u l) (hr2 : zm_at J v m) (hi : i < l.length) (h : P (zo_ly l m i t m.length) J K) : q_198 xs L (d + 3) (u : Int) (i : Int) (v : Int) t J K P :=
  e_198 (s_198_6 ht hu hv hg hg2 hr hr2 hi h m.length 0 0 (by omega) rfl)
theorem zn_pos {f : Nat → Int} (h : ∀ k, 0 ≤ f k ∧ f k ≤ 1) : ∀ n : Nat, 0 < zn f n ↔ ∃ k, k < n ∧ f k = 1
  | 0 => by simp [zn]
  | n + 1 => by
    have h1 := zn_pos h n
    have h2 := h n
    have h3 := (zn_r h n).1
    unfold zn
    constructor
    · intro hp
      by_cases q : 0 < zn f n
      · obtain ⟨k, hk, e⟩ := h1.mp q
        exact ⟨k, by omega, e⟩
      · exact ⟨n, by omega, by omega⟩
    · rintro ⟨k, hk, e⟩
      by_cases q : k = n
      · subst q
        omega
      · have := h1.mpr ⟨k, by omega, e⟩
        omega
/-- whether the i-th span of l meets one of m: one that lies in it (c), or in which it lies -/
def zo_met (c : Prop) (l m : zL) (i : Nat) : Prop := ∃ j, j < m.length ∧ ((c ∧ zs_f l i ≤ zs_f m j ∧ zs_l m j ≤ zs_l l i) ∨ (¬ c ∧ zs_f m j ≤ zs_f l i ∧ zs_l l i ≤ zs_l m j))
theorem zo_ly_pos {l m : zL} {i : Nat} {t : Int} : 0 < zo_ly l m i t m.length ↔ zo_met (¬ t = 0) l m i := by
  unfold zo_ly
  rw [zn_pos (fun k => by split <;> omega)]
  constructor
  · rintro ⟨j, hj, e⟩
    refine ⟨j, hj, ?_⟩
    split at e <;> omega
  · rintro ⟨j, hj, e⟩
    refine ⟨j, hj, ?_⟩
    rw [if_pos (by omega)]
/-- whether the test of a kind keeps the i-th span -/
def zo_tst (k : Int) (l m : zL) (i : Nat) : Prop := zo_met (k = 7 ∨ k = 8) l m i ↔ (k = 5 ∨ k = 7)
def zo_tes (S : Int → Int → Prop) (k : Int) (l m : zL) (i : Nat) (x y : Int) : Prop := S x y ∨ ∃ p, p < i ∧ p < l.length ∧ zo_tst k l m p ∧ x = zs_f l p ∧ y = zs_l l p
theorem s_197_3 {xs : Nat → Int32} {L d : Nat} {K : jZ} {P : jZ → jZ → Prop} {S : Int → Int → Prop} {kk : Int} {u v : Nat} {l m : zL} (hk : -2147483648 ≤ kk ∧ kk < 2147483648) (hu : u < 27) (hv : v < 27) (hg : zs_ok l) (hg2 : zs_ok m) : ∀ (n i : Nat) (J : jZ), i + n = l.length → zm_at J u l → zm_at J v m → zl_lo (-1) (zo_tes S kk l m i) (J 198) → (∀ J', (∀ b, b ≠ 198 → J' b = J b) → zl_lo (-1) (zo_tes S kk l m l.length) (J' 198) → P J' K) → l_197_3 xs L (d + 3) kk (u : Int) (v : Int) (i : Int) J K P
  | n, i, J, hn, hr, hr2, hS, h => by
    have h60 := hg.1
    have hs := hr.1
    have h61 := hg2.1
    refine e_197_3 ⟨by omega, by omega, by simp only [Int.toNat_natCast]; omega, fun hc => ?_, fun hc => ?_⟩
    · simp only [Int.toNat_natCast] at hc
      obtain rfl : i = l.length := by omega
      exact h J (fun _ _ => rfl) hS
    · simp only [Int.toNat_natCast] at hc
      match n, hn with
      | 0, hn => omega
      | n + 1, hn =>
        have hi : i < l.length := by omega
        have hb := zm_b hr hg hi
        have step : ∀ (J' : jZ), (∀ b, b ≠ 198 → J' b = J b) → zl_lo (-1) (zo_tes S kk l m (i + 1)) (J' 198) → l_197_88 xs L (d + 3) kk (u : Int) (v : Int) (i : Int) J' K P := fun J' h1 h2 =>
          e_197_88 (s_197_3 hk hu hv hg hg2 n (i + 1) J' (by omega) (zm_at_98 hr h1) (zm_at_98 hr2 h1) h2 (fun J'' q1 q2 => h J'' (fun b hb => by rw [q1 b hb, h1 b hb]) q2))
        have more : ∀ x y, zo_tes S kk l m (i + 1) x y ↔ (zo_tes S kk l m i x y ∨ (zo_tst kk l m i ∧ x = zs_f l i ∧ y = zs_l l i)) := fun x y => by
          unfold zo_tes
          constructor
          · rintro (h | ⟨p, a, b, c⟩)
            · exact .inl (.inl h)
            · by_cases hq : p = i
              · subst hq
                exact .inr c
              · exact .inl (.inr ⟨p, by omega, b, c⟩)
          · rintro ((h | ⟨p, a, b⟩) | h)
            · exact .inl h
            · exact .inr ⟨p, by omega, b⟩
            · exact .inr ⟨i, by omega, hi, h⟩
        have no : ¬ zo_tst kk l m i → l_197_88 xs L (d + 3) kk (u : Int) (v : Int) (i : Int) J K P := fun q =>
          step J (fun _ _ => rfl) (zl_lo_iff (fun x y => by rw [more]; exact ⟨.inl, fun h => h.elim id (fun h => absurd h.1 q)⟩) hS)
        have yes : zo_tst kk l m i → q_186 xs L (d + 3) (zs_f l i) (zs_l l i) J K (fun J' K' => l_197_88 xs L (d + 3) kk (u : Int) (v : Int) (i : Int) J' K' P) := fun q =>
          s_186 hS (by omega) (by omega) (T := zo_tes S kk l m (i + 1)) (fun x y => by rw [more]; exact or_congr Iff.rfl ⟨fun h => h.2, fun h => ⟨q, h⟩⟩) (fun J' h1 h2 => step J' h1 h2)
        have go : ∀ w : Int, (w = 0 ∨ w = 1) → (w = 1 ↔ zo_met (kk = 7 ∨ kk = 8) l m i) → l_197_49 xs L (d + 3) kk (u : Int) (v : Int) (i : Int) w J K P := fun w hw hw2 => by
          have t1 : zo_tst kk l m i ↔ (w = 1 ↔ (kk = 5 ∨ kk = 7)) := by
            unfold zo_tst
            rw [← hw2]
          refine e_197_49 ?_
          rw [zm_idx, hb.1, hb.2.1]
          refine ⟨hk, fun q1 => ⟨by omega, fun q2 => no (fun q => ?_), fun q2 => ⟨by omega, yes (t1.mpr (by omega))⟩⟩, fun q1 => ⟨fun q3 => ⟨by omega, fun q2 => no (fun q => ?_), fun q2 => ⟨by omega, yes (t1.mpr (by omega))⟩⟩, fun q3 => ⟨by omega, fun q2 => no (fun q => ?_), fun q2 => ⟨by omega, yes (t1.mpr (by omega))⟩⟩⟩⟩
          · have := t1.mp q
            omega
          · have := t1.mp q
            omega
          · have := t1.mp q
            omega
        have ly : ∀ t : Int, (t = 0 ∨ t = 1) → (t = 1 ↔ (kk = 7 ∨ kk = 8)) → q_198 xs L (d + 3) (u : Int) (i : Int) (v : Int) t J K (fun r J' K' => (-2147483648 ≤ r ∧ r < 2147483648) ∧ (r ≤ 0 → l_197_49 xs L (d + 3) kk (u : Int) (v : Int) (i : Int) 0 J' K' P) ∧ (0 < r → l_197_49 xs L (d + 3) kk (u : Int) (v : Int) (i : Int) 1 J' K' P)) := fun t ht ht2 => by
          have hr0 := zo_ly_r (l := l) (m := m) (i := i) (t := t) m.length
          have hp := zo_ly_pos (l := l) (m := m) (i := i) (t := t)
          have he : (¬ t = 0) = (kk = 7 ∨ kk = 8) := propext (by omega)
          rw [he] at hp
          refine s_198 (by omega) hu hv hg hg2 hr hr2 hi ⟨by omega, fun q => go 0 (.inl rfl) ⟨fun q2 => by omega, fun q2 => ?_⟩, fun q => go 1 (.inr rfl) ⟨fun _ => hp.mp q, fun _ => rfl⟩⟩
          have := hp.mpr q2
          omega
        exact ⟨hk, fun q1 => ly 1 (.inr rfl) (by omega), fun q1 => ⟨fun q2 => ly 0 (.inl rfl) (by omega), fun q2 => ly 1 (.inr rfl) (by omega)⟩⟩
theorem s_197 {xs : Nat → Int32} {L d : Nat} {J K : jZ} {P : jZ → jZ → Prop} {S T : Int → Int → Prop} {kk : Int} {u v : Nat} {l m : zL} (hk : -2147483648 ≤ kk ∧ kk < 2147483648) (hu : u < 27) (hv : v < 27) (hg : zs_ok l) (hg2 : zs_ok m) (hr : zm_at J u l) (hr2 : zm_at J v m) (hS : zl_lo (-1) S (J 198)) (hT : ∀ x y, T x y ↔ (S x y ∨ ∃ p, p < l.length ∧ zo_tst kk l m p ∧ x = zs_f l p ∧ y = zs_l l p)) (h : ∀ J', (∀ b, b ≠ 198 → J' b = J b) → zl_lo (-1) T (J' 198) → P J' K) : q_197 xs L (d + 4) kk (u : Int) (v : Int) J K P := by
  refine e_197 (s_197_3 (S := S) hk hu hv hg hg2 l.length 0 J (by omega) hr hr2 (zl_lo_iff (fun x y => ?_) hS) (fun J' h1 h2 => h J' h1 (zl_lo_iff (fun x y => ?_) h2)))
  · unfold zo_tes
    exact ⟨.inl, fun h => h.elim id (fun ⟨p, a, _⟩ => by omega)⟩
  · rw [hT]
    unfold zo_tes
    exact or_congr Iff.rfl ⟨fun ⟨p, a, b⟩ => ⟨p, b⟩, fun ⟨p, a, b⟩ => ⟨p, a, a, b⟩⟩
/-- what a pair offers -/
def zp_off (k : Int) (l m : zL) (x y : Int) : Prop :=
  if k = 2 then zs_in l x y ∨ zs_in m x y
  else if k ≤ 4 then ∃ p q, p < l.length ∧ q < m.length ∧ zo_two k (zs_f l p) (zs_l l p) (zs_f m q) (zs_l m q) x y
  else ∃ p, p < l.length ∧ zo_tst k l m p ∧ x = zs_f l p ∧ y = zs_l l p
theorem zs_in_b {l : zL} (hg : zs_ok l) {x y : Int} (h : zs_in l x y) : 0 ≤ x ∧ x ≤ y ∧ y < 60 := by
  obtain ⟨k, hk, rfl, rfl⟩ := h
  exact hg.2.1 k hk
theorem zp_off_od {k : Int} {l m : zL} (hg : zs_ok l) (hg2 : zs_ok m) : zl_od (zp_off k l m) := by
  intro x y h
  unfold zp_off at h
  split at h
  · rcases h with h | h
    · exact (zs_in_b hg h).2.1
    · exact (zs_in_b hg2 h).2.1
  · split at h
    · obtain ⟨p, q, hp, hq, h⟩ := h
      have := hg.2.1 p hp
      have := hg2.2.1 q hq
      unfold zo_two at h
      split at h <;> omega
    · obtain ⟨p, hp, -, rfl, rfl⟩ := h
      exact (hg.2.1 p hp).2.1
theorem s_194 {xs : Nat → Int32} {L d : Nat} {J K : jZ} {P : jZ → jZ → Prop} {kk : Int} {i u v : Nat} {l m : zL} (hk : 2 ≤ kk ∧ kk ≤ 8) (hi : i < 27) (hu : u < 27) (hv : v < 27) (hg : zs_ok l) (hg2 : zs_ok m) (hr : zm_at J u l) (hr2 : zm_at J v m) (h : ∀ J' l', zm_fr i J J' → zm_at J' i l' → zl_isl (zp_off kk l m) l' → P J' K) : q_194 xs L (d + 5) (i : Int) kk (u : Int) (v : Int) J K P := by
  have fr : ∀ {J1 J2 : jZ}, (∀ b, b ≠ 198 → J2 b = J1 b) → zm_fr i J1 J2 := fun hf => ⟨fun b h1 h2 h3 h4 => hf b h4, fun j hj => by rw [hf 195 (by omega)], fun k hk => by rw [hf 196 (by omega), hf 197 (by omega)]; exact ⟨rfl, rfl⟩⟩
  refine e_194 (s_185 (fun J1 f1 S1 => ⟨by omega, fun q1 => ⟨fun q2 => ?_, fun q2 => ?_⟩, fun q1 => ?_⟩))
  · refine s_197 (T := zp_off kk l m) (by omega) hu hv hg hg2 (zm_at_98 hr f1) (zm_at_98 hr2 f1) S1 (fun x y => ?_) (fun J2 f2 S2 => s_187 hi (zp_off_od hg hg2) S2 (fun J3 l' f3 a3 e3 => h J3 l' (zm_fr_tr (zm_fr_tr (fr f1) (fr f2)) f3) a3 e3))
    unfold zp_off
    rw [if_neg q1, if_neg (by omega)]
    exact ⟨.inr, fun h => h.elim False.elim id⟩
  · refine s_196 (T := zp_off kk l m) (by omega) hu hv hg hg2 (zm_at_98 hr f1) (zm_at_98 hr2 f1) S1 (fun x y => ?_) (fun J2 f2 S2 => s_187 hi (zp_off_od hg hg2) S2 (fun J3 l' f3 a3 e3 => h J3 l' (zm_fr_tr (zm_fr_tr (fr f1) (fr f2)) f3) a3 e3))
    unfold zp_off
    rw [if_neg q1, if_pos (by omega)]
    exact ⟨.inr, fun h => h.elim False.elim id⟩
  · refine s_195 (T := fun x y => zs_in l x y) hu hg (zm_at_98 hr f1) S1 (fun x y => ⟨.inr, fun h => h.elim False.elim id⟩) (fun J2 f2 S2 => s_195 (T := zp_off kk l m) hv hg2 (zm_at_98 (zm_at_98 hr2 f1) f2) S2 (fun x y => ?_) (fun J3 f3 S3 => s_187 hi (zp_off_od hg hg2) S3 (fun J4 l' f4 a4 e4 => h J4 l' (zm_fr_tr (zm_fr_tr (zm_fr_tr (fr f1) (fr f2)) (fr f3)) f4) a4 e4)))
    unfold zp_off
    rw [if_pos q1]
