/-! Window, gap, under, next. -/
/-- the windows so far: the best, and how much is in it -/
def zq_wd (n : Int) (l : zL) : Nat → Int × Int
  | 0 => (0, -1)
  | k + 1 => if (zq_wd n l k).2 < zs_win l k ((k : Int) + n - 1) then ((k : Int), zs_win l k ((k : Int) + n - 1)) else zq_wd n l k
def zq_wn (N : Nat) (n : Int) : Nat := if (N : Int) < n then 1 else (N - n.toNat) + 1
theorem zs_win_r {l : zL} (hg : zs_ok l) (a b : Int) : 0 ≤ zs_win l a b ∧ zs_win l a b ≤ 60 := by
  have := zn_r (f := fun k => if a ≤ zs_f l k ∧ zs_l l k ≤ b then 1 else 0) (fun k => by split <;> omega) l.length
  have := hg.1
  unfold zs_win
  omega
theorem zq_wd_r {l : zL} (hg : zs_ok l) (n : Int) : ∀ k : Nat, 0 ≤ (zq_wd n l k).1 ∧ (zq_wd n l k).1 ≤ k ∧ -1 ≤ (zq_wd n l k).2 ∧ (zq_wd n l k).2 ≤ 60
  | 0 => by simp [zq_wd]
  | k + 1 => by
    have := zq_wd_r hg n k
    have := zs_win_r hg k ((k : Int) + n - 1)
    unfold zq_wd
    split
    · dsimp only
      omega
    · omega
def zq_w2 (w : Int) (r : Int × Int) : Int := if w = 0 then r.1 else r.2
theorem s_133_65 {xs : Nat → Int32} {L d : Nat} {J K : jZ} {P : Int → jZ → jZ → Prop} {N : Nat} {l : zL} {a : Nat} {n w : Int} (hn : 1 ≤ n ∧ n ≤ 60) (hw : 0 ≤ w ∧ w ≤ 1) (hN : N ≤ 60) (h3 : J 1 3 = (N : Int)) (ha : jz_kd a = 16) (hr : zs_at J a l) (hg : zs_ok l) (h : P (zq_w2 w (zq_wd n l (zq_wn N n))) J K) : ∀ (m k : Nat) (u v : Int), k + m = zq_wn N n → 1 ≤ k → (u, v) = zq_wd n l k → l_133_65 xs L (d + 6) n w a u v (k : Int) J K P
  | m, k, u, v, hm, hk1, hz => by
    have hz0 := zq_wd_r hg n k
    have hz1 : (zq_wd n l k).1 = u := by rw [← hz]
    have hz2 : (zq_wd n l k).2 = v := by rw [← hz]
    have hwn : zq_wn N n = if (N : Int) < n then 1 else (N - n.toNat) + 1 := rfl
    have hk61 : zq_wn N n ≤ 61 := by split at hwn <;> omega
    refine e_133_65 ha ⟨by omega, by omega, fun q => ⟨by omega, fun q2 => ?_, fun q2 => ?_⟩, fun q => ?_⟩
    · obtain rfl : m = 0 := by split at hwn <;> omega
      rw [← hm, Nat.add_zero, zq_w2, if_neg q2, hz2] at h
      exact h
    · obtain rfl : m = 0 := by split at hwn <;> omega
      rw [← hm, Nat.add_zero, zq_w2, if_pos q2, hz1] at h
      exact h
    · match m, hm with
      | 0, hm => split at hwn <;> omega
      | m + 1, hm =>
        have hb := zs_win_r hg k ((k : Int) + n - 1)
        refine s_134 ha hr hg (by omega) (by omega) ⟨by omega, by omega, fun q2 => ?_, fun q2 => ?_⟩
        · exact s_133_65 hn hw hN h3 ha hr hg h m (k + 1) u v (by omega) (by omega) (by rw [zq_wd, if_neg (by omega)]; exact hz)
        · exact s_133_65 hn hw hN h3 ha hr hg h m (k + 1) _ _ (by omega) (by omega) (by rw [zq_wd, if_pos (by omega)])
theorem c_133 {xs : Nat → Int32} {L d : Nat} {J K : jZ} {P : Int → jZ → jZ → Prop} {T : zT} {A : zA} (hQ : cQ J T A) {a n w : Int} (ha : -2147483648 ≤ a ∧ a < 2147483648) (hn : -2147483648 ≤ n ∧ n < 2147483648) (hw : -2147483648 ≤ w ∧ w < 2147483648) (hb : ¬ ((0 ≤ a ∧ a < A.1) ∧ (1 ≤ n ∧ n ≤ 60) ∧ (0 ≤ w ∧ w ≤ 1)) → P (-2) (rC J 0) K) (h : (0 ≤ a ∧ a < A.1) ∧ (1 ≤ n ∧ n ≤ 60) ∧ (0 ≤ w ∧ w ≤ 1) → ∀ J', cF J J' → cQ J' T A → P (zq_w2 w (zq_wd n (zk_sem (-1) T A a.toNat) (zq_wn T.1 n))) J' K) : q_133 xs L (d + 7) a n w J K P := by
  have h24 := hQ.2.1.1
  have h1 := hQ.2.2.2.1.1
  have bad : ¬ ((0 ≤ a ∧ a < A.1) ∧ (1 ≤ n ∧ n ≤ 60) ∧ (0 ≤ w ∧ w ≤ 1)) → q_13 xs L (d + 6) (-2) J K (fun r J' K' => P r J' K') := fun q => s_13 (k := 0) (by omega) (by omega) (hb q)
  refine e_133 ⟨ha, by omega, fun q => ⟨hn, fun t => bad (by omega), fun t => ⟨fun t2 => bad (by omega), fun t2 => ⟨hw, fun t3 => bad (by omega), fun t3 => ⟨fun t4 => ?_, fun t4 => bad (by omega)⟩⟩⟩⟩, fun q => bad (by omega)⟩
  obtain ⟨k, rfl⟩ : ∃ k : Nat, a = (k : Int) := ⟨a.toNat, by omega⟩
  rw [Int.toNat_natCast] at h
  have g := (zS_gd hQ.1 hQ.2.1 (a := k) (by omega)).1
  have hb0 := zs_win_r g 0 (n - 1)
  have e0 : zq_wd n (zk_sem (-1) T A k) 1 = (0, zs_win (zk_sem (-1) T A k) 0 (n - 1)) := by
    have e1 : zs_win (zk_sem (-1) T A k) ((0 : Nat) : Int) (((0 : Nat) : Int) + n - 1) = zs_win (zk_sem (-1) T A k) 0 (n - 1) := by
      rw [show ((0 : Nat) : Int) + n - 1 = n - 1 by omega]
      rfl
    rw [zq_wd, e1, if_pos (by show (-1 : Int) < _; omega)]
    rfl
  refine s_of hQ (by omega) (fun J' f _ Q _ l => ⟨jz_e62 (by omega), s_134 (jz_e62 (by omega)) l.2 g (by omega) (by omega) (s_133_65 (N := T.1) (by omega) (by omega) hQ.1.1 Q.2.2.1.1 (jz_e62 (by omega)) l.2 g (h (by omega) J' f Q) (zq_wn T.1 n - 1) 1 0 _ ?_ (by omega) e0.symm)⟩)
  unfold zq_wn
  split <;> omega
theorem s_257_72 {xs : Nat → Int32} {L d : Nat} {J K : jZ} {P : Int → jZ → jZ → Prop} {l : zL} {i : Nat} {n w b m : Int} {f : Nat} (hn : 1 ≤ n ∧ n ≤ 60) (hf : f ≤ 60) (hi : i < 27) (hr : zm_at J i l) (hg : zs_ok l) (hm : -1 ≤ m ∧ m ≤ 60) (h0 : zs_win l f ((f : Int) + n - 1) ≤ m → l_257_157 xs L (d + 8) (i : Int) n w b m (f : Int) J K P) (h1 : m < zs_win l f ((f : Int) + n - 1) → l_257_157 xs L (d + 8) (i : Int) n w (f : Int) (zs_win l f ((f : Int) + n - 1)) (f : Int) J K P) : ∀ (t k : Nat) (u : Int), k + t = l.length → u = zn (fun k => if (f : Int) ≤ zs_f l k ∧ zs_l l k ≤ (f : Int) + n - 1 then 1 else 0) k → l_257_72 xs L (d + 8) (i : Int) n w b m (f : Int) u (k : Int) J K P
  | t, k, u, ht, hu => by
    have h60 := hg.1
    have hs := hr.1
    have hub := zn_r (f := fun k => if (f : Int) ≤ zs_f l k ∧ zs_l l k ≤ (f : Int) + n - 1 then 1 else 0) (fun k => by split <;> omega) k
    refine e_257_72 ⟨by omega, by omega, by simp only [Int.toNat_natCast]; omega, fun q => ?_, fun q => ?_⟩
    · simp only [Int.toNat_natCast] at q
      obtain rfl : k = l.length := by omega
      have hu2 : u = zs_win l f ((f : Int) + n - 1) := hu
      rw [hu2]
      have hwr := zs_win_r hg f ((f : Int) + n - 1)
      exact ⟨by omega, by omega, fun q2 => e_257_141 ⟨by omega, by omega, fun _ => h0 q2, fun q3 => by omega⟩, fun q2 => e_257_141 ⟨by omega, by omega, fun q3 => by omega, fun _ => h1 q2⟩⟩
    · simp only [Int.toNat_natCast] at q
      match t, ht with
      | 0, ht => omega
      | t + 1, ht =>
        have hk := zm_b hr hg (show k < l.length by omega)
        rw [zm_idx, hk.1, hk.2.1]
        refine ⟨by omega, by omega, by omega, fun q2 => ?_, fun q2 => ⟨by omega, by omega, fun q3 => ?_, fun q3 => ?_⟩⟩
        · refine s_257_72 hn hf hi hr hg hm h0 h1 t (k + 1) _ (by omega) ?_
          rw [zn, ← hu, if_neg (by omega)]
        · refine s_257_72 hn hf hi hr hg hm h0 h1 t (k + 1) _ (by omega) ?_
          rw [zn, ← hu, if_neg (by omega)]
        · refine s_257_72 hn hf hi hr hg hm h0 h1 t (k + 1) _ (by omega) ?_
          rw [zn, ← hu, if_pos (by omega)]
theorem s_257_50 {xs : Nat → Int32} {L d : Nat} {J K : jZ} {P : Int → jZ → jZ → Prop} {N : Nat} {l : zL} {i : Nat} {n w : Int} (hn : 1 ≤ n ∧ n ≤ 60) (hw : 0 ≤ w ∧ w ≤ 1) (hN : N ≤ 60) (h3 : J 167 9 = (N : Int)) (hi : i < 27) (hr : zm_at J i l) (hg : zs_ok l) (h : P (zq_w2 w (zq_wd n l (zq_wn N n))) J K) : ∀ (m k : Nat) (u v : Int), k + m = zq_wn N n → (u, v) = zq_wd n l k → l_257_50 xs L (d + 8) (i : Int) n w u v (k : Int) J K P
  | m, k, u, v, hm, hz => by
    have hz0 := zq_wd_r hg n k
    have hz1 : (zq_wd n l k).1 = u := by rw [← hz]
    have hz2 : (zq_wd n l k).2 = v := by rw [← hz]
    have hwn : zq_wn N n = if (N : Int) < n then 1 else (N - n.toNat) + 1 := rfl
    have hk61 : zq_wn N n ≤ 61 := by split at hwn <;> omega
    have go : k < zq_wn N n → l_257_66 xs L (d + 8) (i : Int) n w u v (k : Int) J K P := fun q => by
      match m, hm with
      | 0, hm => omega
      | m + 1, hm =>
        have hk60 : k ≤ 60 := by omega
        refine e_257_66 (s_257_72 hn hk60 hi hr hg (by omega) (fun q2 => e_257_157 ?_) (fun q2 => e_257_157 ?_) l.length 0 0 (by omega) rfl)
        · exact s_257_50 hn hw hN h3 hi hr hg h m (k + 1) u v (by omega) (by rw [zq_wd, if_neg (by omega)]; exact hz)
        · exact s_257_50 hn hw hN h3 hi hr hg h m (k + 1) _ _ (by omega) (by rw [zq_wd, if_pos (by omega)])
    refine e_257_50 ⟨by omega, fun q => go (by split at hwn <;> omega), fun q => ⟨by omega, by omega, fun q2 => ⟨by omega, fun q3 => ?_, fun q3 => ?_⟩, fun q2 => go (by split at hwn <;> omega)⟩⟩
    · obtain rfl : m = 0 := by split at hwn <;> omega
      rw [← hm, Nat.add_zero, zq_w2, if_neg q3, hz2] at h
      exact h
    · obtain rfl : m = 0 := by split at hwn <;> omega
      rw [← hm, Nat.add_zero, zq_w2, if_pos q3, hz1] at h
      exact h
theorem m_257 {xs : Nat → Int32} {L d : Nat} {J K : jZ} {P : Int → jZ → jZ → Prop} {T : zT} {A : zA} (hQ : mQ J T A) {a n w : Int} (ha : -2147483648 ≤ a ∧ a < 2147483648) (hn : -2147483648 ≤ n ∧ n < 2147483648) (hw : -2147483648 ≤ w ∧ w < 2147483648) (hb : ¬ ((0 ≤ a ∧ a < A.1) ∧ (1 ≤ n ∧ n ≤ 60) ∧ (0 ≤ w ∧ w ≤ 1)) → P (-2) (rM J 2) K) (h : (0 ≤ a ∧ a < A.1) ∧ (1 ≤ n ∧ n ≤ 60) ∧ (0 ≤ w ∧ w ≤ 1) → ∀ J', mF J J' → mQ J' T A → P (zq_w2 w (zq_wd n (zk_sem (-1) T A a.toNat) (zq_wn T.1 n))) J' K) : q_257 xs L (d + 9) a n w J K P := by
  have h24 := hQ.2.1.1
  have h1 := hQ.2.2.2.1.1
  have bad : ¬ ((0 ≤ a ∧ a < A.1) ∧ (1 ≤ n ∧ n ≤ 60) ∧ (0 ≤ w ∧ w ≤ 1)) → q_170 xs L (d + 8) (-2) J K (fun r J' K' => P r J' K') := fun q => s_170 (k := 2) (by omega) (by omega) (hb q)
  refine e_257 ⟨ha, by omega, fun q => ⟨hn, fun t => ⟨hw, fun t2 => ?_, fun t2 => bad (by omega)⟩, fun t => bad (by omega)⟩, fun q => bad (by omega)⟩
  obtain ⟨k, rfl⟩ : ∃ k : Nat, a = (k : Int) := ⟨a.toNat, by omega⟩
  rw [Int.toNat_natCast] at h
  exact s_work hQ (fun J' f Q l => s_257_50 (N := T.1) t (by omega) hQ.1.1 Q.2.2.1.1 (by omega) (l k (by omega)) (zS_gd hQ.1 hQ.2.1 (by omega)).1 (h (by omega) J' f Q) (zq_wn T.1 n) 0 0 (-1) (by omega) rfl)
-- gap: -1 for none so far
def zq_g1 (l m : zL) (i j : Nat) : Int := max 0 (max (zs_f l i) (zs_f m j) - min (zs_l l i) (zs_l m j) - 1)
def zq_mi (u v : Int) : Int := if u = -1 ∨ v < u then v else u
def zq_gi (l m : zL) (i : Nat) (u : Int) : Nat → Int
  | 0 => u
  | j + 1 => zq_mi (zq_gi l m i u j) (zq_g1 l m i j)
def zq_go (l m : zL) : Nat → Int
  | 0 => -1
  | i + 1 => zq_gi l m i (zq_go l m i) m.length
theorem zq_g1_r {l m : zL} (hg : zs_ok l) (hg2 : zs_ok m) {i j : Nat} (hi : i < l.length) (hj : j < m.length) : 0 ≤ zq_g1 l m i j ∧ zq_g1 l m i j < 59 := by
  have := hg.2.1 i hi
  have := hg2.2.1 j hj
  unfold zq_g1
  omega
theorem zq_gi_r {l m : zL} (hg : zs_ok l) (hg2 : zs_ok m) {i : Nat} (hi : i < l.length) {u : Int} (hu : -1 ≤ u ∧ u < 59) : ∀ j : Nat, j ≤ m.length → -1 ≤ zq_gi l m i u j ∧ zq_gi l m i u j < 59
  | 0, _ => hu
  | j + 1, h => by
    have := zq_gi_r hg hg2 hi hu j (by omega)
    have := zq_g1_r hg hg2 hi (show j < m.length by omega)
    unfold zq_gi zq_mi
    split <;> omega
theorem zq_go_r {l m : zL} (hg : zs_ok l) (hg2 : zs_ok m) : ∀ i : Nat, i ≤ l.length → -1 ≤ zq_go l m i ∧ zq_go l m i < 59
  | 0, _ => by simp [zq_go]
  | i + 1, h => zq_gi_r hg hg2 (by omega) (zq_go_r hg hg2 i (by omega)) m.length (Nat.le_refl _)
def zq_60 (u : Int) : Int := if u = -1 then 60 else u
theorem s_135_67 {xs : Nat → Int32} {L d : Nat} {J K : jZ} {P : Int → jZ → jZ → Prop} {l m : zL} {a b i : Nat} (ha : jz_kd a = 16) (hb : jz_kd b = 16) (hr : zs_at J a l) (hg : zs_ok l) (hr2 : zs_at J b m) (hg2 : zs_ok m) (hi : i < l.length) {u : Int} (hu : -1 ≤ u ∧ u < 59) (h : l_135_55 xs L (d + 6) a b (zq_60 (zq_gi l m i u m.length)) ((i : Int) + 1) J K P) : ∀ (n j : Nat) (w : Int), j + n = m.length → w = zq_60 (zq_gi l m i u j) → l_135_67 xs L (d + 6) a b w (i : Int) (j : Int) J K P
  | n, j, w, hn, hw => by
    have h60 := hg.1
    have h61 := hg2.1
    have hs2 := hr2.1
    have hgr := zq_gi_r hg hg2 hi hu j (by omega)
    have hw60 : 0 ≤ w ∧ w ≤ 60 := by
      unfold zq_60 at hw
      split at hw <;> omega
    refine e_135_67 ha hb ⟨by omega, by omega, fun q => ?_, fun q => ?_⟩
    · obtain rfl : j = m.length := by omega
      rw [hw]
      exact h
    · match n, hn with
      | 0, hn => omega
      | n + 1, hn =>
        simp only [Int.toNat_natCast]
        have k1 := hr.2 i hi
        have k2 := hr2.2 j (by omega)
        have b1 := hg.2.1 i hi
        have b2 := hg2.2.1 j (by omega)
        rw [k1.1, k1.2, k2.1, k2.2]
        have g1 := zq_g1_r hg hg2 hi (show j < m.length by omega)
        refine ⟨by omega, by omega, by omega, by omega, by omega, by omega, by omega, by omega, by omega, s_135_67 ha hb hr hg hr2 hg2 hi hu h n (j + 1) _ (by omega) ?_⟩
        rw [show max 0 (max (zs_f l i) (zs_f m j) - min (zs_l l i) (zs_l m j) - 1) = zq_g1 l m i j from rfl, hw, zq_gi]
        unfold zq_60 zq_mi
        repeat' split
        all_goals omega
theorem s_135_55 {xs : Nat → Int32} {L d : Nat} {J K : jZ} {P : Int → jZ → jZ → Prop} {l m : zL} {a b : Nat} (ha : jz_kd a = 16) (hb : jz_kd b = 16) (hr : zs_at J a l) (hg : zs_ok l) (hr2 : zs_at J b m) (hg2 : zs_ok m) (h : P (zq_go l m l.length) J K) : ∀ (n i : Nat) (w : Int), i + n = l.length → w = zq_60 (zq_go l m i) → l_135_55 xs L (d + 6) a b w (i : Int) J K P
  | n, i, w, hn, hw => by
    have h60 := hg.1
    have hs := hr.1
    have hgr := zq_go_r hg hg2 i (by omega)
    have hw60 : 0 ≤ w ∧ w ≤ 60 := by
      unfold zq_60 at hw
      split at hw <;> omega
    refine e_135_55 ha hb ⟨by omega, by omega, fun q => ⟨by omega, fun q2 => ?_, fun q2 => ?_⟩, fun q => ?_⟩
    · obtain rfl : i = l.length := by omega
      have e : zq_go l m l.length = w := by
        unfold zq_60 at hw
        split at hw <;> omega
      rw [e] at h
      exact h
    · obtain rfl : i = l.length := by omega
      have e : zq_go l m l.length = -1 := by
        unfold zq_60 at hw
        split at hw <;> omega
      rw [e] at h
      exact h
    · match n, hn with
      | 0, hn => omega
      | n + 1, hn => exact s_135_67 ha hb hr hg hr2 hg2 (by omega) hgr (s_135_55 ha hb hr hg hr2 hg2 h n (i + 1) _ (by omega) rfl) m.length 0 w (by omega) hw
theorem c_135 {xs : Nat → Int32} {L d : Nat} {J K : jZ} {P : Int → jZ → jZ → Prop} {T : zT} {A : zA} (hQ : cQ J T A) {a b : Int} (ha : -2147483648 ≤ a ∧ a < 2147483648) (hb0 : -2147483648 ≤ b ∧ b < 2147483648) (hb : ¬ ((0 ≤ a ∧ a < A.1) ∧ (0 ≤ b ∧ b < A.1)) → P (-2) (rC J 0) K) (h : (0 ≤ a ∧ a < A.1) ∧ (0 ≤ b ∧ b < A.1) → ∀ J', cF J J' → cQ J' T A → P (zq_go (zk_sem (-1) T A a.toNat) (zk_sem (-1) T A b.toNat) (zk_sem (-1) T A a.toNat).length) J' K) : q_135 xs L (d + 7) a b J K P := by
  have h24 := hQ.2.1.1
  have h1 := hQ.2.2.2.1.1
  refine e_135 ⟨ha, by omega, fun q => ⟨hb0, fun q2 => ?_, fun q2 => s_13 (k := 0) (by omega) (by omega) (hb (by omega))⟩, fun q => s_13 (k := 0) (by omega) (by omega) (hb (by omega))⟩
  obtain ⟨k, rfl⟩ : ∃ k : Nat, a = (k : Int) := ⟨a.toNat, by omega⟩
  obtain ⟨j, rfl⟩ : ∃ j : Nat, b = (j : Int) := ⟨b.toNat, by omega⟩
  simp only [Int.toNat_natCast] at h
  refine s_of hQ (by omega) (fun J1 f1 _ Q1 _ l1 => ⟨jz_e62 (by omega), s_of Q1 (by omega) (fun J2 f2 _ Q2 g2 l2 => ⟨jz_e62 (by omega), ?_⟩)⟩)
  exact s_135_55 (jz_e62 (by omega)) (jz_e62 (by omega)) (g2 k l1.1).2 (zS_gd hQ.1 hQ.2.1 (by omega)).1 l2.2 (zS_gd hQ.1 hQ.2.1 (by omega)).1 (h (by omega) J2 (cF_tr f1 f2) Q2) (zk_sem (-1) T A k).length 0 60 (by omega) rfl
theorem s_258_46 {xs : Nat → Int32} {L d : Nat} {J K : jZ} {P : Int → jZ → jZ → Prop} {l m : zL} {a b i : Nat} (ha : a < 27) (hb : b < 27) (hr : zm_at J a l) (hg : zs_ok l) (hr2 : zm_at J b m) (hg2 : zs_ok m) (hi : i < l.length) {u : Int} (hu : -1 ≤ u ∧ u < 59) (h : l_258_32 xs L (d + 8) (a : Int) (b : Int) (zq_gi l m i u m.length) ((i : Int) + 1) J K P) : ∀ (n j : Nat) (w : Int), j + n = m.length → w = zq_gi l m i u j → l_258_46 xs L (d + 8) (a : Int) (b : Int) w (i : Int) (j : Int) J K P
  | n, j, w, hn, hw => by
    have h60 := hg.1
    have h61 := hg2.1
    have hs2 := hr2.1
    have hgr := zq_gi_r hg hg2 hi hu j (by omega)
    refine e_258_46 ⟨by omega, by omega, by simp only [Int.toNat_natCast]; omega, fun q => ?_, fun q => ?_⟩
    · simp only [Int.toNat_natCast] at q
      obtain rfl : j = m.length := by omega
      rw [hw]
      exact h
    · simp only [Int.toNat_natCast] at q
      match n, hn with
      | 0, hn => omega
      | n + 1, hn =>
        have k1 := zm_b hr hg hi
        have k2 := zm_b hr2 hg2 (show j < m.length by omega)
        have b1 := hg.2.1 i hi
        have b2 := hg2.2.1 j (by omega)
        have g1 := zq_g1_r hg hg2 hi (show j < m.length by omega)
        rw [zm_idx, zm_idx, k1.1, k1.2.1, k2.1, k2.2.1]
        have fin : ∀ w', w' = zq_mi w (zq_g1 l m i j) → l_258_142 xs L (d + 8) (a : Int) (b : Int) w' (i : Int) (j : Int) J K P := fun w' hw' =>
          e_258_142 (s_258_46 ha hb hr hg hr2 hg2 hi hu h n (j + 1) w' (by omega) (by rw [hw', hw, zq_gi]))
        have fin2 : ∀ v, v = zq_g1 l m i j → l_258_124 xs L (d + 8) (a : Int) (b : Int) w (i : Int) (j : Int) v J K P := fun v hv => by
          refine e_258_124 ⟨by omega, fun q2 => e_258_135 (fin _ ?_), fun q2 => ⟨by omega, fun q3 => fin _ ?_, fun q3 => e_258_135 (fin _ ?_)⟩⟩
          · unfold zq_mi
            rw [if_pos (.inl q2), hv]
          · unfold zq_mi
            rw [if_neg (by omega)]
          · unfold zq_mi
            rw [if_pos (.inr (by omega)), hv]
        have fin3 : ∀ v, -60 ≤ v ∧ v ≤ 60 → max 0 v = zq_g1 l m i j → l_258_111 xs L (d + 8) (a : Int) (b : Int) w (i : Int) (j : Int) v J K P := fun v hv1 hv => by
          refine e_258_111 ⟨by omega, fun q2 => fin2 _ (by omega), fun q2 => fin2 _ (by omega)⟩
        have e : zq_g1 l m i j = max 0 (max (zs_f l i) (zs_f m j) - min (zs_l l i) (zs_l m j) - 1) := rfl
        exact ⟨by omega, by omega, by omega, by omega, fun q2 => fin3 _ (by omega) (by omega), fun q2 => fin3 _ (by omega) (by omega)⟩
theorem s_258_32 {xs : Nat → Int32} {L d : Nat} {J K : jZ} {P : Int → jZ → jZ → Prop} {l m : zL} {a b : Nat} (ha : a < 27) (hb : b < 27) (hr : zm_at J a l) (hg : zs_ok l) (hr2 : zm_at J b m) (hg2 : zs_ok m) (h : P (zq_go l m l.length) J K) : ∀ (n i : Nat) (w : Int), i + n = l.length → w = zq_go l m i → l_258_32 xs L (d + 8) (a : Int) (b : Int) w (i : Int) J K P
  | n, i, w, hn, hw => by
    have h60 := hg.1
    have hs := hr.1
    have hgr := zq_go_r hg hg2 i (by omega)
    refine e_258_32 ⟨by omega, by omega, by simp only [Int.toNat_natCast]; omega, fun q => ?_, fun q => ?_⟩
    · simp only [Int.toNat_natCast] at q
      obtain rfl : i = l.length := by omega
      rw [hw]
      exact h
    · simp only [Int.toNat_natCast] at q
      match n, hn with
      | 0, hn => omega
      | n + 1, hn => exact s_258_46 ha hb hr hg hr2 hg2 (by omega) hgr (s_258_32 ha hb hr hg hr2 hg2 h n (i + 1) _ (by omega) rfl) m.length 0 w (by omega) hw
theorem m_258 {xs : Nat → Int32} {L d : Nat} {J K : jZ} {P : Int → jZ → jZ → Prop} {T : zT} {A : zA} (hQ : mQ J T A) {a b : Int} (ha : -2147483648 ≤ a ∧ a < 2147483648) (hb0 : -2147483648 ≤ b ∧ b < 2147483648) (hb : ¬ ((0 ≤ a ∧ a < A.1) ∧ (0 ≤ b ∧ b < A.1)) → P (-2) (rM J 2) K) (h : (0 ≤ a ∧ a < A.1) ∧ (0 ≤ b ∧ b < A.1) → ∀ J', mF J J' → mQ J' T A → P (zq_go (zk_sem (-1) T A a.toNat) (zk_sem (-1) T A b.toNat) (zk_sem (-1) T A a.toNat).length) J' K) : q_258 xs L (d + 9) a b J K P := by
  have h24 := hQ.2.1.1
  have h1 := hQ.2.2.2.1.1
  refine e_258 ⟨ha, by omega, fun q => ⟨hb0, fun q2 => ?_, fun q2 => s_170 (k := 2) (by omega) (by omega) (hb (by omega))⟩, fun q => s_170 (k := 2) (by omega) (by omega) (hb (by omega))⟩
  obtain ⟨k, rfl⟩ : ∃ k : Nat, a = (k : Int) := ⟨a.toNat, by omega⟩
  obtain ⟨j, rfl⟩ : ∃ j : Nat, b = (j : Int) := ⟨b.toNat, by omega⟩
  simp only [Int.toNat_natCast] at h
  exact s_work hQ (fun J' f Q l => s_258_32 (by omega) (by omega) (l k (by omega)) (zS_gd hQ.1 hQ.2.1 (by omega)).1 (l j (by omega)) (zS_gd hQ.1 hQ.2.1 (by omega)).1 (h (by omega) J' f Q) (zk_sem (-1) T A k).length 0 (-1) (by omega) rfl)
