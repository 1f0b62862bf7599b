/-! Queries: cover, lengths, apart, pins. -/
def zq_cv (l : zL) : Nat → Int × Int × Int
  | 0 => (0, 0, 0)
  | k + 1 => if 0 < zs_thr l k then ((zq_cv l k).1 + 1, 0, max (zq_cv l k).2.2 0) else ((zq_cv l k).1, (zq_cv l k).2.1 + 1, max (zq_cv l k).2.2 ((zq_cv l k).2.1 + 1))
theorem zq_cv_r (l : zL) : ∀ k : Nat, (0 ≤ (zq_cv l k).1 ∧ (zq_cv l k).1 ≤ k) ∧ (0 ≤ (zq_cv l k).2.1 ∧ (zq_cv l k).2.1 ≤ k) ∧ (0 ≤ (zq_cv l k).2.2 ∧ (zq_cv l k).2.2 ≤ k)
  | 0 => by simp [zq_cv]
  | k + 1 => by
    have := zq_cv_r l k
    unfold zq_cv
    split
    · dsimp only
      omega
    · dsimp only
      omega
def zq_cov (n : Nat) (l : zL) (w : Int) : Int := if w = 0 then (zq_cv l n).1 else if w = 1 then (n : Int) - (zq_cv l n).1 else (zq_cv l n).2.2
theorem s_122_48 {xs : Nat → Int32} {L d : Nat} {J K : jZ} {P : Int → jZ → jZ → Prop} {N : Nat} {l : zL} {a : Nat} {w : Int} (hw : 0 ≤ w ∧ w ≤ 2) (hN : N ≤ 60) (h3 : J 1 3 = (N : Int)) (ha : jz_kd a = 16) (hr : zs_at J a l) (hg : zs_ok l) (h : P (zq_cov N l w) J K) : ∀ (n k : Nat) (u v t : Int), k + n = N → (u, v, t) = zq_cv l k → l_122_48 xs L (d + 6) w a u v t (k : Int) J K P
  | n, k, u, v, t, hn, hz => by
    have hz0 := zq_cv_r l k
    have hz1 : (zq_cv l k).1 = u := by rw [← hz]
    have hz2 : (zq_cv l k).2.1 = v := by rw [← hz]
    have hz3 : (zq_cv l k).2.2 = t := by rw [← hz]
    have ht := zs_thr_r hg k
    refine e_122_48 ha ⟨by omega, by omega, fun q => ⟨by omega, fun q2 => ⟨fun q3 => ?_, fun q3 => ?_⟩, fun q2 => ?_⟩, fun q => ?_⟩
    · obtain rfl : k = N := by omega
      rw [zq_cov, if_neg q2, if_neg q3, hz3] at h
      exact h
    · obtain rfl : k = N := by omega
      rw [zq_cov, if_neg q2, if_pos q3, hz1] at h
      rw [h3]
      exact h
    · obtain rfl : k = N := by omega
      rw [zq_cov, if_pos q2, hz1] at h
      exact h
    · match n, hn with
      | 0, hn => omega
      | n + 1, hn =>
        have go : ∀ u' v' : Int, (u', v', max t v') = zq_cv l (k + 1) → 0 ≤ v' ∧ v' ≤ 60 → l_122_106 xs L (d + 6) w a u' v' t (k : Int) J K P := fun u' v' q2 q3 =>
          e_122_106 ha ⟨by omega, by omega, s_122_48 hw hN h3 ha hr hg h n (k + 1) u' v' _ (by omega) q2⟩
        refine s_120 ha hr hg (by omega) ⟨by omega, fun q2 => e_122_76 ha ⟨by omega, fun _ => go _ _ ?_ (by omega), fun q3 => by omega⟩, fun q2 => e_122_76 ha ⟨by omega, fun q3 => by omega, fun _ => go _ _ ?_ (by omega)⟩⟩
        · unfold zq_cv
          rw [if_neg (by omega), hz1, hz2, hz3, Int.add_zero]
        · unfold zq_cv
          rw [if_pos (by omega), hz1, hz3]
theorem c_122 {xs : Nat → Int32} {L d : Nat} {J K : jZ} {P : Int → jZ → jZ → Prop} {T : zT} {A : zA} (hQ : cQ J T A) {a w : Int} (ha : -2147483648 ≤ a ∧ a < 2147483648) (hw : -2147483648 ≤ w ∧ w < 2147483648) (hb : ¬ ((0 ≤ a ∧ a < A.1) ∧ (0 ≤ w ∧ w ≤ 2)) → P (-2) (rC J 0) K) (h : (0 ≤ a ∧ a < A.1) ∧ (0 ≤ w ∧ w ≤ 2) → ∀ J', cF J J' → cQ J' T A → P (zq_cov T.1 (zk_sem (-1) T A a.toNat) w) J' K) : q_122 xs L (d + 7) a w J K P := by
  have h24 := hQ.2.1.1
  have h1 := hQ.2.2.2.1.1
  have bad : ¬ ((0 ≤ a ∧ a < A.1) ∧ (0 ≤ w ∧ w ≤ 2)) → q_13 xs L (d + 6) (-2) J K (fun r J' K' => P r J' K') := fun q => s_13 (k := 0) (by omega) (by omega) (hb q)
  refine e_122 ⟨ha, by omega, fun q => ⟨hw, fun q2 => bad (by omega), fun q2 => ⟨fun q3 => ?_, fun q3 => bad (by omega)⟩⟩, fun q => bad (by omega)⟩
  obtain ⟨k, rfl⟩ : ∃ k : Nat, a = (k : Int) := ⟨a.toNat, by omega⟩
  rw [Int.toNat_natCast] at h
  exact s_of hQ (by omega) (fun J' f _ Q _ l => ⟨jz_e62 (by omega), s_122_48 (by omega) hQ.1.1 Q.2.2.1.1 (jz_e62 (by omega)) l.2 (zS_gd hQ.1 hQ.2.1 (by omega)).1 (h (by omega) J' f Q) T.1 0 0 0 0 (by omega) rfl⟩)
theorem s_248_42 {xs : Nat → Int32} {L d : Nat} {J K : jZ} {P : Int → jZ → jZ → Prop} {N : Nat} {l : zL} {i : Nat} {w : Int} (hw : 0 ≤ w ∧ w ≤ 2) (hN : N ≤ 60) (h3 : J 167 9 = (N : Int)) (hi : i < 27) (hr : zm_at J i l) (hg : zs_ok l) (h : P (zq_cov N l w) J K) : ∀ (n k : Nat) (u v t : Int), k + n = N → (u, v, t) = zq_cv l k → l_248_42 xs L (d + 8) (i : Int) w u v t (k : Int) J K P
  | n, k, u, v, t, hn, hz => by
    have hz0 := zq_cv_r l k
    have hz1 : (zq_cv l k).1 = u := by rw [← hz]
    have hz2 : (zq_cv l k).2.1 = v := by rw [← hz]
    have hz3 : (zq_cv l k).2.2 = t := by rw [← hz]
    have ht := zs_thr_r hg k
    refine e_248_42 ⟨by omega, by omega, fun q => ⟨by omega, fun q2 => ⟨fun q3 => ?_, fun q3 => ?_⟩, fun q2 => ?_⟩, fun q => ?_⟩
    · obtain rfl : k = N := by omega
      rw [zq_cov, if_neg q2, if_neg q3, hz3] at h
      exact h
    · obtain rfl : k = N := by omega
      rw [zq_cov, if_neg q2, if_pos q3, hz1] at h
      rw [h3]
      exact h
    · obtain rfl : k = N := by omega
      rw [zq_cov, if_pos q2, hz1] at h
      exact h
    · match n, hn with
      | 0, hn => omega
      | n + 1, hn =>
        have go : ∀ u' v' : Int, (u', v', max t v') = zq_cv l (k + 1) → 0 ≤ v' ∧ v' ≤ 60 → l_248_96 xs L (d + 8) (i : Int) w u' v' t (k : Int) J K P := fun u' v' q2 q3 => by
          refine e_248_96 ⟨by omega, by omega, fun q4 => e_248_112 (s_248_42 hw hN h3 hi hr hg h n (k + 1) u' v' _ (by omega) ?_), fun q4 => e_248_112 (s_248_42 hw hN h3 hi hr hg h n (k + 1) u' v' _ (by omega) ?_)⟩
          · rw [← q2, show max t v' = t by omega]
          · rw [← q2, show max t v' = v' by omega]
        refine s_246 hi hr hg (by omega) ⟨by omega, fun q2 => e_248_68 ⟨by omega, fun _ => go _ _ ?_ (by omega), fun q3 => by omega⟩, fun q2 => e_248_68 ⟨by omega, fun q3 => by omega, fun _ => go _ _ ?_ (by omega)⟩⟩
        · unfold zq_cv
          rw [if_neg (by omega), hz1, hz2, hz3, Int.add_zero]
        · unfold zq_cv
          rw [if_pos (by omega), hz1, hz3]
theorem m_248 {xs : Nat → Int32} {L d : Nat} {J K : jZ} {P : Int → jZ → jZ → Prop} {T : zT} {A : zA} (hQ : mQ J T A) {a w : Int} (ha : -2147483648 ≤ a ∧ a < 2147483648) (hw : -2147483648 ≤ w ∧ w < 2147483648) (hb : ¬ ((0 ≤ a ∧ a < A.1) ∧ (0 ≤ w ∧ w ≤ 2)) → P (-2) (rM J 2) K) (h : (0 ≤ a ∧ a < A.1) ∧ (0 ≤ w ∧ w ≤ 2) → ∀ J', mF J J' → mQ J' T A → P (zq_cov T.1 (zk_sem (-1) T A a.toNat) w) J' K) : q_248 xs L (d + 9) a w J K P := by
  have h24 := hQ.2.1.1
  have h1 := hQ.2.2.2.1.1
  refine e_248 ⟨ha, by omega, fun q => ⟨hw, fun q2 => ?_, fun q2 => s_170 (k := 2) (by omega) (by omega) (hb (by omega))⟩, fun q => s_170 (k := 2) (by omega) (by omega) (hb (by omega))⟩
  obtain ⟨k, rfl⟩ : ∃ k : Nat, a = (k : Int) := ⟨a.toNat, by omega⟩
  rw [Int.toNat_natCast] at h
  exact s_work hQ (fun J' f Q l => s_248_42 (by omega) hQ.1.1 Q.2.2.1.1 (by omega) (l k (by omega)) (zS_gd hQ.1 hQ.2.1 (by omega)).1 (h (by omega) J' f Q) T.1 0 0 0 0 (by omega) rfl)
-- lengths
def zs_s (l : zL) (k : Nat) : Int := zs_l l k - zs_f l k + 1
def zq_le (w : Int) (l : zL) : Nat → Int
  | 0 => 0
  | k + 1 => if w = 2 then zq_le w l k + zs_s l k else if k = 0 ∨ (w = 0 ∧ zs_s l k < zq_le w l k) ∨ (¬ w = 0 ∧ zq_le w l k < zs_s l k) then zs_s l k else zq_le w l k
theorem zs_s_r {l : zL} (hg : zs_ok l) {k : Nat} (hk : k < l.length) : 1 ≤ zs_s l k ∧ zs_s l k ≤ 60 := by
  have := hg.2.1 k hk
  unfold zs_s
  omega
theorem zq_le_r {l : zL} (hg : zs_ok l) (w : Int) : ∀ k : Nat, k ≤ l.length → 0 ≤ zq_le w l k ∧ zq_le w l k ≤ 60 * k
  | 0, _ => by simp [zq_le]
  | k + 1, h => by
    have := zq_le_r hg w k (by omega)
    have := zs_s_r hg (show k < l.length by omega)
    unfold zq_le
    repeat' split
    all_goals omega
theorem s_123_60 {xs : Nat → Int32} {L d : Nat} {J K : jZ} {P : Int → jZ → jZ → Prop} {l : zL} {a : Nat} {w : Int} (hw : 0 ≤ w ∧ w ≤ 2) (ha : jz_kd a = 16) (hr : zs_at J a l) (hg : zs_ok l) (h : P (zq_le w l l.length) J K) : ∀ (n k : Nat) (u v t : Int), k + n = l.length → (u = if l.length = 0 then 0 else if k = 0 then 60 else zq_le 0 l k) → v = zq_le 1 l k → t = zq_le 2 l k → 0 ≤ u ∧ u ≤ 60 ∧ 0 ≤ v ∧ v ≤ 60 → l_123_60 xs L (d + 6) w a u v t (k : Int) J K P
  | n, k, u, v, t, hn, hu, hv, ht, hb => by
    have h60 := hg.1
    have hs := hr.1
    refine e_123_60 ha ⟨by omega, by omega, fun q => ⟨by omega, fun q2 => ⟨fun q3 => ?_, fun q3 => ?_⟩, fun q2 => ?_⟩, fun q => ?_⟩
    · obtain rfl : k = l.length := by omega
      obtain rfl : w = 2 := by omega
      rw [ht]
      exact h
    · obtain rfl : k = l.length := by omega
      subst q3
      rw [hv]
      exact h
    · obtain rfl : k = l.length := by omega
      subst q2
      by_cases q4 : l.length = 0
      · rw [if_pos q4] at hu
        rw [hu]
        rw [q4] at h
        exact h
      · rw [if_neg q4, if_neg q4] at hu
        rw [hu]
        exact h
    · match n, hn with
      | 0, hn => omega
      | n + 1, hn =>
        rw [Int.toNat_natCast]
        have hk := hr.2 k (by omega)
        have hsr := zs_s_r hg (show k < l.length by omega)
        rw [hk.1, hk.2, show zs_l l k - zs_f l k + 1 = zs_s l k from rfl]
        refine ⟨by omega, by omega, by omega, by omega, s_123_60 hw ha hr hg h n (k + 1) _ _ _ (by omega) ?_ ?_ ?_ (by omega)⟩
        · rw [if_neg (by omega), if_neg (by omega)]
          rw [if_neg (by omega)] at hu
          unfold zq_le
          rw [if_neg (by omega)]
          by_cases q4 : k = 0
          · rw [if_pos q4] at hu
            rw [if_pos (.inl q4)]
            omega
          · rw [if_neg q4] at hu
            rw [← hu]
            by_cases q5 : zs_s l k < u
            · rw [if_pos (.inr (.inl ⟨rfl, q5⟩))]
              omega
            · rw [if_neg (by omega)]
              omega
        · unfold zq_le
          rw [if_neg (by omega), ← hv]
          by_cases q4 : k = 0
          · rw [if_pos (.inl q4)]
            subst q4
            simp only [zq_le] at hv
            omega
          · by_cases q5 : v < zs_s l k
            · rw [if_pos (.inr (.inr ⟨by omega, q5⟩))]
              omega
            · rw [if_neg (by omega)]
              omega
        · unfold zq_le
          rw [if_pos rfl, ← ht]
theorem c_123 {xs : Nat → Int32} {L d : Nat} {J K : jZ} {P : Int → jZ → jZ → Prop} {T : zT} {A : zA} (hQ : cQ J T A) {a w : Int} (ha : -2147483648 ≤ a ∧ a < 2147483648) (hw : -2147483648 ≤ w ∧ w < 2147483648) (hb : ¬ ((0 ≤ a ∧ a < A.1) ∧ (0 ≤ w ∧ w ≤ 2)) → P (-2) (rC J 0) K) (h : (0 ≤ a ∧ a < A.1) ∧ (0 ≤ w ∧ w ≤ 2) → ∀ J', cF J J' → cQ J' T A → P (zq_le w (zk_sem (-1) T A a.toNat) (zk_sem (-1) T A a.toNat).length) J' K) : q_123 xs L (d + 7) a w J K P := by
  have h24 := hQ.2.1.1
  have h1 := hQ.2.2.2.1.1
  have bad : ¬ ((0 ≤ a ∧ a < A.1) ∧ (0 ≤ w ∧ w ≤ 2)) → q_13 xs L (d + 6) (-2) J K (fun r J' K' => P r J' K') := fun q => s_13 (k := 0) (by omega) (by omega) (hb q)
  refine e_123 ⟨ha, by omega, fun q => ⟨hw, fun q2 => bad (by omega), fun q2 => ⟨fun q3 => ?_, fun q3 => bad (by omega)⟩⟩, fun q => bad (by omega)⟩
  obtain ⟨k, rfl⟩ : ∃ k : Nat, a = (k : Int) := ⟨a.toNat, by omega⟩
  rw [Int.toNat_natCast] at h
  have g := (zS_gd hQ.1 hQ.2.1 (a := k) (by omega)).1
  have g60 := g.1
  refine s_of hQ (by omega) (fun J' f _ Q _ l => ⟨jz_e62 (by omega), ?_⟩)
  rw [l.2.1]
  exact ⟨by omega, fun q4 => s_123_60 (by omega) (jz_e62 (by omega)) l.2 g (h (by omega) J' f Q) (zk_sem (-1) T A k).length 0 _ _ _ (by omega) (by rw [if_neg (by omega), if_pos rfl]) rfl rfl (by omega), fun q4 => s_123_60 (by omega) (jz_e62 (by omega)) l.2 g (h (by omega) J' f Q) (zk_sem (-1) T A k).length 0 _ _ _ (by omega) (by rw [if_pos (by omega)]) rfl rfl (by omega)⟩
theorem s_249_36 {xs : Nat → Int32} {L d : Nat} {J K : jZ} {P : Int → jZ → jZ → Prop} {l : zL} {i : Nat} {w : Int} (hw : 0 ≤ w ∧ w ≤ 2) (hi : i < 27) (hr : zm_at J i l) (hg : zs_ok l) (h : P (zq_le w l l.length) J K) : ∀ (n k : Nat) (u : Int), k + n = l.length → u = zq_le w l k → l_249_36 xs L (d + 8) (i : Int) w u (k : Int) J K P
  | n, k, u, hn, hu => by
    have h60 := hg.1
    have hs := hr.1
    have hb := zq_le_r hg w k (by omega)
    refine e_249_36 ⟨by omega, by omega, by simp only [Int.toNat_natCast]; omega, fun q => ?_, fun q => ?_⟩
    · simp only [Int.toNat_natCast] at q
      obtain rfl : k = l.length := by omega
      rw [hu]
      exact h
    · simp only [Int.toNat_natCast] at q
      match n, hn with
      | 0, hn => omega
      | n + 1, hn =>
        have hk := zm_b hr hg (show k < l.length by omega)
        have hsr := zs_s_r hg (show k < l.length by omega)
        have go : ∀ u' : Int, u' = zq_le w l (k + 1) → l_249_99 xs L (d + 8) (i : Int) w u' (k : Int) J K P := fun u' q2 => e_249_99 (s_249_36 hw hi hr hg h n (k + 1) u' (by omega) q2)
        rw [zm_idx, hk.1, hk.2.1, show zs_l l k - zs_f l k + 1 = zs_s l k from rfl]
        refine ⟨by omega, by omega, fun q2 => ⟨fun q3 => e_249_92 (go _ ?_), fun q3 => ⟨fun q4 => ⟨by omega, by omega, fun q5 => e_249_97 (go _ ?_), fun q5 => e_249_92 (go _ ?_)⟩, fun q4 => ⟨by omega, by omega, fun q5 => e_249_97 (go _ ?_), fun q5 => e_249_92 (go _ ?_)⟩⟩⟩, fun q2 => go _ ?_⟩
        · unfold zq_le
          rw [if_neg q2, if_pos (.inl (by omega))]
        · unfold zq_le
          rw [if_neg q2, if_neg (by omega)]
          exact hu
        · unfold zq_le
          rw [if_neg q2, if_pos (by omega)]
        · unfold zq_le
          rw [if_neg q2, if_neg (by omega)]
          exact hu
        · unfold zq_le
          rw [if_neg q2, if_pos (by omega)]
        · unfold zq_le
          rw [if_pos q2, ← hu]
theorem m_249 {xs : Nat → Int32} {L d : Nat} {J K : jZ} {P : Int → jZ → jZ → Prop} {T : zT} {A : zA} (hQ : mQ J T A) {a w : Int} (ha : -2147483648 ≤ a ∧ a < 2147483648) (hw : -2147483648 ≤ w ∧ w < 2147483648) (hb : ¬ ((0 ≤ a ∧ a < A.1) ∧ (0 ≤ w ∧ w ≤ 2)) → P (-2) (rM J 2) K) (h : (0 ≤ a ∧ a < A.1) ∧ (0 ≤ w ∧ w ≤ 2) → ∀ J', mF J J' → mQ J' T A → P (zq_le w (zk_sem (-1) T A a.toNat) (zk_sem (-1) T A a.toNat).length) J' K) : q_249 xs L (d + 9) a w J K P := by
  have h24 := hQ.2.1.1
  have h1 := hQ.2.2.2.1.1
  refine e_249 ⟨ha, by omega, fun q => ⟨hw, fun q2 => ?_, fun q2 => s_170 (k := 2) (by omega) (by omega) (hb (by omega))⟩, fun q => s_170 (k := 2) (by omega) (by omega) (hb (by omega))⟩
  obtain ⟨k, rfl⟩ : ∃ k : Nat, a = (k : Int) := ⟨a.toNat, by omega⟩
  rw [Int.toNat_natCast] at h
  exact s_work hQ (fun J' f Q l => s_249_36 (by omega) (by omega) (l k (by omega)) (zS_gd hQ.1 hQ.2.1 (by omega)).1 (h (by omega) J' f Q) (zk_sem (-1) T A k).length 0 0 (by omega) rfl)
-- apart, pins: t is 0 for the number, 1 for the last place
def zq_ap (t : Int) (l : zL) (i : Int) : Int := if i = -1 then (zs_ap l l.length).1 else if zs_an l i l.length 0 = -1 then -2 else if t = 0 then zs_an l i l.length 0 else zs_l l (zs_an l i l.length 0).toNat
theorem zn_fd_lt {c : Nat → Bool} : ∀ (n k : Nat), zn_fd c n k < (k : Int) + n
  | 0, k => by
    unfold zn_fd
    omega
  | n + 1, k => by
    have := zn_fd_lt (c := c) n (k + 1)
    unfold zn_fd
    split <;> omega
theorem zs_an_r (l : zL) (i : Int) : -1 ≤ zs_an l i l.length 0 ∧ zs_an l i l.length 0 ≤ l.length ∧ (zs_an l i l.length 0 = -1 ∨ 0 ≤ zs_an l i l.length 0 ∧ zs_an l i l.length 0 < l.length) := by
  unfold zs_an
  have b1 := zn_fd_pos (c := fun k => decide ((zs_ap l k).2 < zs_f l k ∧ (zs_ap l k).1 = i)) l.length 0
  have b2 := zn_fd_lt (c := fun k => decide ((zs_ap l k).2 < zs_f l k ∧ (zs_ap l k).1 = i)) l.length 0
  omega
theorem c_124 {xs : Nat → Int32} {L d : Nat} {J K : jZ} {P : Int → jZ → jZ → Prop} {T : zT} {A : zA} (hQ : cQ J T A) {a i : Int} (ha : -2147483648 ≤ a ∧ a < 2147483648) (hi : -2147483648 ≤ i ∧ i < 2147483648) (hb : ¬ ((0 ≤ a ∧ a < A.1) ∧ -1 ≤ i) → P (-2) (rC J 0) K) (hb2 : (0 ≤ a ∧ a < A.1) ∧ -1 ≤ i → zq_ap 0 (zk_sem (-1) T A a.toNat) i = -2 → ∀ J', cF J J' → cQ J' T A → P (-2) (rC J' 0) K) (h : (0 ≤ a ∧ a < A.1) ∧ -1 ≤ i → ¬ zq_ap 0 (zk_sem (-1) T A a.toNat) i = -2 → ∀ J', cF J J' → cQ J' T A → P (zq_ap 0 (zk_sem (-1) T A a.toNat) i) J' K) : q_124 xs L (d + 7) a i J K P := by
  have h24 := hQ.2.1.1
  have h1 := hQ.2.2.2.1.1
  refine e_124 ⟨ha, by omega, fun q => ⟨hi, fun q2 => ?_, fun q2 => s_13 (k := 0) (by omega) (by omega) (hb (by omega))⟩, fun q => s_13 (k := 0) (by omega) (by omega) (hb (by omega))⟩
  obtain ⟨k, rfl⟩ : ∃ k : Nat, a = (k : Int) := ⟨a.toNat, by omega⟩
  rw [Int.toNat_natCast] at h hb2
  have g := (zS_gd hQ.1 hQ.2.1 (a := k) (by omega)).1
  have g60 := g.1
  have kk := jz_e62 (i := k) (by omega)
  refine s_of hQ (by omega) (fun J' f _ Q _ l => ⟨kk, fun q3 => s_126 kk l.2 g hi ?_, fun q3 => s_125 kk l.2 g ?_⟩)
  · have b5 := zs_an_r (zk_sem (-1) T A k) i
    refine ⟨by omega, fun q4 => ?_, fun q4 => s_13 (k := 0) (by omega) (by omega) (hb2 (by omega) ?_ J' f Q)⟩
    · have := h (by omega) (by
        rw [zq_ap, if_neg q3, if_neg q4, if_pos rfl]
        omega) J' f Q
      rw [zq_ap, if_neg q3, if_neg q4, if_pos rfl] at this
      exact this
    · rw [zq_ap, if_neg q3, if_pos q4]
  · have b3 := zs_ap_r g _ (Nat.le_refl (zk_sem (-1) T A k).length)
    have := h (by omega) (by rw [zq_ap, if_pos q3]; omega) J' f Q
    rw [zq_ap, if_pos q3] at this
    exact this
theorem c_127 {xs : Nat → Int32} {L d : Nat} {J K : jZ} {P : Int → jZ → jZ → Prop} {T : zT} {A : zA} (hQ : cQ J T A) {a i : Int} (ha : -2147483648 ≤ a ∧ a < 2147483648) (hi : -2147483648 ≤ i ∧ i < 2147483648) (hb : ¬ ((0 ≤ a ∧ a < A.1) ∧ -1 ≤ i) → P (-2) (rC J 0) K) (hb2 : (0 ≤ a ∧ a < A.1) ∧ -1 ≤ i → zq_ap 1 (zk_sem (-1) T A a.toNat) i = -2 → ∀ J', cF J J' → cQ J' T A → P (-2) (rC J' 0) K) (h : (0 ≤ a ∧ a < A.1) ∧ -1 ≤ i → ¬ zq_ap 1 (zk_sem (-1) T A a.toNat) i = -2 → ∀ J', cF J J' → cQ J' T A → P (zq_ap 1 (zk_sem (-1) T A a.toNat) i) J' K) : q_127 xs L (d + 7) a i J K P := by
  have h24 := hQ.2.1.1
  have h1 := hQ.2.2.2.1.1
  refine e_127 ⟨ha, by omega, fun q => ⟨hi, fun q2 => ?_, fun q2 => s_13 (k := 0) (by omega) (by omega) (hb (by omega))⟩, fun q => s_13 (k := 0) (by omega) (by omega) (hb (by omega))⟩
  obtain ⟨k, rfl⟩ : ∃ k : Nat, a = (k : Int) := ⟨a.toNat, by omega⟩
  rw [Int.toNat_natCast] at h hb2
  have g := (zS_gd hQ.1 hQ.2.1 (a := k) (by omega)).1
  have g60 := g.1
  have kk := jz_e62 (i := k) (by omega)
  refine s_of hQ (by omega) (fun J' f _ Q _ l => ⟨kk, fun q3 => s_126 kk l.2 g hi ?_, fun q3 => s_125 kk l.2 g ?_⟩)
  · have b5 := zs_an_r (zk_sem (-1) T A k) i
    have b4 : -1 ≤ zs_an (zk_sem (-1) T A k) i (zk_sem (-1) T A k).length 0 ∧ zs_an (zk_sem (-1) T A k) i (zk_sem (-1) T A k).length 0 < 60 := by omega
    generalize hz : zs_an (zk_sem (-1) T A k) i (zk_sem (-1) T A k).length 0 = z at *
    refine ⟨by omega, fun q4 => s_46 kk l.2 g (by omega) ?_, fun q4 => s_13 (k := 0) (by omega) (by omega) (hb2 (by omega) ?_ J' f Q)⟩
    · have hl : zs_la (zk_sem (-1) T A k) z = zs_l (zk_sem (-1) T A k) z.toNat := by
        unfold zs_la
        rw [if_pos (by omega)]
      have hb := g.2.1 z.toNat (by omega)
      have := h (by omega) (by
        rw [zq_ap, if_neg q3, hz, if_neg q4, if_neg (by omega)]
        omega) J' f Q
      rw [zq_ap, if_neg q3, hz, if_neg q4, if_neg (by omega)] at this
      rw [hl]
      exact this
    · rw [zq_ap, if_neg q3, hz, if_pos q4]
  · have b3 := zs_ap_r g _ (Nat.le_refl (zk_sem (-1) T A k).length)
    have := h (by omega) (by rw [zq_ap, if_pos q3]; omega) J' f Q
    rw [zq_ap, if_pos q3] at this
    exact this
theorem s_251_32 {xs : Nat → Int32} {L d : Nat} {J K : jZ} {P : Int → jZ → jZ → Prop} {l : zL} {j : Nat} {i : Int} (hj : j < 27) (hr : zm_at J j l) (hg : zs_ok l) (hi : -1 ≤ i ∧ i < 2147483648) (hb : zq_ap 0 l i = -2 → P (-2) (rM J 2) K) (h : ¬ zq_ap 0 l i = -2 → P (zq_ap 0 l i) J K) : ∀ (n k : Nat) (u v : Int), k + n = l.length → (u, v) = zs_ap l k → zs_an l i l.length 0 = zs_an l i n k → l_251_32 xs L (d + 8) (j : Int) i u v (k : Int) J K P
  | n, k, u, v, hn, hz, hf => by
    have h60 := hg.1
    have hs := hr.1
    have hz0 := zs_ap_r hg k (by omega)
    have hz1 : (zs_ap l k).1 = u := by rw [← hz]
    have hz2 : (zs_ap l k).2 = v := by rw [← hz]
    refine e_251_32 ⟨by omega, by omega, by simp only [Int.toNat_natCast]; omega, fun q => ⟨by omega, fun q2 => ?_, fun q2 => ?_⟩, fun q => ?_⟩
    · simp only [Int.toNat_natCast] at q
      obtain rfl : n = 0 := by omega
      refine s_170 (k := 2) (by omega) (by omega) (hb ?_)
      rw [zq_ap, if_neg q2, if_pos (show zs_an l i l.length 0 = -1 from hf)]
    · simp only [Int.toNat_natCast] at q
      obtain rfl : k = l.length := by omega
      have e : zq_ap 0 l i = u := by rw [zq_ap, if_pos q2, hz1]
      have := h (by omega)
      rw [e] at this
      exact this
    · simp only [Int.toNat_natCast] at q
      match n, hn, hf with
      | 0, hn, hf => omega
      | n + 1, hn, hf =>
        have hk := zm_b hr hg (show k < l.length by omega)
        rw [zm_idx, hk.1, hk.2.1]
        refine ⟨by omega, by omega, by omega, fun q2 => ?_, fun q2 => ⟨by omega, by omega, fun q3 => ?_, fun q3 => ?_⟩⟩
        · refine s_251_32 hj hr hg hi hb h n (k + 1) u v (by omega) (by unfold zs_ap; rw [if_neg (by omega)]; exact hz) ?_
          rw [hf]
          exact zn_fd_f (by simp; omega)
        · refine s_251_32 hj hr hg hi hb h n (k + 1) (u + 1) _ (by omega) (by unfold zs_ap; rw [if_pos (by omega), hz1]) ?_
          rw [hf]
          exact zn_fd_f (by simp; omega)
        · have e0 : zs_an l i l.length 0 = (k : Int) := by
            rw [hf]
            exact zn_fd_t (by simp; omega)
          have e : zq_ap 0 l i = (k : Int) := by rw [zq_ap, if_neg (by omega), e0, if_neg (by omega), if_pos rfl]
          have := h (by omega)
          rw [e] at this
          exact this
theorem s_252_32 {xs : Nat → Int32} {L d : Nat} {J K : jZ} {P : Int → jZ → jZ → Prop} {l : zL} {j : Nat} {i : Int} (hj : j < 27) (hr : zm_at J j l) (hg : zs_ok l) (hi : -1 ≤ i ∧ i < 2147483648) (hb : zq_ap 1 l i = -2 → P (-2) (rM J 2) K) (h : ¬ zq_ap 1 l i = -2 → P (zq_ap 1 l i) J K) : ∀ (n k : Nat) (u v : Int), k + n = l.length → (u, v) = zs_ap l k → zs_an l i l.length 0 = zs_an l i n k → l_252_32 xs L (d + 8) (j : Int) i u v (k : Int) J K P
  | n, k, u, v, hn, hz, hf => by
    have h60 := hg.1
    have hs := hr.1
    have hz0 := zs_ap_r hg k (by omega)
    have hz1 : (zs_ap l k).1 = u := by rw [← hz]
    have hz2 : (zs_ap l k).2 = v := by rw [← hz]
    refine e_252_32 ⟨by omega, by omega, by simp only [Int.toNat_natCast]; omega, fun q => ⟨by omega, fun q2 => ?_, fun q2 => ?_⟩, fun q => ?_⟩
    · simp only [Int.toNat_natCast] at q
      obtain rfl : n = 0 := by omega
      refine s_170 (k := 2) (by omega) (by omega) (hb ?_)
      rw [zq_ap, if_neg q2, if_pos (show zs_an l i l.length 0 = -1 from hf)]
    · simp only [Int.toNat_natCast] at q
      obtain rfl : k = l.length := by omega
      have e : zq_ap 1 l i = u := by rw [zq_ap, if_pos q2, hz1]
      have := h (by omega)
      rw [e] at this
      exact this
    · simp only [Int.toNat_natCast] at q
      match n, hn, hf with
      | 0, hn, hf => omega
      | n + 1, hn, hf =>
        have hk := zm_b hr hg (show k < l.length by omega)
        rw [zm_idx, hk.1, hk.2.1]
        refine ⟨by omega, by omega, by omega, fun q2 => ?_, fun q2 => ⟨by omega, by omega, fun q3 => ?_, fun q3 => ?_⟩⟩
        · refine s_252_32 hj hr hg hi hb h n (k + 1) u v (by omega) (by unfold zs_ap; rw [if_neg (by omega)]; exact hz) ?_
          rw [hf]
          exact zn_fd_f (by simp; omega)
        · refine s_252_32 hj hr hg hi hb h n (k + 1) (u + 1) _ (by omega) (by unfold zs_ap; rw [if_pos (by omega), hz1]) ?_
          rw [hf]
          exact zn_fd_f (by simp; omega)
        · have e0 : zs_an l i l.length 0 = (k : Int) := by
            rw [hf]
            exact zn_fd_t (by simp; omega)
          have e : zq_ap 1 l i = zs_l l k := by rw [zq_ap, if_neg (by omega), e0, if_neg (by omega), if_neg (by omega), Int.toNat_natCast]
          have := h (by omega)
          rw [e] at this
          exact this
theorem m_251 {xs : Nat → Int32} {L d : Nat} {J K : jZ} {P : Int → jZ → jZ → Prop} {T : zT} {A : zA} (hQ : mQ J T A) {a i : Int} (ha : -2147483648 ≤ a ∧ a < 2147483648) (hi : -2147483648 ≤ i ∧ i < 2147483648) (hb : ¬ ((0 ≤ a ∧ a < A.1) ∧ -1 ≤ i) → P (-2) (rM J 2) K) (hb2 : (0 ≤ a ∧ a < A.1) ∧ -1 ≤ i → zq_ap 0 (zk_sem (-1) T A a.toNat) i = -2 → ∀ J', mF J J' → mQ J' T A → P (-2) (rM J' 2) K) (h : (0 ≤ a ∧ a < A.1) ∧ -1 ≤ i → ¬ zq_ap 0 (zk_sem (-1) T A a.toNat) i = -2 → ∀ J', mF J J' → mQ J' T A → P (zq_ap 0 (zk_sem (-1) T A a.toNat) i) J' K) : q_251 xs L (d + 9) a i J K P := by
  have h24 := hQ.2.1.1
  have h1 := hQ.2.2.2.1.1
  refine e_251 ⟨ha, by omega, fun q => ⟨hi, fun q2 => ?_, fun q2 => s_170 (k := 2) (by omega) (by omega) (hb (by omega))⟩, fun q => s_170 (k := 2) (by omega) (by omega) (hb (by omega))⟩
  obtain ⟨k, rfl⟩ : ∃ k : Nat, a = (k : Int) := ⟨a.toNat, by omega⟩
  rw [Int.toNat_natCast] at h hb2
  exact s_work hQ (fun J' f Q l => s_251_32 (by omega) (l k (by omega)) (zS_gd hQ.1 hQ.2.1 (by omega)).1 (by omega) (fun q3 => hb2 (by omega) q3 J' f Q) (fun q3 => h (by omega) q3 J' f Q) (zk_sem (-1) T A k).length 0 0 (-1) (by omega) rfl rfl)
theorem m_252 {xs : Nat → Int32} {L d : Nat} {J K : jZ} {P : Int → jZ → jZ → Prop} {T : zT} {A : zA} (hQ : mQ J T A) {a i : Int} (ha : -2147483648 ≤ a ∧ a < 2147483648) (hi : -2147483648 ≤ i ∧ i < 2147483648) (hb : ¬ ((0 ≤ a ∧ a < A.1) ∧ -1 ≤ i) → P (-2) (rM J 2) K) (hb2 : (0 ≤ a ∧ a < A.1) ∧ -1 ≤ i → zq_ap 1 (zk_sem (-1) T A a.toNat) i = -2 → ∀ J', mF J J' → mQ J' T A → P (-2) (rM J' 2) K) (h : (0 ≤ a ∧ a < A.1) ∧ -1 ≤ i → ¬ zq_ap 1 (zk_sem (-1) T A a.toNat) i = -2 → ∀ J', mF J J' → mQ J' T A → P (zq_ap 1 (zk_sem (-1) T A a.toNat) i) J' K) : q_252 xs L (d + 9) a i J K P := by
  have h24 := hQ.2.1.1
  have h1 := hQ.2.2.2.1.1
  refine e_252 ⟨ha, by omega, fun q => ⟨hi, fun q2 => ?_, fun q2 => s_170 (k := 2) (by omega) (by omega) (hb (by omega))⟩, fun q => s_170 (k := 2) (by omega) (by omega) (hb (by omega))⟩
  obtain ⟨k, rfl⟩ : ∃ k : Nat, a = (k : Int) := ⟨a.toNat, by omega⟩
  rw [Int.toNat_natCast] at h hb2
  exact s_work hQ (fun J' f Q l => s_252_32 (by omega) (l k (by omega)) (zS_gd hQ.1 hQ.2.1 (by omega)).1 (by omega) (fun q3 => hb2 (by omega) q3 J' f Q) (fun q3 => h (by omega) q3 J' f Q) (zk_sem (-1) T A k).length 0 0 (-1) (by omega) rfl rfl)
