/-! Queries: cover, lengths, apart, pins. -/
def zq_cv (l : zL) : Nat → Int × Int × Int
  | 0 => (0, 0, 0)
  | k + 1 => if 0 < zs_thr l k then ((zq_cv l k).1 + 1, 0, max (zq_cv l k).2.2 0) else ((zq_cv l k).1, (zq_cv l k).2.1 + 1, max (zq_cv l k).2.2 ((zq_cv l k).2.1 + 1))
theorem zq_cv_r (l : zL) : ∀ k : Nat, (0 ≤ (zq_cv l k).1 ∧ (zq_cv l k).1 ≤ k) ∧ (0 ≤ (zq_cv l k).2.1 ∧ (zq_cv l k).2.1 ≤ k) ∧ (0 ≤ (zq_cv l k).2.2 ∧ (zq_cv l k).2.2 ≤ k)
  | 0 => by simp [zq_cv]
  | k + 1 => by
    have := zq_cv_r l k
    unfold zq_cv
    split
    · dsimp only
      omega
    · dsimp only
      omega
def zq_cov (n : Nat) (l : zL) (w : Int) : Int := if w = 0 then (zq_cv l n).1 else if w = 1 then (n : Int) - (zq_cv l n).1 else (zq_cv l n).2.2
-- lengths
def zs_s (l : zL) (k : Nat) : Int := zs_l l k - zs_f l k + 1
def zq_le (w : Int) (l : zL) : Nat → Int
  | 0 => 0
  | k + 1 => if w = 2 then zq_le w l k + zs_s l k else if k = 0 ∨ (w = 0 ∧ zs_s l k < zq_le w l k) ∨ (¬ w = 0 ∧ zq_le w l k < zs_s l k) then zs_s l k else zq_le w l k
theorem zs_s_r {l : zL} (hg : zs_ok l) {k : Nat} (hk : k < l.length) : 1 ≤ zs_s l k ∧ zs_s l k ≤ 60 := by
  have := hg.2.1 k hk
  unfold zs_s
  omega
theorem zq_le_r {l : zL} (hg : zs_ok l) (w : Int) : ∀ k : Nat, k ≤ l.length → 0 ≤ zq_le w l k ∧ zq_le w l k ≤ 60 * k
  | 0, _ => by simp [zq_le]
  | k + 1, h => by
    have := zq_le_r hg w k (by omega)
    have := zs_s_r hg (show k < l.length by omega)
    unfold zq_le
    repeat' split
    all_goals omega
theorem s_123_60 {xs : Nat → Int32} {L d : Nat} {J K : jZ} {P : Int → jZ → jZ → Prop} {l : zL} {a : Nat} {w : Int} (hw : 0 ≤ w ∧ w ≤ 2) (ha : jz_kd a = 16) (hr : zs_at J a l) (hg : zs_ok l) (h : P (zq_le w l l.length) J K) : ∀ (n k : Nat) (u v t : Int), k + n = l.length → (u = if l.length = 0 then 0 else if k = 0 then 60 else zq_le 0 l k) → v = zq_le 1 l k → t = zq_le 2 l k → 0 ≤ u ∧ u ≤ 60 ∧ 0 ≤ v ∧ v ≤ 60 → l_123_60 xs L (d + 6) w a u v t (k : Int) J K P
  | n, k, u, v, t, hn, hu, hv, ht, hb => by
    have h60 := hg.1
    have hs := hr.1
    refine e_123_60 ha ⟨by omega, by omega, fun q => ⟨by omega, fun q2 => ⟨fun q3 => ?_, fun q3 => ?_⟩, fun q2 => ?_⟩, fun q => ?_⟩
    · obtain rfl : k = l.length := by omega
      obtain rfl : w = 2 := by omega
      rw [ht]
      exact h
    · obtain rfl : k = l.length := by omega
      subst q3
      rw [hv]
      exact h
    · obtain rfl : k = l.length := by omega
      subst q2
      by_cases q4 : l.length = 0
      · rw [if_pos q4] at hu
        rw [hu]
        rw [q4] at h
        exact h
      · rw [if_neg q4, if_neg q4] at hu
        rw [hu]
        exact h
    · match n, hn with
      | 0, hn => omega
      | n + 1, hn =>
        rw [Int.toNat_natCast]
        have hk := hr.2 k (by omega)
        have hsr := zs_s_r hg (show k < l.length by omega)
        rw [hk.1, hk.2, show zs_l l k - zs_f l k + 1 = zs_s l k from rfl]
        refine ⟨by omega, by omega, by omega, by omega, s_123_60 hw ha hr hg h n (k + 1) _ _ _ (by omega) ?_ ?_ ?_ (by omega)⟩
        · rw [if_neg (by omega), if_neg (by omega)]
          rw [if_neg (by omega)] at hu
          unfold zq_le
          rw [if_neg (by omega)]
          by_cases q4 : k = 0
          · rw [if_pos q4] at hu
            rw [if_pos (.inl q4)]
            omega
          · rw [if_neg q4] at hu
            rw [← hu]
            by_cases q5 : zs_s l k < u
            · rw [if_pos (.inr (.inl ⟨rfl, q5⟩))]
              omega
            · rw [if_neg (by omega)]
              omega
        · unfold zq_le
          rw [if_neg (by omega), ← hv]
          by_cases q4 : k = 0
          · rw [if_pos (.inl q4)]
            subst q4
            simp only [zq_le] at hv
            omega
          · by_cases q5 : v < zs_s l k
            · rw [if_pos (.inr (.inr ⟨by omega, q5⟩))]
              omega
            · rw [if_neg (by omega)]
              omega
        · unfold zq_le
          rw [if_pos rfl, ← ht]
theorem c_123 {xs : Nat → Int32} {L d : Nat} {J K : jZ} {P : Int → jZ → jZ → Prop} {T : zT} {A : zA} (hQ : cQ J T A) {a w : Int} (ha : -2147483648 ≤ a ∧ a < 2147483648) (hw : -2147483648 ≤ w ∧ w < 2147483648) (hb : ¬ ((0 ≤ a ∧ a < A.1) ∧ (0 ≤ w ∧ w ≤ 2)) → P (-2) (rC J 0) K) (h : (0 ≤ a ∧ a < A.1) ∧ (0 ≤ w ∧ w ≤ 2) → ∀ J', cF J J' → cQ J' T A → P (zq_le w (zk_sem (-1) T A a.toNat) (zk_sem (-1) T A a.toNat).length) J' K) : q_123 xs L (d + 7) a w J K P := by
  have h24 := hQ.2.1.1
  have h1 := hQ.2.2.2.1.1
  have bad : ¬ ((0 ≤ a ∧ a < A.1) ∧ (0 ≤ w ∧ w ≤ 2)) → q_13 xs L (d + 6) (-2) J K (fun r J' K' => P r J' K') := fun q => s_13 (k := 0) (by omega) (by omega) (hb q)
  refine e_123 ⟨ha, by omega, fun q => ⟨hw, fun q2 => bad (by omega), fun q2 => ⟨fun q3 => ?_, fun q3 => bad (by omega)⟩⟩, fun q => bad (by omega)⟩
  obtain ⟨k, rfl⟩ : ∃ k : Nat, a = (k : Int) := ⟨a.toNat, by omega⟩
  rw [Int.toNat_natCast] at h
  have g := (zS_gd hQ.1 hQ.2.1 (a := k) (by omega)).1
  have g60 := g.1
  refine s_of hQ (by omega) (fun J' f _ Q _ l => ⟨jz_e62 (by omega), ?_⟩)
  rw [l.2.1]
  exact ⟨by omega, fun q4 => s_123_60 (by omega) (jz_e62 (by omega)) l.2 g (h (by omega) J' f Q) (zk_sem (-1) T A k).length 0 _ _ _ (by omega) (by rw [if_neg (by omega), if_pos rfl]) rfl rfl (by omega), fun q4 => s_123_60 (by omega) (jz_e62 (by omega)) l.2 g (h (by omega) J' f Q) (zk_sem (-1) T A k).length 0 _ _ _ (by omega) (by rw [if_pos (by omega)]) rfl rfl (by omega)⟩
-- apart, pins: t is 0 for the number, 1 for the last place
def zq_ap (t : Int) (l : zL) (i : Int) : Int := if i = -1 then (zs_ap l l.length).1 else if zs_an l i l.length 0 = -1 then -2 else if t = 0 then zs_an l i l.length 0 else zs_l l (zs_an l i l.length 0).toNat
theorem zn_fd_lt {c : Nat → Bool} : ∀ (n k : Nat), zn_fd c n k < (k : Int) + n
  | 0, k => by
    unfold zn_fd
    omega
  | n + 1, k => by
    have := zn_fd_lt (c := c) n (k + 1)
    unfold zn_fd
    split <;> omega
theorem zs_an_r (l : zL) (i : Int) : -1 ≤ zs_an l i l.length 0 ∧ zs_an l i l.length 0 ≤ l.length ∧ (zs_an l i l.length 0 = -1 ∨ 0 ≤ zs_an l i l.length 0 ∧ zs_an l i l.length 0 < l.length) := by
  unfold zs_an
  have b1 := zn_fd_pos (c := fun k => decide ((zs_ap l k).2 < zs_f l k ∧ (zs_ap l k).1 = i)) l.length 0
  have b2 := zn_fd_lt (c := fun k => decide ((zs_ap l k).2 < zs_f l k ∧ (zs_ap l k).1 = i)) l.length 0
  omega
theorem c_124 {xs : Nat → Int32} {L d : Nat} {J K : jZ} {P : Int → jZ → jZ → Prop} {T : zT} {A : zA} (hQ : cQ J T A) {a i : Int} (ha : -2147483648 ≤ a ∧ a < 2147483648) (hi : -2147483648 ≤ i ∧ i < 2147483648) (hb : ¬ ((0 ≤ a ∧ a < A.1) ∧ -1 ≤ i) → P (-2) (rC J 0) K) (hb2 : (0 ≤ a ∧ a < A.1) ∧ -1 ≤ i → zq_ap 0 (zk_sem (-1) T A a.toNat) i = -2 → ∀ J', cF J J' → cQ J' T A → P (-2) (rC J' 0) K) (h : (0 ≤ a ∧ a < A.1) ∧ -1 ≤ i → ¬ zq_ap 0 (zk_sem (-1) T A a.toNat) i = -2 → ∀ J', cF J J' → cQ J' T A → P (zq_ap 0 (zk_sem (-1) T A a.toNat) i) J' K) : q_124 xs L (d + 7) a i J K P := by
  have h24 := hQ.2.1.1
  have h1 := hQ.2.2.2.1.1
  refine e_124 ⟨ha, by omega, fun q => ⟨hi, fun q2 => ?_, fun q2 => s_13 (k := 0) (by omega) (by omega) (hb (by omega))⟩, fun q => s_13 (k := 0) (by omega) (by omega) (hb (by omega))⟩
  obtain ⟨k, rfl⟩ : ∃ k : Nat, a = (k : Int) := ⟨a.toNat, by omega⟩
  rw [Int.toNat_natCast] at h hb2
  have g := (zS_gd hQ.1 hQ.2.1 (a := k) (by omega)).1
  have g60 := g.1
  have kk := jz_e62 (i := k) (by omega)
  refine s_of hQ (by omega) (fun J' f _ Q _ l => ⟨kk, fun q3 => s_126 kk l.2 g hi ?_, fun q3 => s_125 kk l.2 g ?_⟩)
  · have b5 := zs_an_r (zk_sem (-1) T A k) i
    refine ⟨by omega, fun q4 => ?_, fun q4 => s_13 (k := 0) (by omega) (by omega) (hb2 (by omega) ?_ J' f Q)⟩
    · have := h (by omega) (by
        rw [zq_ap, if_neg q3, if_neg q4, if_pos rfl]
        omega) J' f Q
      rw [zq_ap, if_neg q3, if_neg q4, if_pos rfl] at this
      exact this
    · rw [zq_ap, if_neg q3, if_pos q4]
  · have b3 := zs_ap_r g _ (Nat.le_refl (zk_sem (-1) T A k).length)
    have := h (by omega) (by rw [zq_ap, if_pos q3]; omega) J' f Q
    rw [zq_ap, if_pos q3] at this
    exact this
theorem c_127 {xs : Nat → Int32} {L d : Nat} {J K : jZ} {P : Int → jZ → jZ → Prop} {T : zT} {A : zA} (hQ : cQ J T A) {a i : Int} (ha : -2147483648 ≤ a ∧ a < 2147483648) (hi : -2147483648 ≤ i ∧ i < 2147483648) (hb : ¬ ((0 ≤ a ∧ a < A.1) ∧ -1 ≤ i) → P (-2) (rC J 0) K) (hb2 : (0 ≤ a ∧ a < A.1) ∧ -1 ≤ i → zq_ap 1 (zk_sem (-1) T A a.toNat) i = -2 → ∀ J', cF J J' → cQ J' T A → P (-2) (rC J' 0) K) (h : (0 ≤ a ∧ a < A.1) ∧ -1 ≤ i → ¬ zq_ap 1 (zk_sem (-1) T A a.toNat) i = -2 → ∀ J', cF J J' → cQ J' T A → P (zq_ap 1 (zk_sem (-1) T A a.toNat) i) J' K) : q_127 xs L (d + 7) a i J K P := by
  have h24 := hQ.2.1.1
  have h1 := hQ.2.2.2.1.1
  refine e_127 ⟨ha, by omega, fun q => ⟨hi, fun q2 => ?_, fun q2 => s_13 (k := 0) (by omega) (by omega) (hb (by omega))⟩, fun q => s_13 (k := 0) (by omega) (by omega) (hb (by omega))⟩
  obtain ⟨k, rfl⟩ : ∃ k : Nat, a = (k : Int) := ⟨a.toNat, by omega⟩
  rw [Int.toNat_natCast] at h hb2
  have g := (zS_gd hQ.1 hQ.2.1 (a := k) (by omega)).1
  have g60 := g.1
  have kk := jz_e62 (i := k) (by omega)
  refine s_of hQ (by omega) (fun J' f _ Q _ l => ⟨kk, fun q3 => s_126 kk l.2 g hi ?_, fun q3 => s_125 kk l.2 g ?_⟩)
  · have b5 := zs_an_r (zk_sem (-1) T A k) i
    have b4 : -1 ≤ zs_an (zk_sem (-1) T A k) i (zk_sem (-1) T A k).length 0 ∧ zs_an (zk_sem (-1) T A k) i (zk_sem (-1) T A k).length 0 < 60 := by omega
    generalize hz : zs_an (zk_sem (-1) T A k) i (zk_sem (-1) T A k).length 0 = z at *
    refine ⟨by omega, fun q4 => s_46 kk l.2 g (by omega) ?_, fun q4 => s_13 (k := 0) (by omega) (by omega) (hb2 (by omega) ?_ J' f Q)⟩
    · have hl : zs_la (zk_sem (-1) T A k) z = zs_l (zk_sem (-1) T A k) z.toNat := by
        unfold zs_la
        rw [if_pos (by omega)]
      have hb := g.2.1 z.toNat (by omega)
      have := h (by omega) (by
        rw [zq_ap, if_neg q3, hz, if_neg q4, if_neg (by omega)]
        omega) J' f Q
      rw [zq_ap, if_neg q3, hz, if_neg q4, if_neg (by omega)] at this
      rw [hl]
      exact this
    · rw [zq_ap, if_neg q3, hz, if_pos q4]
  · have b3 := zs_ap_r g _ (Nat.le_refl (zk_sem (-1) T A k).length)
    have := h (by omega) (by rw [zq_ap, if_pos q3]; omega) J' f Q
    rw [zq_ap, if_pos q3] at this
    exact this