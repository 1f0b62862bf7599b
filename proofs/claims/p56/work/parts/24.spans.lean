/-! More of Spans. -/
def zs_win (l : zL) (a b : Int) : Int := zn (fun k => if a ≤ zs_f l k ∧ zs_l l k ≤ b then 1 else 0) l.length
/-- the first of n places from k on at which c holds; -1 -/
def zn_fd (c : Nat → Bool) : Nat → Nat → Int
  | 0, _ => -1
  | n + 1, k => if c k = true then (k : Int) else zn_fd c n (k + 1)
def zs_t (l : zL) (k : Nat) : Int := 100 * zs_f l k + zs_l l k
theorem zn_fd_t {c : Nat → Bool} {n k : Nat} (h : c k = true) : zn_fd c (n + 1) k = (k : Int) := by
  unfold zn_fd
  rw [if_pos h]
theorem zn_fd_f {c : Nat → Bool} {n k : Nat} (h : c k = false) : zn_fd c (n + 1) k = zn_fd c n (k + 1) := by
  rw [zn_fd, h]
  rfl
def zs_df (l m : zL) (k : Nat) : Bool := decide (¬ zs_t l k = zs_t m k)
def zs_unr (l m : zL) (r : Int) : Int := if r = -1 then (if l.length = m.length then -1 else ((min l.length m.length : Nat) : Int)) else r
/-- where two lists differ first; -1: nowhere -/
def zs_un (l m : zL) : Int := zs_unr l m (zn_fd (zs_df l m) (min l.length m.length) 0)
theorem zn_fd_pos {c : Nat → Bool} : ∀ (n k : Nat), zn_fd c n k = -1 ∨ (k : Int) ≤ zn_fd c n k
  | 0, _ => .inl rfl
  | n + 1, k => by
    unfold zn_fd
    split
    · exact .inr (Int.le_refl _)
    · rcases zn_fd_pos (c := c) n (k + 1) with h | h
      · exact .inl h
      · exact .inr (by omega)
theorem s_139_14 {xs : Nat → Int32} {L d : Nat} {J K : jZ} {P : Int → jZ → jZ → Prop} {a b : Nat} {l m : zL} (ha : jz_kd a = 16) (hb : jz_kd b = 16) (hr : zs_at J a l) (hg : zs_ok l) (hr2 : zs_at J b m) (hg2 : zs_ok m) (q : Int) (hq : q = ((min l.length m.length : Nat) : Int)) : ∀ (n k : Nat), k + n = min l.length m.length → P (zs_unr l m (zn_fd (zs_df l m) n k)) J K → l_139_14 xs L (d + 1) a b q (k : Int) J K P
  | n, k, hn, h => by
    have h60 := hg.1
    have h61 := hg2.1
    have hs := hr.1
    have hs2 := hr2.1
    refine e_139_14 ha hb ⟨by omega, by omega, fun hc => ⟨by omega, by omega, fun hc2 => ?_, fun hc2 => ?_⟩, fun hc => ?_⟩
    · obtain rfl : n = 0 := by omega
      rw [zn_fd, zs_unr, if_pos rfl, if_neg (by omega)] at h
      rw [hq]
      exact h
    · obtain rfl : n = 0 := by omega
      rw [zn_fd, zs_unr, if_pos rfl, if_pos (by omega)] at h
      exact h
    · simp only [Int.toNat_natCast]
      have hk := hr.2 k (by omega)
      have hk2 := hr2.2 k (by omega)
      have hb := hg.2.1 k (by omega)
      have hb2 := hg2.2.1 k (by omega)
      match n, hn, h with
      | 0, hn, h => omega
      | n + 1, hn, h =>
        rw [hk.1, hk.2, hk2.1, hk2.2]
        refine ⟨by omega, by omega, by omega, fun hc2 => ?_, fun hc2 => ?_⟩
        · refine s_139_14 ha ‹jz_kd b = 16› hr hg hr2 hg2 q hq n (k + 1) (by omega) ?_
          rw [zn_fd_f (by unfold zs_df zs_t; simp [hc2])] at h
          exact h
        · rw [zn_fd_t (by unfold zs_df zs_t; simp [hc2]), zs_unr, if_neg (by omega)] at h
          exact h
theorem s_139 {xs : Nat → Int32} {L d : Nat} {J K : jZ} {P : Int → jZ → jZ → Prop} {a b : Nat} {l m : zL} (ha : jz_kd a = 16) (hb : jz_kd b = 16) (hr : zs_at J a l) (hg : zs_ok l) (hr2 : zs_at J b m) (hg2 : zs_ok m) (h : P (zs_un l m) J K) : q_139 xs L (d + 2) a b J K P := by
  have h60 := hg.1
  have h61 := hg2.1
  have hs := hr.1
  have hs2 := hr2.1
  exact e_139 ha hb ⟨by omega, by omega, s_139_14 ha hb hr hg hr2 hg2 _ (by omega) (min l.length m.length) 0 (by omega) h⟩
/-- spans taken one apart from the other: how many of the first k, and the last place taken -/
def zs_ap (l : zL) : Nat → Int × Int
  | 0 => (0, -1)
  | k + 1 => if (zs_ap l k).2 < zs_f l k then ((zs_ap l k).1 + 1, zs_l l k) else zs_ap l k
theorem zs_ap_r {l : zL} (hg : zs_ok l) : ∀ k : Nat, k ≤ l.length → 0 ≤ (zs_ap l k).1 ∧ (zs_ap l k).1 ≤ k ∧ -1 ≤ (zs_ap l k).2 ∧ (zs_ap l k).2 < 60
  | 0, _ => by simp [zs_ap]
  | k + 1, h => by
    have := zs_ap_r hg k (by omega)
    have := hg.2.1 k (by omega)
    unfold zs_ap
    split
    · dsimp only
      omega
    · omega
theorem s_125_6 {xs : Nat → Int32} {L d : Nat} {J K : jZ} {P : Int → jZ → jZ → Prop} {a : Nat} {l : zL} (ha : jz_kd a = 16) (hr : zs_at J a l) (hg : zs_ok l) (h : P (zs_ap l l.length).1 J K) : ∀ (n k : Nat) (u v : Int), k + n = l.length → (u, v) = zs_ap l k → l_125_6 xs L d a u v (k : Int) J K P
  | n, k, u, v, hn, hz => by
    have h60 := hg.1
    have hs := hr.1
    have hz0 := zs_ap_r hg k (by omega)
    have hz1 : (zs_ap l k).1 = u := by rw [← hz]
    have hz2 : (zs_ap l k).2 = v := by rw [← hz]
    refine e_125_6 ha ⟨by omega, by omega, fun hc => ?_, fun hc => ?_⟩
    · obtain rfl : k = l.length := by omega
      rw [← hz1]
      exact h
    · simp only [Int.toNat_natCast]
      have hk := hr.2 k (by omega)
      have hb := hg.2.1 k (by omega)
      match n, hn with
      | 0, hn => omega
      | n + 1, hn =>
        rw [hk.1, hk.2]
        refine ⟨by omega, by omega, by omega, fun hc2 => ?_, fun hc2 => ?_⟩
        · exact s_125_6 ha hr hg h n (k + 1) u v (by omega) (by unfold zs_ap; rw [if_neg (by omega)]; exact hz)
        · exact s_125_6 ha hr hg h n (k + 1) (u + 1) _ (by omega) (by unfold zs_ap; rw [if_pos (by omega), hz1])
theorem s_125 {xs : Nat → Int32} {L d : Nat} {J K : jZ} {P : Int → jZ → jZ → Prop} {a : Nat} {l : zL} (ha : jz_kd a = 16) (hr : zs_at J a l) (hg : zs_ok l) (h : P (zs_ap l l.length).1 J K) : q_125 xs L (d + 1) a J K P :=
  e_125 ha (s_125_6 ha hr hg h l.length 0 0 (-1) (by omega) rfl)
/-- the number of the w-th span taken; -1 -/
def zs_an (l : zL) (w : Int) : Nat → Nat → Int := zn_fd (fun k => decide ((zs_ap l k).2 < zs_f l k ∧ (zs_ap l k).1 = w))
theorem s_126_7 {xs : Nat → Int32} {L d : Nat} {J K : jZ} {P : Int → jZ → jZ → Prop} {a : Nat} {w : Int} {l : zL} (ha : jz_kd a = 16) (hr : zs_at J a l) (hg : zs_ok l) (hw : -2147483648 ≤ w ∧ w < 2147483648) : ∀ (n k : Nat) (u v : Int), k + n = l.length → (u, v) = zs_ap l k → P (zs_an l w n k) J K → l_126_7 xs L d a w u v (k : Int) J K P
  | n, k, u, v, hn, hz, h => by
    have h60 := hg.1
    have hs := hr.1
    have hz0 := zs_ap_r hg k (by omega)
    have hz1 : (zs_ap l k).1 = u := by rw [← hz]
    have hz2 : (zs_ap l k).2 = v := by rw [← hz]
    refine e_126_7 ha ⟨by omega, by omega, fun hc => ?_, fun hc => ?_⟩
    · obtain rfl : n = 0 := by omega
      exact h
    · simp only [Int.toNat_natCast]
      have hk := hr.2 k (by omega)
      have hb := hg.2.1 k (by omega)
      match n, hn, h with
      | 0, hn, h => omega
      | n + 1, hn, h =>
        rw [hk.1, hk.2]
        unfold zs_an zn_fd at h
        refine ⟨by omega, by omega, by omega, fun hc2 => ?_, fun hc2 => ⟨by omega, hw, fun hc3 => ?_, fun hc3 => ?_⟩⟩
        · rw [if_neg (by simp; omega)] at h
          exact s_126_7 ha hr hg hw n (k + 1) u v (by omega) (by unfold zs_ap; rw [if_neg (by omega)]; exact hz) h
        · rw [if_neg (by simp; omega)] at h
          exact s_126_7 ha hr hg hw n (k + 1) (u + 1) _ (by omega) (by unfold zs_ap; rw [if_pos (by omega), hz1]) h
        · rw [if_pos (by simp; omega)] at h
          exact h
theorem s_126 {xs : Nat → Int32} {L d : Nat} {J K : jZ} {P : Int → jZ → jZ → Prop} {a : Nat} {w : Int} {l : zL} (ha : jz_kd a = 16) (hr : zs_at J a l) (hg : zs_ok l) (hw : -2147483648 ≤ w ∧ w < 2147483648) (h : P (zs_an l w l.length 0) J K) : q_126 xs L (d + 1) a w J K P :=
  e_126 ha (s_126_7 ha hr hg hw l.length 0 0 (-1) (by omega) rfl h)
/-- a span among those of a list -/
def zs_in (l : zL) (f e : Int) : Prop := ∃ k, k < l.length ∧ zs_f l k = f ∧ zs_l l k = e
theorem zs_in_mem {l : zL} {f e : Int} : zs_in l f e ↔ (f, e) ∈ l := by
  unfold zs_in zs_f zs_l
  constructor
  · rintro ⟨k, hk, rfl, rfl⟩
    rw [List.getD_eq_getElem?_getD, List.getElem?_eq_getElem hk]
    exact List.getElem_mem hk
  · intro h
    obtain ⟨k, hk, he⟩ := List.getElem_of_mem h
    exact ⟨k, hk, by rw [List.getD_eq_getElem?_getD, List.getElem?_eq_getElem hk, he]; rfl, by rw [List.getD_eq_getElem?_getD, List.getElem?_eq_getElem hk, he]; rfl⟩
noncomputable def zs_com (l m : zL) : Int := zn (fun k => @ite _ (zs_in m (zs_f l k) (zs_l l k)) (Classical.propDecidable _) 1 0) l.length
theorem s_137_7 {xs : Nat → Int32} {L d : Nat} {J K : jZ} {P : Int → jZ → jZ → Prop} {a b : Nat} {l m : zL} (ha : jz_kd a = 16) (hb : jz_kd b = 16) (hr : zs_at J a l) (hg : zs_ok l) (hr2 : zs_at J b m) (hg2 : zs_ok m) (h : P (zs_com l m) J K) : ∀ (n k : Nat) (u j : Int), k + n = l.length → u = zn (fun k => @ite _ (zs_in m (zs_f l k) (zs_l l k)) (Classical.propDecidable _) 1 0) k → 0 ≤ j → j ≤ m.length → (∀ t : Nat, (t : Int) < j → 0 < k → zs_f m t < zs_f l (k - 1)) → (k = 0 → j = 0) → l_137_7 xs L (d + 1) a b u j (k : Int) J K P
  | n, k, u, j, hn, hu, hj0, hj1, hj, hj2 => by
    have h60 := hg.1
    have h61 := hg2.1
    have hs := hr.1
    have hs2 := hr2.1
    refine e_137_7 ha hb ⟨by omega, by omega, fun hc => ?_, fun hc => ?_⟩
    · obtain rfl : k = l.length := by omega
      rw [hu]
      exact h
    · simp only [Int.toNat_natCast]
      have hk := hr.2 k (by omega)
      have hbd := hg.2.1 k (by omega)
      match n, hn with
      | 0, hn => omega
      | n + 1, hn =>
        rw [hk.1]
        refine ⟨by omega, by omega, s_45 hb hr2 hg2 (by omega) ⟨hj0, hj1⟩ (fun r hr' => ?_)⟩
        obtain ⟨r1, r2, r3, r4⟩ := hr'
        rw [hk.1, hk.2]
        have lo : ∀ t : Nat, (t : Int) < r → zs_f m t < zs_f l k := fun t ht => by
          by_cases q : j ≤ (t : Int)
          · exact r3 t q ht
          · by_cases q0 : k = 0
            · have := hj2 q0
              omega
            · have := hj t (by omega) (by omega)
              have := hg.2.2 (k - 1) k (by omega) (by omega)
              omega
        have nx : ∀ u' : Int, u' = zn (fun k => @ite _ (zs_in m (zs_f l k) (zs_l l k)) (Classical.propDecidable _) 1 0) (k + 1) → l_137_7 xs L (d + 1) a b u' r ((k : Int) + 1) J K P := fun u' hu' =>
          s_137_7 ha hb hr hg hr2 hg2 h n (k + 1) u' r (by omega) hu' (by omega) r2 (fun t ht _ => lo t ht) (by omega)
        refine ⟨by omega, by omega, fun hc2 => ?_, fun hc2 => ?_⟩
        · have hm := hr2.2 r.toNat (by omega)
          have hbm := hg2.2.1 r.toNat (by omega)
          rw [hm.1, hm.2]
          have h4 := r4 r.toNat (by omega) (by omega)
          refine ⟨by omega, by omega, by omega, fun hc3 => nx u ?_, fun hc3 => nx (u + 1) ?_⟩
          · rw [zn, ← hu, if_neg]
            · omega
            · rintro ⟨t, ht, e1, e2⟩
              rcases Nat.lt_trichotomy t r.toNat with q | q | q
              · have := lo t (by omega)
                omega
              · subst q
                omega
              · have := hg2.2.2 r.toNat t q ht
                omega
          · rw [zn, ← hu, if_pos]
            exact ⟨r.toNat, by omega, by omega, by omega⟩
        · refine nx u ?_
          rw [zn, ← hu, if_neg]
          · omega
          · rintro ⟨t, ht, e1, e2⟩
            have := lo t (by omega)
            omega
theorem s_137 {xs : Nat → Int32} {L d : Nat} {J K : jZ} {P : Int → jZ → jZ → Prop} {a b : Nat} {l m : zL} (ha : jz_kd a = 16) (hb : jz_kd b = 16) (hr : zs_at J a l) (hg : zs_ok l) (hr2 : zs_at J b m) (hg2 : zs_ok m) (h : P (zs_com l m) J K) : q_137 xs L (d + 2) a b J K P :=
  e_137 ha hb (s_137_7 ha hb hr hg hr2 hg2 h l.length 0 0 0 (by omega) rfl (by omega) (by omega) (fun t ht hk => by omega) (fun _ => rfl))
/-- building a list: one more behind -/
theorem zs_app_lt {l : zL} {s : Int × Int} {k : Nat} (h : k < l.length) : zs_f (l ++ [s]) k = zs_f l k ∧ zs_l (l ++ [s]) k = zs_l l k := by
  unfold zs_f zs_l
  rw [List.getD_eq_getElem?_getD, List.getD_eq_getElem?_getD, List.getElem?_append_left h]
  exact ⟨rfl, rfl⟩
theorem zs_app_eq {l : zL} {s : Int × Int} : zs_f (l ++ [s]) l.length = s.1 ∧ zs_l (l ++ [s]) l.length = s.2 := by
  unfold zs_f zs_l
  rw [List.getD_eq_getElem?_getD, List.getElem?_append_right (Nat.le_refl _)]
  simp
theorem zs_ok_app {l : zL} {f e : Int} (hg : zs_ok l) (hl : l.length < 60) (h1 : 0 ≤ f ∧ f ≤ e ∧ e < 60) (h2 : ∀ k, k < l.length → zs_f l k < f ∧ zs_l l k < e) : zs_ok (l ++ [(f, e)]) := by
  have hlen : (l ++ [(f, e)]).length = l.length + 1 := by simp
  refine ⟨by omega, fun k hk => ?_, fun j k hjk hk => ?_⟩
  · by_cases q : k < l.length
    · rw [(zs_app_lt q).1, (zs_app_lt q).2]
      exact hg.2.1 k q
    · obtain rfl : k = l.length := by omega
      rw [zs_app_eq.1, zs_app_eq.2]
      exact h1
  · rw [(zs_app_lt (l := l) (s := (f, e)) (k := j) (by omega)).1, (zs_app_lt (l := l) (s := (f, e)) (k := j) (by omega)).2]
    by_cases q : k < l.length
    · rw [(zs_app_lt q).1, (zs_app_lt q).2]
      exact hg.2.2 j k hjk q
    · obtain rfl : k = l.length := by omega
      rw [zs_app_eq.1, zs_app_eq.2]
      exact h2 j hjk
theorem zs_at_app {J J' : jZ} {a : Nat} {l : zL} {f e : Int} (h : zs_at J a l) (h0 : J' a 2 = (l.length : Int) + 1) (h1 : ∀ k, k < l.length → J' (a + 1) k = J (a + 1) k ∧ J' (a + 2) k = J (a + 2) k) (h2 : J' (a + 1) l.length = f ∧ J' (a + 2) l.length = e) : zs_at J' a (l ++ [(f, e)]) := by
  have hlen : (l ++ [(f, e)]).length = l.length + 1 := by simp
  refine ⟨by rw [hlen, h0]; rfl, fun k hk => ?_⟩
  by_cases q : k < l.length
  · rw [(zs_app_lt q).1, (zs_app_lt q).2, (h1 k q).1, (h1 k q).2]
    exact h.2 k q
  · obtain rfl : k = l.length := by omega
    rw [zs_app_eq.1, zs_app_eq.2]
    exact h2
/-- what add makes of the cells -/
def zs_add (J : jZ) (a : Nat) (n : Nat) (f e : Int) : jZ := jm_up (jm_up (jm_up J (a + 1) n f) (a + 2) n e) a 2 ((n : Int) + 1)
theorem s_37 {xs : Nat → Int32} {L d : Nat} {J K : jZ} {P : jZ → jZ → Prop} {a : Nat} {f e : Int} {n : Nat} (ha : jz_kd a = 16) (hn : J a 2 = (n : Int)) (hl : n < 60) (h : P (zs_add J a n f e) K) : q_37 xs L (d + 1) a f e J K P := by
  refine e_37 ha ?_
  rw [hn]
  simp only [Int.toNat_natCast]
  exact ⟨by omega, fun hc => by omega, fun hc => ⟨by omega, h⟩⟩
theorem zs_add_at {J : jZ} {a : Nat} {l : zL} {f e : Int} (h : zs_at J a l) : zs_at (zs_add J a l.length f e) a (l ++ [(f, e)]) := by
  unfold zs_add
  refine zs_at_app h zu_self (fun k hk => ⟨?_, ?_⟩) ⟨?_, ?_⟩
  · rw [zu_ne (by omega), zu_ne (by omega), zu_ne (by omega)]
  · rw [zu_ne (by omega), zu_ne (by omega), zu_ne (by omega)]
  · rw [zu_ne (by omega), zu_ne (by omega), zu_self]
  · rw [zu_ne (by omega), zu_self]
theorem zs_add_row {J : jZ} {a b n : Nat} {f e : Int} (h : b < a ∨ a + 2 < b) : zs_add J a n f e b = J b := by
  unfold zs_add
  rw [zu_row (by omega), zu_row (by omega), zu_row (by omega)]
/-- a list taken over -/
def zs_tak (J : jZ) (a b : Nat) : jZ := jm_up (jz_cpy (jz_cpy J (b + 1) 0 (a + 1) 0 60) (b + 2) 0 (a + 2) 0 60) a 2 (J b 2)
theorem zs_tak_at {J : jZ} {a b : Nat} {l : zL} (hab : b + 2 < a ∨ a + 2 < b) (h : zs_at J b l) (hl : l.length ≤ 60) : zs_at (zs_tak J a b) a l := by
  unfold zs_tak
  refine ⟨by rw [zu_self]; exact h.1, fun k hk => ?_⟩
  have := h.2 k hk
  rw [zu_row (by omega), zu_row (by omega), zc_row (by omega), zc_self, zc_self, if_pos (by omega), if_pos (by omega), zc_row (by omega)]
  simpa using this
theorem zs_tak_row {J : jZ} {a b c : Nat} (h : c < a ∨ a + 2 < c) : zs_tak J a b c = J c := by
  unfold zs_tak
  rw [zu_row (by omega), zc_row (by omega), zc_row (by omega)]
