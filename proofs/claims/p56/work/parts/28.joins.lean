/-! Lists: the class's ways to the same least spans. -/
theorem jz_k16 : jz_chk 16 (fun a => a == 63 || (decide (68 ≤ a) && decide (a ≤ 140))) = true := by decide +kernel
theorem zk_16 {a : Nat} (h : jz_kd a = 16) : a = 63 ∨ (68 ≤ a ∧ a ≤ 140) := by
  have := jz_chk_use jz_k16 (by decide) h
  simpa using this
theorem zs_at_67 {J J' : jZ} {a : Nat} {l : zL} (ha : jz_kd a = 16) (h : zs_at J a l) (hf : ∀ b, b ≠ 67 → J' b = J b) : zs_at J' a l := by
  have := zk_16 ha
  exact ⟨by rw [hf a (by omega)]; exact h.1, fun k hk => by rw [hf (a + 1) (by omega), hf (a + 2) (by omega)]; exact h.2 k hk⟩
/-- v is the last of the first span whose first isn't less than f; 60: there is none -/
def zs_nxt (l : zL) (f v : Int) : Prop := (∃ k, k < l.length ∧ f ≤ zs_f l k ∧ zs_l l k = v ∧ ∀ j, j < k → zs_f l j < f) ∨ (v = 60 ∧ ∀ k, k < l.length → zs_f l k < f)
theorem zs_nxt_u {l : zL} {f v w : Int} (h : zs_nxt l f v) (h2 : zs_nxt l f w) : v = w := by
  rcases h with ⟨k, a, b, c, e⟩ | ⟨a, b⟩
  · rcases h2 with ⟨k', a', b', c', e'⟩ | ⟨a', b'⟩
    · have : k = k' := by
        by_cases q : k < k'
        · have := e' k q
          omega
        · by_cases q2 : k' < k
          · have := e k' q2
            omega
          · omega
      subst this
      omega
    · have := b' k a
      omega
  · rcases h2 with ⟨k', a', b', c', e'⟩ | ⟨a', b'⟩
    · have := b k' a'
      omega
    · omega
theorem zs_nxt_r {l : zL} {f v : Int} (hg : zs_ok l) (h : zs_nxt l f v) : 0 ≤ v ∧ v ≤ 60 ∧ (v < 60 → f ≤ v) := by
  rcases h with ⟨k, a, b, c, e⟩ | ⟨a, b⟩
  · have := hg.2.1 k a
    omega
  · omega
theorem zs_nxt_on {l : zL} {i f r : Int} (hi : ∀ k : Nat, (k : Int) < i → zs_f l k < f) (hr0 : 0 ≤ r) (h : zs_on l i f r) : zs_nxt l f (zs_la l r) ∧ ∀ k : Nat, (k : Int) < r → zs_f l k < f := by
  obtain ⟨a, b, c, e⟩ := h
  have lo : ∀ k : Nat, (k : Int) < r → zs_f l k < f := fun k hk => by
    by_cases q : (k : Int) < i
    · exact hi k q
    · exact c k (by omega) hk
  refine ⟨?_, lo⟩
  unfold zs_la
  split
  · exact .inl ⟨r.toNat, by omega, e r.toNat (by omega) (by omega), rfl, fun j hj => lo j (by omega)⟩
  · exact .inr ⟨rfl, fun k hk => lo k (by omega)⟩
def zg_3 (k a b c : Int) : Int := if k = 1 then min a (min b c) else if k = 3 then max a (max b c) else a + b + c - min a (min b c) - max a (max b c)
theorem s_48 {xs : Nat → Int32} {L d : Nat} {J K : jZ} {P : Int → jZ → jZ → Prop} {k a b c : Int} (hk : -2147483648 ≤ k ∧ k < 2147483648) (ha : 0 ≤ a ∧ a ≤ 60) (hb : 0 ≤ b ∧ b ≤ 60) (hc : 0 ≤ c ∧ c ≤ 60) (h : P (zg_3 k a b c) J K) : q_48 xs L (d + 1) k a b c J K P := by
  unfold zg_3 at h
  refine e_48 ⟨by omega, by omega, by omega, by omega, by omega, hk, fun q => ⟨fun q2 => ?_, fun q2 => ?_⟩, fun q => ?_⟩
  · rw [if_neg q, if_neg q2] at h
    exact h
  · rw [if_neg q, if_pos q2] at h
    exact h
  · rw [if_pos q] at h
    exact h
/-- what gather offers of firsts below n -/
def zg_S (k : Int) (l m o : zL) (n : Nat) (f e : Int) : Prop := 0 ≤ f ∧ f < n ∧ e < 60 ∧ ∃ a b c, zs_nxt l f a ∧ zs_nxt m f b ∧ zs_nxt o f c ∧ e = zg_3 k a b c
theorem s_44_12 {xs : Nat → Int32} {L d : Nat} {K : jZ} {P : jZ → jZ → Prop} {kk : Int} {a b c : Nat} {l m o : zL} {N : Nat} (hk : 1 ≤ kk ∧ kk ≤ 3) (ha : jz_kd a = 16) (hb : jz_kd b = 16) (hc : jz_kd c = 16) (hg : zs_ok l) (hg2 : zs_ok m) (hg3 : zs_ok o) (hN : N ≤ 60) : ∀ (n f : Nat) (i j t : Int) (J : jZ), f + n = N → J 1 3 = (N : Int) → zs_at J a l → zs_at J b m → zs_at J c o → (0 ≤ i ∧ i ≤ l.length ∧ ∀ k : Nat, (k : Int) < i → zs_f l k < f) → (0 ≤ j ∧ j ≤ m.length ∧ ∀ k : Nat, (k : Int) < j → zs_f m k < f) → (0 ≤ t ∧ t ≤ o.length ∧ ∀ k : Nat, (k : Int) < t → zs_f o k < f) → zl_lo 60 (zg_S kk l m o f) (J 67) → (∀ J', (∀ b, b ≠ 67 → J' b = J b) → zl_lo 60 (zg_S kk l m o N) (J' 67) → P J' K) → l_44_12 xs L (d + 2) kk a b c i j t (f : Int) J K P
  | n, f, i, j, t, J, hn, hp, hr, hr2, hr3, hi, hj, ht, hS, h => by
    refine e_44_12 ha hb hc ⟨by omega, by omega, fun q => ?_, fun q => ?_⟩
    · obtain rfl : f = N := by omega
      exact h J (fun _ _ => rfl) hS
    · match n, hn with
      | 0, hn => omega
      | n + 1, hn =>
        refine s_45 ha hr hg (by omega) ⟨hi.1, hi.2.1⟩ (fun r1 o1 => s_45 hb hr2 hg2 (by omega) ⟨hj.1, hj.2.1⟩ (fun r2 o2 => s_45 hc hr3 hg3 (by omega) ⟨ht.1, ht.2.1⟩ (fun r3 o3 => ?_)))
        have p1 := o1.1
        have p2 := o2.1
        have p3 := o3.1
        have m1 := o1.2.1
        have m2 := o2.2.1
        have m3 := o3.2.1
        have z1 := hg.1
        have z2 := hg2.1
        have z3 := hg3.1
        obtain ⟨x1, y1⟩ := zs_nxt_on hi.2.2 (by omega) o1
        obtain ⟨x2, y2⟩ := zs_nxt_on hj.2.2 (by omega) o2
        obtain ⟨x3, y3⟩ := zs_nxt_on ht.2.2 (by omega) o3
        have w1 := zs_nxt_r hg x1
        have w2 := zs_nxt_r hg2 x2
        have w3 := zs_nxt_r hg3 x3
        have w4 : 0 ≤ zg_3 kk (zs_la l r1) (zs_la m r2) (zs_la o r3) ∧ zg_3 kk (zs_la l r1) (zs_la m r2) (zs_la o r3) ≤ 60 := by
          unfold zg_3
          repeat' split
          all_goals omega
        refine s_46 ha hr hg (by omega) (s_46 hb hr2 hg2 (by omega) (s_46 hc hr3 hg3 (by omega) (s_48 (by omega) ⟨w1.1, w1.2.1⟩ ⟨w2.1, w2.2.1⟩ ⟨w3.1, w3.2.1⟩ (s_51 (T := zg_S kk l m o (f + 1)) hS (by omega) w4 (fun x y => ?_) (fun J' f1 S1 => ?_)))))
        · unfold zg_S
          constructor
          · rintro ⟨h1, h2, h3, a', b', c', n1, n2, n3, he⟩
            by_cases q2 : x = f
            · subst q2
              have e1 := zs_nxt_u x1 n1
              have e2 := zs_nxt_u x2 n2
              have e3 := zs_nxt_u x3 n3
              subst e1 e2 e3
              exact .inr ⟨rfl, he, by omega⟩
            · exact .inl ⟨h1, by omega, h3, a', b', c', n1, n2, n3, he⟩
          · rintro (⟨h1, h2, h3⟩ | ⟨rfl, rfl, h3⟩)
            · exact ⟨h1, by omega, h3⟩
            · exact ⟨by omega, by omega, h3, _, _, _, x1, x2, x3, rfl⟩
        · exact s_44_12 hk ha hb hc hg hg2 hg3 hN n (f + 1) r1 r2 r3 J' (by omega) (by rw [f1 1 (by omega)]; exact hp) (zs_at_67 ha hr f1) (zs_at_67 hb hr2 f1) (zs_at_67 hc hr3 f1) ⟨by omega, m1, fun k q3 => by have := y1 k q3; omega⟩ ⟨by omega, m2, fun k q3 => by have := y2 k q3; omega⟩ ⟨by omega, m3, fun k q3 => by have := y3 k q3; omega⟩ S1 (fun J'' q1 q2 => h J'' (fun b hb => by rw [q1 b hb, f1 b hb]) q2)
theorem s_44 {xs : Nat → Int32} {L d : Nat} {J K : jZ} {P : jZ → jZ → Prop} {kk : Int} {a b c : Nat} {l m o : zL} {N : Nat} (hk : 1 ≤ kk ∧ kk ≤ 3) (ha : jz_kd a = 16) (hb : jz_kd b = 16) (hc : jz_kd c = 16) (hg : zs_ok l) (hg2 : zs_ok m) (hg3 : zs_ok o) (hN : N ≤ 60) (hp : J 1 3 = (N : Int)) (hr : zs_at J a l) (hr2 : zs_at J b m) (hr3 : zs_at J c o) (hS : zl_lo 60 (fun _ _ => False) (J 67)) (h : ∀ J', (∀ b, b ≠ 67 → J' b = J b) → zl_lo 60 (zg_S kk l m o N) (J' 67) → P J' K) : q_44 xs L (d + 3) kk a b c J K P :=
  e_44 ha hb hc (s_44_12 hk ha hb hc hg hg2 hg3 hN N 0 0 0 0 J (by omega) hp hr hr2 hr3 ⟨by omega, by omega, fun k hk => by omega⟩ ⟨by omega, by omega, fun k hk => by omega⟩ ⟨by omega, by omega, fun k hk => by omega⟩ (zl_lo_iff (fun f e => ⟨False.elim, fun h => by unfold zg_S at h; omega⟩) hS) h)
/-- what follow offers of the first n spans of l -/
def zf_S (l m : zL) (n : Nat) (f e : Int) : Prop := e < 60 ∧ ∃ p, p < n ∧ p < l.length ∧ f = zs_f l p ∧ zs_nxt m (zs_l l p + 1) e
theorem s_55_5 {xs : Nat → Int32} {L d : Nat} {K : jZ} {P : jZ → jZ → Prop} {a b : Nat} {l m : zL} (ha : jz_kd a = 16) (hb : jz_kd b = 16) (hg : zs_ok l) (hg2 : zs_ok m) : ∀ (n i : Nat) (j : Int) (J : jZ), i + n = l.length → zs_at J a l → zs_at J b m → (0 ≤ j ∧ j ≤ m.length ∧ ∀ k : Nat, (k : Int) < j → 0 < i ∧ zs_f m k < zs_l l (i - 1) + 1) → zl_lo 60 (zf_S l m i) (J 67) → (∀ J', (∀ b, b ≠ 67 → J' b = J b) → zl_lo 60 (zf_S l m l.length) (J' 67) → P J' K) → l_55_5 xs L (d + 2) a b j (i : Int) J K P
  | n, i, j, J, hn, hr, hr2, hj, hS, h => by
    have h60 := hg.1
    have h61 := hg2.1
    have hs := hr.1
    refine e_55_5 ha hb ⟨by omega, by omega, fun q => ?_, fun q => ?_⟩
    · obtain rfl : i = l.length := by omega
      exact h J (fun _ _ => rfl) hS
    · match n, hn with
      | 0, hn => omega
      | n + 1, hn =>
        simp only [Int.toNat_natCast]
        have hi : i < l.length := by omega
        have hk := hr.2 i hi
        have hbd := hg.2.1 i hi
        rw [hk.2]
        refine ⟨by omega, by omega, s_45 hb hr2 hg2 (by omega) ⟨hj.1, hj.2.1⟩ (fun r o1 => ?_)⟩
        have p1 := o1.1
        have m1 := o1.2.1
        obtain ⟨x1, y1⟩ := zs_nxt_on (fun k q2 => by
          have h5 := hj.2.2 k q2
          have := hg.2.2 (i - 1) i (by omega) hi
          omega) (by omega) o1
        have w1 := zs_nxt_r hg2 x1
        rw [hk.1]
        refine s_46 hb hr2 hg2 (by omega) (s_51 (T := zf_S l m (i + 1)) hS (by omega) ⟨w1.1, w1.2.1⟩ (fun x y => ?_) (fun J' f1 S1 => ?_))
        · unfold zf_S
          constructor
          · rintro ⟨h1, p, h2, h3, rfl, h5⟩
            by_cases q2 : p = i
            · subst q2
              have := zs_nxt_u x1 h5
              exact .inr ⟨rfl, this.symm, by omega⟩
            · exact .inl ⟨h1, p, by omega, h3, rfl, h5⟩
          · rintro (⟨h1, p, h2, h3⟩ | ⟨rfl, rfl, h3⟩)
            · exact ⟨h1, p, by omega, h3⟩
            · exact ⟨h3, i, by omega, hi, rfl, x1⟩
        · exact s_55_5 ha hb hg hg2 n (i + 1) r J' (by omega) (zs_at_67 ha hr f1) (zs_at_67 hb hr2 f1) ⟨by omega, m1, fun k q3 => ⟨by omega, by simpa using y1 k q3⟩⟩ S1 (fun J'' q1 q2 => h J'' (fun b hb => by rw [q1 b hb, f1 b hb]) q2)
theorem s_55 {xs : Nat → Int32} {L d : Nat} {J K : jZ} {P : jZ → jZ → Prop} {a b : Nat} {l m : zL} (ha : jz_kd a = 16) (hb : jz_kd b = 16) (hg : zs_ok l) (hg2 : zs_ok m) (hr : zs_at J a l) (hr2 : zs_at J b m) (hS : zl_lo 60 (fun _ _ => False) (J 67)) (h : ∀ J', (∀ b, b ≠ 67 → J' b = J b) → zl_lo 60 (zf_S l m l.length) (J' 67) → P J' K) : q_55 xs L (d + 3) a b J K P :=
  e_55 ha hb (s_55_5 ha hb hg hg2 l.length 0 0 J (by omega) hr hr2 ⟨by omega, by omega, fun k hk => by omega⟩ (zl_lo_iff (fun f e => ⟨False.elim, fun ⟨_, p, h, _⟩ => by omega⟩) hS) h)
/-- those of the first k spans of which c holds -/
noncomputable def zs_fil (l : zL) (c : Nat → Prop) : Nat → zL
  | 0 => []
  | k + 1 => @ite _ (c k) (Classical.propDecidable _) (zs_fil l c k ++ [(zs_f l k, zs_l l k)]) (zs_fil l c k)
theorem zs_fil_in {l : zL} {c : Nat → Prop} : ∀ (k : Nat) (x y : Int), zs_in (zs_fil l c k) x y ↔ ∃ p, p < k ∧ c p ∧ x = zs_f l p ∧ y = zs_l l p
  | 0, x, y => ⟨fun ⟨j, hj, _⟩ => by simp [zs_fil] at hj, fun ⟨p, hp, _⟩ => by omega⟩
  | k + 1, x, y => by
    unfold zs_fil
    have ih := zs_fil_in (l := l) (c := c) k x y
    split
    · rename_i hc
      rw [zs_in_app, ih]
      constructor
      · rintro (⟨p, a, b⟩ | ⟨rfl, rfl⟩)
        · exact ⟨p, by omega, b⟩
        · exact ⟨k, by omega, hc, rfl, rfl⟩
      · rintro ⟨p, a, b, rfl, rfl⟩
        by_cases q : p = k
        · subst q
          exact .inr ⟨rfl, rfl⟩
        · exact .inl ⟨p, by omega, b, rfl, rfl⟩
    · rename_i hc
      rw [ih]
      constructor
      · rintro ⟨p, a, b⟩
        exact ⟨p, by omega, b⟩
      · rintro ⟨p, a, b, e⟩
        by_cases q : p = k
        · subst q
          exact absurd b hc
        · exact ⟨p, by omega, b, e⟩
theorem zs_fil_ok {l : zL} {c : Nat → Prop} (hg : zs_ok l) : ∀ k : Nat, k ≤ l.length → zs_ok (zs_fil l c k) ∧ (zs_fil l c k).length ≤ k
  | 0, _ => by
    unfold zs_fil
    exact ⟨⟨by simp, fun k hk => by simp at hk, fun j k _ hk => by simp at hk⟩, by simp⟩
  | k + 1, hk => by
    have ih := zs_fil_ok (c := c) hg k (by omega)
    have h60 := hg.1
    unfold zs_fil
    split
    · refine ⟨zs_ok_app ih.1 (by omega) (hg.2.1 k (by omega)) (fun j hj => ?_), by simp; omega⟩
      obtain ⟨p, a, -, e1, e2⟩ := (zs_fil_in (l := l) (c := c) k _ _).mp ⟨j, hj, rfl, rfl⟩
      have := hg.2.2 p k a (by omega)
      omega
    · exact ⟨ih.1, by omega⟩
theorem zs_fil_t {l : zL} {c : Nat → Prop} {k : Nat} (h : c k) : zs_fil l c (k + 1) = zs_fil l c k ++ [(zs_f l k, zs_l l k)] := by
  rw [zs_fil, if_pos h]
theorem zs_fil_f {l : zL} {c : Nat → Prop} {k : Nat} (h : ¬ c k) : zs_fil l c (k + 1) = zs_fil l c k := by
  rw [zs_fil, if_neg h]
/-- the test of a kind, by whether it looks outside (o) and keeps what meets (w) -/
def zo_ts2 (o w : Int) (l m : zL) (i : Nat) : Prop := zo_met (o = 0) l m i ↔ w = 1
theorem s_54_54 {xs : Nat → Int32} {L d : Nat} {K : jZ} {P : jZ → jZ → Prop} {a b c : Nat} {l m : zL} {o w : Int} (ho : o = 0 ∨ o = 1) (hw : w = 0 ∨ w = 1) (ha : jz_kd a = 16) (hb : jz_kd b = 16) (hc : jz_kd c = 16) (hbc : b + 2 < c ∨ c + 2 < b) (hg : zs_ok l) (hg2 : zs_ok m) : ∀ (n i : Nat) (j : Int) (J : jZ), i + n = l.length → (∀ k, i ≤ k → k < l.length → J (a + 1) k = zs_f l k ∧ J (a + 2) k = zs_l l k) → zs_at J b m → zs_at J c (zs_fil l (zo_ts2 o w l m) i) → (a = c ∨ a + 2 < c ∨ c + 2 < a) → (0 ≤ j ∧ j ≤ m.length ∧ ∀ k : Nat, (k : Int) < j → 0 < i ∧ zs_f m k < zs_f l (i - 1) + o) → (∀ J', (∀ b, b < c ∨ c + 2 < b → J' b = J b) → zs_at J' c (zs_fil l (zo_ts2 o w l m) l.length) → P J' K) → l_54_54 xs L (d + 2) a b c o w (l.length : Int) j (i : Int) J K P
  | n, i, j, J, hn, hr, hr2, hr3, hac, hj, h => by
    have h60 := hg.1
    have h61 := hg2.1
    refine e_54_54 ha hb hc ⟨by omega, by omega, fun q => ?_, fun q => ?_⟩
    · obtain rfl : i = l.length := by omega
      exact h J (fun _ _ => rfl) hr3
    · match n, hn with
      | 0, hn => omega
      | n + 1, hn =>
        simp only [Int.toNat_natCast]
        have hi : i < l.length := by omega
        have hk := hr i (by omega) hi
        have hbd := hg.2.1 i hi
        rw [hk.1, hk.2]
        have ok := zs_fil_ok (c := zo_ts2 o w l m) hg i (by omega)
        have mono : ∀ k : Nat, (k : Int) < j → zs_f m k < zs_f l i + o := fun k q2 => by
          have h5 := hj.2.2 k q2
          have := hg.2.2 (i - 1) i (by omega) hi
          omega
        -- what follows, once it is known where the search stands and whether the span meets one
        have fin : ∀ r : Int, zs_on m j (zs_f l i + o) r → ∀ t : Int, (t = 0 ∨ t = 1) → (t = 1 ↔ zo_met (o = 0) l m i) → l_54_152 xs L (d + 2) a b c o w (l.length : Int) r (i : Int) (zs_f l i) (zs_l l i) t J K P := fun r o1 t ht ht2 => by
          have y1 := (zs_nxt_on mono (by have := o1.1; omega) o1).2
          have rng : 0 ≤ r ∧ r ≤ m.length ∧ ∀ k : Nat, (k : Int) < r → 0 < i + 1 ∧ zs_f m k < zs_f l (i + 1 - 1) + o := ⟨by have := o1.1; omega, o1.2.1, fun k q3 => ⟨by omega, by simpa using y1 k q3⟩⟩
          have key : zo_ts2 o w l m i ↔ (t = 1 ↔ w = 1) := by
            unfold zo_ts2
            rw [← ht2]
          refine e_54_152 ha hb hc ⟨by omega, by omega, fun q2 => ?_, fun q2 => ?_⟩
          · refine e_54_168 ha hb hc (s_54_54 ho hw ha hb hc hbc hg hg2 n (i + 1) r J (by omega) (fun k h1 h2 => hr k (by omega) h2) hr2 ?_ hac rng h)
            rw [zs_fil_f (fun q3 => by have := key.mp q3; omega)]
            exact hr3
          · refine s_37 hc hr3.1 (by omega) (e_54_168 ha hb hc (s_54_54 ho hw ha hb hc hbc hg hg2 n (i + 1) r _ (by omega) (fun k h1 h2 => ?_) ?_ ?_ hac rng (fun J' f1 => h J' (fun b hb => by rw [f1 b hb, zs_add_row hb]))))
            · rcases hac with rfl | hac
              · unfold zs_add
                rw [zu_ne (by omega), zu_ne (by omega), zu_ne (by omega), zu_ne (by omega), zu_ne (by omega), zu_ne (by omega)]
                exact hr k (by omega) h2
              · rw [zs_add_row (by omega), zs_add_row (by omega)]
                exact hr k (by omega) h2
            · exact ⟨by rw [zs_add_row (by omega)]; exact hr2.1, fun k hk => by rw [zs_add_row (by omega), zs_add_row (by omega)]; exact hr2.2 k hk⟩
            · rw [zs_fil_t (key.mpr (by omega))]
              exact zs_add_at hr3
        refine ⟨by omega, by omega, fun q2 => ⟨by omega, s_45 hb hr2 hg2 (by omega) ⟨hj.1, hj.2.1⟩ (fun r o1 => ?_)⟩, fun q2 => ⟨by omega, s_45 hb hr2 hg2 (by omega) ⟨hj.1, hj.2.1⟩ (fun r o1 => ?_)⟩⟩
        · subst q2
          have p1 := o1.1
          have m1 := o1.2.1
          obtain ⟨x1, y1⟩ := zs_nxt_on (fun k q3 => by have := mono k q3; omega) (by omega) o1
          have w1 := zs_nxt_r hg2 x1
          have o1' : zs_on m j (zs_f l i + 0) r := by rw [Int.add_zero]; exact o1
          refine s_46 hb hr2 hg2 (by omega) ⟨by omega, by omega, fun q3 => fin r o1' 0 (.inl rfl) ⟨fun q4 => by omega, ?_⟩, fun q3 => fin r o1' 1 (.inr rfl) ⟨fun _ => ?_, fun _ => rfl⟩⟩
          · rintro ⟨k, hk1, hk2⟩
            rcases x1 with ⟨k', a1, a2, a3, a4⟩ | ⟨a1, a2⟩
            · have : k' ≤ k := by
                by_cases q5 : k' ≤ k
                · exact q5
                · have := a4 k (by omega)
                  omega
              have := zs_mono hg2 this hk1
              omega
            · have := a2 k hk1
              omega
          · rcases x1 with ⟨k', a1, a2, a3, a4⟩ | ⟨a1, a2⟩
            · exact ⟨k', a1, by omega⟩
            · omega
        · obtain rfl : o = 1 := by omega
          have p1 := o1.1
          have m1 := o1.2.1
          obtain ⟨x1, y1⟩ := zs_nxt_on mono (by omega) o1
          obtain ⟨c1, c2, c3, c4⟩ := o1
          have none : (∀ k, k < m.length → (k : Int) < r → zs_l m k < zs_l l i) → ¬ zo_met ((1 : Int) = 0) l m i := fun q5 => by
            rintro ⟨k, hk1, hk2⟩
            by_cases q6 : (k : Int) < r
            · have := q5 k hk1 q6
              omega
            · have := c4 r.toNat (by omega) (by omega)
              have := zs_mono hg2 (show r.toNat ≤ k by omega) hk1
              omega
          refine ⟨by omega, fun q3 => e_54_130 ha hb hc (fin r ⟨c1, c2, c3, c4⟩ 0 (.inl rfl) ⟨fun q4 => by omega, fun q4 => absurd q4 (none (fun k h1 h2 => by omega))⟩), fun q3 => s_46 hb hr2 hg2 (by omega) ?_⟩
          have hla : zs_la m (r - 1) = zs_l m (r - 1).toNat := by
            unfold zs_la
            rw [if_pos (by omega)]
          have hlb := hg2.2.1 (r - 1).toNat (by omega)
          rw [hla]
          refine ⟨by omega, by omega, fun q4 => e_54_130 ha hb hc (fin r ⟨c1, c2, c3, c4⟩ 0 (.inl rfl) ⟨fun q5 => by omega, fun q5 => absurd q5 (none (fun k h1 h2 => ?_))⟩), fun q4 => fin r ⟨c1, c2, c3, c4⟩ 1 (.inr rfl) ⟨fun _ => ⟨(r - 1).toNat, by omega, ?_⟩, fun _ => rfl⟩⟩
          · have := zs_mono hg2 (show k ≤ (r - 1).toNat by omega) (by omega)
            omega
          · have := y1 (r - 1).toNat (by omega)
            omega
theorem zo_ts2_eq {k o w : Int} {l m : zL} {i : Nat} (ho : o = 1 ∧ (k = 5 ∨ k = 6) ∨ o = 0 ∧ (k = 7 ∨ k = 8)) (hw : w = 1 ∧ (k = 5 ∨ k = 7) ∨ w = 0 ∧ (k = 6 ∨ k = 8)) : zo_ts2 o w l m i ↔ zo_tst k l m i := by
  unfold zo_ts2 zo_tst
  rw [show (o = 0) = (k = 7 ∨ k = 8) from propext (by omega)]
  exact iff_congr Iff.rfl (by omega)
