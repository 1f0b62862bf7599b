/-! The reference's lists of all asks. -/
def mT_at (J : jZ) (T : zT) : Prop := J 167 9 = (T.1 : Int) ∧ (∀ k, k < T.1 → J 184 k = T.2.1 k ∧ J 185 k = T.2.2.1 k) ∧ ∀ w, w < 16 → J 186 w = T.2.2.2 w
def mA_at (J : jZ) (A : zA) : Prop := J 167 10 = (A.1 : Int) ∧ ∀ i, i < A.1 → J 187 i = A.2 i 0 ∧ ∀ j, j < 4 → J 188 (4 * i + j) = A.2 i (j + 1)
/-- the words that places have, as the reference gathers them -/
def mS_at (J : jZ) (wo : Int) (T : zT) : Prop := ∀ k, k < T.1 → J 194 k = if T.2.1 k = wo then 0 else zt_set T k
theorem mT_of {J J' : jZ} {T : zT} (h : mT_at J T) (h0 : J' 167 9 = J 167 9) (h1 : J' 184 = J 184) (h2 : J' 185 = J 185) (h3 : J' 186 = J 186) : mT_at J' T := by
  unfold mT_at
  rw [h0, h1, h2, h3]
  exact h
theorem mA_of {J J' : jZ} {A : zA} (h : mA_at J A) (h0 : J' 167 10 = J 167 10) (h1 : J' 187 = J 187) (h2 : J' 188 = J 188) : mA_at J' A := by
  unfold mA_at
  rw [h0, h1, h2]
  exact h
theorem s_183_2 {xs : Nat → Int32} {L d : Nat} {K : jZ} {P : jZ → jZ → Prop} {T : zT} {wo : Int} (hT : zt_ok T) (hw : -1 ≤ wo ∧ wo < 16) : ∀ (n k : Nat) (J : jZ), k + n = T.1 → mT_at J T → J 167 37 = wo → (∀ j, j < k → J 194 j = if T.2.1 j = wo then 0 else zt_set T j) → (∀ J', (∀ b, b ≠ 194 → J' b = J b) → mS_at J' wo T → P J' K) → l_183_2 xs L (d + 0) (k : Int) J K P
  | n, k, J, hn, hr, hwo, hs, h => by
    have h60 := hT.1
    have h0 := hr.1
    refine e_183_2 ⟨by omega, by omega, fun hc => ?_, fun hc => ⟨by omega, ?_⟩⟩
    · obtain rfl : k = T.1 := by omega
      exact h J (fun _ _ => rfl) hs
    · match n, hn with
      | 0, hn => omega
      | n + 1, hn =>
        simp only [Int.toNat_natCast]
        have hk := hr.2.1 k (by omega)
        have hb := hT.2.1 k (by omega)
        rw [hk.1, hwo]
        have step : ∀ v, v = (if T.2.1 k = wo then 0 else zt_set T k) → l_183_2 xs L (d + 0) ((k : Int) + 1) (jm_up J 194 k v) K P := fun v hv => by
          refine s_183_2 hT hw n (k + 1) _ (by omega) (mT_of hr (zu_ne (by omega)) (zu_row (by omega)) (zu_row (by omega)) (zu_row (by omega))) (by rw [zu_ne (by omega)]; exact hwo) (fun j hj => ?_) (fun J' f1 s1 => h J' (fun b hb => by rw [f1 b hb, zu_row hb]) s1)
          by_cases q : j = k
          · subst q
            rw [zu_self, hv]
          · rw [zu_key q]
            exact hs j (by omega)
        refine ⟨by omega, by omega, fun q => ⟨by omega, ?_⟩, fun q => step _ (by rw [if_pos q])⟩
        rw [hr.2.2 (T.2.1 k).toNat (by omega)]
        exact step _ (by rw [if_neg q]; rfl)
theorem s_183 {xs : Nat → Int32} {L d : Nat} {J K : jZ} {P : jZ → jZ → Prop} {T : zT} {wo : Int} (hT : zt_ok T) (hw : -1 ≤ wo ∧ wo < 16) (hr : mT_at J T) (hwo : J 167 37 = wo) (h : ∀ J', (∀ b, b ≠ 194 → J' b = J b) → mS_at J' wo T → P J' K) : q_183 xs L (d + 1) J K P :=
  e_183 (s_183_2 hT hw T.1 0 J (by omega) hr hwo (fun j hj => by omega) h)
/-- list i is new; other lists stand -/
def zm_k (i : Nat) (J J' : jZ) : Prop := (∀ b, b ≠ 195 → b ≠ 196 → b ≠ 197 → b ≠ 198 → J' b = J b) ∧ ∀ j l, j < 24 → j ≠ i → l.length ≤ 60 → zm_at J j l → zm_at J' j l
theorem zm_k_of {i : Nat} {J J1 J' : jZ} (h1 : ∀ b, b ≠ 198 → J1 b = J b) (h : zm_fr i J1 J') : zm_k i J J' :=
  ⟨fun b q1 q2 q3 q4 => by rw [h.1 b q1 q2 q3 q4, h1 b q4], fun j l _ hj hl ha => zm_at_fr h hj hl (zm_at_98 ha h1)⟩
theorem zt_has_iff {J : jZ} {wo : Int} {T : zT} {p : Nat} {x : Int} (hs : mS_at J wo T) (hp : p < T.1) (hx : 0 ≤ x ∧ x < 16) : jz_and (jz_shr (J 194 p) x) 1 = 1 ↔ zt_has wo T p x := by
  obtain ⟨j, rfl⟩ : ∃ j : Nat, x = (j : Int) := ⟨x.toNat, by omega⟩
  rw [hs p hp]
  unfold zt_has
  split
  · rename_i h
    rw [zb_shr0 (by omega)]
    exact ⟨fun q => by omega, fun q => absurd h q.1⟩
  · rename_i h
    rw [(zb_tst (by omega)).2, Int.toNat_natCast]
    exact ⟨fun q => ⟨h, q⟩, fun q => q.2⟩
theorem s_184_73 {xs : Nat → Int32} {L d : Nat} {J K : jZ} {P : jZ → jZ → Prop} {T : zT} {A : zA} {wo : Int} {i sz f : Nat} (hi : i < 24) (hs : mS_at J wo T) (hA : ∀ j, j < 4 → J 188 (4 * i + j) = A.2 i (j + 1)) (hsz : sz ≤ 4) (hr : ∀ k, k < sz → 0 ≤ A.2 i (k + 1) ∧ A.2 i (k + 1) < 16) (h60 : T.1 ≤ 60) (hf : f + sz ≤ T.1) (hno : (¬ ∀ k, k < sz → zt_has wo T (f + k) (A.2 i (k + 1))) → l_184_137 xs L (d + 1) (i : Int) (sz : Int) (f : Int) J K P) (hyes : (∀ k, k < sz → zt_has wo T (f + k) (A.2 i (k + 1))) → q_186 xs L (d + 1) (f : Int) (((f : Int) + sz) - 1) J K (fun J' K' => l_184_137 xs L (d + 1) (i : Int) (sz : Int) (f : Int) J' K' P)) : ∀ (n k : Nat) (v : Int), k + n = sz → (v = 0 ∨ v = 1) → (v = 1 ↔ ∀ j, j < k → zt_has wo T (f + j) (A.2 i (j + 1))) → l_184_73 xs L (d + 1) (i : Int) (sz : Int) (f : Int) v (k : Int) J K P
  | n, k, v, hn, hv, hv2 => by
    refine e_184_73 ⟨by omega, by omega, fun hc => ⟨by omega, fun q => ?_, fun q => ?_⟩, fun hc => ?_⟩
    · obtain rfl : k = sz := by omega
      exact hno (fun q2 => by have := hv2.mpr q2; omega)
    · obtain rfl : k = sz := by omega
      exact hyes (hv2.mp (by omega))
    · match n, hn with
      | 0, hn => omega
      | n + 1, hn =>
        rw [show ((f : Int) + (k : Int)).toNat = f + k by omega, show (4 * (i : Int) + (k : Int)).toNat = 4 * i + k by omega, hA k (by omega), zt_has_iff hs (by omega) (hr k (by omega))]
        have e := zb_a01 hv
        refine ⟨by omega, by omega, fun q => ?_, fun q => ?_⟩
        · rw [e.1]
          refine s_184_73 hi hs hA hsz hr h60 hf hno hyes n (k + 1) 0 (by omega) (.inl rfl) ⟨fun q2 => by omega, fun q2 => absurd (q2 k (by omega)) q⟩
        · rw [e.2]
          refine s_184_73 hi hs hA hsz hr h60 hf hno hyes n (k + 1) v (by omega) hv (hv2.trans ⟨fun q2 j hj => ?_, fun q2 j hj => q2 j (by omega)⟩)
          by_cases q3 : j = k
          · subst q3
            exact q
          · exact q2 j (by omega)
theorem s_184_57 {xs : Nat → Int32} {L d : Nat} {K : jZ} {P : jZ → jZ → Prop} {T : zT} {A : zA} {wo : Int} {i sz : Nat} (hi : i < 24) (hsz : sz = zk_sz (A.2 i)) (hr : ∀ k, k < sz → 0 ≤ A.2 i (k + 1) ∧ A.2 i (k + 1) < 16) (hT : zt_ok T) : ∀ (n f : Nat) (J : jZ), f + n = 61 → J 167 9 = (T.1 : Int) → mS_at J wo T → (∀ j, j < 4 → J 188 (4 * i + j) = A.2 i (j + 1)) → zl_lo (-1) (fun x y => zk_leaf wo T (A.2 i) x y ∧ x < f) (J 198) → (∀ J' l', zm_fr i J J' → zm_at J' i l' → zl_isl (zk_leaf wo T (A.2 i)) l' → P J' K) → l_184_57 xs L (d + 1) (i : Int) (sz : Int) (f : Int) J K P
  | n, f, J, hn, h9, hs, hA, hS, h => by
    have h60 := hT.1
    have hz := zk_sz_r (A.2 i)
    have hod : zl_od (zk_leaf wo T (A.2 i)) := fun x y q => by
      obtain ⟨a, b, c, -⟩ := q
      omega
    refine e_184_57 ⟨by omega, by omega, fun hc => ?_, fun hc => ?_⟩
    · refine s_187 (by omega) hod (zl_lo_iff (fun x y => ⟨fun q => q.1, fun q => ⟨q, ?_⟩⟩) hS) (fun J' l' q1 q2 q3 => h J' l' q1 q2 q3)
      obtain ⟨a, b, c, -⟩ := q
      omega
    · match n, hn with
      | 0, hn => omega
      | n + 1, hn =>
        have fr : ∀ {J' : jZ}, (∀ b, b ≠ 198 → J' b = J b) → zm_fr i J J' := fun hf => ⟨fun b h1 h2 h3 h4 => hf b h4, fun j hj => by rw [hf 195 (by omega)], fun k hk => by rw [hf 196 (by omega), hf 197 (by omega)]; exact ⟨rfl, rfl⟩⟩
        have step : ∀ J', (∀ b, b ≠ 198 → J' b = J b) → zl_lo (-1) (fun x y => zk_leaf wo T (A.2 i) x y ∧ x < ((f + 1 : Nat) : Int)) (J' 198) → l_184_137 xs L (d + 1) (i : Int) (sz : Int) (f : Int) J' K P := fun J' f1 S1 =>
          e_184_137 (s_184_57 hi hsz hr hT n (f + 1) J' (by omega) (by rw [f1 167 (by omega)]; exact h9) (fun k hk => by rw [f1 194 (by omega)]; exact hs k hk) (fun j hj => by rw [f1 188 (by omega)]; exact hA j hj) S1 (fun J'' l' q1 q2 q3 => h J'' l' (zm_fr_tr (fr f1) q1) q2 q3))
        have eq : zk_leaf wo T (A.2 i) (f : Int) ((f : Int) + sz - 1) ↔ ∀ k, k < sz → zt_has wo T (f + k) (A.2 i (k + 1)) := by
          unfold zk_leaf
          rw [← hsz]
          exact ⟨fun q k hk => by have := q.2.2.2 k hk; rwa [show ((f : Int) + (k : Int)).toNat = f + k by omega] at this, fun q => ⟨by omega, rfl, by omega, fun k hk => by rw [show ((f : Int) + (k : Int)).toNat = f + k by omega]; exact q k hk⟩⟩
        have u : ∀ {y : Int}, zk_leaf wo T (A.2 i) (f : Int) y → y = (f : Int) + sz - 1 := fun q => by
          obtain ⟨a, b, c, -⟩ := q
          omega
        have no : (¬ ∀ k, k < sz → zt_has wo T (f + k) (A.2 i (k + 1))) → l_184_137 xs L (d + 1) (i : Int) (sz : Int) (f : Int) J K P := fun q => by
          refine step J (fun _ _ => rfl) (zl_lo_iff (fun x y => ⟨fun q2 => ⟨q2.1, by omega⟩, fun q2 => ⟨q2.1, ?_⟩⟩) hS)
          by_cases q3 : x = f
          · subst q3
            have := u q2.1
            subst this
            exact absurd (eq.mp q2.1) q
          · omega
        have yes : (∀ k, k < sz → zt_has wo T (f + k) (A.2 i (k + 1))) → q_186 xs L (d + 1) (f : Int) (((f : Int) + sz) - 1) J K (fun J' K' => l_184_137 xs L (d + 1) (i : Int) (sz : Int) (f : Int) J' K' P) := fun q => by
          refine s_186 hS (by omega) (by omega) (T := fun x y => zk_leaf wo T (A.2 i) x y ∧ x < ((f + 1 : Nat) : Int)) (fun x y => ?_) (fun J' f1 S1 => step J' f1 S1)
          constructor
          · intro q2
            by_cases q3 : x = f
            · subst q3
              exact .inr ⟨rfl, u q2.1⟩
            · exact .inl ⟨q2.1, by omega⟩
          · rintro (q2 | ⟨rfl, rfl⟩)
            · exact ⟨q2.1, by omega⟩
            · exact ⟨eq.mpr q, by omega⟩
        exact s_184_73 hi hs hA (by omega) hr h60 (by omega) no yes sz 0 1 (by omega) (.inr rfl) ⟨fun _ j hj => by omega, fun _ => rfl⟩
theorem s_184 {xs : Nat → Int32} {L d : Nat} {J K : jZ} {P : jZ → jZ → Prop} {T : zT} {A : zA} {wo : Int} {i : Nat} (hi : i < 24) (hk : zk_ok i (A.2 i)) (hk2 : A.2 i 0 = 0 ∨ A.2 i 0 = 1) (hT : zt_ok T) (h9 : J 167 9 = (T.1 : Int)) (hs : mS_at J wo T) (hA0 : J 187 i = A.2 i 0) (hA : ∀ j, j < 4 → J 188 (4 * i + j) = A.2 i (j + 1)) (h : ∀ J' l', zm_k i J J' → zm_at J' i l' → zl_isl (zk_leaf wo T (A.2 i)) l' → P J' K) : q_184 xs L (d + 2) (i : Int) J K P := by
  refine e_184 (s_185 (fun J1 f1 S1 => ?_))
  have hz := zk_sz_r (A.2 i)
  have hr : ∀ k, k < zk_sz (A.2 i) → 0 ≤ A.2 i (k + 1) ∧ A.2 i (k + 1) < 16 := fun k hk3 => by
    rcases hk with q | q | q | q | q | q
    · have : zk_sz (A.2 i) = 1 := by
        unfold zk_sz
        rw [if_pos q.1]
      obtain rfl : k = 0 := by omega
      exact ⟨q.2.1, q.2.2.1⟩
    · exact q.2.1 k hk3
    · omega
    · omega
    · omega
    · omega
  have go : ∀ sz : Int, sz = (zk_sz (A.2 i) : Int) → l_184_57 xs L (d + 1) (i : Int) sz 0 J1 K P := fun sz hsz => by
    subst hsz
    exact s_184_57 hi rfl hr hT 61 0 J1 (by omega) (by rw [f1 167 (by omega)]; exact h9) (fun k hk => by rw [f1 194 (by omega)]; exact hs k hk) (fun j hj => by rw [f1 188 (by omega)]; exact hA j hj) (zl_lo_iff (fun x y => ⟨False.elim, fun q => by have := q.1.1; omega⟩) S1) (fun J' l' q1 q2 q3 => h J' l' (zm_k_of f1 q1) q2 q3)
  have a3 : J 188 (4 * i + 3) = A.2 i 4 := hA 3 (by omega)
  have a2 : J 188 (4 * i + 2) = A.2 i 3 := hA 2 (by omega)
  rw [f1 187 (by omega), f1 188 (by omega), Int.toNat_natCast, show (4 * (i : Int) + 3).toNat = 4 * i + 3 by omega, show (4 * (i : Int) + 2).toNat = 4 * i + 2 by omega, hA0, a3, a2]
  have hb : -1 ≤ A.2 i 4 ∧ A.2 i 4 < 16 ∧ -1 ≤ A.2 i 3 ∧ A.2 i 3 < 16 := by rcases hk with q | q | q | q | q | q <;> omega
  refine ⟨by omega, by omega, fun q1 => ⟨by omega, by omega, fun q2 => go 4 ?_, fun q2 => ⟨by omega, by omega, fun q3 => go 3 ?_, fun q3 => go 2 ?_⟩⟩, fun q1 => go 1 ?_⟩
  · unfold zk_sz
    rw [if_neg q1, if_neg q2]
    rfl
  · unfold zk_sz
    rw [if_neg q1, if_pos q2, if_neg q3]
    rfl
  · unfold zk_sz
    rw [if_neg q1, if_pos q2, if_pos q3]
    rfl
  · unfold zk_sz
    rw [if_pos q1]
    rfl
theorem s_189 {xs : Nat → Int32} {L d : Nat} {J K : jZ} {P : Int → jZ → jZ → Prop} {T : zT} {p : Nat} {e : Int} (hT : zt_ok T) (h9 : J 167 9 = (T.1 : Int)) (hm : ∀ k, k < T.1 → J 185 k = T.2.2.1 k) (hp : p < T.1) (he : -2147483648 ≤ e ∧ e < 2147483648) (h1 : (p + 1 = T.1 ∨ e ≤ T.2.2.1 p) → P 1 J K) (h0 : ¬ (p + 1 = T.1 ∨ e ≤ T.2.2.1 p) → P 0 J K) : q_189 xs L (d + 1) (p : Int) e J K P := by
  have h60 := hT.1
  have hb := hT.2.2.1 p hp
  refine e_189 ?_
  rw [Int.toNat_natCast, hm p hp]
  exact ⟨by omega, by omega, fun q => h1 (by omega), fun q => ⟨by omega, by omega, he, fun q2 => h0 (by omega), fun q2 => h1 (by omega)⟩⟩
theorem s_188_18 {xs : Nat → Int32} {L d : Nat} {K : jZ} {P : jZ → jZ → Prop} {T : zT} {g : Int} {i : Nat} (hi : i < 24) (hg : 0 ≤ g ∧ g ≤ 2) (hT : zt_ok T) : ∀ (n p b : Nat) (J : jZ), p + n = T.1 → b ≤ p → (b = 0 ∨ zk_end T g (b - 1)) → (∀ q, b ≤ q → q < p → ¬ zk_end T g q) → J 167 9 = (T.1 : Int) → (∀ k, k < T.1 → J 185 k = T.2.2.1 k) → zl_lo (-1) (fun x y => zk_reg T g x y ∧ y < p) (J 198) → (∀ J' l', zm_fr i J J' → zm_at J' i l' → zl_isl (zk_reg T g) l' → P J' K) → l_188_18 xs L (d + 1) (i : Int) g (b : Int) (p : Int) J K P
  | n, p, b, J, hn, hbp, hb, hnb, h9, hm, hS, h => by
    have h60 := hT.1
    have hod : zl_od (zk_reg T g) := fun x y q => by
      obtain ⟨a, b, rfl, rfl, c, -⟩ := q
      omega
    refine e_188_18 ⟨by omega, by omega, fun hc => ?_, fun hc => ?_⟩
    · refine s_187 (by omega) hod (zl_lo_iff (fun x y => ⟨fun q => q.1, fun q => ⟨q, ?_⟩⟩) hS) (fun J' l' q1 q2 q3 => h J' l' q1 q2 q3)
      obtain ⟨a, b, rfl, rfl, c, d, -⟩ := q
      omega
    · match n, hn with
      | 0, hn => omega
      | n + 1, hn =>
        have fr : ∀ {J' : jZ}, (∀ b, b ≠ 198 → J' b = J b) → zm_fr i J J' := fun hf => ⟨fun b h1 h2 h3 h4 => hf b h4, fun j hj => by rw [hf 195 (by omega)], fun k hk => by rw [hf 196 (by omega), hf 197 (by omega)]; exact ⟨rfl, rfl⟩⟩
        have no : ¬ zk_end T g p → l_188_18 xs L (d + 1) (i : Int) g (b : Int) ((p : Int) + 1) J K P := fun q => by
          refine s_188_18 hi hg hT n (p + 1) b J (by omega) (by omega) hb (fun t h1 h2 => ?_) h9 hm (zl_lo_iff (fun x y => ⟨fun q2 => ⟨q2.1, by omega⟩, fun q2 => ⟨q2.1, ?_⟩⟩) hS) h
          · by_cases q3 : t = p
            · subst q3
              exact q
            · exact hnb t h1 (by omega)
          · obtain ⟨⟨a, c, rfl, rfl, h1, h2, h3, -⟩, h4⟩ := q2
            by_cases q3 : c = p
            · subst q3
              exact absurd h3 q
            · omega
        have yes : zk_end T g p → q_186 xs L (d + 1) (b : Int) (p : Int) J K (fun J' K' => l_188_18 xs L (d + 1) (i : Int) g ((p : Int) + 1) ((p : Int) + 1) J' K' P) := fun q =>
          s_186 hS (by omega) (by omega) (T := fun x y => zk_reg T g x y ∧ y < ((p + 1 : Nat) : Int)) (fun x y => ⟨fun q2 => by
            obtain ⟨⟨a, c, rfl, rfl, h1, h2, h3, h4, h5⟩, h6⟩ := q2
            by_cases q3 : c = p
            · subst q3
              refine .inr ⟨?_, rfl⟩
              have : a = b := by
                by_cases t : a < b
                · rcases hb with hb | hb
                  · omega
                  · exact absurd hb (h5 (b - 1) (by omega) (by omega))
                · by_cases t2 : b < a
                  · rcases h4 with h4 | h4
                    · omega
                    · exact absurd h4 (hnb (a - 1) (by omega) (by omega))
                  · omega
              rw [this]
            · exact .inl ⟨⟨a, c, rfl, rfl, h1, h2, h3, h4, h5⟩, by omega⟩, fun q2 => by
            rcases q2 with q2 | ⟨rfl, rfl⟩
            · exact ⟨q2.1, by omega⟩
            · exact ⟨⟨b, p, rfl, rfl, hbp, by omega, q, hb, fun t h1 h2 => hnb t h1 h2⟩, by omega⟩⟩) (fun J' f1 S1 => s_188_18 hi hg hT n (p + 1) (p + 1) J' (by omega) (Nat.le_refl _) (.inr q) (fun t h1 h2 => by omega) (by rw [f1 167 (by omega)]; exact h9) (fun k hk => by rw [f1 185 (by omega)]; exact hm k hk) S1 (fun J'' l' q1 q2 q3 => h J'' l' (zm_fr_tr (fr f1) q1) q2 q3))
        refine ⟨by omega, fun q => s_189 hT h9 hm (by omega) (by omega) (fun q2 => ⟨by omega, fun q3 => by omega, fun _ => yes ?_⟩) (fun q2 => ⟨by omega, fun _ => no ?_, fun q3 => by omega⟩), fun q => ⟨by omega, fun q2 => no ?_, fun q2 => yes ?_⟩⟩
        · unfold zk_end
          omega
        · unfold zk_end
          omega
        · unfold zk_end
          omega
        · unfold zk_end
          omega
theorem s_188 {xs : Nat → Int32} {L d : Nat} {J K : jZ} {P : jZ → jZ → Prop} {T : zT} {A : zA} {i : Nat} (hi : i < 24) (hg : 0 ≤ A.2 i 1 ∧ A.2 i 1 ≤ 2) (hT : zt_ok T) (h9 : J 167 9 = (T.1 : Int)) (hm : ∀ k, k < T.1 → J 185 k = T.2.2.1 k) (hA : ∀ j, j < 4 → J 188 (4 * i + j) = A.2 i (j + 1)) (h : ∀ J' l', zm_k i J J' → zm_at J' i l' → zl_isl (zk_reg T (A.2 i 1)) l' → P J' K) : q_188 xs L (d + 2) (i : Int) J K P := by
  refine e_188 (s_185 (fun J1 f1 S1 => ⟨by omega, ?_⟩))
  have h0 := hA 0 (by omega)
  rw [f1 188 (by omega), show (4 * (i : Int)).toNat = 4 * i + 0 by omega, h0]
  exact s_188_18 hi hg hT T.1 0 0 J1 (by omega) (Nat.le_refl _) (.inl rfl) (fun q _ h2 => by omega) (by rw [f1 167 (by omega)]; exact h9) (fun k hk => by rw [f1 185 (by omega)]; exact hm k hk) (zl_lo_iff (fun x y => ⟨False.elim, fun q => by
    obtain ⟨⟨a, c, rfl, rfl, h1, -⟩, h2⟩ := q
    omega⟩) S1) (fun J' l' q1 q2 q3 => h J' l' (zm_k_of f1 q1) q2 q3)
theorem s_190_15 {xs : Nat → Int32} {L d : Nat} {K : jZ} {P : jZ → jZ → Prop} {l : zL} {A : zA} {i u : Nat} (hi : i < 24) (hu : u < 24) (hg : zs_ok l) (hn2 : -2147483648 ≤ A.2 i 2 ∧ A.2 i 2 < 2147483648) : ∀ (n p : Nat) (J : jZ), p + n = l.length → zm_at J u l → (∀ j, j < 4 → J 188 (4 * i + j) = A.2 i (j + 1)) → zl_lo (-1) (fun x y => ∃ q, q < p ∧ q < l.length ∧ zs_l l q - zs_f l q < A.2 i 2 ∧ x = zs_f l q ∧ y = zs_l l q) (J 198) → (∀ J' l', zm_fr i J J' → zm_at J' i l' → zl_isl (zk_sh l (A.2 i 2)) l' → P J' K) → l_190_15 xs L (d + 1) (i : Int) (u : Int) (p : Int) J K P
  | n, p, J, hn, hr, hA, hS, h => by
    have h60 := hg.1
    have hs := hr.1
    have hod : zl_od (zk_sh l (A.2 i 2)) := fun x y q => by
      obtain ⟨p, hp, -, rfl, rfl⟩ := q
      exact (hg.2.1 p hp).2.1
    refine e_190_15 ⟨by omega, by omega, by simp only [Int.toNat_natCast]; omega, fun hc => ?_, fun hc => ?_⟩
    · simp only [Int.toNat_natCast] at hc
      refine s_187 (by omega) hod (zl_lo_iff (fun x y => ?_) hS) (fun J' l' q1 q2 q3 => h J' l' q1 q2 q3)
      exact ⟨fun ⟨q, a, b⟩ => ⟨q, b⟩, fun ⟨q, a, b⟩ => ⟨q, by omega, a, b⟩⟩
    · simp only [Int.toNat_natCast] at hc
      match n, hn with
      | 0, hn => omega
      | n + 1, hn =>
        have hp : p < l.length := by omega
        have hb := zm_b hr hg hp
        have fr : ∀ {J' : jZ}, (∀ b, b ≠ 198 → J' b = J b) → zm_fr i J J' := fun hf => ⟨fun b h1 h2 h3 h4 => hf b h4, fun j hj => by rw [hf 195 (by omega)], fun k hk => by rw [hf 196 (by omega), hf 197 (by omega)]; exact ⟨rfl, rfl⟩⟩
        have a1 : J 188 (4 * i + 1) = A.2 i 2 := hA 1 (by omega)
        rw [zm_idx, hb.1, hb.2.1, show (4 * (i : Int) + 1).toNat = 4 * i + 1 by omega, a1]
        refine ⟨by omega, by omega, by omega, hn2, fun q => ?_, fun q => ?_⟩
        · refine s_190_15 hi hu hg hn2 n (p + 1) J (by omega) hr hA (zl_lo_iff (fun x y => ⟨fun ⟨t, a, b⟩ => ⟨t, by omega, b⟩, fun ⟨t, a, b, c, e⟩ => ⟨t, ?_, b, c, e⟩⟩) hS) h
          by_cases q2 : t = p
          · subst q2
            omega
          · omega
        · refine s_186 hS (by omega) (by omega) (T := fun x y => ∃ q, q < p + 1 ∧ q < l.length ∧ zs_l l q - zs_f l q < A.2 i 2 ∧ x = zs_f l q ∧ y = zs_l l q) (fun x y => ⟨fun q2 => ?_, fun q2 => ?_⟩) (fun J' f1 S1 => s_190_15 hi hu hg hn2 n (p + 1) J' (by omega) (zm_at_98 hr f1) (fun j hj => by rw [f1 188 (by omega)]; exact hA j hj) S1 (fun J'' l' q1 q2 q3 => h J'' l' (zm_fr_tr (fr f1) q1) q2 q3))
          · obtain ⟨t, a, b, c, e⟩ := q2
            by_cases q3 : t = p
            · subst q3
              exact .inr e
            · exact .inl ⟨t, by omega, b, c, e⟩
          · rcases q2 with ⟨t, a, b⟩ | e
            · exact ⟨t, by omega, b⟩
            · exact ⟨p, by omega, hp, q, e⟩
theorem s_190 {xs : Nat → Int32} {L d : Nat} {J K : jZ} {P : jZ → jZ → Prop} {l : zL} {A : zA} {i u : Nat} (hi : i < 24) (hu : u < 24) (hg : zs_ok l) (h1 : A.2 i 1 = (u : Int)) (hn2 : 1 ≤ A.2 i 2 ∧ A.2 i 2 ≤ 60) (hr : zm_at J u l) (hA : ∀ j, j < 4 → J 188 (4 * i + j) = A.2 i (j + 1)) (h : ∀ J' l', zm_k i J J' → zm_at J' i l' → zl_isl (zk_sh l (A.2 i 2)) l' → P J' K) : q_190 xs L (d + 2) (i : Int) J K P := by
  refine e_190 ⟨by omega, s_185 (fun J1 f1 S1 => ?_)⟩
  have h0 := hA 0 (by omega)
  rw [show (4 * (i : Int)).toNat = 4 * i + 0 by omega, h0, h1]
  exact s_190_15 hi hu hg (by omega) l.length 0 J1 (by omega) (zm_at_98 hr f1) (fun j hj => by rw [f1 188 (by omega)]; exact hA j hj) (zl_lo_iff (fun x y => ⟨False.elim, fun ⟨q, a, _⟩ => by omega⟩) S1) (fun J' l' q1 q2 q3 => h J' l' (zm_k_of f1 q1) q2 q3)
