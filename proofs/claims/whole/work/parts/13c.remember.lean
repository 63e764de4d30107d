/-! REMEMBERING -/
section
variable {N X j : Nat} {s s' : sk_S} {c c' : Nat → Nat → Int32} {W : Nat → Nat} {sd : Int32} {m : lwM} {sb : Nat} {V : Nat → Nat → Prop}
/-- laws are left by V -/
def lwOK (s : sk_S) (V : Nat → Nat → Prop) : Prop := ∀ q, lay_X3 (sk_K s) (sk_r s) q = true → (∀ k, V q k → 6 ≤ k) ∧ ∀ i k, 1 ≤ i → i ≤ 4 → ¬ V (q + i) k
theorem lw_rel_V {o : Option Nat} {hh : Nat} {T : Nat → Int32} (h : lw_rel s o hh T m) (B : bks X (sk_K s) (sk_n s)) (L : lwOK s V) (F : sfr V s s') : lw_rel s' o hh T m := by
  rcases h with h | ⟨q, h1, h2, h3, h4⟩
  · exact .inl h
  · obtain ⟨a1, a2⟩ := L q h4.1
    exact .inr ⟨q, h1, h2, h3, lwC_fr h4 B.2.2.1 (quiet_law B h4.1).2.2.2.1 a1 a2 F⟩
theorem R_img_V (h : R_img X s c) (B : bks X (sk_K s) (sk_n s)) (L : lwOK s V) (F : sfr V s s') (h8 : ¬ V X 8) (hp : ∀ p i k, sk_r s X 8 = some p → lay_X7 (sk_K s) (sk_r s) p = true → X + 38 ≤ p → i < 10 → ¬ V (p + i) k) (h2 : ∀ k, k < 1398 → c' 2 k = c 2 k) (h6 : c' 0 6 = c 0 6) : R_img X s' c' := by
  have hn := B.2.2.2
  have r8 : sk_r s' X 8 = sk_r s X 8 := F.r (by omega) h8
  rcases h with ⟨g1, g2⟩ | ⟨p, W1, sd1, m1, g1, g2, g3, g4, g5, g6⟩
  · exact .inl ⟨r8.trans g1, h6.trans g2⟩
  · have k7 := lay7_k4 g4.1
    have hb := (B.1 p (by rw [k7.1]; decide)).2
    rw [k7.1] at hb
    have hb : p + 10 ≤ sk_n s := hb
    refine .inr ⟨p, W1, sd1, m1, r8.trans g1, h6.trans g2, g3, sc_fr g4 B.2.2.1 hb (fun i k hi q => absurd q (hp p i k g1 g4.1 g3 hi)) F, wv_congr g5 (fun q hq => h2 _ (by omega)), ?_⟩
    have e : sk_r s' (p + 2) 1 = sk_r s (p + 2) 1 := F.r (by omega) (hp p 2 1 g1 g4.1 g3 (by decide))
    rw [e]
    exact lw_relT (lw_rel_V g6 B L F) (fun k hk => h2 _ (by omega))
theorem R_tape_V (h : R_tape X s c) (B : bks X (sk_K s) (sk_n s)) (F : sfr V s s') (h1 : ¬ V (X + 1) 1 ∧ ¬ V (X + 9) 0) (h2 : ∀ k, ¬ V (X + 2) k) (h10 : ¬ V X 10) (h9 : c' 0 9 = c 0 9) (h14 : c' 0 14 = c 0 14) (h6 : ∀ k, k < 400 → c' 6 k = c 6 k) : R_tape X s' c' := by
  have hn := B.2.2.2
  obtain ⟨⟨ln, a1, a2, a3, a4⟩, a5⟩ := h
  refine ⟨⟨ln, ⟨a1.1, by rw [F.c (by omega) h1.2]; exact a1.2⟩, ?_, h9.trans a3, fun j hj => ?_⟩, ?_⟩
  · rw [F.c (by omega) h1.1]; exact a2
  · rw [F.c (by omega) (h2 j), h6 j (by omega)]; exact a4 j hj
  · rw [F.c (by omega) h10, h14]; exact a5
theorem R_now_V (h : R_now X s c W sd m) (B' : bks X (sk_K s') (sk_n s')) (L : lwOK s V) (F : sfr V s s') (hV : ∀ i k, i < 10 → ¬ V (X + 12 + i) k) (h1 : ∀ k, k < 1398 → c' 1 k = c 1 k) : R_now X s' c' W sd m := by
  obtain ⟨g1, B, g3, g4, g5⟩ := h
  have hn := B.2.2.2
  refine ⟨lt_X11 (F.fr B.2.2.1) g1, B', sc_fr g3 B.2.2.1 (by omega) (fun i k hi q => absurd q (hV i k hi)) F, wv_congr g4 (fun k hk => h1 k (by omega)), ?_⟩
  have e : sk_r s' (X + 14) 1 = sk_r s (X + 14) 1 := F.r (by omega) (hV 2 1 (by decide))
  rw [e]
  exact lw_relT (lw_rel_V g5 B L F) (fun k hk => h1 _ (by omega))
/-! the reference's rows of acts -/
theorem rm_shift {k : (Nat → Nat → Int32) → Int32 → Option ((Nat → Nat → Int32) × Int32)} {c0 : Nat → Nat → Int32} : ∀ (r fuel i : Nat) (c : Nat → Nat → Int32), i + r = 6039 → r < fuel → onl 5 c0 c → (∀ q, i ≤ q → c 5 q = c0 5 q) → (∀ q, q < i → c 5 q = c0 5 (q + 549)) → ∃ c', md_remembers_L11 N k fuel c (nI i) = k c' 6039 ∧ onl 5 c0 c' ∧ (∀ q, q < 6039 → c' 5 q = c0 5 (q + 549)) := by
  intro r
  induction r with
  | zero =>
    intro fuel i c hi hf hc h1 h2
    obtain ⟨fuel, rfl⟩ : ∃ q, fuel = q + 1 := ⟨fuel - 1, by omega⟩
    have : i = 6039 := by omega
    subst this
    simp only [md_remembers_L11]
    rw [if_pos (by decide)]
    exact ⟨c, rfl, hc, h2⟩
  | succ r ih =>
    intro fuel i c hi hf hc h1 h2
    obtain ⟨fuel, rfl⟩ : ∃ q, fuel = q + 1 := ⟨fuel - 1, by omega⟩
    have e1 : nI i + 549 = nI (i + 549) := nI_add i 549
    simp only [md_remembers_L11, zq_letP]
    rw [if_neg (by show ¬ nI 6039 ≤ nI i; rw [zq_le (by decide) (by omega)]; omega), e1, if_pos (zq_inBt (show i + 549 < 6588 by omega) (by decide)), if_pos (zq_inBt (show i < 6588 by omega) (by decide)), zq_cl (n := i + 549) (by omega), zq_cl (n := i) (by omega), nI_1]
    refine ih fuel (i + 1) _ (by omega) (by omega) (hc.w _ _) (fun q hq => ?_) (fun q hq => ?_)
    · rw [bk_w_at (by omega)]; exact h1 q (by omega)
    · by_cases e : q = i
      · subst e; rw [bk_w_same]; exact h1 _ (by omega)
      · rw [bk_w_at e]; exact h2 q (by omega)
theorem rm_put {k : (Nat → Nat → Int32) → Int32 → Option ((Nat → Nat → Int32) × Int32)} {c0 : Nat → Nat → Int32} {kk : Nat} (h7 : c0 0 7 = nI (kk + 1)) (hk : kk ≤ 11) : ∀ (r fuel i : Nat) (c : Nat → Nat → Int32), i + r = 549 → r < fuel → onl 5 c0 c → (∀ q, (q < 549 * kk ∨ 549 * kk + 549 ≤ q) → c 5 q = c0 5 q) → (∀ q, q < i → c 5 (549 * kk + q) = c0 1 q) → ∃ c', md_remembers_L55 N k fuel c (nI i) = k c' 549 ∧ onl 5 c0 c' ∧ (∀ q, (q < 549 * kk ∨ 549 * kk + 549 ≤ q) → c' 5 q = c0 5 q) ∧ ∀ q, q < 549 → c' 5 (549 * kk + q) = c0 1 q := by
  intro r
  induction r with
  | zero =>
    intro fuel i c hi hf hc h1 h2
    obtain ⟨fuel, rfl⟩ : ∃ q, fuel = q + 1 := ⟨fuel - 1, by omega⟩
    have : i = 549 := by omega
    subst this
    simp only [md_remembers_L55]
    rw [if_pos (by decide)]
    exact ⟨c, rfl, hc, h1, h2⟩
  | succ r ih =>
    intro fuel i c hi hf hc h1 h2
    obtain ⟨fuel, rfl⟩ : ∃ q, fuel = q + 1 := ⟨fuel - 1, by omega⟩
    have e1 : (549 : Int32) * (c 0 7 - 1) + nI i = nI (549 * kk + i) := by
      rw [hc 0 (by decide), h7, nI_pred]
      show nI 549 * nI kk + nI i = _
      rw [pk_mul, nI_add]
    simp only [md_remembers_L55, zq_letP]
    rw [if_neg (by show ¬ nI 549 ≤ nI i; rw [zq_le (by decide) (by omega)]; omega), if_pos (zq_inBt (show i < 2247 by omega) (by decide)), e1, if_pos (zq_inBt (show 549 * kk + i < 6588 by omega) (by decide)), zq_cl (n := i) (by omega), zq_cl (n := 549 * kk + i) (by omega), nI_1]
    refine ih fuel (i + 1) _ (by omega) (by omega) (hc.w _ _) (fun q hq => ?_) (fun q hq => ?_)
    · rw [bk_w_at (by omega)]; exact h1 q hq
    · by_cases e : q = i
      · subst e; rw [bk_w_same, hc 1 (by decide)]
      · rw [bk_w_at (by omega)]; exact h2 q (by omega)
/-- what remembers leaves in the reference: the newest act, then those before -/
theorem rm_ref {k : Nat} (hN : 10000 ≤ N) (h7 : c 0 7 = nI k) (hk : k ≤ 12) : ∃ c', md_remembers N c = some (c', 0) ∧ (∀ q, q ≠ 0 → q ≠ 5 → c' q = c q) ∧ (∀ q, q ≠ 7 → c' 0 q = c 0 q) ∧ c' 0 7 = nI (min 12 (k + 1)) ∧ (∀ q, q < 549 → c' 5 (549 * (min 12 (k + 1) - 1) + q) = c 1 q) ∧ ∀ i q, 0 < i → i < min 12 (k + 1) → q < 549 → c' 5 (549 * (min 12 (k + 1) - 1 - i) + q) = c 5 (549 * (k - 1 - (i - 1)) + q) := by
  unfold md_remembers
  by_cases h12 : k = 12
  · subst h12
    rw [h7, if_pos (by decide)]
    obtain ⟨c1, a1, a2, a3⟩ := rm_shift (N := N) (k := fun q9 x10 => (md_remembers_L55 N (fun q12 x13 => (some (q12, 0))) N q9 0)) (c0 := c) 6039 N 0 c (by omega) (by omega) onl.rf (fun _ _ => rfl) (fun q hq => by omega)
    have a1' : md_remembers_L11 N (fun q9 x10 => (md_remembers_L55 N (fun q12 x13 => (some (q12, 0))) N q9 0)) N c 0 = _ := a1
    rw [a1']
    have h71 : c1 0 7 = nI (11 + 1) := by rw [a2 0 (by decide)]; exact h7
    obtain ⟨c2, b1, b2, b3, b4⟩ := rm_put (N := N) (k := fun q12 x13 => (some (q12, 0))) (c0 := c1) (kk := 11) h71 (by decide) 549 N 0 c1 (by omega) (by omega) onl.rf (fun _ _ => rfl) (fun q hq => by omega)
    refine ⟨c2, b1, fun q _ h5 => (b2 q h5).trans (a2 q h5), fun q _ => by rw [b2 0 (by decide), a2 0 (by decide)], by rw [b2 0 (by decide)]; exact h71, fun q hq => ?_, fun i q h0 hi hq => ?_⟩
    · rw [show min 12 (12 + 1) - 1 = 11 from rfl, b4 q hq, a2 1 (by decide)]
    · have hi' : i < 12 := by omega
      rw [show min 12 (12 + 1) - 1 - i = 11 - i by omega, b3 _ (.inl (by omega)), a3 _ (by omega)]
      congr 1; omega
  · rw [h7, if_neg (by intro q; exact h12 (zq_inj (b := 12) (by omega) (by decide) q))]
    simp only [zq_letP]
    rw [nI_1]
    have h71 : bk_w c 0 7 (nI (k + 1)) 0 7 = nI (k + 1) := bk_w_same _ _ _ _
    obtain ⟨c2, b1, b2, b3, b4⟩ := rm_put (N := N) (k := fun q6 x7 => (some (q6, 0))) (c0 := bk_w c 0 7 (nI (k + 1))) (kk := k) h71 (by omega) 549 N 0 (bk_w c 0 7 (nI (k + 1))) (by omega) (by omega) onl.rf (fun _ _ => rfl) (fun q hq => by omega)
    have hm : min 12 (k + 1) = k + 1 := by omega
    refine ⟨c2, b1, fun q h0 h5 => by rw [b2 q h5, bk_w_ne h0], fun q h => by rw [b2 0 (by decide), bk_w_at h], by rw [b2 0 (by decide), h71, hm], fun q hq => ?_, fun i q h0 hi hq => ?_⟩
    · rw [hm, show k + 1 - 1 = k by omega, b4 q hq, bk_w_ne (by decide)]
    · rw [hm] at hi ⊢
      rw [b3 _ (.inl (by
        have : k + 1 - 1 - i + 1 ≤ k := by omega
        have := Nat.mul_le_mul_left 549 this
        omega)), bk_w_ne (by decide)]
      congr 2; omega
/-! the class -/
theorem lay7_kinds {K : Nat → Nat × Nat} {r : Nat → Nat → Option Nat} {p : Nat} (h : lay_X7 K r p = true) : ∀ i, 0 < i → i < 10 → kb (K (p + i)).1 = 0 := by
  simp only [lay_X7, lay_X1, lay_X6, lay_X8, lay_X2, decide_eq_true_eq, Nat.add_assoc] at h
  obtain ⟨h0, -, h1, -, ⟨h2, -, h3⟩, -, ⟨h4, -, h5, -, h6, -, h7⟩, -, h8, -, h9⟩ := h
  intro i h0 hi
  have : i = 1 ∨ i = 2 ∨ i = 3 ∨ i = 4 ∨ i = 5 ∨ i = 6 ∨ i = 7 ∨ i = 8 ∨ i = 9 := by omega
  rcases this with rfl | rfl | rfl | rfl | rfl | rfl | rfl | rfl | rfl
  · rw [h1]; rfl
  · rw [h2]; rfl
  · rw [h3]; rfl
  · rw [h4]; rfl
  · rw [h5]; rfl
  · rw [h6]; rfl
  · rw [h7]; rfl
  · rw [h8]; rfl
  · rw [h9]; rfl
theorem apartN {p q i : Nat} (B : bks X (sk_K s) (sk_n s)) (hp : sk_n s ≤ p ∨ (sk_K s p).1 = 7) (hq : kb (sk_K s q).1 ≠ 0) (h7 : q ≠ p) (hi : i < kb (sk_K s q).1) : ¬ (p ≤ q + i ∧ q + i < p + 10) := by
  rintro ⟨h1, h2⟩
  rcases hp with hp | hp
  · have := (B.1 q hq).2; omega
  · exact h7 (bk_apart B (p := q) (q := p) (i := i) (j := q + i - p) hq (by rw [hp]; decide) hi (by rw [hp]; show _ < 10; omega) (by omega))
def rmV (X np p a k : Nat) : Prop := (a = X ∧ (k = 6 ∨ k = 7)) ∨ (a = X + 22 ∧ k = np) ∨ (p ≤ a ∧ a < p + 10)
theorem rmV_law {np p : Nat} (B : bks X (sk_K s) (sk_n s)) (hp38 : X + 38 ≤ p) (hp : sk_n s ≤ p ∨ (sk_K s p).1 = 7) : lwOK s (rmV X np p) := by
  intro q hl
  obtain ⟨_, _, k4, h6, h38⟩ := quiet_law B hl
  have hne : q ≠ p := by
    rintro rfl
    rcases hp with hp | hp
    · omega
    · rw [hp] at k4; cases k4
  have ap : ∀ i, i < 6 → ¬ (p ≤ q + i ∧ q + i < p + 10) := fun i hi => apartN B hp (by rw [k4]; decide) hne (by rw [k4]; exact hi)
  refine ⟨fun k h => ?_, fun i k h1 h2 h => ?_⟩
  · rcases h with h | h | h
    · omega
    · omega
    · exact absurd h (ap 0 (by decide))
  · rcases h with h | h | h
    · omega
    · omega
    · exact ap i (by omega) h
/-- the class, once there is a scene p at the place np -/
theorem rm_cls {np k p : Nat} {s1 : sk_S} (hl : lay_X11 (sk_K s1) (sk_r s1) X = true) (h7p : lay_X7 (sk_K s1) (sk_r s1) p = true) (h22 : sk_r s1 (X + 22) np = some p) (hp38 : X + 38 ≤ p) (S : sc_rel s1 (X + 12) W sd) (c6 : sk_c s1 X 6 = nI np) (c7 : sk_c s1 X 7 = nI k) (hnp : np < 12) (hk : k ≤ 12) :
    ∃ s2, x7_become N s1 p (X + 12) = some (s2, 0) ∧ (if (12 : Int32) ≤ ((sk_c s2 X 6) + 1) then some (sk_wc (sk_wc s2 X 6 0) X 7 (mt_min 12 ((sk_c (sk_wc s2 X 6 0) X 7) + 1)), (0 : Int32)) else some (sk_wc (sk_wc s2 X 6 ((sk_c s2 X 6) + 1)) X 7 (mt_min 12 ((sk_c (sk_wc s2 X 6 ((sk_c s2 X 6) + 1)) X 7) + 1)), 0)) = some (sk_wc (sk_wc s2 X 6 (nI ((np + 1) % 12))) X 7 (nI (min 12 (k + 1))), 0) ∧ efr (fun x _ => p ≤ x ∧ x < p + 10) s1 s2 ∧ sc_rel s2 p W sd ∧ sk_r s2 (p + 2) 1 = sk_r s1 (X + 14) 1 := by
  obtain ⟨s2, g1, g2, g3, g4⟩ := x7_bec (N := N) (s := s1) (a := p) (b := X + 12) h7p S (by omega)
  refine ⟨s2, g1, ?_, g2, g3, g4⟩
  have d6 : sk_c s2 X 6 = nI np := (g2.c (by omega)).trans c6
  have d7 : sk_c s2 X 7 = nI k := (g2.c (by omega)).trans c7
  have z7 : ∀ v, sk_c (sk_wc s2 X 6 v) X 7 = nI k := fun v => by rw [qc_at _ _ _ _ _ _ (by omega)]; exact d7
  have mm : mt_min 12 (nI k + 1) = nI (min 12 (k + 1)) := by rw [nI_1]; exact zq_min (x := 12) (by decide) (by omega)
  rw [z7, z7, mm, d6, nI_1]
  by_cases h : np = 11
  · subst h
    rw [if_pos (by decide)]
    rfl
  · rw [if_neg (by show ¬ nI 12 ≤ nI (np + 1); rw [zq_le (by decide) (by omega)]; omega), Nat.mod_eq_of_lt (by omega)]
/-- remembering, both -/
theorem rm_ok (hN : 10000 ≤ N) (R : RA X s c W sd m) (Rw : R_way X s W m sb) : ∃ s' c', x11_remember N s X = some (s', 0) ∧ md_remembers N c = some (c', 0) ∧ RA X s' c' W sd m ∧ R_way X s' W m sb ∧ sk_n s' ≤ sk_n s + 10 ∧ sk_m s' ≤ sk_m s + 200 ∧ sk_r s' X 9 = sk_r s X 9 ∧ (∀ q, q ≠ 0 → q ≠ 5 → c' q = c q) ∧ ∀ q, q ≠ 7 → c' 0 q = c 0 q := by
  obtain ⟨Rn, Rp, Ri, Rt⟩ := R
  obtain ⟨hl, B, S, wvn, lwn⟩ := id Rn
  obtain ⟨np, k, g1, g2, g3, g4, g5, g6, g7, g8⟩ := Rp
  have hn := B.2.2.2
  have hX : (sk_K s X).1 = 11 := by rw [ly_X11_c hl]
  have k22 : (sk_K s (X + 22)).1 = 23 := by rw [ly_X11_k4 hl]
  obtain ⟨c', u1, u2, u3, u4, u5, u6⟩ := rm_ref (N := N) (c := c) hN g5 g2
  -- what is common: a state s1 with the scene p in its place
  have common : ∀ (s1 : sk_S) (p : Nat), sfr (fun a q => a = X + 22 ∧ q = np) s s1 → bks X (sk_K s1) (sk_n s1) → lay_X7 (sk_K s1) (sk_r s1) p = true → sk_r s1 (X + 22) np = some p → X + 38 ≤ p → (sk_n s ≤ p ∨ (sk_K s p).1 = 7) → (∀ i, i < 12 → i ≠ np → sk_r s (X + 22) i ≠ some p) → sk_r s X 8 ≠ some p →
      sk_n s1 ≤ sk_n s + 10 → sk_m s1 ≤ sk_m s + 200 → ∃ s2, x7_become N s1 p (X + 12) = some (s2, 0) ∧ ∃ s', (if (12 : Int32) ≤ ((sk_c s2 X 6) + 1) then some (sk_wc (sk_wc s2 X 6 0) X 7 (mt_min 12 ((sk_c (sk_wc s2 X 6 0) X 7) + 1)), (0 : Int32)) else some (sk_wc (sk_wc s2 X 6 ((sk_c s2 X 6) + 1)) X 7 (mt_min 12 ((sk_c (sk_wc s2 X 6 ((sk_c s2 X 6) + 1)) X 7) + 1)), 0)) = some (s', 0) ∧ RA X s' c' W sd m ∧ R_way X s' W m sb ∧ sk_n s' ≤ sk_n s + 10 ∧ sk_m s' ≤ sk_m s + 200 ∧ sk_r s' X 9 = sk_r s X 9 := by
    intro s1 p F1 B1 h7p h22 hp38 hpn hpo hp8 hn1 hm1
    have hl1 := lt_X11 (F1.fr B.2.2.1) hl
    have S1 : sc_rel s1 (X + 12) W sd := sc_fr S B.2.2.1 (by omega) (fun i k hi q => by omega) F1
    have d6 : sk_c s1 X 6 = nI np := (F1.c (by omega) (by omega)).trans g3
    have d7 : sk_c s1 X 7 = nI k := (F1.c (by omega) (by omega)).trans g4
    obtain ⟨s2, a1, a2, a3, a4, a5⟩ := rm_cls (N := N) hl1 h7p h22 hp38 S1 d6 d7 g1 g2
    refine ⟨s2, a1, _, a2, ?_⟩
    generalize e4 : sk_wc (sk_wc s2 X 6 (nI ((np + 1) % 12))) X 7 (nI (min 12 (k + 1))) = s4
    have F2 : sfr (rmV X np p) s s4 := by
      refine (F1.mono (fun a q _ h => .inr (.inl h))).tr ?_
      rw [← e4]
      exact ((a3.mono (V' := rmV X np p) (fun a q h => .inr (.inr h))).sfr.wc _ (.inl ⟨rfl, .inl rfl⟩)).wc _ (.inl ⟨rfl, .inr rfl⟩)
    have F24 : efr (fun a q => a = X ∧ (q = 6 ∨ q = 7)) s2 s4 := by
      rw [← e4]
      exact (efr.rf.wc _ ⟨rfl, .inl rfl⟩).wc _ ⟨rfl, .inr rfl⟩
    have K4 : sk_K s4 = sk_K s1 := by rw [← e4]; exact a3.1
    have N4 : sk_n s4 = sk_n s1 := by rw [← e4]; exact a3.2.1
    have M4 : sk_m s4 = sk_m s1 := by rw [← e4]; exact a3.2.2.1
    have B4 : bks X (sk_K s4) (sk_n s4) := by rw [K4, N4]; exact B1
    have L := rmV_law (np := np) B hp38 hpn
    have c14 : ∀ q, q < 1398 → c' 1 q = c 1 q := fun q _ => by rw [u2 1 (by decide) (by decide)]
    have r14 : sk_r s4 (X + 14) 1 = sk_r s (X + 14) 1 := F2.r (by omega) (by unfold rmV; omega)
    have r22 : ∀ i, i ≠ np → sk_r s4 (X + 22) i = sk_r s (X + 22) i := fun i hi => F2.r (by omega) (by unfold rmV; omega)
    have r22n : sk_r s4 (X + 22) np = some p := by rw [F24.r (by omega), a3.r (by omega)]; exact h22
    have r8 : sk_r s4 X 8 = sk_r s X 8 := F2.r (by omega) (by unfold rmV; omega)
    have sc_keep : ∀ {p' : Nat} {W' : Nat → Nat} {sd' : Int32}, sc_rel s p' W' sd' → X + 38 ≤ p' → p' ≠ p → sc_rel s4 p' W' sd' ∧ sk_r s4 (p' + 2) 1 = sk_r s (p' + 2) 1 := fun {p' W' sd'} hs h38 hne => by
      have k7 := lay7_k4 hs.1
      have hb := (B.1 p' (by rw [k7.1]; decide)).2
      rw [k7.1] at hb
      have hb : p' + 10 ≤ sk_n s := hb
      have ap : ∀ i, i < 10 → ¬ (p ≤ p' + i ∧ p' + i < p + 10) := fun i hi => apartN B hpn (by rw [k7.1]; decide) hne (by rw [k7.1]; exact hi)
      refine ⟨sc_fr hs B.2.2.1 hb (fun i q hi h => ?_) F2, F2.r (by omega) (fun h => ?_)⟩
      · rcases h with h | h | h
        · omega
        · omega
        · exact absurd h (ap i hi)
      · rcases h with h | h | h
        · omega
        · omega
        · exact ap 2 (by decide) h
    refine ⟨⟨R_now_V Rn B4 L F2 (fun i q hi h => ?_) c14, ?_, R_img_V Ri B L F2 (by unfold rmV; omega) (fun p' i q e1 e2 e3 hi h => ?_) (fun q _ => by rw [u2 2 (by decide) (by decide)]) (u3 6 (by decide)), R_tape_V Rt B F2 (by unfold rmV; omega) (fun q => by unfold rmV; omega) (by unfold rmV; omega) (u3 9 (by decide)) (u3 14 (by decide)) (fun q _ => by rw [u2 6 (by decide) (by decide)])⟩, ?_, by omega, by omega, F2.r (by omega) (by unfold rmV; omega)⟩
    · unfold rmV at h; omega
    · refine ⟨(np + 1) % 12, min 12 (k + 1), Nat.mod_lt _ (by decide), by omega, ?_, ?_, u4, fun i p' hi hp' => ?_, fun i i' p' hi hi' h1 h2 => ?_, fun i hi => ?_⟩
      · rw [← e4, qc_at _ _ _ _ _ _ (by omega), qc_eq, pk_us]
      · rw [← e4, qc_eq, pk_us]
      · rw [r8]
        by_cases e : i = np
        · subst e
          rw [r22n] at hp'; cases hp'
          exact ⟨lt_X7 (F24.sfr.fr (by rw [a3.1, a3.2.1]; exact B1.2.2.1)) a4.1, hp38, hp8⟩
        · rw [r22 i e] at hp'
          obtain ⟨z1, z2, z3⟩ := g6 i p' hi hp'
          exact ⟨lt_X7 (F2.fr B.2.2.1) z1, z2, z3⟩
      · by_cases e : i = np
        · by_cases e' : i' = np
          · rw [e, e']
          · exfalso
            rw [e, r22n] at h1; cases h1
            rw [r22 i' e'] at h2
            exact hpo i' hi' e' h2
        · by_cases e' : i' = np
          · exfalso
            rw [e', r22n] at h2; cases h2
            rw [r22 i e] at h1
            exact hpo i hi e h1
          · rw [r22 i e] at h1; rw [r22 i' e'] at h2
            exact g7 i i' p' hi hi' h1 h2
      · by_cases e : i = 0
        · subst e
          have sl : ((np + 1) % 12 + 11 - 0) % 12 = np := by omega
          refine ⟨p, W, sd, by rw [sl]; exact r22n, sc_fr a4 (by rw [a3.1, a3.2.1]; exact B1.2.2.1) ?_ (fun i q hi h => by omega) F24.sfr, ?_, ?_, rfl, fun _ _ => rfl⟩
          · have k7 := lay7_k4 h7p
            have hb := (B1.1 p (by rw [k7.1]; decide)).2
            rw [k7.1] at hb
            rw [a3.2.1]; exact hb
          · refine wv_congr wvn (fun q hq => ?_)
            have := u5 q hq
            rw [Nat.sub_zero]; exact this
          · rw [r14, F24.r (by omega), a5]
            exact F1.r (by omega) (by omega)
        · obtain ⟨p', W', sd', z1, z2, z3, z4, z5, z6⟩ := g8 (i - 1) (by omega)
          have sl : ((np + 1) % 12 + 11 - i) % 12 = (np + 11 - (i - 1)) % 12 := by omega
          have sne : (np + 11 - (i - 1)) % 12 ≠ np := by omega
          have hp' := g6 _ p' (Nat.mod_lt _ (by decide)) z1
          have hne : p' ≠ p := fun q => hpo _ (Nat.mod_lt _ (by decide)) sne (by rw [z1, q])
          obtain ⟨y1, y2⟩ := sc_keep z2 hp'.2.1 hne
          refine ⟨p', W', sd', by rw [sl, r22 _ sne]; exact z1, y1, wv_congr z3 (fun q hq => u6 i q (by omega) hi hq), ?_, z5, z6⟩
          rw [y2, r14]; exact z4
    · have hne : p' ≠ p := fun e => hp8 (by rw [e1, e])
      have k7 := lay7_k4 e2
      have ap : ¬ (p ≤ p' + i ∧ p' + i < p + 10) := apartN B hpn (by rw [k7.1]; decide) hne (by rw [k7.1]; exact hi)
      rcases h with h | h | h
      · omega
      · omega
      · exact ap h
    · refine R_way_fr Rw B F2 (by unfold rmV; omega) (fun y q ky h38 => ?_) (Nat.le_refl _) (fun _ _ => rfl)
      have hne : y ≠ p := by
        rintro rfl
        rcases hpn with h | h
        · have := (B.1 y (by rw [ky]; decide)).2; rw [ky] at this; have : y + 8 ≤ sk_n s := this; omega
        · rw [h] at ky; cases ky
      have a0 := apartN (i := 0) B hpn (by rw [ky]; decide) hne (by rw [ky]; decide)
      have a1 := apartN (i := 1) B hpn (by rw [ky]; decide) hne (by rw [ky]; decide)
      refine ⟨fun h => ?_, fun h => ?_⟩
      · rcases h with h | h | h
        · omega
        · omega
        · exact a0 h
      · rcases h with h | h | h
        · omega
        · omega
        · exact a1 h
  unfold x11_remember
  simp only [zq_letP]
  rw [if_pos hl, g3, if_pos (zq_inBt g1 (by decide)), zq_cl (by omega)]
  cases hr : sk_r s (X + 22) np with
  | some p =>
    obtain ⟨y1, y2, y3⟩ := g6 np p g1 hr
    have k7 := (lay7_k4 y1).1
    obtain ⟨s2, a1, s', a2, a3⟩ := common s p sfr.rf B y1 hr y2 (.inr k7) (fun i hi hne q => hne (g7 i np p hi g1 q hr)) y3 (by omega) (by omega)
    simp only [ky_om]
    rw [if_pos y1, a1]
    simp only [zq_bindP]
    rw [a2]
    exact ⟨s', c', rfl, u1, a3.1, a3.2.1, a3.2.2.1, a3.2.2.2.1, a3.2.2.2.2, u2, u3⟩
  | none =>
    obtain ⟨s0, i1, i2, i3, i4, i5, i6⟩ := in_7 (N := N) (s := s) (by omega)
    simp only [ky_om]
    rw [i1]
    simp only [zq_bindP]
    rw [if_pos i5.1]
    generalize e1 : sk_wr s0 (X + 22) np (some (sk_n s)) = s1
    have F0 : sfr (fun a q => a = X + 22 ∧ q = np) s s0 := i2.sfr (fun a k h => h.elim)
    have F1 : sfr (fun a q => a = X + 22 ∧ q = np) s s1 := by
      rw [← e1]
      exact F0.wr _ ⟨rfl, rfl⟩ (.inr (by rw [k22]; rfl))
    have K1 : sk_K s1 = sk_K s0 := by rw [← e1, wr_K]
    have N1 : sk_n s1 = sk_n s + 10 := by rw [← e1, wr_n, i3]
    have M1 : sk_m s1 ≤ sk_m s + 200 := by rw [← e1, wr_m]; exact i4
    have l7 : lay_X7 (sk_K s1) (sk_r s1) (sk_n s) = true := by
      have z := i5.1
      have k7 := lay_X7_of z
      have ne : ∀ b q, b ≠ X + 22 → sk_r s1 b q = sk_r s0 b q := fun b q h => by rw [← e1, wr_r2 (by omega)]
      refine lay_X7_mk ⟨by rw [K1]; exact k7.1, (ne _ _ (by omega)).trans k7.2.1, ?_, (ne _ _ (by omega)).trans k7.2.2.2.1, ?_, (ne _ _ (by omega)).trans k7.2.2.2.2.2.1, ?_, (ne _ _ (by omega)).trans k7.2.2.2.2.2.2.2.1, ?_⟩
      · have := k7.2.2.1; unfold lay_X1 at this ⊢; rw [K1]; exact this
      · have q := lay_X6_of k7.2.2.2.2.1
        exact lay_X6_mk ⟨by rw [K1]; exact q.1, (ne _ _ (by omega)).trans q.2.1, by rw [K1]; exact q.2.2⟩
      · have q := lay_X8_of k7.2.2.2.2.2.2.1
        exact lay_X8_mk ⟨by rw [K1]; exact q.1, (ne _ _ (by omega)).trans q.2.1, by rw [K1]; exact q.2.2.1, (ne _ _ (by omega)).trans q.2.2.2.1, by rw [K1]; exact q.2.2.2.2.1, (ne _ _ (by omega)).trans q.2.2.2.2.2.1, by rw [K1]; exact q.2.2.2.2.2.2⟩
      · have q := lay_X2_of k7.2.2.2.2.2.2.2.2
        exact lay_X2_mk ⟨by rw [K1]; exact q.1, (ne _ _ (by omega)).trans q.2.1, by rw [K1]; exact q.2.2⟩
    have kn := lay7_kinds l7
    have B1 : bks X (sk_K s1) (sk_n s1) := by
      refine bks_add B (fun a ha => by rw [K1]; exact i2.1 a ha) (by rw [(lay7_k4 l7).1]; decide) (by rw [(lay7_k4 l7).1, N1]; rfl) (fun a h1 h2 => ?_) (fun a ha => ?_)
      · obtain ⟨i, rfl⟩ : ∃ i, a = sk_n s + i := ⟨a - sk_n s, by omega⟩
        exact kn i (by omega) (by omega)
      · rw [K1, i2.2.2.2 a (by omega)]; exact B.2.2.1 a (by omega)
    have c61 : sk_c s1 X 6 = nI np := (F1.c (by omega) (by omega)).trans g3
    have r22' : sk_r s1 (X + 22) np = some (sk_n s) := by rw [← e1, wr_same]
    obtain ⟨s2, a1, s', a2, a3⟩ := common s1 (sk_n s) F1 B1 l7 r22' hn (.inl (Nat.le_refl _)) (fun i hi hne q => by
      have := (g6 i _ hi q).1
      have k7 := (lay7_k4 this).1
      have := B.2.2.1 (sk_n s) (Nat.le_refl _)
      rw [k7] at this; cases this) (fun q => by
      rcases Ri with ⟨h1, _⟩ | ⟨p', _, _, _, h1, _, _, h4, _⟩
      · rw [h1] at q; cases q
      · rw [h1] at q; cases q
        have k7 := (lay7_k4 h4.1).1
        have := B.2.2.1 (sk_n s) (Nat.le_refl _)
        rw [k7] at this; cases this) (by omega) M1
    rw [c61, if_pos (zq_inBt g1 (by decide)), zq_cl (by omega), r22']
    simp only [ky_om]
    rw [if_pos l7, a1]
    simp only [zq_bindP]
    rw [a2]
    exact ⟨s', c', rfl, u1, a3.1, a3.2.1, a3.2.2.1, a3.2.2.2.1, a3.2.2.2.2, u2, u3⟩
end
