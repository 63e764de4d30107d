/-! ACTS: the scene as it is changes -/
/-- what an act writes: the scene, but not its rules; what laws write for themselves -/
def act1 (X : Nat) (s : sk_S) (a k : Nat) : Prop := (X + 12 ≤ a ∧ a ≤ X + 21 ∧ a ≠ X + 14 ∧ a ≠ X + 15 ∧ ¬ (a = X + 12 ∧ k ≤ 3) ∧ ¬ (a = X + 16 ∧ k ≤ 2) ∧ ¬ (a = X + 20 ∧ k = 0)) ∨ ((sk_K s a).1 = 4 ∧ 6 ≤ k) ∨ ∃ q, a = q + 5 ∧ (sk_K s q).1 = 4
theorem act1_acted {X : Nat} {s : sk_S} {a k : Nat} (h : act1 X s a k) : acted X s a k := by
  rcases h with h | h | h
  · exact .inr h
  · exact .inl (.inr (.inr (.inr (.inr (.inl h)))))
  · exact .inl (.inr (.inr (.inr (.inr (.inr (.inl h))))))
section
variable {N X j : Nat} {s s' : sk_S} {c c' : Nat → Nat → Int32} {W W' : Nat → Nat} {sd sd' : Int32} {m : lwM} {sb : Nat}
/-- rows of the reference that an act leaves -/
def ceqA (c c' : Nat → Nat → Int32) : Prop := (∀ k, 549 ≤ k → k < 1398 → c' 1 k = c 1 k) ∧ (∀ k, k < 1398 → c' 2 k = c 2 k) ∧ (∀ k, k < 6588 → c' 5 k = c 5 k) ∧ c' 0 6 = c 0 6 ∧ c' 0 7 = c 0 7 ∧ c' 0 9 = c 0 9 ∧ c' 0 14 = c 0 14 ∧ ∀ k, k < 400 → c' 6 k = c 6 k
theorem ceq.A (h : ceq c c') : ceqA c c' := ⟨fun k _ h2 => h.1 k h2, h.2⟩
theorem ceqA.tr {c1 c2 : Nat → Nat → Int32} (h : ceqA c c1) (h' : ceqA c1 c2) : ceqA c c2 := ⟨fun k h1 hk => (h'.1 k h1 hk).trans (h.1 k h1 hk), fun k hk => (h'.2.1 k hk).trans (h.2.1 k hk), fun k hk => (h'.2.2.1 k hk).trans (h.2.2.1 k hk), h'.2.2.2.1.trans h.2.2.2.1, h'.2.2.2.2.1.trans h.2.2.2.2.1, h'.2.2.2.2.2.1.trans h.2.2.2.2.2.1, h'.2.2.2.2.2.2.1.trans h.2.2.2.2.2.2.1, fun k hk => (h'.2.2.2.2.2.2.2 k hk).trans (h.2.2.2.2.2.2.2 k hk)⟩
theorem ceqA.w {c1 : Nat → Nat → Int32} (h : ceqA c c1) {k : Nat} (v : Int32) (hk : k < 549) : ceqA c (bk_w c1 1 k v) := by
  obtain ⟨h1, h2, h3, h4, h5, h6, h7, h8⟩ := h
  exact ⟨fun q a b => (bk_w_at (by omega)).trans (h1 q a b), fun q hq => by rw [bk_w_ne (by decide)]; exact h2 q hq, fun q hq => by rw [bk_w_ne (by decide)]; exact h3 q hq, by rw [bk_w_ne (by decide)]; exact h4, by rw [bk_w_ne (by decide)]; exact h5, by rw [bk_w_ne (by decide)]; exact h6, by rw [bk_w_ne (by decide)]; exact h7, fun q hq => by rw [bk_w_ne (by decide)]; exact h8 q hq⟩
theorem RA_act (R : RA X s c W sd m) (F : sfr (act1 X s) s s') (B' : bks X (sk_K s') (sk_n s')) (S' : sc_rel s' (X + 12) W' sd') (v' : wv (c' 1) W' sd') (C : ceqA c c') (e14 : W' 14 = W 14) (eW : ∀ j, j < 28 → W' (17 + j) = W (17 + j)) : RA X s' c' W' sd' m := by
  obtain ⟨Rn, Rp, Ri, Rt⟩ := R
  obtain ⟨hl, B, S, wvn, lwn⟩ := id Rn
  have F' := F.mono (fun a k _ h => act1_acted h)
  have hn := B.2.2.2
  have h14 : (sk_K s (X + 14)).1 = 6 := by rw [ly_X6_c (ly_X7_l1 (ly_X11_l3 hl))]
  obtain ⟨c1, c2, c5, c06, c07, c09, c14, c6⟩ := C
  refine ⟨⟨lt_X11 (F.fr B.2.2.1) hl, B', S', v', ?_⟩, R_past_fr Rp hl B F' c5 c07 e14 eW, R_img_fr Ri hl B F' c2 c06, R_tape_fr Rt hl B F' c09 c14 c6⟩
  have e : sk_r s' (X + 14) 1 = sk_r s (X + 14) 1 := F'.r (by omega) (acted_in B (by omega) (by omega) (by rw [h14]; decide) (by omega) (by omega))
  rw [e, e14]
  exact lw_relT (lw_rel_act lwn B F') (fun k hk => c1 _ (by omega) (by omega))
theorem way_act (Rw : R_way X s W m sb) (B : bks X (sk_K s) (sk_n s)) (hX : (sk_K s X).1 = 11) (F : sfr (act1 X s) s s') (eW : ∀ j, j < 28 → W' (17 + j) = W (17 + j)) {sb' : Nat} (hs : sb ≤ sb') : R_way X s' W' m sb' := by
  have b1 := B.1
  have key : ∀ a, (a = X ∨ ∃ y i, a = y + i ∧ i < 2 ∧ (sk_K s y).1 = 10 ∧ X + 38 ≤ y) → ∀ k, ¬ act1 X s a k := by
    rintro a ha k (h | h | ⟨q, h1, h2⟩)
    · rcases ha with e | ⟨y, i, e, hi, ky, h38⟩ <;> omega
    · rcases ha with e | ⟨y, i, e, hi, ky, h38⟩
      · rw [e, hX] at h; omega
      · have := bk_apart B (p := a) (q := y) (i := 0) (j := i) (by rw [h.1]; decide) (by rw [ky]; decide) (by rw [h.1]; decide) (by rw [ky]; show _ < 8; omega) (by omega)
        rw [this, ky] at h; omega
    · have hb := b1 q (by rw [h2]; decide)
      rcases ha with e | ⟨y, i, e, hi, ky, h38⟩
      · rw [h2] at hb; omega
      · have := bk_apart B (p := q) (q := y) (i := 5) (j := i) (by rw [h2]; decide) (by rw [ky]; decide) (by rw [h2]; decide) (by rw [ky]; show _ < 8; omega) (by omega)
        rw [this, ky] at h2; cases h2
  exact R_way_fr Rw B F (key X (.inl rfl) 9) (fun y k ky h38 => ⟨key y (.inr ⟨y, 0, rfl, by decide, ky, h38⟩) k, key (y + 1) (.inr ⟨y, 1, rfl, by decide, ky, h38⟩) k⟩) hs eW
theorem wd_low (h : wd W) (hW : ∀ k, 8 ≤ k → W' k = W k) (hb : W' 0 ≤ 9 ∧ W' 1 ≤ 9 ∧ W' 2 ≤ 5 ∧ W' 3 ≤ 1 ∧ W' 4 ≤ 9 ∧ W' 5 ≤ 9 ∧ W' 6 ≤ 999 ∧ W' 7 ≤ 9999) : wd W' := by
  obtain ⟨⟨h0, h1, h2, h3, h4, h5, h6, h7, h8, h9, h10, h11, h12, h13, h14, h15⟩, a, b, d, e⟩ := h
  obtain ⟨b0, b1, b2, b3, b4, b5, b6, b7⟩ := hb
  refine ⟨⟨b0, b1, b2, b3, b4, b5, b6, b7, ?_, ?_, ?_, ?_, ?_, ?_, ?_, ?_⟩, fun q hq => ?_, fun q hq => ?_, fun q hq => ?_, fun q hq => ?_⟩
  · rw [hW 8 (by omega)]; exact h8
  · rw [hW 9 (by omega)]; exact h9
  · rw [hW 10 (by omega)]; exact h10
  · rw [hW 11 (by omega)]; exact h11
  · rw [hW 12 (by omega)]; exact h12
  · rw [hW 13 (by omega)]; exact h13
  · rw [hW 14 (by omega)]; exact h14
  · rw [hW 15 (by omega)]; exact h15
  · rw [hW _ (by omega), hW _ (by omega), hW _ (by omega), hW _ (by omega)]; exact a q hq
  · rw [hW _ (by omega), hW _ (by omega), hW _ (by omega)]; exact b q hq
  · rw [hW _ (by omega), hW _ (by omega), hW 12 (by omega)]; exact d q hq
  · rw [hW _ (by omega), hW _ (by omega), hW _ (by omega), hW _ (by omega), hW _ (by omega)]; exact e q hq
/-- the body alone changes -/
theorem sc_body {p : Nat} (h : sc_rel s p W sd) (F : cfr (fun b _ => b = p + 1) s s') (hw : wd W') (hW : ∀ k, 8 ≤ k → W' k = W k) (hb : sk_c s' (p + 1) 0 = nI (psN W') ∧ sk_c s' (p + 1) 1 = nI (W' 4) ∧ sk_c s' (p + 1) 2 = nI (W' 5) ∧ sk_c s' (p + 1) 3 = nI (W' 6) ∧ sk_c s' (p + 1) 4 = nI (W' 7) ∧ sk_c s' (p + 1) 5 = nI (W' 8) ∧ sk_c s' (p + 1) 6 = nI (W' 9) ∧ sk_c s' (p + 1) 7 = sd') : sc_rel s' p W' sd' := by
  obtain ⟨h1, h2, h3, h4, h5, h6, h7, ⟨nx, n1, n2, n3, n4⟩, h9⟩ := h
  have cc : ∀ b k, b ≠ p + 1 → sk_c s' b k = sk_c s b k := fun b k hb => F.2.2.2.2.2 b k hb
  refine ⟨by rw [F.1, F.2.2.1]; exact h1, hw, hb, fun j hj => ?_, fun c hc => ?_, ?_, fun k hk => ?_, ⟨nx, n1, ?_, ?_, fun a ha => ?_⟩, ?_⟩
  · rw [cc _ _ (by omega), hW _ (by omega)]; exact h4 j hj
  · rw [cc _ _ (by omega), F.2.1, hW _ (by omega), hW _ (by omega), hW _ (by omega)]; exact h5 c hc
  · rw [cc _ _ (by omega), cc _ _ (by omega), cc _ _ (by omega), hW _ (by omega), hW _ (by omega), hW _ (by omega)]; exact h6
  · rw [hW 12 (by omega)] at hk
    rw [cc _ _ (by omega), cc _ _ (by omega), hW _ (by omega), hW _ (by omega)]; exact h7 k hk
  · rw [cc _ _ (by omega)]; exact n2
  · rw [cc _ _ (by omega), hW 15 (by omega)]; exact n3
  · rw [hW 15 (by omega)] at ha
    rw [cc _ _ (by omega)]
    have : rowN W' a = rowN W a := by
      unfold rowN
      rw [hW _ (by omega), hW _ (by omega), hW _ (by omega), hW _ (by omega), hW _ (by omega)]
    rw [this]; exact n4 a ha
  · rw [cc _ _ (by omega), hW 13 (by omega)]; exact h9
theorem act_body {b k : Nat} (h : b = X + 12 + 1) : act1 X s b k := .inl (by omega)
theorem bks_cfr {V : Nat → Nat → Prop} (B : bks X (sk_K s) (sk_n s)) (F : cfr V s s') : bks X (sk_K s') (sk_n s') := by rw [F.1, F.2.2.2.1]; exact B
/-- how an act ends -/
theorem RR_act (hj : j < 512) (Z : R_sz X j s) {s1 : sk_S} (h1 : sk_n s1 ≤ sk_n s + 10) (h2 : sk_m s1 ≤ sk_m s + 200) (h3 : sk_r s1 X 9 = sk_r s X 9) (R : RA X s1 c' W' sd' m) (Rw : R_way X s1 W' m (1 + 12 * j)) : RR X (j + 1) s1 c' := by
  refine ⟨by omega, ?_, W', sd', m, R, ?_⟩
  · unfold R_sz at Z ⊢
    rw [h3]; omega
  · rcases Rw with h | ⟨y, st, ca, wa, k1, k2, k3, k4, k5, k6, k7⟩
    · exact .inl h
    · exact .inr ⟨y, st, ca, wa, k1, k2, k3, k4, k5, by omega, k7⟩
theorem isDrownN (R : R_now X s c W sd m) : x1_isDrowned N s (X + 13) = some (s, if W 8 ≤ W 7 ∧ 12 ≤ psN W then 1 else 0) := by
  obtain ⟨c0, -, -, -, c4, c5, -⟩ := R_calm R
  have hw := R.2.2.1.2.1
  have hps := psN_lt hw
  have l1 : lay_X1 (sk_K s) (sk_r s) (X + 13) = true := ly_X7_l0 (ly_X11_l3 R.1)
  have b7 := hw.1.2.2.2.2.2.2.2.1
  have b8 := hw.1.2.2.2.2.2.2.2.2.1
  unfold x1_isDrowned
  rw [if_pos l1, c4, c5, c0, wy_ofl _ hps]
  have e : (nI (W 7) < nI (W 8)) = (W 7 < W 8) := zq_lt (by omega) (by omega)
  simp only [e]
  by_cases h1 : W 7 < W 8
  · rw [if_pos h1, if_neg (by omega)]
  · rw [if_neg h1]
    by_cases h2 : psN W < 12
    · rw [if_pos h2, if_neg (by decide), if_neg (by omega)]
    · rw [if_neg h2, if_pos rfl, if_pos (by omega)]
theorem ps_out (h : wd W) : psN W < 12 ↔ (W 0 = 0 ∧ W 1 = 0) := by
  obtain ⟨⟨h0, h1, h2, h3, -⟩, -⟩ := h
  unfold psN; omega
theorem isOutR (R : rwd c W sd m) : md_isOut_r c = if psN W < 12 then 1 else 0 := by
  have w0 := wv_n R.1 (k := 0) (by decide) (by decide)
  have w1 := wv_n R.1 (k := 1) (by decide) (by decide)
  have b0 := R.2.1.1.1
  have b1 := R.2.1.1.2.1
  have e0 : (nI (W 0) = (0 : Int32)) = (W 0 = 0) := zq_eq (b := 0) (by omega) (by decide)
  have e1 : (nI (W 1) = (0 : Int32)) = (W 1 = 0) := zq_eq (b := 0) (by omega) (by decide)
  have := ps_out R.2.1
  unfold md_isOut_r
  rw [w0, w1]
  simp only [e0, e1]
  by_cases h0 : W 0 = 0
  · by_cases h1 : W 1 = 0
    · rw [if_pos h0, if_pos h1, if_pos (this.mpr ⟨h0, h1⟩)]
    · rw [if_pos h0, if_neg h1, if_neg (fun q => h1 (this.mp q).2)]
  · rw [if_neg h0, if_neg (fun q => h0 (this.mp q).1)]
theorem isDrownR (R : rwd c W sd m) : md_isDrowned_r c = if W 8 ≤ W 7 ∧ 12 ≤ psN W then 1 else 0 := by
  have w7 := wv_n R.1 (k := 7) (by decide) (by decide)
  have w8 := wv_n R.1 (k := 8) (by decide) (by decide)
  have b7 := R.2.1.1.2.2.2.2.2.2.2.1
  have b8 := R.2.1.1.2.2.2.2.2.2.2.2.1
  have e : (nI (W 7) < nI (W 8)) = (W 7 < W 8) := zq_lt (by omega) (by omega)
  unfold md_isDrowned_r
  rw [w7, w8, isOutR R]
  simp only [e]
  by_cases h1 : W 7 < W 8
  · rw [if_pos h1, if_neg (by omega)]
  · rw [if_neg h1]
    by_cases h2 : psN W < 12
    · rw [if_pos h2, if_neg (by decide), if_neg (by omega)]
    · rw [if_neg h2, if_pos rfl, if_pos (by omega)]
/-- talk and water: one more, a minute more -/
def tkW (W : Nat → Nat) (k : Nat) : Nat → Nat := ndS (ndS W k (min 9 (W k + 1))) 7 (min 9999 (W 7 + 1))
theorem tk_ref {k : Nat} (hk : k = 4 ∨ k = 5) (hN : 10000 ≤ N) (R : RA X s c W sd m) {s2 : sk_S} {c2 : Nat → Nat → Int32} (R2 : RA X s2 c2 W sd m) (hr : md_remembers N c = some (c2, 0)) : ∃ c3, md_takesMinute N c (nI k) = some (c3, nI (min 9 (W k + 1))) ∧ wv (c3 1) (tkW W k) sd ∧ ceqA c2 c3 ∧ c3 0 0 = c2 0 0 ∧ wd (tkW W k) := by
  have w := R2.1.2.2.2.1
  have hw := R2.1.2.2.1.2.1
  have wk := wv_n w (k := k) (by omega) (by omega)
  have w7 := wv_n w (k := 7) (by decide) (by decide)
  have bk : W k ≤ 9 := by
    rcases hk with rfl | rfl
    · exact hw.1.2.2.2.2.1
    · exact hw.1.2.2.2.2.2.1
  have b7 := hw.1.2.2.2.2.2.2.2.1
  have m9 : mt_min 9 (nI (W k) + 1) = nI (min 9 (W k + 1)) := by rw [nI_1]; exact zq_min (x := 9) (by decide) (by omega)
  have m99 : mt_min 9999 (nI (W 7) + 1) = nI (min 9999 (W 7 + 1)) := by rw [nI_1]; exact zq_min (x := 9999) (by decide) (by omega)
  refine ⟨bk_w (bk_w c2 1 k (nI (min 9 (W k + 1)))) 1 7 (nI (min 9999 (W 7 + 1))), ?_, ⟨fun q hq h16 => ?_, ?_⟩, (ceq.rf.A.w _ (by omega)).w _ (by decide), ?_, ?_⟩
  · unfold md_takesMinute
    rw [hr]
    simp only [zq_bindP, zq_letP]
    rw [if_pos (zq_inBt (show k < 2247 by omega) (by decide)), zq_cl (by omega), wk, m9]
    unfold md_goesBy_c
    rw [bk_w_at (show 7 ≠ k by omega), w7, m99, bk_w_at (show k ≠ 7 by omega), bk_w_same]
  · unfold tkW ndS
    by_cases e7 : q = 7
    · subst e7; rw [bk_w_same, if_pos rfl]
    · rw [bk_w_at e7, if_neg e7]
      by_cases ek : q = k
      · subst ek; rw [bk_w_same, if_pos rfl]
      · rw [bk_w_at ek, if_neg ek]; exact w.1 q hq h16
  · rw [bk_w_at (by decide), bk_w_at (by omega)]; exact w.2
  · rw [bk_w_ne (by decide), bk_w_ne (by decide)]
  · refine wd_low hw (fun q hq => by unfold tkW ndS; rw [if_neg (by omega), if_neg (by omega)]) ?_
    obtain ⟨⟨h0, h1, h2, h3, h4, h5, h6, h7, -⟩, -⟩ := hw
    rcases hk with rfl | rfl <;> (unfold tkW ndS; simp; omega)
theorem tk_cls {k : Nat} (hk : k = 4 ∨ k = 5) {s2 : sk_S} {c2 : Nat → Nat → Int32} (R2 : RA X s2 c2 W sd m) (hw' : wd (tkW W k)) : ∃ s3, (x1_pass N (sk_wc s2 (X + 13) (k - 3) (nI (min 9 (W k + 1)))) (X + 13) 1) = some (s3, 0) ∧ cfr (fun b _ => b = X + 12 + 1) s2 s3 ∧ sc_rel s3 (X + 12) (tkW W k) sd ∧ sk_c s3 (X + 13) (k - 3) = nI (min 9 (W k + 1)) := by
  obtain ⟨c0, c1, c2', c3, c4, c5, c6, c7, -⟩ := R_calm R2.1
  have l1 : lay_X1 (sk_K s2) (sk_r s2) (X + 13) = true := ly_X7_l0 (ly_X11_l3 R2.1.1)
  have hw := R2.1.2.2.1.2.1
  have b7 := hw.1.2.2.2.2.2.2.2.1
  have m99 : mt_min 9999 (nI (W 7) + 1) = nI (min 9999 (W 7 + 1)) := by rw [nI_1]; exact zq_min (x := 9999) (by decide) (by omega)
  have F : cfr (fun b _ => b = X + 12 + 1) s2 (sk_wc (sk_wc s2 (X + 13) (k - 3) (nI (min 9 (W k + 1)))) (X + 13) 4 (nI (min 9999 (W 7 + 1)))) := ((cfr.rf (V := fun b _ => b = X + 12 + 1)).wc _ rfl).wc _ rfl
  have at_ : ∀ q, sk_c (sk_wc (sk_wc s2 (X + 13) (k - 3) (nI (min 9 (W k + 1)))) (X + 13) 4 (nI (min 9999 (W 7 + 1)))) (X + 13) q = if q = 4 then nI (min 9999 (W 7 + 1)) else if q = k - 3 then nI (min 9 (W k + 1)) else sk_c s2 (X + 13) q := fun q => by
    rw [qc_eq, qc_eq]
    by_cases e : q = 4
    · subst e; rw [pk_us, if_pos rfl]
    · rw [pk_un e, if_neg e]
      by_cases e2 : q = k - 3
      · subst e2; rw [pk_us, if_pos rfl]
      · rw [pk_un e2, if_neg e2]
  refine ⟨_, ?_, F, sc_body R2.1.2.2.1 F hw' (fun q hq => by unfold tkW ndS; rw [if_neg (by omega), if_neg (by omega)]) ?_, ?_⟩
  · unfold x1_pass
    simp only [zq_letP]
    have l1' : lay_X1 (sk_K (sk_wc s2 (X + 13) (k - 3) (nI (min 9 (W k + 1))))) (sk_r (sk_wc s2 (X + 13) (k - 3) (nI (min 9 (W k + 1))))) (X + 13) = true := l1
    rw [if_pos l1', qc_at _ _ _ _ _ _ (by omega), c4, m99]
  · rw [show X + 12 + 1 = X + 13 by omega, at_, at_, at_, at_, at_, at_, at_, at_]
    rcases hk with rfl | rfl
    · simp only [c0, c2', c3, c5, c6, c7]
      refine ⟨?_, ?_, ?_, ?_, ?_, ?_, ?_, ?_⟩ <;> simp [tkW, ndS, psN]
    · simp only [c0, c1, c3, c5, c6, c7]
      refine ⟨?_, ?_, ?_, ?_, ?_, ?_, ?_, ?_⟩ <;> simp [tkW, ndS, psN]
  · rw [at_, if_neg (by omega), if_pos rfl]
theorem rwd_of (R : RA X s c W sd m) : rwd c W sd m := R_rwd R.1
theorem tk_W {k : Nat} (hk : k = 4 ∨ k = 5) : tkW W k 14 = W 14 ∧ ∀ j, j < 28 → tkW W k (17 + j) = W (17 + j) := by
  unfold tkW ndS
  exact ⟨by rw [if_neg (by omega), if_neg (by omega)], fun j hj => by rw [if_neg (by omega), if_neg (by omega)]⟩
set_option maxRecDepth 20000 in
theorem sm_talk_ok (hN : 2000000000 ≤ N) : sm_talk X N (RR X) := by
  intro j s c hj ⟨_, Z, W, sd, m, R, Rw⟩
  have R0 := RA_c R ceq_0
  have hd := isDrownN (N := N) R.1
  have hdr := isDrownR (rwd_of R0)
  by_cases h : W 8 ≤ W 7 ∧ 12 ≤ psN W
  · rw [if_pos h] at hd hdr
    refine ⟨sk_rs s 6, bk_w (bk_w c 0 0 0) 0 0 1, _, 0, ?_, ?_, .inr ⟨rfl, bk_w_same _ _ _ _⟩, RR_thr hj Z R Rw (thr_ceq 1)⟩
    · unfold x11_talk
      rw [if_pos R.1.1, hd]
      simp only [zq_bindP]
      rw [if_neg (by decide)]
    · simp only [md_talk, zq_letP, hdr, th_r, th_c1, d10, d11, or_true, ↓reduceIte]
  · rw [if_neg h] at hd hdr
    obtain ⟨s2, c2, a1, a2, a3, a4, a5, a6, a7, a8, a9⟩ := rm_ok (N := N) (by omega) R0 Rw
    obtain ⟨c3, b1, b2, b3, b4, b5⟩ := tk_ref (N := N) (k := 4) (.inl rfl) (by omega) R0 a3 a2
    obtain ⟨s3, d1, d2, d3, d4⟩ := tk_cls (N := N) (k := 4) (.inl rfl) a3 b5
    have F : sfr (act1 X s2) s2 s3 := (sfr.of d2).mono (fun b k _ h => act_body h)
    have hX : (sk_K s2 X).1 = 11 := by rw [ly_X11_c a3.1.1]
    have R3 := RA_act a3 F (bks_cfr a3.1.2.1 d2) d3 b2 b3 (tk_W (.inl rfl)).1 (tk_W (.inl rfl)).2
    have Rw3 := way_act (W' := tkW W 4) a4 a3.1.2.1 hX F (tk_W (.inl rfl)).2 (Nat.le_refl _)
    refine ⟨s3, c3, .inl (some (.int (nI (min 9 (W 4 + 1))))), nI (min 9 (W 4 + 1)), ?_, ?_, .inl ⟨rfl, ?_⟩, RR_act hj Z (by rw [d2.2.2.2.1]; exact a5) (by rw [d2.2.2.2.2.1]; exact a6) (by rw [d2.2.2.1]; exact a7) R3 Rw3⟩
    · have om : bo_oneMore (nI (W 4)) = nI (min 9 (W 4 + 1)) := by
        unfold bo_oneMore
        rw [nI_1]
        exact zq_min (x := 9) (by decide) (by have := a3.1.2.2.1.2.1.1.2.2.2.2.1; omega)
      unfold x11_talk
      rw [if_pos R.1.1, hd]
      simp only [zq_bindP]
      rw [if_pos trivial, a1]
      simp only [zq_bindP, zq_letP]
      rw [(R_calm a3.1).2.1, om]
      have d1' : x1_pass N (sk_wc s2 (X + 13) 1 (nI (min 9 (W 4 + 1)))) (X + 13) 1 = some (s3, 0) := d1
      rw [d1']
      simp only [zq_bindP]
      have d4' : sk_c s3 (X + 13) 1 = nI (min 9 (W 4 + 1)) := d4
      rw [d4']
    · have b1' : md_takesMinute N (bk_w c 0 0 0) 4 = some (c3, nI (min 9 (W 4 + 1))) := b1
      simp only [md_talk, zq_letP, hdr, th_r, th_c0, d00, true_or, ↓reduceIte, b1', zq_bindP]
    · rw [b4, a9 0 (by decide), bk_w_same]
set_option maxRecDepth 20000 in
theorem sm_pour_ok (hN : 2000000000 ≤ N) : sm_pour X N (RR X) := by
  intro j s c hj ⟨_, Z, W, sd, m, R, Rw⟩
  have R0 := RA_c R ceq_0
  have hd := isDrownN (N := N) R.1
  have hdr := isDrownR (rwd_of R0)
  by_cases h : W 8 ≤ W 7 ∧ 12 ≤ psN W
  · rw [if_pos h] at hd hdr
    refine ⟨sk_rs s 6, bk_w (bk_w c 0 0 0) 0 0 1, _, 0, ?_, ?_, .inr ⟨rfl, bk_w_same _ _ _ _⟩, RR_thr hj Z R Rw (thr_ceq 1)⟩
    · unfold x11_pour
      rw [if_pos R.1.1, hd]
      simp only [zq_bindP]
      rw [if_neg (by decide)]
    · simp only [md_pour, zq_letP, hdr, th_r, th_c1, d10, d11, or_true, ↓reduceIte]
  · rw [if_neg h] at hd hdr
    obtain ⟨s2, c2, a1, a2, a3, a4, a5, a6, a7, a8, a9⟩ := rm_ok (N := N) (by omega) R0 Rw
    obtain ⟨c3, b1, b2, b3, b4, b5⟩ := tk_ref (N := N) (k := 5) (.inr rfl) (by omega) R0 a3 a2
    obtain ⟨s3, d1, d2, d3, d4⟩ := tk_cls (N := N) (k := 5) (.inr rfl) a3 b5
    have F : sfr (act1 X s2) s2 s3 := (sfr.of d2).mono (fun b k _ h => act_body h)
    have hX : (sk_K s2 X).1 = 11 := by rw [ly_X11_c a3.1.1]
    have R3 := RA_act a3 F (bks_cfr a3.1.2.1 d2) d3 b2 b3 (tk_W (.inr rfl)).1 (tk_W (.inr rfl)).2
    have Rw3 := way_act (W' := tkW W 5) a4 a3.1.2.1 hX F (tk_W (.inr rfl)).2 (Nat.le_refl _)
    refine ⟨s3, c3, .inl (some (.int (nI (min 9 (W 5 + 1))))), nI (min 9 (W 5 + 1)), ?_, ?_, .inl ⟨rfl, ?_⟩, RR_act hj Z (by rw [d2.2.2.2.1]; exact a5) (by rw [d2.2.2.2.2.1]; exact a6) (by rw [d2.2.2.1]; exact a7) R3 Rw3⟩
    · have om : bo_oneMore (nI (W 5)) = nI (min 9 (W 5 + 1)) := by
        unfold bo_oneMore
        rw [nI_1]
        exact zq_min (x := 9) (by decide) (by have := a3.1.2.2.1.2.1.1.2.2.2.2.2.1; omega)
      unfold x11_pour
      rw [if_pos R.1.1, hd]
      simp only [zq_bindP]
      rw [if_pos trivial, a1]
      simp only [zq_bindP, zq_letP]
      rw [(R_calm a3.1).2.2.1, om]
      have d1' : x1_pass N (sk_wc s2 (X + 13) 2 (nI (min 9 (W 5 + 1)))) (X + 13) 1 = some (s3, 0) := d1
      rw [d1']
      simp only [zq_bindP]
      have d4' : sk_c s3 (X + 13) 2 = nI (min 9 (W 5 + 1)) := d4
      rw [d4']
    · have b1' : md_takesMinute N (bk_w c 0 0 0) 5 = some (c3, nI (min 9 (W 5 + 1))) := b1
      simp only [md_pour, zq_letP, hdr, th_r, th_c0, d00, true_or, ↓reduceIte, b1', zq_bindP]
    · rw [b4, a9 0 (by decide), bk_w_same]
end
