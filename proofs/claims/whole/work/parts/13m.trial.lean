/-! TRIAL, SPAN: moves on a body aside -/
section
variable {N X j : Nat} {s s' : sk_S} {c c' c0 : Nat → Nat → Int32} {W W' W0 : Nat → Nat} {sd sd' sd0 : Int32} {m m' : lwM} {sb : Nat} {mi mv lg : Nat}
theorem bk_w_self {a k : Nat} : bk_w c a k (c a k) = c := by
  funext x y
  by_cases h : x = a
  · subst h
    by_cases h2 : y = k
    · subst h2; rw [bk_w_same]
    · rw [bk_w_at h2]
  · rw [bk_w_ne h]
theorem rwd_next (R : rwd c W sd m) (v : wv (c' 1) W' sd') (hw : wd W') (e : W' 14 = W 14) (M : mkeq c c') : rwd c' W' sd' m := by
  refine ⟨v, hw, ?_⟩
  have e1 : c' 1 14 = c 1 14 := by rw [wv_n v (by decide) (by decide), wv_n R.1 (by decide) (by decide), e]
  have e2 : (fun k => c' 1 (549 + k)) = fun k => c 1 (549 + k) := funext (fun k => M.2.2 _ (by omega))
  have := R.2.2
  unfold ref_law at this ⊢
  rw [e1, e2]; exact this
theorem rwd_seed (R : rwd c W sd m) : rwd (bk_w c 1 16 sd') W sd' m := by
  refine rwd_next R ⟨fun k hk h16 => by rw [bk_w_at h16]; exact R.1.1 k hk h16, bk_w_same _ _ _ _⟩ R.2.1 rfl ⟨fun q _ h1 _ _ => bk_w_ne h1, fun q _ _ => by rw [bk_w_ne (by decide)], fun q hq => bk_w_at (by omega)⟩
theorem stillB {a : Nat} (l1 : lay_X1 (sk_K s) (sk_r s) a = true) (hw : wd W) (b : bd s a W sd) : x1_isStill N s a = some (s, if ovr W then 1 else 0) := by
  have hps := psN_lt hw
  have b7 := hw.1.2.2.2.2.2.2.2.1
  have b8 := hw.1.2.2.2.2.2.2.2.2.1
  obtain ⟨c0, -, -, -, c4, c5, -⟩ := b
  have e : (nI (W 7) < nI (W 8)) = (W 7 < W 8) := zq_lt (by omega) (by omega)
  unfold x1_isStill x1_isDrowned
  rw [if_pos l1, if_pos l1, c0, c4, c5, wy_ofl _ hps]
  simp only [e]
  by_cases h1 : psN W < 12
  · simp [h1]
  · by_cases h2 : W 7 < W 8
    · have h3 : ¬ W 8 ≤ W 7 := by omega
      simp [h1, h2, h3]
    · have h3 : W 8 ≤ W 7 := by omega
      simp [h1, h2, h3]
theorem act1_key (B : bks X (sk_K s) (sk_n s)) (hX : (sk_K s X).1 = 11) : ∀ a, (a = X ∨ ∃ y i, a = y + i ∧ i < 2 ∧ (sk_K s y).1 = 10 ∧ X + 38 ≤ y) → ∀ k, ¬ act1 X s a k := by
  have b1 := B.1
  rintro a ha k (h | h | ⟨q, h1, h2⟩)
  · rcases ha with e | ⟨y, i, e, hi, ky, h38⟩ <;> omega
  · rcases ha with e | ⟨y, i, e, hi, ky, h38⟩
    · rw [e, hX] at h; omega
    · have := bk_apart B (p := a) (q := y) (i := 0) (j := i) (by rw [h.1]; decide) (by rw [ky]; decide) (by rw [h.1]; decide) (by rw [ky]; show _ < 8; omega) (by omega)
      rw [this, ky] at h; omega
  · have hb := b1 q (by rw [h2]; decide)
    rcases ha with e | ⟨y, i, e, hi, ky, h38⟩
    · rw [h2] at hb; omega
    · have := bk_apart B (p := q) (q := y) (i := 5) (j := i) (by rw [h2]; decide) (by rw [ky]; decide) (by rw [h2]; decide) (by rw [ky]; show _ < 8; omega) (by omega)
      rw [this, ky] at h2; cases h2
/-- the body aside changes, a law writes for itself: all else stands -/
theorem aside (R : RA X s c W sd m) (F : cfr (fun b k => b = X + 23 ∨ lwVo (sk_r s (X + 14) 1) b k) s s') : RA X s' c W sd m ∧ (∀ sb, R_way X s W m sb → R_way X s' W m sb) ∧ sk_n s' = sk_n s ∧ sk_m s' = sk_m s ∧ sk_r s' X 9 = sk_r s X 9 := by
  have Fq : sfr (quiet X s) s s' := (sfr.of F).mono (fun b k _ h => by
    rcases h with h | h
    · exact .inr (.inl h)
    · rcases (law_38 R.1 h).2 with z | z | z
      · have := (law_38 R.1 h).1; omega
      · exact .inr (.inr (.inr (.inr (.inl z))))
      · exact .inr (.inr (.inr (.inr (.inr (.inl z))))))
  have key := act1_key R.1.2.1 (X_11 R)
  refine ⟨RA_quiet R (bks_cfr R.1.2.1 F) Fq ceq.rf, fun sb h => R_way_fr h R.1.2.1 (sfr.of F) (fun h => ?_) (fun y k ky h38 => ⟨fun h => ?_, fun h => ?_⟩) (Nat.le_refl _) (fun _ _ => rfl), F.2.2.2.1, F.2.2.2.2.1, by rw [F.2.2.1]⟩
  · rcases h with h | h
    · omega
    · have := (law_38 R.1 h).1; omega
  · rcases h with h | h
    · omega
    · exact key y (.inr ⟨y, 0, rfl, by decide, ky, h38⟩) k (law_38 R.1 h).2
  · rcases h with h | h
    · omega
    · exact key (y + 1) (.inr ⟨y, 1, rfl, by decide, ky, h38⟩) k (law_38 R.1 h).2
theorem bd_lg {a : Nat} (b : bd s a W sd) : bd s a (lgW W mi mv lg) sd := by
  obtain ⟨b0, b1, b2, b3, b4, b5, b6, b7⟩ := b
  have ep : psN (lgW W mi mv lg) = psN W := by
    unfold psN
    rw [lgW_lo (by decide) (by decide), lgW_lo (by decide) (by decide), lgW_lo (by decide) (by decide), lgW_lo (by decide) (by decide)]
  unfold bd
  rw [ep, lgW_lo (by decide) (by decide), lgW_lo (by decide) (by decide), lgW_lo (by decide) (by decide), lgW_lo (by decide) (by decide), lgW_lo (by decide) (by decide), lgW_lo (by decide) (by decide)]
  exact ⟨b0, b1, b2, b3, b4, b5, b6, b7⟩
def siz (X : Nat) (s s' : sk_S) : Prop := sk_n s' = sk_n s ∧ sk_m s' = sk_m s ∧ sk_r s' X 9 = sk_r s X 9
theorem siz.tr {s1 s2 : sk_S} (h : siz X s s1) (h' : siz X s1 s2) : siz X s s2 := ⟨h'.1.trans h.1, h'.2.1.trans h.2.1, h'.2.2.trans h.2.2⟩
theorem mkeq.rf : mkeq c c := ⟨fun _ _ _ _ _ => rfl, fun _ _ _ => rfl, fun _ _ => rfl⟩
set_option maxRecDepth 20000 in
theorem ta_ok (hN : 1000 ≤ N) {n : Nat} (hn : n ≤ 60) : ∀ (r i fuel fuel' : Nat) (s : sk_S) (c : Nat → Nat → Int32) (W : Nat → Nat) (sd : Int32), i + r = n → r < fuel → r < fuel' → RA X s c0 W0 sd0 m → bd s (X + 23) W sd → (∀ j, j < 28 → W (17 + j) = W0 (17 + j)) → rwd c W sd m → ∃ s' c' W' sd' i', (∀ k p2, x11_tryOut_L24 N X k fuel s (nI n) p2 (nI i) = k s' (nI n) p2 (nI i')) ∧ (∀ k, md_makesByDraws_L4 N k fuel' c (nI n) (nI i) (nI i) = k c' (nI n) (nI i') (nI i')) ∧ RA X s' c0 W0 sd0 m ∧ (∀ sb, R_way X s W0 m sb → R_way X s' W0 m sb) ∧ siz X s s' ∧ bd s' (X + 23) W' sd' ∧ wv (c' 1) W' sd' ∧ wd W' ∧ mkeq c c' := by
  intro r
  induction r with
  | zero =>
    intro i fuel fuel' s c W sd h1 h2 h3 R b eW Rc
    obtain ⟨fuel, rfl⟩ : ∃ q, fuel = q + 1 := ⟨fuel - 1, by omega⟩
    obtain ⟨fuel', rfl⟩ : ∃ q, fuel' = q + 1 := ⟨fuel' - 1, by omega⟩
    have hle : nI n ≤ nI i := by rw [zq_le (by omega) (by omega)]; omega
    exact ⟨s, c, W, sd, i, fun k p2 => by simp only [x11_tryOut_L24]; rw [if_pos hle], fun k => by simp only [md_makesByDraws_L4]; rw [if_pos hle], R, fun _ h => h, ⟨rfl, rfl, rfl⟩, b, Rc.1, Rc.2.1, mkeq.rf⟩
  | succ r ih =>
    intro i fuel fuel' s c W sd h1 h2 h3 R b eW Rc
    obtain ⟨fuel, rfl⟩ : ∃ q, fuel = q + 1 := ⟨fuel - 1, by omega⟩
    obtain ⟨fuel', rfl⟩ : ∃ q, fuel' = q + 1 := ⟨fuel' - 1, by omega⟩
    have hle : ¬ nI n ≤ nI i := by rw [zq_le (by omega) (by omega)]; omega
    have l1 : lay_X1 (sk_K s) (sk_r s) (X + 23) = true := ly_X11_l5 R.1.1
    have st := stillB (N := N) l1 Rc.2.1 b
    have ov := overR Rc
    by_cases h : ovr W
    · rw [if_pos h] at st ov
      exact ⟨s, c, W, sd, i, fun k p2 => by
        simp only [x11_tryOut_L24]
        rw [if_neg hle, st]
        simp only [zq_bindP]
        rw [if_neg (by decide)], fun k => by
        simp only [md_makesByDraws_L4]
        rw [if_neg hle, ov, if_neg (by decide)], R, fun _ h => h, ⟨rfl, rfl, rfl⟩, b, Rc.1, Rc.2.1, mkeq.rf⟩
    · rw [if_neg h] at st ov
      obtain ⟨b0, b1, b2, b3, b4, b5, b6, b7⟩ := b
      have d1 := dw_cls (N := N) l1 b7
      have e1 := dw_ref (d := 7) Rc.1.2 (by decide) (by decide)
      have Rc1 := rwd_seed (sd' := lcg sd) Rc
      have F1 : cfr (fun b k => b = X + 23 ∨ lwVo (sk_r s (X + 14) 1) b k) s (sk_wc s (X + 23) 7 (lcg sd)) := (cfr.rf (V := fun b k => b = X + 23 ∨ lwVo (sk_r s (X + 14) 1) b k)).wc _ (.inl rfl)
      obtain ⟨R1, Rw1, z1⟩ := aside R F1
      have M1 : mkeq c (bk_w c 1 16 (lcg sd)) := ⟨fun q _ h1 _ _ => bk_w_ne h1, fun q _ _ => by rw [bk_w_ne (by decide)], fun q hq => bk_w_at (by omega)⟩
      have at1 : ∀ q, q ≠ 7 → sk_c (sk_wc s (X + 23) 7 (lcg sd)) (X + 23) q = sk_c s (X + 23) q := fun q h => by rw [qc_eq, pk_un h]
      have at17 : sk_c (sk_wc s (X + 23) 7 (lcg sd)) (X + 23) 7 = lcg sd := by rw [qc_eq, pk_us]
      generalize ed1 : sk_wc s (X + 23) 7 (lcg sd) = s1 at *
      generalize ec1 : bk_w c 1 16 (lcg sd) = c1 at *
      have l1' : lay_X1 (sk_K s1) (sk_r s1) (X + 23) = true := ly_X11_l5 R1.1.1
      have d2 := dw_cls (N := N) l1' at17
      have e2 := dw_ref (d := 2) Rc1.1.2 (by decide) (by decide)
      have Rc2 := rwd_seed (sd' := lcg (lcg sd)) Rc1
      have F2 : cfr (fun b k => b = X + 23 ∨ lwVo (sk_r s1 (X + 14) 1) b k) s1 (sk_wc s1 (X + 23) 7 (lcg (lcg sd))) := (cfr.rf (V := fun b k => b = X + 23 ∨ lwVo (sk_r s1 (X + 14) 1) b k)).wc _ (.inl rfl)
      obtain ⟨R2, Rw2, z2⟩ := aside R1 F2
      have M2 : mkeq c1 (bk_w c1 1 16 (lcg (lcg sd))) := ⟨fun q _ h1 _ _ => bk_w_ne h1, fun q _ _ => by rw [bk_w_ne (by decide)], fun q hq => bk_w_at (by omega)⟩
      have at2 : ∀ q, q ≠ 7 → sk_c (sk_wc s1 (X + 23) 7 (lcg (lcg sd))) (X + 23) q = sk_c s1 (X + 23) q := fun q h => by rw [qc_eq, pk_un h]
      have at27 : sk_c (sk_wc s1 (X + 23) 7 (lcg (lcg sd))) (X + 23) 7 = lcg (lcg sd) := by rw [qc_eq, pk_us]
      generalize ed2 : sk_wc s1 (X + 23) 7 (lcg (lcg sd)) = s2 at *
      generalize ec2 : bk_w c1 1 16 (lcg (lcg sd)) = c2 at *
      have B2 : bd s2 (X + 23) W (lcg (lcg sd)) := by
        unfold bd
        rw [at2 0 (by decide), at2 1 (by decide), at2 2 (by decide), at2 3 (by decide), at2 4 (by decide), at2 5 (by decide), at2 6 (by decide), at1 0 (by decide), at1 1 (by decide), at1 2 (by decide), at1 3 (by decide), at1 4 (by decide), at1 5 (by decide), at1 6 (by decide)]
        exact ⟨b0, b1, b2, b3, b4, b5, b6, at27⟩
      have hmv : drN (lcg sd) % 7 ≤ 6 := by omega
      have hlg : drN (lcg (lcg sd)) % 2 ≤ 1 := by omega
      have p7 : nI (drN (lcg sd)) - nI (drN (lcg sd)) / 7 * 7 = nI (drN (lcg sd) % 7) := pk_rem (d := 7) (by have := drN_lt (lcg sd); omega) (by decide) (by decide)
      have p2 : nI (drN (lcg (lcg sd))) - nI (drN (lcg (lcg sd))) / 2 * 2 = nI (drN (lcg (lcg sd)) % 2) := pk_rem (d := 2) (by have := drN_lt (lcg (lcg sd)); omega) (by decide) (by decide)
      have q1 : x1_drawMove N s (X + 23) = some (s1, nI (drN (lcg sd) % 7)) := by
        unfold x1_drawMove; rw [if_pos l1, d1]; simp only [zq_bindP]; rw [p7]
      have q2 : x1_drawLeg N s1 (X + 23) = some (s2, nI (drN (lcg (lcg sd)) % 2)) := by
        unfold x1_drawLeg; rw [if_pos l1', d2]; simp only [zq_bindP]; rw [p2]
      have f1 : md_draw_c c 7 = c1 := e1.1
      have f2 : md_draw_r c 7 = nI (drN (lcg sd) % 7) := e1.2
      have f3 : md_draw_c c1 2 = c2 := e2.1
      have f4 : md_draw_r c1 2 = nI (drN (lcg (lcg sd)) % 2) := e2.2
      generalize drN (lcg sd) % 7 = mv at *
      generalize drN (lcg (lcg sd)) % 2 = lg at *
      generalize lcg (lcg sd) = sd2 at *
      have hw := Rc2.2.1
      obtain ⟨s3, k1, k2, k3⟩ := mk_cls (N := N) (W := W) (a := X + 23) (z := X + 14) hN (ly_X11_l5 R2.1.1) (ly_X7_l1 (ly_X11_l3 R2.1.1)) (lw_cl R2.1.2.2.2.2) (fun j hj => by rw [eW j hj]; exact nm_of R2.1 j hj) hw B2 (by omega) (fun q e => by
        have := (law_38 R2.1 (b := q) (k := 6) ⟨q, e, .inr ⟨rfl, by decide⟩⟩).1
        omega) hmv hlg
      obtain ⟨c3, r1, r2, r3⟩ := mk_ref (N := N) hN Rc2 hmv hlg
      obtain ⟨R3, Rw3, z3⟩ := aside R2 k2
      have hP := mkP_lt (m := m) (mv := mv) (lg := lg) (sd := sd2) hw
      have hM : mkM W mv ≤ 9999 := by unfold mkM; omega
      have h7 := hw.1.2.2.2.2.2.2.2.1
      have hw3 : wd (lgW (mkB W (mkP W m mv lg sd2) (mkM W mv)) (W 7) mv (if mv < 5 then lg else 2)) := lgW_wd (mkB_wd hw hP hM) h7 (by omega) (by split <;> omega)
      have Rc3 := rwd_next Rc2 r2 hw3 (by rw [lgW_lo (by decide) (by decide), mkB_hi (by decide)]) r3
      obtain ⟨s4, c4, W4, sd4, i4, n1, n2, R4, Rw4, z4, n5, n6, n7, M4⟩ := ih (i + 1) fuel fuel' s3 c3 _ _ (by omega) (by omega) (by omega) R3 (bd_lg (mi := W 7) (mv := mv) (lg := if mv < 5 then lg else 2) k3) (fun j hj => by rw [lgW_lo (by omega) (by omega), mkB_hi (by omega)]; exact eW j hj) Rc3
      refine ⟨s4, c4, W4, sd4, i4, fun k p2 => ?_, fun k => ?_, R4, fun sb hs => Rw4 sb (Rw3 sb (Rw2 sb (Rw1 sb hs))), ((siz.tr z1 z2).tr z3).tr z4, n5, n6, n7, ((M1.tr M2).tr r3).tr M4⟩
      · simp only [x11_tryOut_L24]
        rw [if_neg hle, st]
        simp only [zq_bindP]
        rw [if_pos trivial, q1]
        simp only [zq_bindP]
        rw [q2]
        simp only [zq_bindP]
        rw [k1]
        simp only [zq_bindP, zq_letP]
        rw [nI_1, n1]
      · simp only [md_makesByDraws_L4]
        rw [if_neg hle, ov, if_pos rfl]
        simp only [zq_letP, f1, f2, f3, f4]
        rw [r1]
        simp only [zq_bindP, zq_letP]
        rw [nI_1, n2]
/-! the reference keeps all, brings it back -/
theorem ka_loop {k : (Nat → Nat → Int32) → Int32 → Option ((Nat → Nat → Int32) × Int32)} {c0 : Nat → Nat → Int32} : ∀ (r i fuel : Nat) (c : Nat → Nat → Int32), i + r = 549 → r < fuel → onl 4 c0 c → (∀ q, q < i → c 4 q = c0 1 q) → ∃ c', md_keepsAll_L2 N k fuel c (nI i) = k c' (nI 549) ∧ onl 4 c0 c' ∧ ∀ q, q < 549 → c' 4 q = c0 1 q := by
  intro r
  induction r with
  | zero =>
    intro i fuel c h1 h2 h3 h4
    obtain ⟨fuel, rfl⟩ : ∃ q, fuel = q + 1 := ⟨fuel - 1, by omega⟩
    obtain rfl : i = 549 := by omega
    simp only [md_keepsAll_L2]
    rw [if_pos (by decide)]
    exact ⟨c, rfl, h3, h4⟩
  | succ r ih =>
    intro i fuel c h1 h2 h3 h4
    obtain ⟨fuel, rfl⟩ : ∃ q, fuel = q + 1 := ⟨fuel - 1, by omega⟩
    simp only [md_keepsAll_L2, zq_letP]
    rw [if_neg (by show ¬ nI 549 ≤ nI i; rw [zq_le (by decide) (by omega)]; omega), if_pos (zq_inBt (by omega) (by decide)), if_pos (zq_inBt (by omega) (by decide)), zq_cl (by omega), nI_1]
    refine ih (i + 1) fuel _ (by omega) (by omega) (h3.w _ _) (fun q hq => ?_)
    by_cases e : q = i
    · subst e; rw [bk_w_same, h3 1 (by decide)]
    · rw [bk_w_at e]; exact h4 q (by omega)
theorem bb_loop {k : (Nat → Nat → Int32) → Int32 → Option ((Nat → Nat → Int32) × Int32)} {c0 : Nat → Nat → Int32} : ∀ (r i fuel : Nat) (c : Nat → Nat → Int32), i + r = 549 → r < fuel → onl 1 c0 c → (∀ q, q < i → c 1 q = c0 4 q) → (∀ q, 549 ≤ q → c 1 q = c0 1 q) → ∃ c', md_bringsBack_L2 N k fuel c (nI i) = k c' (nI 549) ∧ onl 1 c0 c' ∧ (∀ q, q < 549 → c' 1 q = c0 4 q) ∧ ∀ q, 549 ≤ q → c' 1 q = c0 1 q := by
  intro r
  induction r with
  | zero =>
    intro i fuel c h1 h2 h3 h4 h5
    obtain ⟨fuel, rfl⟩ : ∃ q, fuel = q + 1 := ⟨fuel - 1, by omega⟩
    obtain rfl : i = 549 := by omega
    simp only [md_bringsBack_L2]
    rw [if_pos (by decide)]
    exact ⟨c, rfl, h3, h4, h5⟩
  | succ r ih =>
    intro i fuel c h1 h2 h3 h4 h5
    obtain ⟨fuel, rfl⟩ : ∃ q, fuel = q + 1 := ⟨fuel - 1, by omega⟩
    simp only [md_bringsBack_L2, zq_letP]
    rw [if_neg (by show ¬ nI 549 ≤ nI i; rw [zq_le (by decide) (by omega)]; omega), if_pos (zq_inBt (by omega) (by decide)), if_pos (zq_inBt (by omega) (by decide)), zq_cl (by omega), nI_1]
    refine ih (i + 1) fuel _ (by omega) (by omega) (h3.w _ _) (fun q hq => ?_) (fun q hq => ?_)
    · by_cases e : q = i
      · subst e; rw [bk_w_same, h3 4 (by decide)]
      · rw [bk_w_at e]; exact h4 q (by omega)
    · rw [bk_w_at (by omega)]; exact h5 q hq
/-- kept: all as c0, row 4 holds it too -/
def kq (c0 c : Nat → Nat → Int32) : Prop := (∀ q, q ≠ 0 → q ≠ 4 → q ≠ 8 → q ≠ 9 → c q = c0 q) ∧ (∀ q, q ≠ 19 → q ≠ 20 → c 0 q = c0 0 q) ∧ ∀ q, q < 549 → c 4 q = c0 1 q
theorem kq.ceq (h : kq c0 c) : ceq c0 c := by
  refine ⟨fun k _ => ?_, fun k _ => ?_, fun k _ => ?_, h.2.1 6 (by decide) (by decide), h.2.1 7 (by decide) (by decide), h.2.1 9 (by decide) (by decide), h.2.1 14 (by decide) (by decide), fun k _ => ?_⟩
  · rw [h.1 1 (by decide) (by decide) (by decide) (by decide)]
  · rw [h.1 2 (by decide) (by decide) (by decide) (by decide)]
  · rw [h.1 5 (by decide) (by decide) (by decide) (by decide)]
  · rw [h.1 6 (by decide) (by decide) (by decide) (by decide)]
theorem keep_all (hN : 1000 ≤ N) : ∃ c', md_keepsAll N c0 = some (c', 0) ∧ kq c0 c' := by
  obtain ⟨c', a1, a2, a3⟩ := ka_loop (N := N) (k := fun q2 x3 => (some (q2, 0))) (c0 := c0) 549 0 N c0 (by omega) (by omega) onl.rf (fun q hq => absurd hq (by omega))
  exact ⟨c', a1, fun q _ h4 _ _ => a2 q h4, fun q _ _ => by rw [a2 0 (by decide)], a3⟩
theorem x1_becC {a b : Nat} {s1 : sk_S} {r : Int32} (h : x1_become N s a b = some (s1, r)) : cfr (fun x _ => x = a) s s1 := by
  unfold x1_become at h
  simp only [zq_letP] at h
  split at h
  · split at h
    · have h := Option.some.inj h
      have h := congrArg Prod.fst h
      simp only at h
      rw [← h]
      exact ((((((((cfr.rf (V := fun x _ => x = a)).wc _ rfl).wc _ rfl).wc _ rfl).wc _ rfl).wc _ rfl).wc _ rfl).wc _ rfl).wc _ rfl
    · cases h
  · cases h
theorem tr_pass (hN : 1000 ≤ N) {n : Nat} (hn : n ≤ 60) (R : RA X s c0 W sd m) (K : kq c0 c) (sx : Int32) : ∃ s' c' c'' W' sd' x, x11_tryOut N s X (nI n) sx = some (s', 0) ∧ md_makesByDraws N (bk_w c 1 16 sx) (nI n) = some (c', x) ∧ md_bringsBack N c' = some (c'', 0) ∧ kq c0 c'' ∧ RA X s' c0 W sd m ∧ (∀ sb, R_way X s W m sb → R_way X s' W m sb) ∧ siz X s s' ∧ bd s' (X + 23) W' sd' ∧ wv (c' 1) W' sd' ∧ wd W' := by
  have l23 : lay_X1 (sk_K s) (sk_r s) (X + 23) = true := ly_X11_l5 R.1.1
  have l13 : lay_X1 (sk_K s) (sk_r s) (X + 13) = true := ly_X7_l0 (ly_X11_l3 R.1.1)
  obtain ⟨s1, a1, a2, a3⟩ := x1_bec (N := N) l23 l13 (by omega)
  obtain ⟨b0, b1, b2, b3, b4, b5, b6, b7⟩ := bd_of R.1
  generalize e2 : sk_wc s1 (X + 23) 7 sx = s2
  have F : cfr (fun b k => b = X + 23 ∨ lwVo (sk_r s (X + 14) 1) b k) s s2 := by
    rw [← e2]
    exact cfr.wc ((x1_becC a1).mono (fun b k h => .inl h)) _ (.inl rfl)
  obtain ⟨R2, Rw2, z2⟩ := aside R F
  have at2 : ∀ q, q < 7 → sk_c s2 (X + 23) q = sk_c s (X + 13) q := fun q h => by rw [← e2, qc_eq, pk_un (by omega)]; exact a3 q (by omega)
  have B2 : bd s2 (X + 23) W sx := by
    unfold bd
    rw [at2 0 (by decide), at2 1 (by decide), at2 2 (by decide), at2 3 (by decide), at2 4 (by decide), at2 5 (by decide), at2 6 (by decide)]
    exact ⟨b0, b1, b2, b3, b4, b5, b6, by rw [← e2, qc_eq, pk_us]⟩
  have Rc : rwd (bk_w c 1 16 sx) W sx m := rwd_seed (rwd_k (rwd_of R) (K.1 1 (by decide) (by decide) (by decide) (by decide)))
  obtain ⟨s4, c4, W4, sd4, i4, n1, n2, R4, Rw4, z4, n5, n6, n7, M4⟩ := ta_ok (N := N) hN hn n 0 N N s2 _ W sx (by omega) (by omega) (by omega) R2 B2 (fun _ _ => rfl) Rc
  obtain ⟨c5, v1, v2, v3, v4⟩ := bb_loop (N := N) (k := fun q2 x3 => (some (q2, 0))) (c0 := c4) 549 0 N c4 (by omega) (by omega) onl.rf (fun q hq => absurd hq (by omega)) (fun _ _ => rfl)
  refine ⟨s4, c4, c5, W4, sd4, nI i4, ?_, ?_, v1, ⟨fun q h0 h4 h8 h9 => ?_, fun q h19 h20 => ?_, fun q hq => ?_⟩, R4, fun sb h => Rw4 sb (Rw2 sb h), siz.tr z2 z4, n5, n6, n7⟩
  · unfold x11_tryOut
    rw [if_pos R.1.1, a1]
    simp only [zq_bindP, zq_letP]
    rw [e2]
    exact n1 _ _
  · unfold md_makesByDraws
    exact n2 _
  · by_cases h1 : q = 1
    · subst h1
      funext y
      by_cases hy : y < 549
      · rw [v3 y hy, M4.1 4 (by decide) (by decide) (by decide) (by decide), bk_w_ne (by decide)]; exact K.2.2 y hy
      · rw [v4 y (by omega), M4.2.2 y (by omega), bk_w_at (by omega), K.1 1 (by decide) (by decide) (by decide) (by decide)]
    · rw [v2 q h1, M4.1 q h0 h1 h8 h9, bk_w_ne h1]; exact K.1 q h0 h4 h8 h9
  · rw [v2 0 (by decide), M4.2.1 q h19 h20, bk_w_ne (by decide)]; exact K.2.1 q h19 h20
  · rw [v2 4 (by decide), M4.1 4 (by decide) (by decide) (by decide) (by decide), bk_w_ne (by decide)]; exact K.2.2 q hq
theorem trC (p : Int32) : (∃ n, n ≤ 40 ∧ p = nI n ∧ ws_isTrial p = 1 ∧ md_in p 0 40 = 1) ∨ (ws_isTrial p = 0 ∧ md_in p 0 40 = 0) := by
  unfold ws_isTrial
  rcases rngC 0 40 (by decide) (by decide) p with ⟨n, _, hn, rfl, hin⟩ | ⟨hin, hout⟩
  · have hin' : md_in (nI n) 0 40 = 1 := hin
    left
    refine ⟨n, hn, rfl, ?_, hin'⟩
    rw [if_neg (nI_pos (by omega)), if_neg (by show ¬ nI 40 < nI n; rw [zq_lt (by decide) (by omega)]; omega)]
  · right
    refine ⟨?_, hin⟩
    rcases hout with h | ⟨h1, h2⟩
    · rw [if_pos (show p < 0 from h)]
    · rw [if_neg (show ¬ p < 0 from h1), if_pos (show (40 : Int32) < p from h2)]
/-- how a query ends that made nothing new -/
theorem RR_siz (hj : j < 512) (Z : R_sz X j s) (z : siz X s s') (R : RA X s' c' W sd m) (Rw : R_way X s' W m (1 + 12 * j)) : RR X (j + 1) s' c' := RR_act hj Z (by rw [z.1]; omega) (by rw [z.2.1]; omega) z.2.2 R Rw
set_option maxRecDepth 20000 in
theorem sm_trial_ok (hN : 2000000000 ≤ N) : sm_trial X N (RR X) := by
  intro j s c hj ⟨_, Z, W, sd, m, R, Rw⟩ p1 p2 hp2
  have R0 := RA_c R ceq_0
  rcases trC p1 with ⟨n, hn, rfl, m1, m2⟩ | ⟨m1, m2⟩
  · obtain ⟨c1, k1, k2⟩ := keep_all (N := N) (c0 := bk_w c 0 0 0) (by omega)
    obtain ⟨s2, c2, c3, W2, sd2, x, a1, a2, a3, a4, a5, a6, a7, a8, a9, a10⟩ := tr_pass (N := N) (n := n) (by omega) (by omega) R0 k2 sd
    have e16 : c1 1 16 = sd := by rw [k2.1 1 (by decide) (by decide) (by decide) (by decide)]; exact R0.1.2.2.2.1.2
    have b7 : sk_c s (X + 13) 7 = sd := (bd_of R.1).2.2.2.2.2.2.2
    rw [← e16, bk_w_self] at a2
    obtain ⟨u0, u1, -, -⟩ := psN_un a10
    have hret : po_together (sk_c s2 (X + 23) 0) = c2 1 0 + c2 1 1 := by
      rw [a8.1, po_tog (psN_lt a10), u0, u1, wv_n a9 (by decide) (by decide), wv_n a9 (by decide) (by decide), nI_add]
    have h7 : sk_c s2 (X + 23) 4 = c2 1 7 := by rw [a8.2.2.2.2.1]; exact (wv_n a9 (by decide) (by decide)).symm
    have RF := RR_siz hj Z a7 (RA_c a5 a4.ceq) (a6 _ Rw)
    have c00 : c3 0 0 = 0 := by rw [a4.2.1 0 (by decide) (by decide), bk_w_same]
    rcases hp2 with rfl | rfl
    · refine ⟨s2, c3, .inl (some (.int (c2 1 0 + c2 1 1))), c2 1 0 + c2 1 1, ?_, ?_, .inl ⟨rfl, c00⟩, RF⟩
      · unfold x11_trial
        rw [if_pos R.1.1, m1, if_neg (by decide), b7, a1]
        simp only [zq_bindP]
        rw [if_pos trivial, hret]
      · simp only [md_trial, zq_letP, m2, th_r, th_c0, th_c1, d10, d00, ↓reduceIte, k1, zq_bindP, a2, a3]
    · refine ⟨s2, c3, .inl (some (.int (c2 1 7))), c2 1 7, ?_, ?_, .inl ⟨rfl, c00⟩, RF⟩
      · unfold x11_trial
        rw [if_pos R.1.1, m1, if_neg (by decide), b7, a1]
        simp only [zq_bindP]
        rw [if_neg (by decide), h7]
      · simp only [md_trial, zq_letP, m2, th_r, th_c0, th_c1, d10, d00, ↓reduceIte, k1, zq_bindP, a2, a3]
  · refine ⟨sk_rs s 6, bk_w (bk_w c 0 0 0) 0 0 1, .inr "java/lang/IllegalArgumentException", 0, ?_, ?_, .inr ⟨rfl, bk_w_same _ _ _ _⟩, RR_thr hj Z R Rw (thr_ceq 1)⟩
    · unfold x11_trial
      rw [if_pos R.1.1, m1, if_pos rfl]
    · simp only [md_trial, zq_letP, m2, th_r, th_c0, th_c1, d10, d11, d00, or_true, ↓reduceIte]
/-- the passes of span, the first aside -/
theorem sp_loop (hN : 1000 ≤ N) {n : Nat} (hn : n ≤ 60) (p2 : Int32) : ∀ (r i fuel fuel' b : Nat) (s : sk_S) (c : Nat → Nat → Int32), i + r = 7 → r < fuel → r < fuel' → b ≤ 18 → RA X s c0 W sd m → kq c0 c → ∃ s' c' b', (∀ k, x11_span_L38 N X k fuel s (nI n) p2 (nI b) (nI i) = k s' (nI n) p2 (nI b') (nI 7)) ∧ (∀ k, md_span_L39 N k fuel' c (nI n) p2 (nI b) (nI i) = k c' (nI n) p2 (nI b') (nI 7)) ∧ RA X s' c0 W sd m ∧ kq c0 c' ∧ (∀ sb, R_way X s W m sb → R_way X s' W m sb) ∧ siz X s s' := by
  intro r
  induction r with
  | zero =>
    intro i fuel fuel' b s c h1 h2 h3 hb R K
    obtain ⟨fuel, rfl⟩ : ∃ q, fuel = q + 1 := ⟨fuel - 1, by omega⟩
    obtain ⟨fuel', rfl⟩ : ∃ q, fuel' = q + 1 := ⟨fuel' - 1, by omega⟩
    obtain rfl : i = 7 := by omega
    exact ⟨s, c, b, fun k => by simp only [x11_span_L38]; rw [if_pos (by decide)], fun k => by simp only [md_span_L39]; rw [if_pos (by decide)], R, K, fun _ h => h, ⟨rfl, rfl, rfl⟩⟩
  | succ r ih =>
    intro i fuel fuel' b s c h1 h2 h3 hb R K
    obtain ⟨fuel, rfl⟩ : ∃ q, fuel = q + 1 := ⟨fuel - 1, by omega⟩
    obtain ⟨fuel', rfl⟩ : ∃ q, fuel' = q + 1 := ⟨fuel' - 1, by omega⟩
    obtain ⟨s2, c2, c3, W2, sd2, x, a1, a2, a3, a4, a5, a6, a7, a8, a9, a10⟩ := tr_pass (N := N) (n := n) (by omega) hn R K (nI i)
    obtain ⟨u0, u1, -, -⟩ := psN_un a10
    have w0 := a10.1.1
    have w1 := a10.1.2.1
    have t1 : po_together (sk_c s2 (X + 23) 0) = nI (W2 0 + W2 1) := by rw [a8.1, po_tog (psN_lt a10), u0, u1]
    have t2 : c2 1 0 + c2 1 1 = nI (W2 0 + W2 1) := by rw [wv_n a9 (by decide) (by decide), wv_n a9 (by decide) (by decide), nI_add]
    have hi : ¬ (6 : Int32) < nI i := by show ¬ nI 6 < nI i; rw [zq_lt (by decide) (by omega)]; omega
    have hb0 : (0 : Int32) ≤ nI b := by show nI 0 ≤ nI b; rw [zq_le (by decide) (by omega)]; omega
    have mn : mt_min (nI b) (nI (W2 0 + W2 1)) = nI (min b (W2 0 + W2 1)) := zq_min (by omega) (by omega)
    have mx : mt_max (nI b) (nI (W2 0 + W2 1)) = nI (max b (W2 0 + W2 1)) := zq_max (by omega) (by omega)
    by_cases hp : p2 = 0
    · obtain ⟨s4, c4, b4, n1, n2, R4, K4, Rw4, z4⟩ := ih (i + 1) fuel fuel' (min b (W2 0 + W2 1)) s2 c3 (by omega) (by omega) (by omega) (by omega) a5 a4
      refine ⟨s4, c4, b4, fun k => ?_, fun k => ?_, R4, K4, fun sb h => Rw4 sb (a6 sb h), siz.tr a7 z4⟩
      · simp only [x11_span_L38]
        rw [if_neg hi, a1]
        simp only [zq_bindP, zq_letP]
        rw [if_pos hp, t1, mn, nI_1, n1]
      · simp only [md_span_L39, zq_letP]
        rw [if_neg hi, a2]
        simp only [zq_bindP]
        rw [a3]
        simp only [zq_bindP]
        rw [if_pos hb0, if_pos hp, t2, mn, nI_1, n2]
    · obtain ⟨s4, c4, b4, n1, n2, R4, K4, Rw4, z4⟩ := ih (i + 1) fuel fuel' (max b (W2 0 + W2 1)) s2 c3 (by omega) (by omega) (by omega) (by omega) a5 a4
      refine ⟨s4, c4, b4, fun k => ?_, fun k => ?_, R4, K4, fun sb h => Rw4 sb (a6 sb h), siz.tr a7 z4⟩
      · simp only [x11_span_L38]
        rw [if_neg hi, a1]
        simp only [zq_bindP, zq_letP]
        rw [if_neg hp, t1, mx, nI_1, n1]
      · simp only [md_span_L39, zq_letP]
        rw [if_neg hi, a2]
        simp only [zq_bindP]
        rw [a3]
        simp only [zq_bindP]
        rw [if_pos hb0, if_neg hp, t2, mx, nI_1, n2]
set_option maxRecDepth 20000 in
theorem sm_span_ok (hN : 2000000000 ≤ N) : sm_span X N (RR X) := by
  intro j s c hj ⟨_, Z, W, sd, m, R, Rw⟩ p1 p2 hp2
  have R0 := RA_c R ceq_0
  rcases trC p1 with ⟨n, hn, rfl, m1, m2⟩ | ⟨m1, m2⟩
  · obtain ⟨c1, k1, k2⟩ := keep_all (N := N) (c0 := bk_w c 0 0 0) (by omega)
    obtain ⟨s2, c2, c3, W2, sd2, x, a1, a2, a3, a4, a5, a6, a7, a8, a9, a10⟩ := tr_pass (N := N) (n := n) (by omega) (by omega) R0 k2 (nI 1)
    obtain ⟨u0, u1, -, -⟩ := psN_un a10
    have w0 := a10.1.1
    have w1 := a10.1.2.1
    have t1 : po_together (sk_c s2 (X + 23) 0) = nI (W2 0 + W2 1) := by rw [a8.1, po_tog (psN_lt a10), u0, u1]
    have t2 : c2 1 0 + c2 1 1 = nI (W2 0 + W2 1) := by rw [wv_n a9 (by decide) (by decide), wv_n a9 (by decide) (by decide), nI_add]
    obtain ⟨N', rfl⟩ : ∃ q, N = q + 1 := ⟨N - 1, by omega⟩
    obtain ⟨s4, c4, b4, n1, n2, R4, K4, Rw4, z4⟩ := sp_loop (N := N' + 1) (by omega) (show n ≤ 60 by omega) p2 5 2 (N' + 1) N' (W2 0 + W2 1) s2 c3 (by omega) (by omega) (by omega) (by omega) a5 a4
    refine ⟨s4, c4, .inl (some (.int (nI b4))), nI b4, ?_, ?_, .inl ⟨rfl, ?_⟩, RR_siz hj Z (siz.tr a7 z4) (RA_c R4 K4.ceq) (Rw4 _ (a6 _ Rw))⟩
    · have a1' : x11_tryOut (N' + 1) s X (nI n) 1 = some (s2, 0) := a1
      unfold x11_span
      rw [if_pos R.1.1, m1, if_neg (by decide), a1']
      simp only [zq_bindP, zq_letP]
      rw [t1]
      exact n1 _
    · have fst : ∀ k, md_span_L39 (N' + 1) k (N' + 1) c1 (nI n) p2 (-1) 1 = md_span_L39 (N' + 1) k N' c3 (nI n) p2 (nI (W2 0 + W2 1)) (nI 2) := fun k => by
        have a2' : md_makesByDraws (N' + 1) (bk_w c1 1 16 1) (nI n) = some (c2, x) := a2
        conv => lhs; unfold md_span_L39
        simp only [zq_letP]
        rw [if_neg (by decide), a2']
        simp only [zq_bindP]
        rw [a3]
        simp only [zq_bindP]
        rw [if_neg (by decide), t2]
        rfl
      simp only [md_span, zq_letP, m2, th_r, th_c0, th_c1, d10, d00, ↓reduceIte, k1, zq_bindP, fst, n2]
    · rw [K4.2.1 0 (by decide) (by decide), bk_w_same]
  · refine ⟨sk_rs s 6, bk_w (bk_w c 0 0 0) 0 0 1, .inr "java/lang/IllegalArgumentException", 0, ?_, ?_, .inr ⟨rfl, bk_w_same _ _ _ _⟩, RR_thr hj Z R Rw (thr_ceq 1)⟩
    · unfold x11_span
      rw [if_pos R.1.1, m1, if_pos rfl]
    · simp only [md_span, zq_letP, m2, th_r, th_c0, th_c1, d10, d11, d00, or_true, ↓reduceIte]
end
