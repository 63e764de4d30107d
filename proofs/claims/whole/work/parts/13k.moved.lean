/-! MOVED, MOVES -/
section
variable {N X j : Nat} {s s' : sk_S} {c c' : Nat → Nat → Int32} {W W' : Nat → Nat} {sd sd' : Int32} {m m' : lwM} {sb : Nat} {mi mv lg : Nat}
theorem wd_of (R : RA X s c W sd m) : wd W := R.1.2.2.1.2.1
theorem X_11 (R : RA X s c W sd m) : (sk_K s X).1 = 11 := by rw [ly_X11_c R.1.1]
/-- the body changes, and what lies outside the scene -/
theorem sc_bodyG {p : Nat} {V : Nat → Nat → Prop} (h : sc_rel s p W sd) (F : cfr V s s') (hV : ∀ b k, p ≤ b → b < p + 10 → V b k → b = p + 1) (hw : wd W') (hW : ∀ k, 8 ≤ k → W' k = W k) (hb : bd s' (p + 1) W' sd') : sc_rel s' p W' sd' := by
  obtain ⟨h1, h2, h3, h4, h5, h6, h7, ⟨nx, n1, n2, n3, n4⟩, h9⟩ := h
  have cc : ∀ b k, p ≤ b → b < p + 10 → b ≠ p + 1 → sk_c s' b k = sk_c s b k := fun b k q1 q2 hb => F.2.2.2.2.2 b k (fun q => hb (hV b k q1 q2 q))
  refine ⟨by rw [F.1, F.2.2.1]; exact h1, hw, hb, fun j hj => ?_, fun c hc => ?_, ?_, fun k hk => ?_, ⟨nx, n1, ?_, ?_, fun a ha => ?_⟩, ?_⟩
  · rw [cc _ _ (by omega) (by omega) (by omega), hW _ (by omega)]; exact h4 j hj
  · rw [cc _ _ (by omega) (by omega) (by omega), F.2.1, hW _ (by omega), hW _ (by omega), hW _ (by omega)]; exact h5 c hc
  · rw [cc _ _ (by omega) (by omega) (by omega), cc _ _ (by omega) (by omega) (by omega), cc _ _ (by omega) (by omega) (by omega), hW _ (by omega), hW _ (by omega), hW _ (by omega)]; exact h6
  · rw [hW 12 (by omega)] at hk
    rw [cc _ _ (by omega) (by omega) (by omega), cc _ _ (by omega) (by omega) (by omega), hW _ (by omega), hW _ (by omega)]; exact h7 k hk
  · rw [cc _ _ (by omega) (by omega) (by omega)]; exact n2
  · rw [cc _ _ (by omega) (by omega) (by omega), hW 15 (by omega)]; exact n3
  · rw [hW 15 (by omega)] at ha
    rw [cc _ _ (by omega) (by omega) (by omega)]
    have : rowN W' a = rowN W a := by
      unfold rowN
      rw [hW _ (by omega), hW _ (by omega), hW _ (by omega), hW _ (by omega), hW _ (by omega)]
    rw [this]; exact n4 a ha
  · rw [cc _ _ (by omega) (by omega) (by omega), hW 13 (by omega)]; exact h9
/-- where a law writes, it lies behind the class's own blocks -/
theorem law_38 (R : R_now X s c W sd m) {b k : Nat} (h : lwVo (sk_r s (X + 14) 1) b k) : X + 38 ≤ b ∧ act1 X s b k := by
  obtain ⟨q, h1, h2, h3⟩ := lwVo_law R h
  obtain ⟨_, _, k4, h6, h38⟩ := quiet_law R.2.1 h1
  rcases h3 with h3 | h3
  · exact ⟨by omega, .inr (.inr ⟨q, h3, k4⟩)⟩
  · exact ⟨by omega, .inr (.inl ⟨by rw [h3.1]; exact k4, h3.2⟩)⟩
theorem bd_of (R : R_now X s c W sd m) : bd s (X + 13) W sd := R.2.2.1.2.2.1
theorem nm_of (R : R_now X s c W sd m) : ∀ j, j < 28 → sk_c s (X + 14 + 1) j = nI (W (17 + j)) := R.2.2.1.2.2.2.1
/-- the body alone, both -/
def W14 (W W' : Nat → Nat) : Prop := W' 14 = W 14 ∧ ∀ j, j < 28 → W' (17 + j) = W (17 + j)
theorem mm_ok (hN : 1000 ≤ N) (R : RA X s c W sd m) (hmv : mv ≤ 6) (hlg : lg ≤ 1) : ∃ s' c' W', x7_makeMove N s (X + 12) (nI mv) (nI lg) = some (s', 0) ∧ md_makes N c (nI mv) (nI lg) = some (c', 0) ∧ RA X s' c' W' (lcg sd) m ∧ (∀ sb, R_way X s W m sb → R_way X s' W' m sb) ∧ (sk_n s' = sk_n s ∧ sk_m s' = sk_m s ∧ sk_r s' X 9 = sk_r s X 9) ∧ mkeq c c' := by
  have hw := wd_of R
  have l11 := R.1.1
  have hn := R.1.2.1.2.2.2
  obtain ⟨c', r1, r2, r3⟩ := mk_ref (N := N) hN (rwd_of R) hmv hlg
  obtain ⟨s1, k1, k2, k3⟩ := mk_cls (N := N) (a := X + 13) (z := X + 14) hN (ly_X7_l0 (ly_X11_l3 l11)) (ly_X7_l1 (ly_X11_l3 l11)) (lw_cl R.1.2.2.2.2) (nm_of R.1) hw (bd_of R.1) (by omega) (fun q e => by
    have := (law_38 R.1 (b := q) (k := 6) ⟨q, e, .inr ⟨rfl, by decide⟩⟩).1
    omega) hmv hlg
  have hP := mkP_lt (m := m) (mv := mv) (lg := lg) (sd := sd) hw
  have hM : mkM W mv ≤ 9999 := by unfold mkM; omega
  have S1 : sc_rel s1 (X + 12) (mkB W (mkP W m mv lg sd) (mkM W mv)) (lcg sd) := sc_bodyG R.1.2.2.1 k2 (fun b k h1 h2 hv => by
    rcases hv with h | h
    · omega
    · have := (law_38 R.1 h).1; omega) (mkB_wd hw hP hM) (fun k hk => mkB_hi hk) k3
  have h7 := hw.1.2.2.2.2.2.2.2.1
  obtain ⟨s2, t1, t2, t3⟩ := tl_cls (N := N) (mi := W 7) (mv := mv) (lg := if mv < 5 then lg else 2) S1 h7 (by omega) (by split <;> omega)
  have F : sfr (act1 X s) s s2 := by
    refine (sfr.of (k2.mono (V' := act1 X s) (fun b k h => ?_))).tr (sfr.of (t2.mono (fun b k h => ?_)))
    · rcases h with h | h
      · exact act_body (by omega)
      · exact (law_38 R.1 h).2
    · exact .inl (by omega)
  have e14 : W14 W (lgW (mkB W (mkP W m mv lg sd) (mkM W mv)) (W 7) mv (if mv < 5 then lg else 2)) := ⟨by rw [lgW_lo (by decide) (by decide), mkB_hi (by decide)], fun q hq => by rw [lgW_lo (by omega) (by omega), mkB_hi (by omega)]⟩
  refine ⟨s2, c', _, ?_, r1, RA_act R F (bks_cfr (bks_cfr R.1.2.1 k2) t2) t3 r2 r3.A e14.1 e14.2, fun sb hs => way_act hs R.1.2.1 (X_11 R) F e14.2 (Nat.le_refl _), ⟨t2.2.2.2.1.trans k2.2.2.2.1, t2.2.2.2.2.1.trans k2.2.2.2.2.1, by rw [t2.2.2.1, k2.2.2.1]⟩, r3⟩
  have b4 : sk_c s (X + 12 + 1) 4 = nI (W 7) := (bd_of R.1).2.2.2.2.1
  have b0 : sk_c s1 (X + 12 + 1) 0 = nI (psN (mkB W (mkP W m mv lg sd) (mkM W mv))) := k3.1
  have k1' : x1_make N s (X + 12 + 1) (X + 12 + 2) (nI mv) (nI lg) = some (s1, 0) := k1
  unfold x7_makeMove
  rw [if_pos (ly_X11_l3 l11)]
  simp only [zq_letP]
  rw [b4, k1']
  simp only [zq_bindP]
  rw [b0]
  have e5 : ((5 : Int32) ≤ nI mv) = (5 ≤ mv) := zq_le (a := 5) (by decide) (by omega)
  simp only [e5]
  by_cases h : mv < 5
  · rw [if_pos h] at t1
    rw [if_neg (by omega), t1]
    rfl
  · rw [if_neg h] at t1
    rw [if_pos (by omega), show (2 : Int32) = nI 2 from rfl, t1]
    rfl
abbrev ovr (W : Nat → Nat) : Prop := psN W < 12 ∨ W 8 ≤ W 7
theorem stillN (R : R_now X s c W sd m) : x1_isStill N s (X + 13) = some (s, if ovr W then 1 else 0) := by
  have hps := psN_lt R.2.2.1.2.1
  have c0 := (R_calm R).1
  have l1 : lay_X1 (sk_K s) (sk_r s) (X + 13) = true := ly_X7_l0 (ly_X11_l3 R.1)
  unfold x1_isStill
  rw [if_pos l1, c0, wy_ofl _ hps, isDrownN R]
  unfold ovr
  by_cases h1 : psN W < 12
  · rw [if_pos h1, if_neg (by decide), if_pos (.inl h1)]
  · rw [if_neg h1, if_pos rfl]
    simp only [zq_bindP]
    have h3 : 12 ≤ psN W := by omega
    by_cases h2 : W 8 ≤ W 7
    · simp [h1, h2, h3]
    · simp [h1, h2]
theorem overR (R : rwd c W sd m) : md_isOver_r c = if ovr W then 1 else 0 := by
  unfold md_isOver_r ovr
  rw [isOutR R, isDrownR R]
  by_cases h1 : psN W < 12
  · rw [if_pos h1, if_neg (by decide), if_pos (.inl h1)]
  · rw [if_neg h1, if_pos rfl]
    have h3 : 12 ≤ psN W := by omega
    by_cases h2 : W 8 ≤ W 7
    · simp [h1, h2, h3]
    · simp [h1, h2]
/-- a draw, both -/
theorem dw_cls {a : Nat} (l1 : lay_X1 (sk_K s) (sk_r s) a = true) (h : sk_c s a 7 = sd) : x1_draw N s a = some (sk_wc s a 7 (lcg sd), nI (drN (lcg sd))) := by
  have el : (1103515245 : Int32) * sd + 12345 = lcg sd := rfl
  unfold x1_draw
  simp only [zq_letP]
  rw [if_pos l1, h, el]
  have c74 : sk_c (sk_wc s a 7 (lcg sd)) a 7 = lcg sd := by rw [qc_eq, pk_us]
  rw [c74, dr_eq, dr_nat]
theorem dw_ref (h : c 1 16 = sd) {d : Nat} (h0 : 0 < d) (hd : d < 32768) : md_draw_c c (nI d) = bk_w c 1 16 (lcg sd) ∧ md_draw_r c (nI d) = nI (drN (lcg sd) % d) := by
  refine ⟨by unfold md_draw_c; rw [h]; rfl, ?_⟩
  unfold md_draw_r
  rw [bk_w_same, h, show (1103515245 : Int32) * sd + 12345 = lcg sd from rfl, dr_nat]
  exact pk_rem (d := d) (by have := drN_lt (lcg sd); omega) h0 (by omega)
theorem RA_draw (R : RA X s c W sd m) : RA X (sk_wc s (X + 13) 7 sd') (bk_w c 1 16 sd') W sd' m ∧ (∀ sb, R_way X s W m sb → R_way X (sk_wc s (X + 13) 7 sd') W m sb) ∧ mkeq c (bk_w c 1 16 sd') := by
  have Fc : cfr (fun b _ => b = X + 12 + 1) s (sk_wc s (X + 13) 7 sd') := (cfr.rf (V := fun b _ => b = X + 12 + 1)).wc _ rfl
  have F : sfr (act1 X s) s (sk_wc s (X + 13) 7 sd') := (sfr.of Fc).mono (fun b k _ h => act_body h)
  obtain ⟨b0, b1, b2, b3, b4, b5, b6, b7⟩ := bd_of R.1
  have at_ : ∀ q, q ≠ 7 → sk_c (sk_wc s (X + 13) 7 sd') (X + 13) q = sk_c s (X + 13) q := fun q h => by rw [qc_eq, pk_un h]
  have S := sc_body (sd' := sd') R.1.2.2.1 Fc (wd_of R) (fun _ _ => rfl) ⟨(at_ 0 (by decide)).trans b0, (at_ 1 (by decide)).trans b1, (at_ 2 (by decide)).trans b2, (at_ 3 (by decide)).trans b3, (at_ 4 (by decide)).trans b4, (at_ 5 (by decide)).trans b5, (at_ 6 (by decide)).trans b6, by show sk_c (sk_wc s (X + 13) 7 sd') (X + 13) 7 = sd'; rw [qc_eq, pk_us]⟩
  have M : mkeq c (bk_w c 1 16 sd') := ⟨fun q _ h1 _ _ => bk_w_ne h1, fun q _ _ => by rw [bk_w_ne (by decide)], fun q hq => bk_w_at (by omega)⟩
  refine ⟨RA_act R F (bks_cfr R.1.2.1 Fc) S ⟨fun k hk h16 => by rw [bk_w_at h16]; exact R.1.2.2.2.1.1 k hk h16, bk_w_same _ _ _ _⟩ M.A rfl (fun _ _ => rfl), fun sb h => way_act h R.1.2.1 (X_11 R) F (fun _ _ => rfl) (Nat.le_refl _), M⟩

set_option maxRecDepth 20000 in
theorem ml_ok (hN : 1000 ≤ N) {n : Nat} (hn : n ≤ 60) : ∀ (r i fuel fuel' : Nat) (s : sk_S) (c : Nat → Nat → Int32) (W : Nat → Nat) (sd : Int32), i + r = n → r < fuel → r < fuel' → RA X s c W sd m → ∃ s' c' W' sd' i', i' ≤ 60 ∧ (∀ k, x11_moves_L28 N X k fuel s (nI n) (nI i) = k s' (nI n) (nI i')) ∧ (∀ k, md_makesByDraws_L4 N k fuel' c (nI n) (nI i) (nI i) = k c' (nI n) (nI i') (nI i')) ∧ RA X s' c' W' sd' m ∧ (∀ sb, R_way X s W m sb → R_way X s' W' m sb) ∧ (sk_n s' = sk_n s ∧ sk_m s' = sk_m s ∧ sk_r s' X 9 = sk_r s X 9) ∧ mkeq c c' := by
  intro r
  induction r with
  | zero =>
    intro i fuel fuel' s c W sd h1 h2 h3 R
    obtain ⟨fuel, rfl⟩ : ∃ q, fuel = q + 1 := ⟨fuel - 1, by omega⟩
    obtain ⟨fuel', rfl⟩ : ∃ q, fuel' = q + 1 := ⟨fuel' - 1, by omega⟩
    have hle : nI n ≤ nI i := by rw [zq_le (by omega) (by omega)]; omega
    exact ⟨s, c, W, sd, i, by omega, fun k => by simp only [x11_moves_L28]; rw [if_pos hle], fun k => by simp only [md_makesByDraws_L4]; rw [if_pos hle], R, fun _ h => h, ⟨rfl, rfl, rfl⟩, ⟨fun _ _ _ _ _ => rfl, fun _ _ _ => rfl, fun _ _ => rfl⟩⟩
  | succ r ih =>
    intro i fuel fuel' s c W sd h1 h2 h3 R
    obtain ⟨fuel, rfl⟩ : ∃ q, fuel = q + 1 := ⟨fuel - 1, by omega⟩
    obtain ⟨fuel', rfl⟩ : ∃ q, fuel' = q + 1 := ⟨fuel' - 1, by omega⟩
    have hle : ¬ nI n ≤ nI i := by rw [zq_le (by omega) (by omega)]; omega
    have st := stillN (N := N) R.1
    have ov := overR (rwd_of R)
    by_cases h : ovr W
    · rw [if_pos h] at st ov
      exact ⟨s, c, W, sd, i, by omega, fun k => by
        simp only [x11_moves_L28]
        rw [if_neg hle, st]
        simp only [zq_bindP]
        rw [if_neg (by decide)], fun k => by
        simp only [md_makesByDraws_L4]
        rw [if_neg hle, ov, if_neg (by decide)], R, fun _ h => h, ⟨rfl, rfl, rfl⟩, ⟨fun _ _ _ _ _ => rfl, fun _ _ _ => rfl, fun _ _ => rfl⟩⟩
    · rw [if_neg h] at st ov
      have l1 : lay_X1 (sk_K s) (sk_r s) (X + 13) = true := ly_X7_l0 (ly_X11_l3 R.1.1)
      have d1 := dw_cls (N := N) l1 (bd_of R.1).2.2.2.2.2.2.2
      have e1 := dw_ref (d := 7) R.1.2.2.2.1.2 (by decide) (by decide)
      obtain ⟨R1, Rw1, M1⟩ := RA_draw (sd' := lcg sd) R
      generalize ed1 : sk_wc s (X + 13) 7 (lcg sd) = s1 at *
      generalize ec1 : bk_w c 1 16 (lcg sd) = c1 at *
      have l1' : lay_X1 (sk_K s1) (sk_r s1) (X + 13) = true := ly_X7_l0 (ly_X11_l3 R1.1.1)
      have d2 := dw_cls (N := N) l1' (bd_of R1.1).2.2.2.2.2.2.2
      have e2 := dw_ref (d := 2) R1.1.2.2.2.1.2 (by decide) (by decide)
      obtain ⟨R2, Rw2, M2⟩ := RA_draw (sd' := lcg (lcg sd)) R1
      have z1 : sk_n s1 = sk_n s ∧ sk_m s1 = sk_m s ∧ sk_r s1 X 9 = sk_r s X 9 := by rw [← ed1]; exact ⟨rfl, rfl, rfl⟩
      generalize ed2 : sk_wc s1 (X + 13) 7 (lcg (lcg sd)) = s2 at *
      generalize ec2 : bk_w c1 1 16 (lcg (lcg sd)) = c2 at *
      have z2 : sk_n s2 = sk_n s1 ∧ sk_m s2 = sk_m s1 ∧ sk_r s2 X 9 = sk_r s1 X 9 := by rw [← ed2]; exact ⟨rfl, rfl, rfl⟩
      obtain ⟨s3, c3, W3, m1, m2, R3, Rw3, z3, M3⟩ := mm_ok (N := N) (mv := drN (lcg sd) % 7) (lg := drN (lcg (lcg sd)) % 2) hN R2 (by omega) (by omega)
      obtain ⟨s4, c4, W4, sd4, i4, hi4, k1, k2, R4, Rw4, z4, M4⟩ := ih (i + 1) fuel fuel' s3 c3 W3 _ (by omega) (by omega) (by omega) R3
      have p7 : nI (drN (lcg sd)) - nI (drN (lcg sd)) / 7 * 7 = nI (drN (lcg sd) % 7) := pk_rem (d := 7) (by have := drN_lt (lcg sd); omega) (by decide) (by decide)
      have p2 : nI (drN (lcg (lcg sd))) - nI (drN (lcg (lcg sd))) / 2 * 2 = nI (drN (lcg (lcg sd)) % 2) := pk_rem (d := 2) (by have := drN_lt (lcg (lcg sd)); omega) (by decide) (by decide)
      have q1 : x1_drawMove N s (X + 13) = some (s1, nI (drN (lcg sd) % 7)) := by
        unfold x1_drawMove; rw [if_pos l1, d1]; simp only [zq_bindP]; rw [p7]
      have q2 : x1_drawLeg N s1 (X + 13) = some (s2, nI (drN (lcg (lcg sd)) % 2)) := by
        unfold x1_drawLeg; rw [if_pos l1', d2]; simp only [zq_bindP]; rw [p2]
      have f1 : md_draw_c c 7 = c1 := e1.1
      have f2 : md_draw_r c 7 = nI (drN (lcg sd) % 7) := e1.2
      have f3 : md_draw_c c1 2 = c2 := e2.1
      have f4 : md_draw_r c1 2 = nI (drN (lcg (lcg sd)) % 2) := e2.2
      refine ⟨s4, c4, W4, sd4, i4, hi4, fun k => ?_, fun k => ?_, R4, fun sb hs => Rw4 sb (Rw3 sb (Rw2 sb (Rw1 sb hs))), ⟨by rw [z4.1, z3.1, z2.1, z1.1], by rw [z4.2.1, z3.2.1, z2.2.1, z1.2.1], by rw [z4.2.2, z3.2.2, z2.2.2, z1.2.2]⟩, ((M1.tr M2).tr M3).tr M4⟩
      · simp only [x11_moves_L28]
        rw [if_neg hle, st]
        simp only [zq_bindP]
        rw [if_pos trivial, q1]
        simp only [zq_bindP]
        rw [q2]
        simp only [zq_bindP]
        rw [m1]
        simp only [zq_bindP, zq_letP]
        rw [nI_1, k1]
      · simp only [md_makesByDraws_L4]
        rw [if_neg hle, ov, if_pos rfl]
        simp only [zq_letP, f1, f2, f3, f4]
        rw [m2]
        simp only [zq_bindP, zq_letP]
        rw [nI_1, k2]
theorem po_tog {v : Nat} (hv : v < 1200) : po_together (nI v) = nI (v / 120 + v / 12 % 10) := by
  unfold po_together
  rw [po_d0N hv, po_d1N hv, nI_add]
theorem lgC (p : Int32) : (∃ n, n ≤ 1 ∧ p = nI n ∧ ws_isLeg p = 1 ∧ md_noLeg p = 0) ∨ (ws_isLeg p = 0 ∧ md_noLeg p = 1) := by
  unfold ws_isLeg md_noLeg
  rcases rngC 0 1 (by decide) (by decide) p with ⟨n, _, hn, rfl, hin⟩ | ⟨hin, hout⟩
  · have hin' : md_in (nI n) 0 1 = 1 := hin
    left
    refine ⟨n, hn, rfl, ?_, by rw [hin', if_neg (by decide)]⟩
    rw [if_neg (nI_pos (by omega)), if_neg (by show ¬ nI 2 ≤ nI n; rw [zq_le (by decide) (by omega)]; omega)]
  · have hin' : md_in p 0 1 = 0 := hin
    right
    refine ⟨?_, by rw [hin', if_pos rfl]⟩
    rcases hout with h | ⟨h1, h2⟩
    · rw [if_pos (show p < 0 from h)]
    · rw [if_neg (show ¬ p < 0 from h1), if_pos]
      rw [fa_lt] at h2
      rw [fa_le]
      have e1 : (nI 1).toInt = 1 := by decide
      have e2 : (2 : Int32).toInt = 2 := by decide
      omega
theorem RR_act0 (hj : j < 512) (Z : R_sz X j s) {s1 s2 : sk_S} (h1 : sk_n s1 ≤ sk_n s + 10) (h2 : sk_m s1 ≤ sk_m s + 200) (h3 : sk_r s1 X 9 = sk_r s X 9) (z : sk_n s2 = sk_n s1 ∧ sk_m s2 = sk_m s1 ∧ sk_r s2 X 9 = sk_r s1 X 9) (R : RA X s2 c' W' sd' m) (Rw : R_way X s2 W' m (1 + 12 * j)) : RR X (j + 1) s2 c' :=
  RR_act hj Z (by rw [z.1]; exact h1) (by rw [z.2.1]; exact h2) (z.2.2.trans h3) R Rw
theorem cut1 : ((1 : Int32) = 2) = False := eq_false (by decide)
set_option maxRecDepth 20000 in
theorem sm_moved_ok (hN : 2000000000 ≤ N) : sm_moved X N (RR X) := by
  intro j s c hj ⟨_, Z, W, sd, m, R, Rw⟩ p1 p2
  have R0 := RA_c R ceq_0
  rcases mvC p1 with ⟨n, hn, rfl, m1, m2⟩ | ⟨m1, m2⟩
  · rcases lgC p2 with ⟨k, hk, rfl, l1, l2⟩ | ⟨l1, l2⟩
    · have st := stillN (N := N) R.1
      have ov := overR (rwd_of R0)
      by_cases h : ovr W
      · rw [if_pos h] at st ov
        refine ⟨sk_rs s 6, bk_w (bk_w c 0 0 0) 0 0 2, .inr "java/lang/IllegalStateException", 0, ?_, ?_, .inr (.inr ⟨rfl, bk_w_same _ _ _ _⟩), RR_thr hj Z R Rw (thr_ceq 2)⟩
        · unfold x11_moved
          rw [if_pos R.1.1, m1, if_neg (by decide), l1, if_neg (by decide), st]
          simp only [zq_bindP]
          rw [if_neg (by decide)]
        · simp only [md_moved, zq_letP, m2, l2, ov, th_r, th_c0, th_c1, d10, d11, d00, or_true, ↓reduceIte]
      · rw [if_neg h] at st ov
        obtain ⟨s2, c2, a1, a2, a3, a4, a5, a6, a7, a8, a9⟩ := rm_ok (N := N) (by omega) R0 Rw
        obtain ⟨s3, c3, W3, b1, b2, b3, b4, b5, b6⟩ := mm_ok (N := N) (mv := n) (lg := k) (by omega) a3 hn hk
        have hw3 := wd_of b3
        obtain ⟨u0, u1, -, -⟩ := psN_un hw3
        have hret : po_together (sk_c s3 (X + 13) 0) = c3 1 0 + c3 1 1 := by
          rw [(R_calm b3.1).1, po_tog (psN_lt hw3), u0, u1, wv_n b3.1.2.2.2.1 (by decide) (by decide), wv_n b3.1.2.2.2.1 (by decide) (by decide), nI_add]
        refine ⟨s3, c3, .inl (some (.int (c3 1 0 + c3 1 1))), c3 1 0 + c3 1 1, ?_, ?_, .inl ⟨rfl, ?_⟩, RR_act0 hj Z a5 a6 a7 b5 b3 (b4 _ a4)⟩
        · unfold x11_moved
          rw [if_pos R.1.1, m1, if_neg (by decide), l1, if_neg (by decide), st]
          simp only [zq_bindP]
          rw [if_pos trivial, a1]
          simp only [zq_bindP]
          rw [b1]
          simp only [zq_bindP]
          rw [hret]
        · simp only [md_moved, zq_letP, m2, l2, ov, th_r, th_c0, th_c1, d10, d00, true_or, ↓reduceIte, a2, zq_bindP, b2]
        · rw [b6.2.1 0 (by decide) (by decide), a9 0 (by decide), bk_w_same]
    · refine ⟨sk_rs s 6, bk_w (bk_w c 0 0 0) 0 0 1, .inr "java/lang/IndexOutOfBoundsException", 0, ?_, ?_, .inr (.inl ⟨rfl, bk_w_same _ _ _ _⟩), RR_thr hj Z R Rw (thr_ceq 1)⟩
      · unfold x11_moved
        rw [if_pos R.1.1, m1, if_neg (by decide), l1, if_pos rfl]
      · simp only [md_moved, zq_letP, m2, l2, th_r, th_c0, th_c1, d10, d11, d00, or_true, ↓reduceIte]
  · refine ⟨sk_rs s 6, bk_w (bk_w c 0 0 0) 0 0 1, .inr "java/lang/IndexOutOfBoundsException", 0, ?_, ?_, .inr (.inl ⟨rfl, bk_w_same _ _ _ _⟩), RR_thr hj Z R Rw (thr_ceq 1)⟩
    · unfold x11_moved
      rw [if_pos R.1.1, m1, if_pos rfl]
    · simp only [md_moved, zq_letP, m2, th_r, th_c0, th_c1, d10, d11, d00, or_true, ↓reduceIte]
set_option maxRecDepth 20000 in
theorem sm_moves_ok (hN : 2000000000 ≤ N) : sm_moves X N (RR X) := by
  intro j s c hj ⟨_, Z, W, sd, m, R, Rw⟩ p1
  have R0 := RA_c R ceq_0
  rcases rngC 1 60 (by decide) (by decide) p1 with ⟨n, h1, hn, rfl, hin⟩ | ⟨hin, hout⟩
  · have hin' : md_in (nI n) 1 60 = 1 := hin
    have g1 : ¬ nI n < (1 : Int32) := by show ¬ nI n < nI 1; rw [zq_lt (by omega) (by decide)]; omega
    have g2 : nI n ≤ (60 : Int32) := by show nI n ≤ nI 60; rw [zq_le (by omega) (by decide)]; omega
    obtain ⟨s2, c2, a1, a2, a3, a4, a5, a6, a7, a8, a9⟩ := rm_ok (N := N) (by omega) R0 Rw
    obtain ⟨s3, c3, W3, sd3, i3, hi3, b1, b2, b3, b4, b5, b6⟩ := ml_ok (N := N) (by omega) hn n 0 N N s2 c2 W sd (by omega) (by omega) (by omega) a3
    refine ⟨s3, c3, .inl (some (.int (nI i3))), nI i3, ?_, ?_, .inl ⟨rfl, ?_⟩, RR_act0 hj Z a5 a6 a7 b5 b3 (b4 _ a4)⟩
    · unfold x11_moves
      rw [if_pos R.1.1, if_neg g1, if_pos g2, a1]
      simp only [zq_bindP]
      exact b1 _
    · have mb : md_makesByDraws N c2 (nI n) = some (c3, nI i3) := by
        unfold md_makesByDraws
        exact b2 _
      simp only [md_moves, zq_letP, hin', th_r, th_c0, th_c1, d10, d00, ↓reduceIte, a2, zq_bindP, mb]
    · rw [b6.2.1 0 (by decide) (by decide), a9 0 (by decide), bk_w_same]
  · have hin' : md_in p1 1 60 = 0 := hin
    refine ⟨sk_rs s 6, bk_w (bk_w c 0 0 0) 0 0 1, .inr "java/lang/IllegalArgumentException", 0, ?_, ?_, .inr ⟨rfl, bk_w_same _ _ _ _⟩, RR_thr hj Z R Rw (thr_ceq 1)⟩
    · unfold x11_moves
      rw [if_pos R.1.1]
      rcases hout with h | ⟨h1, h2⟩
      · rw [if_pos (show p1 < 1 from h)]
      · rw [if_neg (show ¬ p1 < 1 from h1), if_neg (nlt_le (show (60 : Int32) < p1 from h2))]
    · simp only [md_moves, zq_letP, hin', th_r, th_c0, th_c1, d10, d11, d00, or_true, ↓reduceIte]
end
