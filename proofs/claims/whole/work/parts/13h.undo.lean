/-! CALLS: undo, image, back -/
section
variable {N X j : Nat} {s s' : sk_S} {c c' : Nat → Nat → Int32} {W W' : Nat → Nat} {sd sd' : Int32} {m m' : lwM} {sb : Nat} {V : Nat → Nat → Prop}
/-- copying rows of the reference -/
theorem un_refL {k : (Nat → Nat → Int32) → Int32 → Option ((Nat → Nat → Int32) × Int32)} {c0 : Nat → Nat → Int32} {kk : Nat} (h7 : c0 0 7 = nI kk) (hk : kk ≤ 11) : ∀ (r fuel i : Nat) (c : Nat → Nat → Int32), i + r = 549 → r < fuel → onl 1 c0 c → (∀ q, i ≤ q → c 1 q = c0 1 q) → (∀ q, q < i → c 1 q = c0 5 (549 * kk + q)) → ∃ c', md_undo_L26 N k fuel c (nI i) = k c' 549 ∧ onl 1 c0 c' ∧ (∀ q, 549 ≤ q → c' 1 q = c0 1 q) ∧ ∀ q, q < 549 → c' 1 q = c0 5 (549 * kk + q) := by
  intro r
  induction r with
  | zero =>
    intro fuel i c hi hf hc h1 h2
    obtain ⟨fuel, rfl⟩ : ∃ q, fuel = q + 1 := ⟨fuel - 1, by omega⟩
    have : i = 549 := by omega
    subst this
    simp only [md_undo_L26]
    rw [if_pos (by decide)]
    exact ⟨c, rfl, hc, h1, h2⟩
  | succ r ih =>
    intro fuel i c hi hf hc h1 h2
    obtain ⟨fuel, rfl⟩ : ∃ q, fuel = q + 1 := ⟨fuel - 1, by omega⟩
    have e1 : (549 : Int32) * c 0 7 + nI i = nI (549 * kk + i) := by
      rw [hc 0 (by decide), h7]
      show nI 549 * nI kk + nI i = _
      rw [pk_mul, nI_add]
    simp only [md_undo_L26, zq_letP]
    rw [if_neg (by show ¬ nI 549 ≤ nI i; rw [zq_le (by decide) (by omega)]; omega), e1, if_pos (zq_inBt (show 549 * kk + i < 6588 by omega) (by decide)), if_pos (zq_inBt (show i < 2247 by omega) (by decide)), zq_cl (n := i) (by omega), zq_cl (n := 549 * kk + i) (by omega), nI_1]
    refine ih fuel (i + 1) _ (by omega) (by omega) (hc.w _ _) (fun q hq => ?_) (fun q hq => ?_)
    · rw [bk_w_at (by omega)]; exact h1 q (by omega)
    · by_cases e : q = i
      · subst e; rw [bk_w_same, hc 5 (by decide)]
      · rw [bk_w_at e]; exact h2 q (by omega)
theorem im_refL {k : (Nat → Nat → Int32) → Int32 → Option ((Nat → Nat → Int32) × Int32)} {c0 : Nat → Nat → Int32} : ∀ (r fuel i : Nat) (c : Nat → Nat → Int32), i + r = 1398 → r < fuel → onl 2 c0 c → (∀ q, q < i → c 2 q = c0 1 q) → ∃ c', md_image_L7 N k fuel c (nI i) = k c' 1398 ∧ onl 2 c0 c' ∧ ∀ q, q < 1398 → c' 2 q = c0 1 q := by
  intro r
  induction r with
  | zero =>
    intro fuel i c hi hf hc h2
    obtain ⟨fuel, rfl⟩ : ∃ q, fuel = q + 1 := ⟨fuel - 1, by omega⟩
    have : i = 1398 := by omega
    subst this
    simp only [md_image_L7]
    rw [if_pos (by decide)]
    exact ⟨c, rfl, hc, h2⟩
  | succ r ih =>
    intro fuel i c hi hf hc h2
    obtain ⟨fuel, rfl⟩ : ∃ q, fuel = q + 1 := ⟨fuel - 1, by omega⟩
    simp only [md_image_L7, zq_letP]
    rw [if_neg (by show ¬ nI 1398 ≤ nI i; rw [zq_le (by decide) (by omega)]; omega), if_pos (zq_inBt (show i < 2247 by omega) (by decide)), if_pos (zq_inBt (show i < 1398 by omega) (by decide)), zq_cl (n := i) (by omega), nI_1]
    refine ih fuel (i + 1) _ (by omega) (by omega) (hc.w _ _) (fun q hq => ?_)
    by_cases e : q = i
    · subst e; rw [bk_w_same, hc 1 (by decide)]
    · rw [bk_w_at e]; exact h2 q (by omega)
theorem ba_refL {k : (Nat → Nat → Int32) → Int32 → Option ((Nat → Nat → Int32) × Int32)} {c0 : Nat → Nat → Int32} : ∀ (r fuel i : Nat) (c : Nat → Nat → Int32), i + r = 1398 → r < fuel → onl 1 c0 c → (∀ q, q < i → c 1 q = c0 2 q) → ∃ c', md_back_L16 N k fuel c (nI i) = k c' 1398 ∧ onl 1 c0 c' ∧ ∀ q, q < 1398 → c' 1 q = c0 2 q := by
  intro r
  induction r with
  | zero =>
    intro fuel i c hi hf hc h2
    obtain ⟨fuel, rfl⟩ : ∃ q, fuel = q + 1 := ⟨fuel - 1, by omega⟩
    have : i = 1398 := by omega
    subst this
    simp only [md_back_L16]
    rw [if_pos (by decide)]
    exact ⟨c, rfl, hc, h2⟩
  | succ r ih =>
    intro fuel i c hi hf hc h2
    obtain ⟨fuel, rfl⟩ : ∃ q, fuel = q + 1 := ⟨fuel - 1, by omega⟩
    simp only [md_back_L16, zq_letP]
    rw [if_neg (by show ¬ nI 1398 ≤ nI i; rw [zq_le (by decide) (by omega)]; omega), if_pos (zq_inBt (show i < 1398 by omega) (by decide)), if_pos (zq_inBt (show i < 2247 by omega) (by decide)), zq_cl (n := i) (by omega), nI_1]
    refine ih fuel (i + 1) _ (by omega) (by omega) (hc.w _ _) (fun q hq => ?_)
    by_cases e : q = i
    · subst e; rw [bk_w_same, hc 2 (by decide)]
    · rw [bk_w_at e]; exact h2 q (by omega)
/-- a scene far off stays -/
theorem ent_V {p : Nat} (B : bks X (sk_K s) (sk_n s)) (F : sfr V s s') (S : sc_rel s p W' sd') (hV : ∀ i k, i < 10 → ¬ V (p + i) k) : sc_rel s' p W' sd' ∧ sk_r s' (p + 2) 1 = sk_r s (p + 2) 1 := by
  have k7 := lay7_k4 S.1
  have hb := (B.1 p (by rw [k7.1]; decide)).2
  rw [k7.1] at hb
  have hb : p + 10 ≤ sk_n s := hb
  exact ⟨sc_fr S B.2.2.1 hb (fun i k hi q => absurd q (hV i k hi)) F, F.r (by omega) (hV 2 1 (by decide))⟩
def nowV (X a k : Nat) : Prop := (X + 12 ≤ a ∧ a < X + 22) ∨ (a = X ∧ (k = 6 ∨ k = 7))
theorem nowV_law (B : bks X (sk_K s) (sk_n s)) : lwOK s (nowV X) := fun q h => by
  obtain ⟨_, _, _, _, h38⟩ := quiet_law B h
  exact ⟨fun k h => by unfold nowV at h; omega, fun i k _ _ h => by unfold nowV at h; omega⟩
theorem way_V (Rw : R_way X s W m sb) (B : bks X (sk_K s) (sk_n s)) (F : sfr V s s') (hX : ¬ V X 9) (hV : ∀ a k, X + 38 ≤ a → ¬ V a k) (eW : ∀ j, j < 28 → W' (17 + j) = W (17 + j)) {sb' : Nat} (hs : sb ≤ sb') : R_way X s' W' m sb' :=
  R_way_fr Rw B F hX (fun y k _ h38 => ⟨hV _ _ h38, hV _ _ (by omega)⟩) hs eW
theorem sm_undo_ok (hN : 2000000000 ≤ N) : sm_undo X N (RR X) := by
  intro j s c hj ⟨_, Z, W, sd, m, R, Rw⟩
  obtain ⟨Rn, Rp, Ri, Rt⟩ := id R
  obtain ⟨hl, B, S, wvn, lwn⟩ := id Rn
  obtain ⟨np, k, g1, g2, g3, g4, g5, g6, g7, g8⟩ := id Rp
  have hn := B.2.2.2
  have e7 : bk_w c 0 0 0 0 7 = nI k := by rw [bk_w_at (by decide)]; exact g5
  by_cases hk : k = 0
  · subst hk
    refine ⟨s, bk_w c 0 0 0, 0, ?_, ?_, RR_same hj Z R Rw ceq_0⟩
    · unfold x11_undo
      simp only [zq_letP]
      rw [if_pos hl, g4, if_pos (show nI 0 < (1 : Int32) by decide), if_pos (show nI 0 < (1 : Int32) by decide)]
      split <;> rfl
    · unfold md_undo
      simp only [zq_letP]
      rw [e7, if_pos (by decide)]
  · obtain ⟨p, W', sd', a1, a2, a3, a4, a5, a6⟩ := g8 0 (by omega)
    have hp := g6 _ p (Nat.mod_lt _ (by decide)) a1
    rw [Nat.sub_zero] at a1 a3
    obtain ⟨s1, b1, b2, b3, b4⟩ := x7_bec (N := N) (s := s) (a := X + 12) (b := p) S.1 a2 (by omega)
    generalize e2 : sk_wc (sk_wc s1 X 6 (nI ((np + 11) % 12))) X 7 (nI (k - 1)) = s2
    have F : sfr (nowV X) s s2 := by
      rw [← e2]
      exact ((b2.mono (V' := nowV X) (fun a q h => .inl (by omega))).sfr.wc _ (.inr ⟨rfl, .inl rfl⟩)).wc _ (.inr ⟨rfl, .inr rfl⟩)
    have F12 : cfr (fun a q => a = X) s1 s2 := by
      rw [← e2]
      exact ((cfr.rf (V := fun a q => a = X)).wc _ rfl).wc _ rfl
    have B2 : bks X (sk_K s2) (sk_n s2) := by rw [F12.1, F12.2.2.2.1, b2.1, b2.2.1]; exact B
    have hz1 : ∀ a, sk_n s1 ≤ a → (sk_K s1 a).1 = 0 := by rw [b2.1, b2.2.1]; exact B.2.2.1
    have S2 : sc_rel s2 (X + 12) W' sd' := sc_fr b3 hz1 (by rw [b2.2.1]; omega) (fun i q hi h => by omega) (sfr.of F12)
    have r14 : sk_r s2 (X + 14) 1 = sk_r s (X + 14) 1 := by
      rw [F12.2.2.1, show X + 14 = X + 12 + 2 by omega, b4, a4]
    -- the reference
    obtain ⟨c1, u1, u2, u3, u4⟩ := un_refL (N := N) (k := fun q8 x9 => (some (q8, 1))) (c0 := bk_w (bk_w c 0 0 0) 0 7 (nI (k - 1))) (kk := k - 1) (bk_w_same _ _ _ _) (by omega) 549 N 0 _ (by omega) (by omega) onl.rf (fun _ _ => rfl) (fun q hq => by omega)
    have cn0 : ∀ q, q ≠ 0 → q ≠ 1 → c1 q = c q := fun q h0 h1 => by rw [u2 q h1, bk_w_ne h0, bk_w_ne h0]
    have c00 : ∀ q, q ≠ 0 → q ≠ 7 → c1 0 q = c 0 q := fun q h0 h7 => by rw [u2 0 (by decide), bk_w_at h7, bk_w_at h0]
    have wv1 : wv (c1 1) W' sd' := wv_congr a3 (fun q hq => by rw [u4 q hq, bk_w_ne (by decide), bk_w_ne (by decide)])
    have cT : ∀ q, 549 ≤ q → c1 1 q = c 1 q := fun q hq => by rw [u3 q hq, bk_w_ne (by decide), bk_w_ne (by decide)]
    have L := nowV_law (X := X) B
    have ent : ∀ {p' : Nat} {W1 : Nat → Nat} {sd1 : Int32}, sc_rel s p' W1 sd1 → X + 38 ≤ p' → sc_rel s2 p' W1 sd1 ∧ sk_r s2 (p' + 2) 1 = sk_r s (p' + 2) 1 := fun h h38 => ent_V B F h (fun i q hi h => by unfold nowV at h; omega)
    have r22 : ∀ i, sk_r s2 (X + 22) i = sk_r s (X + 22) i := fun i => F.r (by omega) (by unfold nowV; omega)
    have r8 : sk_r s2 X 8 = sk_r s X 8 := F.r (by omega) (by unfold nowV; omega)
    have RA2 : RA X s2 c1 W' sd' m := by
      refine ⟨⟨lt_X11 (F.fr B.2.2.1) hl, B2, S2, wv1, ?_⟩, ?_, R_img_V Ri B L F (by unfold nowV; omega) (fun p' i q _ _ h38 _ => by unfold nowV; omega) (fun q _ => by rw [cn0 2 (by decide) (by decide)]) (c00 6 (by decide) (by decide)), R_tape_V Rt B F (by unfold nowV; omega) (fun q => by unfold nowV; omega) (by unfold nowV; omega) (c00 9 (by decide) (by decide)) (c00 14 (by decide) (by decide)) (fun q _ => by rw [cn0 6 (by decide) (by decide)])⟩
      · rw [r14, a5]
        exact lw_relT (lw_rel_V lwn B L F) (fun q _ => cT _ (by omega))
      · refine ⟨(np + 11) % 12, k - 1, Nat.mod_lt _ (by decide), by omega, ?_, ?_, ?_, fun i p' hi hp' => ?_, fun i i' p' hi hi' h1 h2 => ?_, fun i hi => ?_⟩
        · rw [← e2, qc_at _ _ _ _ _ _ (by omega), qc_eq, pk_us]
        · rw [← e2, qc_eq, pk_us]
        · rw [u2 0 (by decide), bk_w_same]
        · rw [r22] at hp'
          obtain ⟨z1, z2, z3⟩ := g6 i p' hi hp'
          exact ⟨lt_X7 (F.fr B.2.2.1) z1, z2, by rw [r8]; exact z3⟩
        · rw [r22] at h1 h2
          exact g7 i i' p' hi hi' h1 h2
        · obtain ⟨p', W1, sd1, z1, z2, z3, z4, z5, z6⟩ := g8 (i + 1) (by omega)
          have hp' := g6 _ p' (Nat.mod_lt _ (by decide)) z1
          obtain ⟨y1, y2⟩ := ent z2 hp'.2.1
          refine ⟨p', W1, sd1, ?_, y1, wv_congr z3 (fun q hq => ?_), ?_, z5.trans a5.symm, fun q hq => (z6 q hq).trans (a6 q hq).symm⟩
          · rw [r22, ← z1]; congr 1; omega
          · show c1 5 _ = c 5 _
            rw [cn0 5 (by decide) (by decide)]; congr 1; omega
          · rw [y2, r14]; exact z4
    have Rw2 := way_V (W' := W') (sb' := 1 + 12 * j) Rw B F (by unfold nowV; omega) (fun a q h => by unfold nowV; omega) a6 (Nat.le_refl _)
    refine ⟨s2, c1, 1, ?_, ?_, RR_act hj Z (by rw [F12.2.2.2.1, b2.2.1]; omega) (by rw [F12.2.2.2.2.1, b2.2.2.1]; omega) (F.r (by omega) (by unfold nowV; omega)) RA2 Rw2⟩
    · have l1 : ¬ nI k < (1 : Int32) := by show ¬ nI k < nI 1; rw [zq_lt (by omega) (by decide)]; omega
      have d7 : ∀ v, sk_c (sk_wc s1 X 6 v) X 7 - 1 = nI (k - 1) := fun v => by
        rw [qc_at _ _ _ _ _ _ (by omega), b2.c (by omega), g4]
        exact pk_sub (b := 1) (by omega)
      unfold x11_undo
      simp only [zq_letP]
      rw [if_pos hl, g3, g4]
      by_cases h0 : np = 0
      · subst h0
        rw [if_pos (by decide), if_neg l1]
        have a1' : sk_r s (X + 22) 11 = some p := a1
        rw [a1']
        simp only [ky_om]
        rw [b1]
        simp only [zq_bindP]
        rw [d7]
        have e2' : sk_wc (sk_wc s1 X 6 11) X 7 (nI (k - 1)) = s2 := e2
        rw [e2']
      · have en : nI np - 1 = nI (np - 1) := pk_sub (b := 1) (by omega)
        have em : (np + 11) % 12 = np - 1 := by omega
        rw [em] at a1 e2
        rw [if_neg (by show ¬ nI np ≤ nI 0; rw [zq_le (by omega) (by decide)]; omega), if_neg l1, en, if_pos (zq_inBt (by omega) (by decide)), zq_cl (by omega), a1]
        simp only [ky_om]
        rw [b1]
        simp only [zq_bindP]
        rw [d7, e2]
    · unfold md_undo
      simp only [zq_letP]
      rw [e7, if_neg (by show ¬ nI k = nI 0; intro q; exact hk (zq_inj (by omega) (by decide) q)), show nI k - 1 = nI (k - 1) from pk_sub (b := 1) (by omega)]
      exact u1
/-! image -/
def imV (X p a k : Nat) : Prop := (p ≤ a ∧ a < p + 10) ∨ (a = X ∧ k = 8)
theorem im_ok (hN : 10000 ≤ N) (R : RA X s c W sd m) (Rw : R_way X s W m sb) {s1 : sk_S} {p : Nat} (F1 : sfr (fun a k => a = X ∧ k = 8) s s1) (B1 : bks X (sk_K s1) (sk_n s1)) (h7p : lay_X7 (sk_K s1) (sk_r s1) p = true) (r8 : sk_r s1 X 8 = some p) (hp38 : X + 38 ≤ p) (hpn : sk_n s ≤ p ∨ (sk_K s p).1 = 7) (hpo : ∀ i, i < 12 → sk_r s (X + 22) i ≠ some p) (c' : Nat → Nat → Int32) (cn : ∀ q, q ≠ 0 → q ≠ 2 → c' q = c q) (c0 : ∀ q, q ≠ 0 → q ≠ 6 → c' 0 q = c 0 q) (c6 : c' 0 6 = 1) (c2 : ∀ q, q < 1398 → c' 2 q = c 1 q) :
    ∃ s2, x7_become N s1 p (X + 12) = some (s2, 0) ∧ RA X s2 c' W sd m ∧ R_way X s2 W m sb ∧ sk_n s2 = sk_n s1 ∧ sk_m s2 = sk_m s1 ∧ sk_r s2 X 9 = sk_r s X 9 := by
  obtain ⟨Rn, Rp, Ri, Rt⟩ := R
  obtain ⟨hl, B, S, wvn, lwn⟩ := id Rn
  obtain ⟨np, k, g1, g2, g3, g4, g5, g6, g7, g8⟩ := id Rp
  have hn := B.2.2.2
  have S1 : sc_rel s1 (X + 12) W sd := sc_fr S B.2.2.1 (by omega) (fun i q hi h => by omega) F1
  obtain ⟨s2, b1, b2, b3, b4⟩ := x7_bec (N := N) (s := s1) (a := p) (b := X + 12) h7p S1 (by omega)
  have F : sfr (imV X p) s s2 := (F1.mono (fun a q _ h => .inr h)).tr (b2.mono (V' := imV X p) (fun a q h => .inl h)).sfr
  have B2 : bks X (sk_K s2) (sk_n s2) := by rw [b2.1, b2.2.1]; exact B1
  have L : lwOK s (imV X p) := fun q h => by
    obtain ⟨_, _, k4, h6, h38⟩ := quiet_law B h
    have hne : q ≠ p := by
      rintro rfl
      rcases hpn with hp | hp
      · omega
      · rw [hp] at k4; cases k4
    have ap : ∀ i, i < 6 → ¬ (p ≤ q + i ∧ q + i < p + 10) := fun i hi => apartN B hpn (by rw [k4]; decide) hne (by rw [k4]; exact hi)
    refine ⟨fun k h => ?_, fun i k h1 h2 h => ?_⟩
    · rcases h with h | h
      · exact absurd h (ap 0 (by decide))
      · omega
    · rcases h with h | h
      · exact ap i (by omega) h
      · omega
  have c1 : ∀ q, q < 1398 → c' 1 q = c 1 q := fun q _ => by rw [cn 1 (by decide) (by decide)]
  have Rn2 := R_now_V (s' := s2) (c' := c') Rn B2 L F (fun i q hi h => by unfold imV at h; omega) c1
  have r82 : sk_r s2 X 8 = some p := (b2.r (by omega)).trans r8
  have r22 : ∀ i, sk_r s2 (X + 22) i = sk_r s (X + 22) i := fun i => F.r (by omega) (by unfold imV; omega)
  refine ⟨s2, b1, ⟨Rn2, ?_, ?_, R_tape_V Rt B F (by unfold imV; omega) (fun q => by unfold imV; omega) (by unfold imV; omega) (c0 9 (by decide) (by decide)) (c0 14 (by decide) (by decide)) (fun q _ => by rw [cn 6 (by decide) (by decide)])⟩, ?_, b2.2.1, b2.2.2.1, F.r (by omega) (by unfold imV; omega)⟩
  · refine ⟨np, k, g1, g2, ?_, ?_, (c0 7 (by decide) (by decide)).trans g5, fun i p' hi hp' => ?_, fun i i' p' hi hi' h1 h2 => ?_, fun i hi => ?_⟩
    · rw [F.c (by omega) (by unfold imV; omega)]; exact g3
    · rw [F.c (by omega) (by unfold imV; omega)]; exact g4
    · rw [r22] at hp'
      obtain ⟨z1, z2, z3⟩ := g6 i p' hi hp'
      refine ⟨lt_X7 (F.fr B.2.2.1) z1, z2, ?_⟩
      rw [r82]
      intro q; cases q
      exact hpo i hi hp'
    · rw [r22] at h1 h2
      exact g7 i i' p' hi hi' h1 h2
    · obtain ⟨p', W1, sd1, z1, z2, z3, z4, z5, z6⟩ := g8 i hi
      have hp' := g6 _ p' (Nat.mod_lt _ (by decide)) z1
      have hne : p' ≠ p := fun e => hpo _ (Nat.mod_lt _ (by decide)) (by rw [z1, e])
      have k7 := lay7_k4 z2.1
      have ap : ∀ i, i < 10 → ¬ (p ≤ p' + i ∧ p' + i < p + 10) := fun i hi => apartN B hpn (by rw [k7.1]; decide) hne (by rw [k7.1]; exact hi)
      obtain ⟨y1, y2⟩ := ent_V B F z2 (fun i q hi h => by
        rcases h with h | h
        · exact ap i hi h
        · omega)
      refine ⟨p', W1, sd1, (r22 _).trans z1, y1, wv_congr z3 (fun q hq => by rw [cn 5 (by decide) (by decide)]), ?_, z5, z6⟩
      rw [y2, z4]
      exact (F.r (by omega) (by unfold imV; omega)).symm
  · refine .inr ⟨p, W, sd, m, r82, c6, hp38, b3, wv_congr wvn (fun q hq => c2 q (by omega)), ?_⟩
    have e14 : sk_r s2 (X + 14) 1 = sk_r s (X + 14) 1 := F.r (by omega) (by unfold imV; omega)
    have : sk_r s2 (p + 2) 1 = sk_r s2 (X + 14) 1 := by
      rw [b4, e14]
      exact F1.r (by omega) (by omega)
    rw [this]
    exact lw_relT Rn2.2.2.2.2 (fun q hq => by rw [c2 _ (by omega), c1 _ (by omega)])
  · refine R_way_fr Rw B F (by unfold imV; omega) (fun y q ky h38 => ?_) (Nat.le_refl _) (fun _ _ => rfl)
    have hne : y ≠ p := by
      rintro rfl
      rcases hpn with h | h
      · have := (B.1 y (by rw [ky]; decide)).2; rw [ky] at this; have : y + 8 ≤ sk_n s := this; omega
      · rw [h] at ky; cases ky
    have a0 := apartN (i := 0) B hpn (by rw [ky]; decide) hne (by rw [ky]; decide)
    have a1 := apartN (i := 1) B hpn (by rw [ky]; decide) hne (by rw [ky]; decide)
    refine ⟨fun h => ?_, fun h => ?_⟩
    · rcases h with h | h
      · exact a0 h
      · omega
    · rcases h with h | h
      · exact a1 h
      · omega
theorem sm_image_ok (hN : 2000000000 ≤ N) : sm_image X N (RR X) := by
  intro j s c hj ⟨_, Z, W, sd, m, R, Rw⟩
  obtain ⟨hl, B, S, wvn, lwn⟩ := id R.1
  obtain ⟨np, k, g1, g2, g3, g4, g5, g6, g7, g8⟩ := id R.2.1
  have hn := B.2.2.2
  have hX : (sk_K s X).1 = 11 := by rw [ly_X11_c hl]
  obtain ⟨c1, u1, u2, u3⟩ := im_refL (N := N) (k := fun q4 x5 => some (bk_w q4 0 6 1, 0)) (c0 := bk_w c 0 0 0) 1398 N 0 _ (by omega) (by omega) onl.rf (fun q hq => by omega)
  have rf : md_image N c = some (bk_w c1 0 6 1, 0) := by
    unfold md_image
    simp only [zq_letP]
    exact u1
  have cn : ∀ q, q ≠ 0 → q ≠ 2 → bk_w c1 0 6 1 q = c q := fun q h0 h2 => by rw [bk_w_ne h0, u2 q h2, bk_w_ne h0]
  have c0 : ∀ q, q ≠ 0 → q ≠ 6 → bk_w c1 0 6 1 0 q = c 0 q := fun q h0 h6 => by rw [bk_w_at h6, u2 0 (by decide), bk_w_at h0]
  have c2 : ∀ q, q < 1398 → bk_w c1 0 6 1 2 q = c 1 q := fun q hq => by rw [bk_w_ne (by decide), u3 q hq, bk_w_ne (by decide)]
  unfold x11_image
  simp only [zq_letP]
  rw [if_pos hl]
  cases hr : sk_r s X 8 with
  | some p =>
    rcases R.2.2.1 with ⟨h1, _⟩ | ⟨p', W', sd', m', h1, h2, h3, h4, h5, h6⟩
    · rw [h1] at hr; cases hr
    · rw [h1] at hr; cases hr
      have k7 := (lay7_k4 h4.1).1
      obtain ⟨s2, a1, a2, a3, a4, a5, a6⟩ := im_ok (N := N) (s1 := s) (by omega) R Rw sfr.rf B h4.1 h1 h3 (.inr k7) (fun i hi q => (g6 i _ hi q).2.2 h1) _ cn c0 (bk_w_same _ _ _ _) c2
      simp only [ky_om]
      rw [if_pos h4.1, a1]
      simp only [zq_bindP]
      exact ⟨s2, _, 0, 0, rfl, rf, RR_act hj Z (by omega) (by omega) a6 a2 a3⟩
  | none =>
    obtain ⟨s0, i1, i2, i3, i4, i5, i6⟩ := in_7 (N := N) (s := s) (by omega)
    simp only [ky_om]
    rw [i1]
    simp only [zq_bindP]
    generalize e1 : sk_wr s0 X 8 (some (sk_n s)) = s1
    have F0 : sfr (fun a k => a = X ∧ k = 8) s s0 := i2.sfr (fun a k h => h.elim)
    have F1 : sfr (fun a k => a = X ∧ k = 8) s s1 := by
      rw [← e1]
      exact F0.wr _ ⟨rfl, rfl⟩ (.inr (by rw [hX]; rfl))
    have K1 : sk_K s1 = sk_K s0 := by rw [← e1, wr_K]
    have N1 : sk_n s1 = sk_n s + 10 := by rw [← e1, wr_n, i3]
    have M1 : sk_m s1 ≤ sk_m s + 200 := by rw [← e1, wr_m]; exact i4
    have r8' : sk_r s1 X 8 = some (sk_n s) := by rw [← e1, wr_same]
    have l7 : lay_X7 (sk_K s1) (sk_r s1) (sk_n s) = true := by
      have k7 := lay_X7_of i5.1
      have ne : ∀ b q, b ≠ X → sk_r s1 b q = sk_r s0 b q := fun b q h => by rw [← e1, wr_r2 (by omega)]
      refine lay_X7_mk ⟨by rw [K1]; exact k7.1, (ne _ _ (by omega)).trans k7.2.1, ?_, (ne _ _ (by omega)).trans k7.2.2.2.1, ?_, (ne _ _ (by omega)).trans k7.2.2.2.2.2.1, ?_, (ne _ _ (by omega)).trans k7.2.2.2.2.2.2.2.1, ?_⟩
      · have := k7.2.2.1; unfold lay_X1 at this ⊢; rw [K1]; exact this
      · have q := lay_X6_of k7.2.2.2.2.1
        exact lay_X6_mk ⟨by rw [K1]; exact q.1, (ne _ _ (by omega)).trans q.2.1, by rw [K1]; exact q.2.2⟩
      · have q := lay_X8_of k7.2.2.2.2.2.2.1
        exact lay_X8_mk ⟨by rw [K1]; exact q.1, (ne _ _ (by omega)).trans q.2.1, by rw [K1]; exact q.2.2.1, (ne _ _ (by omega)).trans q.2.2.2.1, by rw [K1]; exact q.2.2.2.2.1, (ne _ _ (by omega)).trans q.2.2.2.2.2.1, by rw [K1]; exact q.2.2.2.2.2.2⟩
      · have q := lay_X2_of k7.2.2.2.2.2.2.2.2
        exact lay_X2_mk ⟨by rw [K1]; exact q.1, (ne _ _ (by omega)).trans q.2.1, by rw [K1]; exact q.2.2⟩
    have knd := lay7_kinds l7
    have B1 : bks X (sk_K s1) (sk_n s1) := by
      refine bks_add B (fun a ha => by rw [K1]; exact i2.1 a ha) (by rw [(lay7_k4 l7).1]; decide) (by rw [(lay7_k4 l7).1, N1]; rfl) (fun a h1 h2 => ?_) (fun a ha => ?_)
      · obtain ⟨i, rfl⟩ : ∃ i, a = sk_n s + i := ⟨a - sk_n s, by omega⟩
        exact knd i (by omega) (by omega)
      · rw [K1, i2.2.2.2 a (by omega)]; exact B.2.2.1 a (by omega)
    obtain ⟨s2, a1, a2, a3, a4, a5, a6⟩ := im_ok (N := N) (s1 := s1) (by omega) R Rw F1 B1 l7 r8' hn (.inl (Nat.le_refl _)) (fun i hi q => by
      have k7 := (lay7_k4 (g6 i _ hi q).1).1
      have := B.2.2.1 (sk_n s) (Nat.le_refl _)
      rw [k7] at this; cases this) _ cn c0 (bk_w_same _ _ _ _) c2
    rw [r8']
    simp only [ky_om]
    rw [if_pos l7, a1]
    simp only [zq_bindP]
    exact ⟨s2, _, 0, 0, rfl, rf, RR_act hj Z (by omega) (by omega) a6 a2 a3⟩
/-! back -/
/-- what is past is forgotten, and what the ways found -/
theorem fp_ok (hl : lay_X11 (sk_K s) (sk_r s) X = true) (Rw : R_way X s W m sb) (hsb : sb < 900000) (B : bks X (sk_K s) (sk_n s)) : ∃ s', x11_forgetPast N s X = some (s', 0) ∧ (∀ W' m', R_way X s' W' m' (sb + 1)) ∧ sk_c s' X 7 = 0 ∧ cfr (fun a k => (a = X ∧ k = 7) ∨ (X + 38 ≤ a ∧ (sk_K s a).1 = 10)) s s' := by
  have hn := B.2.2.2
  unfold x11_forgetPast
  simp only [zq_letP]
  rw [if_pos hl]
  have e0 : sk_r (sk_wc s X 7 0) X 9 = sk_r s X 9 := rfl
  rw [e0]
  rcases Rw with h | ⟨y, st, ca, wa, w1, w2, w3, w4, w5, w6, w7, w8, w9, w10, w11⟩
  · rw [h]
    simp only [ky_om]
    exact ⟨_, rfl, fun W' m' => .inl h, by rw [qc_eq, pk_us], (cfr.rf (V := fun a k => (a = X ∧ k = 7) ∨ (X + 38 ≤ a ∧ (sk_K s a).1 = 10))).wc _ (.inl ⟨rfl, rfl⟩)⟩
  · rw [w1]
    simp only [ky_om]
    have ky := kind10 w2
    have l1 : lay_X10 (sk_K (sk_wc s X 7 0)) (sk_r (sk_wc s X 7 0)) y = true := w2
    have c9 : sk_c (sk_wc s X 7 0) y 9 = nI st := by rw [qc_ne (by omega)]; exact w4
    unfold x10_forget
    simp only [zq_letP]
    rw [if_pos l1, if_pos l1, c9, nI_1]
    simp only [zq_bindP]
    refine ⟨sk_wc (sk_wc s X 7 0) y 9 (nI (st + 1)), rfl, fun W' m' => .inr ⟨y, st + 1, ca, wa, w1, w2, w3, by rw [qc_eq, pk_us], by omega, by omega, ?_, ?_, w9, w10, fun v o hv ho => ?_⟩, ?_, ((cfr.rf (V := fun a k => (a = X ∧ k = 7) ∨ (X + 38 ≤ a ∧ (sk_K s a).1 = 10))).wc _ (.inl ⟨rfl, rfl⟩)).wc _ (.inr ⟨w3, ky⟩)⟩
    · rw [qc_at _ _ _ _ _ _ (by omega), qc_ne (by omega)]; exact w7
    · rw [qc_at _ _ _ _ _ _ (by omega), qc_ne (by omega)]; exact w8
    · obtain ⟨_, e, h1, h2⟩ := w11 v o hv ho
      rw [w4, zq_cl (by omega)] at h2
      have c1 : sk_c (sk_wc (sk_wc s X 7 0) y 9 (nI (st + 1))) (y + 1) = sk_c s (y + 1) := by rw [qc_ne (by omega), qc_ne (by omega)]
      rw [c1, h1, qc_eq, pk_us, zq_cl (n := st + 1) (by omega)]
      refine ⟨fun q => ?_, e, rfl, by omega⟩
      exfalso
      rw [pk_shrN (by omega) ((11 : Int32) &&& 31) 11 (by decide)] at q
      have := zq_inj (by omega) (by omega) q
      omega
    · rw [qc_ne (by omega), qc_eq, pk_us]
/-- the new things of one who has gone back, or whom a text has told: what is past is gone -/
theorem past_0 (hc7 : c' 0 7 = 0) (h7 : sk_c s' X 7 = 0) (R : R_past X s c W) (hl : lay_X11 (sk_K s) (sk_r s) X = true) (B : bks X (sk_K s) (sk_n s)) (F : sfr V s s') (h6 : ¬ V X 6) (h8 : ¬ V X 8) (h22 : ∀ k, ¬ V (X + 22) k) : R_past X s' c' W' := by
  obtain ⟨np, k, g1, g2, g3, g4, g5, g6, g7, g8⟩ := R
  have hn := B.2.2.2
  have r22 : ∀ i, sk_r s' (X + 22) i = sk_r s (X + 22) i := fun i => F.r (by omega) (h22 i)
  have r8 : sk_r s' X 8 = sk_r s X 8 := F.r (by omega) h8
  refine ⟨np, 0, g1, by omega, ?_, h7, hc7, fun i p' hi hp' => ?_, fun i i' p' hi hi' h1 h2 => ?_, fun i hi => by omega⟩
  · rw [F.c (by omega) h6]; exact g3
  · rw [r22] at hp'
    obtain ⟨z1, z2, z3⟩ := g6 i p' hi hp'
    exact ⟨lt_X7 (F.fr B.2.2.1) z1, z2, by rw [r8]; exact z3⟩
  · rw [r22] at h1 h2
    exact g7 i i' p' hi hi' h1 h2
def bkV (X : Nat) (s : sk_S) (a k : Nat) : Prop := (X + 12 ≤ a ∧ a < X + 22) ∨ (a = X ∧ k = 7) ∨ (X + 38 ≤ a ∧ (sk_K s a).1 = 10)
theorem sm_back_ok (hN : 2000000000 ≤ N) : sm_back X N (RR X) := by
  intro j s c hj ⟨_, Z, W, sd, m, R, Rw⟩
  obtain ⟨Rn, Rp, Ri, Rt⟩ := id R
  obtain ⟨hl, B, S, wvn, lwn⟩ := id Rn
  have hn := B.2.2.2
  have e6 : bk_w c 0 0 0 0 6 = c 0 6 := bk_w_at (by decide)
  rcases id Ri with ⟨h1, h2⟩ | ⟨p, W', sd', m', h1, h2, h3, h4, h5, h6⟩
  · refine ⟨s, bk_w c 0 0 0, 0, ?_, ?_, RR_same hj Z R Rw ceq_0⟩
    · unfold x11_back
      rw [if_pos hl, h1]
      rfl
    · unfold md_back
      simp only [zq_letP]
      rw [e6, h2, if_pos rfl]
  · obtain ⟨s1, b1, b2, b3, b4⟩ := x7_bec (N := N) (s := s) (a := X + 12) (b := p) S.1 h4 (by omega)
    have F1 : sfr (nowV X) s s1 := (b2.mono (V' := nowV X) (fun a q h => .inl (by omega))).sfr
    have B1 : bks X (sk_K s1) (sk_n s1) := by rw [b2.1, b2.2.1]; exact B
    have hl1 := lt_X11 (F1.fr B.2.2.1) hl
    have Rw1 : R_way X s1 W m (1 + 12 * j) := way_V Rw B F1 (by unfold nowV; omega) (fun a q h => by unfold nowV; omega) (fun _ _ => rfl) (Nat.le_refl _)
    obtain ⟨s2, f1, f2, f3, f4⟩ := fp_ok (N := N) hl1 Rw1 (by omega) B1
    have F2 : sfr (bkV X s) s s2 := by
      refine (b2.mono (V' := bkV X s) (fun a q h => .inl (by omega))).sfr.tr ((sfr.of f4).mono (fun a q _ h => ?_))
      rcases h with h | h
      · exact .inr (.inl h)
      · rw [b2.1] at h; exact .inr (.inr h)
    have B2 := bks_cfr B1 f4
    have kne : ∀ {p' : Nat}, lay_X7 (sk_K s) (sk_r s) p' = true → X + 38 ≤ p' → ∀ i k, i < 10 → ¬ bkV X s (p' + i) k := fun {p'} hl7 h38 i k hi h => by
      have k7 := lay7_k4 hl7
      rcases h with h | h | h
      · omega
      · omega
      · have := bk_apart B (p := p') (q := p' + i) (i := i) (j := 0) (by rw [k7.1]; decide) (by rw [h.2]; decide) (by rw [k7.1]; exact hi) (by rw [h.2]; decide) rfl
        rw [← this, k7.1] at h; omega
    have L : lwOK s (bkV X s) := fun q h => by
      obtain ⟨_, _, k4, _, h38⟩ := quiet_law B h
      have ap : ∀ i k, i < 5 → ¬ bkV X s (q + i) k := fun i k hi h => by
        rcases h with h | h | h
        · omega
        · omega
        · have := bk_apart B (p := q) (q := q + i) (i := i) (j := 0) (by rw [k4]; decide) (by rw [h.2]; decide) (by rw [k4]; show _ < 6; omega) (by rw [h.2]; decide) rfl
          rw [← this, k4] at h; omega
      exact ⟨fun k h => absurd h (ap 0 k (by decide)), fun i k _ h2 => ap i k (by omega)⟩
    have S2 : sc_rel s2 (X + 12) W' sd' := by
      have hz1 : ∀ a, sk_n s1 ≤ a → (sk_K s1 a).1 = 0 := B1.2.2.1
      exact sc_fr b3 hz1 (by rw [b2.2.1]; omega) (fun i q hi h => by omega) (sfr.of f4)
    have r14 : sk_r s2 (X + 14) 1 = sk_r s (p + 2) 1 := by rw [f4.2.2.1, show X + 14 = X + 12 + 2 by omega, b4]
    obtain ⟨c1, u1, u2, u3⟩ := ba_refL (N := N) (k := fun q5 x6 => some (bk_w q5 0 7 0, 1)) (c0 := bk_w c 0 0 0) 1398 N 0 _ (by omega) (by omega) onl.rf (fun q hq => by omega)
    have cn : ∀ q, q ≠ 0 → q ≠ 1 → bk_w c1 0 7 0 q = c q := fun q h0 h2 => by rw [bk_w_ne h0, u2 q h2, bk_w_ne h0]
    have c0 : ∀ q, q ≠ 0 → q ≠ 7 → bk_w c1 0 7 0 0 q = c 0 q := fun q h0 h6 => by rw [bk_w_at h6, u2 0 (by decide), bk_w_at h0]
    have c2 : ∀ q, q < 1398 → bk_w c1 0 7 0 1 q = c 2 q := fun q hq => by rw [bk_w_ne (by decide), u3 q hq, bk_w_ne (by decide)]
    have RA2 : RA X s2 (bk_w c1 0 7 0) W' sd' m' := by
      refine ⟨⟨lt_X11 (F2.fr B.2.2.1) hl, B2, S2, wv_congr h5 (fun q hq => c2 q (by omega)), ?_⟩, past_0 (bk_w_same _ _ _ _) f3 Rp hl B F2 (by unfold bkV; omega) (by unfold bkV; omega) (fun k => by unfold bkV; omega), R_img_V Ri B L F2 (by unfold bkV; omega) (fun p' i q _ e2 e3 hi => kne e2 e3 i q hi) (fun q _ => by rw [cn 2 (by decide) (by decide)]) (c0 6 (by decide) (by decide)), R_tape_V Rt B F2 (by unfold bkV; omega) (fun q => by unfold bkV; omega) (by unfold bkV; omega) (c0 9 (by decide) (by decide)) (c0 14 (by decide) (by decide)) (fun q _ => by rw [cn 6 (by decide) (by decide)])⟩
      rw [r14]
      exact lw_relT (lw_rel_V h6 B L F2) (fun q hq => c2 _ (by omega))
    refine ⟨s2, bk_w c1 0 7 0, 1, ?_, ?_, ⟨by omega, ?_, W', sd', m', RA2, ?_⟩⟩
    · unfold x11_back
      rw [if_pos hl, h1]
      simp only [ky_om]
      rw [b1]
      simp only [zq_bindP]
      rw [f1]
      rfl
    · unfold md_back
      simp only [zq_letP]
      rw [e6, h2, if_neg (by decide)]
      exact u1
    · unfold R_sz at Z ⊢
      rw [f4.2.2.2.1, f4.2.2.2.2.1, f4.2.2.1, b2.2.1, b2.2.2.1, b2.r (by omega)]; omega
    · rcases f2 W' m' with h | ⟨y, st, ca, wa, k1, k2, k3, k4, k5, k6, k7⟩
      · exact .inl h
      · exact .inr ⟨y, st, ca, wa, k1, k2, k3, k4, k5, by omega, k7⟩
end
