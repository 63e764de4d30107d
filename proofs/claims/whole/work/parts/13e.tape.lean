/-! CALLS: fault, end, feed, seed, count -/
section
variable {N X j : Nat} {s s' : sk_S} {c c' : Nat → Nat → Int32} {W W' : Nat → Nat} {sd sd' : Int32} {m : lwM} {sb : Nat} {V : Nat → Nat → Prop}
/-- only the tape, its length, the wrong byte change; what reading uses -/
def tpV (X : Nat) (a k : Nat) : Prop := a = X + 1 ∨ a = X + 2 ∨ (a = X ∧ k = 10) ∨ (X + 3 ≤ a ∧ a ≤ X + 11 ∧ ¬ (a = X + 9 ∧ k = 0))
theorem tpV_acted_not {a k : Nat} (h : ¬ (a ≤ X + 11 ∧ X ≤ a)) : ¬ tpV X a k := by unfold tpV; omega
theorem RA_tape (R : RA X s c W sd m) (F : sfr (tpV X) s s') (B' : bks X (sk_K s') (sk_n s')) (T : R_tape X s' c') (C1 : ∀ k, k < 1398 → c' 1 k = c 1 k) (C2 : ∀ k, k < 1398 → c' 2 k = c 2 k) (C5 : ∀ k, k < 6588 → c' 5 k = c 5 k) (C06 : c' 0 6 = c 0 6) (C07 : c' 0 7 = c 0 7) : RA X s' c' W sd m := by
  obtain ⟨Rn, Rp, Ri, Rt⟩ := R
  obtain ⟨hl, B, S, wvn, lwn⟩ := id Rn
  have hn := B.2.2.2
  have L : lwOK s (tpV X) := fun q h => by
    obtain ⟨_, _, _, _, h38⟩ := quiet_law B h
    exact ⟨fun k h => by unfold tpV at h; omega, fun i k _ _ h => by unfold tpV at h; omega⟩
  refine ⟨R_now_V Rn B' L F (fun i k hi => tpV_acted_not (by omega)) C1, ?_, R_img_V Ri B L F (by unfold tpV; omega) (fun p i k _ _ h38 _ => tpV_acted_not (by omega)) C2 C06, T⟩
  obtain ⟨np, k, g1, g2, g3, g4, g5, g6, g7, g8⟩ := Rp
  have r22 : ∀ i, sk_r s' (X + 22) i = sk_r s (X + 22) i := fun i => F.r (by omega) (tpV_acted_not (by omega))
  have r8 : sk_r s' X 8 = sk_r s X 8 := F.r (by omega) (by unfold tpV; omega)
  have r14 : sk_r s' (X + 14) 1 = sk_r s (X + 14) 1 := F.r (by omega) (tpV_acted_not (by omega))
  refine ⟨np, k, g1, g2, ?_, ?_, C07.trans g5, fun i p hi hp => ?_, fun i i' p hi hi' hp hp' => ?_, fun i hi => ?_⟩
  · rw [F.c (by omega) (by unfold tpV; omega)]; exact g3
  · rw [F.c (by omega) (by unfold tpV; omega)]; exact g4
  · rw [r22] at hp
    obtain ⟨a1, a2, a3⟩ := g6 i p hi hp
    exact ⟨lt_X7 (F.fr B.2.2.1) a1, a2, by rw [r8]; exact a3⟩
  · rw [r22] at hp hp'
    exact g7 i i' p hi hi' hp hp'
  · obtain ⟨p, W1, sd1, a1, a2, a3, a4, a5, a6⟩ := g8 i hi
    have hp := g6 _ p (Nat.mod_lt _ (by decide)) a1
    have k7 := lay7_k4 a2.1
    have hb := (B.1 p (by rw [k7.1]; decide)).2
    rw [k7.1] at hb
    have hb : p + 10 ≤ sk_n s := hb
    refine ⟨p, W1, sd1, (r22 _).trans a1, sc_fr a2 B.2.2.1 hb (fun i k hi q => absurd q (tpV_acted_not (by omega))) F, wv_congr a3 (fun q hq => C5 _ (by
      have : k - 1 - i ≤ 11 := by omega
      omega)), ?_, a5, a6⟩
    rw [r14, ← a4]
    exact F.r (by omega) (tpV_acted_not (by omega))
theorem way_tape (Rw : R_way X s W m sb) (B : bks X (sk_K s) (sk_n s)) (F : sfr (tpV X) s s') {sb' : Nat} (hs : sb ≤ sb') : R_way X s' W m sb' :=
  R_way_fr Rw B F (by unfold tpV; omega) (fun y k _ h38 => ⟨tpV_acted_not (by omega), tpV_acted_not (by omega)⟩) hs (fun _ _ => rfl)
theorem RR_tape (hj : j < 512) (Z : R_sz X j s) (F : cfr (tpV X) s s') (R : RA X s' c' W sd m) (Rw : R_way X s' W m (1 + 12 * (j + 1))) : RR X (j + 1) s' c' := by
  refine ⟨by omega, ?_, W, sd, m, R, Rw⟩
  unfold R_sz at Z ⊢
  rw [F.2.2.2.1, F.2.2.2.2.1, F.2.2.1]; omega
theorem sm_fault_ok (hN : 2000000000 ≤ N) : sm_fault X N (RR X) := by
  intro j s c hj ⟨_, Z, W, sd, m, R, Rw⟩
  refine ⟨s, bk_w c 0 0 0, c 0 14, ?_, ?_, RR_same hj Z R Rw ceq_0⟩
  · unfold x11_fault
    rw [if_pos R.1.1, R.2.2.2.2]
  · unfold md_faultO md_fault_c md_fault_r
    rw [bk_w_at (by decide)]
theorem sm_end_ok (hN : 2000000000 ≤ N) : sm_end X N (RR X) := by
  intro j s c hj ⟨_, Z, W, sd, m, R, Rw⟩ p1
  obtain ⟨⟨ln, t1, t2, t3, t4⟩, t5⟩ := R.2.2.2
  have e9 : bk_w c 0 0 0 0 9 = nI ln := by rw [bk_w_at (by decide)]; exact t3
  unfold x11_end md_endO md_end_c md_end_r
  rw [if_pos R.1.1, t2, e9]
  by_cases h0 : p1 < 0
  · simp only [if_pos h0]
    exact ⟨s, bk_w c 0 0 0, 0, rfl, rfl, RR_same hj Z R Rw ceq_0⟩
  · simp only [if_neg h0]
    by_cases h1 : p1 ≤ nI ln
    · simp only [if_pos h1]
      obtain ⟨n, hn, rfl⟩ := nI_of h0
      rw [zq_le (by omega) (by omega)] at h1
      have F : cfr (tpV X) s (sk_wc s (X + 1) 1 (nI n)) := cfr.rf.wc _ (.inl rfl)
      have B' := bks_cfr R.1.2.1 F
      have T : R_tape X (sk_wc s (X + 1) 1 (nI n)) (bk_w (bk_w c 0 0 0) 0 9 (nI n)) := by
        refine ⟨⟨n, ⟨by omega, by rw [qc_ne (by omega)]; exact t1.2⟩, by rw [qc_eq, pk_us], bk_w_same _ _ _ _, fun q hq => ?_⟩, ?_⟩
        · rw [qc_ne (by omega), bk_w_ne (by decide), bk_w_ne (by decide)]; exact t4 q (by omega)
        · rw [qc_ne (by omega), bk_w_at (by decide), bk_w_at (by decide)]; exact t5
      refine ⟨_, _, 1, rfl, rfl, RR_tape hj Z F (RA_tape R (sfr.of F) B' T (fun k _ => by rw [bk_w_ne (by decide), bk_w_ne (by decide)]) (fun k _ => by rw [bk_w_ne (by decide), bk_w_ne (by decide)]) (fun k _ => by rw [bk_w_ne (by decide), bk_w_ne (by decide)]) (by rw [bk_w_at (by decide), bk_w_at (by decide)]) (by rw [bk_w_at (by decide), bk_w_at (by decide)])) (way_tape Rw R.1.2.1 (sfr.of F) (by omega))⟩
    · simp only [if_neg h1]
      exact ⟨s, bk_w c 0 0 0, 0, rfl, rfl, RR_same hj Z R Rw ceq_0⟩
def bt (x sh : Int32) : Int32 := ((x >>> (sh &&& 31)).toInt8.toInt32).toInt8.toInt32
theorem fd_sh : ∀ i, i < 4 → ((24 : Int32) - nI (8 * i)) + (-8) = 24 - nI (8 * (i + 1)) ∧ ¬ ((24 : Int32) - nI (8 * i)) < 0 := by decide +kernel
theorem fd_addL {a : Nat} {p : Int32} {ln : Nat} : ∀ (r fuel i : Nat) (s : sk_S), i + r = 4 → r < fuel → ln + 4 ≤ 400 → sk_c s a 1 = nI (ln + i) → ∃ s', x9_add_L3 N a (fun q2 x3 x4 => (some (q2, 0))) fuel s p ((24 : Int32) - nI (8 * i)) = some (s', 0) ∧ cfr (fun b k => b = a + 1 ∨ (b = a ∧ k = 1)) s s' ∧ sk_c s' a 1 = nI (ln + 4) ∧ (∀ q, i ≤ q → q < 4 → sk_c s' (a + 1) (ln + q) = bt p ((24 : Int32) - nI (8 * q))) ∧ ∀ q, (q < ln + i ∨ ln + 4 ≤ q) → sk_c s' (a + 1) q = sk_c s (a + 1) q := by
  intro r
  induction r with
  | zero =>
    intro fuel i s hi hf hln h1
    obtain ⟨fuel, rfl⟩ : ∃ q, fuel = q + 1 := ⟨fuel - 1, by omega⟩
    have : i = 4 := by omega
    subst this
    simp only [x9_add_L3]
    rw [if_pos (by decide)]
    exact ⟨s, rfl, cfr.rf, h1, fun q h1 h2 => by omega, fun _ _ => rfl⟩
  | succ r ih =>
    intro fuel i s hi hf hln h1
    obtain ⟨fuel, rfl⟩ : ∃ q, fuel = q + 1 := ⟨fuel - 1, by omega⟩
    obtain ⟨sh1, sh2⟩ := fd_sh i (by omega)
    simp only [x9_add_L3, zq_letP]
    rw [if_neg sh2, h1, if_neg (by show ¬ nI 400 ≤ nI (ln + i); rw [zq_le (by decide) (by omega)]; omega), if_pos (zq_inBt (show ln + i < 400 by omega) (by decide)), zq_cl (by omega), qc_ne (show a ≠ a + 1 by omega), h1, nI_1, sh1]
    obtain ⟨s', g1, g2, g3, g4, g5⟩ := ih fuel (i + 1) (sk_wc (sk_wc s (a + 1) (ln + i) (bt p (24 - nI (8 * i)))) a 1 (nI (ln + i + 1))) (by omega) (by omega) hln (by rw [qc_eq, pk_us]; rfl)
    refine ⟨s', g1, (((cfr.rf (V := fun b k => b = a + 1 ∨ (b = a ∧ k = 1))).wc _ (.inl rfl)).wc _ (.inr ⟨rfl, rfl⟩)).tr g2, g3, fun q h2 h3 => ?_, fun q hq => ?_⟩
    · by_cases e : q = i
      · subst e
        rw [g5 _ (.inl (by omega)), qc_ne (by omega), qc_eq, pk_us]
      · exact g4 q (by omega) h3
    · rw [g5 q (by omega), qc_ne (by omega), qc_eq, pk_un (by omega)]
theorem fd_add {a : Nat} {p : Int32} {ln : Nat} (hN : 100 ≤ N) (hl : lay_X9 (sk_K s) (sk_r s) a = true) (hln : ln + 4 ≤ 400) (h1 : sk_c s a 1 = nI ln) : ∃ s', x9_add N s a p = some (s', 0) ∧ cfr (fun b k => b = a + 1 ∨ (b = a ∧ k = 1)) s s' ∧ sk_c s' a 1 = nI (ln + 4) ∧ (∀ q, q < 4 → sk_c s' (a + 1) (ln + q) = bt p ((24 : Int32) - nI (8 * q))) ∧ ∀ q, (q < ln ∨ ln + 4 ≤ q) → sk_c s' (a + 1) q = sk_c s (a + 1) q := by
  unfold x9_add
  rw [if_pos hl]
  obtain ⟨s', g1, g2, g3, g4, g5⟩ := fd_addL (N := N) (a := a) (p := p) (ln := ln) 4 N 0 s (by omega) (by omega) hln h1
  exact ⟨s', g1, g2, g3, fun q hq => g4 q (Nat.zero_le _) hq, g5⟩
theorem fd_refL {k : (Nat → Nat → Int32) → Int32 → Int32 → Int32 → Int32 → Int32 → Int32 → Option ((Nat → Nat → Int32) × Int32)} {p1 p2 p3 p4 p5 : Int32} {c0 : Nat → Nat → Int32} {ln : Nat} (h9 : c0 0 9 = nI ln) (hln : ln + 20 ≤ 400) : ∀ (r fuel i : Nat) (c : Nat → Nat → Int32), i + r = 20 → r < fuel → onl 6 c0 c → (∀ q, q < ln → c 6 q = c0 6 q) → (∀ q, q < i → c 6 (ln + q) = bt (c0 7 (q / 4)) ((24 : Int32) - nI (8 * (q % 4)))) → ∃ c', md_feed_L60 N k fuel c p1 p2 p3 p4 p5 (nI i) = k c' p1 p2 p3 p4 p5 20 ∧ onl 6 c0 c' ∧ (∀ q, q < ln → c' 6 q = c0 6 q) ∧ ∀ q, q < 20 → c' 6 (ln + q) = bt (c0 7 (q / 4)) ((24 : Int32) - nI (8 * (q % 4))) := by
  intro r
  induction r with
  | zero =>
    intro fuel i c hi hf hc h1 h2
    obtain ⟨fuel, rfl⟩ : ∃ q, fuel = q + 1 := ⟨fuel - 1, by omega⟩
    have : i = 20 := by omega
    subst this
    simp only [md_feed_L60]
    rw [if_pos (by decide)]
    exact ⟨c, rfl, hc, h1, h2⟩
  | succ r ih =>
    intro fuel i c hi hf hc h1 h2
    obtain ⟨fuel, rfl⟩ : ∃ q, fuel = q + 1 := ⟨fuel - 1, by omega⟩
    have e4 : nI i / 4 = nI (i / 4) := pk_div (d := 4) (by omega) (by decide) (by decide)
    have er : (8 : Int32) * (nI i - nI i / 4 * 4) = nI (8 * (i % 4)) := by
      have : nI i - nI i / 4 * 4 = nI (i % 4) := pk_rem (d := 4) (by omega) (by decide) (by decide)
      rw [this]; exact pk_mul 8 _
    simp only [md_feed_L60, zq_letP]
    rw [if_neg (by show ¬ nI 20 ≤ nI i; rw [zq_le (by decide) (by omega)]; omega), er, e4, if_pos (zq_inBt (show i / 4 < 5 by omega) (by decide)), zq_cl (n := i / 4) (by omega), hc 0 (by decide), h9, nI_add, if_pos (zq_inBt (show ln + i < 400 by omega) (by decide)), zq_cl (n := ln + i) (by omega), hc 7 (by decide), nI_1]
    refine ih fuel (i + 1) _ (by omega) (by omega) (hc.w _ _) (fun q hq => ?_) (fun q hq => ?_)
    · rw [bk_w_at (by omega)]; exact h1 q hq
    · by_cases e : q = i
      · subst e; rw [bk_w_same]; rfl
      · rw [bk_w_at (by omega)]; exact h2 q (by omega)
theorem sm_feed_ok (hN : 2000000000 ≤ N) : sm_feed X N (RR X) := by
  intro j s c hj ⟨_, Z, W, sd, m, R, Rw⟩ p1 p2 p3 p4 p5
  obtain ⟨⟨ln, t1, t2, t3, t4⟩, t5⟩ := R.2.2.2
  have hl9 := ly_X11_l0 R.1.1
  have e9 : bk_w c 0 0 0 0 9 = nI ln := by rw [bk_w_at (by decide)]; exact t3
  have e20 : nI ln + 20 = nI (ln + 20) := nI_add ln 20
  by_cases hr : ln + 20 ≤ 400
  · obtain ⟨s1, a1, a2, a3, a4, a5⟩ := fd_add (N := N) (s := s) (p := p1) (by omega) hl9 (by omega) t2
    have l1 : lay_X9 (sk_K s1) (sk_r s1) (X + 1) = true := by rw [a2.1, a2.2.2.1]; exact hl9
    obtain ⟨s2, b1, b2, b3, b4, b5⟩ := fd_add (N := N) (s := s1) (p := p2) (by omega) l1 (by omega) a3
    have l2 : lay_X9 (sk_K s2) (sk_r s2) (X + 1) = true := by rw [b2.1, b2.2.2.1]; exact l1
    obtain ⟨s3, d1, d2, d3, d4, d5⟩ := fd_add (N := N) (s := s2) (p := p3) (by omega) l2 (by omega) b3
    have l3 : lay_X9 (sk_K s3) (sk_r s3) (X + 1) = true := by rw [d2.1, d2.2.2.1]; exact l2
    obtain ⟨s4, f1, f2, f3, f4, f5⟩ := fd_add (N := N) (s := s3) (p := p4) (by omega) l3 (by omega) d3
    have l4 : lay_X9 (sk_K s4) (sk_r s4) (X + 1) = true := by rw [f2.1, f2.2.2.1]; exact l3
    obtain ⟨s5, g1, g2, g3, g4, g5⟩ := fd_add (N := N) (s := s4) (p := p5) (by omega) l4 (by omega) f3
    have F0 := (((a2.tr b2).tr d2).tr f2).tr g2
    have F : cfr (tpV X) s s5 := F0.mono (fun b k h => by unfold tpV; omega)
    have at_ : ∀ q, q < 20 → sk_c s5 (X + 2) (ln + q) = bt ([p1, p2, p3, p4, p5].getD (q / 4) 0) ((24 : Int32) - nI (8 * (q % 4))) := fun q hq => by
      rw [show X + 2 = X + 1 + 1 by omega]
      have hq5 : q / 4 = 0 ∨ q / 4 = 1 ∨ q / 4 = 2 ∨ q / 4 = 3 ∨ q / 4 = 4 := by omega
      rcases hq5 with e | e | e | e | e
      · have : q = q % 4 := by omega
        rw [g5 _ (.inl (by omega)), f5 _ (.inl (by omega)), d5 _ (.inl (by omega)), b5 _ (.inl (by omega)), e, this, a4 _ (by omega), Nat.mod_mod]; rfl
      · have : ln + q = ln + 4 + q % 4 := by omega
        rw [g5 _ (.inl (by omega)), f5 _ (.inl (by omega)), d5 _ (.inl (by omega)), e, this, b4 _ (by omega)]; rfl
      · have : ln + q = ln + 4 + 4 + q % 4 := by omega
        rw [g5 _ (.inl (by omega)), f5 _ (.inl (by omega)), e, this, d4 _ (by omega)]; rfl
      · have : ln + q = ln + 4 + 4 + 4 + q % 4 := by omega
        rw [g5 _ (.inl (by omega)), e, this, f4 _ (by omega)]; rfl
      · have : ln + q = ln + 4 + 4 + 4 + 4 + q % 4 := by omega
        rw [e, this, g4 _ (by omega)]; rfl
    have lo : ∀ q, q < ln → sk_c s5 (X + 2) q = sk_c s (X + 2) q := fun q hq => by
      rw [show X + 2 = X + 1 + 1 by omega, g5 _ (.inl (by omega)), f5 _ (.inl (by omega)), d5 _ (.inl (by omega)), b5 _ (.inl (by omega)), a5 _ (.inl (by omega))]
    -- the reference
    generalize ec : bk_w (bk_w (bk_w (bk_w (bk_w (bk_w c 0 0 0) 7 0 p1) 7 1 p2) 7 2 p3) 7 3 p4) 7 4 p5 = c0
    have c0n : ∀ q, q ≠ 7 → q ≠ 0 → c0 q = c q := fun q h7 h0 => by rw [← ec, bk_w_ne h7, bk_w_ne h7, bk_w_ne h7, bk_w_ne h7, bk_w_ne h7, bk_w_ne h0]
    have c00 : ∀ q, q ≠ 0 → c0 0 q = c 0 q := fun q h0 => by rw [← ec, bk_w_ne (by decide), bk_w_ne (by decide), bk_w_ne (by decide), bk_w_ne (by decide), bk_w_ne (by decide), bk_w_at h0]
    have c07 : ∀ q, q < 5 → c0 7 q = [p1, p2, p3, p4, p5].getD q 0 := fun q hq => by
      rw [← ec]
      have : q = 0 ∨ q = 1 ∨ q = 2 ∨ q = 3 ∨ q = 4 := by omega
      rcases this with rfl | rfl | rfl | rfl | rfl
      · rw [bk_w_at (by decide), bk_w_at (by decide), bk_w_at (by decide), bk_w_at (by decide), bk_w_same]; rfl
      · rw [bk_w_at (by decide), bk_w_at (by decide), bk_w_at (by decide), bk_w_same]; rfl
      · rw [bk_w_at (by decide), bk_w_at (by decide), bk_w_same]; rfl
      · rw [bk_w_at (by decide), bk_w_same]; rfl
      · rw [bk_w_same]; rfl
    have h09 : c0 0 9 = nI ln := (c00 9 (by decide)).trans t3
    obtain ⟨c1, k1, k2, k3, k4⟩ := fd_refL (N := N) (k := fun q15 x16 x17 x18 x19 x20 x21 => some (bk_w q15 0 9 ((q15 0 9) + 20), (bk_w q15 0 9 ((q15 0 9) + 20)) 0 9)) (p1 := p1) (p2 := p2) (p3 := p3) (p4 := p4) (p5 := p5) (c0 := c0) h09 hr 20 N 0 c0 (by omega) (by omega) onl.rf (fun _ _ => rfl) (fun q hq => by omega)
    have h19 : c1 0 9 + 20 = nI (ln + 20) := by rw [k2 0 (by decide), h09, e20]
    refine ⟨s5, bk_w c1 0 9 (nI (ln + 20)), nI (ln + 20), ?_, ?_, RR_tape hj Z F (RA_tape R (sfr.of F) (bks_cfr R.1.2.1 F) ?_ (fun k _ => by rw [bk_w_ne (by decide), k2 1 (by decide), c0n 1 (by decide) (by decide)]) (fun k _ => by rw [bk_w_ne (by decide), k2 2 (by decide), c0n 2 (by decide) (by decide)]) (fun k _ => by rw [bk_w_ne (by decide), k2 5 (by decide), c0n 5 (by decide) (by decide)]) (by rw [bk_w_at (by decide), k2 0 (by decide), c00 6 (by decide)]) (by rw [bk_w_at (by decide), k2 0 (by decide), c00 7 (by decide)])) (way_tape Rw R.1.2.1 (sfr.of F) (by omega))⟩
    · unfold x11_feed x9_hasRoom
      rw [if_pos R.1.1, if_pos hl9, t2, e20, if_neg (by show ¬ nI 400 < _; rw [zq_lt (by decide) (by omega)]; omega)]
      simp only [zq_bindP]
      rw [if_neg (by decide), a1]
      simp only [zq_bindP]
      rw [b1]
      simp only [zq_bindP]
      rw [d1]
      simp only [zq_bindP]
      rw [f1]
      simp only [zq_bindP]
      rw [g1]
      simp only [zq_bindP]
      rw [g3]
    · unfold md_feed
      simp only [zq_letP]
      rw [e9, e20, if_pos (by show _ ≤ nI 400; rw [zq_le (by omega) (by decide)]; omega), ec]
      have k1' : md_feed_L60 N (fun q15 x16 x17 x18 x19 x20 x21 => some (bk_w q15 0 9 ((q15 0 9) + 20), (bk_w q15 0 9 ((q15 0 9) + 20)) 0 9)) N c0 p1 p2 p3 p4 p5 0 = _ := k1
      rw [k1', h19, bk_w_same]
    · refine ⟨⟨ln + 20, ⟨hr, by rw [F.2.2.2.2.2 _ _ (by unfold tpV; omega)]; exact t1.2⟩, g3, bk_w_same _ _ _ _, fun q hq => ?_⟩, ?_⟩
      · rw [bk_w_ne (by decide)]
        by_cases h : q < ln
        · rw [lo q h, k3 q h, c0n 6 (by decide) (by decide)]; exact t4 q h
        · have e : q = ln + (q - ln) := by omega
          rw [e, at_ _ (by omega), k4 _ (by omega), c07 _ (by omega)]
      · rw [F0.2.2.2.2.2 X 10 (by omega), t5, bk_w_at (by decide), k2 0 (by decide), c00 14 (by decide)]
  · refine ⟨s, bk_w c 0 0 0, -1, ?_, ?_, RR_same hj Z R Rw ceq_0⟩
    · unfold x11_feed x9_hasRoom
      rw [if_pos R.1.1, if_pos hl9, t2, e20, if_pos (by show nI 400 < _; rw [zq_lt (by decide) (by omega)]; omega)]
      simp only [zq_bindP]
      rw [if_pos trivial]
    · unfold md_feed
      simp only [zq_letP]
      rw [e9, e20, if_neg (by show ¬ _ ≤ nI 400; rw [zq_le (by omega) (by decide)]; omega)]
end
