/-! BEACH: the call -/
section
variable {N X j : Nat} {s s' : sk_S} {c c' c0 : Nat → Nat → Int32} {W W' W0 : Nat → Nat} {sd sd' : Int32} {m m' : lwM} {sb p : Nat}
def bcV (X : Nat) (s : sk_S) (a k : Nat) : Prop := (X + 1 ≤ a ∧ a < X + 22 ∧ a ≠ X + 14 ∧ ¬ (a = X + 9 ∧ k = 0)) ∨ (a = X ∧ (k = 7 ∨ k = 10)) ∨ (X + 38 ≤ a ∧ (sk_K s a).1 = 10)
theorem rd_tp (F : cfr (rdV X) s s') : cfr (tpV X) s s' := F.mono (fun b k h => by unfold rdV at h; unfold tpV; omega)
/-- a wrong text: both as they were, the tape used up -/
theorem wrong_ok (hj : j < 512) (Z : R_sz X j s) (R : RA X s c W sd m) (Rw : R_way X s W m (1 + 12 * j)) {S : sk_S} {wb : Int32} (F : cfr (rdV X) s S) (h1 : ∀ k, k < 1398 → c' 1 k = c 1 k) (h2 : ∀ k, k < 1398 → c' 2 k = c 2 k) (h5 : ∀ k, k < 6588 → c' 5 k = c 5 k) (h06 : c' 0 6 = c 0 6) (h07 : c' 0 7 = c 0 7) (h09 : c' 0 9 = 0) (h14 : c' 0 14 = wb) : RR X (j + 1) (sk_rs (sk_wc (sk_wc S X 10 wb) (X + 1) 1 0) 6) c' := by
  have F1 : cfr (tpV X) s (sk_wc (sk_wc S X 10 wb) (X + 1) 1 0) := ((rd_tp F).wc _ (by unfold tpV; omega)).wc _ (by unfold tpV; omega)
  have B := R.1.2.1
  have T : R_tape X (sk_wc (sk_wc S X 10 wb) (X + 1) 1 0) c' := by
    refine ⟨⟨0, ⟨by omega, by rw [F1.2.2.2.2.2 _ _ (by unfold tpV; omega)]; exact R.2.2.2.1.choose_spec.1.2⟩, by rw [qc_eq, pk_us]; rfl, h09, fun j hj => by omega⟩, ?_⟩
    rw [qc_ne (by omega), qc_eq, pk_us, h14]
  have R1 := RA_tape R (sfr.of F1) (bks_cfr B F1) T h1 h2 h5 h06 h07
  have Rw1 := way_tape Rw B (sfr.of F1) (Nat.le_refl _)
  refine RR_thr hj ?_ R1 Rw1 ceq.rf
  unfold R_sz at Z ⊢
  rw [F1.2.2.2.1, F1.2.2.2.2.1, F1.2.2.1]; exact Z
theorem ut_ok (hl : lay_X11 (sk_K s) (sk_r s) X = true) (F : cfr (rdV X) s s') (x : Int32) : x11_useTapeUp N s' X x = some (sk_wc (sk_wc s' X 10 (if x = 0 then sk_c s' (X + 1) 3 else -1)) (X + 1) 1 0, 0) := by
  unfold x11_useTapeUp
  simp only [zq_letP]
  have hl' : lay_X11 (sk_K s') (sk_r s') X = true := by rw [F.1, F.2.2.1]; exact hl
  rw [if_pos hl']
  by_cases h : x = 0
  · rw [if_pos h, if_pos h]
  · rw [if_neg h, if_neg h]
set_option maxRecDepth 20000 in
theorem sm_beach_ok (hN : 2000000000 ≤ N) : sm_beach X N (RR X) := by
  intro j s c hj ⟨_, Z, W, sd, m, R, Rw⟩
  obtain ⟨Rn, Rp, Ri, Rt⟩ := id R
  obtain ⟨hl, B, S, wvn, lwn⟩ := id Rn
  obtain ⟨⟨ln, t1, t2, t3, t4⟩, t5⟩ := id Rt
  have hn := B.2.2.2
  have hw := wd_of R
  have w13 := hw.1.2.2.2.2.2.2.2.2.2.2.2.2.2.1
  have s6 : sk_c s (X + 16) 6 = nI (W 12) := S.2.2.2.2.2.1.2.1
  have sT : sk_c s (X + 12) 4 = nI (W 13) := S.2.2.2.2.2.2.2.2
  obtain ⟨c2, e2, o2, k2⟩ := l2_loop (N := N) (c := c) 1398 0 N c (by omega) (by omega) onl.rf (fun q hq => by omega)
  have v2 : wv (c2 1) W sd := by rw [o2 1 (by decide)]; exact wvn
  have tb := text_both (N := N) (s := s) (c := c2) hN hl hw s6 t1.1 t2 (by rw [o2 0 (by decide)]; exact t3) (fun j hj => by rw [o2 6 (by decide)]; exact t4 j hj) v2
  have hb : md_beach N c = _ := e2 _
  have hc : x11_beach N s X = ((x0_reads N s (X + 3) (X + 1) (nI (W 12))).bind (fun zz => (fun q2 x3 => ((x11_useTapeUp N q2 X x3).bind (fun zz => (fun q6 x7 => (if x3 = 0 then (some ((sk_rs q6 6), (.inr "java/lang/IllegalArgumentException"))) else (if (sk_c q6 (X + 12) 4) < (12 : Int32) then ((x0_tell N q6 (X + 3) (X + 12)).bind (fun zz => (fun q12 x13 => (ky_let ((sk_c q12 (X + 12) 4) + 1) (fun x15 => (ky_let (sk_wc q12 (X + 12) 4 x15) (fun q17 => ((x11_forgetPast N q17 X).bind (fun zz => (fun q19 x20 => (some (q19, (.inl (some (.int (sk_c q19 (X + 12) 4))))))) zz.1 zz.2))))))) zz.1 zz.2)) else (some ((sk_rs q6 6), (.inr "java/lang/UnsupportedOperationException")))))) zz.1 zz.2))) zz.1 zz.2)) := by
    unfold x11_beach
    rw [if_pos hl, s6]
  rw [hc, hb]
  clear hc hb
  -- what all keep
  have co : ∀ a, a ≠ 0 → a ≠ 1 → a ≠ 3 → cB c2 a = c a := fun a h0 h1 h3 => by rw [cB_n h0, o2 a h3]
  have c0o : ∀ k, k ≠ 0 → k ≠ 9 → k ≠ 10 → k ≠ 11 → k ≠ 16 → cB c2 0 k = c 0 k := fun k h1 h2 h3 h4 h5 => by rw [cB_o h1 h2 h3 h4 h5, o2 0 (by decide)]
  rcases tb with ⟨S1, K, a1, a2, q, f1, f2, f3, f4⟩ | ⟨S1, K, k, a1, a2, a3, s', c', p, q, b, b', v, u1, u2, u3, u4, u5⟩
  · -- wrong
    have e14 : sk_c S1 (X + 1) 3 = K 0 12 := by rw [f1, f2]
    obtain ⟨c9, r1, r2, r3⟩ := l93_loop (N := N) (p1 := -1) (c := bk_w (bk_w K 0 14 (K 0 12)) 0 0 1) 1398 0 N _ (by omega) (by omega) onl.rf (fun q hq => by omega)
    have r1' : ∀ k, md_beach_L93 N k N (bk_w (bk_w K 0 14 (K 0 12)) 0 0 1) (-1) 0 = k c9 (-1) (nI 1398) := r1
    refine ⟨sk_rs (sk_wc (sk_wc S1 X 10 (K 0 12)) (X + 1) 1 0) 6, c9, .inr "java/lang/IllegalArgumentException", 0, ?_, ?_, .inr (.inl ⟨rfl, ?_⟩), ?_⟩
    · rw [a1]
      simp only [zq_bindP]
      rw [ut_ok hl f3]
      simp only [zq_bindP, ↓reduceIte]
      rw [e14]
    · rw [a2]
      simp only [zq_bindP, zq_letP, m1_0, th_r, th_c1, d10, ↓reduceIte, r1']
    · rw [r2 0 (by decide), bk_w_same]
    · have z : ∀ k, k ≠ 0 → k ≠ 14 → c9 0 k = K 0 k := fun k h1 h2 => by rw [r2 0 (by decide), bk_w_at h1, bk_w_at h2]
      have za : ∀ a, a ≠ 0 → a ≠ 1 → c9 a = K a := fun a h1 h2 => by rw [r2 a h2, bk_w_ne h1, bk_w_ne h1]
      refine wrong_ok hj Z R Rw f3 (fun k hk => ?_) (fun k hk => ?_) (fun k hk => ?_) ?_ ?_ ?_ ?_
      · rw [r3 k hk, bk_w_ne (by decide), bk_w_ne (by decide), f4.1 3 (by decide) (by decide), cB_n (by decide)]; exact k2 k hk
      · rw [za 2 (by decide) (by decide), f4.1 2 (by decide) (by decide), co 2 (by decide) (by decide) (by decide)]
      · rw [za 5 (by decide) (by decide), f4.1 5 (by decide) (by decide), co 5 (by decide) (by decide) (by decide)]
      · rw [z 6 (by decide) (by decide), f4.2.1 6 (by decide) (by decide) (by decide) (by decide), c0o 6 (by decide) (by decide) (by decide) (by decide) (by decide)]
      · rw [z 7 (by decide) (by decide), f4.2.1 7 (by decide) (by decide) (by decide) (by decide), c0o 7 (by decide) (by decide) (by decide) (by decide) (by decide)]
      · rw [z 9 (by decide) (by decide), f4.2.1 9 (by decide) (by decide) (by decide) (by decide), cB_9]
      · rw [r2 0 (by decide), bk_w_at (by decide), bk_w_same]
  · subst u1
    subst u2
    obtain ⟨kd, nm, I1, I2, I4, F, F', hw', hwd⟩ := id u5
    have f13 : fW W kd nm k 13 = W 13 := fW_o (.inl rfl) k (fun i hi => (I1 i hi).2.1)
    have f14 : fW W kd nm k 14 = W 14 := fW_o (.inr rfl) k (fun i hi => (I1 i hi).2.1)
    have n1 : (0 : Int32) ≤ nI k := nI_pos' (by omega)
    have n1' : ((0 : Int32) ≤ nI k) = True := eq_true n1
    have pw : pq c' p b' 1 13 = nI (W 13) := by rw [pq_n (by decide), wv_n hw' (by decide) (by decide), f13]
    have Ft := F.tS (q := q) (b := b) (v := v)
    have q12 : sk_c (sk_wc (sk_wc (tS (X + 1) s' q b v) X 10 (-1)) (X + 1) 1 0) (X + 12) 4 = nI (W 13) := by
      rw [qc_ne (by omega), qc_ne (by omega), Ft.2.2.2.2.2 _ _ (by unfold rdV; omega)]; exact sT
    have pF' := F'.pq (p := p) (b := b')
    by_cases h12 : W 13 = 12
    · -- twelve texts
      obtain ⟨c9, r1, r2, r3⟩ := l93_loop (N := N) (p1 := nI k) (c := bk_w (bk_w (pq c' p b') 0 14 (-1)) 0 0 2) 1398 0 N _ (by omega) (by omega) onl.rf (fun q hq => by omega)
      have r1' : ∀ k', md_beach_L93 N k' N (bk_w (bk_w (pq c' p b') 0 14 (-1)) 0 0 2) (nI k) 0 = k' c9 (nI k) (nI 1398) := r1
      have z12 : (bk_w (pq c' p b') 0 14 (-1) 1 13 = (12 : Int32)) = True := eq_true (by rw [bk_w_ne (by decide), pw, h12]; rfl)
      refine ⟨sk_rs (sk_wc (sk_wc (tS (X + 1) s' q b v) X 10 (-1)) (X + 1) 1 0) 6, c9, .inr "java/lang/UnsupportedOperationException", 0, ?_, ?_, .inr (.inr ⟨rfl, ?_⟩), ?_⟩
      · rw [a1]
        simp only [zq_bindP]
        rw [ut_ok hl Ft]
        simp only [zq_bindP, d10, ↓reduceIte]
        rw [q12, h12, if_neg (by decide)]
      · rw [a2]
        simp only [zq_bindP, zq_letP, n1', th_r, th_c0, th_c1, d00, d10, ↓reduceIte, z12, r1']
      · rw [r2 0 (by decide), bk_w_same]
      · have z : ∀ k, k ≠ 0 → k ≠ 14 → c9 0 k = pq c' p b' 0 k := fun k h1 h2 => by rw [r2 0 (by decide), bk_w_at h1, bk_w_at h2]
        have za : ∀ a, a ≠ 0 → a ≠ 1 → c9 a = pq c' p b' a := fun a h1 h2 => by rw [r2 a h2, bk_w_ne h1, bk_w_ne h1]
        refine wrong_ok hj Z R Rw Ft (fun k hk => ?_) (fun k hk => ?_) (fun k hk => ?_) ?_ ?_ ?_ ?_
        · rw [r3 k hk, bk_w_ne (by decide), bk_w_ne (by decide), pF'.1 3 (by decide) (by decide), cB_n (by decide)]; exact k2 k hk
        · rw [za 2 (by decide) (by decide), pF'.1 2 (by decide) (by decide), co 2 (by decide) (by decide) (by decide)]
        · rw [za 5 (by decide) (by decide), pF'.1 5 (by decide) (by decide), co 5 (by decide) (by decide) (by decide)]
        · rw [z 6 (by decide) (by decide), pF'.2.1 6 (by decide) (by decide) (by decide) (by decide), c0o 6 (by decide) (by decide) (by decide) (by decide) (by decide)]
        · rw [z 7 (by decide) (by decide), pF'.2.1 7 (by decide) (by decide) (by decide) (by decide), c0o 7 (by decide) (by decide) (by decide) (by decide) (by decide)]
        · rw [z 9 (by decide) (by decide), pF'.2.1 9 (by decide) (by decide) (by decide) (by decide), cB_9]
        · rw [r2 0 (by decide), bk_w_at (by decide), bk_w_same]
    · -- told
      have z12 : (bk_w (pq c' p b') 0 14 (-1) 1 13 = (12 : Int32)) = False := eq_false (by rw [bk_w_ne (by decide), pw]; show ¬ nI (W 13) = nI 12; rw [zq_eq (by omega) (by decide)]; exact h12)
      generalize hS2 : sk_wc (sk_wc (tS (X + 1) s' q b v) X 10 (-1)) (X + 1) 1 0 = S2 at *
      have F2 : cfr (tpV X) s S2 := by rw [← hS2]; exact ((rd_tp Ft).wc _ (by unfold tpV; omega)).wc _ (by unfold tpV; omega)
      have B2 := bks_cfr B F2
      have l0' : lay_X0 (sk_K S2) (sk_r S2) (X + 3) = true := by rw [F2.1, F2.2.2.1]; exact ly_X11_l1 hl
      have r2' : ∀ a kk, a ≠ X → a ≠ X + 1 → sk_c S2 a kk = sk_c s' a kk := fun a kk h1 h2 => by rw [← hS2, qc_ne h2, qc_ne h1, tS_n h2]
      have S2r : sc_rel S2 (X + 12) W sd := sc_fr S B.2.2.1 (by omega) (fun i k hi h => by unfold tpV at h; omega) (sfr.of F2)
      obtain ⟨s3, g1, g2, g3⟩ := tell_loop (N := N) (X := X) (sd := sd) a3 l0' (by rw [r2' _ _ (by omega) (by omega)]; exact I2) (fun i hi => by
        obtain ⟨i1, i2, i3, i4⟩ := I1 i hi
        exact ⟨by rw [r2' _ _ (by omega) (by omega)]; exact i1, i2, fun jj hjj => by rw [r2' _ _ (by omega) (by omega)]; exact i3 jj hjj, i4⟩) k 0 N S2 (by omega) (by omega) efr.rf S2r
      have l7 : lay_X7 (sk_K S2) (sk_r S2) (X + 12) = true := S2r.1
      have hte : x0_tell N S2 (X + 3) (X + 12) = some (s3, 0) := by
        unfold x0_tell
        rw [if_pos l0', if_pos l7]
        exact g1
      have t13 : sk_c s3 (X + 12) 4 = nI (W 13) := by rw [g3.2.2.2.2.2.2.2.2, f13]
      have S4 := sc_13 g3 (v := W 13 + 1) (by omega)
      have hl4 : lay_X11 (sk_K (sk_wc s3 (X + 12) 4 (nI (W 13 + 1)))) (sk_r (sk_wc s3 (X + 12) 4 (nI (W 13 + 1)))) X = true := by
        have h2 : lay_X11 (sk_K S2) (sk_r S2) X = true := by rw [F2.1, F2.2.2.1]; exact hl
        exact lt_X11 (g2.sfr.fr (by rw [F2.1, F2.2.2.2.1]; exact B.2.2.1)) h2
      have B4 : bks X (sk_K (sk_wc s3 (X + 12) 4 (nI (W 13 + 1)))) (sk_n (sk_wc s3 (X + 12) 4 (nI (W 13 + 1)))) := by
        show bks X (sk_K s3) (sk_n s3)
        rw [g2.1, g2.2.1]; exact B2
      have Fe : efr (fun a kk => tpV X a kk ∨ tlW X a kk ∨ (a = X + 12 ∧ kk = 4)) s (sk_wc s3 (X + 12) 4 (nI (W 13 + 1))) := (((efr.of F2).mono (fun a kk h => .inl h)).tr (g2.mono (fun a kk h => .inr (.inl h)))).wc _ (.inr (.inr ⟨rfl, rfl⟩))
      have Rw4 : R_way X (sk_wc s3 (X + 12) 4 (nI (W 13 + 1))) W m (1 + 12 * j) := R_way_fr Rw B Fe.sfr (by unfold tpV tlW; omega) (fun y kk _ h38 => ⟨by unfold tpV tlW; omega, by unfold tpV tlW; omega⟩) (Nat.le_refl _) (fun _ _ => rfl)
      obtain ⟨s5, p1, p2, p3, p4⟩ := fp_ok (N := N) hl4 Rw4 (by omega) B4
      have K4 : sk_K (sk_wc s3 (X + 12) 4 (nI (W 13 + 1))) = sk_K s := Fe.1
      have F5 : sfr (bcV X s) s s5 := by
        refine (Fe.mono (V' := bcV X s) (fun a kk h => ?_)).sfr.tr ((sfr.of p4).mono (fun a kk _ h => ?_))
        · unfold tpV tlW at h; unfold bcV; omega
        · rcases h with h | h
          · unfold bcV; omega
          · rw [K4] at h; exact .inr (.inr h)
      have B5 := bks_cfr B4 p4
      have S5 : sc_rel s5 (X + 12) (ndS (fW W kd nm k) 13 (W 13 + 1)) sd := sc_fr S4 B4.2.2.1 (by show X + 12 + 10 ≤ sk_n s3; rw [g2.2.1, F2.2.2.2.1]; omega) (fun i kk hi h => by omega) (sfr.of p4)
      have r14 : sk_r s5 (X + 14) 1 = sk_r s (X + 14) 1 := F5.r (by omega) (by unfold bcV; omega)
      have L : lwOK s (bcV X s) := fun q h => by
        obtain ⟨_, _, k4, _, h38⟩ := quiet_law B h
        have ap : ∀ i kk, i < 5 → ¬ bcV X s (q + i) kk := fun i kk hi h => by
          rcases h with h | h | h
          · omega
          · omega
          · have := bk_apart B (p := q) (q := q + i) (i := i) (j := 0) (by rw [k4]; decide) (by rw [h.2]; decide) (by rw [k4]; show _ < 6; omega) (by rw [h.2]; decide) rfl
            rw [← this, k4] at h; omega
        exact ⟨fun kk h => absurd h (ap 0 kk (by decide)), fun i kk _ h2 => ap i kk (by omega)⟩
      have kne : ∀ {p' : Nat}, lay_X7 (sk_K s) (sk_r s) p' = true → X + 38 ≤ p' → ∀ i kk, i < 10 → ¬ bcV X s (p' + i) kk := fun {p'} hl7 h38 i kk hi h => by
        have k7 := lay7_k4 hl7
        rcases h with h | h | h
        · omega
        · omega
        · have := bk_apart B (p := p') (q := p' + i) (i := i) (j := 0) (by rw [k7.1]; decide) (by rw [h.2]; decide) (by rw [k7.1]; exact hi) (by rw [h.2]; decide) rfl
          rw [← this, k7.1] at h; omega
      generalize hc5 : bk_w (bk_w (bk_w (pq c' p b') 0 14 (-1)) 1 13 (nI (W 13 + 1))) 0 7 0 = c5
      have za : ∀ a, a ≠ 0 → a ≠ 1 → c5 a = pq c' p b' a := fun a h1 h2 => by rw [← hc5, bk_w_ne h1, bk_w_ne h2, bk_w_ne h1]
      have z0 : ∀ kk, kk ≠ 7 → kk ≠ 14 → c5 0 kk = pq c' p b' 0 kk := fun kk h1 h2 => by rw [← hc5, bk_w_at h1, bk_w_ne (by decide), bk_w_at h2]
      have z1 : ∀ kk, kk ≠ 13 → c5 1 kk = c' 1 kk := fun kk h1 => by rw [← hc5, bk_w_ne (by decide), bk_w_at h1, bk_w_ne (by decide), pq_n (by decide)]
      have z13 : c5 1 13 = nI (W 13 + 1) := by rw [← hc5, bk_w_ne (by decide), bk_w_same]
      have v5 : wv (c5 1) (ndS (fW W kd nm k) 13 (W 13 + 1)) sd := by
        refine ⟨fun qq hq hn => ?_, by rw [z1 16 (by decide)]; exact hw'.2⟩
        by_cases e : qq = 13
        · rw [e, z13, ndS_s]
        · rw [z1 qq e, ndS_o e]; exact hw'.1 qq hq hn
      have RA5 : RA X s5 c5 (ndS (fW W kd nm k) 13 (W 13 + 1)) sd m := by
        refine ⟨⟨lt_X11 (F5.fr B.2.2.1) hl, B5, S5, v5, ?_⟩, past_0 (by rw [← hc5, bk_w_same]) p3 Rp hl B F5 (by unfold bcV; omega) (by unfold bcV; omega) (fun kk => by unfold bcV; omega), R_img_V Ri B L F5 (by unfold bcV; omega) (fun p' i qq _ e2 e3 hi => kne e2 e3 i qq hi) (fun qq _ => by rw [za 2 (by decide) (by decide), pF'.1 2 (by decide) (by decide), co 2 (by decide) (by decide) (by decide)]) (by rw [z0 6 (by decide) (by decide), pF'.2.1 6 (by decide) (by decide) (by decide) (by decide), c0o 6 (by decide) (by decide) (by decide) (by decide) (by decide)]), ⟨0, ⟨by omega, by rw [F5.c (by omega) (by unfold bcV; omega)]; exact t1.2⟩, ?_, ?_, fun jj hjj => by omega⟩, ?_⟩
        · rw [r14, ndS_o (by decide), f14]
          refine lw_relT (lw_rel_V lwn B L F5) (fun qq hq => ?_)
          rw [z1 _ (by omega), F'.2.2 _ (by omega) (by omega), cB_n (by decide), o2 1 (by decide)]
        · rw [p4.2.2.2.2.2 _ _ (by omega), qc_ne (by omega), g2.c (by unfold tlW; omega), ← hS2, qc_eq, pk_us]; rfl
        · rw [z0 9 (by decide) (by decide), pF'.2.1 9 (by decide) (by decide) (by decide) (by decide), cB_9]; rfl
        · rw [p4.2.2.2.2.2 _ _ (by omega), qc_ne (by omega), g2.c (by unfold tlW; omega), ← hS2, qc_ne (by omega), qc_eq, pk_us, ← hc5, bk_w_at (by decide), bk_w_ne (by decide), bk_w_same]
      have x54 : sk_c s5 (X + 12) 4 = nI (W 13 + 1) := by rw [S5.2.2.2.2.2.2.2.2, ndS_s]
      refine ⟨s5, c5, .inl (some (.int (nI (W 13 + 1)))), nI (W 13 + 1), ?_, ?_, .inl ⟨rfl, ?_⟩, ⟨by omega, ?_, _, sd, m, RA5, ?_⟩⟩
      · rw [a1]
        simp only [zq_bindP]
        rw [ut_ok hl Ft, if_neg (by decide), hS2]
        simp only [zq_bindP, zq_letP, d10, ↓reduceIte]
        rw [q12, if_pos (by show nI (W 13) < nI 12; rw [zq_lt (by omega) (by decide)]; omega), hte]
        simp only [zq_bindP]
        rw [t13, nI_1, p1]
        simp only [zq_bindP]
        rw [x54]
      · have w13' : bk_w (pq c' p b') 0 14 (-1) 1 13 = nI (W 13) := by rw [bk_w_ne (by decide)]; exact pw
        have z7 : c5 1 13 = nI (W 13 + 1) := z13
        rw [w13'] at z12
        rw [a2]
        simp only [zq_bindP, zq_letP, n1', th_r, th_c0, d00, ↓reduceIte, z12, w13', nI_1, hc5, z7]
      · rw [z0 0 (by decide) (by decide), pF'.2.1 0 (by decide) (by decide) (by decide) (by decide), cB_0]
      · unfold R_sz at Z ⊢
        rw [p4.2.2.2.1, p4.2.2.2.2.1, p4.2.2.1]
        rw [show sk_n (sk_wc s3 (X + 12) 4 (nI (W 13 + 1))) = sk_n s from Fe.2.1, show sk_m (sk_wc s3 (X + 12) 4 (nI (W 13 + 1))) = sk_m s from Fe.2.2.1, Fe.r (by unfold tpV tlW; omega)]; omega
      · rcases p2 (ndS (fW W kd nm k) 13 (W 13 + 1)) m with h | ⟨y, st, ca, wa, k1, k2, k3, k4, k5, k6, k7⟩
        · exact .inl h
        · exact .inr ⟨y, st, ca, wa, k1, k2, k3, k4, k5, by omega, k7⟩
end
