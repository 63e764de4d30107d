/-! PULL -/
def lf (p th ly : Nat) : Nat := p - (5 - th) / 2 - (if ly = 1 then 0 else 5)
theorem liftN : ∀ p, p < 64 → ∀ th, th < 6 → mt_max 0 (nI p - ((5 - nI th) / 2) - 5) = nI (lf p th 0) ∧ mt_max 0 (nI p - ((5 - nI th) / 2) - 0) = nI (lf p th 1) := by decide +kernel
theorem lf_le {p th ly : Nat} : lf p th ly ≤ p := by unfold lf; omega
def plB (W : Nat → Nat) (p k : Nat) : Nat := if k = 0 then W 0 - lf p (W 2) (W 3) else if k = 1 then W 1 - lf p (W 2) (W 3) else if k = 6 then min 999 (W 6 + (p - 8)) else if k = 7 then min 9999 (W 7 + 2) else W k
section
variable {N X j : Nat} {s s' : sk_S} {c c' : Nat → Nat → Int32} {W W' : Nat → Nat} {sd sd' : Int32} {m m' : lwM} {sb : Nat} {mi mv lg : Nat}
theorem po_liftN {v p : Nat} (hv : v < 1200) (hp : p < 64) : po_lift (nI v) (nI p) = nI (lf p (v / 2 % 6) (v % 2)) := by
  obtain ⟨h1, h2⟩ := liftN p hp (v / 2 % 6) (by omega)
  unfold po_lift
  rw [po_lyN hv, po_thN hv, h1, h2]
  have : v % 2 = 0 ∨ v % 2 = 1 := by omega
  rcases this with h | h
  · rw [h, if_neg (by decide)]
  · rw [h, if_pos (by decide)]
theorem pulledN {p d0 d1 th ly : Nat} (D : dpt c d0 d1 th ly) (ht : th ≤ 5) (hl : ly ≤ 1) (hp : p < 64) : md_pulledBy_r c (nI p) = nI (lf p th ly) := by
  obtain ⟨h1, h2⟩ := liftN p hp th (by omega)
  unfold md_pulledBy_r
  rw [D.2.2.2, D.2.2.1, h1, h2]
  have : ly = 0 ∨ ly = 1 := by omega
  rcases this with h | h
  · rw [h, if_pos (by decide)]
  · rw [h, if_neg (by decide)]
theorem plB_wd {p : Nat} (h : wd W) : wd (plB W p) := by
  refine wd_low h (fun k hk => by unfold plB; rw [if_neg (by omega), if_neg (by omega), if_neg (by omega), if_neg (by omega)]) ?_
  obtain ⟨⟨h0, h1, h2, h3, h4, h5, h6, h7, -⟩, -⟩ := h
  unfold plB; simp; omega
theorem plB_hi {p k : Nat} (h : 8 ≤ k) : plB W p k = W k := by unfold plB; rw [if_neg (by omega), if_neg (by omega), if_neg (by omega), if_neg (by omega)]
theorem plB_ps {p : Nat} : psN (plB W p) = ps4 (W 0 - lf p (W 2) (W 3)) (W 1 - lf p (W 2) (W 3)) (W 2) (W 3) := Eq.trans rfl rfl
theorem pl_cls {p : Nat} (R : R_now X s c W sd m) (hp : p ≤ 20) : ∃ s', x1_bePulled N s (X + 13) (nI p) = some (s', 0) ∧ cfr (fun b _ => b = X + 12 + 1) s s' ∧ bd s' (X + 13) (plB W p) sd := by
  have hw := R.2.2.1.2.1
  have hps := psN_lt hw
  obtain ⟨b0, b1, b2, b3, b4, b5, b6, b7⟩ := bd_of R
  obtain ⟨u0, u1, u2, u3⟩ := psN_un hw
  have l1 : lay_X1 (sk_K s) (sk_r s) (X + 13) = true := ly_X7_l0 (ly_X11_l3 R.1)
  have w0 := hw.1.1
  have w1 := hw.1.2.1
  have w6 := hw.1.2.2.2.2.2.2.1
  have w7 := hw.1.2.2.2.2.2.2.2.1
  have hl := lf_le (p := p) (th := W 2) (ly := W 3)
  have e0 : po_pulled (nI (psN W)) (nI p) = nI (psN (plB W p)) := by
    unfold po_pulled
    rw [po_liftN hps (by omega), u2, u3, po_d0N hps, po_d1N hps, u0, u1, zq_max0 (by omega) (by omega), zq_max0 (by omega) (by omega), po_wdpN hps, u2, u3, plB_ps]
  have e3 : mt_min 999 (nI (W 6) + bo_harmOf (nI p)) = nI (min 999 (W 6 + (p - 8))) := by
    unfold bo_harmOf
    rw [show mt_max 0 (nI p - 8) = nI (p - 8) from zq_max0 (b := 8) (by omega) (by decide), nI_add]
    exact zq_min (x := 999) (by decide) (by omega)
  have e7 : mt_min 9999 (nI (W 7) + 2) = nI (min 9999 (W 7 + 2)) := by
    rw [show nI (W 7) + 2 = nI (W 7 + 2) from nI_add _ 2]
    exact zq_min (x := 9999) (by decide) (by omega)
  generalize g1 : sk_wc s (X + 13) 0 (nI (psN (plB W p))) = s1
  generalize g2 : sk_wc s1 (X + 13) 3 (nI (min 999 (W 6 + (p - 8)))) = s2
  generalize g3 : sk_wc s2 (X + 13) 4 (nI (min 9999 (W 7 + 2))) = s3
  have l12 : lay_X1 (sk_K s2) (sk_r s2) (X + 13) = true := by rw [← g2, ← g1]; exact l1
  have a3 : sk_c s1 (X + 13) 3 = nI (W 6) := by rw [← g1, qc_at _ _ _ _ _ _ (by omega)]; exact b3
  have a4 : sk_c s2 (X + 13) 4 = nI (W 7) := by rw [← g2, qc_at _ _ _ _ _ _ (by omega), ← g1, qc_at _ _ _ _ _ _ (by omega)]; exact b4
  have ps : x1_pass N s2 (X + 13) 2 = some (s3, 0) := by
    unfold x1_pass
    simp only [zq_letP]
    rw [if_pos l12, a4, e7, g3]
  have at_ : ∀ q, sk_c s3 (X + 13) q = if q = 4 then nI (min 9999 (W 7 + 2)) else if q = 3 then nI (min 999 (W 6 + (p - 8))) else if q = 0 then nI (psN (plB W p)) else sk_c s (X + 13) q := fun q => by
    rw [← g3, qc_eq, ← g2, qc_eq, ← g1, qc_eq]
    by_cases h4 : q = 4
    · subst h4; rw [pk_us, if_pos rfl]
    · rw [pk_un h4, if_neg h4]
      by_cases h3 : q = 3
      · subst h3; rw [pk_us, if_pos rfl]
      · rw [pk_un h3, if_neg h3]
        by_cases h0 : q = 0
        · subst h0; rw [pk_us, if_pos rfl]
        · rw [pk_un h0, if_neg h0]
  refine ⟨s3, ?_, ?_, ?_⟩
  · unfold x1_bePulled
    simp only [zq_letP]
    rw [if_pos l1, b0, e0, g1, a3, e3, g2, ps]
    rfl
  · rw [← g3, ← g2, ← g1]
    exact (((cfr.rf (V := fun b _ => b = X + 12 + 1)).wc _ rfl).wc _ rfl).wc _ rfl
  · unfold bd
    rw [at_, at_, at_, at_, at_, at_, at_, at_]
    refine ⟨by simp, ?_, ?_, ?_, ?_, ?_, ?_, ?_⟩
    · simp [plB]; exact b1
    · simp [plB]; exact b2
    · simp [plB]
    · simp [plB]
    · simp [plB]; exact b5
    · simp [plB]; exact b6
    · simp; exact b7
set_option maxRecDepth 20000 in
theorem sm_pull_ok (hN : 2000000000 ≤ N) : sm_pull X N (RR X) := by
  intro j s c hj ⟨_, Z, W, sd, m, R, Rw⟩ p1
  have R0 := RA_c R ceq_0
  rcases rngC 1 20 (by decide) (by decide) p1 with ⟨p, hp1, hp, rfl, hin⟩ | ⟨hin, hout⟩
  · have hin' : md_in (nI p) 1 20 = 1 := hin
    have hf : ws_isForce (nI p) = 1 := by
      unfold ws_isForce
      rw [if_neg (by show ¬ nI p < nI 1; rw [zq_lt (by omega) (by decide)]; omega), if_neg (by show ¬ nI 20 < nI p; rw [zq_lt (by decide) (by omega)]; omega)]
    have st := stillN (N := N) R.1
    have ov := overR (rwd_of R0)
    by_cases h : ovr W
    · rw [if_pos h] at st ov
      refine ⟨sk_rs s 6, bk_w (bk_w c 0 0 0) 0 0 2, .inr "java/lang/IllegalStateException", 0, ?_, ?_, .inr (.inr ⟨rfl, bk_w_same _ _ _ _⟩), RR_thr hj Z R Rw (thr_ceq 2)⟩
      · unfold x11_pull
        rw [if_pos R.1.1, hf, if_neg (by decide), st]
        simp only [zq_bindP]
        rw [if_neg (by decide)]
      · simp only [md_pull, zq_letP, hin', ov, th_r, th_c0, th_c1, d10, d11, d00, or_true, ↓reduceIte]
    · rw [if_neg h] at st ov
      obtain ⟨s2, c2, a1, a2, a3, a4, a5, a6, a7, a8, a9⟩ := rm_ok (N := N) (by omega) R0 Rw
      have hw := wd_of a3
      have hps := psN_lt hw
      obtain ⟨⟨w0, w1, w2, w3, w4, w5, w6, w7, w8, w9, w10, w11, w12, w13, w14, w15⟩, -⟩ := id hw
      have hl := lf_le (p := p) (th := W 2) (ly := W 3)
      -- the class
      obtain ⟨s3, b1, b2, b3⟩ := pl_cls (N := N) a3.1 hp
      have S3 : sc_rel s3 (X + 12) (plB W p) sd := sc_body a3.1.2.2.1 b2 (plB_wd hw) (fun k hk => plB_hi hk) b3
      obtain ⟨s4, t1, t2, t3⟩ := tl_cls (N := N) (mi := W 7) (mv := 7) (lg := 2) S3 w7 (by omega) (by omega)
      have F : sfr (act1 X s2) s2 s4 := (sfr.of (b2.mono (V' := act1 X s2) (fun b k h => act_body h))).tr (sfr.of (t2.mono (fun b k h => .inl (by omega))))
      -- the reference
      obtain ⟨D, K⟩ := looks_rk (rwd_of a3)
      have x7 : c2 1 7 = nI (W 7) := wv_n a3.1.2.2.2.1 (by decide) (by decide)
      generalize el : md_looks_c c2 = q1 at *
      have pb := pulledN D w2 w3 (show p < 64 by omega)
      have l0 : md_less (nI (W 0)) (nI (lf p (W 2) (W 3))) = nI (W 0 - lf p (W 2) (W 3)) := md_lessN (by omega) (by omega)
      have l1 : md_less (nI (W 1)) (nI (lf p (W 2) (W 3))) = nI (W 1 - lf p (W 2) (W 3)) := md_lessN (by omega) (by omega)
      have D0 : q1 9 0 = nI (W 0) := D.1
      generalize e2 : bk_w q1 9 0 (nI (W 0 - lf p (W 2) (W 3))) = q2
      have D1 : q2 9 1 = nI (W 1) := by rw [← e2, bk_w_at (by decide)]; exact D.2.1
      generalize e3 : bk_w q2 9 1 (nI (W 1 - lf p (W 2) (W 3))) = q3
      have D3 : dpt q3 (W 0 - lf p (W 2) (W 3)) (W 1 - lf p (W 2) (W 3)) (W 2) (W 3) := by
        refine ⟨by rw [← e3, bk_w_at (by decide), ← e2, bk_w_same], by rw [← e3, bk_w_same], ?_, ?_⟩
        · rw [← e3, bk_w_ne (by decide), ← e2, bk_w_ne (by decide)]; exact D.2.2.1
        · rw [← e3, bk_w_ne (by decide), ← e2, bk_w_ne (by decide)]; exact D.2.2.2
      have nw := isNowN D3 w3
      generalize e4 : bk_w (bk_w (bk_w (bk_w q3 1 0 (nI (W 0 - lf p (W 2) (W 3)))) 1 1 (nI (W 1 - lf p (W 2) (W 3)))) 1 2 (nI (W 2))) 1 3 (nI (W 3)) = q4 at nw
      have q4n : ∀ k, k ≠ 1 → k ≠ 9 → q4 k = q1 k := fun k h h9 => by rw [← e4, bk_w_ne h, bk_w_ne h, bk_w_ne h, bk_w_ne h, ← e3, bk_w_ne h9, ← e2, bk_w_ne h9]
      have q41 : ∀ k, 4 ≤ k → q4 1 k = c2 1 k := fun k h => by rw [← e4, bk_w_at (by omega), bk_w_at (by omega), bk_w_at (by omega), bk_w_at (by omega), ← e3, bk_w_ne (by decide), ← e2, bk_w_ne (by decide), K.1 1 (by decide) (by decide)]
      have gb : md_goesBy_c q4 2 = bk_w q4 1 7 (nI (min 9999 (W 7 + 2))) := by
        unfold md_goesBy_c
        rw [q41 7 (by decide), x7, show nI (W 7) + 2 = nI (W 7 + 2) from nI_add _ 2, show mt_min 9999 (nI (W 7 + 2)) = nI (min 9999 (W 7 + 2)) from zq_min (x := 9999) (by decide) (by omega)]
      generalize e5 : bk_w q4 1 7 (nI (min 9999 (W 7 + 2))) = q5 at gb
      have x6 : q5 1 6 = nI (W 6) := by rw [← e5, bk_w_at (by decide), q41 6 (by decide)]; exact wv_n a3.1.2.2.2.1 (by decide) (by decide)
      have hm : mt_min 999 (nI (W 6) + mt_max 0 (nI p - 8)) = nI (min 999 (W 6 + (p - 8))) := by
        rw [show mt_max 0 (nI p - 8) = nI (p - 8) from zq_max0 (b := 8) (by omega) (by decide), nI_add]
        exact zq_min (x := 999) (by decide) (by omega)
      generalize e6 : bk_w q5 1 6 (nI (min 999 (W 6 + (p - 8)))) = q6
      have q6n : ∀ k, k ≠ 1 → k ≠ 9 → q6 k = q1 k := fun k h h9 => by rw [← e6, bk_w_ne h, ← e5, bk_w_ne h]; exact q4n k h h9
      have wq : wv (q6 1) (plB W p) sd := by
        refine ⟨fun k hk h16 => ?_, ?_⟩
        · unfold plB
          by_cases k6 : k = 6
          · subst k6; rw [← e6, bk_w_same]; rfl
          by_cases k7 : k = 7
          · subst k7; rw [← e6, bk_w_at (by decide), ← e5, bk_w_same]; rfl
          rw [← e6, bk_w_at k6, ← e5, bk_w_at k7]
          by_cases k0 : k = 0
          · subst k0; rw [if_pos rfl, ← e4, bk_w_at (by decide), bk_w_at (by decide), bk_w_at (by decide), bk_w_same]
          rw [if_neg k0]
          by_cases k1 : k = 1
          · subst k1; rw [if_pos rfl, ← e4, bk_w_at (by decide), bk_w_at (by decide), bk_w_same]
          rw [if_neg k1, if_neg k6, if_neg k7]
          by_cases k2 : k = 2
          · subst k2; rw [← e4, bk_w_at (by decide), bk_w_same]
          by_cases k3 : k = 3
          · subst k3; rw [← e4, bk_w_same]
          rw [q41 k (by omega)]; exact wv_n a3.1.2.2.2.1 hk h16
        · rw [← e6, bk_w_at (by decide), ← e5, bk_w_at (by decide), q41 16 (by decide)]; exact a3.1.2.2.2.1.2
      obtain ⟨c3, r1, r2, r3, r4⟩ := tl_ref (N := N) (mi := W 7) (mv := 7) (lg := 2) (by omega) wq (by rw [plB_hi (by decide)]; exact w15)
      have M : mkeq c2 c3 := by
        refine ⟨fun k h0 h1 h8 h9 => ?_, fun k h19 h20 => ?_, fun k hk => ?_⟩
        · rw [r2 k h1, q6n k h1 h9, K.1 k h0 h9]
        · rw [r2 0 (by decide), q6n 0 (by decide) (by decide), K.2 k h19 h20]
        · rw [r4 k hk, ← e6, bk_w_at (by omega), ← e5, bk_w_at (by omega), q41 k (by omega)]
      have e14 : W14 W (lgW (plB W p) (W 7) 7 2) := ⟨by rw [lgW_lo (by decide) (by decide), plB_hi (by decide)], fun q hq => by rw [lgW_lo (by omega) (by omega), plB_hi (by omega)]⟩
      have R4 := RA_act a3 F (bks_cfr (bks_cfr a3.1.2.1 b2) t2) t3 r3 M.A e14.1 e14.2
      have Rw4 := way_act a4 a3.1.2.1 (X_11 a3) F e14.2 (Nat.le_refl _)
      have ret : sk_c s4 (X + 13) 3 = c3 1 6 := by
        rw [(bd_of R4.1).2.2.2.1]; exact (wv_n r3 (by decide) (by decide)).symm
      refine ⟨s4, c3, .inl (some (.int (c3 1 6))), c3 1 6, ?_, ?_, .inl ⟨rfl, ?_⟩, RR_act hj Z (by rw [t2.2.2.2.1, b2.2.2.2.1]; exact a5) (by rw [t2.2.2.2.2.1, b2.2.2.2.2.1]; exact a6) (by rw [t2.2.2.1, b2.2.2.1]; exact a7) R4 Rw4⟩
      · have b4 : sk_c s2 (X + 12 + 1) 4 = nI (W 7) := (bd_of a3.1).2.2.2.2.1
        have b0 : sk_c s3 (X + 12 + 1) 0 = nI (psN (plB W p)) := b3.1
        have b1' : x1_bePulled N s2 (X + 12 + 1) (nI p) = some (s3, 0) := b1
        have mp : x7_makePull N s2 (X + 12) (nI p) = some (s4, 0) := by
          unfold x7_makePull
          rw [if_pos (ly_X11_l3 a3.1.1)]
          simp only [zq_letP]
          rw [b4, b1']
          simp only [zq_bindP]
          rw [b0, show (7 : Int32) = nI 7 from rfl, show (2 : Int32) = nI 2 from rfl, t1]
          rfl
        unfold x11_pull
        rw [if_pos R.1.1, hf, if_neg (by decide), st]
        simp only [zq_bindP]
        rw [if_pos trivial, a1]
        simp only [zq_bindP]
        rw [mp]
        simp only [zq_bindP]
        rw [ret]
      · have r1' : md_tells N q6 (nI (W 7)) 7 2 = some (c3, 0) := r1
        simp only [md_pull, zq_letP, hin', ov, th_r, th_c0, th_c1, d10, d00, true_or, ↓reduceIte, a2, zq_bindP, x7, el, pb, D0, l0, e2, D1, l1, e3, nw, gb, x6, hm, e6, r1']
      · rw [M.2.1 0 (by decide) (by decide), a9 0 (by decide), bk_w_same]
  · have hin' : md_in p1 1 20 = 0 := hin
    refine ⟨sk_rs s 6, bk_w (bk_w c 0 0 0) 0 0 1, .inr "java/lang/IllegalArgumentException", 0, ?_, ?_, .inr (.inl ⟨rfl, bk_w_same _ _ _ _⟩), RR_thr hj Z R Rw (thr_ceq 1)⟩
    · unfold x11_pull ws_isForce
      rw [if_pos R.1.1]
      rcases hout with h | ⟨h1, h2⟩
      · rw [if_pos (show p1 < 1 from h), if_pos rfl]
      · rw [if_neg (show ¬ p1 < 1 from h1), if_pos (show 20 < p1 from h2), if_pos rfl]
    · simp only [md_pull, zq_letP, hin', th_r, th_c0, th_c1, d10, d11, d00, or_true, ↓reduceIte]
end
