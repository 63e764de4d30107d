/-! LAW: the call -/
section
variable {N X j : Nat} {s s' : sk_S} {c c' c0 : Nat → Nat → Int32} {W W' W0 : Nat → Nat} {sd sd' : Int32} {m m' : lwM} {sb p : Nat}
def lqV (X : Nat) (a k : Nat) : Prop := (X + 1 ≤ a ∧ a ≤ X + 11 ∧ ¬ (a = X + 9 ∧ k = 0)) ∨ (a = X ∧ k = 10) ∨ (a = X + 14 ∧ k = 1)
def lpV (X : Nat) (s : sk_S) (a k : Nat) : Prop := lqV X a k ∨ (a = X ∧ k = 7) ∨ (X + 38 ≤ a ∧ (sk_K s a).1 = 10)
set_option maxRecDepth 20000 in
theorem sm_law_ok (hN : 2000000000 ≤ N) : sm_law X N (RR X) := by
  intro j s c hj ⟨_, Z, W, sd, m, R, Rw⟩
  obtain ⟨Rn, Rp, Ri, Rt⟩ := id R
  obtain ⟨hl, B, S, wvn, lwn⟩ := id Rn
  obtain ⟨⟨ln, t1, t2, t3, t4⟩, t5⟩ := id Rt
  have hn := B.2.2.2
  have tb := ltext_both (N := N) (s := s) (c := c) hN hl t1.1 t2 t3 t4
  have hc : x11_law N s X = ((x4_reads N s (X + 6) (X + 1)).bind (fun zz => (fun q2 x3 => ((x11_useTapeUp N q2 X x3).bind (fun zz => (fun q6 x7 => (if x3 = 0 then (some ((sk_rs q6 6), (.inr "java/lang/IllegalArgumentException"))) else ((x4_made N q6 (X + 6)).bind (fun zz => (fun q11 l12 => (ky_let (sk_wr q11 (X + 14) 1 (some l12)) (fun q15 => ((x11_forgetPast N q15 X).bind (fun zz => (fun q17 x18 => (ky_om (sk_r q17 (X + 14) 1) none (fun l21 => (if lay_X3 (sk_K q17) (sk_r q17) l21 = true then (some (q17, (.inl (some (.int (sk_c q17 l21 0)))))) else none)))) zz.1 zz.2))))) zz.1 zz.2)))) zz.1 zz.2))) zz.1 zz.2)) := by
    unfold x11_law
    rw [if_pos hl]
  rw [hc]
  clear hc
  have c0o : ∀ k, k ≠ 0 → k ≠ 9 → k ≠ 10 → k ≠ 11 → k ≠ 16 → cB c 0 k = c 0 k := fun k h1 h2 h3 h4 h5 => cB_o h1 h2 h3 h4 h5
  rcases tb with ⟨S1, K, a1, a2, ⟨q, f1, f2, f3, f4⟩, f5⟩ | ⟨S1, K, k, a1, a2, a3, s', c', p, q, b, b', v, u, a, kd, am, hf, st, sa, u1, u2, u3, u4, I⟩
  · -- wrong
    have e14 : sk_c S1 (X + 1) 3 = K 0 12 := by rw [f1, f2]
    refine ⟨sk_rs (sk_wc (sk_wc S1 X 10 (K 0 12)) (X + 1) 1 0) 6, bk_w (bk_w K 0 14 (K 0 12)) 0 0 1, .inr "java/lang/IllegalArgumentException", 0, ?_, ?_, .inr ⟨rfl, ?_⟩, ?_⟩
    · rw [a1]
      simp only [zq_bindP]
      rw [ut_ok hl f3]
      simp only [zq_bindP, ↓reduceIte]
      rw [e14]
    · unfold md_law
      rw [a2]
      simp only [zq_bindP, zq_letP, m1_0, th_r, th_c1, d10, ↓reduceIte]
    · rw [bk_w_same]
    · generalize e9 : bk_w (bk_w K 0 14 (K 0 12)) 0 0 1 = c9
      have z : ∀ k, k ≠ 0 → k ≠ 14 → c9 0 k = K 0 k := fun k h1 h2 => by rw [← e9, bk_w_at h1, bk_w_at h2]
      have za : ∀ a, a ≠ 0 → c9 a = K a := fun a h1 => by rw [← e9, bk_w_ne h1, bk_w_ne h1]
      refine wrong_ok hj Z R Rw f3 (fun k hk => ?_) (fun k hk => ?_) (fun k hk => ?_) ?_ ?_ ?_ ?_
      · rw [za 1 (by decide)]
        by_cases h : k < 549
        · rw [f5 k h, cB_n (by decide)]
        · rw [f4.2.2 k (by omega) hk, cB_n (by decide)]
      · rw [za 2 (by decide), f4.1 2 (by decide) (by decide), cB_n (by decide)]
      · rw [za 5 (by decide), f4.1 5 (by decide) (by decide), cB_n (by decide)]
      · rw [z 6 (by decide) (by decide), f4.2.1 6 (by decide) (by decide) (by decide) (by decide), c0o 6 (by decide) (by decide) (by decide) (by decide) (by decide)]
      · rw [z 7 (by decide) (by decide), f4.2.1 7 (by decide) (by decide) (by decide) (by decide), c0o 7 (by decide) (by decide) (by decide) (by decide) (by decide)]
      · rw [z 9 (by decide) (by decide), f4.2.1 9 (by decide) (by decide) (by decide) (by decide), cB_9]
      · rw [← e9, bk_w_at (by decide), bk_w_same]
  · subst u1
    subst u2
    obtain ⟨⟨F, F', w, i6, i5, i16⟩, ⟨j1, j2, j3, j4, j5⟩, j6⟩ := id I
    have hp4 : p ≤ 400 := Nat.le_trans u3 t1.1
    have n1 : (0 : Int32) ≤ nI k := nI_pos' (by omega)
    have n1' : ((0 : Int32) ≤ nI k) = True := eq_true n1
    have Ft := F.tS (q := q) (b := b) (v := v)
    have pF' := F'.pq (p := p) (b := b')
    generalize hS2 : sk_wc (sk_wc (tS (X + 1) s' q b v) X 10 (-1)) (X + 1) 1 0 = S2 at *
    have F2 : cfr (tpV X) s S2 := by rw [← hS2]; exact ((rd_tp Ft).wc _ (by unfold tpV; omega)).wc _ (by unfold tpV; omega)
    have B2 := bks_cfr B F2
    have hn2 : sk_n S2 = sk_n s := F2.2.2.2.1
    have r2' : ∀ a kk, a ≠ X → a ≠ X + 1 → sk_c S2 a kk = sk_c s' a kk := fun a kk h1 h2 => by rw [← hS2, qc_ne h2, qc_ne h1, tS_n h2]
    have l4 : lay_X4 (sk_K S2) (sk_r S2) (X + 6) = true := by rw [F2.1, F2.2.2.1]; exact ly_X11_l2 hl
    obtain ⟨s3, mo, n3, m3, G3, L3, z0, ⟨k1, k2, k3, k4⟩, q1, q2, q3, q4⟩ := made_ok (N := N) (s := S2) (a := X + 6) (l := k) (u := u) l4 (by omega) (by rw [r2' _ _ (by omega) (by omega)]; exact i5) (by rw [r2' _ _ (by omega) (by omega)]; exact i6) a3 (by omega)
    rw [hn2] at mo n3 L3 z0 k1 k2 k3 k4 q1 q2 q3 q4
    have Fe : sfr (lqV X) s (sk_wr s3 (X + 14) 1 (some (sk_n s))) := by
      refine (((sfr.of F2).mono (fun a kk _ h => ?_)).tr (G3.sfr (fun _ _ h => h.elim))).wr _ (.inr (.inr ⟨rfl, rfl⟩)) (.inr ?_)
      · unfold tpV at h; unfold lqV; omega
      · have l6 := ly_X7_l1 (ly_X11_l3 hl)
        have k6 := ly_X6_c l6
        rw [k6]; rfl
    have e4 : sk_r (sk_wr s3 (X + 14) 1 (some (sk_n s))) (X + 14) 1 = some (sk_n s) := wr_r1 ⟨rfl, rfl⟩
    have hl4 := lt_X11 (Fe.fr B.2.2.1) hl
    obtain ⟨y0, y1, y2, y3, y4, y5, y6, y7, y8, y9, y10⟩ := lay_X3_of L3
    have B4 : bks X (sk_K (sk_wr s3 (X + 14) 1 (some (sk_n s)))) (sk_n (sk_wr s3 (X + 14) 1 (some (sk_n s)))) := by
      refine bks_add B Fe.1 (by rw [wr_K, y0]; decide) (by rw [wr_K, y0, wr_n, n3]; rfl) (fun x h1 h2 => ?_) (fun x hx => ?_)
      · rw [wr_n, n3] at h2
        have : x = sk_n s + 1 ∨ x = sk_n s + 2 ∨ x = sk_n s + 3 ∨ x = sk_n s + 4 ∨ x = sk_n s + 5 := by omega
        rw [wr_K]
        rcases this with rfl | rfl | rfl | rfl | rfl
        · rw [k1]; rfl
        · rw [k2]; rfl
        · rw [k3]; rfl
        · rw [k4]; rfl
        · rw [y10]; rfl
      · rw [wr_n] at hx
        rw [wr_K, G3.2.2.2 x hx, F2.1]
        exact B.2.2.1 x (by omega)
    have L4 : lay_X3 (sk_K (sk_wr s3 (X + 14) 1 (some (sk_n s)))) (sk_r (sk_wr s3 (X + 14) 1 (some (sk_n s)))) (sk_n s) = true := by
      refine lay_X3_mk ⟨y0, ?_, y2, ?_, y4, ?_, y6, ?_, y8, ?_, y10⟩
      · rw [wr_r2 (by omega)]; exact y1
      · rw [wr_r2 (by omega)]; exact y3
      · rw [wr_r2 (by omega)]; exact y5
      · rw [wr_r2 (by omega)]; exact y7
      · rw [wr_r2 (by omega)]; exact y9
    have Rw4 : R_way X (sk_wr s3 (X + 14) 1 (some (sk_n s))) W m (1 + 12 * j) := R_way_fr Rw B Fe (by unfold lqV; omega) (fun y kk _ h38 => ⟨by unfold lqV; omega, by unfold lqV; omega⟩) (Nat.le_refl _) (fun _ _ => rfl)
    have K4 : ∀ x, sk_K (sk_wr s3 (X + 14) 1 (some (sk_n s))) x = sk_K s3 x := fun x => by rw [wr_K]
    have c4 : ∀ x kk, sk_c (sk_wr s3 (X + 14) 1 (some (sk_n s))) x kk = sk_c s3 x kk := fun x kk => by rw [wr_c]
    have n4 : sk_n (sk_wr s3 (X + 14) 1 (some (sk_n s))) = sk_n s + 6 := by rw [wr_n]; exact n3
    have m4 : sk_m (sk_wr s3 (X + 14) 1 (some (sk_n s))) ≤ sk_m s + 500 := by rw [wr_m, ← F2.2.2.2.2.1]; exact m3
    have Z9 : sk_r (sk_wr s3 (X + 14) 1 (some (sk_n s))) X 9 = sk_r s X 9 := Fe.r (by omega) (by unfold lqV; omega)
    generalize hs4 : sk_wr s3 (X + 14) 1 (some (sk_n s)) = s4 at *
    obtain ⟨s5, p1, p2, p3, p4⟩ := fp_ok (N := N) hl4 Rw4 (by omega) B4
    have F5 : sfr (lpV X s) s s5 := by
      refine (Fe.mono (V' := lpV X s) (fun a kk _ h => .inl h)).tr2 (sfr.of p4) (fun a kk ha h => ?_)
      rcases h with h | h
      · exact .inr (.inl h)
      · rw [Fe.1 a ha] at h; exact .inr (.inr h)
    have B5 := bks_cfr B4 p4
    have S5 : sc_rel s5 (X + 12) (ndS W 14 1) sd := sc_14 (sc_fr S B.2.2.1 (by omega) (fun i kk hi h => by unfold lpV lqV at h; omega) F5) (by decide)
    have r14 : sk_r s5 (X + 14) 1 = some (sk_n s) := by rw [p4.2.2.1]; exact e4
    have L5 : lay_X3 (sk_K s5) (sk_r s5) (sk_n s) = true := by rw [p4.1, p4.2.2.1]; exact L4
    have c5n : ∀ i kk, i < 5 → sk_c s5 (sk_n s + i) kk = sk_c s3 (sk_n s + i) kk := fun i kk hi => by
      rw [p4.2.2.2.2.2 _ _ (fun h => ?_), c4]
      rcases h with h | h
      · omega
      · have : i = 0 ∨ i = 1 ∨ i = 2 ∨ i = 3 ∨ i = 4 := by omega
        have h := h.2
        rw [K4] at h
        rcases this with rfl | rfl | rfl | rfl | rfl
        · rw [Nat.add_zero, y0] at h; cases h
        · rw [k1] at h; cases h
        · rw [k2] at h; cases h
        · rw [k3] at h; cases h
        · rw [k4] at h; cases h
    have K5 : ∀ x, sk_K s5 x = sk_K s3 x := fun x => by rw [p4.1, K4]
    have hz9 : sk_c s' (X + 9) 0 = 0 := by rw [F.2.2.2.2.2 _ _ (by unfold rdV; omega)]; exact t1.2
    have z05 : sk_c s5 (sk_n s) 0 = nI k := by rw [show sk_c s5 (sk_n s) 0 = sk_c s5 (sk_n s + 0) 0 from rfl, c5n 0 0 (by decide)]; exact z0
    have LC : lwC s5 (sk_n s) (k, kd, am, hf) := by
      refine law_C I a3 hp4 hz9 L5 z05 (by rw [K5]; exact k1) (by rw [K5]; exact k2) (by rw [K5]; exact k3) (by rw [K5]; exact k4) (fun i hi => ?_) (fun i hi => ?_) (fun i hi => ?_) (fun i hi => ?_)
      · rw [c5n 1 i (by decide), q1 i hi, r2' _ _ (by omega) (by omega)]
      · rw [c5n 2 i (by decide), q2 i hi, r2' _ _ (by omega) (by omega)]
      · rw [c5n 3 i (by decide), q3 i hi, r2' _ _ (by omega) (by omega)]
      · rw [c5n 4 i (by decide), q4 i hi, r2' _ _ (by omega) (by omega)]
    have L : lwOK s (lpV X s) := fun q h => by
      obtain ⟨_, _, k4, _, h38⟩ := quiet_law B h
      have ap : ∀ i kk, i < 5 → ¬ lpV X s (q + i) kk := fun i kk hi h => by
        rcases h with h | h | h
        · unfold lqV at h; omega
        · omega
        · have := bk_apart B (p := q) (q := q + i) (i := i) (j := 0) (by rw [k4]; decide) (by rw [h.2]; decide) (by rw [k4]; show _ < 6; omega) (by rw [h.2]; decide) rfl
          rw [← this, k4] at h; omega
      exact ⟨fun kk h => absurd h (ap 0 kk (by decide)), fun i kk _ h2 => ap i kk (by omega)⟩
    have kne : ∀ {p' : Nat}, lay_X7 (sk_K s) (sk_r s) p' = true → X + 38 ≤ p' → ∀ i kk, i < 10 → ¬ lpV X s (p' + i) kk := fun {p'} hl7 h38 i kk hi h => by
      have k7 := lay7_k4 hl7
      rcases h with h | h | h
      · unfold lqV at h; omega
      · omega
      · have := bk_apart B (p := p') (q := p' + i) (i := i) (j := 0) (by rw [k7.1]; decide) (by rw [h.2]; decide) (by rw [k7.1]; exact hi) (by rw [h.2]; decide) rfl
        rw [← this, k7.1] at h; omega
    -- the reference
    obtain ⟨c9, g1, g2, g3, g4⟩ := l52_loop (N := N) (p1 := nI k) (c := bk_w (bk_w (pq c' p b') 0 14 (-1)) 1 1398 (nI k)) 849 0 N _ (by omega) (by omega) onl.rf (fun _ _ => rfl) (fun q hq => by omega)
    have g1' : ∀ kk, md_law_L52 N kk N (bk_w (bk_w (pq c' p b') 0 14 (-1)) 1 1398 (nI k)) (nI k) 0 = kk c9 (nI k) (nI 849) := g1
    generalize hc5 : bk_w (bk_w c9 1 14 1) 0 7 0 = c5
    have za : ∀ a, a ≠ 0 → a ≠ 1 → c5 a = pq c' p b' a := fun a h1 h2 => by rw [← hc5, bk_w_ne h1, bk_w_ne h2, g2 a h2, bk_w_ne h2, bk_w_ne h1]
    have z0' : ∀ kk, kk ≠ 7 → kk ≠ 14 → c5 0 kk = pq c' p b' 0 kk := fun kk h1 h2 => by rw [← hc5, bk_w_at h1, bk_w_ne (by decide), g2 0 (by decide), bk_w_ne (by decide), bk_w_at h2]
    have z1 : ∀ kk, kk < 549 → kk ≠ 14 → c5 1 kk = c 1 kk := fun kk h1 h2 => by rw [← hc5, bk_w_ne (by decide), bk_w_at h2, g3 kk (.inl h1), bk_w_at (by omega), bk_w_ne (by decide), pq_n (by decide), w kk h1, cB_n (by decide)]
    have z14 : c5 1 14 = 1 := by rw [← hc5, bk_w_ne (by decide), bk_w_same]
    have zT : ∀ kk, kk < 849 → c5 1 (549 + kk) = if kk = 0 then nI k else dT c' kk := fun kk hk => by
      rw [← hc5, bk_w_ne (by decide), bk_w_at (by omega), g4 kk hk]
      by_cases e : kk = 0
      · subst e; rw [if_pos rfl, Nat.add_zero, bk_w_same]
      · rw [if_neg e, bk_w_at (by omega), bk_w_ne (by decide), pq_n (by decide)]; rfl
    have v5 : wv (c5 1) (ndS W 14 1) sd := by
      refine ⟨fun qq hq hn => ?_, by rw [z1 16 (by decide) (by decide)]; exact wvn.2⟩
      by_cases e : qq = 14
      · rw [e, z14, ndS_s]; rfl
      · rw [z1 qq hq e, ndS_o e]; exact wvn.1 qq hq hn
    have RA5 : RA X s5 c5 (ndS W 14 1) sd (k, kd, am, hf) := by
      refine ⟨⟨lt_X11 (F5.fr B.2.2.1) hl, B5, S5, v5, .inr ⟨sk_n s, r14, ndS_s, lwT_congr (law_T I a3 hp4) zT, LC⟩⟩, past_0 (by rw [← hc5, bk_w_same]) p3 Rp hl B F5 (by unfold lpV lqV; omega) (by unfold lpV lqV; omega) (fun kk => by unfold lpV lqV; omega), R_img_V Ri B L F5 (by unfold lpV lqV; omega) (fun p' i qq _ e2 e3 hi => kne e2 e3 i qq hi) (fun qq _ => by rw [za 2 (by decide) (by decide), pF'.1 2 (by decide) (by decide), cB_n (by decide)]) (by rw [z0' 6 (by decide) (by decide), pF'.2.1 6 (by decide) (by decide) (by decide) (by decide), c0o 6 (by decide) (by decide) (by decide) (by decide) (by decide)]), ⟨0, ⟨by omega, by rw [F5.c (by omega) (by unfold lpV lqV; omega)]; exact t1.2⟩, ?_, ?_, fun jj hjj => by omega⟩, ?_⟩
      · rw [p4.2.2.2.2.2 _ _ (by omega), c4, G3.c (by omega) (fun h => h), ← hS2, qc_eq, pk_us]; rfl
      · rw [z0' 9 (by decide) (by decide), pF'.2.1 9 (by decide) (by decide) (by decide) (by decide), cB_9]; rfl
      · rw [p4.2.2.2.2.2 _ _ (by omega), c4, G3.c (by omega) (fun h => h), ← hS2, qc_ne (by omega), qc_eq, pk_us, ← hc5, bk_w_at (by decide), bk_w_ne (by decide), g2 0 (by decide), bk_w_ne (by decide), bk_w_same]
    refine ⟨s5, c5, .inl (some (.int (nI k))), nI k, ?_, ?_, .inl ⟨rfl, ?_⟩, ⟨by omega, ?_, _, sd, (k, kd, am, hf), RA5, ?_⟩⟩
    · rw [a1]
      simp only [zq_bindP]
      rw [ut_ok hl Ft, if_neg (by decide), hS2]
      simp only [zq_bindP, zq_letP, d10, ↓reduceIte]
      rw [mo]
      simp only [zq_bindP]
      rw [hs4, p1]
      simp only [zq_bindP]
      rw [r14]
      simp only [ky_om]
      rw [if_pos L5, z05]
    · unfold md_law
      rw [a2]
      simp only [zq_bindP, zq_letP, n1', th_r, th_c0, ↓reduceIte, g1', hc5]
    · rw [z0' 0 (by decide) (by decide), pF'.2.1 0 (by decide) (by decide) (by decide) (by decide), cB_0]
    · unfold R_sz at Z ⊢
      rw [p4.2.2.2.1, p4.2.2.2.2.1, p4.2.2.1, n4, Z9]; omega
    · rcases p2 (ndS W 14 1) (k, kd, am, hf) with h | ⟨y, st, ca, wa, k1, k2, k3, k4, k5, k6, k7⟩
      · exact .inl h
      · exact .inr ⟨y, st, ca, wa, k1, k2, k3, k4, k5, by omega, k7⟩
end
