/-! RUN, BETTER -/
section
variable {N X j : Nat} {s s' : sk_S} {c c' c0 : Nat → Nat → Int32} {W W' W0 : Nat → Nat} {sd sd' sd0 : Int32} {m m' : lwM} {sb : Nat} {mi mv lg v : Nat}
/-- up by oneself in turn, both: the class's count is one ahead -/
theorem ru_loop (hN : 1000 ≤ N) {T tk : Nat} (htk : tk = W 40) (h30 : tk ≤ 30) (hT : T ≤ 200) {p1 p2 : Int32} {kC : sk_S → Int32 → Int32 → Int32 → Int32 → Int32 → Int32 → Option (sk_S × Int32)} {kR : (Nat → Nat → Int32) → Int32 → Int32 → Int32 → Int32 → Option ((Nat → Nat → Int32) × Int32)} : ∀ (r t fuel fuel' v : Nat) (s : sk_S) (c : Nat → Nat → Int32), t + r = T → r + 1 < fuel → r + 1 < fuel' → v < 1200 → 12 ≤ v → RA X s c0 W sd m → rwd c W sd m → dpv c v → ∃ s' c', RA X s' c0 W sd m ∧ (∀ sb, R_way X s W m sb → R_way X s' W m sb) ∧ siz X s s' ∧ kpp c c' ∧
    ((∃ t', t' ≤ T ∧ x11_minuteByHelp_L59 N X kC fuel s p1 p2 (nI v) (nI tk) (nI T) (nI (t + 1)) = some (s', nI (W 7 + t' * tk)) ∧ md_runOf_L16 N kR fuel' c p1 p2 (nI T) (nI t) = some (c', nI (W 7 + t' * tk))) ∨
     (∃ v', v' < 1200 ∧ 12 ≤ v' ∧ dpv c' v' ∧ x11_minuteByHelp_L59 N X kC fuel s p1 p2 (nI v) (nI tk) (nI T) (nI (t + 1)) = kC s' p1 p2 (nI v') (nI tk) (nI T) (nI (T + 1)) ∧ md_runOf_L16 N kR fuel' c p1 p2 (nI T) (nI t) = kR c' p1 p2 (nI T) (nI (T + 1)))) := by
  intro r
  induction r with
  | zero =>
    intro t fuel fuel' v s c h1 h2 h3 hv h12 R Rc D
    obtain ⟨fuel, rfl⟩ : ∃ q, fuel = q + 1 := ⟨fuel - 1, by omega⟩
    obtain ⟨fuel', rfl⟩ : ∃ q, fuel' = q + 1 + 1 := ⟨fuel' - 2, by omega⟩
    obtain rfl : t = T := by omega
    have ho := dpv_out D hv
    rw [if_neg (by omega)] at ho
    refine ⟨s, c, R, fun _ h => h, ⟨rfl, rfl, rfl⟩, kpp.rf, .inr ⟨v, hv, h12, D, ?_, ?_⟩⟩
    · simp only [x11_minuteByHelp_L59]
      rw [if_pos (by rw [zq_lt (by omega) (by omega)]; omega)]
    · simp only [md_runOf_L16, zq_letP]
      rw [if_neg (by rw [zq_lt (by omega) (by omega)]; omega), ho, if_pos rfl, if_pos (by rw [zq_le (by omega) (by omega)]; omega), nI_1, if_pos (by rw [zq_lt (by omega) (by omega)]; omega)]
  | succ r ih =>
    intro t fuel fuel' v s c h1 h2 h3 hv h12 R Rc D
    obtain ⟨fuel, rfl⟩ : ∃ q, fuel = q + 1 := ⟨fuel - 1, by omega⟩
    obtain ⟨fuel', rfl⟩ : ∃ q, fuel' = q + 1 := ⟨fuel' - 1, by omega⟩
    have ho := dpv_out D hv
    rw [if_neg (by omega)] at ho
    obtain ⟨s1, a1, a2, a3, a4⟩ := cf_after (N := N) (mv := 5) (lg := 0) hN R (by decide) (by decide) hv
    obtain ⟨c1, b1, b2, b3⟩ := dpv_move (N := N) (mv := 5) (lg := 0) hN Rc (by decide) (by decide) hv D
    have hv1 := mv_s_lt (W := W) (m := m) (ca := W 4) (wa := W 5) (mv := 5) (lg := 0) hv
    generalize mv_s W m (W 4) (W 5) 5 0 v = v1 at *
    have Rc1 := rwd_k Rc b3.c1
    have a1' : x6_after N s (X + 14) (nI v) 5 0 (sk_c s (X + 13) 1) (sk_c s (X + 13) 2) = some (s1, nI v1) := a1
    have b1' : md_movesBy N c 5 0 = some (c1, 0) := b1
    have ho1 := dpv_out b2 hv1
    have nT : ¬ nI T < nI (t + 1) := by rw [zq_lt (by omega) (by omega)]; omega
    have eC : x11_minuteByHelp_L59 N X kC (fuel + 1) s p1 p2 (nI v) (nI tk) (nI T) (nI (t + 1)) = if po_isOut (nI v1) = 0 then x11_minuteByHelp_L59 N X kC fuel s1 p1 p2 (nI v1) (nI tk) (nI T) (nI (t + 1 + 1)) else some (s1, sk_c s1 (X + 13) 4 + nI (t + 1) * nI tk) := by
      simp only [x11_minuteByHelp_L59]
      rw [if_neg nT, a1']
      simp only [zq_bindP, zq_letP]
      rw [nI_1]
    have eR : md_runOf_L16 N kR (fuel' + 1) c p1 p2 (nI T) (nI t) = md_runOf_L16 N kR fuel' c1 p1 p2 (nI T) (nI (t + 1)) := by
      conv => lhs; unfold md_runOf_L16
      simp only [zq_letP]
      rw [if_neg (by rw [zq_lt (by omega) (by omega)]; omega), ho, if_pos rfl, if_neg (by rw [zq_le (by omega) (by omega)]; omega), b1']
      simp only [zq_bindP]
      rw [nI_1]
    rw [eC, eR, wy_ofl _ hv1]
    by_cases h : v1 < 12
    · rw [if_pos h] at ho1
      obtain ⟨fuel', rfl⟩ : ∃ q, fuel' = q + 1 := ⟨fuel' - 1, by omega⟩
      have w4 : sk_c s1 (X + 13) 4 = nI (W 7) := (bd_of a2.1).2.2.2.2.1
      have w7 : c1 1 7 = nI (W 7) := wv_n Rc1.1 (by decide) (by decide)
      have of := (md_ofMoveN (c := c1) (mv := 5) (i := 3) (x := 3) (by decide) (by decide) rfl).1
      have of' : md_ofMove_r c1 5 3 = nI tk := by
        rw [htk]
        exact of.trans (wv_n Rc1.1 (k := 40) (by decide) (by decide))
      have em : nI (W 7) + nI (t + 1) * nI tk = nI (W 7 + (t + 1) * tk) := by rw [pk_mul, nI_add]
      refine ⟨s1, c1, a2, a3, a4, b3, .inl ⟨t + 1, by omega, ?_, ?_⟩⟩
      · rw [if_pos h, if_neg (by decide), w4, em]
      · simp only [md_runOf_L16]
        rw [if_neg nT, ho1, if_neg (by decide), w7, of', em]
    · obtain ⟨s2, c2, i1, i2, i3, i4, i5⟩ := ih (t + 1) fuel fuel' v1 s1 c1 (by omega) (by omega) (by omega) hv1 (by omega) a2 Rc1 b2
      rw [if_neg h, if_pos rfl]
      exact ⟨s2, c2, i1, fun sb hs => i2 sb (a3 sb hs), siz.tr a4 i3, b3.tr i4, i5⟩
set_option maxRecDepth 20000 in
theorem ru_ok (hN : 1000 ≤ N) {p f : Nat} (hp : p ≤ 200) (hf : f ≤ 20) (R : RA X s c0 W sd m) (Rc : rwd c W sd m) : ∃ s' c' x, x11_minuteByHelp N s X (nI p) (nI f) = some (s', x) ∧ md_runOf N c (nI p) (nI f) = some (c', x) ∧ (x = -1 ∨ ∃ r, x = nI r ∧ r ≤ 20000) ∧ RA X s' c0 W sd m ∧ (∀ sb, R_way X s W m sb → R_way X s' W m sb) ∧ siz X s s' ∧ kpp c c' := by
  have hw := wd_of R
  have hv := psN_lt hw
  have h7 := hw.1.2.2.2.2.2.2.2.1
  have hm := wd_mv hw (show 5 ≤ 6 by decide)
  have t1 : 1 ≤ W 40 := hm.2.2.2.1
  have t30 : W 40 ≤ 30 := hm.2.2.2.2
  obtain ⟨D, K⟩ := dpv_now Rc
  have Rc1 := rwd_k Rc K.c1
  generalize el : md_looks_c c = c1 at *
  have of' : md_ofMove_r c1 5 3 = nI (W 40) := ((md_ofMoveN (c := c1) (mv := 5) (i := 3) (x := 3) (by decide) (by decide) rfl).1).trans (wv_n Rc1.1 (k := 40) (by decide) (by decide))
  have ne0 : ¬ nI (W 40) = (0 : Int32) := by rw [nIne0 (by omega)]; omega
  have dv : nI p / nI (W 40) = nI (p / W 40) := pk_div (by omega) (by omega) (by omega)
  have hT : p / W 40 ≤ 200 := Nat.le_trans (Nat.div_le_self _ _) hp
  have hTt : p / W 40 * W 40 ≤ 200 := Nat.le_trans (Nat.div_mul_le_self _ _) hp
  have b0 := (bd_of R.1).1
  have b4 : sk_c s (X + 13) 4 = nI (W 7) := (bd_of R.1).2.2.2.2.1
  have w7 : ∀ q, rwd q W sd m → q 1 7 = nI (W 7) := fun q h => wv_n h.1 (by decide) (by decide)
  by_cases ho : psN W < 12
  · have hout := dpv_out D hv
    rw [if_pos ho] at hout
    obtain ⟨N', rfl⟩ : ∃ q, N = q + 1 := ⟨N - 1, by omega⟩
    refine ⟨s, c1, nI (W 7), ?_, ?_, .inr ⟨W 7, rfl, by omega⟩, R, fun _ h => h, ⟨rfl, rfl, rfl⟩, K⟩
    · unfold x11_minuteByHelp
      simp only [zq_letP]
      rw [if_pos R.1.1, b0, wy_ofl _ hv, if_pos ho, if_neg (by decide), b4]
    · unfold md_runOf
      simp only [zq_letP]
      rw [el, of', if_pos ne0, dv]
      simp only [md_runOf_L16]
      rw [if_neg (by show ¬ nI (p / W 40) < nI 0; rw [zq_lt (by omega) (by decide)]; exact Nat.not_lt_zero _), hout, if_neg (by decide), w7 _ Rc1, of']
      have : (0 : Int32) * nI (W 40) = nI (0 * W 40) := pk_mul 0 _
      rw [this, nI_add, Nat.zero_mul, Nat.add_zero]
  · have tkC : x6_takes N s (X + 14) 5 = some (s, nI (W 40)) := by
      unfold x6_takes
      rw [if_pos (ly_X7_l1 (ly_X11_l3 R.1.1)), show (4 : Int32) * 5 + 3 = nI 23 from by decide, if_pos (by decide), zq_cl (by decide), nm_of R.1 23 (by decide)]
    have le1 : (1 : Int32) ≤ nI (W 40) := by show nI 1 ≤ _; rw [zq_le (by decide) (by omega)]; omega
    obtain ⟨s2, c2, i1, i2, i3, i4, i5⟩ := ru_loop (N := N) (c0 := c0) (W := W) (sd := sd) (m := m) (T := p / W 40) (tk := W 40) (p1 := nI p) (p2 := nI f) (kC := fun q11 x12 x13 x14 x15 x16 x17 => ((x5_pullsOut N q11 x14 x13).bind (fun zz => (fun q19 x20 => (if x20 = (-1 : Int32) then (some (q19, (-1))) else (if x20 ≤ (60 : Int32) then (some (q19, (((sk_c q19 (X + 13) 4) + x12) + (2 * x20)))) else (some (q19, (-1)))))) zz.1 zz.2))) (kR := fun q6 x7 x8 x9 x10 => (if ((¬ ((mt_max (q6 9 0) (q6 9 1)) = 0)) → (¬ ((md_pulledBy_r q6 x8) = 0)) → ¬ (md_pulledBy_r q6 x8) = 0) then (ky_let (md_pullsBy_r q6 x8 60) (fun x12 => (if x12 ≤ (60 : Int32) then (some (q6, (((q6 1 7) + x7) + (2 * x12)))) else (some (q6, (-1)))))) else none)) hN rfl t30 hT (p / W 40) 0 N N (psN W) s c1 (by omega) (by omega) (by omega) hv (by omega) R Rc1 D
    have eC : ∀ q, x11_minuteByHelp_L59 N X (fun q11 x12 x13 x14 x15 x16 x17 => ((x5_pullsOut N q11 x14 x13).bind (fun zz => (fun q19 x20 => (if x20 = (-1 : Int32) then (some (q19, (-1))) else (if x20 ≤ (60 : Int32) then (some (q19, (((sk_c q19 (X + 13) 4) + x12) + (2 * x20)))) else (some (q19, (-1)))))) zz.1 zz.2))) N s (nI p) (nI f) (nI (psN W)) (nI (W 40)) (nI (p / W 40)) (nI (0 + 1)) = q → x11_minuteByHelp N s X (nI p) (nI f) = q := fun q h => by
      unfold x11_minuteByHelp
      simp only [zq_letP]
      rw [if_pos R.1.1, b0, wy_ofl _ hv, if_neg ho, if_pos rfl, tkC]
      simp only [zq_bindP]
      rw [if_pos le1, if_pos ne0, dv]
      exact h
    have eR : ∀ q, md_runOf_L16 N (fun q6 x7 x8 x9 x10 => (if ((¬ ((mt_max (q6 9 0) (q6 9 1)) = 0)) → (¬ ((md_pulledBy_r q6 x8) = 0)) → ¬ (md_pulledBy_r q6 x8) = 0) then (ky_let (md_pullsBy_r q6 x8 60) (fun x12 => (if x12 ≤ (60 : Int32) then (some (q6, (((q6 1 7) + x7) + (2 * x12)))) else (some (q6, (-1)))))) else none)) N c1 (nI p) (nI f) (nI (p / W 40)) (nI 0) = q → md_runOf N c (nI p) (nI f) = q := fun q h => by
      unfold md_runOf
      simp only [zq_letP]
      rw [el, of', if_pos ne0, dv]
      exact h
    rcases i5 with ⟨t', g1, g2, g3⟩ | ⟨v', g1, g2, g3, g4, g5⟩
    · have : t' * W 40 ≤ p / W 40 * W 40 := Nat.mul_le_mul g1 (Nat.le_refl _)
      exact ⟨s2, c2, _, eC _ g2, eR _ g3, .inr ⟨_, rfl, by omega⟩, i1, i2, i3, K.tr i4⟩
    · have pc := plsC (N := N) (s := s2) (f := f) g1 (by omega)
      have pr := plsR (f := f) (q := 60) g3 g1 (by omega)
      have pr' : md_pullsBy_r c2 (nI f) 60 = _ := pr
      rw [if_neg (by omega)] at pc pr'
      have b42 : sk_c s2 (X + 13) 4 = nI (W 7) := (bd_of i1.1).2.2.2.2.1
      have c72 := w7 c2 (rwd_k Rc1 i4.c1)
      by_cases h0 : lf f (v' / 2 % 6) (v' % 2) = 0
      · rw [if_pos h0] at pc pr'
        refine ⟨s2, c2, -1, eC _ ?_, eR _ ?_, .inl rfl, i1, i2, i3, K.tr i4⟩
        · rw [g4, pc]
          simp only [zq_bindP]
          rw [if_pos trivial]
        · rw [g5]
          simp only [zq_letP]
          rw [if_pos pl_hy, pr', if_neg (by decide)]
      · rw [if_neg h0] at pc pr'
        have h9 := plq_le g1 h0
        have ne1 : ¬ nI (plq v' f) = (-1 : Int32) := by
          intro q
          have h := congrArg Int32.toInt q
          rw [nI_toInt (by omega), show (-1 : Int32).toInt = -1 from by decide] at h
          omega
        have le60 : nI (plq v' f) ≤ (60 : Int32) := by show _ ≤ nI 60; rw [zq_le (by omega) (by decide)]; omega
        have e2 : (2 : Int32) * nI (plq v' f) = nI (2 * plq v' f) := pk_mul 2 _
        refine ⟨s2, c2, nI (W 7 + p + 2 * plq v' f), eC _ ?_, eR _ ?_, .inr ⟨_, rfl, by omega⟩, i1, i2, i3, K.tr i4⟩
        · rw [g4, pc]
          simp only [zq_bindP]
          rw [if_neg ne1, if_pos le60, b42, e2, nI_add, nI_add]
        · rw [g5]
          simp only [zq_letP]
          rw [if_pos pl_hy, pr', if_pos le60, c72, e2, nI_add, nI_add]
theorem runC (p1 p2 : Int32) : (∃ p f, p ≤ 200 ∧ f ≤ 20 ∧ p1 = nI p ∧ p2 = nI f ∧ ws_isRun p1 = 1 ∧ ws_isForce p2 = 1 ∧ md_noRun p1 p2 = 0) ∨ ((ws_isRun p1 = 0 ∨ (ws_isRun p1 = 1 ∧ ws_isForce p2 = 0)) ∧ md_noRun p1 p2 = 1) := by
  unfold ws_isRun ws_isForce md_noRun
  rcases rngC 1 200 (by decide) (by decide) p1 with ⟨p, h1, hp, rfl, hin⟩ | ⟨hin, hout⟩
  · have hin' : md_in (nI p) 1 200 = 1 := hin
    have e1 : ¬ nI p < (1 : Int32) := by show ¬ nI p < nI 1; rw [zq_lt (by omega) (by decide)]; omega
    have e2 : ¬ (200 : Int32) < nI p := by show ¬ nI 200 < nI p; rw [zq_lt (by decide) (by omega)]; omega
    rcases rngC 1 20 (by decide) (by decide) p2 with ⟨f, h2, hf, rfl, hin2⟩ | ⟨hin2, hout2⟩
    · have hin2' : md_in (nI f) 1 20 = 1 := hin2
      left
      refine ⟨p, f, hp, hf, rfl, rfl, by rw [if_neg e1, if_neg e2], ?_, by rw [hin', hin2', if_neg (by decide), if_neg (by decide)]⟩
      rw [if_neg (by show ¬ nI f < nI 1; rw [zq_lt (by omega) (by decide)]; omega), if_neg (by show ¬ nI 20 < nI f; rw [zq_lt (by decide) (by omega)]; omega)]
    · have hin2' : md_in p2 1 20 = 0 := hin2
      right
      refine ⟨.inr ⟨by rw [if_neg e1, if_neg e2], ?_⟩, by rw [hin', hin2', if_neg (by decide), if_pos rfl]⟩
      rcases hout2 with h | ⟨h1, h2⟩
      · rw [if_pos (show p2 < 1 from h)]
      · rw [if_neg (show ¬ p2 < 1 from h1), if_pos (show (20 : Int32) < p2 from h2)]
  · have hin' : md_in p1 1 200 = 0 := hin
    right
    refine ⟨.inl ?_, by rw [hin', if_pos rfl]⟩
    rcases hout with h | ⟨h1, h2⟩
    · rw [if_pos (show p1 < 1 from h)]
    · rw [if_neg (show ¬ p1 < 1 from h1), if_pos (show (200 : Int32) < p1 from h2)]
set_option maxRecDepth 20000 in
theorem sm_run_ok (hN : 2000000000 ≤ N) : sm_run X N (RR X) := by
  intro j s c hj ⟨_, Z, W, sd, m, R, Rw⟩ p1 p2
  rcases runC p1 p2 with ⟨p, f, hp, hf, rfl, rfl, m1, m2, m3⟩ | ⟨m1, m3⟩
  · obtain ⟨s2, c2, x, a1, a2, a3, a4, a5, a6, a7⟩ := ru_ok (N := N) (by omega) hp hf R (rwd_0 R)
    refine ⟨s2, c2, .inl (some (.int x)), x, ?_, ?_, .inl ⟨rfl, ?_⟩, RR_siz hj Z a6 (RA_c a4 (ceq_0.tr a7.ceq)) (a5 _ Rw)⟩
    · unfold x11_run
      rw [if_pos R.1.1, m1, if_neg (by decide), m2, if_neg (by decide), a1]
      rfl
    · simp only [md_run, zq_letP, m3, th_r, th_c0, d00, true_or, ↓reduceIte, a2, zq_bindP]
    · rw [a7.2 0 (by decide) (by decide), bk_w_same]
  · refine ⟨sk_rs s 6, bk_w (bk_w c 0 0 0) 0 0 1, .inr "java/lang/IllegalArgumentException", 0, ?_, ?_, .inr ⟨rfl, bk_w_same _ _ _ _⟩, RR_thr hj Z R Rw (thr_ceq 1)⟩
    · unfold x11_run
      rw [if_pos R.1.1]
      rcases m1 with h | ⟨h1, h2⟩
      · rw [h, if_pos rfl]
      · rw [h1, if_neg (by decide), h2, if_pos rfl]
    · simp only [md_run, zq_letP, m3, th_r, th_c1, d10, d11, or_true, ↓reduceIte]
set_option maxRecDepth 20000 in
theorem sm_better_ok (hN : 2000000000 ≤ N) : sm_better X N (RR X) := by
  intro j s c hj ⟨_, Z, W, sd, m, R, Rw⟩ p1 p2
  have hw := wd_of R
  have hps := psN_lt hw
  have h7 := hw.1.2.2.2.2.2.2.2.1
  rcases runC p1 p2 with ⟨p, f, hp, hf, rfl, rfl, m1, m2, m3⟩ | ⟨m1, m3⟩
  · obtain ⟨s2, c2, x, a1, a2, a3, a4, a5, a6, a7⟩ := ru_ok (N := N) (by omega) hp hf R (rwd_0 R)
    rcases a3 with rfl | ⟨r, rfl, hr⟩
    · refine ⟨s2, c2, .inl (some (.int 0)), 0, ?_, ?_, .inl ⟨rfl, ?_⟩, RR_siz hj Z a6 (RA_c a4 (ceq_0.tr a7.ceq)) (a5 _ Rw)⟩
      · unfold x11_better
        rw [if_pos R.1.1, m1, if_neg (by decide), m2, if_neg (by decide), a1]
        simp only [zq_bindP]
        rw [if_pos trivial]
      · have lt0 : ((-1 : Int32) < 0) = True := eq_true (by decide)
        simp only [md_better, zq_letP, m3, th_r, th_c0, d00, true_or, ↓reduceIte, a2, zq_bindP, lt0]
      · rw [a7.2 0 (by decide) (by decide), bk_w_same]
    · have ne1 : ¬ nI r = (-1 : Int32) := by
        intro q
        have h := congrArg Int32.toInt q
        rw [nI_toInt (by omega), show (-1 : Int32).toInt = -1 from by decide] at h
        omega
      have Rc2 := rwd_k (rwd_0 R) a7.c1
      obtain ⟨s3, x3, b1, b2, b3, b4, b5⟩ := mo_ok (N := N) (set := 127) (by omega) a4 (a5 _ Rw) (by omega) (by omega) hps
      obtain ⟨c3, nd, e1, e2, e3, e4, e5⟩ := rf_soonBy (set := 127) (ok := okf 127) hN Rc2 (fun o ho => has_isIn 127 ho)
      have hD := (e3 _ hps).2
      have w7 : c2 1 7 = nI (W 7) := wv_n Rc2.1 (by decide) (by decide)
      have lt0 : (nI r < (0 : Int32)) = False := eq_false (nI_pos (by omega))
      have q0 := (bd_of a4.1).1
      have q4 : sk_c s3 (X + 13) 4 = nI (W 7) := (bd_of b2.1).2.2.2.2.1
      have zz : c3 0 0 = 0 := by rw [e2.2 0 (by decide) (by decide), a7.2 0 (by decide) (by decide), bk_w_same]
      have Z2 : R_sz X j s2 := by unfold R_sz at Z ⊢; rw [a6.1, a6.2.1, a6.2.2]; exact Z
      have RF := RR_mk hj Z2 b4 (RA_c b2 ((ceq_0.tr a7.ceq).tr e2.ceq)) b3 (by omega)
      have leq : (nI (W 7) + nI (nd (psN W)) ≤ nI r) = (W 7 + nd (psN W) ≤ r) := by rw [nI_add]; exact zq_le (by omega) (by omega)
      have ref : md_better N c (nI p) (nI f) = some (c3, if W 7 + nd (psN W) ≤ r then 0 else 1) := by
        simp only [md_better, zq_letP, m3, th_r, th_c0, d00, true_or, ↓reduceIte, a2, zq_bindP, lt0, e1, w7, leq]
        split <;> rfl
      have cls : ∀ q, (if x3 = (-1 : Int32) then (some (s3, (.inl (some (.int 1))))) else (if ((sk_c s3 (X + 13) 4) + x3) ≤ nI r then (some (s3, (.inl (some (.int 0))))) else (some (s3, (.inl (some (.int 1)))))) : Option (sk_S × ky_RS)) = q → x11_better N s X (nI p) (nI f) = q := fun q h => by
        unfold x11_better
        rw [if_pos R.1.1, m1, if_neg (by decide), m2, if_neg (by decide), a1]
        simp only [zq_bindP]
        rw [if_neg ne1, q0, b1]
        simp only [zq_bindP]
        exact h
      rcases gp_same nx_lt e4 hps b5 with ⟨h1, h2⟩ | ⟨h1, h2⟩
      · refine ⟨s3, c3, .inl (some (.int 1)), 1, cls _ (by rw [if_pos h1]), by rw [ref, if_neg (by omega)], .inl ⟨rfl, zz⟩, RF⟩
      · have ne3 : ¬ x3 = (-1 : Int32) := by
          rw [h1]
          intro q
          have h := congrArg Int32.toInt q
          rw [nI_toInt (by omega), show (-1 : Int32).toInt = -1 from by decide] at h
          omega
        by_cases hle : W 7 + nd (psN W) ≤ r
        · exact ⟨s3, c3, .inl (some (.int 0)), 0, cls _ (by rw [if_neg ne3, q4, h1, if_pos (by rw [leq]; exact hle)]), by rw [ref, if_pos hle], .inl ⟨rfl, zz⟩, RF⟩
        · exact ⟨s3, c3, .inl (some (.int 1)), 1, cls _ (by rw [if_neg ne3, q4, h1, if_neg (by rw [leq]; exact hle)]), by rw [ref, if_neg hle], .inl ⟨rfl, zz⟩, RF⟩
  · refine ⟨sk_rs s 6, bk_w (bk_w c 0 0 0) 0 0 1, .inr "java/lang/IllegalArgumentException", 0, ?_, ?_, .inr ⟨rfl, bk_w_same _ _ _ _⟩, RR_thr hj Z R Rw (thr_ceq 1)⟩
    · unfold x11_better
      rw [if_pos R.1.1]
      rcases m1 with h | ⟨h1, h2⟩
      · rw [h, if_pos rfl]
      · rw [h1, if_neg (by decide), h2, if_pos rfl]
    · simp only [md_better, zq_letP, m3, th_r, th_c1, d10, d11, or_true, ↓reduceIte]
end
