/-! CALLS: soonest, latest, best, round, more -/
def okf (set : Int32) (o : Nat) : Bool := decide (wy_isIn set (nI o) = 1)
theorem okf_eq (set : Int32) (o : Nat) : wy_isIn set (nI o) = if okf set o = true then 1 else 0 := by
  unfold okf wy_isIn
  by_cases h : (set >>> (wy_moveOf (nI o) &&& 31)) &&& 1 = 1
  · rw [if_pos h]; rfl
  · rw [if_neg h]; rfl
theorem has_isIn (set : Int32) {o : Nat} (ho : o < 12) : md_has set (nI (wy_mv o)) = if okf set o = true then 1 else 0 := by
  rw [← okf_eq]
  unfold md_has wy_isIn
  rw [wy_mv_eq o ho]
theorem and127 (x : Int32) : ∀ k : Nat, k ≤ 6 → ((x &&& 127) >>> (nI k &&& 31)) &&& 1 = (x >>> (nI k &&& 31)) &&& 1 := by
  intro k hk
  have : k = 0 ∨ k = 1 ∨ k = 2 ∨ k = 3 ∨ k = 4 ∨ k = 5 ∨ k = 6 := by omega
  apply Int32.toBitVec_inj.1
  apply BitVec.eq_of_getLsbD_eq
  intro i hi
  rcases this with rfl | rfl | rfl | rfl | rfl | rfl | rfl
  all_goals
    rw [Int32.toBitVec_and, Int32.toBitVec_and, BitVec.getLsbD_and, BitVec.getLsbD_and]
    by_cases h0 : i = 0
    · subst h0
      congr 1
      simp [BitVec.getLsbD_sshiftRight, BitVec.getElem_sshiftRight, Int32.toBitVec_shiftRight, nI]
    · have : (1 : Int32).toBitVec.getLsbD i = false := by
        have e : (1 : Int32).toBitVec = 1#32 := rfl
        rw [e, BitVec.getLsbD_one]; simp [h0]
      rw [this, Bool.and_false, Bool.and_false]
theorem has_isIn127 (set : Int32) {o : Nat} (ho : o < 12) : md_has (set &&& 127) (nI (wy_mv o)) = if okf set o = true then 1 else 0 := by
  rw [← has_isIn set ho]
  unfold md_has
  have := wy_mv_lt o ho
  rw [and127 set (wy_mv o) (by omega)]
section
variable {N X y st j : Nat} {s s' : sk_S} {c c' : Nat → Nat → Int32} {W : Nat → Nat} {sd : Int32} {m : lwM} {ca wa sb v : Nat} {set : Int32}
/-- soonest by the class, from the state v, by calm ca and water wa -/
theorem mw_search (hN : 40000 ≤ N) (Q : QW X y st s c W sd m ca wa) (hst : st < 1000000) (hv : v < 1200) : ∃ s' r, x10_search N s y (nI v) set 1 = some (s', r) ∧ QW X y st s' c W sd m ca wa ∧ szq X s s' ∧ sfr (quiet X s) s s' ∧ gp_ans (nxf W m ca wa) (tkf W) (okf set) v r := by
  have E := env_ok (N := N) (by omega) Q.1.1 Q.2.1 Q.2.2 hst
  obtain ⟨s', r, h1, h2, h3, h4⟩ := wy_soon (ok := okf set) (set := set) E hN Q.2.1.2.2.2.2.2.2.2.2.2 hv (fun o _ => okf_eq set o)
  obtain ⟨q1, q2, q3⟩ := QW_cfr Q h2 h3
  exact ⟨s', r, h1, q1, q2, q3, h4⟩
theorem R_calm (R : R_now X s c W sd m) : sk_c s (X + 13) 0 = nI (psN W) ∧ sk_c s (X + 13) 1 = nI (W 4) ∧ sk_c s (X + 13) 2 = nI (W 5) ∧ sk_c s (X + 13) 3 = nI (W 6) ∧ sk_c s (X + 13) 4 = nI (W 7) ∧ sk_c s (X + 13) 5 = nI (W 8) ∧ sk_c s (X + 13) 6 = nI (W 9) ∧ sk_c s (X + 13) 7 = sd ∧ W 4 ≤ 9 ∧ W 5 ≤ 9 := by
  have h := R.2.2.1.2.2.1
  have hw := R.2.2.1.2.1.1
  rw [show X + 13 = X + 12 + 1 by omega]
  exact ⟨h.1, h.2.1, h.2.2.1, h.2.2.2.1, h.2.2.2.2.1, h.2.2.2.2.2.1, h.2.2.2.2.2.2.1, h.2.2.2.2.2.2.2, hw.2.2.2.2.1, hw.2.2.2.2.2.1⟩
theorem wa_ok (hN : 40000 ≤ N) (R : RA X s c W sd m) (Rw : R_way X s W m sb) (h1 : 1 ≤ sb) (hsb : sb < 900000) :
    ∃ s' y st', x11_waysAsItIs N s X = some (s', y) ∧ QW X y st' s' c W sd m (W 4) (W 5) ∧ st' ≤ sb + 1 ∧ szq X s s' ∧ sfr (quiet X s) s s' := by
  obtain ⟨_, c4, c5, _, _, _, _, _, b4, b5⟩ := R_calm R.1
  obtain ⟨s', y, st', g1, g2⟩ := ww_ok (N := N) (ca := W 4) (wa := W 5) (by omega) R Rw h1 hsb b4 b5
  refine ⟨s', y, st', ?_, g2⟩
  unfold x11_waysAsItIs
  rw [if_pos R.1.1, c4, c5, g1]
  rfl
theorem mo_ok (hN : 40000 ≤ N) (R : RA X s c W sd m) (Rw : R_way X s W m sb) (h1 : 1 ≤ sb) (hsb : sb < 900000) (hv : v < 1200) :
    ∃ s' r, x11_minutesOut N s X (nI v) set = some (s', r) ∧ RA X s' c W sd m ∧ R_way X s' W m (sb + 1) ∧ szq X s s' ∧ gp_ans (nxf W m (W 4) (W 5)) (tkf W) (okf set) v r := by
  obtain ⟨s1, y, st1, g1, g2, g3, g4, g5⟩ := wa_ok hN R Rw h1 hsb
  obtain ⟨s2, r, k1, k2, k3, k4, k5⟩ := mw_search (N := N) (set := set) hN g2 (by omega) hv
  refine ⟨s2, r, ?_, k2.1, QW_way k2 g3, g4.tr k3, k5⟩
  unfold x11_minutesOut
  rw [if_pos R.1.1, g1]
  simp only [zq_bindP]
  rw [if_pos g2.2.1.2.1, k1]
  rfl
theorem mow_ok (hN : 40000 ≤ N) (R : RA X s c W sd m) (Rw : R_way X s W m sb) (h1 : 1 ≤ sb) (hsb : sb < 900000) (hca : ca ≤ 9) (hwa : wa ≤ 9) :
    ∃ s' r, x11_minutesOutWith N s X (nI ca) (nI wa) = some (s', r) ∧ RA X s' c W sd m ∧ R_way X s' W m (sb + 1) ∧ szq X s s' ∧ gp_ans (nxf W m ca wa) (tkf W) (okf 127) (psN W) r := by
  obtain ⟨s1, y, st1, g1, g2, g3, g4, g5⟩ := ww_ok (N := N) (ca := ca) (wa := wa) (by omega) R Rw h1 hsb hca hwa
  obtain ⟨s2, r, k1, k2, k3, k4, k5⟩ := mw_search (N := N) (set := 127) hN g2 (by omega) (psN_lt R.1.2.2.1.2.1)
  refine ⟨s2, r, ?_, k2.1, QW_way k2 g3, g4.tr k3, k5⟩
  unfold x11_minutesOutWith
  rw [if_pos R.1.1, g1]
  simp only [zq_bindP]
  rw [if_pos g2.2.1.2.1, (R_calm g2.1.1).1, k1]
  rfl
theorem nx_lt : ∀ s o, s < 1200 → o < 12 → nxf W m ca wa s o < 1200 := fun s o hs _ => mv_s_lt hs
theorem RR_mk (hj : j < 512) (Z : R_sz X j s) (q : szq X s s') (R : RA X s' c' W sd m) (Rw : R_way X s' W m sb) (hs : sb ≤ 1 + 12 * (j + 1)) : RR X (j + 1) s' c' := by
  refine ⟨by omega, q.sz Z, W, sd, m, R, ?_⟩
  rcases Rw with h | ⟨y, st, ca, wa, h1, h2, h3, h4, h5, h6, h7⟩
  · exact .inl h
  · exact .inr ⟨y, st, ca, wa, h1, h2, h3, h4, h5, by omega, h7⟩
theorem RA_c (R : RA X s c W sd m) (C : ceq c c') : RA X s c' W sd m := RA_quiet R R.1.2.1 sfr.rf C
theorem rwd_0 (R : RA X s c W sd m) : rwd (bk_w c 0 0 0) W sd m := rwd_k (R_rwd R.1) (bk_w_ne (by decide))
theorem ceq_0 : ceq c (bk_w c 0 0 0) := ceq.rf.w _ (by unfold cfree; omega)
theorem sm_soonest_ok (hN : 2000000000 ≤ N) : sm_soonest X N (RR X) := by
  intro j s c hj ⟨_, Z, W, sd, m, R, Rw⟩ p1
  obtain ⟨c0, -⟩ := R_calm R.1
  have hps := psN_lt R.1.2.2.1.2.1
  obtain ⟨s', r, a1, a2, a3, a4, a5⟩ := mo_ok (N := N) (set := p1) (by omega) R Rw (by omega) (by omega) hps
  obtain ⟨c2, nd, b1, b2, b3, b4, b5⟩ := rf_soonBy (set := p1 &&& 127) (ok := okf p1) hN (rwd_0 R) (fun o ho => has_isIn127 p1 ho)
  refine ⟨s', c2, r, ?_, ?_, RR_mk hj Z a4 (RA_c a2 (ceq_0.tr b2.ceq)) a3 (by omega)⟩
  · unfold x11_soonest
    rw [if_pos R.1.1, c0, a1]
    rfl
  · unfold md_soonest
    simp only [zq_letP]
    rw [b1]
    simp only [zq_bindP]
    have hD := (b3 _ hps).2
    rcases gp_same nx_lt b4 hps a5 with ⟨h1, h2⟩ | ⟨h1, h2⟩
    · rw [if_neg (by show ¬ _ < nI 1000000; rw [zq_lt (by omega) (by decide)]; omega), h1]
    · rw [if_pos (by show _ < nI 1000000; rw [zq_lt (by omega) (by decide)]; omega), h1]
theorem sm_latest_ok (hN : 2000000000 ≤ N) : sm_latest X N (RR X) := by
  intro j s c hj ⟨_, Z, W, sd, m, R, Rw⟩
  obtain ⟨c0, -⟩ := R_calm R.1
  have hps := psN_lt R.1.2.2.1.2.1
  have hw8 := R.1.2.2.1.2.1.1.2.2.2.2.2.2.2.2.1
  obtain ⟨s', r, a1, a2, a3, a4, a5⟩ := mo_ok (N := N) (set := 127) (by omega) R Rw (by omega) (by omega) hps
  obtain ⟨c2, nd, b1, b2, b3, b4, b5⟩ := rf_soonBy (set := 127) (ok := okf 127) hN (rwd_0 R) (fun o ho => has_isIn 127 ho)
  have d8 : sk_c s' (X + 13) 5 = nI (W 8) := (R_calm a2.1).2.2.2.2.2.1
  have e8 : c2 1 8 = nI (W 8) := by rw [b2.c1]; exact wv_n (rwd_0 R).1 (by decide) (by decide)
  have hD := (b3 _ hps).2
  have cls : x11_latest N s X = some (s', if nd (psN W) < 1000000 ∧ nd (psN W) + 1 ≤ W 8 then nI (W 8 - nd (psN W) - 1) else -1) := by
    unfold x11_latest
    rw [if_pos R.1.1, c0, a1]
    simp only [zq_bindP]
    rcases gp_same nx_lt b4 hps a5 with ⟨h1, h2⟩ | ⟨h1, h2⟩
    · rw [if_pos h1, if_neg (by omega)]
    · rw [if_neg (by rw [h1]; exact zq_m1 (by omega)), h1, d8]
      by_cases h : nd (psN W) + 1 ≤ W 8
      · rw [pk_sub (by omega), show (1 : Int32) = nI 1 from rfl, pk_sub (by omega), if_pos (nI_pos' (by omega)), if_pos ⟨by omega, h⟩]
      · have : nI (W 8) - nI (nd (psN W)) - 1 < 0 := by
          have : nI (W 8) - nI (nd (psN W)) - 1 = nI (W 8) - nI (nd (psN W) + 1) := by rw [← nI_1, Int32.sub_sub]
          rw [this]
          exact pk_sneg (by omega) (by omega)
        rw [if_neg (zq_neg.mpr this), if_neg (by omega)]
  have rf : md_latest N c = some (c2, if nd (psN W) < 1000000 ∧ nd (psN W) + 1 ≤ W 8 then nI (W 8 - nd (psN W) - 1) else -1) := by
    unfold md_latest
    simp only [zq_letP]
    rw [b1]
    simp only [zq_bindP]
    by_cases hf : nd (psN W) < 1000000
    · rw [if_pos (by show _ < nI 1000000; rw [zq_lt (by omega) (by decide)]; exact hf), e8]
      by_cases h : nd (psN W) + 1 ≤ W 8
      · rw [pk_sub (by omega), show nI (W 8 - nd (psN W)) - 1 = nI (W 8 - nd (psN W) - 1) from pk_sub (b := 1) (by omega), if_pos ⟨hf, h⟩]
        unfold mt_max
        rw [if_pos (by rw [fa_lt, nI_toInt (by omega), show (-1 : Int32).toInt = -1 by decide]; omega)]
      · have e1 : nI (W 8) - nI (nd (psN W)) - 1 = nI (W 8) - nI (nd (psN W) + 1) := by rw [← nI_1, Int32.sub_sub]
        rw [e1, if_neg (by omega)]
        unfold mt_max
        rw [if_neg (by rw [fa_lt, pk_sub_toInt (by omega) (by omega), show (-1 : Int32).toInt = -1 by decide]; omega)]
    · rw [if_neg (by show ¬ _ < nI 1000000; rw [zq_lt (by omega) (by decide)]; exact hf), if_neg (by omega)]
  exact ⟨s', c2, _, cls, rf, RR_mk hj Z a4 (RA_c a2 (ceq_0.tr b2.ceq)) a3 (by omega)⟩
theorem sm_best_ok (hN : 2000000000 ≤ N) : sm_best X N (RR X) := by
  intro j s c hj ⟨_, Z, W, sd, m, R, Rw⟩ p1 p2
  have hps := psN_lt R.1.2.2.1.2.1
  obtain ⟨s1, y, st1, g1, g2, g3, g4, g5⟩ := wa_ok (N := N) (by omega) R Rw (by omega) (by omega)
  obtain ⟨c2, nd, b1, b2, b3, b4, b5⟩ := rf_soonBy (set := p1 &&& 127) (ok := okf p1) hN (rwd_0 R) (fun o ho => has_isIn127 p1 ho)
  have E := env_ok (N := N) (by omega) g2.1.1 g2.2.1 g2.2.2 (by omega)
  obtain ⟨s', r, h1, h2, h3, h4⟩ := wy_best (ok := okf p1) (set := p1) (k := p2) E (by omega) g2.2.1.2.2.2.2.2.2.2.2.2 hps (fun o _ => okf_eq p1 o) b4
  obtain ⟨q1, q2, q3⟩ := QW_cfr g2 h2 h3
  have R2 : rwd c2 W sd m := rwd_k (rwd_0 R) b2.c1
  obtain ⟨l1, l2, l3, l4⟩ := rw_looks R2
  have hst : md_state_r (md_looks_c c2) = nI (psN W) := md_stateN l1 R2.2.1.1.2.2.2.1
  have cls : x11_best N s X p1 p2 = some (s', r) := by
    unfold x11_best
    rw [if_pos R.1.1, g1]
    simp only [zq_bindP]
    rw [if_pos g2.2.1.2.1, (R_calm g2.1.1).1, h1]
    rfl
  have hD := (b3 _ hps).2
  have fin : ∀ c3, ceq c2 c3 → md_best N c p1 p2 = some (c3, r) → ∃ (s9 : sk_S) (c9 : Nat → Nat → Int32) (r : Int32), x11_best N s X p1 p2 = some (s9, r) ∧ md_best N c p1 p2 = some (c9, r) ∧ RR X (j + 1) s9 c9 := fun c3 C e =>
    ⟨s', c3, r, cls, e, RR_mk hj Z (g4.tr q2) (RA_c q1.1 ((ceq_0.tr b2.ceq).tr C)) (QW_way q1 g3) (by omega)⟩
  rcases h4 with ⟨hr, hno⟩ | ⟨hle, kk, hkk, hp2, hbp⟩
  · refine fin c2 ceq.rf ?_
    unfold md_best
    simp only [zq_letP]
    rw [b1]
    simp only [zq_bindP]
    by_cases hf : 1000000 ≤ nd (psN W)
    · rw [if_pos (by show nI 1000000 ≤ _; rw [zq_le (by decide) (by omega)]; exact hf), hr]
    · rw [if_neg (by show ¬ nI 1000000 ≤ _; rw [zq_le (by decide) (by omega)]; exact hf), if_neg (zq_neg.mpr (by rcases hno with h | h; exact absurd h hf; exact h)), hr]
  · have E' : rg_env (md_looks_c c2) (nxf W m (W 4) (W 5)) (tkf W) := by
      unfold rg_env at b5 ⊢
      rw [l3, l2.c1]; exact b5
    have D' : ndv (md_looks_c c2) nd := by unfold ndv; rw [l4]; exact b3
    obtain ⟨v, u1, u2⟩ := be_loop (N := N) (c := md_looks_c c2) (set := p1) (ok := okf p1) (by omega) hkk E' D' b4 (fun o ho => has_isIn p1 ho) 1000000 N 0 (psN W) (-1) (by omega) (by omega) (by omega) (by omega) hps (by omega)
    have hv : v = r := gp_bp_one u2 hbp
    refine fin (md_looks_c c2) l2.ceq ?_
    unfold md_best
    simp only [zq_letP]
    rw [b1]
    simp only [zq_bindP]
    rw [if_neg (by show ¬ nI 1000000 ≤ _; rw [zq_le (by decide) (by omega)]; omega), hp2, if_pos (nI_pos' (by omega))]
    unfold md_stateNow_r md_stateNow_c
    rw [hst, ← hv]
    exact u1
theorem sm_round_ok (hN : 2000000000 ≤ N) : sm_round X N (RR X) := by
  intro j s c hj ⟨_, Z, W, sd, m, R, Rw⟩
  have hps := psN_lt R.1.2.2.1.2.1
  obtain ⟨s1, y, st1, g1, g2, g3, g4, g5⟩ := wa_ok (N := N) (by omega) R Rw (by omega) (by omega)
  obtain ⟨c1, a1, a2, a3⟩ := nxt_lays (N := N) (by omega) (rwd_0 R)
  have R2 : rwd c1 W sd m := rwd_k (rwd_0 R) a2.c1
  obtain ⟨l1, l2, l3, l4⟩ := rw_looks R2
  have hst : md_state_r (md_looks_c c1) = nI (psN W) := md_stateN l1 R2.2.1.1.2.2.2.1
  have E' : rg_env (md_looks_c c1) (nxf W m (W 4) (W 5)) (tkf W) := by
    unfold rg_env at a3 ⊢
    rw [l3, l2.c1]; exact a3
  obtain ⟨c2, nd, b1, b2, b3, b4⟩ := rd_lays (N := N) hN E' hps
  have E := env_ok (N := N) (by omega) g2.1.1 g2.2.1 g2.2.2 (by omega)
  obtain ⟨s', r, h1, h2, h3, h4⟩ := wy_round E (by omega) g2.2.1.2.2.2.2.2.2.2.2.2 hps b4
  obtain ⟨q1, q2, q3⟩ := QW_cfr g2 h2 h3
  refine ⟨s', c2, r, ?_, ?_, RR_mk hj Z (g4.tr q2) (RA_c q1.1 (((ceq_0.tr a2.ceq).tr l2.ceq).tr (onl_kpp b2).ceq)) (QW_way q1 g3) (by omega)⟩
  · unfold x11_round
    rw [if_pos R.1.1, g1]
    simp only [zq_bindP]
    rw [if_pos g2.2.1.2.1, (R_calm g2.1.1).1, h1]
    rfl
  · have hD := b3 _ hps
    unfold md_round
    simp only [zq_letP]
    rw [a1]
    simp only [zq_bindP]
    unfold md_stateNow_r md_stateNow_c
    rw [hst, b1]
    simp only [zq_bindP]
    rw [if_pos (zq_inBt hps (by decide)), zq_cl (by omega), hD.1]
    rcases h4 with ⟨e1, e2⟩ | ⟨e1, e2⟩
    · rw [if_neg (by show ¬ _ < nI 1000000; rw [zq_lt (by omega) (by decide)]; omega), e1]
    · rw [if_pos (by show _ < nI 1000000; rw [zq_lt (by omega) (by decide)]; exact e2), e1]
theorem sm_more_ok (hN : 2000000000 ≤ N) : sm_more X N (RR X) := by
  intro j s c hj ⟨_, Z, W, sd, m, R, Rw⟩
  have hps := psN_lt R.1.2.2.1.2.1
  obtain ⟨s1, y, st1, g1, g2, g3, g4, g5⟩ := wa_ok (N := N) (by omega) R Rw (by omega) (by omega)
  obtain ⟨c1, a1, a2, a3⟩ := nxt_lays (N := N) (by omega) (rwd_0 R)
  have R2 : rwd c1 W sd m := rwd_k (rwd_0 R) a2.c1
  obtain ⟨l1, l2, l3, l4⟩ := rw_looks R2
  have hst : md_state_r (md_looks_c c1) = nI (psN W) := md_stateN l1 R2.2.1.1.2.2.2.1
  have E' : rg_env (md_looks_c c1) (nxf W m (W 4) (W 5)) (tkf W) := by
    unfold rg_env at a3 ⊢
    rw [l3, l2.c1]; exact a3
  obtain ⟨c2, nd, b1, b2, b3, b4⟩ := rd_lays (N := N) hN E' hps
  have E := env_ok (N := N) (by omega) g2.1.1 g2.2.1 g2.2.2 (by omega)
  obtain ⟨s', h1, h2, h3⟩ := wy_more E (by omega) g2.2.1.2.2.2.2.2.2.2.2.2 hps b4
  obtain ⟨q1, q2, q3⟩ := QW_cfr g2 h2 h3
  refine ⟨s', c2, nI (cn (fun v => decide (v = psN W ∨ nd v < 1000000)) 1200), ?_, ?_, RR_mk hj Z (g4.tr q2) (RA_c q1.1 (((ceq_0.tr a2.ceq).tr l2.ceq).tr (onl_kpp b2).ceq)) (QW_way q1 g3) (by omega)⟩
  · unfold x11_more
    rw [if_pos R.1.1, g1]
    simp only [zq_bindP]
    rw [if_pos g2.2.1.2.1, (R_calm g2.1.1).1, h1]
    rfl
  · unfold md_more
    simp only [zq_letP]
    rw [a1]
    simp only [zq_bindP]
    unfold md_stateNow_r md_stateNow_c
    rw [hst, b1]
    simp only [zq_bindP]
    exact mo_loop (N := N) (k := fun q15 x16 x17 x18 => (some (q15, x17))) b3 hps 1200 N 0 (by omega) (by omega)
end
