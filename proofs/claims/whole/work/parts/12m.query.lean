/-! ASKING THE WAYS -/
section
variable {N X y st j : Nat} {s s' : sk_S} {c c' : Nat → Nat → Int32} {W : Nat → Nat} {sd : Int32} {m : lwM} {ca wa sb : Nat}
theorem lw_cl {o : Option Nat} {h : Nat} {T : Nat → Int32} (L : lw_rel s o h T m) : cl_law s o m := by
  rcases L with ⟨h1, h2, h3⟩ | ⟨q, h1, h2, h3, h4⟩
  · exact .inl ⟨h1, h3⟩
  · exact .inr ⟨q, h1, h4⟩
theorem lw_ref (L : lw_rel s (sk_r s (X + 14) 1) (W 14) (fun k => c 1 (549 + k)) m) (h : c 1 14 = nI (W 14)) : ref_law c m := by
  rcases L with ⟨h1, h2, h3⟩ | ⟨q, h1, h2, h3, h4⟩
  · exact .inl ⟨by rw [h, h2]; rfl, h3⟩
  · exact .inr ⟨by rw [h, h2]; rfl, h3⟩
theorem R_rwd (R : R_now X s c W sd m) : rwd c W sd m := ⟨R.2.2.2.1, R.2.2.1.2.1, lw_ref R.2.2.2.2 (wv_n R.2.2.2.1 (by decide) (by decide))⟩
theorem o_and1 : ∀ o, o < 12 → nI o &&& 1 = nI (o % 2) := by decide +kernel
theorem mv_s_none {mv lg lg' v : Nat} (h : 5 ≤ mv) : mv_s W m ca wa mv lg v = mv_s W m ca wa mv lg' v := by
  unfold mv_s; rw [if_neg (by omega), if_neg (by omega)]
theorem kind10 (h : lay_X10 (sk_K s) (sk_r s) y = true) : (sk_K s y).1 = 10 := by rw [ly_X10_c h]
theorem lwVo_law (R : R_now X s c W sd m) {b k : Nat} (h : lwVo (sk_r s (X + 14) 1) b k) : ∃ q, lay_X3 (sk_K s) (sk_r s) q = true ∧ lwC s q m ∧ lwV q b k := by
  obtain ⟨q, h1, h2⟩ := h
  rcases R.2.2.2.2 with ⟨g1, _⟩ | ⟨q', g1, g2, g3, g4⟩
  · rw [g1] at h1; cases h1
  · rw [g1] at h1; cases h1
    exact ⟨q, g4.1, g4, h2⟩
theorem env_ok (hN : 2000 ≤ N) (R : R_now X s c W sd m) (w : WY X y st W m ca wa s) (h10 : sk_r s y 10 = some (X + 14)) (hst : st < 1000000) : wy_env N y (X + 14) (lwVo (sk_r s (X + 14) 1)) (nxf W m ca wa) (tkf W) s := by
  obtain ⟨w1, w2, w3, w4, w5, w6, w7, w8, w9, w10⟩ := w
  obtain ⟨r1, B, r3, r4, r5⟩ := id R
  have hwd := r3.2.1
  have ky := kind10 w2
  have z6 : lay_X6 (sk_K s) (sk_r s) (X + 14) = true := ly_X7_l1 (ly_X11_l3 r1)
  have dis : ∀ b k, lwVo (sk_r s (X + 14) 1) b k → ¬ (y ≤ b ∧ b ≤ y + 7) ∧ X + 38 ≤ b := fun b k hb => by
    obtain ⟨q, l3, _, hv⟩ := lwVo_law R hb
    obtain ⟨_, _, k4, _, h38⟩ := quiet_law B l3
    refine ⟨fun hy => ?_, by rcases hv with e | e <;> omega⟩
    have : ∃ i, i < 6 ∧ b = q + i := by
      rcases hv with e | e
      · exact ⟨5, by decide, e⟩
      · exact ⟨0, by decide, e.1⟩
    obtain ⟨i, hi, e⟩ := this
    have := bk_apart B (p := q) (q := y) (i := i) (j := b - y) (by rw [k4]; decide) (by rw [ky]; decide) (by rw [k4]; exact hi) (by rw [ky]; show _ < 8; omega) (by omega)
    subst this
    rw [k4] at ky; cases ky
  refine ⟨w2, h10, z6, fun v o hv ho => mv_s_lt hv, fun o ho => ?_, fun o ho => ?_, ⟨st, w5, by omega, w4⟩, fun k => ?_, fun b k hb => (dis b k hb).1, hN, fun s1 F v o hv ho => ?_⟩
  · have hm := wy_mv_lt o ho
    have := wd_mv hwd (mv := wy_mv o) (by omega)
    exact ⟨this.2.2.2.1, this.2.2.2.2⟩
  · have hm := wy_mv_lt o ho
    have := r3.2.2.2.1 (4 * wy_mv o + 3) (by omega)
    rw [show X + 14 + 1 = X + 12 + 3 by omega, this]
    unfold tkf
    congr 2; omega
  · rintro (h | h | h)
    · omega
    · omega
    · have := (dis _ _ h).2; omega
  · have hm := wy_mv_lt o ho
    rw [wy_mv_eq o ho, o_and1 o ho, w6, w7]
    have c15 : ∀ k, sk_c s1 (X + 14 + 1) k = sk_c s (X + 14 + 1) k := fun k => F.2.2.2.2.2 _ _ (by
      rintro (h | h | h)
      · omega
      · omega
      · have := (dis _ _ h).2; omega)
    have L1 : cl_law s1 (sk_r s1 (X + 14) 1) m := by
      rw [F.2.2.1]
      rcases lw_cl r5 with h | ⟨q, h, hq⟩
      · exact .inl h
      · obtain ⟨q1, q2, k4, hq6, h38⟩ := quiet_law B hq.1
        refine .inr ⟨q, h, lwC_fr hq B.2.2.1 hq6 (fun k => ?_) (fun i k h1 h2 => ?_) (sfr.of F)⟩
        · rintro (g | g | g)
          · exfalso
            have := bk_apart B (p := q) (q := y) (i := 0) (j := q - y) (by rw [k4]; decide) (by rw [ky]; decide) (by rw [k4]; decide) (by rw [ky]; show _ < 8; omega) (by omega)
            omega
          · exfalso; rw [g.1, ky] at k4; omega
          · obtain ⟨q', e1, e2⟩ := g
            rw [h] at e1; cases e1
            rcases e2 with e2 | e2
            · omega
            · exact e2.2
        · rintro (g | g | g)
          · have := bk_apart B (p := q) (q := y) (i := i) (j := q + i - y) (by rw [k4]; decide) (by rw [ky]; decide) (by rw [k4]; show _ < 6; omega) (by rw [ky]; show _ < 8; omega) (by omega)
            subst this; rw [k4] at ky; cases ky
          · have := bk_apart B (p := q) (q := y) (i := i) (j := 0) (by rw [k4]; decide) (by rw [ky]; decide) (by rw [k4]; show _ < 6; omega) (by rw [ky]; decide) (by omega)
            subst this; rw [k4] at ky; cases ky
          · obtain ⟨q', e1, e2⟩ := g
            rw [h] at e1; cases e1
            rcases e2 with e2 | e2 <;> omega
    have hw := wd_mv hwd (mv := wy_mv o) (by omega)
    obtain ⟨s2, k1, k2⟩ := cl_after (N := N) (z := X + 14) (s := s1) (W := W) (m := m) (v := v) (mv := wy_mv o) (lg := o % 2) (ca := ca) (wa := wa) (by omega) (by rw [F.1, F.2.2.1]; exact z6) L1 hv (by omega) (by omega) w8 w9 (fun i hi => by
      rw [c15, show X + 14 + 1 = X + 12 + 3 by omega, r3.2.2.2.1 (4 * wy_mv o + i) (by omega)]
      refine ⟨rfl, ?_⟩
      have : i = 0 ∨ i = 1 ∨ i = 2 := by omega
      rcases this with rfl | rfl | rfl
      · exact hw.1
      · rw [show 17 + (4 * wy_mv o + 1) = 18 + 4 * wy_mv o by omega]; exact hw.2.1
      · rw [show 17 + (4 * wy_mv o + 2) = 19 + 4 * wy_mv o by omega]; omega)
    refine ⟨s2, ?_, ?_⟩
    · rw [k1]
      have : mv_s W m ca wa (wy_mv o) (o % 2) v = nxf W m ca wa v o := by
        unfold nxf lg_o
        by_cases h : o < 10
        · rw [if_pos h]
        · rw [if_neg h]
          refine mv_s_none ?_
          unfold wy_mv; rw [if_neg h]; omega
      rw [this]
    · rw [F.2.2.1] at k2; exact k2
theorem wyV_quiet (R : R_now X s c W sd m) (w : WY X y st W m ca wa s) {b k : Nat} (h : wy_V y (lwVo (sk_r s (X + 14) 1)) b k) : quiet X s b k := by
  have ky := kind10 w.2.1
  rcases h with h | h | h
  · exact .inr (.inr (.inr (.inr (.inr (.inr ⟨y, ky, by omega, h.2⟩)))))
  · exact .inr (.inr (.inr (.inr (.inr (.inr ⟨y, ky, by omega, by omega⟩)))))
  · obtain ⟨q, l3, _, hv⟩ := lwVo_law R h
    have k4 := (quiet_law R.2.1 l3).2.2.1
    rcases hv with e | e
    · exact .inr (.inr (.inr (.inr (.inr (.inl ⟨q, e, k4⟩)))))
    · exact .inr (.inr (.inr (.inr (.inl ⟨by rw [e.1]; exact k4, e.2⟩))))
/-- sizes behind a question -/
def szq (X : Nat) (s s' : sk_S) : Prop := ((sk_r s X 9 ≠ none ∧ sk_n s' = sk_n s ∧ sk_m s' = sk_m s) ∨ (sk_r s X 9 = none ∧ sk_n s' ≤ sk_n s + 8 ∧ sk_m s' ≤ sk_m s + 20444)) ∧ sk_r s' X 9 ≠ none
theorem szq.tr {s1 s2 : sk_S} (h : szq X s s1) (h' : szq X s1 s2) : szq X s s2 := by
  obtain ⟨h1, h2⟩ := h
  obtain ⟨g1, g2⟩ := h'
  rcases g1 with ⟨_, a, b⟩ | ⟨a, _⟩
  · refine ⟨?_, g2⟩
    rw [a, b]; exact h1
  · exact absurd a h2
theorem szq.sz (h : szq X s s') (H : R_sz X j s) : R_sz X (j + 1) s' := by
  obtain ⟨h1, h2⟩ := h
  unfold R_sz at H ⊢
  rw [if_neg h2]
  rcases h1 with ⟨a, b, c⟩ | ⟨a, b, c⟩
  · rw [if_neg a] at H; omega
  · rw [if_pos a] at H; omega
/-- everything as it is, the ways there, looked at by ca and wa -/
def QW (X y st : Nat) (s : sk_S) (c : Nat → Nat → Int32) (W : Nat → Nat) (sd : Int32) (m : lwM) (ca wa : Nat) : Prop := RA X s c W sd m ∧ WY X y st W m ca wa s ∧ sk_r s y 10 = some (X + 14)
theorem QW_way (Q : QW X y st s c W sd m ca wa) (h : st ≤ sb) : R_way X s W m sb := by
  obtain ⟨_, ⟨w1, w2, w3, w4, w5, w6, w7, w8, w9, w10⟩, _⟩ := Q
  exact .inr ⟨y, st, ca, wa, w1, w2, w3, w4, w5, h, w6, w7, w8, w9, w10⟩
/-- behind a search -/
theorem QW_cfr (Q : QW X y st s c W sd m ca wa) (F : cfr (wy_V y (lwVo (sk_r s (X + 14) 1))) s s') (hc : wy_ca y (nxf W m ca wa) s') : QW X y st s' c W sd m ca wa ∧ szq X s s' ∧ sfr (quiet X s) s s' := by
  obtain ⟨R, w, h10⟩ := Q
  have F' : sfr (quiet X s) s s' := (sfr.of F).mono (fun b k _ h => wyV_quiet R.1 w h)
  have B' : bks X (sk_K s') (sk_n s') := by rw [F.1, F.2.2.2.1]; exact R.1.2.1
  have hl := R.1.1
  obtain ⟨w1, w2, w3, w4, w5, w6, w7, w8, w9, w10⟩ := id w
  have B := R.1.2.1
  have ky := kind10 w2
  have nv : ∀ k, k = 9 ∨ k = 11 ∨ k = 12 → sk_c s' y k = sk_c s y k := fun k hk => F.2.2.2.2.2 y k (by
    rintro (h | h | h)
    · omega
    · omega
    · obtain ⟨q, l3, _, hv⟩ := lwVo_law R.1 h
      have k4 := (quiet_law B l3).2.2.1
      rcases hv with e | e
      · have := bk_apart B (p := q) (q := y) (i := 5) (j := 0) (by rw [k4]; decide) (by rw [ky]; decide) (by rw [k4]; decide) (by rw [ky]; decide) (by omega)
        omega
      · rw [e.1, k4] at ky; cases ky)
  refine ⟨⟨RA_quiet R B' F' ceq.rf, ⟨by rw [F.2.2.1]; exact w1, by rw [F.1, F.2.2.1]; exact w2, w3, (nv 9 (by omega)).trans w4, w5, (nv 11 (by omega)).trans w6, (nv 12 (by omega)).trans w7, w8, w9, hc⟩, by rw [F.2.2.1]; exact h10⟩, ⟨.inl ⟨by rw [w1]; simp, F.2.2.2.1, F.2.2.2.2.1⟩, by rw [F.2.2.1, w1]; simp⟩, F'⟩
theorem yfr_sfr {V : Nat → Nat → Prop} (h : yfr y s s') (hV : ∀ k, 9 ≤ k → k ≤ 12 → V y k) (ky : (sk_K s y).1 = 10) : sfr V s s' := by
  obtain ⟨h1, h2, h3, h4, h5, h6⟩ := h
  refine ⟨fun a _ => by rw [h1], by rw [h3]; exact Nat.le_refl _, fun a k _ hv => ⟨h6 a k (fun q => hv (by rw [q.1]; exact hV k (by omega) (by omega))), by rw [h2], h5 a k (fun q => hv (by rw [q.1]; exact hV k (by omega) (by omega)))⟩, fun a k _ hf => h5 a k (fun q => ?_)⟩
  rw [q.1, ky, q.2] at hf
  cases hf
theorem quiet_y (ky : (sk_K s y).1 = 10) {b k : Nat} (h1 : y ≤ b) (h2 : b ≤ y + 7) : quiet X s b k := .inr (.inr (.inr (.inr (.inr (.inr ⟨y, ky, h1, h2⟩)))))
theorem sfr.tr2 {V V' : Nat → Nat → Prop} {s1 s2 : sk_S} (h : sfr V s s1) (h' : sfr V' s1 s2) (hV : ∀ a k, a < sk_n s → V' a k → V a k) : sfr V s s2 := by
  have hn := h.2.1
  refine ⟨fun a ha => (h'.1 a (by omega)).trans (h.1 a ha), Nat.le_trans hn h'.2.1, fun a k ha hv => ?_, fun a k ha hf => (h'.2.2.2 a k (by omega) (by rw [h.1 a ha]; exact hf)).trans (h.2.2.2 a k ha hf)⟩
  obtain ⟨a1, a2, a3⟩ := h.2.2.1 a k ha hv
  obtain ⟨b1, b2, b3⟩ := h'.2.2.1 a k (by omega) (fun q => hv (hV a k ha q))
  exact ⟨b1.trans a1, b2.trans a2, b3.trans a3⟩
theorem quiet_back {s1 : sk_S} (hK : ∀ a, a < sk_n s → sk_K s1 a = sk_K s a) {a k : Nat} (ha : a < sk_n s) (h : quiet X s1 a k) : quiet X s a k := by
  rcases h with h | h | h | h | h | ⟨q, h1, h2⟩ | ⟨y, h1, h2, h3⟩
  · exact .inl h
  · exact .inr (.inl h)
  · exact .inr (.inr (.inl h))
  · exact .inr (.inr (.inr (.inl h)))
  · rw [hK a ha] at h; exact .inr (.inr (.inr (.inr (.inl h))))
  · rw [hK q (by omega)] at h2; exact .inr (.inr (.inr (.inr (.inr (.inl ⟨q, h1, h2⟩)))))
  · rw [hK y (by omega)] at h1; exact .inr (.inr (.inr (.inr (.inr (.inr ⟨y, h1, h2, h3⟩)))))
theorem sfr.trq {s1 s2 : sk_S} (h : sfr (quiet X s) s s1) (h' : sfr (quiet X s1) s1 s2) : sfr (quiet X s) s s2 := h.tr2 h' (fun _ _ ha q => quiet_back h.1 ha q)
/-- the ways that are new -/
theorem wi_new (B : bks X (sk_K s) (sk_n s)) (hX : (sk_K s X).1 = 11) {s1 : sk_S} (e : sk_wr (wi_s s) X 9 (some (sk_n s)) = s1) :
    sfr (quiet X s) s s1 ∧ bks X (sk_K s1) (sk_n s1) ∧ sk_r s1 X 9 = some (sk_n s) ∧ lay_X10 (sk_K s1) (sk_r s1) (sk_n s) = true ∧ sk_c s1 (sk_n s) 9 = 1 ∧ sk_c s1 (sk_n s) 11 = 0 ∧ sk_c s1 (sk_n s) 12 = 0 ∧ (∀ k, sk_c s1 (sk_n s + 1) k = 0) ∧ sk_n s1 = sk_n s + 8 ∧ sk_m s1 ≤ sk_m s + 20444 := by
  have hn := B.2.2.2
  have eK : sk_K s1 = sk_K (wi_s s) := by rw [← e, wr_K]
  have eC : sk_c s1 = sk_c (wi_s s) := by rw [← e, wr_c]
  have eN : sk_n s1 = sk_n s + 8 := by rw [← e, wr_n, wi_n]
  have r9 : sk_r s1 X 9 = some (sk_n s) := by rw [← e]; exact wr_same _ _ _ _
  have fin : ∀ b k, ¬ (b = X ∧ k = 9) → sk_r s1 b k = sk_r (wi_s s) b k := fun b k h => by rw [← e]; exact wr_at _ _ _ _ b k h
  obtain ⟨c9, c11, c12, cy⟩ := wi_c s
  obtain ⟨k0, k1, k2, k3, k4, k5, k6, k7, _⟩ := wi_K s
  obtain ⟨r0, r1, r2, r3, r4, r5, r6⟩ := wi_r s
  refine ⟨?_, ?_, r9, ?_, ?_, ?_, ?_, fun k => ?_, eN, ?_⟩
  · rw [← e]
    exact (wi_sfr s).wr _ (.inr (.inr (.inr (.inl ⟨rfl, rfl⟩)))) (.inr (by rw [hX]; rfl))
  · have := wi_bks B
    rw [wi_n] at this
    rw [eK, eN]; exact this
  · rw [eK]
    exact lay_X10_mk ⟨k0, (fin _ _ (by omega)).trans r0, k1, (fin _ _ (by omega)).trans r1, k2, (fin _ _ (by omega)).trans r2, k3, (fin _ _ (by omega)).trans r3, k4, (fin _ _ (by omega)).trans r4, k5, (fin _ _ (by omega)).trans r5, k6, (fin _ _ (by omega)).trans r6, k7⟩
  · rw [eC]; exact c9
  · rw [eC]; exact c11
  · rw [eC]; exact c12
  · rw [eC, cy]
  · rw [← e, wr_m]; exact wi_m s
/-- the ways by calm ca and water wa -/
theorem ww_ok (hN : 2000 ≤ N) (R : RA X s c W sd m) (Rw : R_way X s W m sb) (h1 : 1 ≤ sb) (hsb : sb < 900000) (b2 : ca ≤ 9) (b3 : wa ≤ 9) :
    ∃ s' y st', x11_waysWith N s X (nI ca) (nI wa) = some (s', y) ∧ QW X y st' s' c W sd m ca wa ∧ st' ≤ sb + 1 ∧ szq X s s' ∧ sfr (quiet X s) s s' := by
  have hl := R.1.1
  have B := R.1.2.1
  have z6 : lay_X6 (sk_K s) (sk_r s) (X + 14) = true := ly_X7_l1 (ly_X11_l3 hl)
  have hX : (sk_K s X).1 = 11 := by rw [ly_X11_c hl]
  have hn := B.2.2.2
  unfold x11_waysWith
  simp only [zq_letP]
  rw [if_pos hl]
  rcases Rw with hnone | ⟨y, st, ca0, wa0, w1, w2, w3, w4, w5, w6, w7, w8, w9, w10, w11⟩
  · rw [hnone]
    simp only [ky_om]
    rw [wi_eq]
    simp only [zq_bindP]
    generalize e : sk_wr (wi_s s) X 9 (some (sk_n s)) = s1
    obtain ⟨F0, B1, r9, ly, c9, c11, c12, cy, en, em⟩ := wi_new B hX e
    have R1 := RA_quiet R B1 F0 ceq.rf
    have z6' : lay_X6 (sk_K s1) (sk_r s1) (X + 14) = true := ly_X7_l1 (ly_X11_l3 R1.1.1)
    have hc : wy_ca (sk_n s) (nxf W m 0 0) s1 := fun v o hv ho => by
      rw [cy, c9]
      exact ⟨fun q => absurd q (by decide), 0, rfl, by decide⟩
    rw [r9]
    simp only [ky_om]
    rw [if_pos ly]
    obtain ⟨s2, st2, g1, g2, g3, g4, g5, g6, g7, g8, g9⟩ := lk_ok (N := N) (W := W) (st := 1) (ca := ca) (wa := wa) (by omega) ly z6' (lw_cl R1.1.2.2.2.2) c9 (by decide) c11 c12 (by decide) (by decide) b2 b3 hc
    rw [g1]
    simp only [zq_bindP]
    have r92 : sk_r s2 X 9 = some (sk_n s) := (g4.2.2.2.2.1 X 9 (by omega)).trans r9
    rw [r92]
    simp only [ky_om]
    have ky := kind10 ly
    have F2 : sfr (quiet X s1) s1 s2 := yfr_sfr g4 (fun k _ _ => quiet_y ky (Nat.le_refl _) (by omega)) ky
    have B2 : bks X (sk_K s2) (sk_n s2) := by rw [g4.1, g4.2.2.1]; exact B1
    have R2 := RA_quiet R1 B2 F2 ceq.rf
    have ly2 : lay_X10 (sk_K s2) (sk_r s2) (sk_n s) = true := lt_X10 (F2.fr B1.2.2.1) ly
    refine ⟨s2, sk_n s, st2, rfl, ⟨R2, ⟨r92, ly2, hn, g5, by omega, g6, g7, b2, b3, g9⟩, g8⟩, by omega, ⟨.inr ⟨hnone, ?_, ?_⟩, by rw [r92]; simp⟩, F0.trq F2⟩
    · rw [g4.2.2.1, en]; exact Nat.le_refl _
    · rw [g4.2.2.2.1]; exact em
  · rw [w1]
    simp only [ky_om]
    rw [if_pos w2]
    obtain ⟨s2, st2, g1, g2, g3, g4, g5, g6, g7, g8, g9⟩ := lk_ok (N := N) (W := W) (st := st) (ca := ca) (wa := wa) (by omega) w2 z6 (lw_cl R.1.2.2.2.2) w4 (by omega) w7 w8 w9 w10 b2 b3 w11
    rw [g1]
    simp only [zq_bindP]
    have ky := kind10 w2
    have r92 : sk_r s2 X 9 = some y := (g4.2.2.2.2.1 X 9 (by omega)).trans w1
    rw [r92]
    simp only [ky_om]
    have F2 : sfr (quiet X s) s s2 := yfr_sfr g4 (fun k _ _ => quiet_y ky (Nat.le_refl _) (by omega)) ky
    have B2 : bks X (sk_K s2) (sk_n s2) := by rw [g4.1, g4.2.2.1]; exact B
    exact ⟨s2, y, st2, rfl, ⟨RA_quiet R B2 F2 ceq.rf, ⟨r92, lt_X10 (F2.fr B.2.2.1) w2, w3, g5, by omega, g6, g7, b2, b3, g9⟩, g8⟩, by omega, ⟨.inl ⟨by rw [w1]; simp, g4.2.2.1, g4.2.2.2.1⟩, by rw [r92]; simp⟩, F2⟩
end
