/-! TOOLS FOR CALLS: what is thrown, what is in range; worth, stuck, deepest, move -/
theorem th_r (c : Nat → Nat → Int32) (x k : Int32) : md_throwsIf_r c x k = x := Eq.trans rfl rfl
theorem th_c0 (c : Nat → Nat → Int32) (k : Int32) : md_throwsIf_c c 0 k = c := by unfold md_throwsIf_c; rw [if_pos rfl]
theorem th_c1 (c : Nat → Nat → Int32) (k : Int32) : md_throwsIf_c c 1 k = bk_w c 0 0 k := by unfold md_throwsIf_c; rw [if_neg (by decide)]
theorem d10 : ((1 : Int32) = 0) = False := eq_false (by decide)
theorem d01 : ((0 : Int32) = 1) = False := eq_false (by decide)
theorem d00 : ((0 : Int32) = 0) = True := eq_true rfl
theorem d11 : ((1 : Int32) = 1) = True := eq_true rfl
/-- a number in its bounds, or out of them -/
theorem rngC (lo hi : Nat) (hh : hi < 2147483648) (hl : lo ≤ hi) (p : Int32) : (∃ n, lo ≤ n ∧ n ≤ hi ∧ p = nI n ∧ md_in p (nI lo) (nI hi) = 1) ∨ (md_in p (nI lo) (nI hi) = 0 ∧ (p < nI lo ∨ (¬ p < nI lo ∧ nI hi < p))) := by
  unfold md_in
  by_cases h1 : p < nI lo
  · rw [if_pos h1]; exact .inr ⟨rfl, .inl h1⟩
  · rw [if_neg h1]
    by_cases h2 : nI hi < p
    · rw [if_pos h2]; exact .inr ⟨rfl, .inr ⟨h1, h2⟩⟩
    · rw [if_neg h2]
      left
      have h3 : ¬ p < 0 := fun q => h1 (by
        rw [fa_lt] at q ⊢
        rw [nI_toInt (by omega)]
        have : (0 : Int32).toInt = 0 := rfl
        omega)
      obtain ⟨n, hn, rfl⟩ := nI_of h3
      rw [zq_lt (by omega) (by omega)] at h1 h2
      exact ⟨n, by omega, by omega, rfl, rfl⟩
theorem nlt_le {a b : Int32} (h : a < b) : ¬ b ≤ a := by rw [fa_lt] at h; rw [fa_le]; omega
section
variable {N X j : Nat} {s s' : sk_S} {c c' : Nat → Nat → Int32} {W : Nat → Nat} {sd : Int32} {m : lwM} {sb : Nat}
theorem RR_same (hj : j < 512) (Z : R_sz X j s) (R : RA X s c W sd m) (Rw : R_way X s W m (1 + 12 * j)) (C : ceq c c') : RR X (j + 1) s c' := by
  refine ⟨by omega, ?_, W, sd, m, RA_c R C, ?_⟩
  · unfold R_sz at Z ⊢; omega
  · rcases Rw with h | ⟨y, st, ca, wa, h1, h2, h3, h4, h5, h6, h7⟩
    · exact .inl h
    · exact .inr ⟨y, st, ca, wa, h1, h2, h3, h4, h5, by omega, h7⟩
theorem RR_thr (hj : j < 512) (Z : R_sz X j s) (R : RA X s c W sd m) (Rw : R_way X s W m (1 + 12 * j)) (C : ceq c c') : RR X (j + 1) (sk_rs s 6) c' := by
  refine ⟨by omega, ?_, W, sd, m, RA_quiet R (bks_rs R.1.2.1 6) (sfr.rf.rs 6) C, ?_⟩
  · have e1 : sk_n (sk_rs s 6) = sk_n s + 1 := rfl
    have e2 : sk_m (sk_rs s 6) = sk_m s + 6 := rfl
    have e3 : sk_r (sk_rs s 6) X 9 = sk_r s X 9 := rfl
    unfold R_sz at Z ⊢
    rw [e1, e2, e3]; omega
  · exact R_way_fr (V := fun _ _ => False) Rw R.1.2.1 (sfr.rf.rs 6) (fun h => h) (fun _ _ _ _ => ⟨fun h => h, fun h => h⟩) (by omega) (fun _ _ => rfl)
/-- a thrown call: what was thrown stands in the reference -/
theorem thr_ceq (k : Int32) : ceq c (bk_w (bk_w c 0 0 0) 0 0 k) := (ceq.rf.w _ (by unfold cfree; omega)).w _ (by unfold cfree; omega)
theorem nxf_low {W W' : Nat → Nat} (h : ∀ k, 17 ≤ k → W' k = W k) (m : lwM) (ca wa : Nat) : nxf W' m ca wa = nxf W m ca wa ∧ tkf W' = tkf W := by
  refine ⟨?_, ?_⟩
  · funext v o
    simp only [nxf, mv_s, mv_r, h (17 + 4 * wy_mv o) (by omega), h (18 + 4 * wy_mv o) (by omega), h (19 + 4 * wy_mv o) (by omega)]
  · funext o
    exact h _ (by omega)
theorem rwd_set (R : rwd c W sd m) {k v : Nat} (hk : k < 549) (h16 : k ≠ 16) (h14 : k ≠ 14) (hw : wd (ndS W k v)) : rwd (bk_w c 1 k (nI v)) (ndS W k v) sd m := by
  obtain ⟨r1, r2, r3⟩ := R
  refine ⟨⟨fun q hq hn => ?_, ?_⟩, hw, ?_⟩
  · unfold ndS
    by_cases e : q = k
    · subst e; rw [if_pos rfl, bk_w_same]
    · rw [if_neg e, bk_w_at e]; exact r1.1 q hq hn
  · rw [bk_w_at (Ne.symm h16)]; exact r1.2
  · unfold ref_law
    have e : (fun q => bk_w c 1 k (nI v) 1 (549 + q)) = fun q => c 1 (549 + q) := funext fun q => bk_w_at (by omega)
    rw [bk_w_at (Ne.symm h14), e]
    exact r3
/-- the two soonest that worth compares, in the reference -/
theorem wo_ref (hN : 2000000000 ≤ N) (R : rwd c W sd m) {k v : Nat} (hk : k < 6) (hw : wd (ndS W k v)) :
    ∃ c2 c3 nd nd', md_soonestBy N c 127 = some (c2, nI (nd (psN W))) ∧ md_soonestBy N (bk_w c2 1 k (nI v)) 127 = some (c3, nI (nd' (psN (ndS W k v)))) ∧ ceq c (bk_w c3 1 k (nI (W k))) ∧ c3 0 0 = c 0 0 ∧ nd (psN W) ≤ 1000000 ∧ nd' (psN (ndS W k v)) ≤ 1000000 ∧ gp_need (nxf W m (W 4) (W 5)) (tkf W) (okf 127) nd ∧ gp_need (nxf W m (ndS W k v 4) (ndS W k v 5)) (tkf W) (okf 127) nd' := by
  obtain ⟨c2, nd, b1, b2, b3, b4, b5⟩ := rf_soonBy (set := 127) (ok := okf 127) hN R (fun o ho => has_isIn 127 ho)
  have R2 := rwd_set (rwd_k R b2.c1) (k := k) (v := v) (by omega) (by omega) (by omega) hw
  obtain ⟨c3, nd', d1, d2, d3, d4, d5⟩ := rf_soonBy (set := 127) (ok := okf 127) hN R2 (fun o ho => has_isIn 127 ho)
  obtain ⟨e1, e2⟩ := nxf_low (W := W) (W' := ndS W k v) (fun q hq => by unfold ndS; rw [if_neg (by omega)]) m (ndS W k v 4) (ndS W k v 5)
  rw [e1, e2] at d4
  refine ⟨c2, c3, nd, nd', b1, d1, ?_, ?_, (b3 _ (psN_lt R.2.1)).2, (d3 _ (psN_lt hw)).2, b4, d4⟩
  · have hk1 : ∀ q, c3 1 q = bk_w c2 1 k (nI v) 1 q := fun q => by rw [d2.c1]
    have ne : ∀ q, q ≠ 0 → q ≠ 1 → q ≠ 8 → q ≠ 9 → q ≠ 10 → q ≠ 11 → bk_w c3 1 k (nI (W k)) q = c q := fun q h0 h1 h8 h9 h10 h11 => by
      rw [bk_w_ne h1, d2.1 q h0 h8 h9 h10 h11, bk_w_ne h1, b2.1 q h0 h8 h9 h10 h11]
    have n0 : ∀ q, q ≠ 19 → q ≠ 20 → bk_w c3 1 k (nI (W k)) 0 q = c 0 q := fun q h1 h2 => by
      rw [bk_w_ne (by decide), d2.2 q h1 h2, bk_w_ne (by decide), b2.2 q h1 h2]
    refine ⟨fun q hq => ?_, fun q _ => by rw [ne 2 (by decide) (by decide) (by decide) (by decide) (by decide) (by decide)], fun q _ => by rw [ne 5 (by decide) (by decide) (by decide) (by decide) (by decide) (by decide)], n0 6 (by decide) (by decide), n0 7 (by decide) (by decide), n0 9 (by decide) (by decide), n0 14 (by decide) (by decide), fun q _ => by rw [ne 6 (by decide) (by decide) (by decide) (by decide) (by decide) (by decide)]⟩
    by_cases e : q = k
    · subst e; rw [bk_w_same]; exact (R.1.1 q (by omega) (by omega)).symm
    · rw [bk_w_at e, hk1, bk_w_at e, b2.c1]
  · rw [d2.2 0 (by decide) (by decide), bk_w_ne (by decide), b2.2 0 (by decide) (by decide)]
theorem wd_3 (h : wd W) : wd (ndS W 3 1) ∧ wd (ndS W 4 (min 9 (W 4 + 1))) ∧ wd (ndS W 5 (min 9 (W 5 + 1))) := by
  obtain ⟨⟨h0, h1, h2, h3, h4, h5, h6, h7, h8, h9, h10, h11, h12, h13, h14, h15⟩, a, b, d, e⟩ := h
  have nn : ∀ (k v q : Nat), k ≤ 5 → 12 ≤ q → ndS W k v q = W q := fun k v q h1 h2 => by unfold ndS; rw [if_neg (by omega)]
  have gen : ∀ k v : Nat, k ≤ 5 → (ndS W k v 0 ≤ 9 ∧ ndS W k v 1 ≤ 9 ∧ ndS W k v 2 ≤ 5 ∧ ndS W k v 3 ≤ 1 ∧ ndS W k v 4 ≤ 9 ∧ ndS W k v 5 ≤ 9) → wd (ndS W k v) := fun k v hk hh => by
    have o : ∀ q, 6 ≤ q → ndS W k v q = W q := fun q hq => by unfold ndS; rw [if_neg (by omega)]
    refine ⟨⟨hh.1, hh.2.1, hh.2.2.1, hh.2.2.2.1, hh.2.2.2.2.1, hh.2.2.2.2.2, ?_, ?_, ?_, ?_, ?_, ?_, ?_, ?_, ?_, ?_⟩, fun q hq => ?_, fun q hq => ?_, fun q hq => ?_, fun q hq => ?_⟩
    · rw [o 6 (by omega)]; exact h6
    · rw [o 7 (by omega)]; exact h7
    · rw [o 8 (by omega)]; exact h8
    · rw [o 9 (by omega)]; exact h9
    · rw [o 10 (by omega)]; exact h10
    · rw [o 11 (by omega)]; exact h11
    · rw [o 12 (by omega)]; exact h12
    · rw [o 13 (by omega)]; exact h13
    · rw [o 14 (by omega)]; exact h14
    · rw [o 15 (by omega)]; exact h15
    · rw [o _ (by omega), o _ (by omega), o _ (by omega), o _ (by omega)]; exact a q hq
    · rw [o _ (by omega), o _ (by omega), o _ (by omega)]; exact b q hq
    · rw [o _ (by omega), o _ (by omega), o 12 (by omega)]; exact d q hq
    · rw [o _ (by omega), o _ (by omega), o _ (by omega), o _ (by omega), o _ (by omega)]; exact e q hq
  refine ⟨gen 3 1 (by decide) ?_, gen 4 _ (by decide) ?_, gen 5 _ (by decide) ?_⟩ <;> (unfold ndS; simp; omega)
theorem wo_ans {r1 r2 : Int32} {a b : Nat} (h1 : (r1 = -1 ∧ 1000000 ≤ a) ∨ (r1 = nI a ∧ a ≤ 36000)) (h2 : (r2 = -1 ∧ 1000000 ≤ b) ∨ (r2 = nI b ∧ b ≤ 36000)) (ha : a ≤ 1000000) (hb : b ≤ 1000000) (f : sk_S → Int32 → Option (sk_S × ky_RS)) (g : Int32 → Option ((Nat → Nat → Int32) × Int32)) : ∃ v, (if r1 = (-1 : Int32) then f s' (-99) else (if r2 = (-1 : Int32) then f s' (-99) else f s' (r1 - r2))) = f s' v ∧ (if (1000000 : Int32) ≤ nI a then g (-99) else (if nI b < (1000000 : Int32) then g (nI a - nI b) else g (-99))) = g v := by
  have la : ((1000000 : Int32) ≤ nI a) = (1000000 ≤ a) := zq_le (a := 1000000) (by decide) (by omega)
  have lb : (nI b < (1000000 : Int32)) = (b < 1000000) := zq_lt (b := 1000000) (by omega) (by decide)
  simp only [la, lb]
  rcases h1 with ⟨e1, e2⟩ | ⟨e1, e2⟩
  · exact ⟨-99, by rw [if_pos e1], by rw [if_pos e2]⟩
  · have ne1 : ¬ r1 = -1 := by rw [e1]; exact zq_m1 (by omega)
    rcases h2 with ⟨e3, e4⟩ | ⟨e3, e4⟩
    · exact ⟨-99, by rw [if_neg ne1, if_pos e3], by rw [if_neg (show ¬ 1000000 ≤ a by omega), if_neg (show ¬ b < 1000000 by omega)]⟩
    · refine ⟨nI a - nI b, ?_, by rw [if_neg (show ¬ 1000000 ≤ a by omega), if_pos (show b < 1000000 by omega)]⟩
      rw [if_neg ne1, if_neg (show ¬ r2 = -1 by rw [e3]; exact zq_m1 (by omega)), e1, e3]
theorem po_lyB {v : Nat} (hv : v < 1200) : po_lyingBack (nI v) = nI (2 * (v / 2) + 1) := by
  show nI v ||| nI 1 = _
  rw [fa_or, nt_or1]
set_option maxRecDepth 20000 in
set_option maxHeartbeats 4000000 in
theorem sm_worth_ok (hN : 2000000000 ≤ N) : sm_worth X N (RR X) := by
  intro j s c hj ⟨_, Z, W, sd, m, R, Rw⟩ p1
  have hps := psN_lt R.1.2.2.1.2.1
  have hwd := R.1.2.2.1.2.1
  have R0 := rwd_0 R
  rcases rngC 0 2 (by decide) (by decide) p1 with ⟨n, _, hn, rfl, hin⟩ | ⟨hin, hout⟩
  · have hin' : md_in (nI n) 0 2 = 1 := hin
    obtain ⟨c0, -⟩ := R_calm R.1
    obtain ⟨s1, r1, a1, a2, a3, a4, a5⟩ := mo_ok (N := N) (set := 127) (by omega) R Rw (by omega) (by omega) hps
    have n3 : n = 0 ∨ n = 1 ∨ n = 2 := by omega
    have le2 : nI n ≤ (2 : Int32) := by show nI n ≤ nI 2; rw [zq_le (by omega) (by decide)]; omega
    have ge0 : ¬ nI n < (0 : Int32) := nI_pos (by omega)
    obtain ⟨w3, w4, w5⟩ := wd_3 hwd
    rcases n3 with rfl | rfl | rfl
    · obtain ⟨c2, c3, nd, nd', u1, u2, u3, u4, u5, u6, u7, u8⟩ := wo_ref (k := 3) (v := 1) hN R0 (by decide) w3
      have hps' : psN (ndS W 3 1) = 2 * (psN W / 2) + 1 := by
        have := hwd.1.2.2.2.1
        unfold psN ndS; simp; omega
      obtain ⟨s2, r2, b1, b2, b3, b4, b5⟩ := mo_ok (N := N) (set := 127) (v := 2 * (psN W / 2) + 1) (by omega) a2 a3 (by omega) (by omega) (by omega)
      have e1 := gp_same nx_lt u7 hps a5
      have e2 := gp_same nx_lt u8 (psN_lt w3) (by rw [hps']; exact b5)
      obtain ⟨v, v1, v2⟩ := wo_ans (s' := s2) e1 e2 u5 u6 (fun q v => some (q, .inl (some (.int v)))) (fun v => some (bk_w c3 1 3 (nI (W 3)), v))
      refine ⟨s2, bk_w c3 1 3 (nI (W 3)), .inl (some (.int v)), v, ?_, ?_, .inl ⟨rfl, ?_⟩, RR_mk hj Z (a4.tr b4) (RA_c b2 (ceq_0.tr u3)) b3 (by omega)⟩
      · unfold x11_worth
        rw [if_pos R.1.1, if_neg ge0, if_pos le2, c0, a1]
        simp only [zq_bindP]
        rw [if_pos (by decide), (R_calm a2.1).1, po_lyB hps, b1]
        simp only [zq_bindP]
        exact v1
      · have q3 : bk_w c 0 0 0 1 3 = nI (W 3) := wv_n R0.1 (by decide) (by decide)
        have z0 : (nI 0 = (0 : Int32)) = True := eq_true rfl
        simp only [md_worth, zq_letP, hin', d10, th_r, th_c0, z0, ↓reduceIte, q3, u1, zq_bindP]
        rw [show (1 : Int32) = nI 1 from rfl, u2]
        simp only [zq_bindP]
        exact v2
      · rw [bk_w_ne (by decide), u4, bk_w_same]
    · obtain ⟨c2, c3, nd, nd', u1, u2, u3, u4, u5, u6, u7, u8⟩ := wo_ref (k := 4) (v := min 9 (W 4 + 1)) hN R0 (by decide) w4
      have k4 : ndS W 4 (min 9 (W 4 + 1)) 4 = min 9 (W 4 + 1) ∧ ndS W 4 (min 9 (W 4 + 1)) 5 = W 5 ∧ psN (ndS W 4 (min 9 (W 4 + 1))) = psN W := by
        refine ⟨by simp [ndS], by simp [ndS], by simp [psN, ndS]⟩
      obtain ⟨_, d4, d5, _, _, _, _, _, b4', b5'⟩ := R_calm a2.1
      obtain ⟨s2, r2, b1, b2, b3, b4, b5⟩ := mow_ok (N := N) (ca := min 9 (W 4 + 1)) (wa := W 5) (by omega) a2 a3 (by omega) (by omega) (by omega) b5'
      rw [k4.1, k4.2.1] at u8
      rw [k4.2.2] at u2 u6
      have e1 := gp_same nx_lt u7 hps a5
      have e2 := gp_same nx_lt u8 hps b5
      obtain ⟨v, v1, v2⟩ := wo_ans (s' := s2) e1 e2 u5 u6 (fun q v => some (q, .inl (some (.int v)))) (fun v => some (bk_w c3 1 4 (nI (W 4)), v))
      have om : bo_oneMore (nI (W 4)) = nI (min 9 (W 4 + 1)) := by
        unfold bo_oneMore
        rw [nI_1]
        exact zq_min (x := 9) (by decide) (by omega)
      refine ⟨s2, bk_w c3 1 4 (nI (W 4)), .inl (some (.int v)), v, ?_, ?_, .inl ⟨rfl, ?_⟩, RR_mk hj Z (a4.tr b4) (RA_c b2 (ceq_0.tr u3)) b3 (by omega)⟩
      · unfold x11_worth
        rw [if_pos R.1.1, if_neg ge0, if_pos le2, c0, a1]
        simp only [zq_bindP]
        rw [if_neg (by decide), if_pos (by decide), d4, d5, om, b1]
        simp only [zq_bindP]
        exact v1
      · have q3 : bk_w c 0 0 0 1 4 = nI (W 4) := wv_n R0.1 (by decide) (by decide)
        have z0 : (nI 1 = (0 : Int32)) = False := eq_false (by decide)
        have z1 : (nI 1 = (1 : Int32)) = True := eq_true rfl
        have om' : mt_min 9 (nI (W 4) + 1) = nI (min 9 (W 4 + 1)) := om
        simp only [md_worth, zq_letP, hin', d10, th_r, th_c0, z0, z1, ↓reduceIte, q3, u1, zq_bindP, om', u2]
        exact v2
      · rw [bk_w_ne (by decide), u4, bk_w_same]
    · obtain ⟨c2, c3, nd, nd', u1, u2, u3, u4, u5, u6, u7, u8⟩ := wo_ref (k := 5) (v := min 9 (W 5 + 1)) hN R0 (by decide) w5
      have k4 : ndS W 5 (min 9 (W 5 + 1)) 5 = min 9 (W 5 + 1) ∧ ndS W 5 (min 9 (W 5 + 1)) 4 = W 4 ∧ psN (ndS W 5 (min 9 (W 5 + 1))) = psN W := by
        refine ⟨by simp [ndS], by simp [ndS], by simp [psN, ndS]⟩
      obtain ⟨_, d4, d5, _, _, _, _, _, b4', b5'⟩ := R_calm a2.1
      obtain ⟨s2, r2, b1, b2, b3, b4, b5⟩ := mow_ok (N := N) (ca := W 4) (wa := min 9 (W 5 + 1)) (by omega) a2 a3 (by omega) (by omega) b4' (by omega)
      rw [k4.1, k4.2.1] at u8
      rw [k4.2.2] at u2 u6
      have e1 := gp_same nx_lt u7 hps a5
      have e2 := gp_same nx_lt u8 hps b5
      obtain ⟨v, v1, v2⟩ := wo_ans (s' := s2) e1 e2 u5 u6 (fun q v => some (q, .inl (some (.int v)))) (fun v => some (bk_w c3 1 5 (nI (W 5)), v))
      have om : bo_oneMore (nI (W 5)) = nI (min 9 (W 5 + 1)) := by
        unfold bo_oneMore
        rw [nI_1]
        exact zq_min (x := 9) (by decide) (by omega)
      refine ⟨s2, bk_w c3 1 5 (nI (W 5)), .inl (some (.int v)), v, ?_, ?_, .inl ⟨rfl, ?_⟩, RR_mk hj Z (a4.tr b4) (RA_c b2 (ceq_0.tr u3)) b3 (by omega)⟩
      · unfold x11_worth
        rw [if_pos R.1.1, if_neg ge0, if_pos le2, c0, a1]
        simp only [zq_bindP]
        rw [if_neg (by decide), if_neg (by decide), d4, d5, om, b1]
        simp only [zq_bindP]
        exact v1
      · have q3 : bk_w c 0 0 0 1 5 = nI (W 5) := wv_n R0.1 (by decide) (by decide)
        have z0 : (nI 2 = (0 : Int32)) = False := eq_false (by decide)
        have z1 : (nI 2 = (1 : Int32)) = False := eq_false (by decide)
        have om' : mt_min 9 (nI (W 5) + 1) = nI (min 9 (W 5 + 1)) := om
        simp only [md_worth, zq_letP, hin', d10, th_r, th_c0, z0, z1, ↓reduceIte, q3, u1, zq_bindP, om', u2]
        exact v2
      · rw [bk_w_ne (by decide), u4, bk_w_same]
  · have hin' : md_in p1 0 2 = 0 := hin
    refine ⟨sk_rs s 6, bk_w (bk_w c 0 0 0) 0 0 1, _, 0, ?_, ?_, .inr ⟨rfl, bk_w_same _ _ _ _⟩, RR_thr hj Z R Rw (thr_ceq 1)⟩
    · unfold x11_worth
      rw [if_pos R.1.1]
      rcases hout with h | ⟨h1, h2⟩
      · rw [if_pos (show p1 < 0 from h)]
      · rw [if_neg (show ¬ p1 < 0 from h1), if_neg (nlt_le (show (2 : Int32) < p1 from h2))]
    · simp only [md_worth, zq_letP, hin', th_r, th_c1, d10, ↓reduceIte]
end
