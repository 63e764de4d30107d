/-! CALLS: stuck, deepest, move -/
section
variable {N X j : Nat} {s s' : sk_S} {c c' : Nat → Nat → Int32} {W : Nat → Nat} {sd : Int32} {m : lwM} {sb : Nat}
theorem psN_un (h : wd W) : psN W / 120 = W 0 ∧ psN W / 12 % 10 = W 1 ∧ psN W / 2 % 6 = W 2 ∧ psN W % 2 = W 3 := ps4_un h.1.2.1 h.1.2.2.1 h.1.2.2.2.1
theorem po_wthN {v t : Nat} (hv : v < 1200) : po_withThin (nI v) (nI t) = nI (ps4 (v / 120) (v / 12 % 10) t (v % 2)) := by
  unfold po_withThin
  rw [po_d0N hv, po_d1N hv, po_lyN hv, po_ofN]
theorem po_wdpN {v a b : Nat} (hv : v < 1200) : po_withDepths (nI v) (nI a) (nI b) = nI (ps4 a b (v / 2 % 6) (v % 2)) := by
  unfold po_withDepths
  rw [po_thN hv, po_lyN hv, po_ofN]
theorem ps4_lt {a b t l : Nat} (h0 : a ≤ 9) (h1 : b ≤ 9) (h2 : t ≤ 5) (h3 : l ≤ 1) : ps4 a b t l < 1200 := by unfold ps4; omega
/-- the reference's rows stay, only what is looked at changes -/
def rk (c0 c : Nat → Nat → Int32) : Prop := (∀ q, q ≠ 0 → q ≠ 9 → c q = c0 q) ∧ ∀ q, q ≠ 19 → q ≠ 20 → c 0 q = c0 0 q
theorem rk.ceq {c0 c : Nat → Nat → Int32} (h : rk c0 c) : ceq c0 c :=
  ⟨fun k _ => by rw [h.1 1 (by decide) (by decide)], fun k _ => by rw [h.1 2 (by decide) (by decide)], fun k _ => by rw [h.1 5 (by decide) (by decide)], h.2 6 (by decide) (by decide), h.2 7 (by decide) (by decide), h.2 9 (by decide) (by decide), h.2 14 (by decide) (by decide), fun k _ => by rw [h.1 6 (by decide) (by decide)]⟩
theorem looks_rk (R : rwd c W sd m) : dpt (md_looks_c c) (W 0) (W 1) (W 2) (W 3) ∧ rk c (md_looks_c c) := by
  obtain ⟨l1, l2, l3, l4⟩ := rw_looks R
  refine ⟨l1, fun q h0 h9 => ?_, l2.2⟩
  by_cases h8 : q = 8
  · subst h8
    unfold md_looks_c
    split <;> (rw [bk_w_ne (by decide), bk_w_ne (by decide), bk_w_ne (by decide), bk_w_ne (by decide)])
  · by_cases h10 : q = 10
    · subst h10; exact l3
    · by_cases h11 : q = 11
      · subst h11; exact l4
      · exact l2.1 q h0 h8 h9 h10 h11
theorem st_loop {nd : Nat → Nat} {c0 : Nat → Nat → Int32} (hN : 40000 ≤ N) (R0 : rwd c0 W sd m) (D : ndv c0 nd) (Nd : gp_need (nxf W m (W 4) (W 5)) (tkf W) (okf 127) nd) :
    ∀ (r f1 f2 t : Nat) (s : sk_S) (c cr : Nat → Nat → Int32) (b : Int32) (sb : Nat), t + r = 6 → r < f1 → r < f2 → RA X s cr W sd m → R_way X s W m sb → 1 ≤ sb → sb + r < 900000 → (sk_r s X 9 = none → t = 0) → rk c0 c →
    ∃ s' c' b', x11_stuck_L4 N X (fun q2 x3 x4 => (some (q2, x3))) f1 s b (nI t) = some (s', b') ∧ md_stuck_L16 N (fun q8 x9 x10 => (some (q8, x9))) f2 c b (nI t) = some (c', b') ∧ RA X s' cr W sd m ∧ R_way X s' W m (sb + r) ∧ (r = 0 → s' = s) ∧ (0 < r → szq X s s') ∧ rk c0 c' := by
  intro r
  induction r with
  | zero =>
    intro f1 f2 t s c cr b sb ht hf1 hf2 R Rw h1 h2 hz hc
    obtain ⟨f1, rfl⟩ : ∃ q, f1 = q + 1 := ⟨f1 - 1, by omega⟩
    obtain ⟨f2, rfl⟩ : ∃ q, f2 = q + 1 := ⟨f2 - 1, by omega⟩
    have : t = 6 := by omega
    subst this
    simp only [x11_stuck_L4, md_stuck_L16]
    rw [if_pos (by decide), if_pos (by decide)]
    exact ⟨s, c, b, rfl, rfl, R, Rw, fun _ => rfl, fun h => by omega, hc⟩
  | succ r ih =>
    intro f1 f2 t s c cr b sb ht hf1 hf2 R Rw h1 h2 hz hc
    obtain ⟨f1, rfl⟩ : ∃ q, f1 = q + 1 := ⟨f1 - 1, by omega⟩
    obtain ⟨f2, rfl⟩ : ∃ q, f2 = q + 1 := ⟨f2 - 1, by omega⟩
    have hwd := R0.2.1
    have hps := psN_lt hwd
    obtain ⟨u0, u1, u2, u3⟩ := psN_un hwd
    have hl := ps4_lt (a := W 0) (b := W 1) (t := t) (l := W 3) hwd.1.1 hwd.1.2.1 (by omega) hwd.1.2.2.2.1
    obtain ⟨s1, r1, a1, a2, a3, a4, a5⟩ := mo_ok (N := N) (set := 127) (v := ps4 (W 0) (W 1) t (W 3)) hN R Rw h1 (by omega) hl
    have Rc : rwd c W sd m := rwd_k R0 (hc.1 1 (by decide) (by decide))
    obtain ⟨l1, l2⟩ := looks_rk Rc
    have hst : md_state_r (bk_w (md_looks_c c) 0 19 (nI t)) = nI (ps4 (W 0) (W 1) t (W 3)) := md_stateN (c := bk_w (md_looks_c c) 0 19 (nI t)) ⟨by rw [bk_w_ne (by decide)]; exact l1.1, by rw [bk_w_ne (by decide)]; exact l1.2.1, bk_w_same _ _ _ _, by rw [bk_w_at (by decide)]; exact l1.2.2.2⟩ hwd.1.2.2.2.1
    have hrk : rk c0 (bk_w (md_looks_c c) 0 19 (nI t)) := ⟨fun q h0 h9 => by rw [bk_w_ne h0, l2.1 q h0 h9, hc.1 q h0 h9], fun q h1 h2 => by rw [bk_w_at h1, l2.2 q h1 h2, hc.2 q h1 h2]⟩
    have h11 : (bk_w (md_looks_c c) 0 19 (nI t)) 11 (ps4 (W 0) (W 1) t (W 3)) = nI (nd (ps4 (W 0) (W 1) t (W 3))) := by rw [hrk.1 11 (by decide) (by decide)]; exact (D _ hl).1
    have hD := (D _ hl).2
    simp only [x11_stuck_L4, md_stuck_L16, zq_letP]
    rw [if_neg (by show ¬ nI 5 < nI t; rw [zq_lt (by decide) (by omega)]; omega), if_neg (by show ¬ nI 6 ≤ nI t; rw [zq_le (by decide) (by omega)]; omega), (R_calm R.1).1, po_wthN hps, u0, u1, u3, a1, hst, if_pos (zq_inBt hl (by decide)), zq_cl (by omega), h11]
    simp only [zq_bindP]
    rw [nI_1]
    have next : ∀ b2 : Int32, ∃ s' c' b', x11_stuck_L4 N X (fun q2 x3 x4 => (some (q2, x3))) f1 s1 b2 (nI (t + 1)) = some (s', b') ∧ md_stuck_L16 N (fun q8 x9 x10 => (some (q8, x9))) f2 (bk_w (md_looks_c c) 0 19 (nI t)) b2 (nI (t + 1)) = some (c', b') ∧ RA X s' cr W sd m ∧ R_way X s' W m (sb + (r + 1)) ∧ (r + 1 = 0 → s' = s) ∧ (0 < r + 1 → szq X s s') ∧ rk c0 c' := fun b2 => by
      obtain ⟨s', c', b', z1, z2, z3, z4, z5, z6, z7⟩ := ih f1 f2 (t + 1) s1 _ cr b2 (sb + 1) (by omega) (by omega) (by omega) a2 a3 (by omega) (by omega) (fun h => absurd h a4.2) hrk
      refine ⟨s', c', b', z1, z2, z3, by rw [show sb + (r + 1) = sb + 1 + r by omega]; exact z4, fun h => by omega, fun _ => ?_, z7⟩
      by_cases hr : r = 0
      · rw [z5 hr]; exact a4
      · exact a4.tr (z6 (by omega))
    rcases gp_same nx_lt Nd hl a5 with ⟨e1, e2⟩ | ⟨e1, e2⟩
    · rw [if_pos e1, if_neg (by show ¬ _ < nI 1000000; rw [zq_lt (by omega) (by decide)]; omega)]
      exact next _
    · rw [if_neg (by rw [e1]; exact zq_m1 (by omega)), if_pos (by show _ < nI 1000000; rw [zq_lt (by omega) (by decide)]; omega), Int32.or_zero]
      exact next _
theorem sm_stuck_ok (hN : 2000000000 ≤ N) : sm_stuck X N (RR X) := by
  intro j s c hj ⟨_, Z, W, sd, m, R, Rw⟩
  obtain ⟨c2, nd, b1, b2, b3, b4, b5⟩ := rf_soonBy (set := 127) (ok := okf 127) hN (rwd_0 R) (fun o ho => has_isIn 127 ho)
  have R2 : rwd c2 W sd m := rwd_k (rwd_0 R) b2.c1
  obtain ⟨s', c', b', z1, z2, z3, z4, z5, z6, z7⟩ := st_loop (N := N) (X := X) (by omega) R2 b3 b4 6 N N 0 s c2 c 0 (1 + 12 * j) (by omega) (by omega) (by omega) R Rw (by omega) (by omega) (fun _ => rfl) ⟨fun _ _ _ => rfl, fun _ _ _ => rfl⟩
  refine ⟨s', c', b', ?_, ?_, RR_mk hj Z (z6 (by omega)) (RA_c z3 ((ceq_0.tr b2.ceq).tr z7.ceq)) z4 (by omega)⟩
  · unfold x11_stuck
    rw [if_pos R.1.1]
    exact z1
  · unfold md_stuck
    simp only [zq_letP]
    rw [b1]
    simp only [zq_bindP]
    exact z2
/-! deepest -/
def dpf (P : Nat → Prop) [DecidablePred P] : Nat → Nat
  | 0 => 0
  | n + 1 => if P (n + 1) then n + 1 else dpf P n
theorem dp_ref {nd : Nat → Nat} {c0 : Nat → Nat → Int32} (R0 : rwd c0 W sd m) (D : ndv c0 nd) :
    ∀ (r f2 d : Nat) (c : Nat → Nat → Int32), d + r = 9 → r < f2 → rk c0 c →
    ∃ c', md_deepest_L16 N (fun q8 x9 x10 => (some (q8, x9))) f2 c (nI (dpf (fun d => nd (ps4 d d (W 2) (W 3)) < 1000000) d)) (nI (d + 1)) = some (c', nI (dpf (fun d => nd (ps4 d d (W 2) (W 3)) < 1000000) 9)) ∧ rk c0 c' := by
  intro r
  induction r with
  | zero =>
    intro f2 d c hd hf2 hc
    obtain ⟨f2, rfl⟩ : ∃ q, f2 = q + 1 := ⟨f2 - 1, by omega⟩
    have : d = 9 := by omega
    subst this
    simp only [md_deepest_L16]
    rw [if_pos (by decide)]
    exact ⟨c, rfl, hc⟩
  | succ r ih =>
    intro f2 d c hd hf2 hc
    obtain ⟨f2, rfl⟩ : ∃ q, f2 = q + 1 := ⟨f2 - 1, by omega⟩
    have hwd := R0.2.1
    have hl := ps4_lt (a := d + 1) (b := d + 1) (t := W 2) (l := W 3) (by omega) (by omega) hwd.1.2.2.1 hwd.1.2.2.2.1
    have Rc : rwd c W sd m := rwd_k R0 (hc.1 1 (by decide) (by decide))
    obtain ⟨l1, l2⟩ := looks_rk Rc
    have hst : md_state_r (bk_w (bk_w (md_looks_c c) 9 0 (nI (d + 1))) 9 1 (nI (d + 1))) = nI (ps4 (d + 1) (d + 1) (W 2) (W 3)) := md_stateN (c := bk_w (bk_w (md_looks_c c) 9 0 (nI (d + 1))) 9 1 (nI (d + 1))) ⟨by rw [bk_w_at (by decide), bk_w_same], bk_w_same _ _ _ _, by rw [bk_w_ne (by decide), bk_w_ne (by decide)]; exact l1.2.2.1, by rw [bk_w_ne (by decide), bk_w_ne (by decide)]; exact l1.2.2.2⟩ hwd.1.2.2.2.1
    have hrk : rk c0 (bk_w (bk_w (md_looks_c c) 9 0 (nI (d + 1))) 9 1 (nI (d + 1))) := ⟨fun q h0 h9 => by rw [bk_w_ne h9, bk_w_ne h9, l2.1 q h0 h9, hc.1 q h0 h9], fun q h1 h2 => by rw [bk_w_ne (by decide), bk_w_ne (by decide), l2.2 q h1 h2, hc.2 q h1 h2]⟩
    have h11 : (bk_w (bk_w (md_looks_c c) 9 0 (nI (d + 1))) 9 1 (nI (d + 1))) 11 (ps4 (d + 1) (d + 1) (W 2) (W 3)) = nI (nd (ps4 (d + 1) (d + 1) (W 2) (W 3))) := by rw [hrk.1 11 (by decide) (by decide)]; exact (D _ hl).1
    have hD := (D _ hl).2
    simp only [md_deepest_L16, zq_letP]
    rw [if_neg (by show ¬ nI 9 < nI (d + 1); rw [zq_lt (by decide) (by omega)]; omega), hst, if_pos (zq_inBt hl (by decide)), zq_cl (by omega), h11, nI_1]
    have hdp : dpf (fun d => nd (ps4 d d (W 2) (W 3)) < 1000000) (d + 1) = if nd (ps4 (d + 1) (d + 1) (W 2) (W 3)) < 1000000 then d + 1 else dpf (fun d => nd (ps4 d d (W 2) (W 3)) < 1000000) d := rfl
    by_cases h : nd (ps4 (d + 1) (d + 1) (W 2) (W 3)) < 1000000
    · rw [if_neg (by show ¬ nI 1000000 ≤ _; rw [zq_le (by decide) (by omega)]; omega)]
      rw [if_pos h] at hdp
      have := ih f2 (d + 1) _ (by omega) (by omega) hrk
      rw [hdp] at this
      exact this
    · rw [if_pos (by show nI 1000000 ≤ _; rw [zq_le (by decide) (by omega)]; omega)]
      rw [if_neg h] at hdp
      have := ih f2 (d + 1) _ (by omega) (by omega) hrk
      rw [hdp] at this
      exact this
theorem dp_cls {nd : Nat → Nat} (hN : 40000 ≤ N) (Nd : gp_need (nxf W m (W 4) (W 5)) (tkf W) (okf 127) nd) :
    ∀ (d f1 : Nat) (s : sk_S) (sb : Nat), d ≤ 9 → d < f1 → RA X s c W sd m → R_way X s W m sb → 1 ≤ sb → sb + d < 900000 →
    ∃ s', x11_deepest_L3 N X (fun q2 x3 => (some (q2, x3))) f1 s (nI d) = some (s', nI (dpf (fun d => nd (ps4 d d (W 2) (W 3)) < 1000000) d)) ∧ RA X s' c W sd m ∧ R_way X s' W m (sb + d) ∧ (d = 0 → s' = s) ∧ (0 < d → szq X s s') := by
  intro d
  induction d with
  | zero =>
    intro f1 s sb hd hf1 R Rw h1 h2
    obtain ⟨f1, rfl⟩ : ∃ q, f1 = q + 1 := ⟨f1 - 1, by omega⟩
    simp only [x11_deepest_L3]
    rw [if_pos (by decide)]
    exact ⟨s, rfl, R, Rw, fun _ => rfl, fun h => by omega⟩
  | succ d ih =>
    intro f1 s sb hd hf1 R Rw h1 h2
    obtain ⟨f1, rfl⟩ : ∃ q, f1 = q + 1 := ⟨f1 - 1, by omega⟩
    have hwd := R.1.2.2.1.2.1
    have hps := psN_lt hwd
    obtain ⟨u0, u1, u2, u3⟩ := psN_un hwd
    have hl := ps4_lt (a := d + 1) (b := d + 1) (t := W 2) (l := W 3) (by omega) (by omega) hwd.1.2.2.1 hwd.1.2.2.2.1
    obtain ⟨s1, r1, a1, a2, a3, a4, a5⟩ := mo_ok (N := N) (set := 127) (v := ps4 (d + 1) (d + 1) (W 2) (W 3)) hN R Rw h1 (by omega) hl
    have hdp : dpf (fun d => nd (ps4 d d (W 2) (W 3)) < 1000000) (d + 1) = if nd (ps4 (d + 1) (d + 1) (W 2) (W 3)) < 1000000 then d + 1 else dpf (fun d => nd (ps4 d d (W 2) (W 3)) < 1000000) d := rfl
    simp only [x11_deepest_L3, zq_letP]
    rw [if_neg (by show ¬ nI (d + 1) ≤ nI 0; rw [zq_le (by omega) (by decide)]; omega), (R_calm R.1).1, po_wdpN hps, u2, u3, a1]
    simp only [zq_bindP]
    rw [hdp]
    rcases gp_same nx_lt Nd hl a5 with ⟨e1, e2⟩ | ⟨e1, e2⟩
    · rw [if_pos e1, if_neg (by omega), pk_m1]
      obtain ⟨s', z1, z2, z3, z4, z5⟩ := ih f1 s1 (sb + 1) (by omega) (by omega) a2 a3 (by omega) (by omega)
      refine ⟨s', z1, z2, by rw [show sb + (d + 1) = sb + 1 + d by omega]; exact z3, fun h => by omega, fun _ => ?_⟩
      by_cases hr : d = 0
      · rw [z4 hr]; exact a4
      · exact a4.tr (z5 (by omega))
    · rw [if_neg (by rw [e1]; exact zq_m1 (by omega)), if_pos (by omega)]
      refine ⟨s1, rfl, a2, ?_, fun h => by omega, fun _ => a4⟩
      rcases a3 with h | ⟨y, st, ca, wa, k1, k2, k3, k4, k5, k6, k7⟩
      · exact .inl h
      · exact .inr ⟨y, st, ca, wa, k1, k2, k3, k4, k5, by omega, k7⟩
theorem sm_deepest_ok (hN : 2000000000 ≤ N) : sm_deepest X N (RR X) := by
  intro j s c hj ⟨_, Z, W, sd, m, R, Rw⟩
  obtain ⟨c2, nd, b1, b2, b3, b4, b5⟩ := rf_soonBy (set := 127) (ok := okf 127) hN (rwd_0 R) (fun o ho => has_isIn 127 ho)
  have R2 : rwd c2 W sd m := rwd_k (rwd_0 R) b2.c1
  obtain ⟨s', z1, z2, z3, z4, z5⟩ := dp_cls (N := N) (X := X) (by omega) b4 9 N s (1 + 12 * j) (by omega) (by omega) R Rw (by omega) (by omega)
  obtain ⟨c', y1, y2⟩ := dp_ref (N := N) R2 b3 9 N 0 c2 (by omega) (by omega) ⟨fun _ _ _ => rfl, fun _ _ _ => rfl⟩
  refine ⟨s', c', nI (dpf (fun d => nd (ps4 d d (W 2) (W 3)) < 1000000) 9), ?_, ?_, RR_mk hj Z (z5 (by omega)) (RA_c z2 ((ceq_0.tr b2.ceq).tr y2.ceq)) z3 (by omega)⟩
  · unfold x11_deepest
    rw [if_pos R.1.1]
    exact z1
  · unfold md_deepest
    simp only [zq_letP]
    rw [b1]
    simp only [zq_bindP]
    exact y1
/-! move -/
theorem mvC (p : Int32) : (∃ n, n ≤ 6 ∧ p = nI n ∧ ws_isMove p = 1 ∧ md_noMove p = 0) ∨ (ws_isMove p = 0 ∧ md_noMove p = 1) := by
  unfold ws_isMove md_noMove
  rcases rngC 0 6 (by decide) (by decide) p with ⟨n, _, hn, rfl, hin⟩ | ⟨hin, hout⟩
  · have hin' : md_in (nI n) 0 6 = 1 := hin
    left
    refine ⟨n, hn, rfl, ?_, by rw [hin', if_neg (by decide)]⟩
    rw [if_neg (nI_pos (by omega)), if_neg (by show ¬ nI 7 ≤ nI n; rw [zq_le (by decide) (by omega)]; omega)]
  · have hin' : md_in p 0 6 = 0 := hin
    right
    refine ⟨?_, by rw [hin', if_pos rfl]⟩
    rcases hout with h | ⟨h1, h2⟩
    · rw [if_pos (show p < 0 from h)]
    · rw [if_neg (show ¬ p < 0 from h1), if_pos]
      rw [fa_lt] at h2
      rw [fa_le]
      have e1 : (nI 6).toInt = 6 := by decide
      have e2 : (7 : Int32).toInt = 7 := by decide
      omega
set_option maxRecDepth 20000 in
set_option maxHeartbeats 4000000 in
theorem sm_move_ok (hN : 2000000000 ≤ N) : sm_move X N (RR X) := by
  intro j s c hj ⟨_, Z, W, sd, m, R, Rw⟩ p1 p2
  have hwd := R.1.2.2.1.2.1
  have hps := psN_lt hwd
  have R0 := rwd_0 R
  rcases mvC p1 with ⟨n, hn, rfl, m1, m2⟩ | ⟨m1, m2⟩
  · rcases rngC 0 4 (by decide) (by decide) p2 with ⟨k, _, hk, rfl, hin⟩ | ⟨hin, hout⟩
    · have hin' : md_in (nI k) 0 4 = 1 := hin
      have le4 : nI k ≤ (4 : Int32) := by show nI k ≤ nI 4; rw [zq_le (by omega) (by decide)]; omega
      by_cases h4 : k = 4
      · subst h4
        obtain ⟨s1, y, st1, g1, g2, g3, g4, g5⟩ := wa_ok (N := N) (by omega) R Rw (by omega) (by omega)
        obtain ⟨s2, r1, k1, k2, k3, k4, k5⟩ := mw_search (N := N) (set := 127) (by omega) g2 (by omega) hps
        obtain ⟨s3, r2, l1, l2, l3, l4, l5⟩ := mw_search (N := N) (set := (127 : Int32) &&& (((1 : Int32) <<< (nI n &&& 31)) ^^^ (-1))) (by omega) k2 (by omega) hps
        obtain ⟨c2, nd, b1, b2, b3, b4, b5⟩ := rf_soonBy (set := 127) (ok := okf 127) hN R0 (fun o ho => has_isIn 127 ho)
        obtain ⟨c3, nd', d1, d2, d3, d4, d5⟩ := rf_soonBy (set := (127 : Int32) &&& (((1 : Int32) <<< (nI n &&& 31)) ^^^ (-1))) (ok := okf ((127 : Int32) &&& (((1 : Int32) <<< (nI n &&& 31)) ^^^ (-1)))) hN (rwd_k R0 b2.c1) (fun o ho => has_isIn _ ho)
        have e1 := gp_same nx_lt b4 hps k5
        have e2 := gp_same nx_lt d4 hps l5
        have hD1 := (b3 _ hps).2
        have hD2 := (d3 _ hps).2
        have f1 : (nI (nd (psN W)) < (1000000 : Int32)) = (nd (psN W) < 1000000) := zq_lt (b := 1000000) (by omega) (by decide)
        have f2 : (nI (nd' (psN W)) < (1000000 : Int32)) = (nd' (psN W) < 1000000) := zq_lt (b := 1000000) (by omega) (by decide)
        have z4 : (nI 4 = (4 : Int32)) = True := eq_true rfl
        have hh : md_helpsOf N (bk_w c 0 0 0) (nI n) = some (c3, if nd (psN W) < 1000000 then (if nd' (psN W) < 1000000 then nI (nd' (psN W)) - nI (nd (psN W)) else -3) else -1) := by
          unfold md_helpsOf
          rw [b1]
          simp only [zq_bindP]
          rw [d1]
          simp only [zq_bindP, f1, f2]
          split
          · split <;> rfl
          · rfl
        have rf : md_move N c (nI n) (nI 4) = some (c3, if nd (psN W) < 1000000 then (if nd' (psN W) < 1000000 then nI (nd' (psN W)) - nI (nd (psN W)) else -3) else -1) := by
          simp only [md_move, zq_letP, m2, true_or, or_true, d11, th_r, th_c0, hin', d10, d00, z4, ↓reduceIte, hh, zq_bindP]
        have cls0 : ∀ sf v, x11_helps N s X (nI n) = some (sf, v) → x11_move N s X (nI n) (nI 4) = some (sf, .inl (some (.int v))) := fun sf v h => by
          unfold x11_move
          rw [if_pos R.1.1, m1, if_neg (by decide), if_neg (nI_pos (by decide)), if_pos le4, if_pos (by decide), h]
          rfl
        have w1 := k2.2.1.1
        have ly2 := k2.2.1.2.1
        have hp := (R_calm k2.1.1).1
        rcases e1 with ⟨q1, q2⟩ | ⟨q1, q2⟩
        · refine ⟨s2, c3, .inl (some (.int (-1))), -1, cls0 s2 (-1) ?_, by rw [rf, if_neg (by omega)], .inl ⟨rfl, ?_⟩, RR_mk hj Z (g4.tr k3) (RA_c k2.1 ((ceq_0.tr b2.ceq).tr d2.ceq)) (QW_way k2 g3) (by omega)⟩
          · unfold x11_helps
            rw [if_pos R.1.1, g1]
            simp only [zq_bindP]
            rw [if_pos g2.2.1.2.1, (R_calm g2.1.1).1, k1]
            simp only [zq_bindP]
            rw [if_pos q1]
          · rw [d2.2 0 (by decide) (by decide), b2.2 0 (by decide) (by decide), bk_w_same]
        · refine ⟨s3, c3, .inl (some (.int (if nd' (psN W) < 1000000 then nI (nd' (psN W)) - nI (nd (psN W)) else -3))), _, cls0 s3 _ ?_, by rw [rf, if_pos (by omega)], .inl ⟨rfl, ?_⟩, RR_mk hj Z ((g4.tr k3).tr l3) (RA_c l2.1 ((ceq_0.tr b2.ceq).tr d2.ceq)) (QW_way l2 g3) (by omega)⟩
          · unfold x11_helps
            rw [if_pos R.1.1, g1]
            simp only [zq_bindP]
            rw [if_pos g2.2.1.2.1, (R_calm g2.1.1).1, k1]
            simp only [zq_bindP]
            rw [if_neg (by rw [q1]; exact zq_m1 (by omega)), if_pos ly2, hp, l1]
            simp only [zq_bindP]
            rcases e2 with ⟨v1, v2⟩ | ⟨v1, v2⟩
            · rw [if_pos v1, if_neg (by omega)]
            · rw [if_neg (by rw [v1]; exact zq_m1 (by omega)), if_pos (by omega), v1, q1]
          · rw [d2.2 0 (by decide) (by decide), b2.2 0 (by decide) (by decide), bk_w_same]
      · have n4 : (nI k = (4 : Int32)) = False := eq_false (fun q => h4 (zq_inj (b := 4) (by omega) (by decide) q))
        have hm := md_ofMoveN (c := bk_w c 0 0 0) (mv := n) (i := k) (x := nI k) hn (by omega) rfl
        have hval : md_ofMove_r (bk_w c 0 0 0) (nI n) (nI k) = nI (W (17 + 4 * n + k)) := by
          rw [hm.1]; exact wv_n R0.1 (by omega) (by omega)
        refine ⟨s, bk_w c 0 0 0, .inl (some (.int (nI (W (17 + 4 * n + k))))), nI (W (17 + 4 * n + k)), ?_, ?_, .inl ⟨rfl, bk_w_same _ _ _ _⟩, RR_same hj Z R Rw ceq_0⟩
        · have e1 : (4 : Int32) * nI n + nI k = nI (4 * n + k) := by show nI 4 * nI n + nI k = _; rw [pk_mul, nI_add]
          unfold x11_move x6_number
          rw [if_pos R.1.1, m1, if_neg (by decide), if_neg (nI_pos (by omega)), if_pos le4, if_neg (of_eq_false n4), if_pos (ly_X7_l1 (ly_X11_l3 R.1.1)), e1, if_pos (zq_inBt (by omega) (by decide)), zq_cl (by omega)]
          simp only [zq_bindP]
          rw [show X + 14 + 1 = X + 12 + 3 by omega, R.1.2.2.1.2.2.2.1 (4 * n + k) (by omega), show 17 + (4 * n + k) = 17 + 4 * n + k by omega]
        · simp only [md_move, zq_letP, m2, true_or, or_true, d11, th_r, th_c0, hin', d10, d00, n4, ↓reduceIte, hm.2, hval]
    · have hin' : md_in p2 0 4 = 0 := hin
      refine ⟨sk_rs s 6, bk_w (bk_w c 0 0 0) 0 0 2, _, 0, ?_, ?_, .inr (.inr ⟨rfl, bk_w_same _ _ _ _⟩), RR_thr hj Z R Rw (thr_ceq 2)⟩
      · unfold x11_move
        rw [if_pos R.1.1, m1, if_neg (by decide)]
        rcases hout with h | ⟨h1, h2⟩
        · rw [if_pos (show p2 < 0 from h)]
        · rw [if_neg (show ¬ p2 < 0 from h1), if_neg (nlt_le (show (4 : Int32) < p2 from h2))]
      · simp only [md_move, zq_letP, m2, true_or, or_true, d11, th_r, th_c0, th_c1, hin', d10, d00, ↓reduceIte]
  · refine ⟨sk_rs s 6, bk_w (bk_w c 0 0 0) 0 0 1, _, 0, ?_, ?_, .inr (.inl ⟨rfl, bk_w_same _ _ _ _⟩), RR_thr hj Z R Rw (thr_ceq 1)⟩
    · unfold x11_move
      rw [if_pos R.1.1, m1, if_pos rfl]
    · simp only [md_move, zq_letP, m2, true_or, or_true, d11, th_r, th_c1, d10, ↓reduceIte]
end
