/-! CALLS: seed, count, log, led -/
section
variable {N X j : Nat} {s s' : sk_S} {c c' : Nat → Nat → Int32} {W W' : Nat → Nat} {sd sd' : Int32} {m : lwM} {sb : Nat} {V : Nat → Nat → Prop}
theorem sm_seed_ok (hN : 2000000000 ≤ N) : sm_seed X N (RR X) := by
  intro j s c hj ⟨_, Z, W, sd, m, R, Rw⟩ p1
  obtain ⟨c0, c1, c2, c3, c4, c5, c6, c7, -⟩ := R_calm R.1
  have F : cfr (fun b _ => b = X + 12 + 1) s (sk_wc s (X + 13) 7 p1) := (cfr.rf (V := fun b _ => b = X + 12 + 1)).wc _ rfl
  have FA : sfr (act1 X s) s (sk_wc s (X + 13) 7 p1) := (sfr.of F).mono (fun b k _ h => act_body h)
  have hX : (sk_K s X).1 = 11 := by rw [ly_X11_c R.1.1]
  have S' : sc_rel (sk_wc s (X + 13) 7 p1) (X + 12) W p1 := by
    refine sc_body R.1.2.2.1 F R.1.2.2.1.2.1 (fun _ _ => rfl) ?_
    rw [show X + 12 + 1 = X + 13 by omega, qc_eq, pk_us, pk_un (by decide), pk_un (by decide), pk_un (by decide), pk_un (by decide), pk_un (by decide), pk_un (by decide), pk_un (by decide)]
    exact ⟨c0, c1, c2, c3, c4, c5, c6, rfl⟩
  have w := R.1.2.2.2.1
  have v' : wv (bk_w (bk_w c 0 0 0) 1 16 p1 1) W p1 := ⟨fun q hq h => by rw [bk_w_at h, bk_w_ne (by decide)]; exact w.1 q hq h, bk_w_same _ _ _ _⟩
  have R3 := RA_act R FA (bks_cfr R.1.2.1 F) S' v' (ceq_0.A.w _ (by decide)) rfl (fun _ _ => rfl)
  refine ⟨sk_wc s (X + 13) 7 p1, bk_w (bk_w c 0 0 0) 1 16 p1, sd, ?_, ?_, RR_act hj Z (Nat.le_add_right _ _) (Nat.le_add_right _ _) rfl R3 (way_act Rw R.1.2.1 hX FA (fun _ _ => rfl) (Nat.le_refl _))⟩
  · unfold x11_seed
    simp only [zq_letP]
    rw [if_pos R.1.1, c7]
  · unfold md_seedO md_seed_c md_seed_r
    rw [bk_w_ne (by decide), w.2]
theorem ptN {v k : Nat} (hv : v < 1200) (hk : k ≤ 3) : x5_part N s (nI v) (nI k) = some (s, nI ([v / 120, v / 12 % 10, v / 2 % 6, v % 2].getD k 0)) := by
  have : k = 0 ∨ k = 1 ∨ k = 2 ∨ k = 3 := by omega
  unfold x5_part
  rcases this with rfl | rfl | rfl | rfl
  · rw [if_pos (by decide), po_d0N hv]; rfl
  · rw [if_neg (by decide), if_pos (by decide), po_d1N hv]; rfl
  · rw [if_neg (by decide), if_neg (by decide), if_pos (by decide), po_thN hv]; rfl
  · rw [if_neg (by decide), if_neg (by decide), if_neg (by decide), po_lyN hv]; rfl
set_option maxRecDepth 20000 in
set_option maxHeartbeats 4000000 in
theorem sm_count_ok (hN : 2000000000 ≤ N) : sm_count X N (RR X) := by
  intro j s c hj ⟨_, Z, W, sd, m, R, Rw⟩ p1
  have R0 := RA_c R ceq_0
  have rw0 := rwd_of R0
  obtain ⟨c0, c1, c2, c3, c4, c5, c6, c7, -⟩ := R_calm R.1
  have hw := R.1.2.2.1.2.1
  have hps := psN_lt hw
  obtain ⟨u0, u1, u2, u3⟩ := psN_un hw
  obtain ⟨t10, t12, t11⟩ := R.1.2.2.1.2.2.2.2.2.1
  rw [show X + 12 + 4 = X + 16 by omega] at t10 t12 t11
  obtain ⟨nx, _, _, dsz, _⟩ := R.1.2.2.1.2.2.2.2.2.2.2.1
  rw [show X + 12 + 8 = X + 20 by omega] at dsz
  have t13 := R.1.2.2.1.2.2.2.2.2.2.2.2
  obtain ⟨np, kk, g1, g2, g3, g4, g5, -⟩ := R.2.1
  have wq : ∀ q, q < 549 → q ≠ 16 → bk_w c 0 0 0 1 q = nI (W q) := fun q h1 h2 => wv_n rw0.1 h1 h2
  have fin : ∀ v, x11_count N s X p1 = some (s, v) → md_count N c p1 = some (bk_w c 0 0 0, v) → ∃ (s9 : sk_S) (c9 : Nat → Nat → Int32) (r : Int32), x11_count N s X p1 = some (s9, r) ∧ md_count N c p1 = some (c9, r) ∧ RR X (j + 1) s9 c9 := fun v h1 h2 => ⟨s, bk_w c 0 0 0, v, h1, h2, RR_same hj Z R Rw ceq_0⟩
  rcases rngC 0 18 (by decide) (by decide) p1 with ⟨n, _, hn, rfl, hin⟩ | ⟨hin, hout⟩
  · have lit : ∀ k : Nat, k < 100 → (nI n = nI k) = (n = k) := fun k hk => zq_eq (by omega) (by omega)
    have hc : n = 0 ∨ n = 1 ∨ n = 2 ∨ n = 3 ∨ n = 4 ∨ n = 5 ∨ n = 6 ∨ n = 7 ∨ n = 8 ∨ n = 9 ∨ n = 10 ∨ n = 11 ∨ n = 12 ∨ n = 13 ∨ n = 14 ∨ n = 15 ∨ n = 16 ∨ n = 17 ∨ n = 18 := by omega
    have lowR : n ≤ 8 → md_count N c (nI n) = some (bk_w c 0 0 0, nI (W n)) := fun h8 => by
      have i8 : md_in (nI n) 0 8 = 1 := by
        unfold md_in
        rw [if_neg (nI_pos (by omega)), if_neg (by show ¬ nI 8 < nI n; rw [zq_lt (by decide) (by omega)]; omega)]
      unfold md_count
      simp only [zq_letP]
      rw [if_neg (by show ¬ nI n = nI 9; rw [lit 9 (by decide)]; omega), if_neg (by show ¬ nI n = nI 10; rw [lit 10 (by decide)]; omega), if_neg (by show ¬ nI n = nI 11; rw [lit 11 (by decide)]; omega), if_neg (by show ¬ nI n = nI 12; rw [lit 12 (by decide)]; omega), if_neg (by show ¬ nI n = nI 13; rw [lit 13 (by decide)]; omega), if_neg (by show ¬ nI n = nI 14; rw [lit 14 (by decide)]; omega), if_neg (by show ¬ nI n = nI 15; rw [lit 15 (by decide)]; omega), if_neg (by show ¬ nI n = nI 16; rw [lit 16 (by decide)]; omega), if_neg (by show ¬ nI n = nI 17; rw [lit 17 (by decide)]; omega), if_neg (by show ¬ nI n = nI 18; rw [lit 18 (by decide)]; omega), i8, if_neg (by decide), if_pos (zq_inBt (by omega) (by decide)), zq_cl (by omega), wq n (by omega) (by omega)]
    rcases hc with rfl | rfl | rfl | rfl | rfl | rfl | rfl | rfl | rfl | rfl | rfl | rfl | rfl | rfl | rfl | rfl | rfl | rfl | rfl
    · refine fin (nI (W 0)) ?_ (lowR (by decide))
      unfold x11_count
      rw [if_pos R.1.1, if_pos (by decide), c0, ptN hps (by decide)]
      simp only [zq_bindP]; rw [← u0]; rfl
    · refine fin (nI (W 1)) ?_ (lowR (by decide))
      unfold x11_count
      rw [if_pos R.1.1, if_neg (by decide), if_pos (by decide), c0, ptN hps (by decide)]
      simp only [zq_bindP]; rw [← u1]; rfl
    · refine fin (nI (W 2)) ?_ (lowR (by decide))
      unfold x11_count
      rw [if_pos R.1.1, if_neg (by decide), if_neg (by decide), if_pos (by decide), c0, ptN hps (by decide)]
      simp only [zq_bindP]; rw [← u2]; rfl
    · refine fin (nI (W 3)) ?_ (lowR (by decide))
      unfold x11_count
      rw [if_pos R.1.1, if_neg (by decide), if_neg (by decide), if_neg (by decide), if_pos (by decide), c0, ptN hps (by decide)]
      simp only [zq_bindP]; rw [← u3]; rfl
    · refine fin (nI (W 4)) ?_ (lowR (by decide))
      unfold x11_count
      rw [if_pos R.1.1, if_neg (by decide), if_neg (by decide), if_neg (by decide), if_neg (by decide), if_pos (by decide), c1]
    · refine fin (nI (W 5)) ?_ (lowR (by decide))
      unfold x11_count
      rw [if_pos R.1.1, if_neg (by decide), if_neg (by decide), if_neg (by decide), if_neg (by decide), if_neg (by decide), if_pos (by decide), c2]
    · refine fin (nI (W 6)) ?_ (lowR (by decide))
      unfold x11_count
      rw [if_pos R.1.1, if_neg (by decide), if_neg (by decide), if_neg (by decide), if_neg (by decide), if_neg (by decide), if_neg (by decide), if_pos (by decide), c3]
    · refine fin (nI (W 7)) ?_ (lowR (by decide))
      unfold x11_count
      rw [if_pos R.1.1, if_neg (by decide), if_neg (by decide), if_neg (by decide), if_neg (by decide), if_neg (by decide), if_neg (by decide), if_neg (by decide), if_pos (by decide), c4]
    · refine fin (nI (W 8)) ?_ (lowR (by decide))
      unfold x11_count
      rw [if_pos R.1.1, if_neg (by decide), if_neg (by decide), if_neg (by decide), if_neg (by decide), if_neg (by decide), if_neg (by decide), if_neg (by decide), if_neg (by decide), if_pos (by decide), c5]
    · refine fin (if psN W < 12 then 1 else 0) ?_ ?_
      · unfold x11_count
        rw [if_pos R.1.1, if_neg (by decide), if_neg (by decide), if_neg (by decide), if_neg (by decide), if_neg (by decide), if_neg (by decide), if_neg (by decide), if_neg (by decide), if_neg (by decide), if_pos (by decide), c0, wy_ofl _ hps]
        by_cases h : psN W < 12
        · rw [if_pos h, if_neg (by decide)]
        · rw [if_neg h, if_pos rfl]
      · unfold md_count
        simp only [zq_letP]
        rw [if_pos (by decide), isOutR rw0]
        by_cases h : psN W < 12
        · rw [if_pos h, if_neg (by decide)]
        · rw [if_neg h, if_pos rfl]
    · refine fin (if W 8 ≤ W 7 ∧ 12 ≤ psN W then 1 else 0) ?_ ?_
      · unfold x11_count
        rw [if_pos R.1.1, if_neg (by decide), if_neg (by decide), if_neg (by decide), if_neg (by decide), if_neg (by decide), if_neg (by decide), if_neg (by decide), if_neg (by decide), if_neg (by decide), if_neg (by decide), if_pos (by decide), isDrownN R.1]
        simp only [zq_bindP]
        by_cases h : W 8 ≤ W 7 ∧ 12 ≤ psN W
        · rw [if_pos h, if_neg (by decide)]
        · rw [if_neg h, if_pos rfl]
      · unfold md_count
        simp only [zq_letP]
        rw [if_neg (by decide), if_pos (by decide), isDrownR rw0]
        by_cases h : W 8 ≤ W 7 ∧ 12 ≤ psN W
        · rw [if_pos h, if_neg (by decide)]
        · rw [if_neg h, if_pos rfl]
    · refine fin (nI (W 9)) ?_ ?_
      · unfold x11_count
        rw [if_pos R.1.1, if_neg (by decide), if_neg (by decide), if_neg (by decide), if_neg (by decide), if_neg (by decide), if_neg (by decide), if_neg (by decide), if_neg (by decide), if_neg (by decide), if_neg (by decide), if_neg (by decide), if_pos (by decide), c6]
      · unfold md_count
        simp only [zq_letP]
        rw [if_neg (by decide), if_neg (by decide), if_pos (by decide), wq 9 (by decide) (by decide)]
    · refine fin (nI (W 10)) ?_ ?_
      · unfold x11_count
        rw [if_pos R.1.1, if_neg (by decide), if_neg (by decide), if_neg (by decide), if_neg (by decide), if_neg (by decide), if_neg (by decide), if_neg (by decide), if_neg (by decide), if_neg (by decide), if_neg (by decide), if_neg (by decide), if_neg (by decide), if_pos (by decide), t10]
      · unfold md_count
        simp only [zq_letP]
        rw [if_neg (by decide), if_neg (by decide), if_neg (by decide), if_pos (by decide), wq 10 (by decide) (by decide)]
    · refine fin (nI (W 12)) ?_ ?_
      · unfold x11_count
        rw [if_pos R.1.1, if_neg (by decide), if_neg (by decide), if_neg (by decide), if_neg (by decide), if_neg (by decide), if_neg (by decide), if_neg (by decide), if_neg (by decide), if_neg (by decide), if_neg (by decide), if_neg (by decide), if_neg (by decide), if_neg (by decide), if_pos (by decide), t12]
      · unfold md_count md_people_r
        simp only [zq_letP]
        rw [if_neg (by decide), if_neg (by decide), if_neg (by decide), if_neg (by decide), if_pos (by decide), wq 12 (by decide) (by decide)]
    · refine fin (nI (W 11)) ?_ ?_
      · unfold x11_count
        rw [if_pos R.1.1, if_neg (by decide), if_neg (by decide), if_neg (by decide), if_neg (by decide), if_neg (by decide), if_neg (by decide), if_neg (by decide), if_neg (by decide), if_neg (by decide), if_neg (by decide), if_neg (by decide), if_neg (by decide), if_neg (by decide), if_neg (by decide), if_pos (by decide), t11]
      · unfold md_count
        simp only [zq_letP]
        rw [if_neg (by decide), if_neg (by decide), if_neg (by decide), if_neg (by decide), if_neg (by decide), if_pos (by decide), wq 11 (by decide) (by decide)]
    · refine fin (nI (W 13)) ?_ ?_
      · unfold x11_count
        rw [if_pos R.1.1, if_neg (by decide), if_neg (by decide), if_neg (by decide), if_neg (by decide), if_neg (by decide), if_neg (by decide), if_neg (by decide), if_neg (by decide), if_neg (by decide), if_neg (by decide), if_neg (by decide), if_neg (by decide), if_neg (by decide), if_neg (by decide), if_neg (by decide), if_pos (by decide), t13]
      · unfold md_count
        simp only [zq_letP]
        rw [if_neg (by decide), if_neg (by decide), if_neg (by decide), if_neg (by decide), if_neg (by decide), if_neg (by decide), if_pos (by decide), wq 13 (by decide) (by decide)]
    · have w14 := wq 14 (by decide) (by decide)
      rcases R.1.2.2.2.2 with ⟨h1, h2, h3⟩ | ⟨q, h1, h2, h3, h4⟩
      · refine fin (-1) ?_ ?_
        · unfold x11_count
          rw [if_pos R.1.1, if_neg (by decide), if_neg (by decide), if_neg (by decide), if_neg (by decide), if_neg (by decide), if_neg (by decide), if_neg (by decide), if_neg (by decide), if_neg (by decide), if_neg (by decide), if_neg (by decide), if_neg (by decide), if_neg (by decide), if_neg (by decide), if_neg (by decide), if_neg (by decide), if_pos (by decide), h1]
          simp only [ky_om]
        · unfold md_count
          simp only [zq_letP]
          rw [if_neg (by decide), if_neg (by decide), if_neg (by decide), if_neg (by decide), if_neg (by decide), if_neg (by decide), if_neg (by decide), if_pos (by decide), w14, h2, if_neg (by decide)]
      · refine fin (nI m.1) ?_ ?_
        · unfold x11_count
          rw [if_pos R.1.1, if_neg (by decide), if_neg (by decide), if_neg (by decide), if_neg (by decide), if_neg (by decide), if_neg (by decide), if_neg (by decide), if_neg (by decide), if_neg (by decide), if_neg (by decide), if_neg (by decide), if_neg (by decide), if_neg (by decide), if_neg (by decide), if_neg (by decide), if_neg (by decide), if_pos (by decide), h1]
          simp only [ky_om]
          rw [if_pos h4.1, h4.2.1]
        · unfold md_count
          simp only [zq_letP]
          have h549 : bk_w c 0 0 0 1 549 = nI m.1 := by rw [bk_w_ne (by decide)]; exact h3.1
          rw [if_neg (by decide), if_neg (by decide), if_neg (by decide), if_neg (by decide), if_neg (by decide), if_neg (by decide), if_neg (by decide), if_pos (by decide), w14, h2, if_pos (by decide), h549]
    · refine fin (nI (W 15)) ?_ ?_
      · unfold x11_count
        rw [if_pos R.1.1, if_neg (by decide), if_neg (by decide), if_neg (by decide), if_neg (by decide), if_neg (by decide), if_neg (by decide), if_neg (by decide), if_neg (by decide), if_neg (by decide), if_neg (by decide), if_neg (by decide), if_neg (by decide), if_neg (by decide), if_neg (by decide), if_neg (by decide), if_neg (by decide), if_neg (by decide), if_pos (by decide), dsz]
      · unfold md_count
        simp only [zq_letP]
        rw [if_neg (by decide), if_neg (by decide), if_neg (by decide), if_neg (by decide), if_neg (by decide), if_neg (by decide), if_neg (by decide), if_neg (by decide), if_pos (by decide), wq 15 (by decide) (by decide)]
    · refine fin (nI kk) ?_ ?_
      · unfold x11_count
        rw [if_pos R.1.1, if_neg (by decide), if_neg (by decide), if_neg (by decide), if_neg (by decide), if_neg (by decide), if_neg (by decide), if_neg (by decide), if_neg (by decide), if_neg (by decide), if_neg (by decide), if_neg (by decide), if_neg (by decide), if_neg (by decide), if_neg (by decide), if_neg (by decide), if_neg (by decide), if_neg (by decide), if_neg (by decide), if_pos (by decide), g4]
      · unfold md_count
        simp only [zq_letP]
        rw [if_neg (by decide), if_neg (by decide), if_neg (by decide), if_neg (by decide), if_neg (by decide), if_neg (by decide), if_neg (by decide), if_neg (by decide), if_neg (by decide), if_pos (by decide), bk_w_at (by decide), g5]
  · have ne : ∀ k : Nat, k ≤ 18 → ¬ p1 = nI k := fun k hk e => by
      subst e
      rcases hout with h | ⟨h1, h2⟩
      · exact nI_pos (n := k) (by omega) h
      · rw [zq_lt (by decide) (by omega)] at h2; omega
    have i8 : md_in p1 0 8 = 0 := by
      unfold md_in
      rcases hout with h | ⟨h1, h2⟩
      · rw [if_pos (show p1 < 0 from h)]
      · rw [if_neg (show ¬ p1 < 0 from h1), if_pos]
        rw [fa_lt] at h2 ⊢
        have e1 : (nI 18).toInt = 18 := by decide
        have e2 : (8 : Int32).toInt = 8 := by decide
        omega
    refine fin (-1) ?_ ?_
    · unfold x11_count
      rw [if_pos R.1.1, if_neg (show ¬ p1 = (0 : Int32) from ne 0 (by decide)), if_neg (show ¬ p1 = (1 : Int32) from ne 1 (by decide)), if_neg (show ¬ p1 = (2 : Int32) from ne 2 (by decide)), if_neg (show ¬ p1 = (3 : Int32) from ne 3 (by decide)), if_neg (show ¬ p1 = (4 : Int32) from ne 4 (by decide)), if_neg (show ¬ p1 = (5 : Int32) from ne 5 (by decide)), if_neg (show ¬ p1 = (6 : Int32) from ne 6 (by decide)), if_neg (show ¬ p1 = (7 : Int32) from ne 7 (by decide)), if_neg (show ¬ p1 = (8 : Int32) from ne 8 (by decide)), if_neg (show ¬ p1 = (9 : Int32) from ne 9 (by decide)), if_neg (show ¬ p1 = (10 : Int32) from ne 10 (by decide)), if_neg (show ¬ p1 = (11 : Int32) from ne 11 (by decide)), if_neg (show ¬ p1 = (12 : Int32) from ne 12 (by decide)), if_neg (show ¬ p1 = (13 : Int32) from ne 13 (by decide)), if_neg (show ¬ p1 = (14 : Int32) from ne 14 (by decide)), if_neg (show ¬ p1 = (15 : Int32) from ne 15 (by decide)), if_neg (show ¬ p1 = (16 : Int32) from ne 16 (by decide)), if_neg (show ¬ p1 = (17 : Int32) from ne 17 (by decide)), if_neg (show ¬ p1 = (18 : Int32) from ne 18 (by decide))]
    · unfold md_count
      simp only [zq_letP]
      rw [if_neg (show ¬ p1 = (9 : Int32) from ne 9 (by decide)), if_neg (show ¬ p1 = (10 : Int32) from ne 10 (by decide)), if_neg (show ¬ p1 = (11 : Int32) from ne 11 (by decide)), if_neg (show ¬ p1 = (12 : Int32) from ne 12 (by decide)), if_neg (show ¬ p1 = (13 : Int32) from ne 13 (by decide)), if_neg (show ¬ p1 = (14 : Int32) from ne 14 (by decide)), if_neg (show ¬ p1 = (15 : Int32) from ne 15 (by decide)), if_neg (show ¬ p1 = (16 : Int32) from ne 16 (by decide)), if_neg (show ¬ p1 = (17 : Int32) from ne 17 (by decide)), if_neg (show ¬ p1 = (18 : Int32) from ne 18 (by decide)), i8, if_pos rfl]
end
