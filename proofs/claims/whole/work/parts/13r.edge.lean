/-! EDGE -/
section
variable {N X j : Nat} {s s' : sk_S} {c c' c0 : Nat → Nat → Int32} {W W' W0 : Nat → Nat} {sd sd' sd0 : Int32} {m m' : lwM} {sb : Nat} {k : Nat}
theorem weightC (p : Int32) : (∃ n, 1 ≤ n ∧ n ≤ 9 ∧ p = nI n ∧ ws_isWeight p = 1 ∧ md_noWeight p = 0) ∨ (ws_isWeight p = 0 ∧ md_noWeight p = 1) := by
  unfold ws_isWeight md_noWeight
  rcases rngC 1 9 (by decide) (by decide) p with ⟨n, h1, hn, rfl, hin⟩ | ⟨hin, hout⟩
  · have hin' : md_in (nI n) 1 9 = 1 := hin
    left
    refine ⟨n, h1, hn, rfl, ?_, by rw [hin', if_neg (by decide)]⟩
    rw [if_neg (by show ¬ nI n < nI 1; rw [zq_lt (by omega) (by decide)]; omega), if_neg (by show ¬ nI 9 < nI n; rw [zq_lt (by decide) (by omega)]; omega)]
  · have hin' : md_in p 1 9 = 0 := hin
    right
    refine ⟨?_, by rw [hin', if_pos rfl]⟩
    rcases hout with h | ⟨h1, h2⟩
    · rw [if_pos (show p < 1 from h)]
    · rw [if_neg (show ¬ p < 1 from h1), if_pos (show (9 : Int32) < p from h2)]
theorem cellAtN : ∀ y, y < 8 → ∀ x, x < 8 → sh_cellAt (nI x) (nI y) = nI (8 * y + x) ∧ 8 * nI y + nI x = nI (8 * y + x) := by decide +kernel
theorem ed_loop (R : R_now X s c0 W sd m) (Rc : rwd c W sd m) {y w : Nat} (hy : y ≤ 7) (hw9 : w ≤ 9) {kC : sk_S → Int32 → Int32 → Int32 → Option (sk_S × Int32)} {kR : (Nat → Nat → Int32) → Int32 → Int32 → Int32 → Option ((Nat → Nat → Int32) × Int32)} : ∀ (r i fuel fuel' : Nat), i + r = 8 → r < fuel → r < fuel' → ∃ x, x8_heldTo_L2 N (X + 16) kC fuel s (nI y) (nI w) (nI i) = kC s (nI y) (nI w) x ∧ md_edge_L39 N kR fuel' c (nI y) (nI w) (nI i) = kR c (nI y) (nI w) x := by
  have hw := Rc.2.1
  intro r
  induction r with
  | zero =>
    intro i fuel fuel' h1 h2 h3
    obtain ⟨fuel, rfl⟩ : ∃ q, fuel = q + 1 := ⟨fuel - 1, by omega⟩
    obtain ⟨fuel', rfl⟩ : ∃ q, fuel' = q + 1 := ⟨fuel' - 1, by omega⟩
    obtain rfl : i = 8 := by omega
    refine ⟨nI 8, ?_, ?_⟩
    · simp only [x8_heldTo_L2]; rw [if_pos (by decide)]
    · simp only [md_edge_L39]; rw [if_pos (by decide)]
  | succ r ih =>
    intro i fuel fuel' h1 h2 h3
    obtain ⟨fuel, rfl⟩ : ∃ q, fuel = q + 1 := ⟨fuel - 1, by omega⟩
    obtain ⟨fuel', rfl⟩ : ∃ q, fuel' = q + 1 := ⟨fuel' - 1, by omega⟩
    have nle : ¬ (8 : Int32) ≤ nI i := by show ¬ nI 8 ≤ nI i; rw [zq_le (by decide) (by omega)]; omega
    obtain ⟨e1, e2⟩ := cellAtN y (by omega) i (by omega)
    have s17 : sk_c s (X + 16 + 1) (8 * y + i) = nI (W (45 + 3 * (8 * y + i))) := (R.2.2.1.2.2.2.2.1 (8 * y + i) (by omega)).1
    have hc := (hw.2.2.1 (8 * y + i) (by omega)).1
    have v0 : (45 + 3 * nI (8 * y + i)) + 0 = nI (45 + 3 * (8 * y + i)) := md_ofN (i := 0) (by omega) (by decide)
    have inb : ky_inB ((45 + 3 * (8 * nI y + nI i)) + 0) 2247 = true := by rw [e2, v0]; exact zq_inBt (by omega) (by decide)
    have of2 : md_of_r c (8 * nI y + nI i) 0 = nI (W (45 + 3 * (8 * y + i))) := by
      unfold md_of_r; rw [e2, v0, zq_cl (by omega)]; exact wv_n Rc.1 (by omega) (by omega)
    by_cases h : nI (W (45 + 3 * (8 * y + i))) < nI w
    · refine ⟨nI i, ?_, ?_⟩
      · simp only [x8_heldTo_L2, zq_letP]
        rw [if_neg nle, e1, if_pos (zq_inBt (by omega) (by decide)), zq_cl (by omega), s17, if_pos h]
      · simp only [md_edge_L39, zq_letP]
        rw [if_neg nle, if_pos inb, of2, if_pos h]
    · obtain ⟨x, i1, i2⟩ := ih (i + 1) fuel fuel' (by omega) (by omega) (by omega)
      refine ⟨x, ?_, ?_⟩
      · simp only [x8_heldTo_L2, zq_letP]
        rw [if_neg nle, e1, if_pos (zq_inBt (by omega) (by decide)), zq_cl (by omega), s17, if_neg h, nI_1]
        exact i1
      · simp only [md_edge_L39, zq_letP]
        rw [if_neg nle, if_pos inb, of2, if_neg h, nI_1]
        exact i2
set_option maxRecDepth 20000 in
theorem sm_edge_ok (hN : 2000000000 ≤ N) : sm_edge X N (RR X) := by
  intro j s c hj ⟨_, Z, W, sd, m, R, Rw⟩ p1 p2
  have R0 := rwd_0 R
  rcases rngC 0 7 (by decide) (by decide) p1 with ⟨y, _, hy, rfl, hin⟩ | ⟨hin, hout⟩
  · have hin' : md_in (nI y) 0 7 = 1 := hin
    have g1 : ¬ nI y < (0 : Int32) := nI_pos (by omega)
    have g2 : ¬ (7 : Int32) < nI y := by show ¬ nI 7 < nI y; rw [zq_lt (by decide) (by omega)]; omega
    rcases weightC p2 with ⟨w, _, hw, rfl, m1, m2⟩ | ⟨m1, m2⟩
    · obtain ⟨x, a1, a2⟩ := ed_loop (N := N) (kC := fun q2 x3 x4 x5 => (some (q2, (x5 - 1)))) (kR := fun q19 x20 x21 x22 => (some (q19, (x22 - 1)))) R.1 R0 hy hw 8 0 N N (by omega) (by omega) (by omega)
      refine ⟨s, bk_w c 0 0 0, .inl (some (.int (x - 1))), x - 1, ?_, ?_, .inl ⟨rfl, bk_w_same _ _ _ _⟩, RR_siz hj Z (s' := s) ⟨rfl, rfl, rfl⟩ (RA_c R ceq_0) Rw⟩
      · have b1 : x8_heldTo N s (X + 16) (nI y) (nI w) = some (s, x - 1) := by
          unfold x8_heldTo; rw [if_pos (ly_X7_l2 (ly_X11_l3 R.1.1))]; exact a1
        unfold x11_edge
        rw [if_pos R.1.1, if_neg g1, if_neg g2, m1, if_neg (by decide), b1]
        rfl
      · have a2' : md_edge_L39 N (fun q19 x20 x21 x22 => (some (q19, (x22 - 1)))) N (bk_w c 0 0 0) (nI y) (nI w) 0 = some (bk_w c 0 0 0, x - 1) := a2
        simp only [md_edge, zq_letP, m2, th_r, th_c0, hin', d10, d00, ↓reduceIte, a2']
    · refine ⟨sk_rs s 6, bk_w (bk_w c 0 0 0) 0 0 1, .inr "java/lang/IllegalArgumentException", 0, ?_, ?_, .inr ⟨rfl, bk_w_same _ _ _ _⟩, RR_thr hj Z R Rw (thr_ceq 1)⟩
      · unfold x11_edge
        rw [if_pos R.1.1, if_neg g1, if_neg g2, m1, if_pos rfl]
      · simp only [md_edge, zq_letP, m2, th_r, th_c1, hin', d10, ↓reduceIte]
  · have hin' : md_in p1 0 7 = 0 := hin
    refine ⟨sk_rs s 6, bk_w (bk_w c 0 0 0) 0 0 1, .inr "java/lang/IllegalArgumentException", 0, ?_, ?_, .inr ⟨rfl, bk_w_same _ _ _ _⟩, RR_thr hj Z R Rw (thr_ceq 1)⟩
    · unfold x11_edge
      rw [if_pos R.1.1]
      rcases hout with h | ⟨h1, h2⟩
      · rw [if_pos (show p1 < 0 from h)]
      · rw [if_neg (show ¬ p1 < 0 from h1), if_pos (show (7 : Int32) < p1 from h2)]
    · simp only [md_edge, zq_letP, hin', th_r, th_c1, d10, d00, ↓reduceIte]
end
