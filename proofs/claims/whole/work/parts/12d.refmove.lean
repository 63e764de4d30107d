/-! THE REFERENCE'S MOVE by numbers -/
theorem zq_max0 {a b : Nat} (ha : a < 1073741824) (hb : b < 1073741824) : mt_max 0 (nI a - nI b) = nI (a - b) := by
  unfold mt_max
  by_cases h : b ≤ a
  · rw [pk_sub h]
    by_cases e : 0 < a - b
    · rw [if_pos (by show nI 0 < nI (a - b); rw [zq_lt (by decide) (by omega)]; exact e)]
    · rw [if_neg (by show ¬ nI 0 < nI (a - b); rw [zq_lt (by decide) (by omega)]; exact e)]
      have : a - b = 0 := by omega
      rw [this]; rfl
  · have hn := pk_sneg (a := a) (b := b) hb (by omega)
    rw [if_neg (by
      intro q
      rw [fa_lt] at q hn
      omega)]
    have : a - b = 0 := by omega
    rw [this]; rfl
theorem zq_min {x : Nat} {a : Nat} (hx : x < 2147483648) (ha : a < 2147483648) : mt_min (nI x) (nI a) = nI (min x a) := by
  unfold mt_min
  by_cases h : a < x
  · rw [if_pos (by rw [zq_lt ha hx]; exact h), Nat.min_eq_right (by omega)]
  · rw [if_neg (by rw [zq_lt ha hx]; exact h), Nat.min_eq_left (by omega)]
theorem zq_max {x : Nat} {a : Nat} (hx : x < 2147483648) (ha : a < 2147483648) : mt_max (nI x) (nI a) = nI (max x a) := by
  unfold mt_max
  by_cases h : x < a
  · rw [if_pos (by rw [zq_lt hx ha]; exact h), Nat.max_eq_right (by omega)]
  · rw [if_neg (by rw [zq_lt hx ha]; exact h), Nat.max_eq_left (by omega)]
theorem md_lessN {a b : Nat} (ha : a < 1073741824) (hb : b < 1073741824) : md_less (nI a) (nI b) = nI (a - b) := zq_max0 ha hb
theorem md_deepN {a b : Nat} (ha : a < 1073741824) (hb : b < 1073741824) : md_deeper (nI a) (nI b) = nI (min 9 (a + b)) := by
  unfold md_deeper
  rw [nI_add]
  exact zq_min (x := 9) (by decide) (by omega)
theorem zq_thin {a b : Nat} (ha : a < 1073741824) (hb : b < 1073741824) : mt_max 0 (mt_min 5 (nI a - nI b)) = nI (min 5 (a - b)) := by
  by_cases h : b ≤ a
  · rw [pk_sub h, show (5 : Int32) = nI 5 from rfl, zq_min (by decide) (by omega), show (0 : Int32) = nI 0 from rfl, zq_max (by decide) (by omega)]
    exact congrArg nI (by omega)
  · have hn := pk_sneg (a := a) (b := b) hb (by omega)
    have e1 : mt_min 5 (nI a - nI b) = nI a - nI b := by
      unfold mt_min
      rw [if_pos (by rw [fa_lt] at hn ⊢; have : (5 : Int32).toInt = 5 := by decide
                     have : (0 : Int32).toInt = 0 := by decide
                     omega)]
    rw [e1, zq_max0 ha hb]
    have : a - b = 0 := by omega
    rw [this]; rfl
/-- the move of the two legs, the sand, lying -/
def mv4 (W : Nat → Nat) (m : lwM) (ca wa mv lg d0 d1 th ly : Nat) : Nat × Nat × Nat × Nat :=
  if mv < 5 ∧ lg = 1 then ((mv_r W m ca wa mv d1 d0 th ly).2.1, (mv_r W m ca wa mv d1 d0 th ly).1, (mv_r W m ca wa mv d1 d0 th ly).2.2) else mv_r W m ca wa mv d0 d1 th ly
theorem ps4_un {d0 d1 th ly : Nat} (h1 : d1 ≤ 9) (h2 : th ≤ 5) (h3 : ly ≤ 1) : ps4 d0 d1 th ly / 120 = d0 ∧ ps4 d0 d1 th ly / 12 % 10 = d1 ∧ ps4 d0 d1 th ly / 2 % 6 = th ∧ ps4 d0 d1 th ly % 2 = ly := by
  unfold ps4
  refine ⟨?_, ?_, ?_, ?_⟩ <;> omega
theorem mv_s4 {W : Nat → Nat} {m : lwM} {ca wa mv lg d0 d1 th ly : Nat} (h1 : d1 ≤ 9) (h2 : th ≤ 5) (h3 : ly ≤ 1) : mv_s W m ca wa mv lg (ps4 d0 d1 th ly) = ps4 (mv4 W m ca wa mv lg d0 d1 th ly).1 (mv4 W m ca wa mv lg d0 d1 th ly).2.1 (mv4 W m ca wa mv lg d0 d1 th ly).2.2.1 (mv4 W m ca wa mv lg d0 d1 th ly).2.2.2 := by
  obtain ⟨e1, e2, e3, e4⟩ := ps4_un (d0 := d0) h1 h2 h3
  unfold mv_s mv4
  rw [e1, e2, e3, e4]
  split <;> rfl
theorem mv_r_le {W : Nat → Nat} {m : lwM} {ca wa mv ow ot th ly : Nat} (h1 : ow ≤ 9) (h3 : ly ≤ 1) : (mv_r W m ca wa mv ow ot th ly).1 ≤ 9 ∧ (mv_r W m ca wa mv ow ot th ly).2.1 ≤ 9 ∧ (mv_r W m ca wa mv ow ot th ly).2.2.1 ≤ 5 ∧ (mv_r W m ca wa mv ow ot th ly).2.2.2 ≤ 1 := by
  unfold mv_r
  refine ⟨?_, ?_, ?_, ?_⟩
  · show (if 5 ≤ mv then _ else _) ≤ 9
    split <;> omega
  · show (if 5 ≤ mv then _ else _) ≤ 9
    split <;> omega
  · exact Nat.min_le_left _ _
  · show (if mv = 6 then 1 else if mv = 0 ∨ mv = 3 ∨ mv = 4 then 0 else ly) ≤ 1
    split
    · exact Nat.le_refl _
    · split <;> omega
theorem mv4_le {W : Nat → Nat} {m : lwM} {ca wa mv lg d0 d1 th ly : Nat} (h0 : d0 ≤ 9) (h1 : d1 ≤ 9) (h3 : ly ≤ 1) : (mv4 W m ca wa mv lg d0 d1 th ly).1 ≤ 9 ∧ (mv4 W m ca wa mv lg d0 d1 th ly).2.1 ≤ 9 ∧ (mv4 W m ca wa mv lg d0 d1 th ly).2.2.1 ≤ 5 ∧ (mv4 W m ca wa mv lg d0 d1 th ly).2.2.2 ≤ 1 := by
  have a := mv_r_le (W := W) (m := m) (ca := ca) (wa := wa) (mv := mv) (ow := d1) (ot := d0) (th := th) h1 h3
  have b := mv_r_le (W := W) (m := m) (ca := ca) (wa := wa) (mv := mv) (ow := d0) (ot := d1) (th := th) h0 h3
  unfold mv4
  split
  · exact ⟨a.2.1, a.1, a.2.2⟩
  · exact b
theorem mv_s_lt {W : Nat → Nat} {m : lwM} {ca wa mv lg v : Nat} (hv : v < 1200) : mv_s W m ca wa mv lg v < 1200 := by
  have e : v = ps4 (v / 120) (v / 12 % 10) (v / 2 % 6) (v % 2) := by unfold ps4; omega
  rw [e, mv_s4 (by omega) (by omega) (by omega)]
  have := mv4_le (W := W) (m := m) (ca := ca) (wa := wa) (mv := mv) (lg := lg) (d0 := v / 120) (d1 := v / 12 % 10) (th := v / 2 % 6) (ly := v % 2) (by omega) (by omega) (by omega)
  unfold ps4
  omega
def dpt (c : Nat → Nat → Int32) (d0 d1 th ly : Nat) : Prop := c 9 0 = nI d0 ∧ c 9 1 = nI d1 ∧ c 0 19 = nI th ∧ c 0 20 = nI ly
def ly_r (mv ly : Nat) : Nat := if mv = 6 then 1 else if mv = 0 ∨ mv = 3 ∨ mv = 4 then 0 else ly
theorem mv_tail {q : Nat → Nat → Int32} {mv ly : Nat} {x : Int32} (hmv : mv ≤ 6) (hly : ly ≤ 1) (h20 : q 0 20 = nI ly) :
    (if nI mv = (6 : Int32) then some (bk_w (bk_w q 0 19 x) 0 20 1, (0 : Int32)) else (if (bk_w q 0 19 x) 0 20 = 0 then some (bk_w (bk_w q 0 19 x) 0 20 0, 0) else (if nI mv = (1 : Int32) then some (bk_w (bk_w q 0 19 x) 0 20 1, 0) else (if nI mv = (2 : Int32) then some (bk_w (bk_w q 0 19 x) 0 20 1, 0) else (if nI mv = (5 : Int32) then some (bk_w (bk_w q 0 19 x) 0 20 1, 0) else some (bk_w (bk_w q 0 19 x) 0 20 0, 0)))))) = some (bk_w (bk_w q 0 19 x) 0 20 (nI (ly_r mv ly)), 0) := by
  have h : (bk_w q 0 19 x) 0 20 = nI ly := by rw [bk_w_at (by decide)]; exact h20
  rw [h]
  have hm : mv = 0 ∨ mv = 1 ∨ mv = 2 ∨ mv = 3 ∨ mv = 4 ∨ mv = 5 ∨ mv = 6 := by omega
  have hl : ly = 0 ∨ ly = 1 := by omega
  rcases hm with rfl | rfl | rfl | rfl | rfl | rfl | rfl <;> rcases hl with rfl | rfl <;> rfl
theorem md_ofMoveN {c : Nat → Nat → Int32} {mv i : Nat} {x : Int32} (hmv : mv ≤ 6) (hi : i < 4) (hx : x = nI i) : md_ofMove_r c (nI mv) x = c 1 (17 + 4 * mv + i) ∧ ky_inB ((17 + (4 * nI mv)) + x) 2247 = true := by
  have e : (17 : Int32) + 4 * nI mv + x = nI (17 + 4 * mv + i) := by
    rw [hx]
    show nI 17 + nI 4 * nI mv + nI i = _
    rw [pk_mul, nI_add, nI_add]
  unfold md_ofMove_r
  rw [e, zq_cl (by omega)]
  exact ⟨rfl, zq_inBt (by omega) (by decide)⟩
set_option maxRecDepth 20000 in
set_option maxHeartbeats 4000000 in
theorem mv_ref {N : Nat} {c : Nat → Nat → Int32} {W : Nat → Nat} {m : lwM} {ca wa mv lg d0 d1 th ly : Nat} (hN : 1000 ≤ N) (L : ref_law c m) (hmv : mv ≤ 6) (hlg : lg ≤ 1) (hd : d0 ≤ 9 ∧ d1 ≤ 9 ∧ th ≤ 5 ∧ ly ≤ 1 ∧ ca ≤ 9 ∧ wa ≤ 9) (D : dpt c d0 d1 th ly) (h4 : c 1 4 = nI ca) (h5 : c 1 5 = nI wa) (hW : ∀ i, i < 3 → c 1 (17 + 4 * mv + i) = nI (W (17 + 4 * mv + i)) ∧ W (17 + 4 * mv + i) ≤ 9) :
    ∃ c', md_movesBy N c (nI mv) (nI lg) = some (c', 0) ∧ dpt c' (mv4 W m ca wa mv lg d0 d1 th ly).1 (mv4 W m ca wa mv lg d0 d1 th ly).2.1 (mv4 W m ca wa mv lg d0 d1 th ly).2.2.1 (mv4 W m ca wa mv lg d0 d1 th ly).2.2.2 ∧ (∀ q, q ≠ 8 → q ≠ 9 → q ≠ 0 → c' q = c q) ∧ ∀ j, j ≠ 19 → j ≠ 20 → c' 0 j = c 0 j := by
  obtain ⟨b0, b1, b2, b3, b4, b5⟩ := hd
  obtain ⟨D0, D1, D2, D3⟩ := D
  have w0 := hW 0 (by decide); have w1 := hW 1 (by decide); have w2 := hW 2 (by decide)
  have a1 : W (17 + 4 * mv + 1) = W (18 + 4 * mv) := by congr 1; omega
  have a2 : W (17 + 4 * mv + 2) = W (19 + 4 * mv) := by congr 1; omega
  rw [Nat.add_zero] at w0
  rw [a1] at w1
  rw [a2] at w2
  -- the leg that is its own
  have main : ∀ (l o w : Nat), l ≤ 1 → (mv < 5 ∧ l = lg ∨ 5 ≤ mv ∧ l = 0) → c 9 l = nI o → c 9 (1 - l) = nI w → o ≤ 9 → w ≤ 9 →
      ∃ c', md_movesBy N c (nI mv) (nI lg) = some (c', 0) ∧ c' 9 l = nI (mv_r W m ca wa mv o w th ly).1 ∧ c' 9 (1 - l) = nI (mv_r W m ca wa mv o w th ly).2.1 ∧ c' 0 19 = nI (mv_r W m ca wa mv o w th ly).2.2.1 ∧ c' 0 20 = nI (mv_r W m ca wa mv o w th ly).2.2.2 ∧ (∀ q, q ≠ 8 → q ≠ 9 → q ≠ 0 → c' q = c q) ∧ ∀ j, j ≠ 19 → j ≠ 20 → c' 0 j = c 0 j := by
    intro l o w hl hlm ho hw ho9 hw9
    have hs : lw_sml (lw_env mv o w th ca wa ly) := ⟨hmv, ho9, hw9, b2, b4, b5, b3⟩
    have E : ref_env c (lw_env mv o w th ca wa ly) l := ⟨hl, ho, hw, D2, h4, h5, D3⟩
    have envc : ∀ c1 : Nat → Nat → Int32, (∀ q, q ≠ 8 → c1 q = c q) → ref_env c1 (lw_env mv o w th ca wa ly) l ∧ ref_law c1 m := fun c1 h => by
      unfold ref_env ref_law
      rw [h 9 (by decide), h 0 (by decide), h 1 (by decide)]; exact ⟨E, L⟩
    obtain ⟨c1, f1, g1⟩ := rf_sum (w := 0) hN L E hs (by decide)
    obtain ⟨c2, f2, g2⟩ := rf_sum (w := 1) hN (envc c1 g1).2 (envc c1 g1).1 hs (by decide)
    have g2' : ∀ q, q ≠ 8 → c2 q = c q := fun q hq => (g2 q hq).trans (g1 q hq)
    obtain ⟨c3, f3, g3⟩ := rf_sum (w := 2) hN (envc c2 g2').2 (envc c2 g2').1 hs (by decide)
    have g3' : ∀ q, q ≠ 8 → c3 q = c q := fun q hq => (g3 q hq).trans (g2' q hq)
    obtain ⟨c4, f4, g4⟩ := rf_sum (w := 3) hN (envc c3 g3').2 (envc c3 g3').1 hs (by decide)
    have g4' : ∀ q, q ≠ 8 → c4 q = c q := fun q hq => (g4 q hq).trans (g3' q hq)
    have s0 := ref_law_le L 0 (lw_env mv o w th ca wa ly)
    have s1 := ref_law_le L 1 (lw_env mv o w th ca wa ly)
    have s2 := ref_law_le L 2 (lw_env mv o w th ca wa ly)
    have s3 := ref_law_le L 3 (lw_env mv o w th ca wa ly)
    have rv : mv_r W m ca wa mv o w th ly = (if 5 ≤ mv then min 9 (o - (W (17 + 4 * mv) + lw_S m 0 (lw_env mv o w th ca wa ly)) + (W (18 + 4 * mv) + lw_S m 1 (lw_env mv o w th ca wa ly))) else o - (W (17 + 4 * mv) + lw_S m 0 (lw_env mv o w th ca wa ly)), if 5 ≤ mv then min 9 (w - (W (17 + 4 * mv) + lw_S m 0 (lw_env mv o w th ca wa ly)) + (W (18 + 4 * mv) + lw_S m 1 (lw_env mv o w th ca wa ly))) else min 9 (w + (W (18 + 4 * mv) + lw_S m 1 (lw_env mv o w th ca wa ly))), min 5 (th + W (19 + 4 * mv) + lw_S m 2 (lw_env mv o w th ca wa ly) - lw_S m 3 (lw_env mv o w th ca wa ly)), ly_r mv ly) := rfl
    rw [rv]
    generalize lw_S m 0 (lw_env mv o w th ca wa ly) = S0 at *
    generalize lw_S m 1 (lw_env mv o w th ca wa ly) = S1 at *
    generalize lw_S m 2 (lw_env mv o w th ca wa ly) = S2 at *
    generalize lw_S m 3 (lw_env mv o w th ca wa ly) = S3 at *
    have f1' : md_sumOf N c 0 (nI mv) (nI l) = some (c1, nI S0) := f1
    have f2' : md_sumOf N c1 1 (nI mv) (nI l) = some (c2, nI S1) := f2
    have f3' : md_sumOf N c2 2 (nI mv) (nI l) = some (c3, nI S2) := f3
    have f4' : md_sumOf N c3 3 (nI mv) (nI l) = some (c4, nI S3) := f4
    have o0 := fun c : Nat → Nat → Int32 => md_ofMoveN (c := c) (i := 0) (x := 0) hmv (by decide) rfl
    have o1 := fun c : Nat → Nat → Int32 => md_ofMoveN (c := c) (i := 1) (x := 1) hmv (by decide) rfl
    have o2 := fun c : Nat → Nat → Int32 => md_ofMoveN (c := c) (i := 2) (x := 2) hmv (by decide) rfl
    have x1 : md_ofMove_r c (nI mv) 0 + nI S0 = nI (W (17 + 4 * mv) + S0) := by rw [(o0 c).1, Nat.add_zero, w0.1, nI_add]
    have x2 : md_ofMove_r c1 (nI mv) 1 + nI S1 = nI (W (18 + 4 * mv) + S1) := by rw [(o1 c1).1, g1 1 (by decide), w1.1, nI_add]
    have x3 : c2 0 19 + md_ofMove_r c2 (nI mv) 2 + nI S2 - nI S3 = nI (th + W (19 + 4 * mv) + S2) - nI S3 := by rw [(o2 c2).1, g2' 1 (by decide), g2' 0 (by decide), w2.1, D2, nI_add, nI_add]
    have e20 : c4 0 20 = nI ly := by rw [g4' 0 (by decide)]; exact D3
    have e9 : c4 9 = c 9 := g4' 9 (by decide)
    unfold md_movesBy
    simp only [zq_let]
    rcases hlm with ⟨hm, rfl⟩ | ⟨hm, rfl⟩
    · have n0 : md_isOfNone (nI mv) = 0 := by
        unfold md_isOfNone; rw [if_pos (by show nI mv < nI 5; rw [zq_lt (by omega) (by decide)]; exact hm)]
      have e1l : (1 : Int32) - nI l = nI (1 - l) := pk_sub (a := 1) hl
      rw [if_pos n0, if_pos (o0 c).2, f1']
      simp only [zq_bind]
      rw [if_pos (o1 c).2, f2']
      simp only [zq_bind]
      rw [if_pos (o2 c).2, f3']
      simp only [zq_bind]
      rw [f4']
      simp only [zq_bind]
      rw [x1, x2, x3, if_pos (zq_inBt (show l < 2 by omega) (by decide)), zq_cl (n := l) (by omega), if_pos n0, e1l, if_pos (zq_inBt (show 1 - l < 2 by omega) (by decide)), zq_cl (n := 1 - l) (by omega), e9, ho, md_lessN (by omega) (by omega), bk_w_at (show 1 - l ≠ l by omega), e9, hw, md_deepN (by omega) (by omega), zq_thin (by omega) (by omega)]
      rw [mv_tail hmv b3 (by rw [bk_w_ne (by decide), bk_w_ne (by decide)]; exact e20)]
      refine ⟨_, rfl, ?_, ?_, ?_, ?_, fun q h8 h9 h0 => ?_, fun j hj1 hj2 => ?_⟩
      · rw [bk_w_ne (by decide), bk_w_ne (by decide), bk_w_at (show l ≠ 1 - l by omega), bk_w_same, if_neg (by omega)]
      · rw [bk_w_ne (by decide), bk_w_ne (by decide), bk_w_same, if_neg (by omega)]
      · rw [bk_w_at (by decide), bk_w_same]
      · rw [bk_w_same]
      · rw [bk_w_ne h0, bk_w_ne h0, bk_w_ne h9, bk_w_ne h9, g4' q h8]
      · rw [bk_w_at hj2, bk_w_at hj1, bk_w_ne (by decide), bk_w_ne (by decide), g4' 0 (by decide)]
    · have n0 : ¬ md_isOfNone (nI mv) = 0 := by
        unfold md_isOfNone; rw [if_neg (by show ¬ nI mv < nI 5; rw [zq_lt (by omega) (by decide)]; omega)]; decide
      rw [if_neg n0, if_pos (o0 c).2, show md_sumOf N c 0 (nI mv) 0 = some (c1, nI S0) from f1']
      simp only [zq_bind]
      rw [if_pos (o1 c).2, show md_sumOf N c1 1 (nI mv) 0 = some (c2, nI S1) from f2']
      simp only [zq_bind]
      rw [if_pos (o2 c).2, show md_sumOf N c2 2 (nI mv) 0 = some (c3, nI S2) from f3']
      simp only [zq_bind]
      rw [show md_sumOf N c3 3 (nI mv) 0 = some (c4, nI S3) from f4']
      simp only [zq_bind]
      have i1 : ky_inB ((1 : Int32) - 0) 2 = true := by decide
      have i2 : ((1 : Int32) - 0).toNatClampNeg = 1 := by decide
      have hw1 : c 9 1 = nI w := hw
      have u1 : md_less (c4 9 0) (nI (W (17 + 4 * mv) + S0)) = nI (o - (W (17 + 4 * mv) + S0)) := by rw [e9, ho, md_lessN (by omega) (by omega)]
      rw [x1, x2, x3, if_neg n0, if_pos i1, i2, u1]
      have u2 : md_deeper (bk_w c4 9 0 (nI (o - (W (17 + 4 * mv) + S0))) 9 0) (nI (W (18 + 4 * mv) + S1)) = nI (min 9 (o - (W (17 + 4 * mv) + S0) + (W (18 + 4 * mv) + S1))) := by rw [bk_w_same, md_deepN (by omega) (by omega)]
      rw [u2]
      have u3 : ∀ x y : Int32, md_less (bk_w (bk_w c4 9 0 x) 9 0 y 9 1) (nI (W (17 + 4 * mv) + S0)) = nI (w - (W (17 + 4 * mv) + S0)) := fun x y => by rw [bk_w_at (by decide), bk_w_at (by decide), e9, hw1, md_lessN (by omega) (by omega)]
      rw [u3]
      have u4 : ∀ q : Nat → Nat → Int32, md_deeper (bk_w q 9 1 (nI (w - (W (17 + 4 * mv) + S0))) 9 1) (nI (W (18 + 4 * mv) + S1)) = nI (min 9 (w - (W (17 + 4 * mv) + S0) + (W (18 + 4 * mv) + S1))) := fun q => by rw [bk_w_same, md_deepN (by omega) (by omega)]
      rw [u4, zq_thin (by omega) (by omega)]
      rw [mv_tail hmv b3 (by rw [bk_w_ne (by decide), bk_w_ne (by decide), bk_w_ne (by decide), bk_w_ne (by decide)]; exact e20)]
      refine ⟨_, rfl, ?_, ?_, ?_, ?_, fun q h8 h9 h0 => ?_, fun j hj1 hj2 => ?_⟩
      · rw [bk_w_ne (by decide), bk_w_ne (by decide), bk_w_at (by decide), bk_w_at (by decide), bk_w_same, if_pos hm]
      · rw [bk_w_ne (by decide), bk_w_ne (by decide), show (1 - 0 : Nat) = 1 from rfl, bk_w_same, if_pos hm]
      · rw [bk_w_at (by decide), bk_w_same]
      · rw [bk_w_same]
      · rw [bk_w_ne h0, bk_w_ne h0, bk_w_ne h9, bk_w_ne h9, bk_w_ne h9, bk_w_ne h9, g4' q h8]
      · rw [bk_w_at hj2, bk_w_at hj1, bk_w_ne (by decide), bk_w_ne (by decide), bk_w_ne (by decide), bk_w_ne (by decide), g4' 0 (by decide)]
  by_cases h : mv < 5 ∧ lg = 1
  · obtain ⟨hm, rfl⟩ := h
    obtain ⟨c', k1, k2, k3, k4, k5, k6, k7⟩ := main 1 d1 d0 (by decide) (.inl ⟨hm, rfl⟩) D1 D0 b1 b0
    refine ⟨c', k1, ?_, k6, k7⟩
    unfold mv4
    rw [if_pos ⟨hm, rfl⟩]
    exact ⟨k3, k2, k4, k5⟩
  · obtain ⟨c', k1, k2, k3, k4, k5, k6, k7⟩ := main 0 d0 d1 (by decide) (by
      by_cases hm : mv < 5
      · exact .inl ⟨hm, by omega⟩
      · exact .inr ⟨by omega, rfl⟩) D0 D1 b0 b1
    refine ⟨c', k1, ?_, k6, k7⟩
    unfold mv4
    rw [if_neg h]
    exact ⟨k2, k3, k4, k5⟩
