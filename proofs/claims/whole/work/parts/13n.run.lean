/-! WOULD, RUN, BETTER, FORCE -/
/-- the reference looks at the state v -/
def dpv (c : Nat → Nat → Int32) (v : Nat) : Prop := dpt c (v / 120) (v / 12 % 10) (v / 2 % 6) (v % 2)
section
variable {N X j : Nat} {s s' : sk_S} {c c' c0 : Nat → Nat → Int32} {W W' W0 : Nat → Nat} {sd sd' sd0 : Int32} {m m' : lwM} {sb : Nat} {mi mv lg v : Nat}
theorem dpv_now (R : rwd c W sd m) : dpv (md_looks_c c) (psN W) ∧ kpp c (md_looks_c c) := by
  obtain ⟨D, K⟩ := looks_rk R
  obtain ⟨u0, u1, u2, u3⟩ := psN_un R.2.1
  unfold dpv
  rw [u0, u1, u2, u3]
  exact ⟨D, fun q h0 _ h9 _ _ => K.1 q h0 h9, K.2⟩
theorem dpv_move (hN : 1000 ≤ N) (R : rwd c W sd m) (hmv : mv ≤ 6) (hlg : lg ≤ 1) (hv : v < 1200) (D : dpv c v) : ∃ c', md_movesBy N c (nI mv) (nI lg) = some (c', 0) ∧ dpv c' (mv_s W m (W 4) (W 5) mv lg v) ∧ kpp c c' := by
  obtain ⟨c', a1, a2, a3, a4⟩ := rw_move (N := N) hN R hmv hlg ⟨by omega, by omega, by omega, by omega⟩ D
  refine ⟨c', a1, ?_, fun q h0 h8 h9 _ _ => a3 q h8 h9 h0, a4⟩
  have hle := mv4_le (W := W) (m := m) (ca := W 4) (wa := W 5) (mv := mv) (lg := lg) (d0 := v / 120) (d1 := v / 12 % 10) (th := v / 2 % 6) (ly := v % 2) (by omega) (by omega) (by omega)
  have e : v = ps4 (v / 120) (v / 12 % 10) (v / 2 % 6) (v % 2) := by unfold ps4; omega
  have e4 : mv_s W m (W 4) (W 5) mv lg v = ps4 (mv4 W m (W 4) (W 5) mv lg (v / 120) (v / 12 % 10) (v / 2 % 6) (v % 2)).1 (mv4 W m (W 4) (W 5) mv lg (v / 120) (v / 12 % 10) (v / 2 % 6) (v % 2)).2.1 (mv4 W m (W 4) (W 5) mv lg (v / 120) (v / 12 % 10) (v / 2 % 6) (v % 2)).2.2.1 (mv4 W m (W 4) (W 5) mv lg (v / 120) (v / 12 % 10) (v / 2 % 6) (v % 2)).2.2.2 := by
    have := mv_s4 (W := W) (m := m) (ca := W 4) (wa := W 5) (mv := mv) (lg := lg) (d0 := v / 120) (d1 := v / 12 % 10) (th := v / 2 % 6) (ly := v % 2) (by omega) (by omega) (by omega)
    rw [← e] at this; exact this
  obtain ⟨q0, q1, q2, q3⟩ := ps4_un (d0 := (mv4 W m (W 4) (W 5) mv lg (v / 120) (v / 12 % 10) (v / 2 % 6) (v % 2)).1) hle.2.1 hle.2.2.1 hle.2.2.2
  unfold dpv
  rw [e4, q0, q1, q2, q3]
  exact a2
theorem dpv_out (D : dpv c v) (hv : v < 1200) : md_isOutNow_r c = if v < 12 then 1 else 0 := by
  unfold md_isOutNow_r
  rw [D.1, D.2.1]
  have z0 : (nI (v / 120) = (0 : Int32)) = (v / 120 = 0) := zq_eq (b := 0) (by omega) (by decide)
  have z1 : (nI (v / 12 % 10) = (0 : Int32)) = (v / 12 % 10 = 0) := zq_eq (b := 0) (by omega) (by decide)
  simp only [z0, z1]
  by_cases h : v < 12
  · rw [if_pos h, if_pos (by omega), if_pos (by omega)]
  · rw [if_neg h]
    by_cases h0 : v / 120 = 0
    · rw [if_pos h0, if_neg (by omega)]
    · rw [if_neg h0]
/-- the class's state behind a move -/
theorem cf_after (hN : 1000 ≤ N) (R : RA X s c W sd m) (hmv : mv ≤ 6) (hlg : lg ≤ 1) (hv : v < 1200) : ∃ s', x6_after N s (X + 14) (nI v) (nI mv) (nI lg) (sk_c s (X + 13) 1) (sk_c s (X + 13) 2) = some (s', nI (mv_s W m (W 4) (W 5) mv lg v)) ∧ RA X s' c W sd m ∧ (∀ sb, R_way X s W m sb → R_way X s' W m sb) ∧ siz X s s' := by
  have hw := wd_of R
  have hmw := wd_mv hw hmv
  obtain ⟨-, b1, b2, -⟩ := bd_of R.1
  obtain ⟨s1, a1, a2⟩ := cl_after (N := N) (z := X + 14) (s := s) (W := W) (m := m) (v := v) (mv := mv) (lg := lg) (ca := W 4) (wa := W 5) hN (ly_X7_l1 (ly_X11_l3 R.1.1)) (lw_cl R.1.2.2.2.2) hv hmv hlg hw.1.2.2.2.2.1 hw.1.2.2.2.2.2.1 (fun i hi => by
    rw [nm_of R.1 _ (by omega)]
    refine ⟨rfl, ?_⟩
    have : i = 0 ∨ i = 1 ∨ i = 2 := by omega
    rcases this with rfl | rfl | rfl
    · exact hmw.1
    · rw [show 17 + (4 * mv + 1) = 18 + 4 * mv by omega]; exact hmw.2.1
    · rw [show 17 + (4 * mv + 2) = 19 + 4 * mv by omega]; omega)
  obtain ⟨R1, Rw1, z1⟩ := aside R (a2.mono (fun b k h => .inr h))
  rw [b1, b2]
  exact ⟨s1, a1, R1, Rw1, z1⟩
theorem partC {p : Nat} (hv : v < 1200) (hp : p ≤ 3) : x5_part N s (nI v) (nI p) = some (s, nI (if p = 0 then v / 120 else if p = 1 then v / 12 % 10 else if p = 2 then v / 2 % 6 else v % 2)) := by
  unfold x5_part
  rw [po_d0N hv, po_d1N hv, po_thN hv, po_lyN hv]
  have : p = 0 ∨ p = 1 ∨ p = 2 ∨ p = 3 := by omega
  rcases this with rfl | rfl | rfl | rfl
  · rw [if_pos (by decide)]; rfl
  · rw [if_neg (by decide), if_pos (by decide)]; rfl
  · rw [if_neg (by decide), if_neg (by decide), if_pos (by decide)]; rfl
  · rw [if_neg (by decide), if_neg (by decide), if_neg (by decide)]; rfl
theorem nI0 : (nI 0 = (0 : Int32)) = True := eq_true rfl
set_option maxRecDepth 20000 in
set_option maxHeartbeats 4000000 in
theorem sm_would_ok (hN : 2000000000 ≤ N) : sm_would X N (RR X) := by
  intro j s c hj ⟨_, Z, W, sd, m, R, Rw⟩ p1 p2 p3
  have R0 := rwd_0 R
  have hps := psN_lt (wd_of R)
  rcases mvC p1 with ⟨n, hn, rfl, m1, m2⟩ | ⟨m1, m2⟩
  · rcases lgC p2 with ⟨k, hk, rfl, l1, l2⟩ | ⟨l1, l2⟩
    · rcases rngC 0 3 (by decide) (by decide) p3 with ⟨p, _, hp, rfl, hin⟩ | ⟨hin, hout⟩
      · have hin' : md_in (nI p) 0 3 = 1 := hin
        have le3 : nI p ≤ (3 : Int32) := by show nI p ≤ nI 3; rw [zq_le (by omega) (by decide)]; omega
        obtain ⟨s2, a1, a2, a3, a4⟩ := cf_after (N := N) (mv := n) (lg := k) (by omega) R hn hk hps
        obtain ⟨D, K⟩ := dpv_now R0
        obtain ⟨c2, b1, b2, b3⟩ := dpv_move (N := N) (mv := n) (lg := k) (by omega) (rwd_k R0 K.c1) hn hk hps D
        have hv := mv_s_lt (W := W) (m := m) (ca := W 4) (wa := W 5) (mv := n) (lg := k) hps
        generalize mv_s W m (W 4) (W 5) n k (psN W) = v at *
        have pc := partC (N := N) (s := s2) hv hp
        refine ⟨s2, c2, .inl (some (.int (nI (if p = 0 then v / 120 else if p = 1 then v / 12 % 10 else if p = 2 then v / 2 % 6 else v % 2)))), nI (if p = 0 then v / 120 else if p = 1 then v / 12 % 10 else if p = 2 then v / 2 % 6 else v % 2), ?_, ?_, .inl ⟨rfl, ?_⟩, RR_siz hj Z a4 (RA_c a2 ((ceq_0.tr K.ceq).tr b3.ceq)) (a3 _ Rw)⟩
        · unfold x11_would
          rw [if_pos R.1.1, m1, if_neg (by decide), l1, if_neg (by decide), if_neg (nI_pos (by omega)), if_pos le3, (bd_of R.1).1, a1]
          simp only [zq_bindP]
          rw [pc]
          rfl
        · simp only [md_would, zq_letP, m2, l2, hin', th_r, th_c0, th_c1, d10, d00, ↓reduceIte, b1, zq_bindP]
          have : p = 0 ∨ p = 1 ∨ p = 2 ∨ p = 3 := by omega
          rcases this with rfl | rfl | rfl | rfl
          · rw [if_neg (by decide), if_pos (by decide)]; exact congrArg (fun q => some (c2, q)) b2.1
          · rw [if_neg (by decide), if_pos (by decide)]; exact congrArg (fun q => some (c2, q)) b2.2.1
          · rw [if_pos (by decide), if_pos (by decide)]; exact congrArg (fun q => some (c2, q)) b2.2.2.1
          · rw [if_pos (by decide), if_neg (by decide), b2.2.2.2]
            have : v % 2 = 0 ∨ v % 2 = 1 := by omega
            rcases this with h | h
            · rw [h, if_pos (by decide)]; rfl
            · rw [h, if_neg (by decide)]; rfl
        · rw [b3.2 0 (by decide) (by decide), K.2 0 (by decide) (by decide), bk_w_same]
      · have hin' : md_in p3 0 3 = 0 := hin
        refine ⟨sk_rs s 6, bk_w (bk_w c 0 0 0) 0 0 2, .inr "java/util/NoSuchElementException", 0, ?_, ?_, .inr (.inr ⟨rfl, bk_w_same _ _ _ _⟩), RR_thr hj Z R Rw (thr_ceq 2)⟩
        · unfold x11_would
          rw [if_pos R.1.1, m1, if_neg (by decide), l1, if_neg (by decide)]
          rcases hout with h | ⟨h1, h2⟩
          · rw [if_pos (show p3 < 0 from h)]
          · rw [if_neg (show ¬ p3 < 0 from h1), if_neg (nlt_le (show (3 : Int32) < p3 from h2))]
        · simp only [md_would, zq_letP, m2, l2, hin', th_r, th_c0, th_c1, d10, d00, d11, ↓reduceIte]
    · refine ⟨sk_rs s 6, bk_w (bk_w c 0 0 0) 0 0 1, .inr "java/lang/IndexOutOfBoundsException", 0, ?_, ?_, .inr (.inl ⟨rfl, bk_w_same _ _ _ _⟩), RR_thr hj Z R Rw (thr_ceq 1)⟩
      · unfold x11_would
        rw [if_pos R.1.1, m1, if_neg (by decide), l1, if_pos rfl]
      · simp only [md_would, zq_letP, m2, l2, th_r, th_c0, th_c1, d10, d00, d11, ↓reduceIte]
  · refine ⟨sk_rs s 6, bk_w (bk_w c 0 0 0) 0 0 1, .inr "java/lang/IndexOutOfBoundsException", 0, ?_, ?_, .inr (.inl ⟨rfl, bk_w_same _ _ _ _⟩), RR_thr hj Z R Rw (thr_ceq 1)⟩
    · unfold x11_would
      rw [if_pos R.1.1, m1, if_pos rfl]
    · simp only [md_would, zq_letP, m2, th_r, th_c0, th_c1, d10, d00, d11, ↓reduceIte]
/-! pulls -/
def plq (v f : Nat) : Nat := (max (v / 120) (v / 12 % 10) + lf f (v / 2 % 6) (v % 2) - 1) / lf f (v / 2 % 6) (v % 2)
theorem plq_le {f : Nat} (hv : v < 1200) (h : lf f (v / 2 % 6) (v % 2) ≠ 0) : plq v f ≤ 9 := by
  unfold plq
  generalize lf f (v / 2 % 6) (v % 2) = l at *
  generalize hx : max (v / 120) (v / 12 % 10) = x
  have hx9 : x ≤ 9 := by omega
  have : x + l - 1 ≤ 9 * l + (l - 1) := by
    have : 1 ≤ l := by omega
    have := Nat.mul_le_mul (Nat.le_refl 9) this
    omega
  calc (x + l - 1) / l ≤ (9 * l + (l - 1)) / l := Nat.div_le_div_right this
    _ = 9 := by rw [Nat.mul_comm, Nat.mul_add_div (by omega), Nat.div_eq_of_lt (by omega)]
theorem nIne0 {a : Nat} (h : a < 2147483648) : (nI a = (0 : Int32)) = (a = 0) := zq_eq (b := 0) h (by decide)
theorem plQ {f : Nat} (hv : v < 1200) (hf : f < 64) (h : lf f (v / 2 % 6) (v % 2) ≠ 0) : (nI (max (v / 120) (v / 12 % 10)) + nI (lf f (v / 2 % 6) (v % 2)) - 1) / nI (lf f (v / 2 % 6) (v % 2)) = nI (plq v f) := by
  have hl := lf_le (p := f) (th := v / 2 % 6) (ly := v % 2)
  unfold plq
  generalize lf f (v / 2 % 6) (v % 2) = l at *
  generalize hx : max (v / 120) (v / 12 % 10) = x
  rw [nI_add, show nI (x + l) - 1 = nI (x + l - 1) from pk_sub (b := 1) (by omega)]
  exact pk_div (by omega) (by omega) (by omega)
theorem plsC {f : Nat} (hv : v < 1200) (hf : f < 64) : x5_pullsOut N s (nI v) (nI f) = some (s, if v < 12 then 0 else if lf f (v / 2 % 6) (v % 2) = 0 then -1 else nI (plq v f)) := by
  have hl := lf_le (p := f) (th := v / 2 % 6) (ly := v % 2)
  unfold x5_pullsOut
  simp only [zq_letP]
  rw [wy_ofl _ hv, po_liftN hv hf, po_d0N hv, po_d1N hv, zq_max (by omega) (by omega)]
  by_cases h : v < 12
  · rw [if_pos h, if_neg (by decide), if_pos h]
  · rw [if_neg h, if_pos rfl, if_neg h]
    by_cases h0 : lf f (v / 2 % 6) (v % 2) = 0
    · rw [if_neg (by show ¬ nI 1 ≤ _; rw [zq_le (by decide) (by omega)]; omega), if_pos h0]
    · rw [if_pos (by show nI 1 ≤ _; rw [zq_le (by decide) (by omega)]; omega), if_pos (by rw [nIne0 (by omega)]; exact h0), plQ hv hf h0, if_neg h0]
theorem plsR {f q : Nat} (D : dpv c v) (hv : v < 1200) (hf : f < 64) : md_pullsBy_r c (nI f) (nI q) = nI (if v < 12 then 0 else if lf f (v / 2 % 6) (v % 2) = 0 then q + 1 else plq v f) := by
  have hl := lf_le (p := f) (th := v / 2 % 6) (ly := v % 2)
  unfold md_pullsBy_r
  rw [pulledN D (by omega) (by omega) hf, D.1, D.2.1, zq_max (by omega) (by omega)]
  have z1 : (nI (max (v / 120) (v / 12 % 10)) = (0 : Int32)) = (max (v / 120) (v / 12 % 10) = 0) := nIne0 (by omega)
  have z2 : (nI (lf f (v / 2 % 6) (v % 2)) = (0 : Int32)) = (lf f (v / 2 % 6) (v % 2) = 0) := nIne0 (by omega)
  simp only [z1, z2]
  by_cases h : v < 12
  · rw [if_pos (by omega), if_pos h]; rfl
  · rw [if_neg (by omega), if_neg h]
    by_cases h0 : lf f (v / 2 % 6) (v % 2) = 0
    · rw [if_pos h0, if_pos h0, nI_1]
    · rw [if_neg h0, if_neg h0, plQ hv hf h0]
theorem pl_hy {P Q : Prop} : P → ¬ Q → ¬ Q := fun _ h => h
/-- the search for a force, both -/
theorem fo_loop {p1 : Nat} (hp : p1 ≤ 30) (R : RA X s c0 W sd m) (D : dpv c (psN W)) (p2 : Int32) : ∀ (r f fuel fuel' : Nat), f + r = 21 → r < fuel → r < fuel' → 1 ≤ f → ∃ x : Int32, (x11_force_L24 N X (fun q5 x6 x7 x8 => (some (q5, (.inl (some (.int (-1))))))) fuel s (nI p1) p2 (nI f) = some (s, .inl (some (.int x)))) ∧ md_force_L36 N (fun q22 x23 x24 x25 => (some (q22, (-1)))) fuel' c (nI p1) p2 (nI f) = some (c, x) := by
  have hv := psN_lt (wd_of R)
  have b0 := (bd_of R.1).1
  intro r
  induction r with
  | zero =>
    intro f fuel fuel' h1 h2 h3 h4
    obtain ⟨fuel, rfl⟩ : ∃ q, fuel = q + 1 := ⟨fuel - 1, by omega⟩
    obtain ⟨fuel', rfl⟩ : ∃ q, fuel' = q + 1 := ⟨fuel' - 1, by omega⟩
    obtain rfl : f = 21 := by omega
    refine ⟨-1, ?_, ?_⟩
    · simp only [x11_force_L24]; rw [if_pos (by decide)]
    · simp only [md_force_L36]; rw [if_pos (by decide)]
  | succ r ih =>
    intro f fuel fuel' h1 h2 h3 h4
    obtain ⟨fuel, rfl⟩ : ∃ q, fuel = q + 1 := ⟨fuel - 1, by omega⟩
    obtain ⟨fuel', rfl⟩ : ∃ q, fuel' = q + 1 := ⟨fuel' - 1, by omega⟩
    have h20 : ¬ (20 : Int32) < nI f := by show ¬ nI 20 < nI f; rw [zq_lt (by decide) (by omega)]; omega
    have pc := plsC (N := N) (s := s) (f := f) hv (by omega)
    have pr := plsR (f := f) (q := p1) D hv (by omega)
    have hm : bo_harmOf (nI f) = mt_max 0 (nI f - 8) := rfl
    obtain ⟨x, i1, i2⟩ := ih (f + 1) fuel fuel' (by omega) (by omega) (by omega) (by omega)
    -- the number of pulls, as it is
    have hit : ∀ n : Nat, n ≤ 9 → x5_pullsOut N s (nI (psN W)) (nI f) = some (s, nI n) → md_pullsBy_r c (nI f) (nI p1) = nI n → ∃ x : Int32, (x11_force_L24 N X (fun q5 x6 x7 x8 => (some (q5, (.inl (some (.int (-1))))))) (fuel + 1) s (nI p1) p2 (nI f) = some (s, .inl (some (.int x)))) ∧ md_force_L36 N (fun q22 x23 x24 x25 => (some (q22, (-1)))) (fuel' + 1) c (nI p1) p2 (nI f) = some (c, x) := by
      intro n hn e1 e2
      have ne1 : ¬ nI n = (-1 : Int32) := by
        intro q
        have h := congrArg Int32.toInt q
        rw [nI_toInt (by omega), show (-1 : Int32).toInt = -1 from by decide] at h
        omega
      by_cases hlt : p1 < n
      · refine ⟨x, ?_, ?_⟩
        · simp only [x11_force_L24]
          rw [if_neg h20, b0, e1]
          simp only [zq_bindP, zq_letP]
          rw [if_neg ne1, if_pos (by rw [zq_lt (by omega) (by omega)]; exact hlt), nI_1]
          exact i1
        · simp only [md_force_L36, zq_letP]
          rw [if_neg h20, if_pos pl_hy, e2, if_pos (by rw [zq_lt (by omega) (by omega)]; exact hlt), nI_1]
          exact i2
      · by_cases hp2 : p2 = 0
        · refine ⟨nI f, ?_, ?_⟩
          · simp only [x11_force_L24]
            rw [if_neg h20, b0, e1]
            simp only [zq_bindP, zq_letP]
            rw [if_neg ne1, if_neg (by rw [zq_lt (by omega) (by omega)]; exact hlt), if_pos hp2]
          · simp only [md_force_L36, zq_letP]
            rw [if_neg h20, if_pos pl_hy, e2, if_neg (by rw [zq_lt (by omega) (by omega)]; exact hlt), if_pos hp2]
        · refine ⟨nI n * mt_max 0 (nI f - 8), ?_, ?_⟩
          · simp only [x11_force_L24]
            rw [if_neg h20, b0, e1]
            simp only [zq_bindP, zq_letP]
            rw [if_neg ne1, if_neg (by rw [zq_lt (by omega) (by omega)]; exact hlt), if_neg hp2, hm]
          · simp only [md_force_L36, zq_letP]
            rw [if_neg h20, if_pos pl_hy, e2, if_neg (by rw [zq_lt (by omega) (by omega)]; exact hlt), if_neg hp2]
    by_cases ho : psN W < 12
    · rw [if_pos ho] at pc pr
      exact hit 0 (by omega) pc pr
    · rw [if_neg ho] at pc pr
      by_cases h0 : lf f (psN W / 2 % 6) (psN W % 2) = 0
      · rw [if_pos h0] at pc pr
        refine ⟨x, ?_, ?_⟩
        · simp only [x11_force_L24]
          rw [if_neg h20, b0, pc]
          simp only [zq_bindP, zq_letP]
          rw [if_pos trivial, nI_1]
          exact i1
        · simp only [md_force_L36, zq_letP]
          rw [if_neg h20, if_pos pl_hy, pr, if_pos (by rw [zq_lt (by omega) (by omega)]; omega), nI_1]
          exact i2
      · rw [if_neg h0] at pc pr
        exact hit _ (plq_le hv h0) pc pr
set_option maxRecDepth 20000 in
theorem sm_force_ok (hN : 2000000000 ≤ N) : sm_force X N (RR X) := by
  intro j s c hj ⟨_, Z, W, sd, m, R, Rw⟩ p1 p2 hp2
  have R0 := rwd_0 R
  rcases rngC 1 30 (by decide) (by decide) p1 with ⟨n, h1, hn, rfl, hin⟩ | ⟨hin, hout⟩
  · have hin' : md_in (nI n) 1 30 = 1 := hin
    have g1 : ¬ nI n < (1 : Int32) := by show ¬ nI n < nI 1; rw [zq_lt (by omega) (by decide)]; omega
    have g2 : nI n ≤ (30 : Int32) := by show nI n ≤ nI 30; rw [zq_le (by omega) (by decide)]; omega
    obtain ⟨D, K⟩ := dpv_now R0
    obtain ⟨x, a1, a2⟩ := fo_loop (N := N) hn R D p2 20 1 N N (by omega) (by omega) (by omega) (by omega)
    refine ⟨s, md_looks_c (bk_w c 0 0 0), .inl (some (.int x)), x, ?_, ?_, .inl ⟨rfl, ?_⟩, RR_siz hj Z ⟨rfl, rfl, rfl⟩ (RA_c R (ceq_0.tr K.ceq)) Rw⟩
    · unfold x11_force
      rw [if_pos R.1.1, if_neg g1, if_pos g2]
      exact a1
    · have a2' : md_force_L36 N (fun q22 x23 x24 x25 => (some (q22, (-1)))) N (md_looks_c (bk_w c 0 0 0)) (nI n) p2 1 = some (md_looks_c (bk_w c 0 0 0), x) := a2
      simp only [md_force, zq_letP, hin', th_r, th_c0, th_c1, d10, d00, ↓reduceIte, a2']
    · rw [K.2 0 (by decide) (by decide), bk_w_same]
  · have hin' : md_in p1 1 30 = 0 := hin
    refine ⟨sk_rs s 6, bk_w (bk_w c 0 0 0) 0 0 1, .inr "java/lang/IllegalArgumentException", 0, ?_, ?_, .inr ⟨rfl, bk_w_same _ _ _ _⟩, RR_thr hj Z R Rw (thr_ceq 1)⟩
    · unfold x11_force
      rw [if_pos R.1.1]
      rcases hout with h | ⟨h1, h2⟩
      · rw [if_pos (show p1 < 1 from h)]
      · rw [if_neg (show ¬ p1 < 1 from h1), if_neg (nlt_le (show (30 : Int32) < p1 from h2))]
    · simp only [md_force, zq_letP, hin', th_r, th_c0, th_c1, d10, d11, d00, or_true, ↓reduceIte]
end
