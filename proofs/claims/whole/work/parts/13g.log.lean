/-! CALLS: log, led -/
section
variable {N X j : Nat} {s s' : sk_S} {c c' : Nat → Nat → Int32} {W W' : Nat → Nat} {sd sd' : Int32} {m : lwM} {sb : Nat}
theorem row_un (h : wd W) {a : Nat} (ha : a < 60) : rowN W a / 8192 = W (249 + 5 * a) ∧ rowN W a / 1024 % 8 = W (250 + 5 * a) ∧ rowN W a / 256 % 4 = W (251 + 5 * a) ∧ rowN W a / 16 % 16 = W (252 + 5 * a) ∧ rowN W a % 16 = W (253 + 5 * a) ∧ rowN W a < 100000000 := by
  obtain ⟨h1, h2, h3, h4, h5⟩ := h.2.2.2.2 a ha
  unfold rowN
  refine ⟨?_, ?_, ?_, ?_, ?_, ?_⟩ <;> omega
theorem partN {v k : Nat} (hv : v < 100000000) (hk : k ≤ 4) : x2_part N s (nI v) (nI k) = some (s, nI ([v / 8192, v / 1024 % 8, v / 256 % 4, v / 16 % 16, v % 16].getD k 0)) := by
  have : k = 0 ∨ k = 1 ∨ k = 2 ∨ k = 3 ∨ k = 4 := by omega
  have s13 : nI v >>> ((13 : Int32) &&& 31) = nI (v / 8192) := pk_shrN (by omega) _ 13 (by decide)
  have s10 : nI v >>> ((10 : Int32) &&& 31) = nI (v / 1024) := pk_shrN (by omega) _ 10 (by decide)
  have s8 : nI v >>> ((8 : Int32) &&& 31) = nI (v / 256) := pk_shrN (by omega) _ 8 (by decide)
  have s4 : nI v >>> ((4 : Int32) &&& 31) = nI (v / 16) := pk_shrN (by omega) _ 4 (by decide)
  have a7 : nI (v / 1024) &&& 7 = nI (v / 1024 % 8) := pk_andN (by omega) 3 (by decide)
  have a3 : nI (v / 256) &&& 3 = nI (v / 256 % 4) := pk_andN (by omega) 2 (by decide)
  have a15 : nI (v / 16) &&& 15 = nI (v / 16 % 16) := pk_andN (by omega) 4 (by decide)
  have b15 : nI v &&& 15 = nI (v % 16) := pk_andN (by omega) 4 (by decide)
  unfold x2_part
  rcases this with rfl | rfl | rfl | rfl | rfl
  · rw [if_pos (by decide), s13]; rfl
  · rw [if_neg (by decide), if_pos (by decide), s10, a7]; rfl
  · rw [if_neg (by decide), if_neg (by decide), if_pos (by decide), s8, a3]; rfl
  · rw [if_neg (by decide), if_neg (by decide), if_neg (by decide), if_pos (by decide), s4, a15]; rfl
  · rw [if_neg (by decide), if_neg (by decide), if_neg (by decide), if_neg (by decide), b15]; rfl
theorem rowAt {p : Nat} (S : sc_rel s p W sd) {a : Nat} (ha : a < W 15) : x2_row N s (p + 8) (nI a) = some (s, nI (rowN W a)) := by
  have b15 := S.2.1.1.2.2.2.2.2.2.2.2.2.2.2.2.2.2.2
  obtain ⟨nx, n1, n2, n3, n4⟩ := S.2.2.2.2.2.2.2.1
  have l2 := ly_X7_l3 S.1
  unfold x2_row
  simp only [zq_letP]
  rw [if_pos l2, n2]
  by_cases h : a + 1 ≤ nx
  · have e : nI nx - 1 - nI a = nI (nx - 1 - a) := by
      rw [show nI nx - 1 = nI (nx - 1) from pk_sub (b := 1) (by omega), pk_sub (by omega)]
    rw [e, if_pos (nI_pos' (by omega)), if_pos (zq_inBt (by omega) (by decide)), zq_cl (by omega)]
    have := n4 a ha
    rw [show (nx + 59 - a) % 60 = nx - 1 - a by omega] at this
    rw [show p + 8 + 1 = p + 9 by omega, this]
  · have e : nI nx - 1 - nI a = nI nx - nI (a + 1) := by rw [← nI_1, Int32.sub_sub, Int32.add_comm]
    have hneg := pk_sneg (a := nx) (b := a + 1) (by omega) (by omega)
    have e2 : nI nx - nI (a + 1) + 60 = nI (nx + 60 - (a + 1)) := by
      have e3 : nI (nx + 60 - (a + 1)) = nI (nx + 60) - nI (a + 1) := (pk_sub (by omega)).symm
      have e4 : nI (nx + 60) = nI nx + 60 := (nI_add nx 60).symm
      rw [e3, e4]
      generalize nI (a + 1) = z
      rw [Int32.sub_eq_add_neg, Int32.sub_eq_add_neg, Int32.add_assoc, Int32.add_assoc, Int32.add_comm (-z)]
    rw [e, if_neg (zq_neg.mpr hneg), e2, if_pos (zq_inBt (by omega) (by decide)), zq_cl (by omega)]
    have := n4 a ha
    rw [show (nx + 59 - a) % 60 = nx + 60 - (a + 1) by omega] at this
    rw [show p + 8 + 1 = p + 9 by omega, this]
theorem ofLogN (R : rwd c W sd m) {a k : Nat} (ha : a < 60) (hk : k ≤ 4) : md_ofLog_r c (nI a) (nI k) = nI (W (249 + 5 * a + k)) ∧ ky_inB ((249 + (5 * nI a)) + nI k) 2247 = true := by
  have e : (249 : Int32) + 5 * nI a + nI k = nI (249 + 5 * a + k) := by
    show nI 249 + nI 5 * nI a + nI k = _
    rw [pk_mul, nI_add, nI_add]
  unfold md_ofLog_r
  rw [e, zq_cl (by omega)]
  exact ⟨wv_n R.1 (by omega) (by omega), zq_inBt (by omega) (by decide)⟩
theorem row_k (h : wd W) {a k : Nat} (ha : a < 60) (hk : k ≤ 4) : [rowN W a / 8192, rowN W a / 1024 % 8, rowN W a / 256 % 4, rowN W a / 16 % 16, rowN W a % 16].getD k 0 = W (249 + 5 * a + k) := by
  obtain ⟨h1, h2, h3, h4, h5, _⟩ := row_un h ha
  have : k = 0 ∨ k = 1 ∨ k = 2 ∨ k = 3 ∨ k = 4 := by omega
  rcases this with rfl | rfl | rfl | rfl | rfl
  · exact h1
  · rw [show 249 + 5 * a + 1 = 250 + 5 * a by omega]; exact h2
  · rw [show 249 + 5 * a + 2 = 251 + 5 * a by omega]; exact h3
  · rw [show 249 + 5 * a + 3 = 252 + 5 * a by omega]; exact h4
  · rw [show 249 + 5 * a + 4 = 253 + 5 * a by omega]; exact h5
set_option maxRecDepth 20000 in
set_option maxHeartbeats 4000000 in
theorem sm_log_ok (hN : 2000000000 ≤ N) : sm_log X N (RR X) := by
  intro j s c hj ⟨_, Z, W, sd, m, R, Rw⟩ p1 p2
  have rw0 := rwd_of (RA_c R ceq_0)
  have hw := R.1.2.2.1.2.1
  have b15 := hw.1.2.2.2.2.2.2.2.2.2.2.2.2.2.2.2
  have S := R.1.2.2.1
  have w15 : bk_w c 0 0 0 1 15 = nI (W 15) := wv_n rw0.1 (by decide) (by decide)
  obtain ⟨nx, _, _, dsz, _⟩ := S.2.2.2.2.2.2.2.1
  rw [show X + 12 + 8 = X + 20 by omega] at dsz
  rcases rngC 0 4 (by decide) (by decide) p2 with ⟨k, _, hk, rfl, hin⟩ | ⟨hin, hout⟩
  · have hin' : md_in (nI k) 0 4 = 1 := hin
    have le4 : nI k ≤ (4 : Int32) := by show nI k ≤ nI 4; rw [zq_le (by omega) (by decide)]; omega
    have ge0 : ¬ nI k < 0 := nI_pos (by omega)
    -- is there such a row
    by_cases hr : ∃ a, a < W 15 ∧ p1 = nI a
    · obtain ⟨a, ha, rfl⟩ := hr
      have hl := ofLogN rw0 (a := a) (k := k) (by omega) hk
      have i1 : md_in (nI a) 0 (nI (W 15) - 1) = 1 := by
        unfold md_in
        rw [if_neg (nI_pos (by omega)), show nI (W 15) - 1 = nI (W 15 - 1) from pk_sub (b := 1) (by omega), if_neg (by rw [zq_lt (by omega) (by omega)]; omega)]
      refine ⟨s, bk_w c 0 0 0, .inl (some (.int (nI (W (249 + 5 * a + k))))), nI (W (249 + 5 * a + k)), ?_, ?_, .inl ⟨rfl, bk_w_same _ _ _ _⟩, RR_same hj Z R Rw ceq_0⟩
      · unfold x11_log
        rw [if_pos R.1.1, if_neg ge0, if_pos le4, if_neg (nI_pos (by omega)), dsz, if_pos (by rw [zq_lt (by omega) (by omega)]; exact ha), show X + 20 = X + 12 + 8 by omega, rowAt S ha]
        simp only [zq_bindP]
        rw [partN (row_un hw (by omega)).2.2.2.2.2 hk, row_k hw (by omega) hk]
        rfl
      · unfold md_logO md_log_c md_log_r
        simp only [hin', th_r, th_c0, th_c1, d10, ↓reduceIte, w15, i1, hl.1, hl.2, implies_true]
    · have i1 : md_in p1 0 (nI (W 15) - 1) = 0 := by
        unfold md_in
        by_cases h0 : p1 < 0
        · rw [if_pos h0]
        · rw [if_neg h0]
          obtain ⟨a, ha, rfl⟩ := nI_of h0
          have hge : W 15 ≤ a := Nat.le_of_not_lt (fun h => hr ⟨a, h, rfl⟩)
          rw [if_pos]
          rw [fa_lt, nI_toInt (by omega)]
          have : (nI (W 15) - 1).toInt = (W 15 : Int) - 1 := pk_sub_toInt (b := 1) (by omega) (by decide)
          omega
      refine ⟨s, bk_w c 0 0 0, .inl (some (.int (-1))), -1, ?_, ?_, .inl ⟨rfl, bk_w_same _ _ _ _⟩, RR_same hj Z R Rw ceq_0⟩
      · unfold x11_log
        rw [if_pos R.1.1, if_neg ge0, if_pos le4, dsz]
        by_cases h0 : p1 < 0
        · rw [if_pos h0]
        · rw [if_neg h0]
          obtain ⟨a, ha, rfl⟩ := nI_of h0
          have hge : W 15 ≤ a := Nat.le_of_not_lt (fun h => hr ⟨a, h, rfl⟩)
          rw [if_neg (by rw [zq_lt (by omega) (by omega)]; omega)]
      · unfold md_logO md_log_c md_log_r
        simp only [hin', th_r, th_c0, th_c1, d10, d00, ↓reduceIte, w15, i1, not_true_eq_false, false_implies, implies_true]
  · have hin' : md_in p2 0 4 = 0 := hin
    refine ⟨sk_rs s 6, bk_w (bk_w c 0 0 0) 0 0 1, _, 0, ?_, ?_, .inr ⟨rfl, bk_w_same _ _ _ _⟩, RR_thr hj Z R Rw (thr_ceq 1)⟩
    · unfold x11_log
      rw [if_pos R.1.1]
      rcases hout with h | ⟨h1, h2⟩
      · rw [if_pos (show p2 < 0 from h)]
      · rw [if_neg (show ¬ p2 < 0 from h1), if_neg (nlt_le (show (4 : Int32) < p2 from h2))]
    · unfold md_logO md_log_c md_log_r
      simp only [hin', th_r, th_c0, th_c1, d10, d00, ↓reduceIte, not_true_eq_false, false_implies, implies_true]
/-! led: how many rows of a leg; the latest of them -/
theorem ld_cls {l : Nat} (S : sc_rel s (X + 12) W sd) (hl : l ≤ 2) : ∀ (r fuel a : Nat), a + r = W 15 → r < fuel → x2_rowsOf_L4 N (X + 20) (fun q2 x3 x4 x5 => (some (q2, x4))) fuel s (nI l) (nI (cn (fun q => decide (W (251 + 5 * q) = l)) a)) (nI a) = some (s, nI (cn (fun q => decide (W (251 + 5 * q) = l)) (W 15))) := by
  have hw := S.2.1
  have b15 := hw.1.2.2.2.2.2.2.2.2.2.2.2.2.2.2.2
  obtain ⟨nx, _, _, dsz, _⟩ := S.2.2.2.2.2.2.2.1
  rw [show X + 12 + 8 = X + 20 by omega] at dsz
  intro r
  induction r with
  | zero =>
    intro fuel a ha hf
    obtain ⟨fuel, rfl⟩ : ∃ q, fuel = q + 1 := ⟨fuel - 1, by omega⟩
    have : a = W 15 := by omega
    subst this
    simp only [x2_rowsOf_L4]
    rw [dsz, if_pos (by rw [zq_le (by omega) (by omega)]; omega)]
  | succ r ih =>
    intro fuel a ha hf
    obtain ⟨fuel, rfl⟩ : ∃ q, fuel = q + 1 := ⟨fuel - 1, by omega⟩
    have hrow := rowAt (N := N) S (a := a) (by omega)
    rw [show X + 12 + 8 = X + 20 by omega] at hrow
    have h3 := (row_un hw (a := a) (by omega)).2.2.1
    have hb := (hw.2.2.2.2 a (by omega)).2.2.1
    have hpt := partN (N := N) (s := s) (k := 2) (row_un hw (a := a) (by omega)).2.2.2.2.2 (by decide)
    have hpt' : x2_part N s (nI (rowN W a)) 2 = some (s, nI (W (251 + 5 * a))) := by
      have : [rowN W a / 8192, rowN W a / 1024 % 8, rowN W a / 256 % 4, rowN W a / 16 % 16, rowN W a % 16].getD 2 0 = rowN W a / 256 % 4 := rfl
      rw [this, h3] at hpt; exact hpt
    simp only [x2_rowsOf_L4, zq_letP]
    rw [dsz, if_neg (by rw [zq_le (by omega) (by omega)]; omega), hrow]
    simp only [zq_bindP]
    rw [hpt']
    simp only [zq_bindP]
    have hcn : cn (fun q => decide (W (251 + 5 * q) = l)) (a + 1) = cn (fun q => decide (W (251 + 5 * q) = l)) a + (if decide (W (251 + 5 * a) = l) = true then 1 else 0) := rfl
    by_cases e : W (251 + 5 * a) = l
    · rw [if_pos (by rw [e]), nI_1, nI_1]
      rw [if_pos (by simp [e])] at hcn
      rw [← hcn]
      exact ih fuel (a + 1) (by omega) (by omega)
    · rw [if_neg (fun q => e (zq_inj (by omega) (by omega) q)), nI_1]
      rw [if_neg (by simp [e])] at hcn
      rw [show cn (fun q => decide (W (251 + 5 * q) = l)) a = cn (fun q => decide (W (251 + 5 * q) = l)) (a + 1) from hcn.symm]
      exact ih fuel (a + 1) (by omega) (by omega)
/-- the move of the first row from a on that is of the leg l -/
def fsl (W : Nat → Nat) (l : Nat) : Nat → Nat → Int32
  | 0, _ => -1
  | n + 1, a => if W (251 + 5 * a) = l then nI (W (250 + 5 * a)) else fsl W l n (a + 1)
theorem lm_cls {l : Nat} (S : sc_rel s (X + 12) W sd) (hl : l ≤ 2) : ∀ (r fuel a : Nat), a + r = W 15 → r < fuel → x2_latestMoveOf_L2 N (X + 20) (fun q2 x3 x4 => (some (q2, (-1)))) fuel s (nI l) (nI a) = some (s, fsl W l r a) := by
  have hw := S.2.1
  have b15 := hw.1.2.2.2.2.2.2.2.2.2.2.2.2.2.2.2
  obtain ⟨nx, _, _, dsz, _⟩ := S.2.2.2.2.2.2.2.1
  rw [show X + 12 + 8 = X + 20 by omega] at dsz
  intro r
  induction r with
  | zero =>
    intro fuel a ha hf
    obtain ⟨fuel, rfl⟩ : ∃ q, fuel = q + 1 := ⟨fuel - 1, by omega⟩
    simp only [x2_latestMoveOf_L2]
    rw [dsz, if_pos (by rw [zq_le (by omega) (by omega)]; omega)]
    rfl
  | succ r ih =>
    intro fuel a ha hf
    obtain ⟨fuel, rfl⟩ : ∃ q, fuel = q + 1 := ⟨fuel - 1, by omega⟩
    have hrow := rowAt (N := N) S (a := a) (by omega)
    rw [show X + 12 + 8 = X + 20 by omega] at hrow
    obtain ⟨_, h2, h3, _, _, hlt⟩ := row_un hw (a := a) (by omega)
    have hb := (hw.2.2.2.2 a (by omega)).2.2.1
    have hpt2 : x2_part N s (nI (rowN W a)) 2 = some (s, nI (W (251 + 5 * a))) := by
      have hpt := partN (N := N) (s := s) (k := 2) hlt (by decide)
      have : [rowN W a / 8192, rowN W a / 1024 % 8, rowN W a / 256 % 4, rowN W a / 16 % 16, rowN W a % 16].getD 2 0 = rowN W a / 256 % 4 := rfl
      rw [this, h3] at hpt; exact hpt
    have hpt1 : x2_part N s (nI (rowN W a)) 1 = some (s, nI (W (250 + 5 * a))) := by
      have hpt := partN (N := N) (s := s) (k := 1) hlt (by decide)
      have : [rowN W a / 8192, rowN W a / 1024 % 8, rowN W a / 256 % 4, rowN W a / 16 % 16, rowN W a % 16].getD 1 0 = rowN W a / 1024 % 8 := rfl
      rw [this, h2] at hpt; exact hpt
    simp only [x2_latestMoveOf_L2, zq_letP]
    rw [dsz, if_neg (by rw [zq_le (by omega) (by omega)]; omega), hrow]
    simp only [zq_bindP]
    rw [hpt2]
    simp only [zq_bindP, fsl]
    by_cases e : W (251 + 5 * a) = l
    · rw [if_pos (by rw [e]), if_pos e, hrow]
      simp only [zq_bindP]
      rw [hpt1]
      rfl
    · rw [if_neg (fun q => e (zq_inj (by omega) (by omega) q)), if_neg e, nI_1]
      exact ih fuel (a + 1) (by omega) (by omega)
theorem ld_ref {l : Nat} {p2 : Int32} {k : (Nat → Nat → Int32) → Int32 → Int32 → Int32 → Int32 → Int32 → Option ((Nat → Nat → Int32) × Int32)} (R : rwd c W sd m) (hl : l ≤ 2) (hb : W 15 ≤ 60) : ∀ (n fuel r : Nat) (v : Int32) (t : Nat), n + r = W 15 → n < fuel → (v = fsl W l r n) → t = cn (fun q => decide (W (251 + 5 * (n + q)) = l)) r → md_led_L45 N k fuel c (nI l) p2 (nI t) v (nI n - 1) = k c (nI l) p2 (nI (cn (fun q => decide (W (251 + 5 * q) = l)) (W 15))) (fsl W l (W 15) 0) (-1) := by
  intro n
  induction n with
  | zero =>
    intro fuel r v t hn hf hv ht
    obtain ⟨fuel, rfl⟩ : ∃ q, fuel = q + 1 := ⟨fuel - 1, by omega⟩
    have : r = W 15 := by omega
    subst this
    simp only [md_led_L45]
    rw [if_pos (by decide), hv, ht]
    have : (fun q => decide (W (251 + 5 * (0 + q)) = l)) = fun q => decide (W (251 + 5 * q) = l) := by funext q; rw [Nat.zero_add]
    rw [this]
    rfl
  | succ n ih =>
    intro fuel r v t hn hf hv ht
    obtain ⟨fuel, rfl⟩ : ∃ q, fuel = q + 1 := ⟨fuel - 1, by omega⟩
    have hl2 := ofLogN R (a := n) (k := 2) (by omega) (by decide)
    have hl1 := ofLogN R (a := n) (k := 1) (by omega) (by decide)
    have hl2' : md_ofLog_r c (nI n) 2 = nI (W (251 + 5 * n)) := by rw [show 251 + 5 * n = 249 + 5 * n + 2 by omega]; exact hl2.1
    have hl1' : md_ofLog_r c (nI n) 1 = nI (W (250 + 5 * n)) := by rw [show 250 + 5 * n = 249 + 5 * n + 1 by omega]; exact hl1.1
    have hbl := (R.2.1.2.2.2.2 n (by omega)).2.2.1
    have cns : ∀ r, cn (fun q => decide (W (251 + 5 * (n + q)) = l)) (r + 1) = (if W (251 + 5 * n) = l then 1 else 0) + cn (fun q => decide (W (251 + 5 * (n + 1 + q)) = l)) r := by
      intro r
      induction r with
      | zero =>
        show 0 + (if decide (W (251 + 5 * (n + 0)) = l) = true then 1 else 0) = _
        by_cases e : W (251 + 5 * n) = l <;> simp [e, cn]
      | succ r ihr =>
        have e1 : cn (fun q => decide (W (251 + 5 * (n + q)) = l)) (r + 1 + 1) = cn (fun q => decide (W (251 + 5 * (n + q)) = l)) (r + 1) + (if decide (W (251 + 5 * (n + (r + 1))) = l) = true then 1 else 0) := rfl
        have e2 : cn (fun q => decide (W (251 + 5 * (n + 1 + q)) = l)) (r + 1) = cn (fun q => decide (W (251 + 5 * (n + 1 + q)) = l)) r + (if decide (W (251 + 5 * (n + 1 + r)) = l) = true then 1 else 0) := rfl
        rw [e1, ihr, e2, show n + (r + 1) = n + 1 + r by omega, Nat.add_assoc]
    simp only [md_led_L45, zq_letP]
    rw [nI_pred, if_neg (nI_pos (by omega)), if_pos (show ky_inB ((249 + (5 * nI n)) + 2) 2247 = true from hl2.2), hl2']
    have em : nI n + (-1) = nI n - 1 := by rw [Int32.sub_eq_add_neg]
    rw [em]
    have fs : fsl W l (r + 1) n = if W (251 + 5 * n) = l then nI (W (250 + 5 * n)) else fsl W l r (n + 1) := rfl
    by_cases e : W (251 + 5 * n) = l
    · rw [if_pos (by rw [e]), if_pos (show ky_inB ((249 + (5 * nI n)) + 1) 2247 = true from hl1.2), hl1', nI_1]
      refine ih fuel (r + 1) _ _ (by omega) (by omega) (by rw [fs, if_pos e]) ?_
      rw [cns, if_pos e, ht]; omega
    · rw [if_neg (fun q => e (zq_inj (by omega) (by omega) q))]
      refine ih fuel (r + 1) _ _ (by omega) (by omega) (by rw [fs, if_neg e]; exact hv) ?_
      rw [cns, if_neg e, ht]; omega
set_option maxRecDepth 20000 in
theorem sm_led_ok (hN : 2000000000 ≤ N) : sm_led X N (RR X) := by
  intro j s c hj ⟨_, Z, W, sd, m, R, Rw⟩ p1 p2 hp2
  have rw0 := rwd_of (RA_c R ceq_0)
  have hw := R.1.2.2.1.2.1
  have b15 := hw.1.2.2.2.2.2.2.2.2.2.2.2.2.2.2.2
  have S := R.1.2.2.1
  have l2 : lay_X2 (sk_K s) (sk_r s) (X + 20) = true := ly_X7_l3 S.1
  have w15 : bk_w c 0 0 0 1 15 = nI (W 15) := wv_n rw0.1 (by decide) (by decide)
  rcases rngC 0 2 (by decide) (by decide) p1 with ⟨l, _, hl, rfl, hin⟩ | ⟨hin, hout⟩
  · have hin' : md_in (nI l) 0 2 = 1 := hin
    have le2 : nI l ≤ (2 : Int32) := by show nI l ≤ nI 2; rw [zq_le (by omega) (by decide)]; omega
    have rf := ld_ref (N := N) (k := fun q10 x11 x12 x13 x14 x15 => (if x12 = 0 then (some (q10, x13)) else (some (q10, x14)))) (p2 := p2) rw0 hl b15 (W 15) N 0 (-1) 0 (by omega) (by omega) rfl rfl
    have rf' : md_led_L45 N (fun q10 x11 x12 x13 x14 x15 => (if x12 = 0 then (some (q10, x13)) else (some (q10, x14)))) N (bk_w c 0 0 0) (nI l) p2 0 (-1) (nI (W 15) - 1) = _ := rf
    have rfull : md_led N c (nI l) p2 = if p2 = 0 then some (bk_w c 0 0 0, nI (cn (fun q => decide (W (251 + 5 * q) = l)) (W 15))) else some (bk_w c 0 0 0, fsl W l (W 15) 0) := by
      simp only [md_led, zq_letP, hin', th_r, th_c0, d10, d00, ↓reduceIte, w15]
      exact rf'
    rcases hp2 with rfl | rfl
    · refine ⟨s, bk_w c 0 0 0, .inl (some (.int (nI (cn (fun q => decide (W (251 + 5 * q) = l)) (W 15))))), nI (cn (fun q => decide (W (251 + 5 * q) = l)) (W 15)), ?_, ?_, .inl ⟨rfl, bk_w_same _ _ _ _⟩, RR_same hj Z R Rw ceq_0⟩
      · unfold x11_led x2_rowsOf
        rw [if_pos R.1.1, if_neg (nI_pos (by omega)), if_pos le2, if_pos rfl, if_pos l2]
        have := ld_cls (N := N) S hl (W 15) N 0 (by omega) (by omega)
        have this' : x2_rowsOf_L4 N (X + 20) (fun q2 x3 x4 x5 => (some (q2, x4))) N s (nI l) 0 0 = _ := this
        rw [this']
        rfl
      · rw [rfull, if_pos rfl]
    · refine ⟨s, bk_w c 0 0 0, .inl (some (.int (fsl W l (W 15) 0))), fsl W l (W 15) 0, ?_, ?_, .inl ⟨rfl, bk_w_same _ _ _ _⟩, RR_same hj Z R Rw ceq_0⟩
      · unfold x11_led x2_latestMoveOf
        rw [if_pos R.1.1, if_neg (nI_pos (by omega)), if_pos le2, if_neg (by decide), if_pos l2]
        have := lm_cls (N := N) S hl (W 15) N 0 (by omega) (by omega)
        have this' : x2_latestMoveOf_L2 N (X + 20) (fun q2 x3 x4 => (some (q2, (-1)))) N s (nI l) 0 = _ := this
        rw [this']
        rfl
      · rw [rfull, if_neg (by decide)]
  · have hin' : md_in p1 0 2 = 0 := hin
    refine ⟨sk_rs s 6, bk_w (bk_w c 0 0 0) 0 0 1, _, 0, ?_, ?_, .inr ⟨rfl, bk_w_same _ _ _ _⟩, RR_thr hj Z R Rw (thr_ceq 1)⟩
    · unfold x11_led
      rw [if_pos R.1.1]
      rcases hout with h | ⟨h1, h2⟩
      · rw [if_pos (show p1 < 0 from h)]
      · rw [if_neg (show ¬ p1 < 0 from h1), if_neg (nlt_le (show (2 : Int32) < p1 from h2))]
    · simp only [md_led, zq_letP, hin', th_r, th_c1, d10, d00, ↓reduceIte]
end
