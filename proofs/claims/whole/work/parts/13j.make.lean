/-! A MOVE IS MADE -/
/-- the state behind a move that is made, with its slip -/
def mkP (W : Nat → Nat) (m : lwM) (mv lg : Nat) (sd : Int32) : Nat :=
  if drN (lcg sd) % 100 < W 9 ∧ 12 ≤ mv_s W m (W 4) (W 5) mv lg (psN W) then ps4 (min 9 (mv_s W m (W 4) (W 5) mv lg (psN W) / 120 + 1)) (min 9 (mv_s W m (W 4) (W 5) mv lg (psN W) / 12 % 10 + 1)) (mv_s W m (W 4) (W 5) mv lg (psN W) / 2 % 6) (mv_s W m (W 4) (W 5) mv lg (psN W) % 2) else mv_s W m (W 4) (W 5) mv lg (psN W)
/-- the world with the body in state P at the minute mi -/
def mkB (W : Nat → Nat) (P mi k : Nat) : Nat := if k = 0 then P / 120 else if k = 1 then P / 12 % 10 else if k = 2 then P / 2 % 6 else if k = 3 then P % 2 else if k = 7 then mi else W k
def mkM (W : Nat → Nat) (mv : Nat) : Nat := min 9999 (W 7 + W (20 + 4 * mv))
section
variable {N X j : Nat} {s s' : sk_S} {c c' : Nat → Nat → Int32} {W W' : Nat → Nat} {sd sd' : Int32} {m m' : lwM} {sb : Nat} {mi mv lg : Nat}
theorem mkP_lt (h : wd W) : mkP W m mv lg sd < 1200 := by
  have h1 := mv_s_lt (W := W) (m := m) (ca := W 4) (wa := W 5) (mv := mv) (lg := lg) (psN_lt h)
  unfold mkP
  split
  · exact ps4_lt (by omega) (by omega) (by omega) (by omega)
  · exact h1
theorem mkB_hi {P mi k : Nat} (h : 8 ≤ k) : mkB W P mi k = W k := by unfold mkB; rw [if_neg (by omega), if_neg (by omega), if_neg (by omega), if_neg (by omega), if_neg (by omega)]
theorem mkB_ps {P mi : Nat} : psN (mkB W P mi) = P := by
  unfold psN mkB; simp; omega
theorem mkB_wd {P mi : Nat} (h : wd W) (hP : P < 1200) (hm : mi ≤ 9999) : wd (mkB W P mi) := by
  refine wd_low h (fun k hk => mkB_hi hk) ?_
  obtain ⟨⟨h0, h1, h2, h3, h4, h5, h6, h7, -⟩, -⟩ := h
  unfold mkB; simp; omega
/-- a body at a tells the world -/
def bd (s : sk_S) (a : Nat) (W : Nat → Nat) (sd : Int32) : Prop := sk_c s a 0 = nI (psN W) ∧ sk_c s a 1 = nI (W 4) ∧ sk_c s a 2 = nI (W 5) ∧ sk_c s a 3 = nI (W 6) ∧ sk_c s a 4 = nI (W 7) ∧ sk_c s a 5 = nI (W 8) ∧ sk_c s a 6 = nI (W 9) ∧ sk_c s a 7 = sd
theorem dpb {v : Nat} (hv : v < 1200) : po_deeperByOne (nI v) = nI (ps4 (min 9 (v / 120 + 1)) (min 9 (v / 12 % 10 + 1)) (v / 2 % 6) (v % 2)) := by
  unfold po_deeperByOne
  rw [po_d0N hv, po_d1N hv, nI_1, nI_1, show (9 : Int32) = nI 9 from rfl, zq_min (by decide) (by omega), zq_min (by decide) (by omega), po_wdpN hv]
theorem mk_cls {a z : Nat} (hN : 1000 ≤ N) (la : lay_X1 (sk_K s) (sk_r s) a = true) (lz : lay_X6 (sk_K s) (sk_r s) z = true) (L : cl_law s (sk_r s z 1) m) (nm : ∀ j, j < 28 → sk_c s (z + 1) j = nI (W (17 + j))) (hw : wd W) (b : bd s a W sd) (hz : a ≠ z + 1) (hq : ∀ q, sk_r s z 1 = some q → a ≠ q ∧ a ≠ q + 5 ∧ z + 1 ≠ q ∧ z + 1 ≠ q + 5) (hmv : mv ≤ 6) (hlg : lg ≤ 1) :
    ∃ s', x1_make N s a z (nI mv) (nI lg) = some (s', 0) ∧ cfr (fun x k => x = a ∨ lwVo (sk_r s z 1) x k) s s' ∧ bd s' a (mkB W (mkP W m mv lg sd) (mkM W mv)) (lcg sd) := by
  obtain ⟨b0, b1, b2, b3, b4, b5, b6, b7⟩ := b
  have hps := psN_lt hw
  have hmw := wd_mv hw hmv
  have h4 := hw.1.2.2.2.2.1
  have h5 := hw.1.2.2.2.2.2.1
  have h7 := hw.1.2.2.2.2.2.2.2.1
  have h9 := hw.1.2.2.2.2.2.2.2.2.2.1
  obtain ⟨s1, a1, a2⟩ := cl_after (N := N) (z := z) (s := s) (W := W) (m := m) (v := psN W) (mv := mv) (lg := lg) (ca := W 4) (wa := W 5) hN lz L hps hmv hlg h4 h5 (fun i hi => by
    rw [nm _ (by omega)]
    refine ⟨rfl, ?_⟩
    have : i = 0 ∨ i = 1 ∨ i = 2 := by omega
    rcases this with rfl | rfl | rfl
    · exact hmw.1
    · rw [show 17 + (4 * mv + 1) = 18 + 4 * mv by omega]; exact hmw.2.1
    · rw [show 17 + (4 * mv + 2) = 19 + 4 * mv by omega]; omega)
  have hv1 := mv_s_lt (W := W) (m := m) (ca := W 4) (wa := W 5) (mv := mv) (lg := lg) hps
  unfold mkP
  generalize mv_s W m (W 4) (W 5) mv lg (psN W) = v1 at *
  have ka : ∀ k, sk_c s1 a k = sk_c s a k := fun k => a2.2.2.2.2.2 a k (by
    rintro ⟨q, e1, e2⟩
    obtain ⟨q1, q2, _⟩ := hq q e1
    rcases e2 with e2 | e2
    · exact q2 e2
    · exact q1 e2.1)
  have kz : ∀ k, sk_c s1 (z + 1) k = sk_c s (z + 1) k := fun k => a2.2.2.2.2.2 (z + 1) k (by
    rintro ⟨q, e1, e2⟩
    obtain ⟨_, _, q3, q4⟩ := hq q e1
    rcases e2 with e2 | e2
    · exact q4 e2
    · exact q3 e2.1)
  have la1 : lay_X1 (sk_K s1) (sk_r s1) a = true := by rw [a2.1, a2.2.2.1]; exact la
  have lz1 : lay_X6 (sk_K s1) (sk_r s1) z = true := by rw [a2.1, a2.2.2.1]; exact lz
  have etk : (4 : Int32) * nI mv + 3 = nI (4 * mv + 3) := by show nI 4 * nI mv + nI 3 = _; rw [pk_mul, nI_add]
  have mM : mt_min 9999 (nI (W 7) + nI (W (20 + 4 * mv))) = nI (mkM W mv) := by rw [nI_add]; exact zq_min (x := 9999) (by decide) (by omega)
  have edr : nI (drN (lcg sd)) - nI (drN (lcg sd)) / 100 * 100 = nI (drN (lcg sd) % 100) := pk_rem (d := 100) (by have := drN_lt (lcg sd); omega) (by decide) (by decide)
  generalize e2 : sk_wc s1 a 0 (nI v1) = s2
  have la2 : lay_X1 (sk_K s2) (sk_r s2) a = true := by rw [← e2]; exact la1
  have lz2 : lay_X6 (sk_K s2) (sk_r s2) z = true := by rw [← e2]; exact lz1
  have tk : x6_takes N s2 z (nI mv) = some (s2, nI (W (20 + 4 * mv))) := by
    unfold x6_takes
    rw [if_pos lz2, etk, if_pos (zq_inBt (by omega) (by decide)), zq_cl (by omega), ← e2, qc_ne (Ne.symm hz), kz, nm _ (by omega), show 17 + (4 * mv + 3) = 20 + 4 * mv by omega]
  generalize e3 : sk_wc s2 a 4 (nI (mkM W mv)) = s3
  have la3 : lay_X1 (sk_K s3) (sk_r s3) a = true := by rw [← e3]; exact la2
  have ps : x1_pass N s2 a (nI (W (20 + 4 * mv))) = some (s3, 0) := by
    unfold x1_pass
    simp only [zq_letP]
    rw [if_pos la2, ← e2, qc_at _ _ _ _ _ _ (by omega), ka, b4, mM, e2, e3]
  generalize e4 : sk_wc s3 a 7 (lcg sd) = s4
  have dw : x1_draw N s3 a = some (s4, nI (drN (lcg sd))) := by
    have c7 : sk_c s3 a 7 = sd := by rw [← e3, qc_at _ _ _ _ _ _ (by omega), ← e2, qc_at _ _ _ _ _ _ (by omega), ka]; exact b7
    have el : (1103515245 : Int32) * sd + 12345 = lcg sd := rfl
    unfold x1_draw
    simp only [zq_letP]
    rw [if_pos la3, c7, el, e4]
    have c74 : sk_c s4 a 7 = lcg sd := by rw [← e4, qc_eq, pk_us]
    rw [c74, dr_eq, dr_nat]
  have at4 : ∀ k, sk_c s4 a k = if k = 7 then lcg sd else if k = 4 then nI (mkM W mv) else if k = 0 then nI v1 else sk_c s a k := fun k => by
    rw [← e4, qc_eq, ← e3, qc_eq, ← e2, qc_eq]
    by_cases h7 : k = 7
    · subst h7; rw [pk_us, if_pos rfl]
    · rw [pk_un h7, if_neg h7]
      by_cases h4 : k = 4
      · subst h4; rw [pk_us, if_pos rfl]
      · rw [pk_un h4, if_neg h4]
        by_cases h0 : k = 0
        · subst h0; rw [pk_us, if_pos rfl]
        · rw [pk_un h0, if_neg h0, ka]
  have F4 : cfr (fun x k => x = a ∨ lwVo (sk_r s z 1) x k) s s4 := by
    refine (a2.mono (fun b k h => .inr h)).tr ?_
    rw [← e4, ← e3, ← e2]
    exact (((cfr.rf (V := fun x k => x = a ∨ lwVo (sk_r s z 1) x k)).wc _ (.inl rfl)).wc _ (.inl rfl)).wc _ (.inl rfl)
  have hstep : x1_make N s a z (nI mv) (nI lg) = (if nI (W 9) ≤ nI (drN (lcg sd) % 100) then some (s4, 0) else (if po_isOut (nI v1) = 0 then some (sk_wc s4 a 0 (po_deeperByOne (nI v1)), 0) else some (s4, 0))) := by
    unfold x1_make
    rw [if_pos la, if_pos lz, b0, b1, b2, a1]
    simp only [zq_bindP, zq_letP]
    rw [e2, tk]
    simp only [zq_bindP]
    rw [ps]
    simp only [zq_bindP]
    rw [dw]
    simp only [zq_bindP]
    have c64 : sk_c s4 a 6 = nI (W 9) := by rw [at4, if_neg (by decide), if_neg (by decide), if_neg (by decide)]; exact b6
    have c04 : sk_c s4 a 0 = nI v1 := by rw [at4, if_neg (by decide), if_neg (by decide), if_pos rfl]
    rw [c64, c04, edr]
  have hd : drN (lcg sd) % 100 < 100 := Nat.mod_lt _ (by decide)
  have fin : ∀ (s5 : sk_S) (P : Nat), cfr (fun x k => x = a) s4 s5 → P < 1200 → sk_c s5 a 0 = nI P → (∀ k, k ≠ 0 → sk_c s5 a k = sk_c s4 a k) → cfr (fun x k => x = a ∨ lwVo (sk_r s z 1) x k) s s5 ∧ bd s5 a (mkB W P (mkM W mv)) (lcg sd) := fun s5 P F5 hP h0 hk => by
    refine ⟨F4.tr (F5.mono (fun x k h => .inl h)), ?_⟩
    unfold bd
    rw [h0, mkB_ps, hk 1 (by decide), hk 2 (by decide), hk 3 (by decide), hk 4 (by decide), hk 5 (by decide), hk 6 (by decide), hk 7 (by decide), at4, at4, at4, at4, at4, at4, at4]
    refine ⟨rfl, ?_, ?_, ?_, ?_, ?_, ?_, ?_⟩
    · simp [mkB]; exact b1
    · simp [mkB]; exact b2
    · simp [mkB]; exact b3
    · simp [mkB]
    · simp [mkB]; exact b5
    · simp [mkB]; exact b6
    · simp
  have c04 : sk_c s4 a 0 = nI v1 := by rw [at4, if_neg (by decide), if_neg (by decide), if_pos rfl]
  rw [hstep]
  by_cases h : drN (lcg sd) % 100 < W 9
  · rw [if_neg (by rw [zq_le (by omega) (by omega)]; omega), wy_ofl v1 hv1]
    by_cases h12 : v1 < 12
    · rw [if_pos h12, if_neg (by decide), if_neg (by omega)]
      exact ⟨s4, rfl, fin s4 v1 cfr.rf hv1 c04 (fun _ _ => rfl)⟩
    · rw [if_neg h12, if_pos rfl, if_pos (by omega), dpb hv1]
      refine ⟨_, rfl, fin _ _ ((cfr.rf (V := fun x k => x = a)).wc _ rfl) (ps4_lt (by omega) (by omega) (by omega) (by omega)) (by rw [qc_eq, pk_us]) (fun k hk => by rw [qc_eq, pk_un hk])⟩
  · rw [if_pos (by rw [zq_le (by omega) (by omega)]; omega), if_neg (by omega)]
    exact ⟨s4, rfl, fin s4 v1 cfr.rf hv1 c04 (fun _ _ => rfl)⟩
/-! the reference -/
theorem isNowN {d0 d1 th ly : Nat} (D : dpt c d0 d1 th ly) (hl : ly ≤ 1) : md_isNow_c c = bk_w (bk_w (bk_w (bk_w c 1 0 (nI d0)) 1 1 (nI d1)) 1 2 (nI th)) 1 3 (nI ly) := by
  obtain ⟨h0, h1, h2, h3⟩ := D
  unfold md_isNow_c
  have e1 : (bk_w c 1 0 (c 9 0)) 9 1 = nI d1 := by rw [bk_w_ne (by decide)]; exact h1
  have e2 : (bk_w (bk_w c 1 0 (c 9 0)) 1 1 ((bk_w c 1 0 (c 9 0)) 9 1)) 0 19 = nI th := by rw [bk_w_ne (by decide), bk_w_ne (by decide)]; exact h2
  have e3 : (bk_w (bk_w (bk_w c 1 0 (c 9 0)) 1 1 ((bk_w c 1 0 (c 9 0)) 9 1)) 1 2 ((bk_w (bk_w c 1 0 (c 9 0)) 1 1 ((bk_w c 1 0 (c 9 0)) 9 1)) 0 19)) 0 20 = nI ly := by rw [bk_w_ne (by decide), bk_w_ne (by decide), bk_w_ne (by decide)]; exact h3
  rw [e3, e2, e1, h0]
  have : ly = 0 ∨ ly = 1 := by omega
  rcases this with rfl | rfl
  · rw [if_pos (by decide)]; rfl
  · rw [if_neg (by decide)]; rfl
/-- rows that a move of the reference leaves -/
def mkeq (c c' : Nat → Nat → Int32) : Prop := (∀ q, q ≠ 0 → q ≠ 1 → q ≠ 8 → q ≠ 9 → c' q = c q) ∧ (∀ q, q ≠ 19 → q ≠ 20 → c' 0 q = c 0 q) ∧ ∀ q, 549 ≤ q → c' 1 q = c 1 q
theorem mkeq.tr {c1 c2 : Nat → Nat → Int32} (h : mkeq c c1) (h' : mkeq c1 c2) : mkeq c c2 := ⟨fun q a b d e => (h'.1 q a b d e).trans (h.1 q a b d e), fun q a b => (h'.2.1 q a b).trans (h.2.1 q a b), fun q a => (h'.2.2 q a).trans (h.2.2 q a)⟩
theorem mkeq.A (h : mkeq c c') : ceqA c c' := ⟨fun k h1 _ => h.2.2 k h1, fun k _ => by rw [h.1 2 (by decide) (by decide) (by decide) (by decide)], fun k _ => by rw [h.1 5 (by decide) (by decide) (by decide) (by decide)], h.2.1 6 (by decide) (by decide), h.2.1 7 (by decide) (by decide), h.2.1 9 (by decide) (by decide), h.2.1 14 (by decide) (by decide), fun k _ => by rw [h.1 6 (by decide) (by decide) (by decide) (by decide)]⟩
set_option maxRecDepth 20000 in
set_option maxHeartbeats 8000000 in
theorem mk_ref (hN : 1000 ≤ N) (R : rwd c W sd m) (hmv : mv ≤ 6) (hlg : lg ≤ 1) : ∃ c', md_makes N c (nI mv) (nI lg) = some (c', 0) ∧ wv (c' 1) (lgW (mkB W (mkP W m mv lg sd) (mkM W mv)) (W 7) mv (if mv < 5 then lg else 2)) (lcg sd) ∧ mkeq c c' := by
  have hw := R.2.1
  have hps := psN_lt hw
  obtain ⟨l1, l2⟩ := looks_rk R
  have R1 : rwd (md_looks_c c) W sd m := rwd_k R (l2.1 1 (by decide) (by decide))
  obtain ⟨c1, m1, m2, m3, m4⟩ := rw_move (N := N) hN R1 hmv hlg ⟨hw.1.1, hw.1.2.1, hw.1.2.2.1, hw.1.2.2.2.1⟩ l1
  have hle := mv4_le (W := W) (m := m) (ca := W 4) (wa := W 5) (mv := mv) (lg := lg) (d0 := W 0) (d1 := W 1) (th := W 2) (ly := W 3) hw.1.1 hw.1.2.1 hw.1.2.2.2.1
  have hst : mv_s W m (W 4) (W 5) mv lg (psN W) = ps4 (mv4 W m (W 4) (W 5) mv lg (W 0) (W 1) (W 2) (W 3)).1 (mv4 W m (W 4) (W 5) mv lg (W 0) (W 1) (W 2) (W 3)).2.1 (mv4 W m (W 4) (W 5) mv lg (W 0) (W 1) (W 2) (W 3)).2.2.1 (mv4 W m (W 4) (W 5) mv lg (W 0) (W 1) (W 2) (W 3)).2.2.2 := mv_s4 hw.1.2.1 hw.1.2.2.1 hw.1.2.2.2.1
  unfold mkP
  rw [hst]
  generalize (mv4 W m (W 4) (W 5) mv lg (W 0) (W 1) (W 2) (W 3)).1 = d0 at *
  generalize (mv4 W m (W 4) (W 5) mv lg (W 0) (W 1) (W 2) (W 3)).2.1 = d1 at *
  generalize (mv4 W m (W 4) (W 5) mv lg (W 0) (W 1) (W 2) (W 3)).2.2.1 = th at *
  generalize (mv4 W m (W 4) (W 5) mv lg (W 0) (W 1) (W 2) (W 3)).2.2.2 = ly at *
  obtain ⟨q0, q1, q2, q3⟩ := ps4_un (d0 := d0) hle.2.1 hle.2.2.1 hle.2.2.2
  rw [q0, q1, q2, q3]
  have e1 : c1 1 = c 1 := by rw [m3 1 (by decide) (by decide) (by decide), l2.1 1 (by decide) (by decide)]
  have h9 := hw.1.2.2.2.2.2.2.2.2.2.1
  have hd : drN (lcg sd) % 100 < 100 := Nat.mod_lt _ (by decide)
  have w16 : c1 1 16 = sd := by rw [e1]; exact R.1.2
  have hdc : md_draw_c c1 100 = bk_w c1 1 16 (lcg sd) := by unfold md_draw_c; rw [w16]; rfl
  have hdr : md_draw_r c1 100 = nI (drN (lcg sd) % 100) := by
    unfold md_draw_r
    rw [bk_w_same, w16, show (1103515245 : Int32) * sd + 12345 = lcg sd from rfl, dr_nat]
    exact pk_rem (d := 100) (by have := drN_lt (lcg sd); omega) (by decide) (by decide)
  generalize eq9 : bk_w c1 1 16 (lcg sd) = q9 at *
  have q9n : ∀ q, q ≠ 1 → q9 q = c1 q := fun q h => by rw [← eq9, bk_w_ne h]
  have q91 : ∀ q, q ≠ 16 → q9 1 q = c1 1 q := fun q h => by rw [← eq9, bk_w_at h]
  have q916 : q9 1 16 = lcg sd := by rw [← eq9, bk_w_same]
  have w9 : q9 1 9 = nI (W 9) := by rw [q91 9 (by decide), e1]; exact wv_n R.1 (by decide) (by decide)
  have D9 : dpt q9 d0 d1 th ly := by
    unfold dpt; rw [q9n 9 (by decide), q9n 0 (by decide)]; exact m2
  have hout : md_isOutNow_r q9 = if d0 = 0 ∧ d1 = 0 then 1 else 0 := by
    unfold md_isOutNow_r
    rw [D9.1, D9.2.1]
    have z0 : (nI d0 = (0 : Int32)) = (d0 = 0) := zq_eq (b := 0) (by omega) (by decide)
    have z1 : (nI d1 = (0 : Int32)) = (d1 = 0) := zq_eq (b := 0) (by omega) (by decide)
    simp only [z0, z1]
    by_cases h0 : d0 = 0
    · by_cases h1 : d1 = 0
      · rw [if_pos h0, if_pos h1, if_pos ⟨h0, h1⟩]
      · rw [if_pos h0, if_neg h1, if_neg (fun q => h1 q.2)]
    · rw [if_neg h0, if_neg (fun q => h0 q.1)]
  have x7 : c 1 7 = nI (W 7) := wv_n R.1 (by decide) (by decide)
  have h7 := hw.1.2.2.2.2.2.2.2.1
  have h15 := hw.1.2.2.2.2.2.2.2.2.2.2.2.2.2.2.2
  have hmw := wd_mv hw hmv
  -- the end: set, gone by, told
  have tail : ∀ (q : Nat → Nat → Int32) (a b : Nat), a ≤ 9 → b ≤ 9 → dpt q a b th ly → (∀ k, k ≠ 9 → q k = q9 k) → ∃ c', (if ky_inB ((17 + (4 * nI mv)) + 3) 2247 = true then (if (md_isOfNone (nI mv)) = 0 then ((md_tells N (md_goesBy_c (md_isNow_c q) (md_ofMove_r (md_isNow_c q) (nI mv) 3)) (nI (W 7)) (nI mv) (nI lg)).bind (fun zz => some (zz.1, (0 : Int32)))) else ((md_tells N (md_goesBy_c (md_isNow_c q) (md_ofMove_r (md_isNow_c q) (nI mv) 3)) (nI (W 7)) (nI mv) 2).bind (fun zz => some (zz.1, 0)))) else none) = some (c', 0) ∧ wv (c' 1) (lgW (mkB W (ps4 a b th ly) (mkM W mv)) (W 7) mv (if mv < 5 then lg else 2)) (lcg sd) ∧ mkeq c c' := by
    intro q a b ha hb Dq hq
    rw [isNowN Dq hle.2.2.2]
    generalize eq : bk_w (bk_w (bk_w (bk_w q 1 0 (nI a)) 1 1 (nI b)) 1 2 (nI th)) 1 3 (nI ly) = q'
    have qn : ∀ k, k ≠ 1 → q' k = q k := fun k h => by rw [← eq, bk_w_ne h, bk_w_ne h, bk_w_ne h, bk_w_ne h]
    have q1 : ∀ k, 4 ≤ k → q' 1 k = q9 1 k := fun k h => by rw [← eq, bk_w_at (by omega), bk_w_at (by omega), bk_w_at (by omega), bk_w_at (by omega), hq 1 (by decide)]
    have hm3 := md_ofMoveN (c := q') (mv := mv) (i := 3) (x := 3) hmv (by decide) rfl
    have vtk : md_ofMove_r q' (nI mv) 3 = nI (W (20 + 4 * mv)) := by
      rw [hm3.1, q1 _ (by omega), q91 _ (by omega), e1, show 17 + 4 * mv + 3 = 20 + 4 * mv by omega]
      exact wv_n R.1 (by omega) (by omega)
    have v7 : q' 1 7 = nI (W 7) := by rw [q1 7 (by decide), q91 7 (by decide), e1]; exact x7
    have gb : md_goesBy_c q' (nI (W (20 + 4 * mv))) = bk_w q' 1 7 (nI (mkM W mv)) := by
      unfold md_goesBy_c
      rw [v7, nI_add, show mt_min 9999 (nI (W 7 + W (20 + 4 * mv))) = nI (mkM W mv) from zq_min (x := 9999) (by decide) (by omega)]
    rw [if_pos (show ky_inB ((17 + (4 * nI mv)) + 3) 2247 = true from hm3.2), vtk, gb]
    obtain ⟨p0, p1, p2, p3⟩ := ps4_un (d0 := a) hb hle.2.2.1 hle.2.2.2
    have wq : wv (bk_w q' 1 7 (nI (mkM W mv)) 1) (mkB W (ps4 a b th ly) (mkM W mv)) (lcg sd) := by
      refine ⟨fun k hk h16 => ?_, ?_⟩
      · unfold mkB
        rw [p0, p1, p2, p3]
        by_cases k7 : k = 7
        · subst k7; rw [bk_w_same]; rfl
        · rw [bk_w_at k7]
          by_cases k0 : k = 0
          · subst k0; rw [if_pos rfl, ← eq, bk_w_at (by decide), bk_w_at (by decide), bk_w_at (by decide), bk_w_same]
          · rw [if_neg k0]
            by_cases k1 : k = 1
            · subst k1; rw [if_pos rfl, ← eq, bk_w_at (by decide), bk_w_at (by decide), bk_w_same]
            · rw [if_neg k1]
              by_cases k2 : k = 2
              · subst k2; rw [if_pos rfl, ← eq, bk_w_at (by decide), bk_w_same]
              · rw [if_neg k2]
                by_cases k3 : k = 3
                · subst k3; rw [if_pos rfl, ← eq, bk_w_same]
                · rw [if_neg k3, if_neg k7, q1 k (by omega), q91 k h16, e1]; exact wv_n R.1 hk h16
      · rw [bk_w_at (by decide), q1 16 (by decide)]; exact q916
    have h15' : mkB W (ps4 a b th ly) (mkM W mv) 15 ≤ 60 := by rw [mkB_hi (by decide)]; exact h15
    have fin : ∀ g : Nat, ∃ c', md_tells N (bk_w q' 1 7 (nI (mkM W mv))) (nI (W 7)) (nI mv) (nI g) = some (c', 0) ∧ wv (c' 1) (lgW (mkB W (ps4 a b th ly) (mkM W mv)) (W 7) mv g) (lcg sd) ∧ mkeq c c' := fun g => by
      obtain ⟨c', t1, t2, t3, t4⟩ := tl_ref (N := N) (mi := W 7) (mv := mv) (lg := g) hN wq h15'
      refine ⟨c', t1, t3, fun k h0 h1 h8 h9 => ?_, fun k h19 h20 => ?_, fun k hk => ?_⟩
      · rw [t2 k h1, bk_w_ne h1, qn k h1, hq k h9, q9n k h1, m3 k h8 h9 h0, l2.1 k h0 h9]
      · rw [t2 0 (by decide), bk_w_ne (by decide), qn 0 (by decide), hq 0 (by decide), q9n 0 (by decide), m4 k h19 h20, l2.2 k h19 h20]
      · rw [t4 k hk, bk_w_at (by omega), q1 k (by omega), q91 k (by omega), e1]
    by_cases h5 : mv < 5
    · have n0 : md_isOfNone (nI mv) = 0 := by
        unfold md_isOfNone; rw [if_pos (by show nI mv < nI 5; rw [zq_lt (by omega) (by decide)]; exact h5)]
      obtain ⟨c', f1, f2, f3⟩ := fin lg
      rw [if_pos n0, f1, if_pos h5]
      exact ⟨c', rfl, f2, f3⟩
    · have n0 : ¬ md_isOfNone (nI mv) = 0 := by
        unfold md_isOfNone; rw [if_neg (by show ¬ nI mv < nI 5; rw [zq_lt (by omega) (by decide)]; exact h5)]; decide
      obtain ⟨c', f1, f2, f3⟩ := fin 2
      rw [if_neg n0, show (2 : Int32) = nI 2 from rfl, f1, if_neg h5]
      exact ⟨c', rfl, f2, f3⟩
  have o12 : 12 ≤ ps4 d0 d1 th ly ↔ ¬ (d0 = 0 ∧ d1 = 0) := by
    have := hle.2.2.1
    have := hle.2.2.2
    unfold ps4; omega
  have le1 : (nI (W 9) ≤ nI (drN (lcg sd) % 100)) = (W 9 ≤ drN (lcg sd) % 100) := zq_le (by omega) (by omega)
  by_cases h : drN (lcg sd) % 100 < W 9
  · have hn : (W 9 ≤ drN (lcg sd) % 100) = False := eq_false (by omega)
    by_cases ho : d0 = 0 ∧ d1 = 0
    · rw [if_neg (by rw [o12]; omega)]
      rw [if_pos ho] at hout
      obtain ⟨c', t1, t2, t3⟩ := tail q9 d0 d1 hle.1 hle.2.1 D9 (fun _ _ => rfl)
      refine ⟨c', ?_, t2, t3⟩
      simp only [md_makes, zq_letP, x7, m1, zq_bindP, hdr, hdc, w9, le1, hn, hout, d10, ↓reduceIte]
      exact t1
    · rw [if_pos ⟨h, o12.mpr ho⟩]
      rw [if_neg ho] at hout
      have D0 : q9 9 0 = nI d0 := D9.1
      have D1 : (bk_w q9 9 0 (nI (min 9 (d0 + 1)))) 9 1 = nI d1 := by rw [bk_w_at (by decide)]; exact D9.2.1
      have dd0 : md_deeper (nI d0) 1 = nI (min 9 (d0 + 1)) := md_deepN (b := 1) (by omega) (by decide)
      have dd1 : md_deeper (nI d1) 1 = nI (min 9 (d1 + 1)) := md_deepN (b := 1) (by omega) (by decide)
      obtain ⟨c', t1, t2, t3⟩ := tail (bk_w (bk_w q9 9 0 (nI (min 9 (d0 + 1)))) 9 1 (nI (min 9 (d1 + 1)))) (min 9 (d0 + 1)) (min 9 (d1 + 1)) (by omega) (by omega) ⟨by rw [bk_w_at (by decide), bk_w_same], bk_w_same _ _ _ _, by rw [bk_w_ne (by decide), bk_w_ne (by decide)]; exact D9.2.2.1, by rw [bk_w_ne (by decide), bk_w_ne (by decide)]; exact D9.2.2.2⟩ (fun k hk => by rw [bk_w_ne hk, bk_w_ne hk])
      refine ⟨c', ?_, t2, t3⟩
      simp only [md_makes, zq_letP, x7, m1, zq_bindP, hdr, hdc, w9, le1, hn, hout, d10, d00, ↓reduceIte, D0, dd0, D1, dd1]
      exact t1
  · have hn : (W 9 ≤ drN (lcg sd) % 100) = True := eq_true (by omega)
    rw [if_neg (fun q => h q.1)]
    obtain ⟨c', t1, t2, t3⟩ := tail q9 d0 d1 hle.1 hle.2.1 D9 (fun _ _ => rfl)
    refine ⟨c', ?_, t2, t3⟩
    simp only [md_makes, zq_letP, x7, m1, zq_bindP, hdr, hdc, w9, le1, hn, d00, ↓reduceIte]
    exact t1
end
