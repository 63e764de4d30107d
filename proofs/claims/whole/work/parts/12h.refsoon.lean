/-! THE REFERENCE: next laid, soonest -/
def kpp (c c' : Nat → Nat → Int32) : Prop := (∀ q, q ≠ 0 → q ≠ 8 → q ≠ 9 → q ≠ 10 → q ≠ 11 → c' q = c q) ∧ ∀ j, j ≠ 19 → j ≠ 20 → c' 0 j = c 0 j
theorem kpp.rf {c : Nat → Nat → Int32} : kpp c c := ⟨fun _ _ _ _ _ _ => rfl, fun _ _ _ => rfl⟩
theorem kpp.tr {c c1 c2 : Nat → Nat → Int32} (h : kpp c c1) (h' : kpp c1 c2) : kpp c c2 := ⟨fun q h0 h1 h2 h3 h4 => (h'.1 q h0 h1 h2 h3 h4).trans (h.1 q h0 h1 h2 h3 h4), fun j h1 h2 => (h'.2 j h1 h2).trans (h.2 j h1 h2)⟩
theorem kpp.c1 {c c' : Nat → Nat → Int32} (h : kpp c c') : c' 1 = c 1 := h.1 1 (by decide) (by decide) (by decide) (by decide) (by decide)
theorem kpp.ceq {c c' : Nat → Nat → Int32} (h : kpp c c') : ceq c c' := by
  have e : ∀ q, q ≠ 0 → q ≠ 8 → q ≠ 9 → q ≠ 10 → q ≠ 11 → c' q = c q := h.1
  exact ⟨fun k _ => by rw [h.c1], fun k _ => by rw [e 2 (by decide) (by decide) (by decide) (by decide) (by decide)], fun k _ => by rw [e 5 (by decide) (by decide) (by decide) (by decide) (by decide)], h.2 6 (by decide) (by decide), h.2 7 (by decide) (by decide), h.2 9 (by decide) (by decide), h.2 14 (by decide) (by decide), fun k _ => by rw [e 6 (by decide) (by decide) (by decide) (by decide) (by decide)]⟩
theorem kpp.w {c c1 : Nat → Nat → Int32} (h : kpp c c1) {k : Nat} (j : Nat) (v : Int32) (hk : (k = 0 ∧ (j = 19 ∨ j = 20)) ∨ k = 8 ∨ k = 9 ∨ k = 10 ∨ k = 11) : kpp c (bk_w c1 k j v) := by
  refine ⟨fun q h0 h1 h2 h3 h4 => (bk_w_ne (by omega)).trans (h.1 q h0 h1 h2 h3 h4), fun i h1 h2 => ?_⟩
  rw [← h.2 i h1 h2]
  by_cases e : 0 = k
  · subst e; exact bk_w_at (by omega)
  · rw [bk_w_ne e]
def rwd (c : Nat → Nat → Int32) (W : Nat → Nat) (sd : Int32) (m : lwM) : Prop := wv (c 1) W sd ∧ wd W ∧ ref_law c m
theorem rwd_k {c c' : Nat → Nat → Int32} {W : Nat → Nat} {sd : Int32} {m : lwM} (h : rwd c W sd m) (e : c' 1 = c 1) : rwd c' W sd m := by
  unfold rwd ref_law
  rw [e]; exact h
theorem wv_n {f : Nat → Int32} {W : Nat → Nat} {sd : Int32} (h : wv f W sd) {k : Nat} (hk : k < 549) (h16 : k ≠ 16) : f k = nI (W k) := h.1 k hk h16
section
variable {N : Nat} {c : Nat → Nat → Int32} {W : Nat → Nat} {sd : Int32} {m : lwM}
theorem wd_mv (h : wd W) {mv : Nat} (hm : mv ≤ 6) : W (17 + 4 * mv) ≤ 9 ∧ W (18 + 4 * mv) ≤ 9 ∧ W (19 + 4 * mv) ≤ 5 ∧ 1 ≤ W (20 + 4 * mv) ∧ W (20 + 4 * mv) ≤ 30 := h.2.1 mv (by omega)
theorem rw_move {mv lg d0 d1 th ly : Nat} (hN : 1000 ≤ N) (R : rwd c W sd m) (hmv : mv ≤ 6) (hlg : lg ≤ 1) (hd : d0 ≤ 9 ∧ d1 ≤ 9 ∧ th ≤ 5 ∧ ly ≤ 1) (D : dpt c d0 d1 th ly) :
    ∃ c', md_movesBy N c (nI mv) (nI lg) = some (c', 0) ∧ dpt c' (mv4 W m (W 4) (W 5) mv lg d0 d1 th ly).1 (mv4 W m (W 4) (W 5) mv lg d0 d1 th ly).2.1 (mv4 W m (W 4) (W 5) mv lg d0 d1 th ly).2.2.1 (mv4 W m (W 4) (W 5) mv lg d0 d1 th ly).2.2.2 ∧ (∀ q, q ≠ 8 → q ≠ 9 → q ≠ 0 → c' q = c q) ∧ ∀ j, j ≠ 19 → j ≠ 20 → c' 0 j = c 0 j := by
  obtain ⟨h1, h2, h3⟩ := R
  have hm := wd_mv h2 hmv
  refine mv_ref hN h3 hmv hlg ⟨hd.1, hd.2.1, hd.2.2.1, hd.2.2.2, h2.1.2.2.2.2.1, h2.1.2.2.2.2.2.1⟩ D (wv_n h1 (by decide) (by decide)) (wv_n h1 (by decide) (by decide)) (fun i hi => ⟨wv_n h1 (by omega) (by omega), ?_⟩)
  have : i = 0 ∨ i = 1 ∨ i = 2 := by omega
  rcases this with rfl | rfl | rfl
  · exact hm.1
  · rw [show 17 + 4 * mv + 1 = 18 + 4 * mv by omega]; exact hm.2.1
  · rw [show 17 + 4 * mv + 2 = 19 + 4 * mv by omega]; omega
theorem md_stateN {d0 d1 th ly : Nat} (D : dpt c d0 d1 th ly) (hl : ly ≤ 1) : md_state_r c = nI (ps4 d0 d1 th ly) := by
  obtain ⟨h0, h1, h2, h3⟩ := D
  unfold md_state_r ps4
  rw [h0, h1, h2, h3]
  have e : (((((nI d0 * 10 + nI d1) * 6) + nI th) * 2)) = nI (((d0 * 10 + d1) * 6 + th) * 2) := by
    show (((nI d0 * nI 10 + nI d1) * nI 6 + nI th) * nI 2) = _
    rw [pk_mul, nI_add, pk_mul, nI_add, pk_mul]
  rw [e]
  have : ly = 0 ∨ ly = 1 := by omega
  rcases this with rfl | rfl
  · rw [if_pos (by decide)]; exact nI_add _ 0
  · rw [if_neg (by decide)]; exact nI_add _ 1
theorem md_looksAtN {v : Nat} (hv : v < 1200) : dpt (md_looksAt_c c (nI v)) (v / 120) (v / 12 % 10) (v / 2 % 6) (v % 2) ∧ kpp c (md_looksAt_c c (nI v)) ∧ (md_looksAt_c c (nI v)) 10 = c 10 ∧ (md_looksAt_c c (nI v)) 11 = c 11 := by
  have e2 : nI v - nI v / 2 * 2 = nI (v % 2) := pk_rem (d := 2) (by omega) (by decide) (by decide)
  have e6 : nI v / 2 - nI v / 2 / 6 * 6 = nI (v / 2 % 6) := po_thN hv
  have e10 : nI v / 12 - nI v / 12 / 10 * 10 = nI (v / 12 % 10) := po_d1N hv
  have e120 : nI v / 120 = nI (v / 120) := po_d0N hv
  unfold md_looksAt_c
  rw [e2, e6, e10, e120]
  have : v % 2 = 0 ∨ v % 2 = 1 := by omega
  rcases this with h | h
  · rw [if_neg (by rw [h]; decide)]
    refine ⟨⟨bk_w_same _ _ _ _, ?_, ?_, ?_⟩, (((kpp.rf.w _ _ (by omega)).w _ _ (by omega)).w _ _ (by omega)).w _ _ (by omega), ?_, ?_⟩
    · rw [bk_w_at (by decide), bk_w_same]
    · rw [bk_w_ne (by decide), bk_w_ne (by decide), bk_w_same]
    · rw [bk_w_ne (by decide), bk_w_ne (by decide), bk_w_at (by decide), bk_w_same, h]; rfl
    · rw [bk_w_ne (by decide), bk_w_ne (by decide), bk_w_ne (by decide), bk_w_ne (by decide)]
    · rw [bk_w_ne (by decide), bk_w_ne (by decide), bk_w_ne (by decide), bk_w_ne (by decide)]
  · rw [if_pos (by rw [h]; decide)]
    refine ⟨⟨bk_w_same _ _ _ _, ?_, ?_, ?_⟩, (((kpp.rf.w _ _ (by omega)).w _ _ (by omega)).w _ _ (by omega)).w _ _ (by omega), ?_, ?_⟩
    · rw [bk_w_at (by decide), bk_w_same]
    · rw [bk_w_ne (by decide), bk_w_ne (by decide), bk_w_same]
    · rw [bk_w_ne (by decide), bk_w_ne (by decide), bk_w_at (by decide), bk_w_same, h]; rfl
    · rw [bk_w_ne (by decide), bk_w_ne (by decide), bk_w_ne (by decide), bk_w_ne (by decide)]
    · rw [bk_w_ne (by decide), bk_w_ne (by decide), bk_w_ne (by decide), bk_w_ne (by decide)]
theorem md_looksN (h0 : c 1 0 = nI (W 0)) (h1 : c 1 1 = nI (W 1)) (h2 : c 1 2 = nI (W 2)) (h3 : c 1 3 = nI (W 3)) (hl : W 3 ≤ 1) : dpt (md_looks_c c) (W 0) (W 1) (W 2) (W 3) ∧ kpp c (md_looks_c c) ∧ (md_looks_c c) 10 = c 10 ∧ (md_looks_c c) 11 = c 11 := by
  unfold md_looks_c
  have e3 : bk_w (bk_w (bk_w c 9 0 (c 1 0)) 9 1 ((bk_w c 9 0 (c 1 0)) 1 1)) 0 19 ((bk_w (bk_w c 9 0 (c 1 0)) 9 1 ((bk_w c 9 0 (c 1 0)) 1 1)) 1 2) 1 3 = nI (W 3) := by
    rw [bk_w_ne (by decide), bk_w_ne (by decide), bk_w_ne (by decide)]; exact h3
  rw [e3]
  have a1 : (bk_w c 9 0 (c 1 0)) 1 1 = nI (W 1) := by rw [bk_w_ne (by decide)]; exact h1
  have a2 : (bk_w (bk_w c 9 0 (c 1 0)) 9 1 ((bk_w c 9 0 (c 1 0)) 1 1)) 1 2 = nI (W 2) := by rw [bk_w_ne (by decide), bk_w_ne (by decide)]; exact h2
  rw [a2, a1, h0]
  have : W 3 = 0 ∨ W 3 = 1 := by omega
  rcases this with h | h
  · rw [if_neg (by rw [h]; decide)]
    refine ⟨⟨?_, ?_, ?_, ?_⟩, (((kpp.rf.w _ _ (by omega)).w _ _ (by omega)).w _ _ (by omega)).w _ _ (by omega), ?_, ?_⟩
    · rw [bk_w_ne (by decide), bk_w_ne (by decide), bk_w_at (by decide), bk_w_same]
    · rw [bk_w_ne (by decide), bk_w_ne (by decide), bk_w_same]
    · rw [bk_w_at (by decide), bk_w_same]
    · rw [bk_w_same, h]; rfl
    · rw [bk_w_ne (by decide), bk_w_ne (by decide), bk_w_ne (by decide), bk_w_ne (by decide)]
    · rw [bk_w_ne (by decide), bk_w_ne (by decide), bk_w_ne (by decide), bk_w_ne (by decide)]
  · rw [if_pos (by rw [h]; decide)]
    refine ⟨⟨?_, ?_, ?_, ?_⟩, (((kpp.rf.w _ _ (by omega)).w _ _ (by omega)).w _ _ (by omega)).w _ _ (by omega), ?_, ?_⟩
    · rw [bk_w_ne (by decide), bk_w_ne (by decide), bk_w_at (by decide), bk_w_same]
    · rw [bk_w_ne (by decide), bk_w_ne (by decide), bk_w_same]
    · rw [bk_w_at (by decide), bk_w_same]
    · rw [bk_w_same, h]; rfl
    · rw [bk_w_ne (by decide), bk_w_ne (by decide), bk_w_ne (by decide), bk_w_ne (by decide)]
    · rw [bk_w_ne (by decide), bk_w_ne (by decide), bk_w_ne (by decide), bk_w_ne (by decide)]
theorem rw_looks (R : rwd c W sd m) : dpt (md_looks_c c) (W 0) (W 1) (W 2) (W 3) ∧ kpp c (md_looks_c c) ∧ (md_looks_c c) 10 = c 10 ∧ (md_looks_c c) 11 = c 11 :=
  md_looksN (wv_n R.1 (by decide) (by decide)) (wv_n R.1 (by decide) (by decide)) (wv_n R.1 (by decide) (by decide)) (wv_n R.1 (by decide) (by decide)) R.2.1.1.2.2.2.1
theorem nxt_in {k : (Nat → Nat → Int32) → Int32 → Int32 → Option ((Nat → Nat → Int32) × Int32)} {c0 : Nat → Nat → Int32} {s : Nat} (hN : 1000 ≤ N) (R : rwd c0 W sd m) (hs : s < 1200) :
    ∀ (r fuel o : Nat) (c : Nat → Nat → Int32), o + r = 12 → r < fuel → kpp c0 c → ∃ c', md_laysNext_L11 N k fuel c (nI s) (nI o) = k c' (nI s) 12 ∧ kpp c0 c' ∧ (∀ o', o ≤ o' → o' < 12 → c' 10 (12 * s + o') = nI (nxf W m (W 4) (W 5) s o')) ∧ ∀ j, (j < 12 * s + o ∨ 12 * s + 12 ≤ j) → c' 10 j = c 10 j := by
  intro r
  induction r with
  | zero =>
    intro fuel o c ho hf hc
    obtain ⟨fuel, rfl⟩ : ∃ q, fuel = q + 1 := ⟨fuel - 1, by omega⟩
    have : o = 12 := by omega
    subst this
    simp only [md_laysNext_L11]
    rw [if_pos (by decide)]
    exact ⟨c, rfl, hc, fun o' h1 h2 => by omega, fun _ _ => rfl⟩
  | succ r ih =>
    intro fuel o c ho hf hc
    obtain ⟨fuel, rfl⟩ : ∃ q, fuel = q + 1 := ⟨fuel - 1, by omega⟩
    have h12 : o < 12 := by omega
    obtain ⟨l1, l2, l3, l4⟩ := md_looksAtN (c := c) hs
    have hmv := wy_mv_lt o h12
    have hlg : lg_o o ≤ 1 := by unfold lg_o; split <;> omega
    have R1 : rwd (md_looksAt_c c (nI s)) W sd m := rwd_k R ((hc.tr l2).c1)
    obtain ⟨c1, g1, g2, g3, g4⟩ := rw_move (lg := lg_o o) (mv := wy_mv o) hN R1 (by omega) hlg ⟨by omega, by omega, by omega, by omega⟩ l1
    have hle := mv4_le (W := W) (m := m) (ca := W 4) (wa := W 5) (mv := wy_mv o) (lg := lg_o o) (d0 := s / 120) (d1 := s / 12 % 10) (th := s / 2 % 6) (ly := s % 2) (by omega) (by omega) (by omega)
    have hst := md_stateN g2 hle.2.2.2
    have hps : s = ps4 (s / 120) (s / 12 % 10) (s / 2 % 6) (s % 2) := by unfold ps4; omega
    have hnx : ps4 (mv4 W m (W 4) (W 5) (wy_mv o) (lg_o o) (s / 120) (s / 12 % 10) (s / 2 % 6) (s % 2)).1 (mv4 W m (W 4) (W 5) (wy_mv o) (lg_o o) (s / 120) (s / 12 % 10) (s / 2 % 6) (s % 2)).2.1 (mv4 W m (W 4) (W 5) (wy_mv o) (lg_o o) (s / 120) (s / 12 % 10) (s / 2 % 6) (s % 2)).2.2.1 (mv4 W m (W 4) (W 5) (wy_mv o) (lg_o o) (s / 120) (s / 12 % 10) (s / 2 % 6) (s % 2)).2.2.2 = nxf W m (W 4) (W 5) s o := by
      unfold nxf
      conv => rhs; rw [hps]
      rw [mv_s4 (by omega) (by omega) (by omega)]
    rw [hnx] at hst
    have k1 : kpp (md_looksAt_c c (nI s)) c1 := ⟨fun q h0 h8 h9 _ _ => g3 q h8 h9 h0, g4⟩
    have e12 : (12 : Int32) * nI s + nI o = nI (12 * s + o) := by
      show nI 12 * nI s + nI o = _
      rw [pk_mul, nI_add]
    simp only [md_laysNext_L11, zq_letP]
    rw [if_neg (by show ¬ nI 12 ≤ nI o; rw [zq_le (by decide) (by omega)]; omega), md_mvN o h12, md_lgN o h12, g1]
    simp only [zq_bindP]
    rw [e12, if_pos (zq_inBt (by omega) (by decide)), zq_cl (by omega), hst, nI_1]
    obtain ⟨c', u1, u2, u3, u4⟩ := ih fuel (o + 1) (bk_w c1 10 (12 * s + o) (nI (nxf W m (W 4) (W 5) s o))) (by omega) (by omega) (((hc.tr l2).tr k1).w _ _ (by omega))
    refine ⟨c', u1, u2, fun o' h1 h2 => ?_, fun j hj => ?_⟩
    · by_cases e : o' = o
      · subst e
        rw [u4 _ (.inl (by omega)), bk_w_same]
      · exact u3 o' (by omega) h2
    · rw [u4 j (by omega), bk_w_at (by omega), g3 10 (by decide) (by decide) (by decide), l3]
theorem nxt_out {c0 : Nat → Nat → Int32} (hN : 2000 ≤ N) (R : rwd c0 W sd m) :
    ∀ (r fuel s : Nat) (c : Nat → Nat → Int32), s + r = 1200 → r < fuel → kpp c0 c → (∀ s' o', s' < s → o' < 12 → c 10 (12 * s' + o') = nI (nxf W m (W 4) (W 5) s' o')) → ∃ c', md_laysNext_L2 N (fun q2 x3 => (some (q2, 0))) fuel c (nI s) = some (c', 0) ∧ kpp c0 c' ∧ ∀ s' o', s' < 1200 → o' < 12 → c' 10 (12 * s' + o') = nI (nxf W m (W 4) (W 5) s' o') := by
  intro r
  induction r with
  | zero =>
    intro fuel s c hs hf hc h
    obtain ⟨fuel, rfl⟩ : ∃ q, fuel = q + 1 := ⟨fuel - 1, by omega⟩
    have : s = 1200 := by omega
    subst this
    simp only [md_laysNext_L2]
    rw [if_pos (by decide)]
    exact ⟨c, rfl, hc, h⟩
  | succ r ih =>
    intro fuel s c hs hf hc h
    obtain ⟨fuel, rfl⟩ : ∃ q, fuel = q + 1 := ⟨fuel - 1, by omega⟩
    simp only [md_laysNext_L2, zq_letP]
    rw [if_neg (by show ¬ nI 1200 ≤ nI s; rw [zq_le (by decide) (by omega)]; omega)]
    obtain ⟨c1, g1, g2, g3, g4⟩ := nxt_in (N := N) (k := fun q3 x4 x5 => md_laysNext_L2 N (fun q2 x3 => (some (q2, 0))) fuel q3 (x4 + 1)) (s := s) (by omega) R (by omega) 12 N 0 c (by omega) (by omega) hc
    have g1' : md_laysNext_L11 N (fun q3 x4 x5 => md_laysNext_L2 N (fun q2 x3 => (some (q2, 0))) fuel q3 (x4 + 1)) N c (nI s) 0 = _ := g1
    rw [g1', nI_1]
    refine ih fuel (s + 1) c1 (by omega) (by omega) g2 (fun s' o' h1 h2 => ?_)
    by_cases e : s' = s
    · subst e; exact g3 o' (Nat.zero_le _) h2
    · rw [g4 _ (.inl (by omega))]; exact h s' o' (by omega) h2
theorem nxt_lays (hN : 2000 ≤ N) (R : rwd c W sd m) : ∃ c', md_laysNext N c = some (c', 0) ∧ kpp c c' ∧ rg_env c' (nxf W m (W 4) (W 5)) (tkf W) := by
  obtain ⟨c', h1, h2, h3⟩ := nxt_out hN R 1200 N 0 c (by omega) (by omega) kpp.rf (fun s' o' h => by omega)
  refine ⟨c', h1, h2, fun s o hs ho => ⟨h3 s o hs ho, mv_s_lt hs⟩, fun o ho => ?_⟩
  have hm := wy_mv_lt o ho
  have hw := wd_mv R.2.1 (mv := wy_mv o) (by omega)
  refine ⟨?_, hw.2.2.2.1, hw.2.2.2.2⟩
  rw [h2.c1]
  exact wv_n R.1 (by omega) (by omega)
theorem onl_kpp {c c' : Nat → Nat → Int32} (h : onl 11 c c') : kpp c c' := ⟨fun q _ _ _ _ h11 => h q h11, fun j _ _ => by rw [h 0 (by decide)]⟩
theorem psN_lt (h : wd W) : psN W < 1200 := by
  obtain ⟨⟨h0, h1, h2, h3, -⟩, -⟩ := h
  unfold psN; omega
theorem psN_ps4 : psN W = ps4 (W 0) (W 1) (W 2) (W 3) := rfl
/-- soonest by the reference -/
theorem rf_soonBy {set : Int32} {ok : Nat → Bool} (hN : 2000000000 ≤ N) (R : rwd c W sd m) (hok : ∀ o, o < 12 → md_has set (nI (wy_mv o)) = if ok o = true then 1 else 0) :
    ∃ c' nd, md_soonestBy N c set = some (c', nI (nd (psN W))) ∧ kpp c c' ∧ ndv c' nd ∧ gp_need (nxf W m (W 4) (W 5)) (tkf W) ok nd ∧ rg_env c' (nxf W m (W 4) (W 5)) (tkf W) := by
  obtain ⟨c1, a1, a2, a3⟩ := nxt_lays (by omega : 2000 ≤ N) R
  obtain ⟨c2, nd, b1, b2, b3, b4⟩ := nd_lays hN a3 hok
  have k12 := a2.tr (onl_kpp b2)
  have R2 : rwd c2 W sd m := rwd_k R k12.c1
  obtain ⟨l1, l2, l3, l4⟩ := rw_looks R2
  have hps := psN_lt R.2.1
  have hst : md_state_r (md_looks_c c2) = nI (psN W) := md_stateN l1 R.2.1.1.2.2.2.1
  unfold md_soonestBy
  rw [a1]
  simp only [zq_bindP, zq_letP]
  rw [b1]
  simp only [zq_bindP, zq_letP]
  unfold md_stateNow_r md_stateNow_c
  rw [hst, if_pos (zq_inBt hps (by decide)), zq_cl (by omega), l4, (b3 _ hps).1]
  refine ⟨_, nd, rfl, k12.tr l2, ?_, b4, ?_⟩
  · unfold ndv; rw [l4]; exact b3
  · have := rg_on a3 b2
    unfold rg_env at this ⊢
    rw [l3, l2.c1]; exact this
end
