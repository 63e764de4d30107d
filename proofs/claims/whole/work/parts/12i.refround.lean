/-! THE REFERENCE: round, more, best -/
section
variable {N : Nat} {c : Nat → Nat → Int32} {nx : Nat → Nat → Nat} {tk : Nat → Nat} {ok : Nat → Bool} {nd : Nat → Nat}
/-- what the passes of laysRound keep -/
def rd_ok (nx : Nat → Nat → Nat) (tk : Nat → Nat) (st : Nat) (nd : Nat → Nat) : Prop := ∀ s, s < 1200 → nd s < 1000000 → ∃ n, gp_R nx tk (fun _ => true) (n + 1) (nd s) st s
theorem rd_fill {k : (Nat → Nat → Int32) → Int32 → Int32 → Option ((Nat → Nat → Int32) × Int32)} {p1 : Int32} {c0 : Nat → Nat → Int32} :
    ∀ (r fuel s : Nat) (c : Nat → Nat → Int32), s + r = 1200 → r < fuel → onl 11 c0 c → (∀ j, j < s → c 11 j = nI 1000000) → ∃ c', md_laysRound_L2 N k fuel c p1 (nI s) = k c' p1 1200 ∧ onl 11 c0 c' ∧ ndv c' (fun _ => 1000000) := by
  intro r
  induction r with
  | zero =>
    intro fuel s c hs hf hc h
    obtain ⟨fuel, rfl⟩ : ∃ q, fuel = q + 1 := ⟨fuel - 1, by omega⟩
    have : s = 1200 := by omega
    subst this
    simp only [md_laysRound_L2]
    rw [if_pos (by decide)]
    exact ⟨c, rfl, hc, fun j hj => ⟨h j hj, Nat.le_refl _⟩⟩
  | succ r ih =>
    intro fuel s c hs hf hc h
    obtain ⟨fuel, rfl⟩ : ∃ q, fuel = q + 1 := ⟨fuel - 1, by omega⟩
    simp only [md_laysRound_L2, zq_letP]
    rw [if_neg (by show ¬ nI 1200 ≤ nI s; rw [zq_le (by decide) (by omega)]; omega), if_pos (zq_inBt (show s < 1200 by omega) (by decide)), zq_cl (by omega), nI_1]
    refine ih fuel (s + 1) _ (by omega) (by omega) (hc.w _ _) (fun j hj => ?_)
    by_cases e : j = s
    · subst e; rw [bk_w_same]; rfl
    · rw [bk_w_at e]; exact h j (by omega)
/-- the first steps -/
theorem rd_first {k : (Nat → Nat → Int32) → Int32 → Int32 → Option ((Nat → Nat → Int32) × Int32)} {c0 : Nat → Nat → Int32} {st : Nat} (E : rg_env c0 nx tk) (hst : st < 1200) (h12 : 12 ≤ st) :
    ∀ (r fuel o : Nat) (c : Nat → Nat → Int32) (nd : Nat → Nat), o + r = 12 → r < fuel → onl 11 c0 c → ndv c nd → rd_ok nx tk st nd → (∀ o', o' < o → nd (nx st o') ≤ tk o') →
    ∃ c' nd', md_laysRound_L26 N k fuel c (nI st) (nI o) = k c' (nI st) 12 ∧ onl 11 c0 c' ∧ ndv c' nd' ∧ rd_ok nx tk st nd' ∧ ∀ o', o' < 12 → nd' (nx st o') ≤ tk o' := by
  intro r
  induction r with
  | zero =>
    intro fuel o c nd ho hf hc D A B
    obtain ⟨fuel, rfl⟩ : ∃ q, fuel = q + 1 := ⟨fuel - 1, by omega⟩
    have : o = 12 := by omega
    subst this
    simp only [md_laysRound_L26]
    rw [if_pos (by decide)]
    exact ⟨c, nd, rfl, hc, D, A, B⟩
  | succ r ih =>
    intro fuel o c nd ho hf hc D A B
    obtain ⟨fuel, rfl⟩ : ∃ q, fuel = q + 1 := ⟨fuel - 1, by omega⟩
    have ho12 : o < 12 := by omega
    have Ec := rg_on E hc
    obtain ⟨e1, e2, e3, e4, e5, e6⟩ := md_nxN Ec hst ho12
    have hnx := (E.1 st o hst ho12).2
    have htk := (E.2 o ho12).2
    have hD := D (nx st o) hnx
    have hmt := md_tkN Ec ho12
    simp only [md_laysRound_L26, zq_letP]
    rw [if_neg (by show ¬ nI 12 ≤ nI o; rw [zq_le (by decide) (by omega)]; omega), md_outN hst, if_neg (show ¬ st < 12 by omega), if_pos rfl, e1, if_pos e2, e3, e4, if_pos e5, e6, if_pos hmt.2, hmt.1, hD.1, zq_min (by omega) (by omega), nI_1]
    have hv : min (nd (nx st o)) (tk o) ≤ 1000000 := by omega
    have D2 := ndv_w D (s := nx st o) hv
    refine ih fuel (o + 1) _ (ndS nd (nx st o) (min (nd (nx st o)) (tk o))) (by omega) (by omega) (hc.w _ _) D2 (fun j hj hlt => ?_) (fun o' h1 => ?_)
    · unfold ndS at hlt ⊢
      by_cases e : j = nx st o
      · rw [if_pos e] at hlt ⊢
        by_cases q : nd (nx st o) ≤ tk o
        · rw [Nat.min_eq_left q] at hlt ⊢
          rw [e]; exact A _ hnx hlt
        · rw [Nat.min_eq_right (by omega), e]
          exact ⟨0, h12, o, 0, ho12, rfl, rfl, rfl, rfl⟩
      · rw [if_neg e] at hlt ⊢; exact A j hj hlt
    · unfold ndS
      by_cases e : nx st o' = nx st o
      · rw [if_pos e]
        by_cases q : o' = o
        · subst q; omega
        · have := B o' (by omega); rw [e] at this; omega
      · rw [if_neg e]
        by_cases q : o' = o
        · subst q; exact absurd rfl e
        · exact B o' (by omega)
theorem rd_firstOut {k : (Nat → Nat → Int32) → Int32 → Int32 → Option ((Nat → Nat → Int32) × Int32)} {st : Nat} (hst : st < 12) (fuel : Nat) : md_laysRound_L26 N k (fuel + 1) c (nI st) 0 = k c (nI st) 0 := by
  simp only [md_laysRound_L26]
  rw [if_neg (by decide), md_outN (by omega), if_pos hst, if_neg (by decide)]
/-- the steps from one state -/
theorem rd_in {k : (Nat → Nat → Int32) → Int32 → Int32 → Int32 → Int32 → Option ((Nat → Nat → Int32) × Int32)} {c0 : Nat → Nat → Int32} {st s : Nat} {nd0 : Nat → Nat} {p1 : Int32} (E : rg_env c0 nx tk) (hst : st < 1200) (hs : s < 1200) :
    ∀ (r fuel o : Nat) (c : Nat → Nat → Int32) (nd : Nat → Nat) (fl : Nat), o + r = 12 → r < fuel → onl 11 c0 c → ndv c nd → rd_ok nx tk st nd → (∀ v, nd v ≤ nd0 v) → ((fl = 0 ∧ nd = nd0 ∧ (12 ≤ s → nd s < 1000000 → ∀ o', o' < o → nd (nx s o') ≤ nd s + tk o')) ∨ (fl = 1 ∧ fb_sm nd 1200 < fb_sm nd0 1200)) →
    ∃ c' nd' fl' x, md_laysRound_L97 N k fuel c p1 (nI fl) (nI s) (nI o) = k c' p1 (nI fl') (nI s) x ∧ onl 11 c0 c' ∧ ndv c' nd' ∧ rd_ok nx tk st nd' ∧ (∀ v, nd' v ≤ nd0 v) ∧ ((fl' = 0 ∧ nd' = nd0 ∧ (12 ≤ s → nd' s < 1000000 → ∀ o', o' < 12 → nd' (nx s o') ≤ nd' s + tk o')) ∨ (fl' = 1 ∧ fb_sm nd' 1200 < fb_sm nd0 1200)) ∧ (fl = 1 → fl' = 1) := by
  intro r
  induction r with
  | zero =>
    intro fuel o c nd fl ho hf hc D A M B
    obtain ⟨fuel, rfl⟩ : ∃ q, fuel = q + 1 := ⟨fuel - 1, by omega⟩
    have : o = 12 := by omega
    subst this
    simp only [md_laysRound_L97]
    rw [if_pos (by decide)]
    exact ⟨c, nd, fl, _, rfl, hc, D, A, M, B, id⟩
  | succ r ih =>
    intro fuel o c nd fl ho hf hc D A M B
    obtain ⟨fuel, rfl⟩ : ∃ q, fuel = q + 1 := ⟨fuel - 1, by omega⟩
    have ho12 : o < 12 := by omega
    have Ec := rg_on E hc
    obtain ⟨e1, e2, e3, e4, e5, e6⟩ := md_nxN Ec hs ho12
    have hnx := (E.1 s o hs ho12).2
    have htk := (E.2 o ho12).2
    have hD := D (nx s o) hnx
    have hDs := D s hs
    have hmt := md_tkN Ec ho12
    have u1 : ky_inB (nI s) 1200 = true := zq_inBt hs (by decide)
    have u2 : (nI s).toNatClampNeg = s := zq_cl (by omega)
    simp only [md_laysRound_L97, zq_letP]
    rw [if_neg (by show ¬ nI 12 ≤ nI o; rw [zq_le (by decide) (by omega)]; omega), if_pos u1, u2, hDs.1]
    by_cases hfar : 1000000 ≤ nd s
    · rw [if_pos (by show nI 1000000 ≤ _; rw [zq_le (by decide) (by omega)]; exact hfar)]
      refine ⟨c, nd, fl, _, rfl, hc, D, A, M, ?_, id⟩
      rcases B with ⟨b1, b2, b3⟩ | B
      · exact .inl ⟨b1, b2, fun _ h => by omega⟩
      · exact .inr B
    · rw [if_neg (by show ¬ nI 1000000 ≤ _; rw [zq_le (by decide) (by omega)]; exact hfar), md_outN hs]
      by_cases h12 : s < 12
      · rw [if_pos h12, if_neg (by decide)]
        refine ⟨c, nd, fl, _, rfl, hc, D, A, M, ?_, id⟩
        rcases B with ⟨b1, b2, b3⟩ | B
        · exact .inl ⟨b1, b2, fun h => by omega⟩
        · exact .inr B
      · rw [if_neg h12, if_pos rfl, e1, if_pos e2, e3, e4, if_pos hmt.2, hmt.1, nI_add]
        simp only [e5, if_true]
        rw [e6, hD.1, zq_min (by omega) (by omega), nI_1]
        have hv : min (nd (nx s o)) (nd s + tk o) ≤ 1000000 := by omega
        have D2 := ndv_w D (s := nx s o) hv
        have A2 : rd_ok nx tk st (ndS nd (nx s o) (min (nd (nx s o)) (nd s + tk o))) := by
          intro j hj hlt
          unfold ndS at hlt ⊢
          by_cases e : j = nx s o
          · rw [if_pos e] at hlt ⊢
            by_cases q : nd (nx s o) ≤ nd s + tk o
            · rw [Nat.min_eq_left q] at hlt ⊢
              rw [e]; exact A _ hnx hlt
            · rw [Nat.min_eq_right (by omega), e]
              obtain ⟨n, hn⟩ := A s hs (by omega)
              exact ⟨n + 1, gp_snoc hn (by omega) ho12 rfl⟩
          · rw [if_neg e] at hlt ⊢; exact A j hj hlt
        have M2 : ∀ v, ndS nd (nx s o) (min (nd (nx s o)) (nd s + tk o)) v ≤ nd0 v := fun v => by
          unfold ndS
          split
          · rename_i e; subst e; have := M (nx s o); omega
          · exact M v
        have hsum : fb_sm (ndS nd (nx s o) (min (nd (nx s o)) (nd s + tk o))) 1200 + nd (nx s o) = fb_sm nd 1200 + min (nd (nx s o)) (nd s + tk o) := fb_sm_upd nd _ hnx
        rcases B with ⟨rfl, rfl, b3⟩ | ⟨rfl, b2⟩
        · rw [if_pos (by decide)]
          by_cases hle : nd (nx s o) ≤ nd s + tk o
          · rw [if_pos (by rw [zq_le (by omega) (by omega)]; exact hle)]
            rw [Nat.min_eq_left hle] at D2 A2 M2 ⊢
            rw [ndS_same] at D2 A2 M2
            obtain ⟨c', nd', fl', x, z1, z2, z3, z4, z5, z6, z7⟩ := ih fuel (o + 1) _ nd 0 (by omega) (by omega) (hc.w _ _) D2 A2 M2 (.inl ⟨rfl, rfl, fun h h' o' ho' => by
              by_cases e : o' = o
              · subst e; exact hle
              · exact b3 h h' o' (by omega)⟩)
            exact ⟨c', nd', fl', x, z1, z2, z3, z4, z5, z6, fun q => absurd q (by decide)⟩
          · rw [if_neg (by rw [zq_le (by omega) (by omega)]; exact hle)]
            obtain ⟨c', nd', fl', x, z1, z2, z3, z4, z5, z6, z7⟩ := ih fuel (o + 1) _ _ 1 (by omega) (by omega) (hc.w _ _) D2 A2 M2 (.inr ⟨rfl, by omega⟩)
            exact ⟨c', nd', fl', x, z1, z2, z3, z4, z5, z6, fun q => absurd q (by decide)⟩
        · rw [if_neg (by decide)]
          exact ih fuel (o + 1) _ _ 1 (by omega) (by omega) (hc.w _ _) D2 A2 M2 (.inr ⟨rfl, by omega⟩)
/-- one pass -/
theorem rd_pass {k : (Nat → Nat → Int32) → Int32 → Int32 → Int32 → Option ((Nat → Nat → Int32) × Int32)} {c0 : Nat → Nat → Int32} {st : Nat} {nd0 : Nat → Nat} {p1 : Int32} (hN : 2000 ≤ N) (E : rg_env c0 nx tk) (hst : st < 1200) :
    ∀ (r fuel s : Nat) (c : Nat → Nat → Int32) (nd : Nat → Nat) (fl : Nat), s + r = 1200 → r < fuel → onl 11 c0 c → ndv c nd → rd_ok nx tk st nd → (∀ v, nd v ≤ nd0 v) → ((fl = 0 ∧ nd = nd0 ∧ ∀ s', s' < s → 12 ≤ s' → nd s' < 1000000 → ∀ o', o' < 12 → nd (nx s' o') ≤ nd s' + tk o') ∨ (fl = 1 ∧ fb_sm nd 1200 < fb_sm nd0 1200)) →
    ∃ c' nd' fl', md_laysRound_L87 N k fuel c p1 (nI fl) (nI s) = k c' p1 (nI fl') 1200 ∧ onl 11 c0 c' ∧ ndv c' nd' ∧ rd_ok nx tk st nd' ∧ (∀ v, nd' v ≤ nd0 v) ∧ ((fl' = 0 ∧ nd' = nd0 ∧ ∀ s', s' < 1200 → 12 ≤ s' → nd' s' < 1000000 → ∀ o', o' < 12 → nd' (nx s' o') ≤ nd' s' + tk o') ∨ (fl' = 1 ∧ fb_sm nd' 1200 < fb_sm nd0 1200)) := by
  intro r
  induction r with
  | zero =>
    intro fuel s c nd fl hs hf hc D A M B
    obtain ⟨fuel, rfl⟩ : ∃ q, fuel = q + 1 := ⟨fuel - 1, by omega⟩
    have : s = 1200 := by omega
    subst this
    simp only [md_laysRound_L87]
    rw [if_pos (by decide)]
    exact ⟨c, nd, fl, rfl, hc, D, A, M, B⟩
  | succ r ih =>
    intro fuel s c nd fl hs hf hc D A M B
    obtain ⟨fuel, rfl⟩ : ∃ q, fuel = q + 1 := ⟨fuel - 1, by omega⟩
    simp only [md_laysRound_L87, zq_letP]
    rw [if_neg (by show ¬ nI 1200 ≤ nI s; rw [zq_le (by decide) (by omega)]; omega)]
    rcases B with ⟨rfl, rfl, b3⟩ | ⟨rfl, b2⟩
    · obtain ⟨c1, nd1, fl1, x, g1, g2, g3, g4, g5, g6, g7⟩ := rd_in (N := N) (k := fun q3 x4 x5 x6 x7 => md_laysRound_L87 N k fuel q3 x4 x5 (x6 + 1)) (s := s) (nd0 := nd) (p1 := p1) E hst (by omega) 12 N 0 c nd 0 (by omega) (by omega) hc D A M (.inl ⟨rfl, rfl, fun _ _ o' h => by omega⟩)
      have g1' : md_laysRound_L97 N (fun q3 x4 x5 x6 x7 => md_laysRound_L87 N k fuel q3 x4 x5 (x6 + 1)) N c p1 (nI 0) (nI s) 0 = _ := g1
      rw [g1', nI_1]
      rcases g6 with ⟨rfl, rfl, b4⟩ | ⟨rfl, b4⟩
      · exact ih fuel (s + 1) c1 nd1 0 (by omega) (by omega) g2 g3 g4 g5 (.inl ⟨rfl, rfl, fun s' h1 h2 h3 => by
          by_cases e : s' = s
          · subst e; exact b4 h2 h3
          · exact b3 s' (by omega) h2 h3⟩)
      · exact ih fuel (s + 1) c1 nd1 1 (by omega) (by omega) g2 g3 g4 g5 (.inr ⟨rfl, b4⟩)
    · obtain ⟨c1, nd1, fl1, x, g1, g2, g3, g4, g5, g6, g7⟩ := rd_in (N := N) (k := fun q3 x4 x5 x6 x7 => md_laysRound_L87 N k fuel q3 x4 x5 (x6 + 1)) (s := s) (nd0 := nd0) (p1 := p1) E hst (by omega) 12 N 0 c nd 1 (by omega) (by omega) hc D A M (.inr ⟨rfl, b2⟩)
      have g1' : md_laysRound_L97 N (fun q3 x4 x5 x6 x7 => md_laysRound_L87 N k fuel q3 x4 x5 (x6 + 1)) N c p1 (nI 1) (nI s) 0 = _ := g1
      rw [g1', nI_1]
      rcases g6 with ⟨rfl, rfl, b4⟩ | ⟨rfl, b4⟩
      · exact absurd (g7 rfl) (by decide)
      · exact ih fuel (s + 1) c1 nd1 1 (by omega) (by omega) g2 g3 g4 g5 (.inr ⟨rfl, b4⟩)
theorem rd_loop {c0 : Nat → Nat → Int32} {st : Nat} (hN : 2000 ≤ N) (E : rg_env c0 nx tk) (hst : st < 1200) :
    ∀ (r fuel : Nat) (c : Nat → Nat → Int32) (nd : Nat → Nat), fb_sm nd 1200 ≤ r → r + 1 < fuel → onl 11 c0 c → ndv c nd → rd_ok nx tk st nd → (12 ≤ st → ∀ o', o' < 12 → nd (nx st o') ≤ tk o') →
    ∃ c' nd', md_laysRound_L79 N (fun q10 x11 x12 => (some (q10, 0))) fuel c (nI st) 1 = some (c', 0) ∧ onl 11 c0 c' ∧ ndv c' nd' ∧ gp_rnd nx tk st nd' := by
  intro r
  induction r with
  | zero =>
    intro fuel c nd hr hf hc D A F
    obtain ⟨fuel, rfl⟩ : ∃ q, fuel = q + 2 := ⟨fuel - 2, by omega⟩
    have h79 : md_laysRound_L79 N (fun q10 x11 x12 => (some (q10, 0))) (fuel + 2) c (nI st) 1 = md_laysRound_L87 N (fun q3 x4 x5 x6 => (md_laysRound_L79 N (fun q10 x11 x12 => (some (q10, 0))) (fuel + 1) q3 x4 x5)) N c (nI st) 0 0 := by
      rw [show fuel + 2 = (fuel + 1) + 1 from rfl]
      conv => lhs; unfold md_laysRound_L79
      rw [if_neg (by decide)]
    rw [h79]
    obtain ⟨c1, nd1, fl1, g1, g2, g3, g4, g5, g6⟩ := rd_pass (N := N) (k := fun q3 x4 x5 x6 => (md_laysRound_L79 N (fun q10 x11 x12 => (some (q10, 0))) (fuel + 1) q3 x4 x5)) (nd0 := nd) (p1 := nI st) hN E hst 1200 N 0 c nd 0 (by omega) (by omega) hc D A (fun _ => Nat.le_refl _) (.inl ⟨rfl, rfl, fun s' h => by omega⟩)
    have g1' : md_laysRound_L87 N (fun q3 x4 x5 x6 => (md_laysRound_L79 N (fun q10 x11 x12 => (some (q10, 0))) (fuel + 1) q3 x4 x5)) N c (nI st) 0 0 = _ := g1
    rw [g1']
    rcases g6 with ⟨rfl, rfl, b4⟩ | ⟨rfl, b4⟩
    · simp only [md_laysRound_L79]
      rw [if_pos (by decide)]
      exact ⟨c1, nd1, rfl, g2, g3, g4, fun o ho h => F h o ho, fun s o h1 h2 h3 h4 => b4 s h1 h2 h4 o h3⟩
    · omega
  | succ r ih =>
    intro fuel c nd hr hf hc D A F
    obtain ⟨fuel, rfl⟩ : ∃ q, fuel = q + 2 := ⟨fuel - 2, by omega⟩
    have h79 : md_laysRound_L79 N (fun q10 x11 x12 => (some (q10, 0))) (fuel + 2) c (nI st) 1 = md_laysRound_L87 N (fun q3 x4 x5 x6 => (md_laysRound_L79 N (fun q10 x11 x12 => (some (q10, 0))) (fuel + 1) q3 x4 x5)) N c (nI st) 0 0 := by
      rw [show fuel + 2 = (fuel + 1) + 1 from rfl]
      conv => lhs; unfold md_laysRound_L79
      rw [if_neg (by decide)]
    rw [h79]
    obtain ⟨c1, nd1, fl1, g1, g2, g3, g4, g5, g6⟩ := rd_pass (N := N) (k := fun q3 x4 x5 x6 => (md_laysRound_L79 N (fun q10 x11 x12 => (some (q10, 0))) (fuel + 1) q3 x4 x5)) (nd0 := nd) (p1 := nI st) hN E hst 1200 N 0 c nd 0 (by omega) (by omega) hc D A (fun _ => Nat.le_refl _) (.inl ⟨rfl, rfl, fun s' h => by omega⟩)
    have g1' : md_laysRound_L87 N (fun q3 x4 x5 x6 => (md_laysRound_L79 N (fun q10 x11 x12 => (some (q10, 0))) (fuel + 1) q3 x4 x5)) N c (nI st) 0 0 = _ := g1
    rw [g1']
    rcases g6 with ⟨rfl, rfl, b4⟩ | ⟨rfl, b4⟩
    · simp only [md_laysRound_L79]
      rw [if_pos (by decide)]
      exact ⟨c1, nd1, rfl, g2, g3, g4, fun o ho h => F h o ho, fun s o h1 h2 h3 h4 => b4 s h1 h2 h4 o h3⟩
    · exact ih (fuel + 1) c1 nd1 (by omega) (by omega) g2 g3 g4 (fun h o' ho' => Nat.le_trans (g5 _) (F h o' ho'))
theorem rd_lays {st : Nat} (hN : 2000000000 ≤ N) (E : rg_env c nx tk) (hst : st < 1200) : ∃ c' nd', md_laysRound N c (nI st) = some (c', 0) ∧ onl 11 c c' ∧ ndv c' nd' ∧ gp_rnd nx tk st nd' := by
  unfold md_laysRound
  obtain ⟨c1, h1, h2, h3⟩ := rd_fill (N := N) (k := fun q2 x3 x4 => (md_laysRound_L26 N (fun q6 x7 x8 => (md_laysRound_L79 N (fun q10 x11 x12 => (some (q10, 0))) N q6 x7 1)) N q2 x3 0)) (p1 := nI st) (c0 := c) 1200 N 0 c (by omega) (by omega) onl.rf (fun j hj => by omega)
  have h1' : md_laysRound_L2 N (fun q2 x3 x4 => (md_laysRound_L26 N (fun q6 x7 x8 => (md_laysRound_L79 N (fun q10 x11 x12 => (some (q10, 0))) N q6 x7 1)) N q2 x3 0)) N c (nI st) 0 = _ := h1
  rw [h1']
  have A0 : rd_ok nx tk st (fun _ => 1000000) := fun s _ h => absurd h (Nat.lt_irrefl _)
  have bound : ∀ {c2 : Nat → Nat → Int32} {nd2 : Nat → Nat}, ndv c2 nd2 → fb_sm nd2 1200 ≤ 1200 * 1000000 := fun D => fb_sm_bound (fun j hj => (D j hj).2)
  by_cases h12 : st < 12
  · obtain ⟨N', hN'⟩ : ∃ q, N = q + 1 := ⟨N - 1, by omega⟩
    have e : md_laysRound_L26 N (fun q6 x7 x8 => (md_laysRound_L79 N (fun q10 x11 x12 => (some (q10, 0))) N q6 x7 1)) N c1 (nI st) 0 = md_laysRound_L79 N (fun q10 x11 x12 => (some (q10, 0))) N c1 (nI st) 1 := by
      have := rd_firstOut (N := N) (c := c1) (k := fun q6 x7 x8 => (md_laysRound_L79 N (fun q10 x11 x12 => (some (q10, 0))) N q6 x7 1)) h12 N'
      rw [← hN'] at this
      exact this
    rw [e]
    exact rd_loop (by omega) E hst (1200 * 1000000) N c1 _ (bound h3) (by omega) h2 h3 A0 (fun h => by omega)
  · obtain ⟨c2, nd2, g1, g2, g3, g4, g5⟩ := rd_first (N := N) (k := fun q6 x7 x8 => (md_laysRound_L79 N (fun q10 x11 x12 => (some (q10, 0))) N q6 x7 1)) E hst (by omega) 12 N 0 c1 _ (by omega) (by omega) h2 h3 A0 (fun o' h => by omega)
    have g1' : md_laysRound_L26 N (fun q6 x7 x8 => (md_laysRound_L79 N (fun q10 x11 x12 => (some (q10, 0))) N q6 x7 1)) N c1 (nI st) 0 = _ := g1
    rw [g1']
    exact rd_loop (by omega) E hst (1200 * 1000000) N c2 nd2 (bound g3) (by omega) g2 g3 g4 (fun _ => g5)
/-- how many states -/
theorem mo_loop {k : (Nat → Nat → Int32) → Int32 → Int32 → Int32 → Option ((Nat → Nat → Int32) × Int32)} {st : Nat} (D : ndv c nd) (hst : st < 1200) :
    ∀ (r fuel s : Nat), s + r = 1200 → r < fuel → md_more_L23 N k fuel c (nI st) (nI (cn (fun v => decide (v = st ∨ nd v < 1000000)) s)) (nI s) = k c (nI st) (nI (cn (fun v => decide (v = st ∨ nd v < 1000000)) 1200)) 1200 := by
  intro r
  induction r with
  | zero =>
    intro fuel s hs hf
    obtain ⟨fuel, rfl⟩ : ∃ q, fuel = q + 1 := ⟨fuel - 1, by omega⟩
    have : s = 1200 := by omega
    subst this
    simp only [md_more_L23]
    rw [if_pos (by decide)]
    rfl
  | succ r ih =>
    intro fuel s hs hf
    obtain ⟨fuel, rfl⟩ : ∃ q, fuel = q + 1 := ⟨fuel - 1, by omega⟩
    have hD := D s (by omega)
    have hcn : cn (fun v => decide (v = st ∨ nd v < 1000000)) (s + 1) = cn (fun v => decide (v = st ∨ nd v < 1000000)) s + (if decide (s = st ∨ nd s < 1000000) = true then 1 else 0) := rfl
    simp only [md_more_L23, zq_letP]
    rw [if_neg (by show ¬ nI 1200 ≤ nI s; rw [zq_le (by decide) (by omega)]; omega)]
    by_cases e : s = st
    · rw [if_pos (by rw [e]), nI_1, nI_1]
      rw [if_pos (by simp [e])] at hcn
      rw [← hcn]
      exact ih fuel (s + 1) (by omega) (by omega)
    · rw [if_neg (fun q => e (zq_inj (by omega) (by omega) q)), if_pos (zq_inBt (show s < 1200 by omega) (by decide)), zq_cl (by omega), hD.1]
      by_cases hfar : 1000000 ≤ nd s
      · rw [if_pos (by show nI 1000000 ≤ _; rw [zq_le (by decide) (by omega)]; exact hfar), Int32.add_zero]
        rw [if_neg (by simp [e]; omega)] at hcn
        rw [show cn (fun v => decide (v = st ∨ nd v < 1000000)) s = cn (fun v => decide (v = st ∨ nd v < 1000000)) (s + 1) from hcn.symm, nI_1]
        exact ih fuel (s + 1) (by omega) (by omega)
      · rw [if_neg (by show ¬ nI 1000000 ≤ _; rw [zq_le (by decide) (by omega)]; exact hfar), nI_1, nI_1]
        rw [if_pos (by simp; omega)] at hcn
        rw [← hcn]
        exact ih fuel (s + 1) (by omega) (by omega)
/-- the first option on a soonest way -/
theorem be_in {k : (Nat → Nat → Int32) → Int32 → Int32 → Int32 → Int32 → Int32 → Int32 → Option ((Nat → Nat → Int32) × Int32)} {set p2 p4 p5 : Int32} {s : Nat} (E : rg_env c nx tk) (D : ndv c nd) (hs : s < 1200) (hok : ∀ o, o < 12 → md_has set (nI (wy_mv o)) = if ok o = true then 1 else 0) {o1 : Nat} (h1 : gp_fst nx tk ok nd s o1) :
    ∀ (r fuel o : Nat), o + r = o1 → r < fuel → md_best_L54 N k fuel c set p2 (nI s) p4 p5 (nI o) = k c set p2 (nI s) p4 p5 (nI o1) := by
  obtain ⟨f1, f2, f3, f4⟩ := h1
  intro r
  induction r with
  | zero =>
    intro fuel o ho hf
    obtain ⟨fuel, rfl⟩ : ∃ q, fuel = q + 1 := ⟨fuel - 1, by omega⟩
    have : o = o1 := by omega
    subst this
    obtain ⟨e1, e2, e3, e4, e5, e6⟩ := md_nxN E hs f1
    have hD := D (nx s o) (E.1 s o hs f1).2
    have hDs := D s hs
    have hmt := md_tkN E f1
    simp only [md_best_L54]
    rw [md_mvN o f1] at hmt ⊢
    rw [hok o f1, if_pos f2, if_neg (by decide), if_pos hmt.2, e1, if_pos e2, e3, e4, if_pos e5, if_pos (zq_inBt hs (by decide)), e6, hmt.1, hD.1, zq_cl (n := s) (by omega), hDs.1, nI_add, if_pos (by rw [f3])]
  | succ r ih =>
    intro fuel o ho hf
    obtain ⟨fuel, rfl⟩ : ∃ q, fuel = q + 1 := ⟨fuel - 1, by omega⟩
    have h12 : o < 12 := by omega
    obtain ⟨e1, e2, e3, e4, e5, e6⟩ := md_nxN E hs h12
    have hnx := (E.1 s o hs h12).2
    have hD := D (nx s o) hnx
    have hDs := D s hs
    have htk := (E.2 o h12).2
    have hmt := md_tkN E h12
    simp only [md_best_L54, zq_letP]
    rw [md_mvN o h12] at hmt ⊢
    rw [hok o h12]
    by_cases hk : ok o = true
    · rw [if_pos hk, if_neg (by decide), if_pos hmt.2, e1, if_pos e2, e3, e4, if_pos e5, if_pos (zq_inBt hs (by decide)), e6, hmt.1, hD.1, zq_cl (n := s) (by omega), hDs.1, nI_add, if_neg (fun q => f4 o (by omega) hk (zq_inj (by omega) (by omega) q)), nI_1]
      exact ih fuel (o + 1) (by omega) (by omega)
    · rw [if_neg hk, if_pos rfl, nI_1]
      exact ih fuel (o + 1) (by omega) (by omega)
theorem md_nameN : ∀ o, o < 12 → md_nameOf (nI o) = nI (gp_name o) := by decide +kernel
/-- one who is on a soonest way finds an option -/
theorem gp_fst_ex (Nd : gp_need nx tk ok nd) {s : Nat} (hs : s < 1200) (h12 : 12 ≤ s) (hf : nd s < 1000000) (hnx : ∀ s o, s < 1200 → o < 12 → nx s o < 1200) : ∃ o, gp_fst nx tk ok nd s o := by
  obtain ⟨n, t, ht, hp⟩ := Nd.2.1 s hs hf
  have ex : ∃ o, o < 12 ∧ (ok o = true ∧ tk o + nd (nx s o) = nd s) := by
    cases n with
    | zero => obtain ⟨h, rfl⟩ := hp; omega
    | succ n =>
      obtain ⟨_, o, d', ho, hk, hd, h'⟩ := hp
      have h1 := gp_need_le hnx Nd (hnx s o hs ho) ht h'
      have h2 := Nd.2.2 s o hs h12 ho hk
      exact ⟨o, ho, hk, by omega⟩
  obtain ⟨o, h1, ⟨h2, h3⟩, h4⟩ := fb_first (p := fun o => ok o = true ∧ tk o + nd (nx s o) = nd s) ex
  exact ⟨o, h1, h2, h3, fun o' ho' hk' q => h4 o' ho' ⟨hk', q⟩⟩
/-- best by the reference -/
theorem be_loop {set : Int32} {kk : Nat} (hN : 2000 ≤ N) (hkk : kk < 2147483648) (E : rg_env c nx tk) (D : ndv c nd) (Nd : gp_need nx tk ok nd) (hok : ∀ o, o < 12 → md_has set (nI (wy_mv o)) = if ok o = true then 1 else 0) :
    ∀ (r fuel n s : Nat) (x : Int32), nd s ≤ r → r + 1 < fuel → n + r ≤ 2000000 → n ≤ kk → s < 1200 → nd s < 1000000 →
    ∃ v, md_best_L36 N (fun q13 x14 x15 x16 x17 x18 => (some (q13, x17))) fuel c set (nI kk) (nI s) x (nI n) = some (c, v) ∧ gp_bp nx tk ok nd (kk - n) s v := by
  have hnx : ∀ s o, s < 1200 → o < 12 → nx s o < 1200 := fun s o hs ho => (E.1 s o hs ho).2
  intro r
  induction r with
  | zero =>
    intro fuel n s x hr hf hnr hn hs hfin
    obtain ⟨fuel, rfl⟩ : ∃ q, fuel = q + 1 := ⟨fuel - 1, by omega⟩
    have h12 : s < 12 := by
      apply Nat.lt_of_not_le
      intro h
      obtain ⟨o, f1, f2, f3, _⟩ := gp_fst_ex Nd hs h hfin hnx
      have := (E.2 o f1).2.1
      omega
    simp only [md_best_L36]
    rw [if_neg (by rw [zq_lt (by omega) (by omega)]; omega), md_outN hs, if_pos h12, if_neg (by decide)]
    refine ⟨-1, rfl, ?_⟩
    cases kk - n with
    | zero => exact .inl ⟨h12, rfl⟩
    | succ q => exact .inl ⟨h12, rfl⟩
  | succ r ih =>
    intro fuel n s x hr hf hnr hn hs hfin
    obtain ⟨fuel, rfl⟩ : ∃ q, fuel = q + 1 := ⟨fuel - 1, by omega⟩
    simp only [md_best_L36, zq_letP]
    rw [if_neg (by rw [zq_lt (by omega) (by omega)]; omega), md_outN hs]
    by_cases h12 : s < 12
    · rw [if_pos h12, if_neg (by decide)]
      refine ⟨-1, rfl, ?_⟩
      cases kk - n with
      | zero => exact .inl ⟨h12, rfl⟩
      | succ q => exact .inl ⟨h12, rfl⟩
    · rw [if_neg h12, if_pos rfl]
      obtain ⟨o, ho⟩ := gp_fst_ex Nd hs (by omega) hfin hnx
      have hin := be_in (N := N) (k := fun q4 x5 x6 x7 x8 x9 x10 => if ky_inB ((12 * x7) + x10) 14400 = true then md_best_L36 N (fun q13 x14 x15 x16 x17 x18 => (some (q13, x17))) fuel q4 x5 x6 (q4 10 (Int32.toNatClampNeg ((12 * x7) + x10))) (md_nameOf x10) (x9 + 1) else none) (set := set) (p2 := nI kk) (p4 := x) (p5 := nI n) E D hs hok ho o N 0 (by omega) (by have := ho.1; omega)
      have hin' : md_best_L54 N (fun q4 x5 x6 x7 x8 x9 x10 => if ky_inB ((12 * x7) + x10) 14400 = true then md_best_L36 N (fun q13 x14 x15 x16 x17 x18 => (some (q13, x17))) fuel q4 x5 x6 (q4 10 (Int32.toNatClampNeg ((12 * x7) + x10))) (md_nameOf x10) (x9 + 1) else none) N c set (nI kk) (nI s) x (nI n) 0 = _ := hin
      rw [hin']
      obtain ⟨e1, e2, e3, e4, e5, e6⟩ := md_nxN E hs ho.1
      rw [e1, if_pos e2, e3, e4, md_nameN o ho.1, nI_1]
      have htk := (E.2 o ho.1).2.1
      have hlt := ho.2.2.1
      by_cases hlast : n = kk
      · refine ⟨nI (gp_name o), ?_, ?_⟩
        · obtain ⟨fuel, rfl⟩ : ∃ q, fuel = q + 1 := ⟨fuel - 1, by omega⟩
          simp only [md_best_L36]
          rw [if_pos (by rw [zq_lt (by omega) (by omega)]; omega)]
        · rw [show kk - n = 0 by omega]
          exact .inr ⟨by omega, o, ho, rfl⟩
      · obtain ⟨v, g1, g2⟩ := ih fuel (n + 1) (nx s o) (nI (gp_name o)) (by omega) (by omega) (by omega) (by omega) (hnx s o hs ho.1) (by omega)
        refine ⟨v, g1, ?_⟩
        rw [show kk - n = (kk - (n + 1)) + 1 by omega]
        exact .inr ⟨by omega, o, ho, g2⟩
end
