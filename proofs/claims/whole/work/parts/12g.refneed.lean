/-! THE REFERENCE'S GRAPH: next, need -/
theorem md_mvN : ∀ o, o < 12 → md_moveOf (nI o) = nI (wy_mv o) := by decide +kernel
theorem md_lgN : ∀ o, o < 12 → md_legOf (nI o) = nI (lg_o o) := by decide +kernel
theorem md_outN {v : Nat} (h : v < 1200) : md_isOutAt (nI v) = if v < 12 then 1 else 0 := wy_ofl v h
/-- next is laid, and how long each option takes -/
def rg_env (c : Nat → Nat → Int32) (nx : Nat → Nat → Nat) (tk : Nat → Nat) : Prop := (∀ s o, s < 1200 → o < 12 → c 10 (12 * s + o) = nI (nx s o) ∧ nx s o < 1200) ∧ ∀ o, o < 12 → c 1 (20 + 4 * wy_mv o) = nI (tk o) ∧ 1 ≤ tk o ∧ tk o ≤ 30
def ndv (c : Nat → Nat → Int32) (nd : Nat → Nat) : Prop := ∀ s, s < 1200 → c 11 s = nI (nd s) ∧ nd s ≤ 1000000
/-- only need has changed -/
def onl (k : Nat) (c c' : Nat → Nat → Int32) : Prop := ∀ q, q ≠ k → c' q = c q
theorem onl.rf {k : Nat} {c : Nat → Nat → Int32} : onl k c c := fun _ _ => rfl
theorem onl.tr {k : Nat} {c c1 c2 : Nat → Nat → Int32} (h : onl k c c1) (h' : onl k c1 c2) : onl k c c2 := fun q hq => (h' q hq).trans (h q hq)
theorem onl.w {k : Nat} {c c1 : Nat → Nat → Int32} (h : onl k c c1) (j : Nat) (v : Int32) : onl k c (bk_w c1 k j v) := fun q hq => (bk_w_ne hq).trans (h q hq)
theorem rg_on {c c' : Nat → Nat → Int32} {nx : Nat → Nat → Nat} {tk : Nat → Nat} (E : rg_env c nx tk) (h : onl 11 c c') : rg_env c' nx tk := by
  unfold rg_env
  rw [h 10 (by decide), h 1 (by decide)]; exact E
section
variable {N : Nat} {c : Nat → Nat → Int32} {nx : Nat → Nat → Nat} {tk : Nat → Nat} {ok : Nat → Bool} {nd : Nat → Nat}
theorem md_tkN (E : rg_env c nx tk) {o : Nat} (ho : o < 12) : md_takesOf_r c (nI o) = nI (tk o) ∧ ky_inB ((17 + (4 * (md_moveOf (nI o)))) + 3) 2247 = true := by
  have h7 := wy_mv_lt o ho
  unfold md_takesOf_r
  rw [md_mvN o ho]
  have h := md_ofMoveN (c := c) (mv := wy_mv o) (i := 3) (x := 3) (by omega) (by decide) rfl
  refine ⟨?_, h.2⟩
  rw [h.1, show 17 + 4 * wy_mv o + 3 = 20 + 4 * wy_mv o by omega]
  exact (E.2 o ho).1
theorem md_nxN (E : rg_env c nx tk) {s o : Nat} (hs : s < 1200) (ho : o < 12) : (12 : Int32) * nI s + nI o = nI (12 * s + o) ∧ ky_inB (nI (12 * s + o)) 14400 = true ∧ (nI (12 * s + o)).toNatClampNeg = 12 * s + o ∧ c 10 (12 * s + o) = nI (nx s o) ∧ ky_inB (nI (nx s o)) 1200 = true ∧ (nI (nx s o)).toNatClampNeg = nx s o := by
  have h := (E.1 s o hs ho)
  refine ⟨?_, zq_inBt (by omega) (by decide), zq_cl (by omega), h.1, zq_inBt h.2 (by decide), zq_cl (by omega)⟩
  show nI 12 * nI s + nI o = _
  rw [pk_mul, nI_add]
theorem md_bestL {k : (Nat → Nat → Int32) → Int32 → Int32 → Int32 → Int32 → Option ((Nat → Nat → Int32) × Int32)} {set : Int32} {s : Nat} (E : rg_env c nx tk) (D : ndv c nd) (hs : s < 1200) (hok : ∀ o, o < 12 → md_has set (nI (wy_mv o)) = if ok o = true then 1 else 0) :
    ∀ (r fuel o b : Nat), o + r = 12 → r < fuel → b ≤ 1000000 → ∃ b', md_bestOf_L10 N k fuel c (nI s) set (nI b) (nI o) = k c (nI s) set (nI b') 12 ∧ b' ≤ b ∧ (∀ o', o ≤ o' → o' < 12 → ok o' = true → b' ≤ tk o' + nd (nx s o')) ∧ (b' = b ∨ ∃ o', o' < 12 ∧ ok o' = true ∧ b' = tk o' + nd (nx s o')) := by
  intro r
  induction r with
  | zero =>
    intro fuel o b ho hf hb
    obtain ⟨fuel, rfl⟩ : ∃ q, fuel = q + 1 := ⟨fuel - 1, by omega⟩
    have : o = 12 := by omega
    subst this
    simp only [md_bestOf_L10]
    rw [if_pos (by decide)]
    exact ⟨b, rfl, Nat.le_refl _, fun o' h1 h2 => by omega, .inl rfl⟩
  | succ r ih =>
    intro fuel o b ho hf hb
    obtain ⟨fuel, rfl⟩ : ∃ q, fuel = q + 1 := ⟨fuel - 1, by omega⟩
    have h12 : o < 12 := by omega
    obtain ⟨e1, e2, e3, e4, e5, e6⟩ := md_nxN E hs h12
    have hD := D (nx s o) (E.1 s o hs h12).2
    have htk := (E.2 o h12).2
    have hmv := md_mvN o h12
    have hmt := md_tkN E h12
    simp only [md_bestOf_L10, zq_letP]
    rw [if_neg (by show ¬ nI 12 ≤ nI o; rw [zq_le (by decide) (by omega)]; omega)]
    rw [hmv, hok o h12]
    rw [hmv] at hmt
    by_cases hk : ok o = true
    · rw [if_pos hk, if_neg (by decide), if_pos hmt.2, e1, if_pos e2, e3, e4, if_pos e5, e6, hmt.1, hD.1, nI_add, zq_min (by omega) (by omega), nI_1]
      obtain ⟨b', g1, g2, g3, g4⟩ := ih fuel (o + 1) (min b (tk o + nd (nx s o))) (by omega) (by omega) (by omega)
      refine ⟨b', g1, by omega, fun o' h1 h2 h3 => ?_, ?_⟩
      · by_cases e : o' = o
        · subst e; omega
        · exact g3 o' (by omega) h2 h3
      · rcases g4 with g4 | g4
        · by_cases q : b ≤ tk o + nd (nx s o)
          · left; omega
          · right; exact ⟨o, h12, hk, by omega⟩
        · exact .inr g4
    · rw [if_neg hk, if_pos rfl, nI_1]
      obtain ⟨b', g1, g2, g3, g4⟩ := ih fuel (o + 1) b (by omega) (by omega) hb
      refine ⟨b', g1, g2, fun o' h1 h2 h3 => ?_, g4⟩
      by_cases e : o' = o
      · subst e; exact absurd h3 hk
      · exact g3 o' (by omega) h2 h3
theorem md_bestN {set : Int32} {s : Nat} (hN : 1000 ≤ N) (E : rg_env c nx tk) (D : ndv c nd) (hs : s < 1200) (hok : ∀ o, o < 12 → md_has set (nI (wy_mv o)) = if ok o = true then 1 else 0) :
    ∃ b', md_bestOf N c (nI s) set = some (c, nI b') ∧ b' ≤ nd s ∧ (∀ o', o' < 12 → ok o' = true → b' ≤ tk o' + nd (nx s o')) ∧ (b' = nd s ∨ ∃ o', o' < 12 ∧ ok o' = true ∧ b' = tk o' + nd (nx s o')) := by
  have hD := D s hs
  unfold md_bestOf
  simp only [zq_letP]
  rw [if_pos (zq_inBt hs (by decide)), zq_cl (by omega), hD.1]
  obtain ⟨b', g1, g2, g3, g4⟩ := md_bestL (N := N) (k := fun q4 x5 x6 x7 x8 => (some (q4, x7))) E D hs hok 12 N 0 (nd s) (by omega) (by omega) hD.2
  exact ⟨b', g1, g2, fun o' h1 h2 => g3 o' (Nat.zero_le _) h1 h2, g4⟩
/-- what each pass keeps -/
def nd_ok (nx : Nat → Nat → Nat) (tk : Nat → Nat) (ok : Nat → Bool) (nd : Nat → Nat) : Prop := (∀ s, s < 12 → nd s = 0) ∧ ∀ s, s < 1200 → nd s < 1000000 → gp_out nx tk ok (nd s) s
def ndS (nd : Nat → Nat) (s v : Nat) : Nat → Nat := fun j => if j = s then v else nd j
theorem ndv_w (D : ndv c nd) {s v : Nat} (hv : v ≤ 1000000) : ndv (bk_w c 11 s (nI v)) (ndS nd s v) := by
  intro j hj
  unfold ndS
  by_cases e : j = s
  · subst e; rw [if_pos rfl, bk_w_same]; exact ⟨rfl, hv⟩
  · rw [if_neg e, bk_w_at e]; exact D j hj
theorem ndS_same {s : Nat} : ndS nd s (nd s) = nd := by
  funext j; unfold ndS; split
  · rename_i e; rw [e]
  · rfl
theorem nd_pass {k : (Nat → Nat → Int32) → Int32 → Int32 → Int32 → Option ((Nat → Nat → Int32) × Int32)} {set : Int32} {c0 : Nat → Nat → Int32} {nd0 : Nat → Nat} (hN : 1000 ≤ N) (E : rg_env c0 nx tk) (hok : ∀ o, o < 12 → md_has set (nI (wy_mv o)) = if ok o = true then 1 else 0) :
    ∀ (r fuel s : Nat) (c : Nat → Nat → Int32) (nd : Nat → Nat) (fl : Nat), s + r = 1200 → r < fuel → onl 11 c0 c → ndv c nd → nd_ok nx tk ok nd → ((fl = 0 ∧ nd = nd0 ∧ ∀ s' o, s' < s → o < 12 → ok o = true → nd s' ≤ tk o + nd (nx s' o)) ∨ (fl = 1 ∧ fb_sm nd 1200 < fb_sm nd0 1200)) →
    ∃ c' nd' fl', md_laysNeed_L45 N k fuel c set (nI fl) (nI s) = k c' set (nI fl') 1200 ∧ onl 11 c0 c' ∧ ndv c' nd' ∧ nd_ok nx tk ok nd' ∧ ((fl' = 0 ∧ nd' = nd0 ∧ ∀ s' o, s' < 1200 → o < 12 → ok o = true → nd' s' ≤ tk o + nd' (nx s' o)) ∨ (fl' = 1 ∧ fb_sm nd' 1200 < fb_sm nd0 1200)) := by
  intro r
  induction r with
  | zero =>
    intro fuel s c nd fl hs hf hc D A B
    obtain ⟨fuel, rfl⟩ : ∃ q, fuel = q + 1 := ⟨fuel - 1, by omega⟩
    have : s = 1200 := by omega
    subst this
    simp only [md_laysNeed_L45]
    rw [if_pos (by decide)]
    exact ⟨c, nd, fl, rfl, hc, D, A, B⟩
  | succ r ih =>
    intro fuel s c nd fl hs hf hc D A B
    obtain ⟨fuel, rfl⟩ : ∃ q, fuel = q + 1 := ⟨fuel - 1, by omega⟩
    have hs' : s < 1200 := by omega
    obtain ⟨b, g1, g2, g3, g4⟩ := md_bestN (N := N) (set := set) hN (rg_on E hc) D hs' hok
    have hD := D s hs'
    have hb : b ≤ 1000000 := by omega
    have A' : nd_ok nx tk ok (ndS nd s b) := by
      refine ⟨fun j hj => ?_, fun j hj hlt => ?_⟩
      · unfold ndS
        split
        · rename_i e; subst e; have := A.1 j hj; omega
        · exact A.1 j hj
      · unfold ndS at hlt ⊢
        by_cases e : j = s
        · subst e
          rw [if_pos rfl] at hlt ⊢
          rcases g4 with q | ⟨o, ho, hk, q⟩
          · rw [q] at hlt ⊢; exact A.2 j hj hlt
          · by_cases h12 : j < 12
            · have := A.1 j h12
              have hz : b = nd j := by omega
              rw [hz] at hlt ⊢
              exact A.2 j hj hlt
            · have hnx := (E.1 j o hj ho).2
              obtain ⟨n, t, h1, h2⟩ := A.2 (nx j o) hnx (by omega)
              exact ⟨n + 1, t, h1, by omega, o, nd (nx j o), ho, hk, q, h2⟩
        · rw [if_neg e] at hlt ⊢
          exact A.2 j hj hlt
    have hsum : fb_sm (ndS nd s b) 1200 + nd s = fb_sm nd 1200 + b := fb_sm_upd nd b hs'
    simp only [md_laysNeed_L45, zq_letP]
    rw [if_neg (by show ¬ nI 1200 ≤ nI s; rw [zq_le (by decide) (by omega)]; omega), g1]
    simp only [zq_bindP]
    simp only [show ky_inB (nI s) 1200 = true from zq_inBt hs' (by decide), if_true]
    rw [zq_cl (by omega), hD.1, nI_1]
    rcases B with ⟨rfl, rfl, B⟩ | ⟨rfl, B⟩
    · rw [if_pos (by decide)]
      by_cases hle : nd s ≤ b
      · have : b = nd s := by omega
        subst this
        rw [if_pos (by rw [zq_le (by omega) (by omega)]; exact hle)]
        have D2 := ndv_w D (s := s) (v := nd s) hD.2
        rw [ndS_same] at D2 A'
        exact ih fuel (s + 1) _ nd 0 (by omega) (by omega) (hc.w _ _) D2 A' (.inl ⟨rfl, rfl, fun s' o h1 h2 h3 => by
          by_cases e : s' = s
          · subst e; exact g3 o h2 h3
          · exact B s' o (by omega) h2 h3⟩)
      · rw [if_neg (by rw [zq_le (by omega) (by omega)]; exact hle)]
        exact ih fuel (s + 1) _ _ 1 (by omega) (by omega) (hc.w _ _) (ndv_w D hb) A' (.inr ⟨rfl, by omega⟩)
    · rw [if_neg (by decide)]
      exact ih fuel (s + 1) _ _ 1 (by omega) (by omega) (hc.w _ _) (ndv_w D hb) A' (.inr ⟨rfl, by omega⟩)
theorem nd_loop {set : Int32} {c0 : Nat → Nat → Int32} (hN : 2000 ≤ N) (E : rg_env c0 nx tk) (hok : ∀ o, o < 12 → md_has set (nI (wy_mv o)) = if ok o = true then 1 else 0) :
    ∀ (r fuel : Nat) (c : Nat → Nat → Int32) (nd : Nat → Nat), fb_sm nd 1200 ≤ r → r + 1 < fuel → onl 11 c0 c → ndv c nd → nd_ok nx tk ok nd →
    ∃ c' nd', md_laysNeed_L37 N (fun q6 x7 x8 => (some (q6, 0))) fuel c set 1 = some (c', 0) ∧ onl 11 c0 c' ∧ ndv c' nd' ∧ gp_need nx tk ok nd' := by
  intro r
  induction r with
  | zero =>
    intro fuel c nd hr hf hc D A
    obtain ⟨fuel, rfl⟩ : ∃ q, fuel = q + 2 := ⟨fuel - 2, by omega⟩
    simp only [md_laysNeed_L37]
    rw [if_neg (by decide)]
    obtain ⟨c', nd', fl', g1, g2, g3, g4, g5⟩ := nd_pass (N := N) (k := fun q3 x4 x5 x6 => (if x5 = 0 then (some (q3, 0)) else (md_laysNeed_L45 N (fun q3 x4 x5 x6 => (md_laysNeed_L37 N (fun q6 x7 x8 => (some (q6, 0))) fuel q3 x4 x5)) N q3 x4 0 0))) (nd0 := nd) (by omega) E hok 1200 N 0 c nd 0 (by omega) (by omega) hc D A (.inl ⟨rfl, rfl, fun s' o h => by omega⟩)
    have g1' : md_laysNeed_L45 N (fun q3 x4 x5 x6 => (if x5 = 0 then (some (q3, 0)) else (md_laysNeed_L45 N (fun q3 x4 x5 x6 => (md_laysNeed_L37 N (fun q6 x7 x8 => (some (q6, 0))) fuel q3 x4 x5)) N q3 x4 0 0))) N c set 0 0 = _ := g1
    rw [g1']
    rcases g5 with ⟨rfl, rfl, B⟩ | ⟨rfl, B⟩
    · rw [if_pos (by decide)]
      exact ⟨c', nd', rfl, g2, g3, g4.1, g4.2, fun s o h1 _ h3 h4 => B s o h1 h3 h4⟩
    · omega
  | succ r ih =>
    intro fuel c nd hr hf hc D A
    obtain ⟨fuel, rfl⟩ : ∃ q, fuel = q + 1 := ⟨fuel - 1, by omega⟩
    simp only [md_laysNeed_L37]
    rw [if_neg (by decide)]
    obtain ⟨c', nd', fl', g1, g2, g3, g4, g5⟩ := nd_pass (N := N) (k := fun q3 x4 x5 x6 => (md_laysNeed_L37 N (fun q6 x7 x8 => (some (q6, 0))) fuel q3 x4 x5)) (nd0 := nd) (by omega) E hok 1200 N 0 c nd 0 (by omega) (by omega) hc D A (.inl ⟨rfl, rfl, fun s' o h => by omega⟩)
    have g1' : md_laysNeed_L45 N (fun q3 x4 x5 x6 => (md_laysNeed_L37 N (fun q6 x7 x8 => (some (q6, 0))) fuel q3 x4 x5)) N c set 0 0 = _ := g1
    rw [g1']
    rcases g5 with ⟨rfl, rfl, B⟩ | ⟨rfl, B⟩
    · obtain ⟨fuel, rfl⟩ : ∃ q, fuel = q + 1 := ⟨fuel - 1, by omega⟩
      simp only [md_laysNeed_L37]
      rw [if_pos (by decide)]
      exact ⟨c', nd', rfl, g2, g3, g4.1, g4.2, fun s o h1 _ h3 h4 => B s o h1 h3 h4⟩
    · exact ih fuel c' nd' (by omega) (by omega) g2 g3 g4
theorem nd_fill {k : (Nat → Nat → Int32) → Int32 → Int32 → Option ((Nat → Nat → Int32) × Int32)} {set : Int32} {c0 : Nat → Nat → Int32} :
    ∀ (r fuel s : Nat) (c : Nat → Nat → Int32), s + r = 1200 → r < fuel → onl 11 c0 c → (∀ j, j < s → c 11 j = nI (if j < 12 then 0 else 1000000)) → ∃ c', md_laysNeed_L2 N k fuel c set (nI s) = k c' set 1200 ∧ onl 11 c0 c' ∧ ndv c' (fun j => if j < 12 then 0 else 1000000) := by
  intro r
  induction r with
  | zero =>
    intro fuel s c hs hf hc h
    obtain ⟨fuel, rfl⟩ : ∃ q, fuel = q + 1 := ⟨fuel - 1, by omega⟩
    have : s = 1200 := by omega
    subst this
    simp only [md_laysNeed_L2]
    rw [if_pos (by decide)]
    exact ⟨c, rfl, hc, fun j hj => ⟨h j hj, by show (if j < 12 then 0 else 1000000) ≤ 1000000; split <;> omega⟩⟩
  | succ r ih =>
    intro fuel s c hs hf hc h
    obtain ⟨fuel, rfl⟩ : ∃ q, fuel = q + 1 := ⟨fuel - 1, by omega⟩
    simp only [md_laysNeed_L2, zq_letP]
    rw [if_neg (by show ¬ nI 1200 ≤ nI s; rw [zq_le (by decide) (by omega)]; omega), md_outN (by omega)]
    simp only [show ky_inB (nI s) 1200 = true from zq_inBt (by omega) (by decide), if_true]
    rw [zq_cl (by omega), nI_1]
    by_cases h12 : s < 12
    · rw [if_pos h12, if_neg (by decide)]
      refine ih fuel (s + 1) _ (by omega) (by omega) (hc.w _ _) (fun j hj => ?_)
      by_cases e : j = s
      · subst e; rw [bk_w_same, if_pos h12]; rfl
      · rw [bk_w_at e]; exact h j (by omega)
    · rw [if_neg h12, if_pos rfl]
      refine ih fuel (s + 1) _ (by omega) (by omega) (hc.w _ _) (fun j hj => ?_)
      by_cases e : j = s
      · subst e; rw [bk_w_same, if_neg h12]; rfl
      · rw [bk_w_at e]; exact h j (by omega)
/-- need is laid -/
theorem nd_lays {set : Int32} (hN : 2000000000 ≤ N) (E : rg_env c nx tk) (hok : ∀ o, o < 12 → md_has set (nI (wy_mv o)) = if ok o = true then 1 else 0) :
    ∃ c' nd, md_laysNeed N c set = some (c', 0) ∧ onl 11 c c' ∧ ndv c' nd ∧ gp_need nx tk ok nd := by
  unfold md_laysNeed
  obtain ⟨c1, h1, h2, h3⟩ := nd_fill (N := N) (k := fun q2 x3 x4 => (md_laysNeed_L37 N (fun q6 x7 x8 => (some (q6, 0))) N q2 x3 1)) (set := set) (c0 := c) 1200 N 0 c (by omega) (by omega) onl.rf (fun j hj => by omega)
  have h1' : md_laysNeed_L2 N (fun q2 x3 x4 => (md_laysNeed_L37 N (fun q6 x7 x8 => (some (q6, 0))) N q2 x3 1)) N c set 0 = _ := h1
  rw [h1']
  have hsum : fb_sm (fun j => if j < 12 then 0 else 1000000) 1200 ≤ 1200 * 1000000 := fb_sm_bound (fun j _ => by split <;> omega)
  exact nd_loop (N := N) (by omega) E hok (1200 * 1000000) N c1 _ hsum (by omega) h2 h3 ⟨fun s hs => if_pos hs, fun s hs hlt => by
    by_cases h : s < 12
    · show gp_out nx tk ok (if s < 12 then 0 else 1000000) s
      rw [if_pos h]; exact ⟨0, s, h, rfl, rfl⟩
    · have hlt : (if s < 12 then 0 else 1000000) < 1000000 := hlt
      rw [if_neg h] at hlt; omega⟩
end
