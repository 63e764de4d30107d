/-! THE CLASS'S MOVE by numbers -/
theorem po_d0N {v : Nat} (h : v < 1200) : po_depth0 (nI v) = nI (v / 120) := pk_div (a := v) (d := 120) (by omega) (by decide) (by decide)
theorem po_d1N {v : Nat} (h : v < 1200) : po_depth1 (nI v) = nI (v / 12 % 10) := by
  unfold po_depth1
  rw [show (12 : Int32) = nI 12 from rfl, pk_div (by omega) (by decide) (by decide), show (10 : Int32) = nI 10 from rfl, pk_rem (by omega) (by decide) (by decide)]
theorem po_thN {v : Nat} (h : v < 1200) : po_thin (nI v) = nI (v / 2 % 6) := by
  unfold po_thin
  rw [show (2 : Int32) = nI 2 from rfl, pk_div (by omega) (by decide) (by decide), show (6 : Int32) = nI 6 from rfl, pk_rem (by omega) (by decide) (by decide)]
theorem po_lyN {v : Nat} (h : v < 1200) : po_lying (nI v) = nI (v % 2) := pk_andN (by omega) 1 (by decide)
theorem po_ofN (a b t l : Nat) : po_of (nI a) (nI b) (nI t) (nI l) = nI (ps4 a b t l) := by
  unfold po_of ps4
  show (((nI a * nI 10 + nI b) * nI 6 + nI t) * nI 2 + nI l) = _
  rw [pk_mul, nI_add, pk_mul, nI_add, pk_mul, nI_add]
theorem ru_lessN {a b : Nat} (ha : a < 1073741824) (hb : b < 1073741824) : ru_lessDeep (nI a) (nI b) = nI (a - b) := by
  unfold ru_lessDeep
  by_cases h : a ≤ b
  · rw [if_pos (by rw [zq_le (by omega) (by omega)]; exact h), show a - b = 0 by omega]; rfl
  · rw [if_neg (by rw [zq_le (by omega) (by omega)]; exact h), pk_sub (by omega)]
theorem ru_deepN {a b : Nat} (ha : a < 1073741824) (hb : b < 1073741824) : ru_deeper (nI a) (nI b) = nI (min 9 (a + b)) := by
  unfold ru_deeper
  rw [nI_add]
  by_cases h : 9 ≤ a + b
  · rw [if_pos (by show nI 9 ≤ _; rw [zq_le (by decide) (by omega)]; exact h), Nat.min_eq_left h]; rfl
  · rw [if_neg (by show ¬ nI 9 ≤ _; rw [zq_le (by decide) (by omega)]; exact h), Nat.min_eq_right (by omega)]
theorem ru_lyN {v mv : Nat} (h : v < 1200) (hm : mv ≤ 6) : ru_lyingBehind (nI v) (nI mv) = nI (ly_r mv (v % 2)) := by
  unfold ru_lyingBehind
  rw [po_lyN h]
  have hm : mv = 0 ∨ mv = 1 ∨ mv = 2 ∨ mv = 3 ∨ mv = 4 ∨ mv = 5 ∨ mv = 6 := by omega
  rcases hm with rfl | rfl | rfl | rfl | rfl | rfl | rfl <;> rfl
theorem zq_neg {x : Int32} : ¬ (0 : Int32) ≤ x ↔ x < 0 := by rw [fa_le, fa_lt]; omega
section
variable {N z : Nat} {s : sk_S}
theorem cl_weigh {q v mv ow ot ca wa : Nat} {m : lwM} (hN : 1000 ≤ N) (L : lwC s q m) (hs : lw_sml (lw_env mv ow ot (v / 2 % 6) ca wa (v % 2))) (hv : v < 1200) :
    ∃ s', x3_weigh N s q (nI v) (nI mv) (nI ow) (nI ot) (nI ca) (nI wa) = some (s', 0) ∧ cfr (lwV q) s s' ∧ sk_c s' q 7 = nI (lw_S m 0 (lw_env mv ow ot (v / 2 % 6) ca wa (v % 2))) ∧ sk_c s' q 8 = nI (lw_S m 1 (lw_env mv ow ot (v / 2 % 6) ca wa (v % 2))) ∧ sk_c s' q 9 = nI (lw_S m 2 (lw_env mv ow ot (v / 2 % 6) ca wa (v % 2))) - nI (lw_S m 3 (lw_env mv ow ot (v / 2 % 6) ca wa (v % 2))) := by
  unfold x3_weigh
  simp only [zq_letP]
  rw [if_pos L.1, po_thN hv, po_lyN hv]
  generalize hw : sk_wc (sk_wc (sk_wc (sk_wc (sk_wc (sk_wc (sk_wc (sk_wc (sk_wc (sk_wc s (q + 5) 0 (nI mv)) (q + 5) 1 (nI ow)) (q + 5) 2 (nI ot)) (q + 5) 3 (nI (v / 2 % 6))) (q + 5) 4 (nI ca)) (q + 5) 5 (nI wa)) q 6 (nI (v % 2))) q 7 0) q 8 0) q 9 0 = s1
  have F : cfr (lwV q) s s1 := by
    rw [← hw]
    exact (((((((((cfr.rf.wc _ (.inl rfl)).wc _ (.inl rfl)).wc _ (.inl rfl)).wc _ (.inl rfl)).wc _ (.inl rfl)).wc _ (.inl rfl)).wc _ (.inr ⟨rfl, by decide⟩)).wc _ (.inr ⟨rfl, by decide⟩)).wc _ (.inr ⟨rfl, by decide⟩)).wc _ (.inr ⟨rfl, by decide⟩)
  have c5 : sk_c s1 (q + 5) = upd (upd (upd (upd (upd (upd (sk_c s (q + 5)) 0 (nI mv)) 1 (nI ow)) 2 (nI ot)) 3 (nI (v / 2 % 6))) 4 (nI ca)) 5 (nI wa) := by
    rw [← hw]; simp (disch := omega) only [qc_eq, qc_ne]
  have c0 : sk_c s1 q = upd (upd (upd (upd (sk_c s q) 6 (nI (v % 2))) 7 0) 8 0) 9 0 := by
    rw [← hw]; simp (disch := omega) only [qc_eq, qc_ne]
  have E : cl_env s1 q (lw_env mv ow ot (v / 2 % 6) ca wa (v % 2)) := by
    refine ⟨fun i hi => ?_, ?_⟩
    · rw [c5]
      have : i = 0 ∨ i = 1 ∨ i = 2 ∨ i = 3 ∨ i = 4 ∨ i = 5 := by omega
      rcases this with rfl | rfl | rfl | rfl | rfl | rfl <;> simp (disch := decide) only [pk_us, pk_un] <;> rfl
    · rw [c0]; simp (disch := decide) only [pk_us, pk_un]; rfl
  obtain ⟨s', k1, k2, k3⟩ := cl_weighL (N := N) (a := q) (k := fun q24 x25 x26 x27 x28 x29 x30 x31 => (some (q24, 0))) (p1 := nI v) (p2 := nI mv) (p3 := nI ow) (p4 := nI ot) (p5 := nI ca) (p6 := nI wa) hN hs m.1 N 0 s1 (by omega) (by have := L.2.2.1; omega) (lwC_cfr L F) E (by rw [c0]; simp (disch := decide) only [pk_us, pk_un]; rfl) (by rw [c0]; simp (disch := decide) only [pk_us, pk_un]; rfl) (by rw [c0]; simp (disch := decide) only [pk_us, pk_un]; show (0 : Int32) = nI 0 - nI 0; decide)
  exact ⟨s', k1, F.tr k2, k3⟩
/-- the class's law by its reference: none, or a law that means m -/
def cl_law (s : sk_S) (o : Option Nat) (m : lwM) : Prop := (o = none ∧ m.1 = 0) ∨ ∃ q, o = some q ∧ lwC s q m
def lwVo (o : Option Nat) (b k : Nat) : Prop := ∃ q, o = some q ∧ lwV q b k
theorem cl_law_le {o : Option Nat} {m : lwM} (L : cl_law s o m) (w : Nat) (e : Nat → Nat) : lw_S m w e ≤ 108 := by
  rcases L with ⟨_, h⟩ | ⟨q, _, h⟩
  · exact lw_S_le (fun n hn => by omega) (by omega) w e
  · obtain ⟨-, -, h3, -, -, -, -, -, st, nt, -, -, -, g⟩ := h
    exact lw_S_le (fun n hn => (g n hn).2.1) h3 w e
theorem cl_J174 {v mv ow ot up dn A B : Nat} {p3 p4 p5 : Int32} (hv : v < 1200) (hm : mv ≤ 6) (tu of1 : Bool) (ht : tu = true → of1 = true) (h1 : of1 = true ↔ mv < 5) (ho : ow ≤ 9) (hw : ot ≤ 9) (hu : up ≤ 1000) (hd : dn ≤ 1000) (hA : A ≤ 1000) (hB : B ≤ 1000) :
    x6_after_J174 N z s (nI v) (nI mv) p3 p4 p5 (if of1 = true then 1 else 0) (if tu = true then 1 else 0) (nI ow) (nI ot) (nI up) (nI dn) (nI A - nI B) = some (s, nI (
      let r1 := if 5 ≤ mv then min 9 (ow - up + dn) else ow - up
      let r2 := if 5 ≤ mv then min 9 (ot - up + dn) else min 9 (ot + dn)
      if tu = true then ps4 r2 r1 (min 5 (A - B)) (ly_r mv (v % 2)) else ps4 r1 r2 (min 5 (A - B)) (ly_r mv (v % 2)))) := by
  have t206 : ∀ x y : Nat, x ≤ 2000 → y ≤ 2000 → x6_after_J206 N z s (nI v) (nI mv) p3 p4 p5 (if of1 = true then 1 else 0) (if tu = true then 1 else 0) (nI x) (nI y) (nI up) (nI dn) (nI A - nI B) = some (s, nI (if tu = true then ps4 (min 9 (y + dn)) x (min 5 (A - B)) (ly_r mv (v % 2)) else ps4 x (min 9 (y + dn)) (min 5 (A - B)) (ly_r mv (v % 2)))) := by
    intro x y hx hy
    have t238 : ∀ t : Nat, x6_after_J238 N z s (nI v) (nI mv) p3 p4 p5 (if of1 = true then 1 else 0) (if tu = true then 1 else 0) (nI x) (nI (min 9 (y + dn))) (nI up) (nI dn) (nI t) = some (s, nI (if tu = true then ps4 (min 9 (y + dn)) x t (ly_r mv (v % 2)) else ps4 x (min 9 (y + dn)) t (ly_r mv (v % 2)))) := by
      intro t
      unfold x6_after_J238
      rw [ru_lyN hv hm]
      cases tu with
      | true => rw [if_neg (by decide), if_neg (by decide), po_ofN, if_pos rfl]
      | false => rw [if_pos (by decide), if_pos (by decide), po_ofN, if_neg (by decide)]
    unfold x6_after_J206
    simp only [zq_letP]
    rw [ru_deepN (by omega) (by omega)]
    by_cases hAB : B ≤ A
    · rw [pk_sub hAB, if_pos (nI_pos' (by omega))]
      by_cases h5 : A - B ≤ 5
      · rw [if_pos (by show _ ≤ nI 5; rw [zq_le (by omega) (by decide)]; exact h5), t238, Nat.min_eq_right h5]
      · rw [if_neg (by show ¬ _ ≤ nI 5; rw [zq_le (by omega) (by decide)]; exact h5)]
        refine Eq.trans (t238 5) ?_
        rw [show min 5 (A - B) = 5 by omega]
    · have hn := pk_sneg (a := A) (b := B) (by omega) (by omega)
      rw [if_neg (zq_neg.mpr hn)]
      refine Eq.trans (t238 0) ?_
      rw [show min 5 (A - B) = 0 by omega]
  unfold x6_after_J174
  simp only [zq_letP]
  rw [ru_lessN (by omega) (by omega)]
  cases of1 with
  | true =>
    have hm5 : mv < 5 := h1.mp rfl
    rw [if_neg (by decide), t206 _ _ (by omega) (by omega)]
    simp only [show ¬ 5 ≤ mv by omega, if_false]
  | false =>
    have hm5 : ¬ mv < 5 := fun q => by have := h1.mpr q; cases this
    have : tu = false := by
      cases tu with
      | true => have := ht rfl; cases this
      | false => rfl
    subst this
    rw [if_pos (by decide), ru_deepN (by omega) (by omega), ru_lessN (by omega) (by omega), t206 _ _ (by omega) (by omega)]
    simp only [show 5 ≤ mv by omega, if_true]
set_option maxRecDepth 20000 in
set_option maxHeartbeats 4000000 in
theorem cl_J65 {W : Nat → Nat} {m : lwM} {v mv ow ot ca wa : Nat} {p3 : Int32} (hN : 1000 ≤ N) (hl : lay_X6 (sk_K s) (sk_r s) z = true) (L : cl_law s (sk_r s z 1) m) (hv : v < 1200) (hm : mv ≤ 6) (tu of1 : Bool) (ht : tu = true → of1 = true) (h1 : of1 = true ↔ mv < 5) (ho : ow ≤ 9) (hw : ot ≤ 9) (hca : ca ≤ 9) (hwa : wa ≤ 9)
    (hW : ∀ i, i < 3 → sk_c s (z + 1) (4 * mv + i) = nI (W (17 + (4 * mv + i))) ∧ W (17 + (4 * mv + i)) ≤ 9) :
    ∃ s', x6_after_J65 N z s (nI v) (nI mv) p3 (nI ca) (nI wa) (if of1 = true then 1 else 0) (if tu = true then 1 else 0) (nI ow) (nI ot) = some (s', nI (
      let r := mv_r W m ca wa mv ow ot (v / 2 % 6) (v % 2)
      if tu = true then ps4 r.2.1 r.1 r.2.2.1 r.2.2.2 else ps4 r.1 r.2.1 r.2.2.1 r.2.2.2)) ∧ cfr (lwVo (sk_r s z 1)) s s' := by
  have hs : lw_sml (lw_env mv ow ot (v / 2 % 6) ca wa (v % 2)) := ⟨hm, ho, hw, (by show v / 2 % 6 ≤ 5; omega), hca, hwa, (by show v % 2 ≤ 1; omega)⟩
  have w0 := hW 0 (by decide); have w1 := hW 1 (by decide); have w2 := hW 2 (by decide)
  simp only [Nat.add_zero] at w0
  rw [show 17 + (4 * mv + 1) = 18 + 4 * mv by omega] at w1
  rw [show 17 + (4 * mv + 2) = 19 + 4 * mv by omega] at w2
  have e0 : (4 : Int32) * nI mv = nI (4 * mv) := by show nI 4 * nI mv = _; rw [pk_mul]
  have e1 : nI (4 * mv) + 1 = nI (4 * mv + 1) := nI_1 _
  have e2 : nI (4 * mv) + 2 = nI (4 * mv + 2) := by show nI _ + nI 2 = _; rw [nI_add]
  have s0 := cl_law_le L 0 (lw_env mv ow ot (v / 2 % 6) ca wa (v % 2))
  have s1 := cl_law_le L 1 (lw_env mv ow ot (v / 2 % 6) ca wa (v % 2))
  have s2 := cl_law_le L 2 (lw_env mv ow ot (v / 2 % 6) ca wa (v % 2))
  have s3 := cl_law_le L 3 (lw_env mv ow ot (v / 2 % 6) ca wa (v % 2))
  have rv : mv_r W m ca wa mv ow ot (v / 2 % 6) (v % 2) = (if 5 ≤ mv then min 9 (ow - (W (17 + 4 * mv) + lw_S m 0 (lw_env mv ow ot (v / 2 % 6) ca wa (v % 2))) + (W (18 + 4 * mv) + lw_S m 1 (lw_env mv ow ot (v / 2 % 6) ca wa (v % 2)))) else ow - (W (17 + 4 * mv) + lw_S m 0 (lw_env mv ow ot (v / 2 % 6) ca wa (v % 2))), if 5 ≤ mv then min 9 (ot - (W (17 + 4 * mv) + lw_S m 0 (lw_env mv ow ot (v / 2 % 6) ca wa (v % 2))) + (W (18 + 4 * mv) + lw_S m 1 (lw_env mv ow ot (v / 2 % 6) ca wa (v % 2)))) else min 9 (ot + (W (18 + 4 * mv) + lw_S m 1 (lw_env mv ow ot (v / 2 % 6) ca wa (v % 2)))), min 5 (v / 2 % 6 + W (19 + 4 * mv) + lw_S m 2 (lw_env mv ow ot (v / 2 % 6) ca wa (v % 2)) - lw_S m 3 (lw_env mv ow ot (v / 2 % 6) ca wa (v % 2))), ly_r mv (v % 2)) := rfl
  unfold x6_after_J65
  simp only [zq_letP]
  rw [e0, e1, e2, if_pos (zq_inBt (show 4 * mv < 28 by omega) (by decide)), if_pos (zq_inBt (show 4 * mv + 1 < 28 by omega) (by decide)), if_pos (zq_inBt (show 4 * mv + 2 < 28 by omega) (by decide)), zq_cl (n := 4 * mv) (by omega), zq_cl (n := 4 * mv + 1) (by omega), zq_cl (n := 4 * mv + 2) (by omega), w0.1, w1.1, w2.1, po_thN hv, nI_add]
  have plain : m.1 = 0 → x6_after_J174 N z s (nI v) (nI mv) p3 (nI ca) (nI wa) (if of1 = true then 1 else 0) (if tu = true then 1 else 0) (nI ow) (nI ot) (nI (W (17 + 4 * mv))) (nI (W (18 + 4 * mv))) (nI (v / 2 % 6 + W (19 + 4 * mv))) = some (s, nI (
      let r := mv_r W m ca wa mv ow ot (v / 2 % 6) (v % 2)
      if tu = true then ps4 r.2.1 r.1 r.2.2.1 r.2.2.2 else ps4 r.1 r.2.1 r.2.2.1 r.2.2.2)) := by
    intro h0
    have z0 : ∀ w e, lw_S m w e = 0 := fun w e => by unfold lw_S; rw [h0]; rfl
    rw [rv, z0, z0, z0, z0]
    have := cl_J174 (N := N) (z := z) (s := s) (p3 := p3) (p4 := nI ca) (p5 := nI wa) (up := W (17 + 4 * mv)) (dn := W (18 + 4 * mv)) (A := v / 2 % 6 + W (19 + 4 * mv)) (B := 0) hv hm tu of1 ht h1 ho hw (by omega) (by omega) (by omega) (by omega)
    rw [pk_sub (Nat.zero_le _), Nat.sub_zero] at this
    exact this
  rcases L with ⟨ho', hm0⟩ | ⟨q, ho', hq⟩
  · rw [ho']
    simp only [ky_om]
    exact ⟨s, plain hm0, cfr.rf⟩
  · rw [ho']
    simp only [ky_om]
    rw [if_pos hq.1, hq.2.1]
    by_cases h0 : m.1 = 0
    · rw [if_pos (by rw [h0]; decide)]
      exact ⟨s, plain h0, cfr.rf⟩
    · have := hq.2.2.1
      rw [if_neg (by show ¬ nI _ ≤ nI 0; rw [zq_le (by omega) (by decide)]; omega)]
      obtain ⟨s', k1, k2, k3, k4, k5⟩ := cl_weigh (q := q) hN hq hs hv
      rw [k1]
      simp only [zq_bindP]
      have r' : sk_r s' z 1 = some q := by rw [k2.2.2.1]; exact ho'
      have l' : lay_X3 (sk_K s') (sk_r s') q = true := by rw [k2.1, k2.2.2.1]; exact hq.1
      rw [r']
      simp only [ky_om]
      simp only [l', hq.1, if_true]
      rw [k3, k4, k5, nI_add, nI_add]
      have e9 : nI (v / 2 % 6 + W (19 + 4 * mv)) + (nI (lw_S m 2 (lw_env mv ow ot (v / 2 % 6) ca wa (v % 2))) - nI (lw_S m 3 (lw_env mv ow ot (v / 2 % 6) ca wa (v % 2)))) = nI (v / 2 % 6 + W (19 + 4 * mv) + lw_S m 2 (lw_env mv ow ot (v / 2 % 6) ca wa (v % 2))) - nI (lw_S m 3 (lw_env mv ow ot (v / 2 % 6) ca wa (v % 2))) := by
        rw [← nI_add (v / 2 % 6 + W (19 + 4 * mv)), Int32.sub_eq_add_neg, Int32.sub_eq_add_neg, Int32.add_assoc]
      rw [e9, rv]
      refine ⟨s', ?_, k2.mono (fun b k h => ⟨q, rfl, h⟩)⟩
      generalize lw_S m 0 (lw_env mv ow ot (v / 2 % 6) ca wa (v % 2)) = S0 at *
      generalize lw_S m 1 (lw_env mv ow ot (v / 2 % 6) ca wa (v % 2)) = S1 at *
      generalize lw_S m 2 (lw_env mv ow ot (v / 2 % 6) ca wa (v % 2)) = S2 at *
      generalize lw_S m 3 (lw_env mv ow ot (v / 2 % 6) ca wa (v % 2)) = S3 at *
      rw [cl_J174 (N := N) (z := z) (s := s') (p3 := p3) (p4 := nI ca) (p5 := nI wa) (up := W (17 + 4 * mv) + S0) (dn := W (18 + 4 * mv) + S1) (A := v / 2 % 6 + W (19 + 4 * mv) + S2) (B := S3) hv hm tu of1 ht h1 ho hw (by omega) (by omega) (by omega) (by omega)]
/-- the class's move, by numbers -/
theorem cl_after {W : Nat → Nat} {m : lwM} {v mv lg ca wa : Nat} (hN : 1000 ≤ N) (hl : lay_X6 (sk_K s) (sk_r s) z = true) (L : cl_law s (sk_r s z 1) m) (hv : v < 1200) (hm : mv ≤ 6) (hlg : lg ≤ 1) (hca : ca ≤ 9) (hwa : wa ≤ 9) (hW : ∀ i, i < 3 → sk_c s (z + 1) (4 * mv + i) = nI (W (17 + (4 * mv + i))) ∧ W (17 + (4 * mv + i)) ≤ 9) :
    ∃ s', x6_after N s z (nI v) (nI mv) (nI lg) (nI ca) (nI wa) = some (s', nI (mv_s W m ca wa mv lg v)) ∧ cfr (lwVo (sk_r s z 1)) s s' := by
  unfold x6_after
  simp only [zq_letP]
  rw [if_pos hl, po_d0N hv, po_d1N hv]
  by_cases h5 : 5 ≤ mv
  · rw [if_pos (by show nI 5 ≤ nI mv; rw [zq_le (by decide) (by omega)]; exact h5)]
    obtain ⟨s', k1, k2⟩ := cl_J65 (N := N) (z := z) (W := W) (p3 := nI lg) (ow := v / 120) (ot := v / 12 % 10) hN hl L hv hm false false (fun q => q) ⟨fun q => (nomatch q), fun q => absurd h5 (by omega)⟩ (by omega) (by omega) hca hwa hW
    refine ⟨s', ?_, k2⟩
    rw [show mv_s W m ca wa mv lg v = ps4 (mv_r W m ca wa mv (v / 120) (v / 12 % 10) (v / 2 % 6) (v % 2)).1 (mv_r W m ca wa mv (v / 120) (v / 12 % 10) (v / 2 % 6) (v % 2)).2.1 (mv_r W m ca wa mv (v / 120) (v / 12 % 10) (v / 2 % 6) (v % 2)).2.2.1 (mv_r W m ca wa mv (v / 120) (v / 12 % 10) (v / 2 % 6) (v % 2)).2.2.2 by unfold mv_s; rw [if_neg (by omega)]]
    exact k1
  · rw [if_neg (by show ¬ nI 5 ≤ nI mv; rw [zq_le (by decide) (by omega)]; exact h5)]
    by_cases h1 : lg = 1
    · subst h1
      rw [if_pos (by decide)]
      obtain ⟨s', k1, k2⟩ := cl_J65 (N := N) (z := z) (W := W) (p3 := nI 1) (ow := v / 12 % 10) (ot := v / 120) hN hl L hv hm true true (fun q => q) ⟨fun _ => by omega, fun _ => rfl⟩ (by omega) (by omega) hca hwa hW
      refine ⟨s', ?_, k2⟩
      rw [show mv_s W m ca wa mv 1 v = ps4 (mv_r W m ca wa mv (v / 12 % 10) (v / 120) (v / 2 % 6) (v % 2)).2.1 (mv_r W m ca wa mv (v / 12 % 10) (v / 120) (v / 2 % 6) (v % 2)).1 (mv_r W m ca wa mv (v / 12 % 10) (v / 120) (v / 2 % 6) (v % 2)).2.2.1 (mv_r W m ca wa mv (v / 12 % 10) (v / 120) (v / 2 % 6) (v % 2)).2.2.2 by unfold mv_s; rw [if_pos ⟨by omega, rfl⟩]]
      exact k1
    · have h0 : lg = 0 := by omega
      subst h0
      rw [if_neg (by decide)]
      obtain ⟨s', k1, k2⟩ := cl_J65 (N := N) (z := z) (W := W) (p3 := nI 0) (ow := v / 120) (ot := v / 12 % 10) hN hl L hv hm false true (fun _ => rfl) ⟨fun _ => by omega, fun _ => rfl⟩ (by omega) (by omega) hca hwa hW
      refine ⟨s', ?_, k2⟩
      rw [show mv_s W m ca wa mv 0 v = ps4 (mv_r W m ca wa mv (v / 120) (v / 12 % 10) (v / 2 % 6) (v % 2)).1 (mv_r W m ca wa mv (v / 120) (v / 12 % 10) (v / 2 % 6) (v % 2)).2.1 (mv_r W m ca wa mv (v / 120) (v / 12 % 10) (v / 2 % 6) (v % 2)).2.2.1 (mv_r W m ca wa mv (v / 120) (v / 12 % 10) (v / 2 % 6) (v % 2)).2.2.2 by unfold mv_s; rw [if_neg (by omega)]]
      exact k1
end
