/-! WAYS OVER CELLS: floods; way, reach, person -/
def flp (A F : Nat → Prop) : Nat → Nat → Prop
  | 0, q => A q
  | n + 1, q => flp A F n q ∨ (F q ∧ ∃ d, d < 64 ∧ aj d q = true ∧ flp A F n d)
theorem fl_step {A F : Nat → Prop} {v fr : Int64} {k : Nat} (hv : ∀ q, q < 64 → (hb v q = true ↔ flp A F k q)) (hF : ∀ q, q < 64 → (hb fr q = true ↔ F q)) : ∀ q, q < 64 → (hb (v ||| ((sh_beside v) &&& fr)) q = true ↔ flp A F (k + 1) q) := by
  intro q hq
  rw [hb_or, hb_and, Bool.or_eq_true, Bool.and_eq_true, hb_bes v hq, hv q hq, hF q hq]
  show _ ↔ flp A F k q ∨ (F q ∧ ∃ d, d < 64 ∧ aj d q = true ∧ flp A F k d)
  refine or_congr Iff.rfl ⟨fun ⟨⟨d, d1, d2, d3⟩, h⟩ => ⟨h, d, d1, d2, (hv d d1).mp d3⟩, fun ⟨h, d, d1, d2, d3⟩ => ⟨⟨d, d1, d2, (hv d d1).mpr d3⟩, h⟩⟩
theorem fl_stab {A F : Nat → Prop} {k : Nat} (h : ∀ q, q < 64 → (flp A F (k + 1) q ↔ flp A F k q)) : ∀ i q, q < 64 → (flp A F (k + i) q ↔ flp A F k q)
  | 0, _, _ => Iff.rfl
  | i + 1, q, hq => by
    have ih := fl_stab h i
    rw [← h q hq]
    show (flp A F (k + i) q ∨ (F q ∧ ∃ d, d < 64 ∧ aj d q = true ∧ flp A F (k + i) d)) ↔ (flp A F k q ∨ (F q ∧ ∃ d, d < 64 ∧ aj d q = true ∧ flp A F k d))
    rw [ih q hq]
    refine or_congr Iff.rfl (and_congr Iff.rfl ⟨fun ⟨d, d1, d2, d3⟩ => ⟨d, d1, d2, (ih d d1).mp d3⟩, fun ⟨d, d1, d2, d3⟩ => ⟨d, d1, d2, (ih d d1).mpr d3⟩⟩)
theorem fl_mono {A F : Nat → Prop} {q : Nat} : ∀ i n, flp A F n q → flp A F (n + i) q
  | 0, _, h => h
  | i + 1, n, h => .inl (fl_mono i n h)
theorem ct_lt {v u : Int64} (hs : ∀ q, q < 64 → hb v q = true → hb u q = true) (hne : u ≠ v) : fb_ct (hb v) 64 + 1 ≤ fb_ct (hb u) 64 := by
  have ex : ∃ q, q < 64 ∧ hb v q = false ∧ hb u q = true := by
    refine Classical.byContradiction (fun hn => hne (hb_ext (fun q hq => ?_)))
    cases h1 : hb v q with
    | true => exact hs q hq h1
    | false =>
      cases h2 : hb u q with
      | false => rfl
      | true => exact absurd ⟨q, hq, h1, h2⟩ hn
  obtain ⟨q0, h0, h1, h2⟩ := ex
  have e := fb_ct_upd (hb v) true (i := q0) (n := 64) h0
  rw [h1, if_neg (by decide), if_pos rfl] at e
  have l : fb_ct (fun k => if k = q0 then true else hb v k) 64 ≤ fb_ct (hb u) 64 := fb_ct_sub (fun k hk hp => by
    by_cases e : k = q0
    · rw [e]; exact h2
    · simp only [if_neg e] at hp
      exact hs k hk hp)
  omega
section
variable {N X j : Nat} {s s' : sk_S} {c c' c0 : Nat → Nat → Int32} {W W' W0 : Nat → Nat} {sd sd' sd0 : Int32} {m m' : lwM} {sb : Nat} {k : Nat}
theorem fd_loop {A F : Nat → Prop} {p0 fr : Int64} (hF : ∀ q, q < 64 → (hb fr q = true ↔ F q)) : ∀ (r k fuel : Nat) (v : Int64), k + r = 64 → r < fuel → (∀ q, q < 64 → (hb v q = true ↔ flp A F k q)) → k ≤ fb_ct (hb v) 64 → ∃ u, x8_flood_L6 N (fun q2 x3 x4 x5 x6 => (some (q2, x5))) fuel s p0 fr v (nI k) = some (s, u) ∧ ∀ q, q < 64 → (hb u q = true ↔ ∃ n, flp A F n q) := by
  intro r
  induction r with
  | zero =>
    intro k fuel v h1 h2 hv hc
    obtain ⟨fuel, rfl⟩ : ∃ q, fuel = q + 1 := ⟨fuel - 1, by omega⟩
    obtain rfl : k = 64 := by omega
    have all : ∀ q, q < 64 → hb v q = true := fb_ct_all.mp (by have := fb_ct_le (hb v) 64; omega)
    refine ⟨v, ?_, fun q hq => ⟨fun h => ⟨64, (hv q hq).mp h⟩, fun _ => all q hq⟩⟩
    simp only [x8_flood_L6]; rw [if_pos (by decide)]
  | succ r ih =>
    intro k fuel v h1 h2 hv hc
    obtain ⟨fuel, rfl⟩ : ∃ q, fuel = q + 1 := ⟨fuel - 1, by omega⟩
    have nle : ¬ (64 : Int32) ≤ nI k := by show ¬ nI 64 ≤ nI k; rw [zq_le (by decide) (by omega)]; omega
    have st := fl_step hv hF
    by_cases e : v ||| ((sh_beside v) &&& fr) = v
    · refine ⟨v, ?_, fun q hq => ⟨fun h => ⟨k, (hv q hq).mp h⟩, fun ⟨n, hn⟩ => ?_⟩⟩
      · simp only [x8_flood_L6, zq_letP]
        rw [if_neg nle, if_pos (by rw [lg_0]; exact e)]
      · rw [e] at st
        have sb := fl_stab (fun q hq => (st q hq).symm.trans (hv q hq))
        rw [hv q hq, ← sb n q hq, Nat.add_comm]
        exact fl_mono k n hn
    · obtain ⟨u, i1, i2⟩ := ih (k + 1) fuel _ (by omega) (by omega) st (by
        have := ct_lt (v := v) (u := v ||| ((sh_beside v) &&& fr)) (fun q hq h => by rw [hb_or, h, Bool.true_or]) e
        omega)
      refine ⟨u, ?_, i2⟩
      simp only [x8_flood_L6, zq_letP]
      rw [if_neg nle, if_neg (by rw [lg_0]; exact e), nI_1]
      exact i1
theorem fd_ok (hN : 100 ≤ N) {A F : Nat → Prop} {p0 fr : Int64} (hA : ∀ q, q < 64 → (hb p0 q = true ↔ A q)) (hF : ∀ q, q < 64 → (hb fr q = true ↔ F q)) : ∃ u, x8_flood N s p0 fr = some (s, u) ∧ ∀ q, q < 64 → (hb u q = true ↔ ∃ n, flp A F n q) :=
  fd_loop (N := N) (s := s) (p0 := p0) hF 64 0 N p0 (by omega) (by omega) hA (Nat.zero_le _)
theorem kW_1 {w q : Nat} : kW W w q = 1 ∨ kW W w q = 1000000 := by
  unfold kW
  split
  · exact .inr rfl
  · exact .inl rfl
theorem kW_F {w q : Nat} : kW W w q < 1000000 ↔ w ≤ W (45 + 3 * q) := by
  unfold kW
  split <;> omega
theorem wy_base {κ tl : Nat → Nat} {f : Nat} (h1 : ∀ q, q < 64 → κ q = 1 ∨ κ q = 1000000) (hf : f < 64) (h : tlF κ f tl) : ∀ q, q < 64 → (hb (1 <<< (Int32.toInt64 (nI f) &&& 63)) q = true ↔ tl q ≤ 0) := by
  intro q hq
  rw [hb_one hf, decide_eq_true_eq]
  refine ⟨fun e => by rw [e, h.1.1]; exact Nat.le_refl _, fun e => ?_⟩
  obtain ⟨n, hn⟩ := h.1.2.2 q hq (by omega)
  cases n with
  | zero => exact hn.1
  | succ n =>
    obtain ⟨d, u, _, _, _, hk, e3⟩ := hn
    have := h1 q hq
    omega
theorem wy_step {κ tl : Nat → Nat} {f k : Nat} {v fr : Int64} (h1 : ∀ q, q < 64 → κ q = 1 ∨ κ q = 1000000) (h : tlF κ f tl) (hk : k < 100) (hF : ∀ q, q < 64 → (hb fr q = true ↔ κ q < 1000000)) (hv : ∀ q, q < 64 → (hb v q = true ↔ tl q ≤ k)) : ∀ q, q < 64 → (hb (v ||| ((sh_beside v) &&& fr)) q = true ↔ tl q ≤ k + 1) := by
  intro q hq
  rw [hb_or, hb_and, Bool.or_eq_true, Bool.and_eq_true, hb_bes v hq, hv q hq, hF q hq]
  constructor
  · rintro (e | ⟨⟨d, d1, d2, d3⟩, e⟩)
    · omega
    · have := tlF_step h d1 hq d2
      have := (hv d d1).mp d3
      have := h1 q hq
      omega
  · intro e
    obtain ⟨n, hn⟩ := h.1.2.2 q hq (by omega)
    cases n with
    | zero => left; have := hn.2; omega
    | succ n =>
      obtain ⟨d, u, d1, d2, d3, hk2, e3⟩ := hn
      have := tlF_min h n d u d1 d3
      have := h1 q hq
      exact .inr ⟨⟨d, d1, d2, (hv d d1).mpr (by omega)⟩, hk2⟩
theorem spt_loop {κ tl : Nat → Nat} {f ce : Nat} {fr : Int64} {p1 p3 : Int32} {a : Nat} (h1 : ∀ q, q < 64 → κ q = 1 ∨ κ q = 1000000) (h : tlF κ f tl) (hF : ∀ q, q < 64 → (hb fr q = true ↔ κ q < 1000000)) (hce : ce < 64) : ∀ (r k fuel : Nat) (v : Int64), k + r = 64 → r < fuel → (∀ q, q < 64 → (hb v q = true ↔ tl q ≤ k)) → k ≤ tl ce → x8_steps_L40 N a (fun q9 x10 x11 x12 x13 x14 x15 => (some (q9, (-1)))) fuel s p1 (nI ce) p3 fr v (nI k) = some (s, if tl ce < 64 then nI (tl ce) else -1) := by
  intro r
  induction r with
  | zero =>
    intro k fuel v g1 g2 hv hk
    obtain ⟨fuel, rfl⟩ : ∃ q, fuel = q + 1 := ⟨fuel - 1, by omega⟩
    obtain rfl : k = 64 := by omega
    simp only [x8_steps_L40]; rw [if_pos (by decide), if_neg (by omega)]
  | succ r ih =>
    intro k fuel v g1 g2 hv hk
    obtain ⟨fuel, rfl⟩ : ∃ q, fuel = q + 1 := ⟨fuel - 1, by omega⟩
    have nle : ¬ (64 : Int32) ≤ nI k := by show ¬ nI 64 ≤ nI k; rw [zq_le (by decide) (by omega)]; omega
    simp only [x8_steps_L40, zq_letP]
    rw [if_neg nle, hb_has v hce]
    cases hx : hb v ce with
    | true =>
      have := (hv ce hce).mp hx
      have e : tl ce = k := by omega
      rw [if_pos rfl, if_neg (by decide), e, if_pos (by omega)]
    | false =>
      have hn : ¬ tl ce ≤ k := fun q => by rw [(hv ce hce).mpr q] at hx; cases hx
      have z0 : (if false = true then (1 : Int32) else 0) = 0 := rfl
      rw [z0, if_pos rfl, nI_1]
      exact ih (k + 1) fuel _ (by omega) (by omega) (wy_step h1 h (by omega) hF hv) (by omega)
/-- the way of a person: weight and place, class and reference -/
theorem pw_R (R : R_now X s c0 W sd m) (Rc : rwd c W sd m) {p : Nat} (hp : p < W 12) : p < 6 ∧ sk_c s (X + 16 + 2) p = nI (W (237 + 2 * p)) ∧ sk_c s (X + 16 + 3) p = nI (W (238 + 2 * p)) ∧ 1 ≤ W (237 + 2 * p) ∧ W (237 + 2 * p) ≤ 9 ∧ W (238 + 2 * p) < 64 ∧ md_ofPerson_r c (nI p) 0 = nI (W (237 + 2 * p)) ∧ md_ofPerson_r c (nI p) 1 = nI (W (238 + 2 * p)) ∧ ky_inB ((237 + 2 * nI p) + 0) 2247 = true ∧ ky_inB ((237 + 2 * nI p) + 1) 2247 = true := by
  have hw := Rc.2.1
  have w12 := hw.1.2.2.2.2.2.2.2.2.2.2.2.2.1
  have h6 : p < 6 := by omega
  have a := R.2.2.1.2.2.2.2.2.2.1 p hp
  have b := hw.2.2.2.1 p h6
  have o1 : md_ofPerson_r c (nI p) 1 = nI (W (238 + 2 * p)) := by
    rw [show 238 + 2 * p = 237 + 2 * p + 1 by omega]; exact (pp_R Rc (k := 1) h6 (by decide)).1
  exact ⟨h6, a.1, a.2, b.2.2 hp, b.1, by omega, (pp_R Rc (k := 0) h6 (by decide)).1, o1, (pp_R Rc (k := 0) h6 (by decide)).2, (pp_R Rc (k := 1) h6 (by decide)).2⟩
theorem ceq_12 (h : ∀ a, a ≠ 12 → c' a = bk_w c 0 0 0 a) : ceq c c' := by
  refine ceq_0.tr ⟨fun k _ => ?_, fun k _ => ?_, fun k _ => ?_, ?_, ?_, ?_, ?_, fun k _ => ?_⟩
  · rw [h 1 (by decide)]
  · rw [h 2 (by decide)]
  · rw [h 5 (by decide)]
  · rw [h 0 (by decide)]
  · rw [h 0 (by decide)]
  · rw [h 0 (by decide)]
  · rw [h 0 (by decide)]
  · rw [h 6 (by decide)]
theorem lws_ok (hN : 2000000000 ≤ N) (R : R_now X s c0 W sd m) (Rc : rwd c W sd m) {p : Nat} (hp : p < W 12) {p2 : Int32} {z : Nat} (hz : (p2 = 0 ∧ z = 0) ∨ (p2 = 1 ∧ z = 1)) : ∃ c' tl, md_laysWays N c (nI p) p2 = some (c', 0) ∧ (∀ a, a ≠ 12 → c' a = c a) ∧ (∀ q, q < 64 → c' 12 q = nI (tl q)) ∧ tlF (kW W (W (237 + 2 * p) - z)) (W (238 + 2 * p)) tl := by
  obtain ⟨h6, s2, s3, w1, w9, h64, o0, o1, n0, n1⟩ := pw_R R Rc hp
  obtain ⟨c2, tl, q1, q2, q3, q4⟩ := lt_ok (N := N) (c := c) hN h64 (kW_st Rc (w := W (237 + 2 * p) - z) (by omega))
  refine ⟨c2, tl, ?_, q2, q3, q4⟩
  unfold md_laysWays
  rw [if_pos n1, if_pos n0, o0, o1]
  rcases hz with ⟨rfl, rfl⟩ | ⟨rfl, rfl⟩
  · have e : nI (W (237 + 2 * p)) - 0 = nI (W (237 + 2 * p) - 0) := pk_sub (b := 0) (by omega)
    rw [if_pos rfl, e, q1]
    rfl
  · have e : nI (W (237 + 2 * p)) - 1 = nI (W (237 + 2 * p) - 1) := pk_sub (b := 1) (by omega)
    rw [if_neg (by decide), e, q1]
    rfl
theorem st_cls (hN : 100 ≤ N) (R : R_now X s c0 W sd m) (Rc : rwd c W sd m) {p ce : Nat} (hp : p < W 12) (hce : ce < 64) {p2 : Int32} {z : Nat} (hz : (p2 = 0 ∧ z = 0) ∨ (p2 = 1 ∧ z = 1)) {tl : Nat → Nat} (h : tlF (kW W (W (237 + 2 * p) - z)) (W (238 + 2 * p)) tl) : x8_steps N s (X + 16) (nI p) (nI ce) p2 = some (s, if tl ce < 64 then nI (tl ce) else -1) := by
  obtain ⟨h6, s2, s3, w1, w9, h64, o0, o1, n0, n1⟩ := pw_R R Rc hp
  obtain ⟨v, b1, b2⟩ := be_R (N := N) hN R (w := W (237 + 2 * p) - z) (by omega)
  have hF : ∀ q, q < 64 → (hb v q = true ↔ kW W (W (237 + 2 * p) - z) q < 1000000) := fun q hq => by
    rw [b2 q hq, decide_eq_true_eq, kW_F]
  have lo := fun p3 => spt_loop (N := N) (s := s) (a := X + 16) (p1 := nI p) (p3 := p3) (fun q _ => kW_1) h hF hce 64 0 N _ (by omega) (by omega) (wy_base (fun q _ => kW_1) h64 h) (Nat.zero_le _)
  have ip : ky_inB (nI p) 6 = true := zq_inBt h6 (by decide)
  unfold x8_steps
  rw [if_pos (R_l8 R)]
  rcases hz with ⟨rfl, rfl⟩ | ⟨rfl, rfl⟩
  · rw [if_pos rfl, if_pos ip, zq_cl (by omega), s2]
    have b1' : x8_bearing N s (X + 16) (nI (W (237 + 2 * p))) = some (s, v) := b1
    rw [b1']
    simp only [zq_bindP, zq_letP]
    rw [s3]
    exact lo 0
  · have e : nI (W (237 + 2 * p)) - 1 = nI (W (237 + 2 * p) - 1) := pk_sub (b := 1) (by omega)
    rw [if_neg (by decide), if_pos ip, zq_cl (by omega), s2, e, b1]
    simp only [zq_bindP, zq_letP]
    rw [s3]
    exact lo 1
theorem boolC {p2 : Int32} (h : p2 = 0 ∨ p2 = 1) : ∃ z, (p2 = 0 ∧ z = 0) ∨ (p2 = 1 ∧ z = 1) := by
  rcases h with h | h
  · exact ⟨0, .inl ⟨h, rfl⟩⟩
  · exact ⟨1, .inr ⟨h, rfl⟩⟩
set_option maxRecDepth 20000 in
theorem sm_way_ok (hN : 2000000000 ≤ N) : sm_way X N (RR X) := by
  intro j s c hj ⟨_, Z, W, sd, m, R, Rw⟩ p1 p2 p3 hp3
  have R0 := rwd_0 R
  obtain ⟨z, hz⟩ := boolC hp3
  have bad : x11_way N s X p1 p2 p3 = some (sk_rs s 6, .inr "java/lang/IndexOutOfBoundsException") → md_way N c p1 p2 p3 = some (bk_w (bk_w c 0 0 0) 0 0 1, 0) → ∃ (s9 : sk_S) (c9 : (Nat → Nat → Int32)) (r9 : ky_RS) (r : Int32), x11_way N s X p1 p2 p3 = some (s9, r9) ∧ md_way N c p1 p2 p3 = some (c9, r) ∧ ((r9 = .inl (some (.int r)) ∧ c9 0 0 = 0) ∨ (r9 = .inr "java/lang/IndexOutOfBoundsException" ∧ c9 0 0 = 1)) ∧ RR X (j + 1) s9 c9 := fun h1 h2 => ⟨_, _, _, _, h1, h2, .inr ⟨rfl, bk_w_same _ _ _ _⟩, RR_thr hj Z R Rw (thr_ceq 1)⟩
  rcases personC (N := N) R.1 R0 p1 with ⟨p, hp, hp6, rfl, m1, m2⟩ | ⟨m1, m2⟩
  · rcases cellC p2 with ⟨k, hk, rfl, l1, l2⟩ | ⟨l1, l2⟩
    · obtain ⟨c2, tl, q1, q2, q3, q4⟩ := lws_ok (N := N) hN R.1 R0 hp hz
      have cl := st_cls (N := N) (by omega) R.1 R0 hp (ce := k) (by omega) hz q4
      have hB := q4.1.2.1 k (by omega)
      have e : (if tl k < 64 then nI (tl k) else -1) = (if nI (tl k) < (1000000 : Int32) then nI (tl k) else -1) := by
        have zl : (nI (tl k) < (1000000 : Int32)) = (tl k < 1000000) := zq_lt (b := 1000000) (by omega) (by decide)
        by_cases h : tl k < 1000000
        · have := tlF_63 (fun q _ => kW_1) q4 (q := k) (by omega) h
          rw [if_pos (show nI (tl k) < (1000000 : Int32) by rw [zl]; exact h), if_pos (by omega)]
        · rw [if_neg (show ¬ nI (tl k) < (1000000 : Int32) by rw [zl]; exact h), if_neg (by omega)]
      refine ⟨s, c2, .inl (some (.int (if nI (tl k) < (1000000 : Int32) then nI (tl k) else -1))), (if nI (tl k) < (1000000 : Int32) then nI (tl k) else -1), ?_, ?_, .inl ⟨rfl, ?_⟩, RR_siz hj Z (s' := s) ⟨rfl, rfl, rfl⟩ (RA_c R (ceq_12 q2)) Rw⟩
      · unfold x11_way
        rw [if_pos R.1.1, m1]
        simp only [zq_bindP]
        rw [if_neg (by decide), l1, if_neg (by decide), cl, e]
        rfl
      · have i64 : ky_inB (nI k) 64 = true := zq_inBt (by omega) (by decide)
        have cl64 : Int32.toNatClampNeg (nI k) = k := zq_cl (by omega)
        simp only [md_way, zq_letP, m2, l2, th_r, th_c0, d00, ↓reduceIte, q1, zq_bindP, i64, cl64, q3 k (by omega)]
        by_cases h : nI (tl k) < (1000000 : Int32)
        · rw [if_pos h, if_pos h]
        · rw [if_neg h, if_neg h]
      · rw [q2 0 (by decide), bk_w_same]
    · refine bad ?_ ?_
      · unfold x11_way
        rw [if_pos R.1.1, m1]
        simp only [zq_bindP]
        rw [if_neg (by decide), l1, if_pos rfl]
      · simp only [md_way, zq_letP, m2, l2, th_r, th_c1, d00, d10, ↓reduceIte]
  · refine bad ?_ ?_
    · unfold x11_way
      rw [if_pos R.1.1, m1]
      simp only [zq_bindP]
      rw [if_pos trivial]
    · simp only [md_way, zq_letP, m2, th_r, th_c1, d10, ↓reduceIte]
/-! reach -/
theorem rc_iff {κ tl : Nat → Nat} {f : Nat} (h1 : ∀ q, q < 64 → κ q = 1 ∨ κ q = 1000000) (h : tlF κ f tl) {q : Nat} (hq : q < 64) : (∃ n, flp (fun q => q = f) (fun q => κ q < 1000000) n q) ↔ tl q < 1000000 := by
  constructor
  · rintro ⟨n, hn⟩
    revert q
    induction n with
    | zero => intro q hq hn; have hn : q = f := hn; rw [hn, h.1.1]; decide
    | succ n ih =>
      intro q hq hn
      rcases hn with hn | ⟨hk, d, d1, d2, d3⟩
      · exact ih hq hn
      · have a := ih d1 d3
        have b := tlF_63 h1 h d1 a
        have := tlF_step h d1 hq d2
        have := h1 q hq
        omega
  · intro hl
    obtain ⟨n, hn⟩ := h.1.2.2 q hq hl
    refine ⟨n, ?_⟩
    revert hn
    generalize tl q = t
    clear hl
    revert q t
    induction n with
    | zero => intro q hq t hn; exact hn.1
    | succ n ih =>
      intro q hq t hn
      obtain ⟨d, u, d1, d2, d3, hk, _⟩ := hn
      exact .inr ⟨hk, d, d1, d2, ih d1 u d3⟩
theorem rd_cls (hN : 100 ≤ N) (R : R_now X s c0 W sd m) (Rc : rwd c W sd m) {p : Nat} (hp : p < W 12) {p2 : Int32} {z : Nat} (hz : (p2 = 0 ∧ z = 0) ∨ (p2 = 1 ∧ z = 1)) {tl : Nat → Nat} (h : tlF (kW W (W (237 + 2 * p) - z)) (W (238 + 2 * p)) tl) : ∃ u, x8_reached N s (X + 16) (nI p) p2 = some (s, u) ∧ ∀ q, q < 64 → (hb u q = true ↔ tl q < 1000000) := by
  obtain ⟨h6, s2, s3, w1, w9, h64, o0, o1, n0, n1⟩ := pw_R R Rc hp
  obtain ⟨v, b1, b2⟩ := be_R (N := N) hN R (w := W (237 + 2 * p) - z) (by omega)
  have hF : ∀ q, q < 64 → (hb v q = true ↔ kW W (W (237 + 2 * p) - z) q < 1000000) := fun q hq => by
    rw [b2 q hq, decide_eq_true_eq, kW_F]
  obtain ⟨u, u1, u2⟩ := fd_ok (N := N) (s := s) hN (A := fun q => q = W (238 + 2 * p)) (p0 := 1 <<< (Int32.toInt64 (nI (W (238 + 2 * p))) &&& 63)) (fun q hq => by rw [hb_one h64, decide_eq_true_eq]) hF
  refine ⟨u, ?_, fun q hq => (u2 q hq).trans (rc_iff (fun q _ => kW_1) h hq)⟩
  have ip : ky_inB (nI p) 6 = true := zq_inBt h6 (by decide)
  unfold x8_reached
  rw [if_pos (R_l8 R), if_pos ip]
  rcases hz with ⟨rfl, rfl⟩ | ⟨rfl, rfl⟩
  · have b1' : x8_bearing N s (X + 16) (nI (W (237 + 2 * p))) = some (s, v) := b1
    rw [if_pos rfl, zq_cl (by omega), s2, b1']
    simp only [zq_bindP]
    rw [s3, u1]
    rfl
  · have e : nI (W (237 + 2 * p)) - 1 = nI (W (237 + 2 * p) - 1) := pk_sub (b := 1) (by omega)
    rw [if_neg (by decide), zq_cl (by omega), s2, e, b1]
    simp only [zq_bindP]
    rw [s3, u1]
    rfl
theorem rr_loop {tl : Nat → Nat} (ht : ∀ q, q < 64 → c 12 q = nI (tl q)) (hB : ∀ q, q < 64 → tl q ≤ 1000000) {p1 p2 : Int32} {kR : (Nat → Nat → Int32) → Int32 → Int32 → Int64 → Int32 → Option ((Nat → Nat → Int32) × Int64)} : ∀ (r i fuel : Nat) (b : Int64), i + r = 64 → r < fuel → ∃ v, md_reach_L31 N kR fuel c p1 p2 b (nI i) = kR c p1 p2 v (nI 64) ∧ ∀ q, q < 64 → (hb v q = true ↔ hb b q = true ∨ (i ≤ q ∧ tl q < 1000000)) := by
  intro r
  induction r with
  | zero =>
    intro i fuel b h1 h2
    obtain ⟨fuel, rfl⟩ : ∃ q, fuel = q + 1 := ⟨fuel - 1, by omega⟩
    obtain rfl : i = 64 := by omega
    refine ⟨b, ?_, fun q hq => ⟨.inl, ?_⟩⟩
    · simp only [md_reach_L31]; rw [if_pos (by decide)]
    · rintro (h | h)
      · exact h
      · omega
  | succ r ih =>
    intro i fuel b h1 h2
    obtain ⟨fuel, rfl⟩ : ∃ q, fuel = q + 1 := ⟨fuel - 1, by omega⟩
    have nle : ¬ (64 : Int32) ≤ nI i := by show ¬ nI 64 ≤ nI i; rw [zq_le (by decide) (by omega)]; omega
    have b2 := hB i (by omega)
    have zl : ((1000000 : Int32) ≤ nI (tl i)) = (1000000 ≤ tl i) := zq_le (a := 1000000) (by decide) (by omega)
    by_cases h : 1000000 ≤ tl i
    · obtain ⟨v, i1, i2⟩ := ih (i + 1) fuel b (by omega) (by omega)
      refine ⟨v, ?_, fun q hq => ?_⟩
      · simp only [md_reach_L31, zq_letP]
        rw [if_neg nle, if_pos (zq_inBt (by omega) (by decide)), zq_cl (by omega), ht i (by omega), if_pos (by rw [zl]; exact h), nI_1, Int64.or_zero]
        exact i1
      · rw [i2 q hq]
        refine or_congr Iff.rfl ⟨fun h => ⟨by omega, h.2⟩, fun ⟨p1, p2⟩ => ⟨?_, p2⟩⟩
        by_cases e : q = i
        · subst e; omega
        · omega
    · obtain ⟨v, i1, i2⟩ := ih (i + 1) fuel (b ||| (1 <<< (Int32.toInt64 (nI i) &&& 63))) (by omega) (by omega)
      refine ⟨v, ?_, fun q hq => ?_⟩
      · simp only [md_reach_L31, zq_letP]
        rw [if_neg nle, if_pos (zq_inBt (by omega) (by decide)), zq_cl (by omega), ht i (by omega), if_neg (by rw [zl]; exact h), nI_1]
        exact i1
      · rw [i2 q hq, hb_or, hb_one (by omega), Bool.or_eq_true, decide_eq_true_eq, or_assoc]
        refine or_congr Iff.rfl ⟨?_, ?_⟩
        · rintro (e | ⟨p1, p2⟩)
          · subst e; exact ⟨by omega, by omega⟩
          · exact ⟨by omega, p2⟩
        · rintro ⟨p1, p2⟩
          by_cases e : q = i
          · exact .inl e
          · exact .inr ⟨by omega, p2⟩
set_option maxRecDepth 20000 in
theorem sm_reach_ok (hN : 2000000000 ≤ N) : sm_reach X N (RR X) := by
  intro j s c hj ⟨_, Z, W, sd, m, R, Rw⟩ p1 p2 hp2
  have R0 := rwd_0 R
  obtain ⟨z, hz⟩ := boolC hp2
  rcases personC (N := N) R.1 R0 p1 with ⟨p, hp, hp6, rfl, m1, m2⟩ | ⟨m1, m2⟩
  · obtain ⟨c2, tl, q1, q2, q3, q4⟩ := lws_ok (N := N) hN R.1 R0 hp hz
    obtain ⟨u, u1, u2⟩ := rd_cls (N := N) (by omega) R.1 R0 hp hz q4
    obtain ⟨v, v1, v2⟩ := rr_loop (N := N) q3 q4.1.2.1 (p1 := nI p) (p2 := p2) (kR := fun q13 x14 x15 x16 x17 => (some (q13, x16))) 64 0 N 0 (by omega) (by omega)
    have e : v = u := hb_ext (fun q hq => by
      rw [Bool.eq_iff_iff, v2 q hq, u2 q hq, hb_0]
      refine ⟨fun h => ?_, fun h => .inr ⟨by omega, h⟩⟩
      rcases h with h | h
      · cases h
      · exact h.2)
    subst e
    refine ⟨s, c2, .inl (some (.long v)), v, ?_, ?_, .inl ⟨rfl, ?_⟩, RR_siz hj Z (s' := s) ⟨rfl, rfl, rfl⟩ (RA_c R (ceq_12 q2)) Rw⟩
    · unfold x11_reach
      rw [if_pos R.1.1, m1]
      simp only [zq_bindP]
      rw [if_neg (by decide), u1]
      rfl
    · have v1' : md_reach_L31 N (fun q13 x14 x15 x16 x17 => (some (q13, x16))) N c2 (nI p) p2 0 0 = some (c2, v) := v1
      simp only [md_reach, zq_letP, m2, th_r, th_c0, d00, true_or, ↓reduceIte, q1, zq_bindP, v1']
    · rw [q2 0 (by decide), bk_w_same]
  · refine ⟨sk_rs s 6, bk_w (bk_w c 0 0 0) 0 0 1, .inr "java/lang/IndexOutOfBoundsException", 0, ?_, ?_, .inr ⟨rfl, bk_w_same _ _ _ _⟩, RR_thr hj Z R Rw (thr_ceq 1)⟩
    · unfold x11_reach
      rw [if_pos R.1.1, m1]
      simp only [zq_bindP]
      rw [if_pos trivial]
    · simp only [md_reach, zq_letP, m2, th_r, th_c1, d10, d11, or_true, ↓reduceIte]
/-! person: how far -/
theorem fa_loop (R : R_now X s c0 W sd m) (Rc : rwd c W sd m) {p : Nat} (hp : p < W 12) {tl : Nat → Nat} {u : Int64} (hu : ∀ q, q < 64 → (hb u q = true ↔ tl q < 1000000)) (ht : ∀ q, q < 64 → c 12 q = nI (tl q)) (hB : ∀ q, q < 64 → tl q ≤ 1000000) {kC : sk_S → Int32 → Int64 → Int32 → Int32 → Option (sk_S × Int32)} {kR : (Nat → Nat → Int32) → Int32 → Int32 → Int32 → Option ((Nat → Nat → Int32) × Int32)} : ∀ (r i fuel fuel' : Nat) (b : Int32), i + r = 64 → r < fuel → r < fuel' → ∃ x, x8_farthest_L13 N (X + 16) kC fuel s (nI p) u b (nI i) = kC s (nI p) u x (nI 64) ∧ md_farOf_L10 N kR fuel' c (nI p) b (nI i) = kR c (nI p) x (nI 64) := by
  obtain ⟨h6, s2, s3, w1, w9, h64, o0, o1, n0, n1⟩ := pw_R R Rc hp
  intro r
  induction r with
  | zero =>
    intro i fuel fuel' b h1 h2 h3
    obtain ⟨fuel, rfl⟩ : ∃ q, fuel = q + 1 := ⟨fuel - 1, by omega⟩
    obtain ⟨fuel', rfl⟩ : ∃ q, fuel' = q + 1 := ⟨fuel' - 1, by omega⟩
    obtain rfl : i = 64 := by omega
    refine ⟨b, ?_, ?_⟩
    · simp only [x8_farthest_L13]; rw [if_pos (by decide)]
    · simp only [md_farOf_L10]; rw [if_pos (by decide)]
  | succ r ih =>
    intro i fuel fuel' b h1 h2 h3
    obtain ⟨fuel, rfl⟩ : ∃ q, fuel = q + 1 := ⟨fuel - 1, by omega⟩
    obtain ⟨fuel', rfl⟩ : ∃ q, fuel' = q + 1 := ⟨fuel' - 1, by omega⟩
    have nle : ¬ (64 : Int32) ≤ nI i := by show ¬ nI 64 ≤ nI i; rw [zq_le (by decide) (by omega)]; omega
    have b2 := hB i (by omega)
    have zl : ((1000000 : Int32) ≤ nI (tl i)) = (1000000 ≤ tl i) := zq_le (a := 1000000) (by decide) (by omega)
    have hh := hb_has u (i := i) (by omega)
    have i64 : ky_inB (nI i) 64 = true := zq_inBt (by omega) (by decide)
    have ci : Int32.toNatClampNeg (nI i) = i := zq_cl (by omega)
    by_cases h : 1000000 ≤ tl i
    · have hf : hb u i = false := by
        cases hx : hb u i with
        | false => rfl
        | true => have := (hu i (by omega)).mp hx; omega
      rw [hf, if_neg (by decide)] at hh
      obtain ⟨x, i1, i2⟩ := ih (i + 1) fuel fuel' b (by omega) (by omega) (by omega)
      refine ⟨x, ?_, ?_⟩
      · simp only [x8_farthest_L13, zq_letP]
        rw [if_neg nle, hh, if_pos rfl, nI_1]
        exact i1
      · simp only [md_farOf_L10, zq_letP]
        rw [if_neg nle, if_pos i64, ci, ht i (by omega), if_pos (by rw [zl]; exact h), nI_1]
        exact i2
    · have hf : hb u i = true := (hu i (by omega)).mpr (by omega)
      rw [hf, if_pos rfl] at hh
      obtain ⟨x, i1, i2⟩ := ih (i + 1) fuel fuel' (mt_max b (md_apart (nI i) (nI (W (238 + 2 * p))))) (by omega) (by omega) (by omega)
      refine ⟨x, ?_, ?_⟩
      · simp only [x8_farthest_L13, zq_letP]
        rw [if_neg nle, hh, if_neg (by decide), if_pos (zq_inBt h6 (by decide)), zq_cl (by omega), s3, nI_1]
        exact i1
      · simp only [md_farOf_L10, zq_letP]
        rw [if_neg nle, if_pos i64, ci, ht i (by omega), if_neg (by rw [zl]; exact h), if_pos n1, o1, nI_1]
        exact i2
/-! person: boards to come -/
theorem kB_1 {w q : Nat} : kB W w q ≤ 1 ∨ kB W w q = 1000000 := by
  unfold kB
  repeat' split
  all_goals first | exact .inr rfl | exact .inl (by omega)
theorem kB_0 {w q : Nat} : kB W w q = 0 ↔ (w ≤ W (45 + 3 * q) ∧ q ≠ W 10) := by
  unfold kB
  by_cases h : q = W 10
  · rw [if_pos h]; exact ⟨fun e => by omega, fun e => absurd h e.2⟩
  · rw [if_neg h]
    by_cases h2 : W (45 + 3 * q) < w
    · rw [if_pos h2]
      refine ⟨fun e => ?_, fun e => by omega⟩
      split at e <;> omega
    · rw [if_neg h2]; exact ⟨fun _ => ⟨by omega, h⟩, fun _ => rfl⟩
theorem kB_F {w q : Nat} : kB W w q < 1000000 ↔ (w ≤ W (45 + 3 * q) + 3 ∧ q ≠ W 10) := by
  unfold kB
  by_cases h : q = W 10
  · rw [if_pos h]; exact ⟨fun e => by omega, fun e => absurd h e.2⟩
  · rw [if_neg h]
    by_cases h2 : W (45 + 3 * q) < w
    · rw [if_pos h2]
      by_cases h3 : W (45 + 3 * q) + 3 < w
      · rw [if_pos h3]; exact ⟨fun e => by omega, fun e => by omega⟩
      · rw [if_neg h3]; exact ⟨fun _ => ⟨by omega, h⟩, fun _ => by decide⟩
    · rw [if_neg h2]; exact ⟨fun _ => ⟨by omega, h⟩, fun _ => by decide⟩
theorem bo_base {κ tl : Nat → Nat} {f : Nat} (h1 : ∀ q, q < 64 → κ q ≤ 1 ∨ κ q = 1000000) (h : tlF κ f tl) {q : Nat} (hq : q < 64) : (∃ n, flp (fun q => q = f) (fun q => κ q = 0) n q) ↔ tl q ≤ 0 := by
  constructor
  · rintro ⟨n, hn⟩
    revert q
    induction n with
    | zero => intro q hq hn; have hn : q = f := hn; rw [hn, h.1.1]; exact Nat.le_refl _
    | succ n ih =>
      intro q hq hn
      rcases hn with hn | ⟨hk, d, d1, d2, d3⟩
      · exact ih hq hn
      · have a := ih d1 d3
        have := tlF_step h d1 hq d2
        omega
  · intro hl
    obtain ⟨n, hn⟩ := h.1.2.2 q hq (by omega)
    refine ⟨n, ?_⟩
    have e0 : tl q = 0 := by omega
    rw [e0] at hn
    clear hl e0
    revert q
    induction n with
    | zero => intro q hq hn; exact hn.1
    | succ n ih =>
      intro q hq hn
      obtain ⟨d, u, d1, d2, d3, hk, e⟩ := hn
      obtain rfl : u = 0 := by omega
      exact .inr ⟨by omega, d, d1, d2, ih d1 d3⟩
theorem bo_step {κ tl : Nat → Nat} {f k : Nat} (h1 : ∀ q, q < 64 → κ q ≤ 1 ∨ κ q = 1000000) (h : tlF κ f tl) (hk : k < 100) {A : Nat → Prop} (hA : ∀ q, q < 64 → (A q ↔ tl q ≤ k ∨ (κ q < 1000000 ∧ ∃ d, d < 64 ∧ aj d q = true ∧ tl d ≤ k))) {q : Nat} (hq : q < 64) : (∃ n, flp A (fun q => κ q = 0) n q) ↔ tl q ≤ k + 1 := by
  constructor
  · rintro ⟨n, hn⟩
    revert q
    induction n with
    | zero =>
      intro q hq hn
      rcases (hA q hq).mp hn with e | ⟨e, d, d1, d2, d3⟩
      · omega
      · have := tlF_step h d1 hq d2
        have := h1 q hq
        omega
    | succ n ih =>
      intro q hq hn
      rcases hn with hn | ⟨hk, d, d1, d2, d3⟩
      · exact ih hq hn
      · have a := ih d1 d3
        have := tlF_step h d1 hq d2
        omega
  · intro hl
    obtain ⟨n, hn⟩ := h.1.2.2 q hq (by omega)
    refine ⟨n, ?_⟩
    revert hn hl
    generalize tl q = t
    revert q t
    induction n with
    | zero =>
      intro q hq t hl hn
      refine (hA q hq).mpr (.inl ?_)
      rw [hn.1, h.1.1]
      exact Nat.zero_le _
    | succ n ih =>
      intro q hq t hl hn
      obtain ⟨d, u, d1, d2, d3, hk2, e⟩ := hn
      have h1q := h1 q hq
      by_cases e0 : κ q = 0
      · exact .inr ⟨e0, d, d1, d2, ih d1 u (by omega) d3⟩
      · have := tlF_min h n d u d1 d3
        have a : flp A (fun q => κ q = 0) 0 q := (hA q hq).mpr (.inr ⟨hk2, d, d1, d2, by omega⟩)
        have := fl_mono (n + 1) 0 a
        rwa [Nat.zero_add] at this
theorem bbt_loop (hN : 100 ≤ N) {a : Nat} {κ tl : Nat → Nat} {f ho bo : Nat} {p1 : Int32} {x1 fr wb : Int64} (s7 : sk_c s a 7 = nI bo) (hbo : bo ≤ 9) (hho : ho < 64) (h1 : ∀ q, q < 64 → κ q ≤ 1 ∨ κ q = 1000000) (h : tlF κ f tl) (hF : ∀ q, q < 64 → (hb fr q = true ↔ κ q = 0)) (hW : ∀ q, q < 64 → (hb wb q = true ↔ κ q < 1000000)) : ∀ (r k fuel : Nat) (v : Int64), k + r = bo + 1 → r < fuel → (∀ q, q < 64 → (hb v q = true ↔ tl q ≤ k)) → k ≤ lbn tl ho 64 → x8_boardsToCome_L69 N a (fun q19 x20 x21 x22 x23 x24 x25 x26 => (some (q19, (-1)))) fuel s p1 x1 (sh_beside (1 <<< (Int32.toInt64 (nI ho) &&& 63))) fr wb v (nI k) = some (s, if lbn tl ho 64 ≤ bo then nI (lbn tl ho 64) else -1) := by
  have hb1 := lbn_b tl ho 64
  intro r
  induction r with
  | zero =>
    intro k fuel v g1 g2 hv hk
    obtain ⟨fuel, rfl⟩ : ∃ q, fuel = q + 1 := ⟨fuel - 1, by omega⟩
    simp only [x8_boardsToCome_L69]
    rw [s7, if_pos (by rw [zq_lt (by omega) (by omega)]; omega), if_neg (by omega)]
  | succ r ih =>
    intro k fuel v g1 g2 hv hk
    obtain ⟨fuel, rfl⟩ : ∃ q, fuel = q + 1 := ⟨fuel - 1, by omega⟩
    have ai : ∀ q, q < 64 → (hb (sh_beside (1 <<< (Int32.toInt64 (nI ho) &&& 63))) q = true ↔ aj ho q = true) := fun q hq => by
      rw [hb_bes _ hq]
      refine ⟨fun ⟨d, d1, d2, d3⟩ => ?_, fun e => ⟨ho, hho, e, by rw [hb_one hho]; exact decide_eq_true rfl⟩⟩
      rw [hb_one hho, decide_eq_true_eq] at d3
      rw [← d3]; exact d2
    simp only [x8_boardsToCome_L69, zq_letP]
    rw [s7, if_neg (by rw [zq_lt (by omega) (by omega)]; omega)]
    by_cases e : v &&& sh_beside (1 <<< (Int32.toInt64 (nI ho) &&& 63)) = 0
    · have hlb : ¬ lbn tl ho 64 ≤ k := fun hle => by
        rcases lbn_ex tl ho 64 with g | ⟨d, d1, d2, d3⟩
        · omega
        · have := hb_and v (sh_beside (1 <<< (Int32.toInt64 (nI ho) &&& 63))) d
          rw [e, hb_0, (hv d d1).mpr (by omega), (ai d d1).mpr d2] at this
          cases this
      obtain ⟨u, u1, u2⟩ := fd_ok (N := N) (s := s) hN (A := fun q => tl q ≤ k ∨ (κ q < 1000000 ∧ ∃ d, d < 64 ∧ aj d q = true ∧ tl d ≤ k)) (p0 := v ||| ((sh_beside v) &&& wb)) (fun q hq => by
        rw [hb_or, hb_and, Bool.or_eq_true, Bool.and_eq_true, hb_bes v hq, hv q hq, hW q hq]
        refine or_congr Iff.rfl ⟨fun ⟨⟨d, d1, d2, d3⟩, e⟩ => ⟨e, d, d1, d2, (hv d d1).mp d3⟩, fun ⟨e, d, d1, d2, d3⟩ => ⟨⟨d, d1, d2, (hv d d1).mpr d3⟩, e⟩⟩) hF
      rw [if_pos (by rw [lg_0]; exact e), u1]
      simp only [zq_bindP]
      rw [nI_1]
      exact ih (k + 1) fuel u (by omega) (by omega) (fun q hq => (u2 q hq).trans (bo_step h1 h (by omega) (fun q _ => Iff.rfl) hq)) (by omega)
    · have hlb : lbn tl ho 64 ≤ k := by
        have ex : ∃ q, q < 64 ∧ hb (v &&& sh_beside (1 <<< (Int32.toInt64 (nI ho) &&& 63))) q = true := by
          refine Classical.byContradiction (fun hn => e (hb_ext (fun q hq => ?_)))
          rw [hb_0]
          cases hx : hb (v &&& sh_beside (1 <<< (Int32.toInt64 (nI ho) &&& 63))) q with
          | false => rfl
          | true => exact absurd ⟨q, hq, hx⟩ hn
        obtain ⟨q, hq, hx⟩ := ex
        rw [hb_and, Bool.and_eq_true, hv q hq, ai q hq] at hx
        have := lbn_le tl ho 64 q hq hx.2
        omega
      have ek : lbn tl ho 64 = k := by omega
      rw [if_neg (by rw [lg_0]; exact e), ek, if_pos (by omega)]
theorem bw_num : ∀ w, w < 10 → ∀ b, b < 10 → ((nI b < nI w - 3) ↔ b + 3 < w) := by decide +kernel
theorem bc_cls (hN : 100 ≤ N) (R : R_now X s c0 W sd m) (Rc : rwd c W sd m) {p : Nat} (hp : p < W 12) {tl : Nat → Nat} (h : tlF (kB W (W (237 + 2 * p))) (W (238 + 2 * p)) tl) : x8_boardsToCome N s (X + 16) (nI p) = some (s, if lbn tl (W 10) 64 ≤ W 11 then nI (lbn tl (W 10) 64) else -1) := by
  obtain ⟨h6, s2, s3, w1, w9, h64, o0, o1, n0, n1⟩ := pw_R R Rc hp
  have hw := Rc.2.1
  have h10 : W 10 ≤ 63 := hw.1.2.2.2.2.2.2.2.2.2.2.1
  have w11 := hw.1.2.2.2.2.2.2.2.2.2.2.2.1
  have s5 : sk_c s (X + 16) 5 = nI (W 10) := R.2.2.1.2.2.2.2.2.1.1
  have s7 : sk_c s (X + 16) 7 = nI (W 11) := R.2.2.1.2.2.2.2.2.1.2.2
  obtain ⟨v, b1, b2⟩ := be_R (N := N) hN R (w := W (237 + 2 * p)) (by omega)
  obtain ⟨v', b3, b4⟩ := be_ok (N := N) hN (R_l8 R) (nI (W (237 + 2 * p)) - 3)
  have ho : ∀ q, q < 64 → hb ((1 <<< (Int32.toInt64 (nI (W 10)) &&& 63)) ^^^ (-1)) q = decide (q ≠ W 10) := fun q hq => by
    rw [hb_not _ hq, hb_one (by omega), ← decide_not]
  have hF : ∀ q, q < 64 → (hb (v &&& ((1 <<< (Int32.toInt64 (nI (W 10)) &&& 63)) ^^^ (-1))) q = true ↔ kB W (W (237 + 2 * p)) q = 0) := fun q hq => by
    rw [hb_and, b2 q hq, ho q hq, Bool.and_eq_true, decide_eq_true_eq, decide_eq_true_eq, kB_0]
  have hW : ∀ q, q < 64 → (hb (v' &&& ((1 <<< (Int32.toInt64 (nI (W 10)) &&& 63)) ^^^ (-1))) q = true ↔ kB W (W (237 + 2 * p)) q < 1000000) := fun q hq => by
    have hb9 := R_b9 R hq
    rw [hb_and, b4 q hq, ho q hq, Bool.and_eq_true, decide_eq_true_eq, decide_eq_true_eq, kB_F, R_be R hq, bw_num _ (by omega) _ (by omega)]
    exact and_congr ⟨fun e => by omega, fun e => by omega⟩ Iff.rfl
  obtain ⟨u, u1, u2⟩ := fd_ok (N := N) (s := s) hN (A := fun q => q = W (238 + 2 * p)) (p0 := 1 <<< (Int32.toInt64 (nI (W (238 + 2 * p))) &&& 63)) (fun q hq => by rw [hb_one h64, decide_eq_true_eq]) hF
  have lo := bbt_loop (N := N) (s := s) hN (a := X + 16) (p1 := nI p) (x1 := 1 <<< (Int32.toInt64 (nI (W 10)) &&& 63)) s7 w11 (ho := W 10) (by omega) (fun q _ => kB_1) h hF hW (W 11 + 1) 0 N u (by omega) (by omega) (fun q hq => (u2 q hq).trans (bo_base (fun q _ => kB_1) h hq)) (Nat.zero_le _)
  unfold x8_boardsToCome
  simp only [zq_letP]
  rw [if_pos (R_l8 R), if_pos (zq_inBt h6 (by decide)), zq_cl (by omega), s2, s5, b1]
  simp only [zq_bindP]
  rw [s2, b3]
  simp only [zq_bindP]
  rw [s3, u1]
  simp only [zq_bindP]
  exact lo
theorem bo_ref (hN : 2000000000 ≤ N) (R : R_now X s c0 W sd m) (Rc : rwd c W sd m) {p : Nat} (hp : p < W 12) : ∃ c' tl, md_boardedOf N c (nI p) = some (c', if lbn tl (W 10) 64 ≤ W 11 then nI (lbn tl (W 10) 64) else -1) ∧ (∀ a, a ≠ 12 → c' a = c a) ∧ tlF (kB W (W (237 + 2 * p))) (W (238 + 2 * p)) tl := by
  obtain ⟨h6, s2, s3, w1, w9, h64, o0, o1, n0, n1⟩ := pw_R R Rc hp
  have hw := Rc.2.1
  have h10 : W 10 ≤ 63 := hw.1.2.2.2.2.2.2.2.2.2.2.1
  have w11 := hw.1.2.2.2.2.2.2.2.2.2.2.2.1
  obtain ⟨c2, tl, q1, q2, q3, q4⟩ := lt_ok (N := N) (c := c) hN h64 (kB_st Rc (w := W (237 + 2 * p)) w9)
  have Rc2 : rwd c2 W sd m := rwd_k Rc (q2 1 (by decide))
  have c10 : c2 1 10 = nI (W 10) := wv_n Rc2.1 (by decide) (by decide)
  have c11 : c2 1 11 = nI (W 11) := wv_n Rc2.1 (by decide) (by decide)
  have lb := lb_ok (N := N) (by omega) q3 q4.1.2.1 (q := W 10) (by omega)
  have b1 := lbn_b tl (W 10) 64
  refine ⟨c2, tl, ?_, q2, q4⟩
  unfold md_boardedOf
  rw [if_pos n1, if_pos n0, o0, o1, q1]
  simp only [zq_bindP]
  rw [c10, lb]
  simp only [zq_bindP]
  have zl : (nI (lbn tl (W 10) 64) ≤ nI (W 11)) = (lbn tl (W 10) 64 ≤ W 11) := zq_le (by omega) (by omega)
  rw [c11]
  by_cases e : lbn tl (W 10) 64 ≤ W 11
  · rw [if_pos e, if_pos (by rw [zl]; exact e)]
  · rw [if_neg e, if_neg (by rw [zl]; exact e)]
set_option maxRecDepth 20000 in
theorem sm_person_ok (hN : 2000000000 ≤ N) : sm_person X N (RR X) := by
  intro j s c hj ⟨_, Z, W, sd, m, R, Rw⟩ p1 p2
  have R0 := rwd_0 R
  rcases personC (N := N) R.1 R0 p1 with ⟨p, hp, hp6, rfl, m1, m2⟩ | ⟨m1, m2⟩
  · obtain ⟨h6, s2, s3, w1, w9, h64, o0, o1, n0, n1⟩ := pw_R R.1 R0 hp
    have ip : ky_inB (nI p) 6 = true := zq_inBt h6 (by decide)
    rcases rngC 0 3 (by decide) (by decide) p2 with ⟨k, _, hk, rfl, hin⟩ | ⟨hin, hout⟩
    · have hin' : md_in (nI k) 0 3 = 1 := hin
      have RF := RR_siz hj Z (s' := s) ⟨rfl, rfl, rfl⟩ (RA_c R ceq_0) Rw
      have : k = 0 ∨ k = 1 ∨ k = 2 ∨ k = 3 := by omega
      rcases this with rfl | rfl | rfl | rfl
      · refine ⟨s, bk_w c 0 0 0, .inl (some (.int (nI (W (237 + 2 * p))))), nI (W (237 + 2 * p)), ?_, ?_, .inl ⟨rfl, bk_w_same _ _ _ _⟩, RF⟩
        · have s2' : sk_c s (X + 18) p = nI (W (237 + 2 * p)) := s2
          unfold x11_person
          rw [if_pos R.1.1, m1]
          simp only [zq_bindP]
          rw [if_neg (by decide), if_pos (by decide), if_pos ip, zq_cl (by omega), s2']
        · have z2 : ((2 : Int32) ≤ nI 0) = False := eq_false (by decide)
          have n0' : ky_inB ((237 + 2 * nI p) + nI 0) 2247 = true := n0
          have o0' : md_ofPerson_r (bk_w c 0 0 0) (nI p) (nI 0) = nI (W (237 + 2 * p)) := o0
          simp only [md_person, zq_letP, m2, th_r, th_c0, hin', d10, d00, true_or, ↓reduceIte, z2, n0', o0']
      · refine ⟨s, bk_w c 0 0 0, .inl (some (.int (nI (W (238 + 2 * p))))), nI (W (238 + 2 * p)), ?_, ?_, .inl ⟨rfl, bk_w_same _ _ _ _⟩, RF⟩
        · have s3' : sk_c s (X + 19) p = nI (W (238 + 2 * p)) := s3
          unfold x11_person
          rw [if_pos R.1.1, m1]
          simp only [zq_bindP]
          rw [if_neg (by decide), if_neg (by decide), if_pos (by decide), if_pos ip, zq_cl (by omega), s3']
        · have z2 : ((2 : Int32) ≤ nI 1) = False := eq_false (by decide)
          have n1' : ky_inB ((237 + 2 * nI p) + nI 1) 2247 = true := n1
          have o1' : md_ofPerson_r (bk_w c 0 0 0) (nI p) (nI 1) = nI (W (238 + 2 * p)) := o1
          simp only [md_person, zq_letP, m2, th_r, th_c0, hin', d10, d00, true_or, ↓reduceIte, z2, n1', o1']
      · obtain ⟨c2, tl, q1, q2, q3⟩ := bo_ref (N := N) hN R.1 R0 hp
        have cl := bc_cls (N := N) (by omega) R.1 R0 hp q3
        refine ⟨s, c2, .inl (some (.int (if lbn tl (W 10) 64 ≤ W 11 then nI (lbn tl (W 10) 64) else -1))), (if lbn tl (W 10) 64 ≤ W 11 then nI (lbn tl (W 10) 64) else -1), ?_, ?_, .inl ⟨rfl, ?_⟩, RR_siz hj Z (s' := s) ⟨rfl, rfl, rfl⟩ (RA_c R (ceq_12 q2)) Rw⟩
        · unfold x11_person
          rw [if_pos R.1.1, m1]
          simp only [zq_bindP]
          rw [if_neg (by decide), if_neg (by decide), if_neg (by decide), if_pos (by decide), cl]
          rfl
        · have z2 : ((2 : Int32) ≤ nI 2) = True := eq_true (by decide)
          have z3 : (nI 2 = (2 : Int32)) = True := eq_true rfl
          simp only [md_person, zq_letP, m2, th_r, th_c0, hin', d10, d00, true_or, ↓reduceIte, z2, z3, q1, zq_bindP]
        · rw [q2 0 (by decide), bk_w_same]
      · obtain ⟨c2, tl, q1, q2, q3, q4⟩ := lws_ok (N := N) hN R.1 R0 hp (p2 := 0) (z := 0) (.inl ⟨rfl, rfl⟩)
        obtain ⟨u, u1, u2⟩ := rd_cls (N := N) (by omega) R.1 R0 hp (p2 := 0) (z := 0) (.inl ⟨rfl, rfl⟩) q4
        have Rc2 : rwd c2 W sd m := rwd_k R0 (q2 1 (by decide))
        obtain ⟨x, a1, a2⟩ := fa_loop (N := N) R.1 Rc2 hp u2 q3 q4.1.2.1 (kC := fun q6 x7 x8 x9 x10 => (some (q6, x9))) (kR := fun q6 x7 x8 x9 => (some (q6, x8))) 64 0 N N 0 (by omega) (by omega) (by omega)
        refine ⟨s, c2, .inl (some (.int x)), x, ?_, ?_, .inl ⟨rfl, ?_⟩, RR_siz hj Z (s' := s) ⟨rfl, rfl, rfl⟩ (RA_c R (ceq_12 q2)) Rw⟩
        · have cl : x8_farthest N s (X + 16) (nI p) = some (s, x) := by
            unfold x8_farthest
            rw [if_pos (R_l8 R.1), u1]
            exact a1
          unfold x11_person
          rw [if_pos R.1.1, m1]
          simp only [zq_bindP]
          rw [if_neg (by decide), if_neg (by decide), if_neg (by decide), if_neg (by decide), if_pos (by decide), cl]
          rfl
        · have z2 : ((2 : Int32) ≤ nI 3) = True := eq_true (by decide)
          have z3 : (nI 3 = (2 : Int32)) = False := eq_false (by decide)
          have fr : md_farOf N (bk_w c 0 0 0) (nI p) = some (c2, x) := by
            unfold md_farOf
            rw [q1]
            exact a2
          simp only [md_person, zq_letP, m2, th_r, th_c0, hin', d10, d00, true_or, ↓reduceIte, z2, z3, fr, zq_bindP]
        · rw [q2 0 (by decide), bk_w_same]
    · have hin' : md_in p2 0 3 = 0 := hin
      have ne : ∀ i : Nat, i ≤ 3 → ¬ p2 = nI i := fun i hi q => by
        subst q
        have : md_in (nI i) (nI 0) (nI 3) = 1 := by
          unfold md_in
          rw [if_neg (by rw [zq_lt (by omega) (by decide)]; omega), if_neg (by rw [zq_lt (by decide) (by omega)]; omega)]
        rw [this] at hin
        exact absurd hin (by decide)
      refine ⟨sk_rs s 6, bk_w (bk_w c 0 0 0) 0 0 2, .inr "java/util/NoSuchElementException", 0, ?_, ?_, .inr (.inr ⟨rfl, bk_w_same _ _ _ _⟩), RR_thr hj Z R Rw (thr_ceq 2)⟩
      · unfold x11_person
        rw [if_pos R.1.1, m1]
        simp only [zq_bindP]
        rw [if_neg (by decide), if_neg (show ¬ p2 = 0 from ne 0 (by decide)), if_neg (show ¬ p2 = 1 from ne 1 (by decide)), if_neg (show ¬ p2 = 2 from ne 2 (by decide)), if_neg (show ¬ p2 = 3 from ne 3 (by decide))]
      · simp only [md_person, zq_letP, m2, th_r, th_c0, th_c1, hin', d10, d00, d11, true_or, ↓reduceIte]
  · refine ⟨sk_rs s 6, bk_w (bk_w c 0 0 0) 0 0 1, .inr "java/lang/IndexOutOfBoundsException", 0, ?_, ?_, .inr (.inl ⟨rfl, bk_w_same _ _ _ _⟩), RR_thr hj Z R Rw (thr_ceq 1)⟩
    · unfold x11_person
      rw [if_pos R.1.1, m1]
      simp only [zq_bindP]
      rw [if_pos trivial]
    · simp only [md_person, zq_letP, m2, th_r, th_c1, d10, d11, or_true, ↓reduceIte]
end
