/-! THE REFERENCE'S LAW: a line's rows by their meaning -/
theorem zq_letP {α β : Type} (v : α) (f : α → β) : ky_let v f = f v := Eq.trans rfl rfl
theorem zq_bindP {α β : Type} (v : α) (f : α → Option β) : (some v).bind f = f v := Eq.trans rfl rfl
def stk (f : Nat → Int32) : List Nat → Prop
  | [] => True
  | a :: r => f r.length = nI a ∧ stk f r
theorem stk_upd {f : Nat → Int32} {v : Int32} {n : Nat} : ∀ {st : List Nat}, st.length ≤ n → stk f st → stk (upd f n v) st := by
  intro st
  induction st with
  | nil => intro _ _; trivial
  | cons a r ih =>
    intro h1 h2
    simp only [List.length_cons] at h1
    exact ⟨by rw [pk_un (by omega)]; exact h2.1, ih (by omega) h2.2⟩
def ref_env (c : Nat → Nat → Int32) (e : Nat → Nat) (lg : Nat) : Prop := lg ≤ 1 ∧ c 9 lg = nI (e 1) ∧ c 9 (1 - lg) = nI (e 2) ∧ c 0 19 = nI (e 3) ∧ c 1 4 = nI (e 4) ∧ c 1 5 = nI (e 5) ∧ c 0 20 = nI (e 6)
theorem ref_fact {N : Nat} {c : Nat → Nat → Int32} {e : Nat → Nat} {lg k : Nat} {v : Int32} (E : ref_env c e lg) (hs : lw_sml e) (hk : k ≤ 6) : md_factOf N c (nI k) v (nI (e 0)) (nI lg) = some (c, nI (e k)) := by
  obtain ⟨h1, h2, h3, h4, h5, h6, h7⟩ := E
  have h8 := hs.2.2.2.2.2.2
  have : k = 0 ∨ k = 1 ∨ k = 2 ∨ k = 3 ∨ k = 4 ∨ k = 5 ∨ k = 6 := by omega
  unfold md_factOf
  rcases this with rfl | rfl | rfl | rfl | rfl | rfl | rfl
  · rw [if_pos (by decide)]
  · rw [if_neg (by decide), if_pos (by decide), if_pos (zq_inBt (by omega) (by decide)), zq_cl (by omega), h2]
  · have e1 : (1 : Int32) - nI lg = nI (1 - lg) := pk_sub (a := 1) h1
    rw [if_neg (by decide), if_neg (by decide), if_pos (by decide), e1, if_pos (zq_inBt (by omega) (by decide)), zq_cl (by omega), h3]
  · rw [if_neg (by decide), if_neg (by decide), if_neg (by decide), if_pos (by decide), h4]
  · rw [if_neg (by decide), if_neg (by decide), if_neg (by decide), if_neg (by decide), if_pos (by decide), h5]
  · rw [if_neg (by decide), if_neg (by decide), if_neg (by decide), if_neg (by decide), if_neg (by decide), if_pos (by decide), h6]
  · rw [if_neg (by decide), if_neg (by decide), if_neg (by decide), if_neg (by decide), if_neg (by decide), if_neg (by decide), if_pos (by decide), h7]
    have : e 6 = 0 ∨ e 6 = 1 := by omega
    rcases this with q | q
    · rw [q, if_pos (by decide)]; rfl
    · rw [q, if_neg (by decide)]; rfl
theorem ref_told {N : Nat} {c : Nat → Nat → Int32} {v p3 p4 : Int32} : md_factOf N c (nI 7) v p3 p4 = some (c, v) := by
  unfold md_factOf
  rw [if_neg (by decide), if_neg (by decide), if_neg (by decide), if_neg (by decide), if_neg (by decide), if_neg (by decide), if_neg (by decide)]
section
variable {N fuel : Nat} {k : (Nat → Nat → Int32) → Int32 → Int32 → Int32 → Int32 → Int32 → Int32 → Option ((Nat → Nat → Int32) × Int32)} {c : Nat → Nat → Int32} {p1 p2 p3 : Int32} {ln i b k1 : Nat}
theorem rf_q1 (ln : Nat) : nI (550 + 4 * ln) + 3 = nI (553 + 4 * ln) := by
  show nI _ + nI 3 = _
  rw [nI_add]; congr 1; omega
theorem rf_q6 (i : Nat) : (598 : Int32) + 2 * nI i = nI (598 + 2 * i) := by
  show nI 598 + nI 2 * nI i = _
  rw [pk_mul, nI_add]
theorem rf_end {p4 : Int32} (hln : ln < 12) (hb : c 1 (553 + 4 * ln) = nI b) (hb2 : b ≤ 399) : md_holdsLine_L23 N k (fuel + 1) c p1 p2 p3 p4 (nI (550 + 4 * ln)) (nI b) = k c p1 p2 p3 p4 (nI (550 + 4 * ln)) (nI b) := by
  have q2 : ky_inB (nI (553 + 4 * ln)) 2247 = true := zq_inBt (by omega) (by decide)
  have q3 : (nI (553 + 4 * ln)).toNatClampNeg = 553 + 4 * ln := zq_cl (by omega)
  have q5 : nI b ≤ nI b := by rw [zq_le (by omega) (by omega)]; exact Nat.le_refl _
  simp only [md_holdsLine_L23, rf_q1, q2, q3, hb, q5, ↓reduceIte]
set_option maxRecDepth 20000 in
set_option maxHeartbeats 4000000 in
theorem rf_push {v top : Nat} (hln : ln < 12) (hb : c 1 (553 + 4 * ln) = nI b) (hb2 : b ≤ 399) (hi : i < b) (hk : c 1 (598 + 2 * i) = nI k1) (h7 : k1 ≤ 7) (htop : top < 400) (hf : md_factOf N c (nI k1) (c 1 (599 + 2 * i)) p2 p3 = some (c, nI v)) : md_holdsLine_L23 N k (fuel + 1) c p1 p2 p3 (nI top) (nI (550 + 4 * ln)) (nI i) = md_holdsLine_L23 N k fuel (bk_w c 8 top (nI v)) p1 p2 p3 (nI (top + 1)) (nI (550 + 4 * ln)) (nI (i + 1)) := by
  have q2 : ky_inB (nI (553 + 4 * ln)) 2247 = true := zq_inBt (by omega) (by decide)
  have q3 : (nI (553 + 4 * ln)).toNatClampNeg = 553 + 4 * ln := zq_cl (by omega)
  have q5 : ¬ nI b ≤ nI i := by rw [zq_le (by omega) (by omega)]; omega
  have q7 : ky_inB (nI (598 + 2 * i)) 2247 = true := zq_inBt (by omega) (by decide)
  have q8 : (nI (598 + 2 * i)).toNatClampNeg = 598 + 2 * i := zq_cl (by omega)
  have q10 : ¬ (7 : Int32) < nI k1 := by show ¬ nI 7 < nI k1; rw [zq_lt (by decide) (by omega)]; omega
  have q11 : nI (598 + 2 * i) + 1 = nI (599 + 2 * i) := by rw [nI_1]; congr 1; omega
  have q12 : ky_inB (nI (599 + 2 * i)) 2247 = true := zq_inBt (by omega) (by decide)
  have q13 : (nI (599 + 2 * i)).toNatClampNeg = 599 + 2 * i := zq_cl (by omega)
  have q14 : ky_inB (nI top) 400 = true := zq_inBt (by omega) (by decide)
  have q15 : (nI top).toNatClampNeg = top := zq_cl (by omega)
  simp only [md_holdsLine_L23, rf_q1, q2, q3, hb, q5, rf_q6, q7, q8, hk, q10, q11, q12, q13, hf, zq_letP, zq_bindP, q14, q15, nI_1, ↓reduceIte]
set_option maxRecDepth 20000 in
set_option maxHeartbeats 4000000 in
theorem rf_not {a top : Nat} (hln : ln < 12) (hb : c 1 (553 + 4 * ln) = nI b) (hb2 : b ≤ 399) (hi : i < b) (hk : c 1 (598 + 2 * i) = nI 11) (htop : top < 400) (ha : a ≤ 1) (hc : c 8 top = nI a) : md_holdsLine_L23 N k (fuel + 1) c p1 p2 p3 (nI (top + 1)) (nI (550 + 4 * ln)) (nI i) = md_holdsLine_L23 N k fuel (bk_w c 8 top (nI (1 - a))) p1 p2 p3 (nI (top + 1)) (nI (550 + 4 * ln)) (nI (i + 1)) := by
  have q2 : ky_inB (nI (553 + 4 * ln)) 2247 = true := zq_inBt (by omega) (by decide)
  have q3 : (nI (553 + 4 * ln)).toNatClampNeg = 553 + 4 * ln := zq_cl (by omega)
  have q5 : ¬ nI b ≤ nI i := by rw [zq_le (by omega) (by omega)]; omega
  have q7 : ky_inB (nI (598 + 2 * i)) 2247 = true := zq_inBt (by omega) (by decide)
  have q8 : (nI (598 + 2 * i)).toNatClampNeg = 598 + 2 * i := zq_cl (by omega)
  have q10 : (7 : Int32) < nI 11 := by decide
  have q11 : nI 11 = (11 : Int32) := rfl
  have q14 : ky_inB (nI top) 400 = true := zq_inBt (by omega) (by decide)
  have q15 : (nI top).toNatClampNeg = top := zq_cl (by omega)
  have q16 : (1 : Int32) - nI a = nI (1 - a) := pk_sub (a := 1) ha
  have q10' : (7 : Int32) < 11 := by decide
  simp only [md_holdsLine_L23, rf_q1, q2, q3, hb, q5, rf_q6, q7, q8, hk, q10, q11, q10', nI_pred, q14, q15, hc, q16, zq_letP, nI_1, ↓reduceIte]
def rf_v (k1 a b1 : Nat) : Nat := if k1 = 8 then a + b1 else if k1 = 9 then (if a < b1 then 1 else 0) else if k1 = 10 then (if b1 < a then 1 else 0) else if k1 = 12 then (if a + b1 = 2 then 1 else 0) else (if 0 < a + b1 then 1 else 0)
set_option maxRecDepth 20000 in
set_option maxHeartbeats 4000000 in
theorem rf_bin {a b1 top : Nat} (hln : ln < 12) (hb : c 1 (553 + 4 * ln) = nI b) (hb2 : b ≤ 399) (hi : i < b) (hk : c 1 (598 + 2 * i) = nI k1) (hk1 : k1 = 8 ∨ k1 = 9 ∨ k1 = 10 ∨ k1 = 12 ∨ k1 = 13) (htop : top + 1 < 400) (ha : a ≤ 1000000) (hb1 : b1 ≤ 1000000) (hc : c 8 top = nI a) (hc1 : c 8 (top + 1) = nI b1) : md_holdsLine_L23 N k (fuel + 1) c p1 p2 p3 (nI (top + 2)) (nI (550 + 4 * ln)) (nI i) = md_holdsLine_L23 N k fuel (bk_w c 8 top (nI (rf_v k1 a b1))) p1 p2 p3 (nI (top + 1)) (nI (550 + 4 * ln)) (nI (i + 1)) := by
  have q2 : ky_inB (nI (553 + 4 * ln)) 2247 = true := zq_inBt (by omega) (by decide)
  have q3 : (nI (553 + 4 * ln)).toNatClampNeg = 553 + 4 * ln := zq_cl (by omega)
  have q5 : ¬ nI b ≤ nI i := by rw [zq_le (by omega) (by omega)]; omega
  have q7 : ky_inB (nI (598 + 2 * i)) 2247 = true := zq_inBt (by omega) (by decide)
  have q8 : (nI (598 + 2 * i)).toNatClampNeg = 598 + 2 * i := zq_cl (by omega)
  have q10 : (7 : Int32) < nI k1 := by show nI 7 < nI k1; rw [zq_lt (by decide) (by omega)]; omega
  have e11 : (nI k1 = (11 : Int32)) = (k1 = 11) := zq_eq (b := 11) (by omega) (by decide)
  have e8 : (nI k1 = (8 : Int32)) = (k1 = 8) := zq_eq (b := 8) (by omega) (by decide)
  have e9 : (nI k1 = (9 : Int32)) = (k1 = 9) := zq_eq (b := 9) (by omega) (by decide)
  have e10 : (nI k1 = (10 : Int32)) = (k1 = 10) := zq_eq (b := 10) (by omega) (by decide)
  have e12 : (nI k1 = (12 : Int32)) = (k1 = 12) := zq_eq (b := 12) (by omega) (by decide)
  have t1 : nI (top + 2) + (-1) = nI (top + 1) := pk_m1 (top + 1)
  have q14 : ky_inB (nI top) 400 = true := zq_inBt (by omega) (by decide)
  have q15 : (nI top).toNatClampNeg = top := zq_cl (by omega)
  have q16 : ky_inB (nI (top + 1)) 400 = true := zq_inBt (by omega) (by decide)
  have q17 : (nI (top + 1)).toNatClampNeg = top + 1 := zq_cl (by omega)
  have le1 : (nI b1 ≤ nI a) = (b1 ≤ a) := zq_le (by omega) (by omega)
  have le2 : (nI a ≤ nI b1) = (a ≤ b1) := zq_le (by omega) (by omega)
  have s2 : (nI (a + b1) = (2 : Int32)) = (a + b1 = 2) := zq_eq (b := 2) (by omega) (by decide)
  have s0 : (nI (a + b1) ≤ (0 : Int32)) = (a + b1 ≤ 0) := zq_le (b := 0) (by omega) (by decide)
  have d10 : ((1 : Int32) = 0) = False := eq_false (by decide)
  rcases hk1 with rfl | rfl | rfl | rfl | rfl
  · by_cases h : a + b1 ≤ 0
    · simp only [md_holdsLine_L23, rf_q1, q2, q3, hb, q5, rf_q6, q7, q8, hk, q10, e8, e9, e10, e11, e12, t1, nI_pred, q14, q15, q16, q17, hc, hc1, nI_add, s0, h, zq_letP, nI_1, ↓reduceIte, rf_v, Nat.reduceEqDiff, reduceCtorEq, Nat.succ_ne_self]
    · simp only [md_holdsLine_L23, rf_q1, q2, q3, hb, q5, rf_q6, q7, q8, hk, q10, e8, e9, e10, e11, e12, t1, nI_pred, q14, q15, q16, q17, hc, hc1, nI_add, s0, h, zq_letP, nI_1, ↓reduceIte, rf_v, Nat.reduceEqDiff]
  · by_cases h : a < b1
    · have h' : ¬ b1 ≤ a := by omega
      simp only [md_holdsLine_L23, rf_q1, q2, q3, hb, q5, rf_q6, q7, q8, hk, q10, e8, e9, e10, e11, e12, t1, nI_pred, q14, q15, q16, q17, hc, hc1, le1, h', h, d10, zq_letP, nI_1, ↓reduceIte, rf_v, Nat.reduceEqDiff]; rfl
    · have h' : b1 ≤ a := by omega
      simp only [md_holdsLine_L23, rf_q1, q2, q3, hb, q5, rf_q6, q7, q8, hk, q10, e8, e9, e10, e11, e12, t1, nI_pred, q14, q15, q16, q17, hc, hc1, le1, h', h, d10, zq_letP, nI_1, ↓reduceIte, rf_v, Nat.reduceEqDiff]; rfl
  · by_cases h : b1 < a
    · have h' : ¬ a ≤ b1 := by omega
      simp only [md_holdsLine_L23, rf_q1, q2, q3, hb, q5, rf_q6, q7, q8, hk, q10, e8, e9, e10, e11, e12, t1, nI_pred, q14, q15, q16, q17, hc, hc1, le2, h', h, d10, zq_letP, nI_1, ↓reduceIte, rf_v, Nat.reduceEqDiff]; rfl
    · have h' : a ≤ b1 := by omega
      simp only [md_holdsLine_L23, rf_q1, q2, q3, hb, q5, rf_q6, q7, q8, hk, q10, e8, e9, e10, e11, e12, t1, nI_pred, q14, q15, q16, q17, hc, hc1, le2, h', h, d10, zq_letP, nI_1, ↓reduceIte, rf_v, Nat.reduceEqDiff]; rfl
  · by_cases h : a + b1 = 2
    · simp only [md_holdsLine_L23, rf_q1, q2, q3, hb, q5, rf_q6, q7, q8, hk, q10, e8, e9, e10, e11, e12, t1, nI_pred, q14, q15, q16, q17, hc, hc1, nI_add, s2, h, d10, zq_letP, nI_1, ↓reduceIte, rf_v, Nat.reduceEqDiff]; rfl
    · simp only [md_holdsLine_L23, rf_q1, q2, q3, hb, q5, rf_q6, q7, q8, hk, q10, e8, e9, e10, e11, e12, t1, nI_pred, q14, q15, q16, q17, hc, hc1, nI_add, s2, h, d10, zq_letP, nI_1, ↓reduceIte, rf_v, Nat.reduceEqDiff]; rfl
  · by_cases h : a + b1 ≤ 0
    · have h' : ¬ 0 < a + b1 := by omega
      simp only [md_holdsLine_L23, rf_q1, q2, q3, hb, q5, rf_q6, q7, q8, hk, q10, e8, e9, e10, e11, e12, t1, nI_pred, q14, q15, q16, q17, hc, hc1, nI_add, s0, h, h', d10, zq_letP, nI_1, ↓reduceIte, rf_v, Nat.reduceEqDiff]; rfl
    · have h' : 0 < a + b1 := by omega
      simp only [md_holdsLine_L23, rf_q1, q2, q3, hb, q5, rf_q6, q7, q8, hk, q10, e8, e9, e10, e11, e12, t1, nI_pred, q14, q15, q16, q17, hc, hc1, nI_add, s0, h, h', d10, zq_letP, nI_1, ↓reduceIte, rf_v, Nat.reduceEqDiff]; rfl
end
theorem rf_loop {N : Nat} {k : (Nat → Nat → Int32) → Int32 → Int32 → Int32 → Int32 → Int32 → Int32 → Option ((Nat → Nat → Int32) × Int32)} {c0 : Nat → Nat → Int32} {e : Nat → Nat} {T : Nat → Int32} {lg ln b : Nat} {p1 : Int32} (E : ref_env c0 e lg) (hs : lw_sml e) (hT : ∀ j, c0 1 (549 + j) = T j) (hln : ln < 12) (hb : T (4 + 4 * ln) = nI b) (hb2 : b ≤ 399) :
    ∀ (n fuel i : Nat) (st : List Nat) (c : Nat → Nat → Int32), n < fuel → i + n = b → st.length + n ≤ 399 → stk (c 8) st → rf_safe T e n i st → (∀ q, q ≠ 8 → c q = c0 q) →
    ∃ c', md_holdsLine_L23 N k fuel c p1 (nI (e 0)) (nI lg) (nI st.length) (nI (550 + 4 * ln)) (nI i) = k c' p1 (nI (e 0)) (nI lg) (nI (rf_run T e n i st).length) (nI (550 + 4 * ln)) (nI b) ∧ stk (c' 8) (rf_run T e n i st) ∧ ∀ q, q ≠ 8 → c' q = c0 q := by
  intro n
  induction n with
  | zero =>
    intro fuel i st c hf hi hl hst hsafe hc
    obtain ⟨fuel, rfl⟩ : ∃ q, fuel = q + 1 := ⟨fuel - 1, by omega⟩
    have : i = b := by omega
    subst this
    refine ⟨c, rf_end hln ?_ hb2, hst, hc⟩
    rw [hc 1 (by decide), show 553 + 4 * ln = 549 + (4 + 4 * ln) by omega, hT, hb]
  | succ n ih =>
    intro fuel i st c hf hi hl hst hsafe hc
    obtain ⟨fuel, rfl⟩ : ∃ q, fuel = q + 1 := ⟨fuel - 1, by omega⟩
    obtain ⟨⟨k1, hk, hTk, hTv, hcase⟩, hrest⟩ := hsafe
    have hEc : ref_env c e lg := by
      unfold ref_env
      rw [hc 9 (by decide), hc 0 (by decide), hc 1 (by decide)]; exact E
    have hb' : c 1 (553 + 4 * ln) = nI b := by rw [hc 1 (by decide), show 553 + 4 * ln = 549 + (4 + 4 * ln) by omega, hT, hb]
    have hk' : c 1 (598 + 2 * i) = nI k1 := by rw [hc 1 (by decide), show 598 + 2 * i = 549 + (49 + 2 * i) by omega, hT, hTk]
    have hv' : c 1 (599 + 2 * i) = T (50 + 2 * i) := by rw [hc 1 (by decide), show 599 + 2 * i = 549 + (50 + 2 * i) by omega, hT]
    have stepk : (T (49 + 2 * i)).toNatClampNeg = k1 := by rw [hTk]; exact zq_cl (by omega)
    have next : ∀ (c2 : Nat → Nat → Int32) (st2 : List Nat), st2 = rf_step T e i st → st2.length + n ≤ 399 → stk (c2 8) st2 → (∀ q, q ≠ 8 → c2 q = c0 q) → ∃ c', md_holdsLine_L23 N k fuel c2 p1 (nI (e 0)) (nI lg) (nI st2.length) (nI (550 + 4 * ln)) (nI (i + 1)) = k c' p1 (nI (e 0)) (nI lg) (nI (rf_run T e (n + 1) i st).length) (nI (550 + 4 * ln)) (nI b) ∧ stk (c' 8) (rf_run T e (n + 1) i st) ∧ ∀ q, q ≠ 8 → c' q = c0 q := by
      intro c2 st2 e1 h1 h2 h3
      subst e1
      exact ih fuel (i + 1) _ c2 (by omega) (by omega) h1 h2 hrest h3
    have wr : ∀ (j : Nat) (v : Int32) q, q ≠ 8 → bk_w c 8 j v q = c0 q := fun j v q hq => by rw [bk_w_ne hq]; exact hc q hq
    rcases hcase with h7 | ⟨rfl, a, r, rfl, ha⟩ | ⟨h8, h11, a, b1, r, rfl, ha, hb1⟩
    · have hx : ∃ v : Nat, md_factOf N c (nI k1) (c 1 (599 + 2 * i)) (nI (e 0)) (nI lg) = some (c, nI v) ∧ rf_step T e i st = v :: st := by
        rw [hv']
        by_cases h6 : k1 ≤ 6
        · refine ⟨e k1, ref_fact hEc hs h6, ?_⟩
          simp only [rf_step, stepk]
          rw [if_pos h6]
        · have : k1 = 7 := by omega
          subst this
          obtain ⟨v, hv, hTv⟩ := hTv rfl
          refine ⟨v, by rw [hTv]; exact ref_told, ?_⟩
          simp only [rf_step, stepk]
          rw [if_neg (by decide), if_pos trivial, hTv, zq_cl (by omega)]
      obtain ⟨v, hv1, hv2⟩ := hx
      rw [rf_push hln hb' hb2 (by omega) hk' h7 (by omega) hv1]
      refine next _ (v :: st) hv2.symm (by simp only [List.length_cons]; omega) ⟨?_, ?_⟩ (wr _ _)
      · rw [bk_w_col, pk_us]
      · rw [bk_w_col]; exact stk_upd (Nat.le_refl _) hst
    · simp only [List.length_cons] at hl ⊢
      rw [rf_not hln hb' hb2 (by omega) hk' (by omega) ha hst.1]
      refine next _ ((1 - a) :: r) ?_ (by simp only [List.length_cons]; omega) ⟨?_, ?_⟩ (wr _ _)
      · simp only [rf_step, stepk]
        rw [if_neg (by decide), if_neg (by decide), if_pos trivial]
      · rw [bk_w_col, pk_us]
      · rw [bk_w_col]; exact stk_upd (Nat.le_refl _) hst.2
    · simp only [List.length_cons] at hl ⊢
      rw [rf_bin hln hb' hb2 (by omega) hk' (by omega) (by omega) ha hb1 hst.2.1 hst.1]
      refine next _ (rf_v k1 a b1 :: r) ?_ (by simp only [List.length_cons]; omega) ⟨?_, ?_⟩ (wr _ _)
      · simp only [rf_step, stepk]
        rw [if_neg (by omega), if_neg (by omega), if_neg h11]
        rfl
      · rw [bk_w_col, pk_us]
      · rw [bk_w_col]; exact stk_upd (Nat.le_refl _) hst.2.2
theorem rf_line {N : Nat} {c : Nat → Nat → Int32} {e : Nat → Nat} {T : Nat → Int32} {m : lwM} {lg n : Nat} (hN : 1000 ≤ N) (L : lwT T m) (hT : ∀ j, c 1 (549 + j) = T j) (E : ref_env c e lg) (hs : lw_sml e) (hn : n < m.1) :
    ∃ c', md_holdsLine N c (nI n) (nI (e 0)) (nI lg) = some (c', if m.2.2.2 n e = true then 1 else 0) ∧ ∀ q, q ≠ 8 → c' q = c q := by
  obtain ⟨h1, h2, h3⟩ := L
  obtain ⟨g1, g2, g3, g4, a, b, g5, g6, g7, g8, g9⟩ := h3 n hn
  have e1 : (550 : Int32) + 4 * nI n = nI (550 + 4 * n) := by
    show nI 550 + nI 4 * nI n = _
    rw [pk_mul, nI_add]
  have e2 : nI (550 + 4 * n) + 2 = nI (549 + (3 + 4 * n)) := by
    show nI _ + nI 2 = _
    rw [nI_add]; congr 1; omega
  unfold md_holdsLine
  simp only [zq_let]
  rw [e1, e2, if_pos (zq_inBt (by omega) (by decide)), zq_cl (by omega), hT, g7]
  have hsafe : rf_safe T e (b - a) a [] ∧ (rf_run T e (b - a) a [] = [if m.2.2.2 n e = true then 1 else 0] ∨ (rf_run T e (b - a) a [] = [] ∧ m.2.2.2 n e = true)) := by
    rcases g9 with ⟨q1, q2⟩ | q
    · rw [q1, Nat.sub_self]
      exact ⟨trivial, .inr ⟨rfl, q2 e⟩⟩
    · exact ⟨(q e hs).1, .inl (q e hs).2⟩
  obtain ⟨c', k1, k2, k3⟩ := rf_loop (N := N) (k := fun q5 x6 x7 x8 x9 x10 x11 => (if x9 = 0 then (some (q5, 1)) else (if (q5 8 0) = (1 : Int32) then (some (q5, 1)) else (some (q5, 0))))) (p1 := nI n) E hs hT (by omega : n < 12) g8 g6 (b - a) N a [] c (by omega) (by omega) (by simp only [List.length_nil]; omega) trivial hsafe.1 (fun _ _ => rfl)
  have k1' : md_holdsLine_L23 N (fun q5 x6 x7 x8 x9 x10 x11 => (if x9 = 0 then (some (q5, 1)) else (if (q5 8 0) = (1 : Int32) then (some (q5, 1)) else (some (q5, 0))))) N c (nI n) (nI (e 0)) (nI lg) 0 (nI (550 + 4 * n)) (nI a) = _ := k1
  rw [k1']
  refine ⟨c', ?_, k3⟩
  rcases hsafe.2 with q | ⟨q, q2⟩
  · rw [q] at k2 ⊢
    have := k2.1
    simp only [List.length_nil, List.length_cons] at this ⊢
    rw [if_neg (by decide), this]
    by_cases h : m.2.2.2 n e = true
    · rw [if_pos h, if_pos h, if_pos (by decide)]
    · rw [if_neg h, if_neg h, if_neg (by decide)]
  · rw [q]
    simp only [List.length_nil]
    rw [if_pos (by decide), if_pos q2]
theorem rf_sumL {N : Nat} {k : (Nat → Nat → Int32) → Int32 → Int32 → Int32 → Int32 → Int32 → Option ((Nat → Nat → Int32) × Int32)} {c0 : Nat → Nat → Int32} {e : Nat → Nat} {T : Nat → Int32} {m : lwM} {lg w : Nat} (hN : 1000 ≤ N) (h14 : c0 1 14 = 1) (L : lwT T m) (hT : ∀ j, c0 1 (549 + j) = T j) (E : ref_env c0 e lg) (hs : lw_sml e) (hw : w ≤ 3) :
    ∀ (r fuel n : Nat) (c : Nat → Nat → Int32), n + r = m.1 → r < fuel → (∀ q, q ≠ 8 → c q = c0 q) →
    ∃ c', md_sumOf_L6 N k fuel c (nI w) (nI (e 0)) (nI lg) (nI (lw_sum m w e n)) (nI n) = k c' (nI w) (nI (e 0)) (nI lg) (nI (lw_S m w e)) (nI m.1) ∧ ∀ q, q ≠ 8 → c' q = c0 q := by
  intro r
  have hL2 := L.2.1
  induction r with
  | zero =>
    intro fuel n c hn hf hc
    obtain ⟨fuel, rfl⟩ : ∃ q, fuel = q + 1 := ⟨fuel - 1, by omega⟩
    have : n = m.1 := by omega
    subst this
    simp only [md_sumOf_L6]
    rw [hc 1 (by decide), h14, if_pos rfl, hT 0, L.1, if_pos (by rw [zq_le (by omega) (by omega)]; omega)]
    exact ⟨c, rfl, hc⟩
  | succ r ih =>
    intro fuel n c hn hf hc
    obtain ⟨fuel, rfl⟩ : ∃ q, fuel = q + 1 := ⟨fuel - 1, by omega⟩
    obtain ⟨g1, g2, g3, g4, -⟩ := L.2.2 n (by omega)
    have e1 : (550 : Int32) + 4 * nI n = nI (549 + (1 + 4 * n)) := by
      show nI 550 + nI 4 * nI n = _
      rw [pk_mul, nI_add]; congr 1; omega
    have e2 : nI (549 + (1 + 4 * n)) + 1 = nI (549 + (2 + 4 * n)) := by
      rw [nI_1]; congr 1; omega
    simp only [md_sumOf_L6, zq_let]
    rw [hc 1 (by decide), h14, if_pos rfl, show c0 1 549 = T 0 from hT 0, L.1, if_neg (by rw [zq_le (by omega) (by omega)]; omega), e1, if_pos (zq_inBt (by omega) (by decide)), zq_cl (by omega), hT, g3]
    by_cases hk : m.2.1 n = w
    · rw [if_pos (by rw [hk])]
      have hEc : ref_env c e lg := by
        unfold ref_env
        rw [hc 9 (by decide), hc 0 (by decide), hc 1 (by decide)]; exact E
      obtain ⟨c', k1, k2⟩ := rf_line hN L (fun j => by rw [hc 1 (by decide)]; exact hT j) hEc hs (show n < m.1 by omega)
      rw [k1]
      simp only [zq_bind]
      have hc' : ∀ q, q ≠ 8 → c' q = c0 q := fun q hq => (k2 q hq).trans (hc q hq)
      by_cases hh : m.2.2.2 n e = true
      · rw [if_pos hh, if_neg (by decide), e2, if_pos (zq_inBt (by omega) (by decide)), zq_cl (by omega), hc' 1 (by decide), hT, g4, nI_add, nI_1]
        have : lw_sum m w e n + m.2.2.1 n = lw_sum m w e (n + 1) := by
          simp only [lw_sum]; rw [if_pos ⟨hk, hh⟩]
        rw [this]
        exact ih fuel (n + 1) c' (by omega) (by omega) hc'
      · rw [if_neg hh, if_pos rfl, nI_1]
        have : lw_sum m w e n = lw_sum m w e (n + 1) := by
          simp only [lw_sum]; rw [if_neg (fun q => hh q.2)]; rfl
        rw [this]
        exact ih fuel (n + 1) c' (by omega) (by omega) hc'
    · rw [if_neg (fun q => hk (zq_inj (by omega) (by omega) q)), nI_1]
      have : lw_sum m w e n = lw_sum m w e (n + 1) := by
        simp only [lw_sum]; rw [if_neg (fun q => hk q.1)]; rfl
      rw [this]
      exact ih fuel (n + 1) c (by omega) (by omega) hc
/-- the law in the reference: none, or a text that means m -/
def ref_law (c : Nat → Nat → Int32) (m : lwM) : Prop := (c 1 14 = 0 ∧ m.1 = 0) ∨ (c 1 14 = 1 ∧ lwT (fun k => c 1 (549 + k)) m)
theorem rf_sum {N : Nat} {c : Nat → Nat → Int32} {e : Nat → Nat} {m : lwM} {lg w : Nat} (hN : 1000 ≤ N) (L : ref_law c m) (E : ref_env c e lg) (hs : lw_sml e) (hw : w ≤ 3) :
    ∃ c', md_sumOf N c (nI w) (nI (e 0)) (nI lg) = some (c', nI (lw_S m w e)) ∧ ∀ q, q ≠ 8 → c' q = c q := by
  unfold md_sumOf
  rcases L with ⟨h1, h2⟩ | ⟨h1, h2⟩
  · obtain ⟨N', hN'⟩ : ∃ q, N = q + 1 := ⟨N - 1, by omega⟩
    have : lw_S m w e = 0 := by unfold lw_S; rw [h2]; rfl
    rw [this]
    refine ⟨c, ?_, fun _ _ => rfl⟩
    conv => lhs; arg 3; rw [hN']
    simp only [md_sumOf_L6]
    rw [h1, if_neg (by decide)]
    rfl
  · obtain ⟨c', k1, k2⟩ := rf_sumL (N := N) (k := fun q2 x3 x4 x5 x6 x7 => (some (q2, x6))) (w := w) hN h1 h2 (fun j => rfl) E hs hw m.1 N 0 c (by omega) (by have := h2.2.1; omega) (fun _ _ => rfl)
    exact ⟨c', k1, k2⟩
theorem lw_S_le {m : lwM} (hm : ∀ n, n < m.1 → m.2.2.1 n ≤ 9) (hL : m.1 ≤ 12) (w : Nat) (e : Nat → Nat) : lw_S m w e ≤ 108 := by
  have : ∀ n, n ≤ m.1 → lw_sum m w e n ≤ 9 * n := by
    intro n
    induction n with
    | zero => intro _; exact Nat.le_refl _
    | succ n ih =>
      intro h
      have h1 := ih (by omega)
      have h2 := hm n (by omega)
      simp only [lw_sum]
      split <;> omega
  have := this m.1 (Nat.le_refl _)
  unfold lw_S
  omega
theorem ref_law_le {c : Nat → Nat → Int32} {m : lwM} (L : ref_law c m) (w : Nat) (e : Nat → Nat) : lw_S m w e ≤ 108 := by
  rcases L with ⟨_, h⟩ | ⟨_, h⟩
  · exact lw_S_le (fun n hn => by omega) (by omega) w e
  · exact lw_S_le (fun n hn => (h.2.2 n hn).2.1) h.2.1 w e
