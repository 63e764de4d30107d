/-! A LINE OF THE LAW, by both readers -/
def mdL (N : Nat) (x1 κ : Int32) (c : Nat → Nat → Int32) : Option ((Nat → Nat → Int32) × Int32) := (if ky_inB x1 2247 = true then (ky_let (bk_w c 1 (Int32.toNatClampNeg x1) κ) (fun q65 => (if 0 ≤ (q65 1 (Int32.toNatClampNeg x1)) then ((md_number N q65 0 9).bind (fun zz => (fun q68 x69 => (if ky_inB (x1 + 1) 2247 = true then (ky_let (bk_w q68 1 (Int32.toNatClampNeg (x1 + 1)) x69) (fun q73 => (if 0 ≤ (q73 1 (Int32.toNatClampNeg (x1 + 1))) then (ky_let (q73 0 16) (fun x75 => (if ky_inB (x1 + 2) 2247 = true then (ky_let (bk_w q73 1 (Int32.toNatClampNeg (x1 + 2)) x75) (fun q78 => (ky_let (bk_w q78 0 13 0) (fun q80 => ((md_passes N q80 ([105, 102] : List Int32)).bind (fun zz => (fun q83 x84 => (if x84 = 0 then (ky_let (q83 0 16) (fun x87 => (if ky_inB (x1 + 3) 2247 = true then (ky_let (bk_w q83 1 (Int32.toNatClampNeg (x1 + 3)) x87) (fun q90 => (some (q90, 1)))) else none))) else ((md_readCondT N q83).bind (fun zz => (fun q92 x93 => (if x93 = 0 then (some (q92, 0)) else (ky_let (q92 0 16) (fun x96 => (if ky_inB (x1 + 3) 2247 = true then (ky_let (bk_w q92 1 (Int32.toNatClampNeg (x1 + 3)) x96) (fun q99 => (some (q99, 1)))) else none))))) zz.1 zz.2)))) zz.1 zz.2)))))) else none))) else (some (q73, 0))))) else none)) zz.1 zz.2)) else (some (q65, 0))))) else none)
def LL : List (List Int32) := [[117, 112], [100, 111, 119, 110], [115, 116, 105, 114], [115, 101, 116, 116, 108, 101]]
theorem LL_32 : ∀ w, w ∈ LL → ∀ i, i < w.length → st_ch (w.getD i 0) ≠ 32 := by decide
theorem LL_s : ∀ i, i < 4 → ∀ j, j < 4 → i ≠ j → ¬ ((LL.getD i []).length = (LL.getD j []).length ∧ ∀ k, k < (LL.getD i []).length → st_ch ((LL.getD i []).getD k 0) = st_ch ((LL.getD j []).getD k 0)) := by decide +kernel
theorem LL_l : ∀ j, j < 4 → (LL.getD j []).length < 1000 ∧ 2 ≤ (LL.getD j []).length := by decide
section
variable {N X q b p ln b' u a d l : Nat} {s0 s s' : sk_S} {v : Int32} {t : Nat → Int32} {c0 c c' c1 : Nat → Nat → Int32} {T T' : Nat → Int32} {e : Nat → Nat}
set_option maxRecDepth 20000 in
theorem lwc_0 {p1 : Int32} (h : ∀ j, j < 4 → md_isWord N c1 (LL.getD j []) = some (c1, if j = 0 then 1 else 0)) : md_readLawLine N c1 p1 = mdL N (1399 + 4 * p1) 0 c1 := by
  have f0 : md_isWord N c1 [117, 112] = some (c1, 1) := h 0 (by decide)
  clear h
  unfold md_readLawLine mdL
  simp only [f0, zq_bindP, zq_letP, d00, d10, ↓reduceIte]
set_option maxRecDepth 20000 in
theorem lwc_1 {p1 : Int32} (h : ∀ j, j < 4 → md_isWord N c1 (LL.getD j []) = some (c1, if j = 1 then 1 else 0)) : md_readLawLine N c1 p1 = mdL N (1399 + 4 * p1) 1 c1 := by
  have f0 : md_isWord N c1 [117, 112] = some (c1, 0) := h 0 (by decide)
  have f1 : md_isWord N c1 [100, 111, 119, 110] = some (c1, 1) := h 1 (by decide)
  clear h
  unfold md_readLawLine mdL
  simp only [f0, f1, zq_bindP, zq_letP, d00, d10, ↓reduceIte]
set_option maxRecDepth 20000 in
theorem lwc_2 {p1 : Int32} (h : ∀ j, j < 4 → md_isWord N c1 (LL.getD j []) = some (c1, if j = 2 then 1 else 0)) : md_readLawLine N c1 p1 = mdL N (1399 + 4 * p1) 2 c1 := by
  have f0 : md_isWord N c1 [117, 112] = some (c1, 0) := h 0 (by decide)
  have f1 : md_isWord N c1 [100, 111, 119, 110] = some (c1, 0) := h 1 (by decide)
  have f2 : md_isWord N c1 [115, 116, 105, 114] = some (c1, 1) := h 2 (by decide)
  clear h
  unfold md_readLawLine mdL
  simp only [f0, f1, f2, zq_bindP, zq_letP, d00, d10, ↓reduceIte]
set_option maxRecDepth 20000 in
theorem lwc_3 {p1 : Int32} (h : ∀ j, j < 4 → md_isWord N c1 (LL.getD j []) = some (c1, if j = 3 then 1 else 0)) : md_readLawLine N c1 p1 = mdL N (1399 + 4 * p1) 3 c1 := by
  have f0 : md_isWord N c1 [117, 112] = some (c1, 0) := h 0 (by decide)
  have f1 : md_isWord N c1 [100, 111, 119, 110] = some (c1, 0) := h 1 (by decide)
  have f2 : md_isWord N c1 [115, 116, 105, 114] = some (c1, 0) := h 2 (by decide)
  have f3 : md_isWord N c1 [115, 101, 116, 116, 108, 101] = some (c1, 1) := h 3 (by decide)
  clear h
  unfold md_readLawLine mdL
  simp only [f0, f1, f2, f3, zq_bindP, zq_letP, d00, d10, ↓reduceIte]
set_option maxRecDepth 20000 in
theorem lwc_4 {p1 : Int32} (h : ∀ j, j < 4 → md_isWord N c1 (LL.getD j []) = some (c1, 0)) : md_readLawLine N c1 p1 = mdL N (1399 + 4 * p1) (-1) c1 := by
  have f0 : md_isWord N c1 [117, 112] = some (c1, 0) := h 0 (by decide)
  have f1 : md_isWord N c1 [100, 111, 119, 110] = some (c1, 0) := h 1 (by decide)
  have f2 : md_isWord N c1 [115, 116, 105, 114] = some (c1, 0) := h 2 (by decide)
  have f3 : md_isWord N c1 [115, 101, 116, 116, 108, 101] = some (c1, 0) := h 3 (by decide)
  clear h
  unfold md_readLawLine mdL
  simp only [f0, f1, f2, f3, zq_bindP, zq_letP, d00, d10, ↓reduceIte]
theorem rf_step_cg {i : Nat} {st : List Nat} (h1 : T' (49 + 2 * i) = T (49 + 2 * i)) (h2 : T' (50 + 2 * i) = T (50 + 2 * i)) : rf_step T' e i st = rf_step T e i st := by
  unfold rf_step
  rw [h1, h2]
theorem rf_cg : ∀ (n i : Nat) (st : List Nat), (∀ k, 49 ≤ k → k < 49 + 2 * (i + n) → T' k = T k) → rf_run T' e n i st = rf_run T e n i st ∧ (rf_safe T e n i st → rf_safe T' e n i st)
  | 0, _, _, _ => ⟨rfl, fun h => h⟩
  | n + 1, i, st, h => by
    have e1 := h (49 + 2 * i) (by omega) (by omega)
    have e2 := h (50 + 2 * i) (by omega) (by omega)
    have es : rf_step T' e i st = rf_step T e i st := rf_step_cg e1 e2
    obtain ⟨a1, a2⟩ := rf_cg n (i + 1) (rf_step T e i st) (fun k h1 h2 => h k h1 (by omega))
    refine ⟨?_, fun hs => ⟨?_, ?_⟩⟩
    · show rf_run T' e n (i + 1) (rf_step T' e i st) = rf_run T e n (i + 1) (rf_step T e i st)
      rw [es, a1]
    · obtain ⟨k, k1, k2, k3, k4⟩ := hs.1
      exact ⟨k, k1, by rw [e1]; exact k2, fun h7 => by rw [e2]; exact k3 h7, k4⟩
    · rw [es]; exact a2 hs.2
theorem segV_cg {a a' : Nat} {f : (Nat → Nat) → Nat} (hc : ∀ k, 49 ≤ k → k < 49 + 2 * a' → T' k = T k) (h : segV T a a' f) : segV T' a a' f := by
  refine ⟨h.1, fun e he st => ?_⟩
  have l := h.1
  obtain ⟨h1, h2⟩ := h.2 e he st
  obtain ⟨r1, r2⟩ := rf_cg (e := e) (a' - a) a st (fun k g1 g2 => hc k g1 (by omega))
  exact ⟨r2 h1, by rw [r1]; exact h2⟩
/-- l lines of a law have been read -/
def LJ (X : Nat) (s0 : sk_S) (c0 : Nat → Nat → Int32) (l : Nat) (s : sk_S) (c : Nat → Nat → Int32) (p : Nat) (u a : Nat) (kd am : Nat → Nat) (hf : Nat → (Nat → Nat) → Bool) (st sa : Nat → Nat) : Prop :=
  (cfr (rdV X) s0 s ∧ rfr c0 c ∧ (∀ k, k < 549 → c 1 k = c0 1 k) ∧ sk_c s (X + 6) 6 = nI u ∧ sk_c s (X + 6) 5 = nI l ∧ c 0 16 = nI a) ∧ (u + 3 * l ≤ p ∧ a + 3 * l ≤ p ∧ st 0 = 0 ∧ st l = u ∧ sa l = a) ∧
  ∀ i, i < l → (kd i ≤ 3 ∧ am i ≤ 9) ∧ (sk_c s (X + 7) i = nI (kd i) ∧ sk_c s (X + 8) i = nI (am i) ∧ sk_c s (X + 9) (i + 1) = nI (st (i + 1)) ∧ st i ≤ st (i + 1) ∧ st (i + 1) ≤ u) ∧ (dT c (1 + 4 * i) = nI (kd i) ∧ dT c (2 + 4 * i) = nI (am i) ∧ dT c (3 + 4 * i) = nI (sa i) ∧ dT c (4 + 4 * i) = nI (sa (i + 1)) ∧ sa i ≤ sa (i + 1) ∧ sa (i + 1) ≤ a) ∧
    ((st i = st (i + 1) ∧ sa i = sa (i + 1) ∧ ∀ e, hf i e = true) ∨ (st i < st (i + 1) ∧ segC (sk_c s (X + 10)) (st i) (st (i + 1)) (hf i) 1 ∧ segV (dT c) (sa i) (sa (i + 1)) (fun e => if hf i e = true then 1 else 0)))
def QJ (X : Nat) (s0 : sk_S) (c0 : Nat → Nat → Int32) (t : Nat → Int32) (ln : Nat) (l : Nat) (S : sk_S) (C : Nat → Nat → Int32) : Prop :=
  ∃ s c p q b b' v u a kd am hf st sa, S = tS (X + 1) s q b v ∧ C = pq c p b' ∧ p ≤ ln ∧ rne isB t ln p = q ∧ LJ X s0 c0 l s c p u a kd am hf st sa
/-- one line more -/
theorem LJ_s {kd am : Nat → Nat} {hf : Nat → (Nat → Nat) → Bool} {st sa : Nat → Nat} (I : LJ X s0 c0 l s c p u a kd am hf st sa) {κ n u' a' p' : Nat} {g : (Nat → Nat) → Bool} {s' : sk_S} {c' : Nat → Nat → Int32} (hκ : κ ≤ 3) (hn : n ≤ 9) (hl : l < 12) (F : cfr (rdV X) s0 s') (F' : rfr c0 c') (w : ∀ k, k < 549 → c' 1 k = c0 1 k) (h6 : sk_c s' (X + 6) 6 = nI u') (h5 : sk_c s' (X + 6) 5 = nI (l + 1)) (h16 : c' 0 16 = nI a') (b1 : u' + 3 * (l + 1) ≤ p') (b2 : a' + 3 * (l + 1) ≤ p') (k7 : ∀ i, sk_c s' (X + 7) i = if i = l then nI κ else sk_c s (X + 7) i) (k8 : ∀ i, sk_c s' (X + 8) i = if i = l then nI n else sk_c s (X + 8) i) (k9 : ∀ i, sk_c s' (X + 9) i = if i = l + 1 then nI u' else sk_c s (X + 9) i) (k10 : ∀ i, i < u → sk_c s' (X + 10) i = sk_c s (X + 10) i) (uu : u ≤ u') (aa : a ≤ a') (T1 : dT c' (1 + 4 * l) = nI κ) (T2 : dT c' (2 + 4 * l) = nI n) (T3 : dT c' (3 + 4 * l) = nI a) (T4 : dT c' (4 + 4 * l) = nI a') (To : ∀ k, k < 1 + 4 * l ∨ (49 ≤ k ∧ k < 49 + 2 * a) → dT c' k = dT c k) (hg : (u = u' ∧ a = a' ∧ ∀ e, g e = true) ∨ (u < u' ∧ segC (sk_c s' (X + 10)) u u' g 1 ∧ segV (dT c') a a' (fun e => if g e = true then 1 else 0))) : LJ X s0 c0 (l + 1) s' c' p' u' a' (ndS kd l κ) (ndS am l n) (fun i => if i = l then g else hf i) (ndS st (l + 1) u') (ndS sa (l + 1) a') := by
  obtain ⟨⟨i1, i2, i3, i4, i5, i6⟩, ⟨j1, j2, j3, j4, j5⟩, j6⟩ := I
  refine ⟨⟨F, F', w, h6, h5, h16⟩, ⟨b1, b2, by rw [ndS_o (by omega)]; exact j3, ndS_s, ndS_s⟩, fun i hi => ?_⟩
  by_cases e : i = l
  · subst e
    rw [ndS_s, ndS_s, ndS_s, ndS_s, ndS_o (show i ≠ i + 1 by omega), ndS_o (show i ≠ i + 1 by omega), j4, j5, k7, if_pos rfl, k8, if_pos rfl, k9, if_pos rfl]
    refine ⟨⟨hκ, hn⟩, ⟨rfl, rfl, rfl, uu, Nat.le_refl _⟩, ⟨T1, T2, T3, T4, aa, Nat.le_refl _⟩, ?_⟩
    show (u = u' ∧ a = a' ∧ ∀ e, (if i = i then g else hf i) e = true) ∨ (u < u' ∧ segC (sk_c s' (X + 10)) u u' (if i = i then g else hf i) 1 ∧ segV (dT c') a a' (fun e => if (if i = i then g else hf i) e = true then 1 else 0))
    rw [if_pos rfl]
    exact hg
  · obtain ⟨⟨m1, m2⟩, ⟨m3, m4, m5, m6, m7⟩, ⟨m8, m9, m10, m11, m12, m13⟩, m14⟩ := j6 i (by omega)
    rw [ndS_o e, ndS_o e, ndS_o (show i ≠ l + 1 by omega), ndS_o (show i + 1 ≠ l + 1 by omega), ndS_o (show i ≠ l + 1 by omega), ndS_o (show i + 1 ≠ l + 1 by omega), k7, if_neg e, k8, if_neg e, k9, if_neg (by omega)]
    refine ⟨⟨m1, m2⟩, ⟨m3, m4, m5, m6, by omega⟩, ⟨by rw [To _ (.inl (by omega))]; exact m8, by rw [To _ (.inl (by omega))]; exact m9, by rw [To _ (.inl (by omega))]; exact m10, by rw [To _ (.inl (by omega))]; exact m11, m12, by omega⟩, ?_⟩
    show (st i = st (i + 1) ∧ sa i = sa (i + 1) ∧ ∀ e, (if i = l then g else hf i) e = true) ∨ (st i < st (i + 1) ∧ segC (sk_c s' (X + 10)) (st i) (st (i + 1)) (if i = l then g else hf i) 1 ∧ segV (dT c') (sa i) (sa (i + 1)) (fun e => if (if i = l then g else hf i) e = true then 1 else 0))
    rw [if_neg e]
    rcases m14 with h | ⟨h1, h2, h3⟩
    · exact .inl h
    · exact .inr ⟨h1, segC_cong (fun k hk => k10 k (by omega)) h2, segV_cg (fun k g1 g2 => To k (.inr ⟨g1, by omega⟩)) h3⟩
end
