/-! A LINE OF THE BEACH, by both readers -/
/-- what reading touches in the class -/
def rdV (X a k : Nat) : Prop := X + 1 ≤ a ∧ a ≤ X + 11 ∧ a ≠ X + 2 ∧ ¬ (a = X + 1 ∧ k ≤ 1) ∧ ¬ (a = X + 9 ∧ k = 0)
/-- and in the reference, beside the world -/
def rfr (c0 c : Nat → Nat → Int32) : Prop := (∀ a, a ≠ 0 → a ≠ 1 → c a = c0 a) ∧ (∀ k, k ≠ 10 → k ≠ 12 → k ≠ 13 → k ≠ 16 → c 0 k = c0 0 k) ∧ ∀ k, 549 ≤ k → k < 1398 → c 1 k = c0 1 k
def bth (Fl Q : sk_S → (Nat → Nat → Int32) → Prop) (oc : Option (sk_S × Int32)) (orr : Option ((Nat → Nat → Int32) × Int32)) : Prop :=
  (∃ S c, oc = some (S, 0) ∧ orr = some (c, 0) ∧ Fl S c) ∨ ∃ S c, oc = some (S, 1) ∧ orr = some (c, 1) ∧ Q S c
/-- both stop at the same byte -/
def flB (X : Nat) (s0 : sk_S) (c0 : Nat → Nat → Int32) (S : sk_S) (c : Nat → Nat → Int32) : Prop := ∃ q, sk_c S (X + 1) 3 = nI q ∧ c 0 12 = nI q ∧ cfr (rdV X) s0 S ∧ rfr c0 c
def tkS (A : Nat) (s : sk_S) (l k n : Nat) : sk_S := sk_wc (sk_wc s (A + 2) (l * 5 + k) (nI n)) A 3 (nI (k + 1))
/-- the numbers of line l so far -/
def rowB (X : Nat) (s0 s : sk_S) (l k : Nat) (n : Nat → Nat) (s' : sk_S) : Prop :=
  (∀ j, j < l * 5 → sk_c s' (X + 5) j = sk_c s (X + 5) j) ∧ (∀ i, i < k → sk_c s' (X + 5) (l * 5 + i) = nI (n i)) ∧ sk_c s' (X + 4) = sk_c s (X + 4) ∧ sk_c s' (X + 3) 2 = nI l ∧ sk_c s' (X + 3) 3 = nI k ∧ sk_c s' (X + 3) 4 = sk_c s (X + 3) 4 ∧ cfr (rdV X) s0 s'
/-- what a line tells, W on -/
def lnW (κ : Nat) (n : Nat → Nat) (W : Nat → Nat) : Nat → Nat :=
  match κ with
  | 0 => ndS (ndS W 0 (n 0)) 1 (n 1)
  | 1 => ndS W 2 (n 0)
  | 2 => ndS W 4 (n 0)
  | 3 => ndS W 5 (n 0)
  | 4 => ndS W 8 (n 0)
  | 5 => ndS W 9 (n 0)
  | 6 => ndS (ndS (ndS (ndS W (17 + 4 * n 0) (n 1)) (18 + 4 * n 0) (n 2)) (19 + 4 * n 0) (n 3)) (20 + 4 * n 0) (n 4)
  | 7 => ndS W (45 + 3 * (8 * n 1 + n 0)) (n 2)
  | 8 => ndS W (46 + 3 * (8 * n 1 + n 0)) 1
  | 9 => ndS W (47 + 3 * (8 * n 1 + n 0)) 1
  | 10 => ndS W 10 (8 * n 1 + n 0)
  | 11 => ndS W 11 (n 0)
  | _ => ndS (ndS (ndS W (237 + 2 * W 12) (n 0)) (238 + 2 * W 12) (8 * n 2 + n 1)) 12 (W 12 + 1)
def lnV (κ : Nat) (n : Nat → Nat) (W : Nat → Nat) : Prop :=
  match κ with
  | 0 => n 0 ≤ 9 ∧ n 1 ≤ 9
  | 1 => n 0 ≤ 5
  | 2 => n 0 ≤ 9
  | 3 => n 0 ≤ 9
  | 4 => n 0 ≤ 999
  | 5 => n 0 ≤ 100
  | 6 => n 0 ≤ 6 ∧ n 1 ≤ 9 ∧ n 2 ≤ 9 ∧ n 3 ≤ 5 ∧ 1 ≤ n 4 ∧ n 4 ≤ 30
  | 7 => n 0 ≤ 7 ∧ n 1 ≤ 7 ∧ n 2 ≤ 9
  | 8 => n 0 ≤ 7 ∧ n 1 ≤ 7
  | 9 => n 0 ≤ 7 ∧ n 1 ≤ 7
  | 10 => n 0 ≤ 7 ∧ n 1 ≤ 7
  | 11 => n 0 ≤ 9
  | _ => 1 ≤ n 0 ∧ n 0 ≤ 9 ∧ n 1 ≤ 7 ∧ n 2 ≤ 7 ∧ W 12 < 6
def lnC (κ : Nat) : Nat :=
  match κ with
  | 0 => 2
  | 6 => 5
  | 7 => 3
  | 8 => 2
  | 9 => 2
  | 10 => 2
  | 12 => 3
  | _ => 1
theorem wv_set {c : Nat → Nat → Int32} {W : Nat → Nat} {sd : Int32} (h : wv (c 1) W sd) {k v : Nat} (hk : k < 549) (h16 : k ≠ 16) : wv (bk_w c 1 k (nI v) 1) (ndS W k v) sd := by
  refine ⟨fun q hq hn => ?_, by rw [bk_w_at (Ne.symm h16)]; exact h.2⟩
  unfold ndS
  by_cases e : q = k
  · subst e; rw [bk_w_same, if_pos rfl]
  · rw [bk_w_at e, if_neg e]; exact h.1 q hq hn
section
variable {N X q b p ln b' l k : Nat} {s0 s s1 s' : sk_S} {v : Int32} {t : Nat → Int32} {c0 c c' : Nat → Nat → Int32} {n : Nat → Nat} {W : Nat → Nat} {sd : Int32}
theorem rfr.rf : rfr c0 c0 := ⟨fun _ _ _ => rfl, fun _ _ _ _ _ => rfl, fun _ _ _ => rfl⟩
theorem rfr.pq (h : rfr c0 c) : rfr c0 (pq c p b) := ⟨fun a h0 h1 => by rw [pq_n h0]; exact h.1 a h0 h1, fun k h1 h2 h3 h4 => by rw [pq_o h1 h2]; exact h.2.1 k h1 h2 h3 h4, fun k h1 h2 => by rw [pq_n (by decide)]; exact h.2.2 k h1 h2⟩
theorem rfr.w1 (h : rfr c0 c) {k : Nat} {x : Int32} (hk : k < 549 ∨ 1398 ≤ k) : rfr c0 (bk_w c 1 k x) := ⟨fun a h0 h1 => by rw [bk_w_ne h1]; exact h.1 a h0 h1, fun k h1 h2 h3 h4 => by rw [bk_w_ne (by decide)]; exact h.2.1 k h1 h2 h3 h4, fun q h1 h2 => by rw [bk_w_at (by omega)]; exact h.2.2 q h1 h2⟩
theorem tS_wf {T : Nat} : tS T s q b v = sk_wf s T (tF (sk_c s T) q b v) := rfl
theorem cfr.tS (h : cfr (rdV X) s0 s) : cfr (rdV X) s0 (tS (X + 1) s q b v) := by
  obtain ⟨h1, h2, h3, h4, h5, h6⟩ := h
  refine ⟨h1, h2, h3, h4, h5, fun a k hn => ?_⟩
  rw [← h6 a k hn]
  by_cases e : a = X + 1
  · subst e
    rw [tS_wf]
    rw [wf_c]
    unfold tF
    rw [if_neg (fun e => hn (by unfold rdV; omega)), if_neg (fun e => hn (by unfold rdV; omega)), if_neg (fun e => hn (by unfold rdV; omega))]
  · rw [tS_n e]
theorem tcC_fr (C : tcC (X + 1) s0 t ln) (F : cfr (rdV X) s0 s) : tcC (X + 1) s t ln := by
  obtain ⟨h1, h2, h3, h4⟩ := C
  refine ⟨by rw [F.1, F.2.2.1]; exact h1, ?_, fun j hj => ?_, h4⟩
  · rw [F.2.2.2.2.2 _ _ (by unfold rdV; omega)]; exact h2
  · rw [F.2.2.2.2.2 _ _ (by unfold rdV; omega)]; exact h3 j hj
theorem tcR_fr (C : tcR c0 t ln) (F : rfr c0 c) : tcR c t ln := by
  obtain ⟨h1, h2, h3⟩ := C
  exact ⟨by rw [F.2.1 11 (by decide) (by decide) (by decide) (by decide)]; exact h1, fun j hj => by rw [F.1 6 (by decide) (by decide)]; exact h2 j hj, h3⟩
theorem bth_f {Fl Q : sk_S → (Nat → Nat → Int32) → Prop} {S : sk_S} (h : Fl S c) : bth Fl Q (some (S, 0)) (some (c, 0)) := .inl ⟨_, _, rfl, rfl, h⟩
theorem bth_t {Fl Q : sk_S → (Nat → Nat → Int32) → Prop} {S : sk_S} (h : Q S c) : bth Fl Q (some (S, 1)) (some (c, 1)) := .inr ⟨_, _, rfl, rfl, h⟩
theorem fl_mk (F : cfr (rdV X) s0 s) (F' : rfr c0 c) : flB X s0 c0 (tS (X + 1) s q b v) (pq c p q) := ⟨q, tS_3, pq_12, F.tS, F'.pq⟩
theorem rowB_0 (h2 : sk_c s (X + 3) 2 = nI l) (h3 : sk_c s (X + 3) 3 = 0) (F : cfr (rdV X) s0 s) : rowB X s0 s l 0 n s := ⟨fun _ _ => rfl, fun i hi => by omega, rfl, h2, h3, rfl, F⟩
theorem rowB_s (h : rowB X s0 s l k n s1) {m : Nat} : rowB X s0 s l (k + 1) (ndS n k m) (tkS (X + 3) s1 l k m) := by
  obtain ⟨h1, h2, h3, h4, h5, h6, h7⟩ := h
  have e5 : ∀ j, sk_c (tkS (X + 3) s1 l k m) (X + 5) j = if j = l * 5 + k then nI m else sk_c s1 (X + 5) j := fun j => by
    unfold tkS
    rw [qc_ne (by omega), show X + 3 + 2 = X + 5 by omega, qc_eq]
    by_cases e : j = l * 5 + k
    · rw [e, pk_us, if_pos rfl]
    · rw [pk_un e, if_neg e]
  refine ⟨fun j hj => ?_, fun i hi => ?_, ?_, ?_, ?_, ?_, ?_⟩
  · rw [e5, if_neg (by omega)]; exact h1 j hj
  · rw [e5]
    unfold ndS
    by_cases e : i = k
    · rw [if_pos (by omega), if_pos e]
    · rw [if_neg (by omega), if_neg e]; exact h2 i (by omega)
  · unfold tkS
    rw [qc_ne (by omega), qc_ne (by omega)]; exact h3
  · unfold tkS
    rw [qc_at _ _ _ _ _ _ (by omega), qc_ne (by omega)]; exact h4
  · unfold tkS
    rw [qc_eq, pk_us]
  · unfold tkS
    rw [qc_at _ _ _ _ _ _ (by omega), qc_ne (by omega)]; exact h6
  · unfold tkS
    exact (h7.wc _ (by unfold rdV; omega)).wc _ (by unfold rdV; omega)
theorem lay0_fr (h : lay_X0 (sk_K s0) (sk_r s0) (X + 3) = true) (F : cfr (rdV X) s0 s) : lay_X0 (sk_K s) (sk_r s) (X + 3) = true := by rw [F.1, F.2.2.1]; exact h
/-- a number taken into the row -/
theorem tkB (hN : 2000 ≤ N) (C : tcC (X + 1) s0 t ln) (C' : tcR c0 t ln) (l0 : lay_X0 (sk_K s0) (sk_r s0) (X + 3) = true) (R : rowB X s0 s l k n s1) (F' : rfr c0 c) (hl : l < 14) (hk : k < 5) (hp : p ≤ ln) (hq : rne isB t ln p = q) {lo hi : Nat} {lo' hi' : Int32} (hlo : lo' = nI lo) (hhi : hi' = nI hi) (hh : hi < 2000) (hl0 : lo < 2000) :
    (x0_take N (tS (X + 1) s1 q b v) (X + 3) (X + 1) lo' hi' = some (tS (X + 1) s1 q b v, 0) ∧ (∃ p', md_number N (pq c p b') lo' hi' = some (pq c p' q, -1)) ∧ ∀ p', flB X s0 c0 (tS (X + 1) s1 q b v) (pq c p' q)) ∨
    ∃ m D, lo ≤ m ∧ m ≤ hi ∧ 1 ≤ D ∧ q + D ≤ ln ∧ x0_take N (tS (X + 1) s1 q b v) (X + 3) (X + 1) lo' hi' = some (tS (X + 1) (tkS (X + 3) s1 l k m) (rne isB t ln (q + D)) q (nI m), 1) ∧ md_number N (pq c p b') lo' hi' = some (pq c (q + D) q, nI m) ∧ rowB X s0 s l (k + 1) (ndS n k m) (tkS (X + 3) s1 l k m) := by
  subst hlo
  subst hhi
  obtain ⟨h1, h2, h3, h4, h5, h6, h7⟩ := id R
  have C1 := tcC_fr C h7
  have C1' := tcR_fr C' F'
  have l0' : lay_X0 (sk_K (tS (X + 1) s1 q b v)) (sk_r (tS (X + 1) s1 q b v)) (X + 3) = true := lay0_fr l0 h7.tS
  have e3 : ∀ {q b : Nat} {v : Int32}, sk_c (tS (X + 1) s1 q b v) (X + 3) 3 = nI k := by intro q b v; rw [tS_n (by omega)]; exact h5
  have e2 : ∀ {q b : Nat} {v : Int32}, sk_c (tS (X + 1) s1 q b v) (X + 3) 2 = nI l := by intro q b v; rw [tS_n (by omega)]; exact h4
  unfold x0_take
  rw [if_pos l0', if_pos (tC_l C1), e3, if_neg (by show ¬ nI 5 ≤ nI k; rw [zq_le (by decide) (by omega)]; omega)]
  rcases nm_both (N := N) (b := b) (b' := b') (v := v) (by omega) C1 C1' hp hq (lo := lo) (hi := hi) (by omega) (by omega) with ⟨a1, p', _, _, a2⟩ | ⟨m, D, a1, a2, a3, a4, a5, a6⟩
  · left
    rw [a1, a2]
    refine ⟨?_, ⟨p', rfl⟩, fun p' => fl_mk h7 F'⟩
    simp only [zq_bindP]
    rw [if_pos trivial]
  · right
    refine ⟨m, D, a1, a2, a3, a4, ?_, a6, rowB_s R⟩
    rw [a5]
    simp only [zq_bindP, zq_letP]
    have ix : nI l * 5 + nI k = nI (l * 5 + k) := by
      rw [show nI l * 5 = nI (l * 5) from pk_mul l 5, nI_add]
    rw [if_neg (by decide), e2, e3, ix, if_pos (zq_inBt (by omega) (by decide)), zq_cl (by omega), tS_2, tS_wn (by omega)]
    have e3' : sk_c (tS (X + 1) (sk_wc s1 (X + 3 + 2) (l * 5 + k) (nI m)) (rne isB t ln (q + D)) q (nI m)) (X + 3) 3 = nI k := by
      rw [tS_n (by omega), qc_ne (by omega)]; exact h5
    rw [e3', nI_1, tS_wn (by omega)]
    rfl
theorem rdn_f {at' hi : Int32} {c1 : Nat → Nat → Int32} (h : md_number N c 0 hi = some (c1, -1)) (ha : ky_inB at' 2247 = true) : md_readNumber N c at' hi = some (c1, 0) := by
  unfold md_readNumber
  rw [h]
  simp only [zq_bindP, zq_letP]
  rw [if_neg (by decide), if_pos ha, if_pos (by decide), bk_w_self]
theorem rdn_s {at' hi : Int32} {c1 : Nat → Nat → Int32} {m a : Nat} (h : md_number N c 0 hi = some (c1, nI m)) (hm : m < 2000) (e : at' = nI a) (ha : a < 2247) : md_readNumber N c at' hi = some (bk_w c1 1 a (nI m), 1) := by
  subst e
  unfold md_readNumber
  rw [h]
  simp only [zq_bindP, zq_letP]
  rw [if_pos (nI_pos' (by omega)), if_pos (zq_inBt (by omega) (by decide)), if_neg (nI_pos (by omega)), zq_cl (by omega)]
/-- what reading a line's rest leaves -/
def QR (X : Nat) (s0 : sk_S) (c0 : Nat → Nat → Int32) (t : Nat → Int32) (ln : Nat) (s : sk_S) (l κ : Nat) (W : Nat → Nat) (sd : Int32) (S : sk_S) (C : Nat → Nat → Int32) : Prop :=
  ∃ s' c' p q b b' v n, S = tS (X + 1) s' q b v ∧ C = pq c' p b' ∧ p ≤ ln ∧ rne isB t ln p = q ∧ rowB X s0 s l (lnC κ) n s' ∧ rfr c0 c' ∧ lnV κ n W ∧ wv (c' 1) (lnW κ n W) sd
theorem x0_rest (l0 : lay_X0 (sk_K s0) (sk_r s0) (X + 3) = true) (C : tcC (X + 1) s0 t ln) (F : cfr (rdV X) s0 s) : lay_X0 (sk_K (tS (X + 1) s q b v)) (sk_r (tS (X + 1) s q b v)) (X + 3) = true ∧ lay_X9 (sk_K (tS (X + 1) s q b v)) (sk_r (tS (X + 1) s q b v)) (X + 1) = true := ⟨lay0_fr l0 F.tS, (tcC_fr C F).1⟩
/-- a line of one number -/
theorem one_both (hN : 2000 ≤ N) (C : tcC (X + 1) s0 t ln) (C' : tcR c0 t ln) (l0 : lay_X0 (sk_K s0) (sk_r s0) (X + 3) = true) (R : rowB X s0 s l 0 n s) (F' : rfr c0 c) (hl : l < 14) (hp : p ≤ ln) (hq : rne isB t ln p = q) {hi a : Nat} {hi' at' : Int32} (hhi : hi' = nI hi) (hh : hi < 2000) (hat : at' = nI a) (ha : a < 549) (h16 : a ≠ 16) (hw : wv (c 1) W sd) :
    (x0_take N (tS (X + 1) s q b v) (X + 3) (X + 1) 0 hi' = some (tS (X + 1) s q b v, 0) ∧ ∃ p', md_readNumber N (pq c p b') at' hi' = some (pq c p' q, 0) ∧ flB X s0 c0 (tS (X + 1) s q b v) (pq c p' q)) ∨
    ∃ m D, m ≤ hi ∧ 1 ≤ D ∧ q + D ≤ ln ∧ x0_take N (tS (X + 1) s q b v) (X + 3) (X + 1) 0 hi' = some (tS (X + 1) (tkS (X + 3) s l 0 m) (rne isB t ln (q + D)) q (nI m), 1) ∧ md_readNumber N (pq c p b') at' hi' = some (pq (bk_w c 1 a (nI m)) (q + D) q, 1) ∧ rowB X s0 s l 1 (ndS n 0 m) (tkS (X + 3) s l 0 m) ∧ wv (bk_w c 1 a (nI m) 1) (ndS W a m) sd := by
  rcases tkB (N := N) (b := b) (b' := b') (v := v) hN C C' l0 R F' hl (by decide) hp hq (lo := 0) (hi := hi) (lo' := 0) rfl hhi hh (by decide) with ⟨a1, ⟨p', a2⟩, a3⟩ | ⟨m, D, a1, a2, a3, a4, a5, a6, a7⟩
  · exact .inl ⟨a1, p', rdn_f a2 (by rw [hat]; exact zq_inBt (by omega) (by decide)), a3 p'⟩
  · refine .inr ⟨m, D, a2, a3, a4, a5, ?_, a7, wv_set hw ha h16⟩
    rw [rdn_s a6 (by omega) hat (by omega), pq_wn (by decide)]
/-- the place of a cell: two numbers -/
theorem plc_both (hN : 2000 ≤ N) (C : tcC (X + 1) s0 t ln) (C' : tcR c0 t ln) (l0 : lay_X0 (sk_K s0) (sk_r s0) (X + 3) = true) (R : rowB X s0 s l k n s1) (F' : rfr c0 c) (hl : l < 14) (hk : k < 4) (hp : p ≤ ln) (hq : rne isB t ln p = q) :
    (∃ S p' q', x0_takePlace N (tS (X + 1) s1 q b v) (X + 3) (X + 1) = some (S, 0) ∧ md_cellTold N (pq c p b') = some (pq c p' q', -1) ∧ flB X s0 c0 S (pq c p' q')) ∨
    ∃ x y s2 p2 b2 v2, x ≤ 7 ∧ y ≤ 7 ∧ p2 ≤ ln ∧ x0_takePlace N (tS (X + 1) s1 q b v) (X + 3) (X + 1) = some (tS (X + 1) s2 (rne isB t ln p2) b2 v2, 1) ∧ md_cellTold N (pq c p b') = some (pq c p2 b2, nI (8 * y + x)) ∧ rowB X s0 s l (k + 2) (ndS (ndS n k x) (k + 1) y) s2 := by
  have L := x0_rest (q := q) (b := b) (v := v) l0 C R.2.2.2.2.2.2
  unfold x0_takePlace md_cellTold
  rw [if_pos L.1, if_pos L.2]
  rcases tkB (N := N) (b := b) (b' := b') (v := v) hN C C' l0 R F' hl (by omega) hp hq (lo := 0) (hi := 7) (lo' := 0) (hi' := 7) rfl rfl (by decide) (by decide) with ⟨a1, ⟨p', a2⟩, a3⟩ | ⟨x, D, a1, a2, a3, a4, a5, a6, a7⟩
  · left
    rw [a1, a2]
    simp only [zq_bindP]
    rw [if_pos trivial, if_neg (by decide), if_neg (by decide)]
    exact ⟨_, p', q, rfl, rfl, a3 p'⟩
  · rw [a5, a6]
    simp only [zq_bindP]
    rw [if_neg (by decide), if_pos (nI_pos' (by omega))]
    rcases tkB (N := N) (b := q) (b' := q) (v := nI x) hN C C' l0 a7 F' hl (by omega) (p := q + D) a4 rfl (lo := 0) (hi := 7) (lo' := 0) (hi' := 7) rfl rfl (by decide) (by decide) with ⟨d1, ⟨p', d2⟩, d3⟩ | ⟨y, D', d1, d2, d3, d4, d5, d6, d7⟩
    · left
      rw [d1, d2]
      simp only [zq_bindP]
      rw [if_pos trivial, if_neg (by decide)]
      exact ⟨_, p', _, rfl, rfl, d3 p'⟩
    · right
      rw [d5, d6]
      simp only [zq_bindP]
      rw [if_neg (by decide), if_pos (nI_pos' (by omega))]
      refine ⟨x, y, _, _, _, _, a2, d2, d4, rfl, ?_, d7⟩
      rw [show (8 : Int32) * nI y = nI (8 * y) from pk_mul 8 y, nI_add]
end
