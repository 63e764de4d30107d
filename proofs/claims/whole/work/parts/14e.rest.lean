/-! THE REST OF A LINE, kind by kind -/
section
variable {N X q b p ln b' l k : Nat} {s0 s s1 s' : sk_S} {v : Int32} {t : Nat → Int32} {c0 c c' : Nat → Nat → Int32} {n : Nat → Nat} {W : Nat → Nat} {sd : Int32}
theorem tw_ok {T : Nat} (hN : 2000 ≤ N) (C : tcC T s t ln) (hq : q ≤ ln) (w : List Int32) (h32 : ∀ i, i < w.length → st_ch (w.getD i 0) ≠ 32) (hw : w.length < 1000) : x9_takeWord N (tS T s q b v) T w = if wq t q (rne isL t ln q - q) w then some (tS T s (rne isB t ln (rne isL t ln q)) q v, 1) else some (tS T s q b v, 0) := by
  have oo := oo_ok (N := N) (b := b) (v := v) hN C hq [w] (by simp) (fun x hx => by
    obtain rfl : x = w := by simpa using hx
    exact h32) hw (by simp)
  have tw : ∀ S x, x9_takeOneOf N (tS T s q b v) T w = some (S, x) → x9_takeWord N (tS T s q b v) T w = if x = 0 then some (S, 1) else some (S, 0) := fun S x e => by
    unfold x9_takeWord
    rw [if_pos (tC_l C), e]
    rfl
  rcases oo with ⟨o1, o2⟩ | ⟨i, o1, o2, o3⟩
  · have hn : ¬ wq t q (rne isL t ln q - q) w := o2 0 (by simp)
    rw [tw _ _ o1, if_neg (by decide), if_neg hn]
  · have hi : i = 0 := by have : i < 1 := o1; omega
    subst hi
    have o2 : wq t q (rne isL t ln q - q) w := o2
    rw [tw _ _ o3, if_pos (by decide), if_pos o2]
/-- a word and a number behind it -/
theorem aft_both (hN : 2000 ≤ N) (C : tcC (X + 1) s0 t ln) (C' : tcR c0 t ln) (l0 : lay_X0 (sk_K s0) (sk_r s0) (X + 3) = true) (R : rowB X s0 s l k n s1) (F' : rfr c0 c) (hl : l < 14) (hk : k < 5) (hp : p ≤ ln) (hq : rne isB t ln p = q) (w : List Int32) (h32 : ∀ i, i < w.length → st_ch (w.getD i 0) ≠ 32) (hw : w.length < 1000) {lo hi : Nat} {lo' hi' : Int32} (hlo : lo' = nI lo) (hhi : hi' = nI hi) (hh : hi < 2000) (hl0 : lo < 2000) :
    (x9_takeWord N (tS (X + 1) s1 q b v) (X + 1) w = some (tS (X + 1) s1 q b v, 0) ∧ ∃ p', md_after N (pq c p b') w lo' hi' = some (pq c p' q, -1) ∧ flB X s0 c0 (tS (X + 1) s1 q b v) (pq c p' q)) ∨
    ∃ q1, x9_takeWord N (tS (X + 1) s1 q b v) (X + 1) w = some (tS (X + 1) s1 q1 q v, 1) ∧
      ((∃ S p', x0_take N (tS (X + 1) s1 q1 q v) (X + 3) (X + 1) lo' hi' = some (S, 0) ∧ md_after N (pq c p b') w lo' hi' = some (pq c p' q1, -1) ∧ flB X s0 c0 S (pq c p' q1)) ∨
      ∃ m p2, lo ≤ m ∧ m ≤ hi ∧ p2 ≤ ln ∧ x0_take N (tS (X + 1) s1 q1 q v) (X + 3) (X + 1) lo' hi' = some (tS (X + 1) (tkS (X + 3) s1 l k m) (rne isB t ln p2) q1 (nI m), 1) ∧ md_after N (pq c p b') w lo' hi' = some (pq c p2 q1, nI m) ∧ rowB X s0 s l (k + 1) (ndS n k m) (tkS (X + 3) s1 l k m)) := by
  have C1 := tcC_fr C R.2.2.2.2.2.2
  have C1' := tcR_fr C' F'
  have h4 := C1.2.2.2
  have hq' : q ≤ ln := by rw [← hq]; exact rne_le hp
  have g1 := rne_ge (P := isL) (t := t) (ln := ln) (p := q)
  have g2 := rne_le (P := isL) (t := t) hq'
  have eL : q + (rne isL t ln q - q) = rne isL t ln q := by omega
  have iw := iw_ok (N := N) (q := q) (L := rne isL t ln q - q) hN C1' (by omega) hw
  rw [eL] at iw
  rw [tw_ok hN C1 hq' w h32 hw]
  unfold md_after
  rw [le_ok (by omega) C1' hp, hq]
  simp only [zq_bindP]
  rw [iw]
  simp only [zq_bindP]
  by_cases h : wq t q (rne isL t ln q - q) w
  · right
    rw [if_pos h, if_pos h, if_neg (by decide)]
    refine ⟨_, rfl, ?_⟩
    rcases tkB (N := N) (b := q) (b' := q) (v := v) hN C C' l0 R F' hl hk (p := rne isL t ln q) g2 rfl hlo hhi hh hl0 with ⟨a1, ⟨p', a2⟩, a3⟩ | ⟨m, D, a1, a2, a3, a4, a5, a6, a7⟩
    · left
      rw [a2]
      exact ⟨_, p', a1, rfl, a3 p'⟩
    · right
      rw [a6]
      exact ⟨m, _, a1, a2, a4, a5, rfl, a7⟩
  · left
    rw [if_neg h, if_neg h, if_pos rfl]
    exact ⟨rfl, _, rfl, fl_mk R.2.2.2.2.2.2 F'⟩
theorem m1_0 : ((0 : Int32) ≤ -1) = False := eq_false (by decide)
theorem m1_l : ((-1 : Int32) < 0) = True := eq_true (by decide)
theorem nI_le0 {a : Nat} (h : a < 2147483648) : ((0 : Int32) ≤ nI a) = True := eq_true (nI_pos' h)
theorem nI_lt0 {a : Nat} (h : a < 2147483648) : (nI a < (0 : Int32)) = False := eq_false (nI_pos h)
theorem at_N {m i : Nat} : (17 + 4 * nI m) + nI i = nI (17 + 4 * m + i) := by
  rw [show (4 : Int32) * nI m = nI (4 * m) from pk_mul 4 _, show (17 : Int32) + nI (4 * m) = nI (17 + 4 * m) from nI_add 17 _, nI_add]
/-- how the reference goes on behind the word of a line -/
def mdK (N κ : Nat) (c : Nat → Nat → Int32) : Option ((Nat → Nat → Int32) × Int32) :=
  match κ with
  | 0 => ((md_readNumber N c 0 9).bind (fun zz => (fun q140 x141 => (if x141 = 0 then (some (q140, 0)) else ((md_readNumber N q140 1 9).bind (fun zz => (fun q145 x146 => (if x146 = 0 then (some (q145, 0)) else (some (q145, 1)))) zz.1 zz.2)))) zz.1 zz.2))
  | 1 => ((md_readNumber N c 2 5).bind (fun zz => (fun q135 x136 => (if (x136 = 0 ∨ x136 = 1) then (some (q135, x136)) else none)) zz.1 zz.2))
  | 2 => ((md_readNumber N c 4 9).bind (fun zz => (fun q130 x131 => (if (x131 = 0 ∨ x131 = 1) then (some (q130, x131)) else none)) zz.1 zz.2))
  | 3 => ((md_readNumber N c 5 9).bind (fun zz => (fun q125 x126 => (if (x126 = 0 ∨ x126 = 1) then (some (q125, x126)) else none)) zz.1 zz.2))
  | 4 => ((md_readNumber N c 8 999).bind (fun zz => (fun q120 x121 => (if (x121 = 0 ∨ x121 = 1) then (some (q120, x121)) else none)) zz.1 zz.2))
  | 5 => ((md_readNumber N c 9 100).bind (fun zz => (fun q110 x111 => (if (x111 = 0 ∨ x111 = 1) then (some (q110, x111)) else none)) zz.1 zz.2))
  | 6 => ((md_readMove N c).bind (fun zz => (fun q115 x116 => (if (x116 = 0 ∨ x116 = 1) then (some (q115, x116)) else none)) zz.1 zz.2))
  | 7 => ((md_readBears N c).bind (fun zz => (fun q105 x106 => (if (x106 = 0 ∨ x106 = 1) then (some (q105, x106)) else none)) zz.1 zz.2))
  | 8 => ((md_readSign N c 1).bind (fun zz => (fun q100 x101 => (if (x101 = 0 ∨ x101 = 1) then (some (q100, x101)) else none)) zz.1 zz.2))
  | 9 => ((md_readSign N c 2).bind (fun zz => (fun q95 x96 => (if (x96 = 0 ∨ x96 = 1) then (some (q95, x96)) else none)) zz.1 zz.2))
  | 10 => ((md_readHole N c).bind (fun zz => (fun q90 x91 => (if (x91 = 0 ∨ x91 = 1) then (some (q90, x91)) else none)) zz.1 zz.2))
  | 11 => ((md_readNumber N c 11 9).bind (fun zz => (fun q80 x81 => (if x81 = 0 then (some (q80, 0)) else (some (q80, 1)))) zz.1 zz.2))
  | _ => ((md_readPerson N c).bind (fun zz => (fun q85 x86 => (if (x86 = 0 ∨ x86 = 1) then (some (q85, x86)) else none)) zz.1 zz.2))
/-- all that a line's rest starts from -/
def stR (X N : Nat) (s0 : sk_S) (c0 : Nat → Nat → Int32) (t : Nat → Int32) (ln : Nat) (s : sk_S) (c : Nat → Nat → Int32) (l p q : Nat) (W : Nat → Nat) (sd : Int32) : Prop :=
  2000 ≤ N ∧ tcC (X + 1) s0 t ln ∧ tcR c0 t ln ∧ lay_X0 (sk_K s0) (sk_r s0) (X + 3) = true ∧ sk_c s (X + 3) 2 = nI l ∧ sk_c s (X + 3) 3 = 0 ∧ cfr (rdV X) s0 s ∧ rfr c0 c ∧ l < 14 ∧ p ≤ ln ∧ rne isB t ln p = q ∧ wv (c 1) W sd
theorem rst_1 (h : stR X N s0 c0 t ln s c l p q W sd) : bth (flB X s0 c0) (QR X s0 c0 t ln s l 1 W sd) (x0_readRest N (tS (X + 1) s q b v) (X + 3) (X + 1) (nI 1)) (mdK N 1 (pq c p b')) := by
  obtain ⟨hN, C, C', l0, h2, h3, F, F', hl, hp, hq, hw⟩ := h
  have L := x0_rest (q := q) (b := b) (v := v) l0 C F
  unfold x0_readRest mdK
  rw [if_pos L.1, if_pos L.2, if_neg (by decide), if_pos (by decide)]
  rcases one_both (N := N) (b := b) (b' := b') (v := v) hN C C' l0 (rowB_0 (n := fun _ => 0) h2 h3 F) F' hl hp hq (hi := 5) (a := 2) (hi' := 5) (at' := 2) rfl (by decide) rfl (by decide) (by decide) hw with ⟨a1, p', a2, a3⟩ | ⟨m, D, a1, a2, a3, a4, a5, a6, a7⟩
  · rw [a1, a2]; simp only [zq_bindP, d00, true_or, ↓reduceIte]; exact bth_f a3
  · rw [a4, a5]; simp only [zq_bindP, d10, d11, or_true, ↓reduceIte]
    exact bth_t ⟨_, _, _, _, _, _, _, _, rfl, rfl, a3, rfl, a6, (F'.w1 (by omega)), a1, a7⟩
theorem rst_2 (h : stR X N s0 c0 t ln s c l p q W sd) : bth (flB X s0 c0) (QR X s0 c0 t ln s l 2 W sd) (x0_readRest N (tS (X + 1) s q b v) (X + 3) (X + 1) (nI 2)) (mdK N 2 (pq c p b')) := by
  obtain ⟨hN, C, C', l0, h2, h3, F, F', hl, hp, hq, hw⟩ := h
  have L := x0_rest (q := q) (b := b) (v := v) l0 C F
  unfold x0_readRest mdK
  rw [if_pos L.1, if_pos L.2, if_neg (by decide), if_neg (by decide), if_pos (by decide)]
  rcases one_both (N := N) (b := b) (b' := b') (v := v) hN C C' l0 (rowB_0 (n := fun _ => 0) h2 h3 F) F' hl hp hq (hi := 9) (a := 4) (hi' := 9) (at' := 4) rfl (by decide) rfl (by decide) (by decide) hw with ⟨a1, p', a2, a3⟩ | ⟨m, D, a1, a2, a3, a4, a5, a6, a7⟩
  · rw [a1, a2]; simp only [zq_bindP, d00, true_or, ↓reduceIte]; exact bth_f a3
  · rw [a4, a5]; simp only [zq_bindP, d10, d11, or_true, ↓reduceIte]
    exact bth_t ⟨_, _, _, _, _, _, _, _, rfl, rfl, a3, rfl, a6, (F'.w1 (by omega)), a1, a7⟩
theorem rst_3 (h : stR X N s0 c0 t ln s c l p q W sd) : bth (flB X s0 c0) (QR X s0 c0 t ln s l 3 W sd) (x0_readRest N (tS (X + 1) s q b v) (X + 3) (X + 1) (nI 3)) (mdK N 3 (pq c p b')) := by
  obtain ⟨hN, C, C', l0, h2, h3, F, F', hl, hp, hq, hw⟩ := h
  have L := x0_rest (q := q) (b := b) (v := v) l0 C F
  unfold x0_readRest mdK
  rw [if_pos L.1, if_pos L.2, if_neg (by decide), if_neg (by decide), if_neg (by decide), if_pos (by decide)]
  rcases one_both (N := N) (b := b) (b' := b') (v := v) hN C C' l0 (rowB_0 (n := fun _ => 0) h2 h3 F) F' hl hp hq (hi := 9) (a := 5) (hi' := 9) (at' := 5) rfl (by decide) rfl (by decide) (by decide) hw with ⟨a1, p', a2, a3⟩ | ⟨m, D, a1, a2, a3, a4, a5, a6, a7⟩
  · rw [a1, a2]; simp only [zq_bindP, d00, true_or, ↓reduceIte]; exact bth_f a3
  · rw [a4, a5]; simp only [zq_bindP, d10, d11, or_true, ↓reduceIte]
    exact bth_t ⟨_, _, _, _, _, _, _, _, rfl, rfl, a3, rfl, a6, (F'.w1 (by omega)), a1, a7⟩
theorem rst_4 (h : stR X N s0 c0 t ln s c l p q W sd) : bth (flB X s0 c0) (QR X s0 c0 t ln s l 4 W sd) (x0_readRest N (tS (X + 1) s q b v) (X + 3) (X + 1) (nI 4)) (mdK N 4 (pq c p b')) := by
  obtain ⟨hN, C, C', l0, h2, h3, F, F', hl, hp, hq, hw⟩ := h
  have L := x0_rest (q := q) (b := b) (v := v) l0 C F
  unfold x0_readRest mdK
  rw [if_pos L.1, if_pos L.2, if_neg (by decide), if_neg (by decide), if_neg (by decide), if_neg (by decide), if_pos (by decide)]
  rcases one_both (N := N) (b := b) (b' := b') (v := v) hN C C' l0 (rowB_0 (n := fun _ => 0) h2 h3 F) F' hl hp hq (hi := 999) (a := 8) (hi' := 999) (at' := 8) rfl (by decide) rfl (by decide) (by decide) hw with ⟨a1, p', a2, a3⟩ | ⟨m, D, a1, a2, a3, a4, a5, a6, a7⟩
  · rw [a1, a2]; simp only [zq_bindP, d00, true_or, ↓reduceIte]; exact bth_f a3
  · rw [a4, a5]; simp only [zq_bindP, d10, d11, or_true, ↓reduceIte]
    exact bth_t ⟨_, _, _, _, _, _, _, _, rfl, rfl, a3, rfl, a6, (F'.w1 (by omega)), a1, a7⟩
theorem rst_5 (h : stR X N s0 c0 t ln s c l p q W sd) : bth (flB X s0 c0) (QR X s0 c0 t ln s l 5 W sd) (x0_readRest N (tS (X + 1) s q b v) (X + 3) (X + 1) (nI 5)) (mdK N 5 (pq c p b')) := by
  obtain ⟨hN, C, C', l0, h2, h3, F, F', hl, hp, hq, hw⟩ := h
  have L := x0_rest (q := q) (b := b) (v := v) l0 C F
  unfold x0_readRest mdK
  rw [if_pos L.1, if_pos L.2, if_neg (by decide), if_neg (by decide), if_neg (by decide), if_neg (by decide), if_neg (by decide), if_pos (by decide)]
  rcases one_both (N := N) (b := b) (b' := b') (v := v) hN C C' l0 (rowB_0 (n := fun _ => 0) h2 h3 F) F' hl hp hq (hi := 100) (a := 9) (hi' := 100) (at' := 9) rfl (by decide) rfl (by decide) (by decide) hw with ⟨a1, p', a2, a3⟩ | ⟨m, D, a1, a2, a3, a4, a5, a6, a7⟩
  · rw [a1, a2]; simp only [zq_bindP, d00, true_or, ↓reduceIte]; exact bth_f a3
  · rw [a4, a5]; simp only [zq_bindP, d10, d11, or_true, ↓reduceIte]
    exact bth_t ⟨_, _, _, _, _, _, _, _, rfl, rfl, a3, rfl, a6, (F'.w1 (by omega)), a1, a7⟩
theorem rst_11 (h : stR X N s0 c0 t ln s c l p q W sd) : bth (flB X s0 c0) (QR X s0 c0 t ln s l 11 W sd) (x0_readRest N (tS (X + 1) s q b v) (X + 3) (X + 1) (nI 11)) (mdK N 11 (pq c p b')) := by
  obtain ⟨hN, C, C', l0, h2, h3, F, F', hl, hp, hq, hw⟩ := h
  have L := x0_rest (q := q) (b := b) (v := v) l0 C F
  unfold x0_readRest mdK
  rw [if_pos L.1, if_pos L.2, if_neg (by decide), if_neg (by decide), if_neg (by decide), if_neg (by decide), if_neg (by decide), if_neg (by decide), if_neg (by decide), if_neg (by decide), if_neg (by decide), if_neg (by decide), if_neg (by decide), if_pos (by decide)]
  rcases one_both (N := N) (b := b) (b' := b') (v := v) hN C C' l0 (rowB_0 (n := fun _ => 0) h2 h3 F) F' hl hp hq (hi := 9) (a := 11) (hi' := 9) (at' := 11) rfl (by decide) rfl (by decide) (by decide) hw with ⟨a1, p', a2, a3⟩ | ⟨m, D, a1, a2, a3, a4, a5, a6, a7⟩
  · rw [a1, a2]; simp only [zq_bindP, d00, true_or, ↓reduceIte]; exact bth_f a3
  · rw [a4, a5]; simp only [zq_bindP, d10, d11, or_true, ↓reduceIte]
    exact bth_t ⟨_, _, _, _, _, _, _, _, rfl, rfl, a3, rfl, a6, (F'.w1 (by omega)), a1, a7⟩
theorem rst_0 (h : stR X N s0 c0 t ln s c l p q W sd) : bth (flB X s0 c0) (QR X s0 c0 t ln s l 0 W sd) (x0_readRest N (tS (X + 1) s q b v) (X + 3) (X + 1) (nI 0)) (mdK N 0 (pq c p b')) := by
  obtain ⟨hN, C, C', l0, h2, h3, F, F', hl, hp, hq, hw⟩ := h
  have L := x0_rest (q := q) (b := b) (v := v) l0 C F
  unfold x0_readRest mdK
  rw [if_pos L.1, if_pos L.2, if_pos (by decide)]
  rcases one_both (N := N) (b := b) (b' := b') (v := v) hN C C' l0 (rowB_0 (n := fun _ => 0) h2 h3 F) F' hl hp hq (hi := 9) (a := 0) (hi' := 9) (at' := 0) rfl (by decide) rfl (by decide) (by decide) hw with ⟨a1, p', a2, a3⟩ | ⟨m, D, a1, a2, a3, a4, a5, a6, a7⟩
  · rw [a1, a2]; simp only [zq_bindP, d00, ↓reduceIte]; exact bth_f a3
  · rw [a4, a5]; simp only [zq_bindP, d10, ↓reduceIte]
    rcases tkB (N := N) (b := q) (b' := q) (v := nI m) hN C C' l0 a6 (F'.w1 (by omega)) hl (by decide) (p := q + D) a3 rfl (c := bk_w c 1 0 (nI m)) (lo := 0) (hi := 9) (lo' := 0) (hi' := 9) rfl rfl (by decide) (by decide) with ⟨e1, ⟨p', e2⟩, e3⟩ | ⟨m', D', e1, e2, e3, e4, e5, e6, e7⟩
    · rw [e1, rdn_f (at' := 1) e2 (by decide)]; simp only [zq_bindP, d00, ↓reduceIte]; exact bth_f (e3 p')
    · rw [e5, rdn_s (at' := 1) (a := 1) e6 (by omega) rfl (by decide), pq_wn (by decide)]; simp only [zq_bindP, d10, ↓reduceIte]
      exact bth_t ⟨_, _, _, _, _, _, _, _, rfl, rfl, e4, rfl, e7, ((F'.w1 (by omega)).w1 (by omega)), ⟨a1, e2⟩, wv_set a7 (by decide) (by decide)⟩
theorem rst_8 (h : stR X N s0 c0 t ln s c l p q W sd) : bth (flB X s0 c0) (QR X s0 c0 t ln s l 8 W sd) (x0_readRest N (tS (X + 1) s q b v) (X + 3) (X + 1) (nI 8)) (mdK N 8 (pq c p b')) := by
  obtain ⟨hN, C, C', l0, h2, h3, F, F', hl, hp, hq, hw⟩ := h
  have L := x0_rest (q := q) (b := b) (v := v) l0 C F
  unfold x0_readRest mdK md_readSign
  rw [if_pos L.1, if_pos L.2, if_neg (by decide), if_neg (by decide), if_neg (by decide), if_neg (by decide), if_neg (by decide), if_neg (by decide), if_neg (by decide), if_neg (by decide), if_pos (by decide)]
  rcases plc_both (N := N) (b := b) (b' := b') (v := v) hN C C' l0 (rowB_0 (n := fun _ => 0) h2 h3 F) F' hl (by decide) hp hq with ⟨S, p', q', a1, a2, a3⟩ | ⟨x, y, s2, p2, b2, v2, a1, a2, a3, a4, a5, a6⟩
  · rw [a1, a2]; simp only [zq_bindP, m1_l, d00, true_or, ↓reduceIte]; exact bth_f a3
  · have v0 : (45 + 3 * nI (8 * y + x)) + 1 = nI (46 + 3 * (8 * y + x)) := by
      rw [show 46 + 3 * (8 * y + x) = 45 + 3 * (8 * y + x) + 1 by omega]; exact md_ofN (i := 1) (by omega) (by decide)
    have ib : ky_inB (nI (46 + 3 * (8 * y + x))) 2247 = true := zq_inBt (by omega) (by decide)
    have cl : Int32.toNatClampNeg (nI (46 + 3 * (8 * y + x))) = 46 + 3 * (8 * y + x) := zq_cl (by omega)
    have w1 : bk_w (pq c p2 b2) 1 (46 + 3 * (8 * y + x)) 1 = pq (bk_w c 1 (46 + 3 * (8 * y + x)) (nI 1)) p2 b2 := pq_wn (by decide)
    rw [a4, a5]; simp only [zq_bindP, zq_letP, nI_lt0 (show 8 * y + x < 2147483648 by omega), v0, ib, cl, w1, d10, d11, or_true, ↓reduceIte]
    exact bth_t ⟨_, _, _, _, _, _, _, _, rfl, rfl, a3, rfl, a6, (F'.w1 (by omega)), ⟨a1, a2⟩, wv_set hw (by omega) (by omega)⟩
theorem rst_9 (h : stR X N s0 c0 t ln s c l p q W sd) : bth (flB X s0 c0) (QR X s0 c0 t ln s l 9 W sd) (x0_readRest N (tS (X + 1) s q b v) (X + 3) (X + 1) (nI 9)) (mdK N 9 (pq c p b')) := by
  obtain ⟨hN, C, C', l0, h2, h3, F, F', hl, hp, hq, hw⟩ := h
  have L := x0_rest (q := q) (b := b) (v := v) l0 C F
  unfold x0_readRest mdK md_readSign
  rw [if_pos L.1, if_pos L.2, if_neg (by decide), if_neg (by decide), if_neg (by decide), if_neg (by decide), if_neg (by decide), if_neg (by decide), if_neg (by decide), if_neg (by decide), if_neg (by decide), if_pos (by decide)]
  rcases plc_both (N := N) (b := b) (b' := b') (v := v) hN C C' l0 (rowB_0 (n := fun _ => 0) h2 h3 F) F' hl (by decide) hp hq with ⟨S, p', q', a1, a2, a3⟩ | ⟨x, y, s2, p2, b2, v2, a1, a2, a3, a4, a5, a6⟩
  · rw [a1, a2]; simp only [zq_bindP, m1_l, d00, true_or, ↓reduceIte]; exact bth_f a3
  · have v0 : (45 + 3 * nI (8 * y + x)) + 2 = nI (47 + 3 * (8 * y + x)) := by
      rw [show 47 + 3 * (8 * y + x) = 45 + 3 * (8 * y + x) + 2 by omega]; exact md_ofN (i := 2) (by omega) (by decide)
    have ib : ky_inB (nI (47 + 3 * (8 * y + x))) 2247 = true := zq_inBt (by omega) (by decide)
    have cl : Int32.toNatClampNeg (nI (47 + 3 * (8 * y + x))) = 47 + 3 * (8 * y + x) := zq_cl (by omega)
    have w1 : bk_w (pq c p2 b2) 1 (47 + 3 * (8 * y + x)) 1 = pq (bk_w c 1 (47 + 3 * (8 * y + x)) (nI 1)) p2 b2 := pq_wn (by decide)
    rw [a4, a5]; simp only [zq_bindP, zq_letP, nI_lt0 (show 8 * y + x < 2147483648 by omega), v0, ib, cl, w1, d10, d11, or_true, ↓reduceIte]
    exact bth_t ⟨_, _, _, _, _, _, _, _, rfl, rfl, a3, rfl, a6, (F'.w1 (by omega)), ⟨a1, a2⟩, wv_set hw (by omega) (by omega)⟩
theorem rst_10 (h : stR X N s0 c0 t ln s c l p q W sd) : bth (flB X s0 c0) (QR X s0 c0 t ln s l 10 W sd) (x0_readRest N (tS (X + 1) s q b v) (X + 3) (X + 1) (nI 10)) (mdK N 10 (pq c p b')) := by
  obtain ⟨hN, C, C', l0, h2, h3, F, F', hl, hp, hq, hw⟩ := h
  have L := x0_rest (q := q) (b := b) (v := v) l0 C F
  unfold x0_readRest mdK md_readHole
  rw [if_pos L.1, if_pos L.2, if_neg (by decide), if_neg (by decide), if_neg (by decide), if_neg (by decide), if_neg (by decide), if_neg (by decide), if_neg (by decide), if_neg (by decide), if_neg (by decide), if_neg (by decide), if_pos (by decide)]
  rcases plc_both (N := N) (b := b) (b' := b') (v := v) hN C C' l0 (rowB_0 (n := fun _ => 0) h2 h3 F) F' hl (by decide) hp hq with ⟨S, p', q', a1, a2, a3⟩ | ⟨x, y, s2, p2, b2, v2, a1, a2, a3, a4, a5, a6⟩
  · rw [a1, a2]; simp only [zq_bindP, m1_l, d00, true_or, ↓reduceIte]; exact bth_f a3
  · have w1 : bk_w (pq c p2 b2) 1 10 (nI (8 * y + x)) = pq (bk_w c 1 10 (nI (8 * y + x))) p2 b2 := pq_wn (by decide)
    rw [a4, a5]; simp only [zq_bindP, zq_letP, nI_lt0 (show 8 * y + x < 2147483648 by omega), w1, d10, d11, or_true, ↓reduceIte]
    exact bth_t ⟨_, _, _, _, _, _, _, _, rfl, rfl, a3, rfl, a6, (F'.w1 (by omega)), ⟨a1, a2⟩, wv_set hw (by omega) (by omega)⟩
theorem rst_7 (h : stR X N s0 c0 t ln s c l p q W sd) : bth (flB X s0 c0) (QR X s0 c0 t ln s l 7 W sd) (x0_readRest N (tS (X + 1) s q b v) (X + 3) (X + 1) (nI 7)) (mdK N 7 (pq c p b')) := by
  obtain ⟨hN, C, C', l0, h2, h3, F, F', hl, hp, hq, hw⟩ := h
  have L := x0_rest (q := q) (b := b) (v := v) l0 C F
  unfold x0_readRest mdK md_readBears
  rw [if_pos L.1, if_pos L.2, if_neg (by decide), if_neg (by decide), if_neg (by decide), if_neg (by decide), if_neg (by decide), if_neg (by decide), if_neg (by decide), if_pos (by decide)]
  rcases plc_both (N := N) (b := b) (b' := b') (v := v) hN C C' l0 (rowB_0 (n := fun _ => 0) h2 h3 F) F' hl (by decide) hp hq with ⟨S, p', q', a1, a2, a3⟩ | ⟨x, y, s2, p2, b2, v2, a1, a2, a3, a4, a5, a6⟩
  · rw [a1, a2]; simp only [zq_bindP, m1_l, d00, true_or, ↓reduceIte]; exact bth_f a3
  · have v0 : (45 + 3 * nI (8 * y + x)) + 0 = nI (45 + 3 * (8 * y + x)) := md_ofN (i := 0) (by omega) (by decide)
    rw [a4, a5]; simp only [zq_bindP, zq_letP, nI_lt0 (show 8 * y + x < 2147483648 by omega), d10, ↓reduceIte]
    rw [v0]
    rcases tkB (N := N) (b := b2) (b' := b2) (v := v2) hN C C' l0 a6 F' hl (by decide) (p := p2) a3 rfl (lo := 0) (hi := 9) (lo' := 0) (hi' := 9) rfl rfl (by decide) (by decide) with ⟨e1, ⟨p', e2⟩, e3⟩ | ⟨m', D', e1, e2, e3, e4, e5, e6, e7⟩
    · rw [e1, rdn_f e2 (zq_inBt (by omega) (by decide))]; simp only [zq_bindP, d00, true_or, ↓reduceIte]; exact bth_f (e3 p')
    · rw [e5, rdn_s e6 (by omega) rfl (by omega), pq_wn (by decide)]; simp only [zq_bindP, d10, d11, or_true, ↓reduceIte]
      exact bth_t ⟨_, _, _, _, _, _, _, _, rfl, rfl, e4, rfl, e7, (F'.w1 (by omega)), ⟨a1, a2, e2⟩, wv_set hw (by omega) (by omega)⟩
theorem rst_12 (h : stR X N s0 c0 t ln s c l p q W sd) (h6 : W 12 < 6) : bth (flB X s0 c0) (QR X s0 c0 t ln s l 12 W sd) (x0_readRest N (tS (X + 1) s q b v) (X + 3) (X + 1) (nI 12)) (mdK N 12 (pq c p b')) := by
  obtain ⟨hN, C, C', l0, h2, h3, F, F', hl, hp, hq, hw⟩ := h
  have L := x0_rest (q := q) (b := b) (v := v) l0 C F
  have h4 := C.2.2.2
  have C1' := tcR_fr C' F'
  unfold x0_readRest mdK md_readPerson
  have pp : ∀ p b, md_people_r (pq c p b) = nI (W 12) := fun p b => by
    unfold md_people_r; rw [pq_n (by decide)]; exact wv_n hw (by decide) (by decide)
  have z6 : (nI (W 12) = (6 : Int32)) = False := eq_false (by show ¬ nI (W 12) = nI 6; rw [zq_eq (by omega) (by decide)]; omega)
  rw [if_pos L.1, if_pos L.2, if_neg (by decide), if_neg (by decide), if_neg (by decide), if_neg (by decide), if_neg (by decide), if_neg (by decide), if_neg (by decide), if_neg (by decide), if_neg (by decide), if_neg (by decide), if_neg (by decide), if_neg (by decide), if_pos (by decide)]
  simp only [pp, z6, ↓reduceIte]
  rcases tkB (N := N) (b := b) (b' := b') (v := v) hN C C' l0 (rowB_0 (n := fun _ => 0) h2 h3 F) F' hl (by decide) hp hq (lo := 1) (hi := 9) (lo' := 1) (hi' := 9) rfl rfl (by decide) (by decide) with ⟨e1, ⟨p', e2⟩, e3⟩ | ⟨m, D, e1, e2, e3, e4, e5, e6, e7⟩
  · rw [e1, e2]; simp only [zq_bindP, m1_0, d00, true_or, ↓reduceIte]; exact bth_f (e3 p')
  · rw [e5, e6]; simp only [zq_bindP, nI_le0 (show m < 2147483648 by omega), d10, ↓reduceIte]
    have C2 := tcC_fr C e7.2.2.2.2.2.2
    have hq2 : rne isB t ln (q + D) ≤ ln := rne_le e4
    generalize gq : rne isB t ln (q + D) = q2 at *
    have g1 := rne_ge (P := isL) (t := t) (ln := ln) (p := q2)
    have g2 := rne_le (P := isL) (t := t) hq2
    have eL : q2 + (rne isL t ln q2 - q2) = rne isL t ln q2 := by omega
    have iw := iw_ok (N := N) (q := q2) (L := rne isL t ln q2 - q2) (w := [97, 116]) hN C1' (by omega) (by decide)
    rw [eL] at iw
    rw [tw_ok hN C2 hq2 [97, 116] (by decide) (by decide), le_ok (by omega) C1' e4, gq]
    simp only [zq_bindP]
    rw [iw]
    simp only [zq_bindP]
    by_cases h : wq t q2 (rne isL t ln q2 - q2) [97, 116]
    · rw [if_pos h, if_pos h]
      simp only [zq_bindP, d10, ↓reduceIte]
      rcases plc_both (N := N) (b := q2) (b' := q2) (v := nI m) hN C C' l0 e7 F' hl (by decide) (p := rne isL t ln q2) g2 rfl with ⟨S, p', q', a1, a2, a3⟩ | ⟨x, y, s2, p2, b2, v2, a1, a2, a3, a4, a5, a6⟩
      · rw [a1, a2]; simp only [zq_bindP, m1_0, d00, true_or, ↓reduceIte]; exact bth_f a3
      · have x0 : (237 + 2 * nI (W 12)) + 0 = nI (237 + 2 * W 12) := by
          rw [show (2 : Int32) * nI (W 12) = nI (2 * W 12) from pk_mul 2 _, show (237 : Int32) + nI (2 * W 12) = nI (237 + 2 * W 12) from nI_add 237 _]
          exact nI_add _ 0
        have x1 : (237 + 2 * nI (W 12)) + 1 = nI (238 + 2 * W 12) := by
          rw [show (2 : Int32) * nI (W 12) = nI (2 * W 12) from pk_mul 2 _, show (237 : Int32) + nI (2 * W 12) = nI (237 + 2 * W 12) from nI_add 237 _, nI_1]
          congr 1; omega
        have i0 : ky_inB (nI (237 + 2 * W 12)) 2247 = true := zq_inBt (by omega) (by decide)
        have i1 : ky_inB (nI (238 + 2 * W 12)) 2247 = true := zq_inBt (by omega) (by decide)
        have k0 : Int32.toNatClampNeg (nI (237 + 2 * W 12)) = 237 + 2 * W 12 := zq_cl (by omega)
        have k1 : Int32.toNatClampNeg (nI (238 + 2 * W 12)) = 238 + 2 * W 12 := zq_cl (by omega)
        have w0 : ∀ (c : Nat → Nat → Int32) (k : Nat) (x : Int32), bk_w (pq c p2 b2) 1 k x = pq (bk_w c 1 k x) p2 b2 := fun c k x => pq_wn (by decide)
        have e12 : bk_w (bk_w c 1 (237 + 2 * W 12) (nI m)) 1 (238 + 2 * W 12) (nI (8 * y + x)) 1 12 = nI (W 12) := by
          rw [bk_w_at (by omega), bk_w_at (by omega)]; exact wv_n hw (by decide) (by decide)
        have pn : ∀ (c : Nat → Nat → Int32), pq c p2 b2 1 12 = c 1 12 := fun c => by rw [pq_n (by decide)]
        rw [a4, a5]
        simp only [zq_bindP, zq_letP, nI_le0 (show 8 * y + x < 2147483648 by omega), pp, x0, x1, i0, i1, k0, k1, w0, pn, e12, nI_1, d10, d11, or_true, ↓reduceIte]
        exact bth_t ⟨_, _, _, _, _, _, _, _, rfl, rfl, a3, rfl, a6, (((F'.w1 (by omega)).w1 (by omega)).w1 (by omega)), ⟨e1, e2, a1, a2, h6⟩, wv_set (wv_set (wv_set hw (by omega) (by omega)) (by omega) (by omega)) (by decide) (by decide)⟩
    · rw [if_neg h, if_neg h]
      simp only [d00, m1_0, true_or, ↓reduceIte]
      exact bth_f (fl_mk e7.2.2.2.2.2.2 F')
theorem rst_6 (h : stR X N s0 c0 t ln s c l p q W sd) : bth (flB X s0 c0) (QR X s0 c0 t ln s l 6 W sd) (x0_readRest N (tS (X + 1) s q b v) (X + 3) (X + 1) (nI 6)) (mdK N 6 (pq c p b')) := by
  obtain ⟨hN, C, C', l0, h2, h3, F, F', hl, hp, hq, hw⟩ := h
  have L := x0_rest (q := q) (b := b) (v := v) l0 C F
  unfold x0_readRest mdK md_readMove
  rw [if_pos L.1, if_pos L.2, if_neg (by decide), if_neg (by decide), if_neg (by decide), if_neg (by decide), if_neg (by decide), if_neg (by decide), if_pos (by decide)]
  rcases tkB (N := N) (b := b) (b' := b') (v := v) hN C C' l0 (rowB_0 (n := fun _ => 0) h2 h3 F) F' hl (by decide) hp hq (lo := 0) (hi := 6) (lo' := 0) (hi' := 6) rfl rfl (by decide) (by decide) with ⟨e1, ⟨p', e2⟩, e3⟩ | ⟨m0, D, _, e2, e3, e4, e5, e6, r0⟩
  · rw [e1, e2]; simp only [zq_bindP, m1_0, d00, true_or, ↓reduceIte]; exact bth_f (e3 p')
  rw [e5, e6]; simp only [zq_bindP, nI_le0 (show m0 < 2147483648 by omega), d10, ↓reduceIte]
  rcases aft_both (N := N) (b := q) (b' := q) (v := nI m0) hN C C' l0 r0 F' hl (by decide) (p := q + D) e4 rfl [117, 112] (by decide) (by decide) (lo := 0) (hi := 9) (lo' := 0) (hi' := 9) rfl rfl (by decide) (by decide) with ⟨a1, p', a2, a3⟩ | ⟨q1, a1, ⟨S, p', a2, a3, a4⟩ | ⟨m1, p1, _, a2, a3, a4, a5, r1⟩⟩
  · rw [a1, a2]; simp only [zq_bindP, m1_0, d00, true_or, ↓reduceIte]; exact bth_f a3
  · rw [a1, a3]; simp only [zq_bindP, m1_0, d10, ↓reduceIte]; rw [a2]; simp only [zq_bindP, d00, true_or, ↓reduceIte]; exact bth_f a4
  rw [a1, a5]; simp only [zq_bindP, d10, ↓reduceIte]; rw [a4]; simp only [zq_bindP, nI_le0 (show m1 < 2147483648 by omega), d10, ↓reduceIte]
  rcases aft_both (N := N) (b := q1) (b' := q1) (v := nI m1) hN C C' l0 r1 F' hl (by decide) (p := p1) a3 rfl [100, 111, 119, 110] (by decide) (by decide) (lo := 0) (hi := 9) (lo' := 0) (hi' := 9) rfl rfl (by decide) (by decide) with ⟨b1, p', b2, b3⟩ | ⟨q2, b1, ⟨S, p', b2, b3, b4⟩ | ⟨m2, p2, _, b2, b3, b4, b5, r2⟩⟩
  · rw [b1, b2]; simp only [zq_bindP, m1_0, d00, true_or, ↓reduceIte]; exact bth_f b3
  · rw [b1, b3]; simp only [zq_bindP, m1_0, d10, ↓reduceIte]; rw [b2]; simp only [zq_bindP, d00, true_or, ↓reduceIte]; exact bth_f b4
  rw [b1, b5]; simp only [zq_bindP, d10, ↓reduceIte]; rw [b4]; simp only [zq_bindP, nI_le0 (show m2 < 2147483648 by omega), d10, ↓reduceIte]
  rcases aft_both (N := N) (b := q2) (b' := q2) (v := nI m2) hN C C' l0 r2 F' hl (by decide) (p := p2) b3 rfl [115, 116, 105, 114, 115] (by decide) (by decide) (lo := 0) (hi := 5) (lo' := 0) (hi' := 5) rfl rfl (by decide) (by decide) with ⟨f1, p', f2, f3⟩ | ⟨q3, f1, ⟨S, p', f2, f3, f4⟩ | ⟨m3, p3, _, f2, f3, f4, f5, r3⟩⟩
  · rw [f1, f2]; simp only [zq_bindP, m1_0, d00, true_or, ↓reduceIte]; exact bth_f f3
  · rw [f1, f3]; simp only [zq_bindP, m1_0, d10, ↓reduceIte]; rw [f2]; simp only [zq_bindP, d00, true_or, ↓reduceIte]; exact bth_f f4
  rw [f1, f5]; simp only [zq_bindP, d10, ↓reduceIte]; rw [f4]; simp only [zq_bindP, nI_le0 (show m3 < 2147483648 by omega), d10, ↓reduceIte]
  rcases aft_both (N := N) (b := q3) (b' := q3) (v := nI m3) hN C C' l0 r3 F' hl (by decide) (p := p3) f3 rfl [116, 97, 107, 101, 115] (by decide) (by decide) (lo := 1) (hi := 30) (lo' := 1) (hi' := 30) rfl rfl (by decide) (by decide) with ⟨g1, p', g2, g3⟩ | ⟨q4, g1, ⟨S, p', g2, g3, g4⟩ | ⟨m4, p4, g0, g2, g3, g4, g5, r4⟩⟩
  · rw [g1, g2]; simp only [zq_bindP, m1_0, d00, true_or, ↓reduceIte]; exact bth_f g3
  · rw [g1, g3]; simp only [zq_bindP, m1_0, d10, ↓reduceIte]; rw [g2]; simp only [zq_bindP, d00, true_or, ↓reduceIte]; exact bth_f g4
  have x0 : (17 + 4 * nI m0) + 0 = nI (17 + 4 * m0) := at_N (i := 0)
  have x1 : (17 + 4 * nI m0) + 1 = nI (18 + 4 * m0) := by rw [show 18 + 4 * m0 = 17 + 4 * m0 + 1 by omega]; exact at_N (i := 1)
  have x2 : (17 + 4 * nI m0) + 2 = nI (19 + 4 * m0) := by rw [show 19 + 4 * m0 = 17 + 4 * m0 + 2 by omega]; exact at_N (i := 2)
  have x3 : (17 + 4 * nI m0) + 3 = nI (20 + 4 * m0) := by rw [show 20 + 4 * m0 = 17 + 4 * m0 + 3 by omega]; exact at_N (i := 3)
  have i0 : ky_inB (nI (17 + 4 * m0)) 2247 = true := zq_inBt (by omega) (by decide)
  have i1 : ky_inB (nI (18 + 4 * m0)) 2247 = true := zq_inBt (by omega) (by decide)
  have i2 : ky_inB (nI (19 + 4 * m0)) 2247 = true := zq_inBt (by omega) (by decide)
  have i3 : ky_inB (nI (20 + 4 * m0)) 2247 = true := zq_inBt (by omega) (by decide)
  have k0 : Int32.toNatClampNeg (nI (17 + 4 * m0)) = 17 + 4 * m0 := zq_cl (by omega)
  have k1 : Int32.toNatClampNeg (nI (18 + 4 * m0)) = 18 + 4 * m0 := zq_cl (by omega)
  have k2 : Int32.toNatClampNeg (nI (19 + 4 * m0)) = 19 + 4 * m0 := zq_cl (by omega)
  have k3 : Int32.toNatClampNeg (nI (20 + 4 * m0)) = 20 + 4 * m0 := zq_cl (by omega)
  have w0 : ∀ (c : Nat → Nat → Int32) (k : Nat) (x : Int32), bk_w (pq c p4 q4) 1 k x = pq (bk_w c 1 k x) p4 q4 := fun c k x => pq_wn (by decide)
  rw [g1, g5]; simp only [zq_bindP, d10, ↓reduceIte]; rw [g4]
  simp only [zq_bindP, zq_letP, nI_le0 (show m4 < 2147483648 by omega), x0, x1, x2, x3, i0, i1, i2, i3, k0, k1, k2, k3, w0, d10, d11, or_true, ↓reduceIte]
  exact bth_t ⟨_, _, _, _, _, _, _, _, rfl, rfl, g3, rfl, r4, ((((F'.w1 (by omega)).w1 (by omega)).w1 (by omega)).w1 (by omega)), ⟨e2, a2, b2, f2, g0, g2⟩, wv_set (wv_set (wv_set (wv_set hw (by omega) (by omega)) (by omega) (by omega)) (by omega) (by omega)) (by omega) (by omega)⟩
end
