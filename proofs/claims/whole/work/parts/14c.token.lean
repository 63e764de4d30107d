/-! TOKENS: numbers, signs, words, by both readers -/
def vI (t : Nat → Int32) (q : Nat) : Nat → Int32
  | 0 => 0
  | n + 1 => ((10 * vI t q n) + t (q + n)) - 48
/-- a number from lo to hi stands at q -/
abbrev nq (t : Nat → Int32) (q D : Nat) (lo hi : Int32) : Prop := 1 ≤ D ∧ D ≤ 3 ∧ ¬ vI t q D < lo ∧ vI t q D ≤ hi
abbrev wq (t : Nat → Int32) (q L : Nat) (w : List Int32) : Prop := L = w.length ∧ ∀ i, i < w.length → t (q + i) = st_ch (w.getD i 0)
section
variable {N T q b p ln d b' L : Nat} {s : sk_S} {v lo hi : Int32} {t : Nat → Int32} {c : Nat → Nat → Int32}
theorem nI_d (a b : Nat) : nI (a + b) - nI a = nI b := by
  rw [show nI (a + b) - nI a = nI (a + b - a) from pk_sub (by omega), Nat.add_sub_cancel_left]
theorem n8_loop (C : tcC T s t ln) (hq : q ≤ ln) {p1 p2 : Int32} {kC : sk_S → Int32 → Int32 → Int32 → Int32 → Option (sk_S × Int32)} : ∀ (r i fuel : Nat), i + r = min 4 (rne isD t ln q - q) → r < fuel → x9_takeNumber_L8 N T kC fuel (tS T s q b v) p1 p2 (nI (q + i)) (vI t q i) = kC (tS T s q b v) p1 p2 (nI (q + min 4 (rne isD t ln q - q))) (vI t q (min 4 (rne isD t ln q - q))) := by
  have h4 := C.2.2.2
  have g1 := rne_ge (P := isD) (t := t) (ln := ln) (p := q)
  have g2 := rne_le (P := isD) (t := t) hq
  have g3 := rne_end (P := isD) (t := t) (ln := ln) (p := q)
  intro r
  induction r with
  | zero =>
    intro i fuel h1 h2
    obtain ⟨fuel, rfl⟩ : ∃ q, fuel = q + 1 := ⟨fuel - 1, by omega⟩
    have e1 : min 4 (rne isD t ln q - q) = i := by omega
    rw [e1]
    simp only [x9_takeNumber_L8, zq_letP]
    rw [tC_1 C]
    by_cases hl : ln ≤ q + i
    · rw [if_pos (by rw [zq_le (by omega) (by omega)]; exact hl)]
    · rw [if_neg (by rw [zq_le (by omega) (by omega)]; exact hl), if_pos (tC_in C (by omega)), zq_cl (by omega), tC_b C (by omega)]
      by_cases a1 : t (q + i) < 48
      · rw [if_pos a1]
      · rw [if_neg a1]
        by_cases a2 : 57 < t (q + i)
        · rw [if_pos a2]
        · rw [if_neg a2]
          have i4 : i = 4 := by
            refine Classical.byContradiction (fun hn => g3 ?_)
            have e : rne isD t ln q = q + i := by omega
            rw [e]
            exact ⟨by omega, decide_eq_true ⟨a1, a2⟩⟩
          subst i4
          rw [tS_3, nI_d, if_pos (by decide)]
  | succ r ih =>
    intro i fuel h1 h2
    obtain ⟨fuel, rfl⟩ : ∃ q, fuel = q + 1 := ⟨fuel - 1, by omega⟩
    obtain ⟨a0, a1⟩ := rne_in (P := isD) (t := t) (ln := ln) (p := q) (i := q + i) (by omega) (by omega)
    have a2 := of_decide_eq_true a1
    simp only [x9_takeNumber_L8, zq_letP]
    rw [tC_1 C, if_neg (by rw [zq_le (by omega) (by omega)]; omega), if_pos (tC_in C a0), zq_cl (by omega), tC_b C a0, if_neg a2.1, if_neg a2.2, tS_3, nI_d, if_neg (by show ¬ nI 3 < nI i; rw [zq_lt (by decide) (by omega)]; omega), nI_1]
    exact ih (i + 1) fuel (by omega) (by omega)
theorem tn_ok (hN : 1000 ≤ N) (C : tcC T s t ln) (hq : q ≤ ln) : x9_takeNumber N (tS T s q b v) T lo hi = if nq t q (rne isD t ln q - q) lo hi then some (tS T s (rne isB t ln (rne isD t ln q)) q (vI t q (rne isD t ln q - q)), 1) else some (tS T s q b v, 0) := by
  have h4 := C.2.2.2
  have g1 := rne_ge (P := isD) (t := t) (ln := ln) (p := q)
  have g2 := rne_le (P := isD) (t := t) hq
  unfold x9_takeNumber
  simp only [zq_letP]
  rw [if_pos (tC_l C), tS_3]
  have a := n8_loop (N := N) (b := b) (v := v) C hq (p1 := lo) (p2 := hi) (kC := fun q3 x4 x5 x6 x7 => (if x6 = (sk_c q3 T 3) then (some (q3, 0)) else (if (3 : Int32) < (x6 - (sk_c q3 T 3)) then (some (q3, 0)) else (if x7 < x4 then (some (q3, 0)) else (if x7 ≤ x5 then ((x9_step N q3 T (x6 - (sk_c q3 T 3))).bind (fun zz => (fun q13 x14 => (ky_let (sk_wc q13 T 2 x7) (fun q17 => (some (q17, 1))))) zz.1 zz.2)) else (some (q3, 0))))))) (min 4 (rne isD t ln q - q)) 0 N (by omega) (by omega)
  have a' : x9_takeNumber_L8 N T _ N (tS T s q b v) lo hi (nI q) 0 = _ := a
  simp only [zq_letP] at a'
  rw [a', tS_3, nI_d]
  generalize hD : rne isD t ln q - q = D at *
  have eD : rne isD t ln q = q + D := by omega
  rw [eD] at *
  by_cases d0 : D = 0
  · subst d0
    rw [if_pos (show nI (q + min 4 0) = nI q from rfl), if_neg (show ¬ nq t q 0 lo hi from fun h => by have := h.1; omega)]
  · rw [if_neg (by rw [zq_eq (by omega) (by omega)]; omega)]
    by_cases d3 : D ≤ 3
    · rw [show min 4 D = D by omega, if_neg (by show ¬ nI 3 < nI D; rw [zq_lt (by decide) (by omega)]; omega)]
      by_cases e1 : vI t q D < lo
      · rw [if_pos e1, if_neg (fun h => h.2.2.1 e1)]
      · rw [if_neg e1]
        by_cases e2 : vI t q D ≤ hi
        · rw [if_pos e2, if_pos ⟨by omega, d3, e1, e2⟩, sp_ok hN C (by omega)]
          simp only [zq_bindP]
          rw [tS_w2]
        · rw [if_neg e2, if_neg (fun h => e2 h.2.2.2)]
    · rw [if_pos (by show nI 3 < nI (min 4 D); rw [zq_lt (by decide) (by omega)]; omega), if_neg (fun h => d3 h.2.1)]
theorem n6_loop (C : tcR c t ln) (hq : q ≤ ln) {p1 p2 : Int32} {kR : (Nat → Nat → Int32) → Int32 → Int32 → Int32 → Option ((Nat → Nat → Int32) × Int32)} : ∀ (r i fuel : Nat), q + i + r = rne isD t ln q → r < fuel → md_number_L6 N kR fuel (pq c (q + i) q) p1 p2 (vI t q (min 3 i)) = kR (pq c (rne isD t ln q) q) p1 p2 (vI t q (min 3 (rne isD t ln q - q))) := by
  have h4 := C.2.2
  have g2 := rne_le (P := isD) (t := t) hq
  have g3 := rne_end (P := isD) (t := t) (ln := ln) (p := q)
  have il : ∀ p, p ≤ ln → md_isAt_r (pq c p q) 48 57 = if p < ln ∧ isD (t p) = true then 1 else 0 := fun p hp => by
    rw [ia_ok C hp]
    by_cases h : p < ln ∧ isD (t p) = true
    · rw [if_pos h, if_pos ⟨h.1, of_decide_eq_true h.2⟩]
    · rw [if_neg h, if_neg (fun q => h ⟨q.1, decide_eq_true q.2⟩)]
  intro r
  induction r with
  | zero =>
    intro i fuel h1 h2
    obtain ⟨fuel, rfl⟩ : ∃ q, fuel = q + 1 := ⟨fuel - 1, by omega⟩
    have e : rne isD t ln q = q + i := by omega
    have hn : ¬ (q + i < ln ∧ isD (t (q + i)) = true) := by rw [← e]; exact g3
    rw [e, Nat.add_sub_cancel_left]
    simp only [md_number_L6]
    rw [if_pos (tR_i C (by omega) 48).1, if_pos (tR_i C (by omega) 48).2, il _ (by omega), if_neg hn, if_pos rfl]
  | succ r ih =>
    intro i fuel h1 h2
    obtain ⟨fuel, rfl⟩ : ∃ q, fuel = q + 1 := ⟨fuel - 1, by omega⟩
    have a0 := rne_in (P := isD) (t := t) (ln := ln) (p := q) (i := q + i) (by omega) (by omega)
    have i1 := ih (i + 1) fuel (by omega) (by omega)
    simp only [md_number_L6, zq_letP]
    rw [if_pos (tR_i C (by omega) 48).1, if_pos (tR_i C (by omega) 48).2, il _ (by omega), if_pos a0, if_neg (by decide), pq_10, pq_12, nI_d, nI_1, pq_w10]
    by_cases h3 : 3 ≤ i
    · rw [if_pos (by show nI 3 ≤ nI i; rw [zq_le (by decide) (by omega)]; omega)]
      rw [show min 3 (i + 1) = min 3 i by omega] at i1
      exact i1
    · rw [if_neg (by show ¬ nI 3 ≤ nI i; rw [zq_le (by decide) (by omega)]; omega), if_pos (zq_inBt (by omega) (by decide)), zq_cl (by omega), tR_b C a0.1, show min 3 i = i by omega]
      rw [show min 3 (i + 1) = i + 1 by omega] at i1
      exact i1
theorem nu_ok (hN : 1000 ≤ N) (C : tcR c t ln) (hp : p ≤ ln) (hq : rne isB t ln p = q) : md_number N (pq c p b') lo hi = some (pq c (rne isD t ln q) q, if nq t q (rne isD t ln q - q) lo hi then vI t q (rne isD t ln q - q) else -1) := by
  have h4 := C.2.2
  have hq' : q ≤ ln := by rw [← hq]; exact rne_le hp
  have g1 := rne_ge (P := isD) (t := t) (ln := ln) (p := q)
  have g2 := rne_le (P := isD) (t := t) hq'
  unfold md_number
  rw [bl_ok hN C hp, hq]
  simp only [zq_bindP]
  have a := n6_loop (N := N) C hq' (p1 := lo) (p2 := hi) (kR := fun q6 x7 x8 x9 => (if (q6 0 10) = (q6 0 12) then (some (q6, (-1))) else (if (3 : Int32) < ((q6 0 10) - (q6 0 12)) then (some (q6, (-1))) else (if x9 < x7 then (some (q6, (-1))) else (if x9 ≤ x8 then (some (q6, x9)) else (some (q6, (-1)))))))) (rne isD t ln q - q) 0 N (by omega) (by omega)
  have a' : md_number_L6 N _ N (pq c q q) lo hi 0 = _ := a
  rw [a', pq_10, pq_12]
  generalize hD : rne isD t ln q - q = D at *
  have eD : rne isD t ln q = q + D := by omega
  rw [eD] at *
  rw [nI_d]
  by_cases d0 : D = 0
  · subst d0
    rw [if_pos (show nI (q + 0) = nI q from rfl), if_neg (show ¬ nq t q 0 lo hi from fun h => by have := h.1; omega)]
  · rw [if_neg (by rw [zq_eq (by omega) (by omega)]; omega)]
    by_cases d3 : D ≤ 3
    · rw [show min 3 D = D by omega, if_neg (by show ¬ nI 3 < nI D; rw [zq_lt (by decide) (by omega)]; omega)]
      by_cases e1 : vI t q D < lo
      · rw [if_pos e1, if_neg (fun h => h.2.2.1 e1)]
      · rw [if_neg e1]
        by_cases e2 : vI t q D ≤ hi
        · rw [if_pos e2, if_pos ⟨by omega, d3, e1, e2⟩]
        · rw [if_neg e2, if_neg (fun h => e2 h.2.2.2)]
    · rw [if_pos (by show nI 3 < nI D; rw [zq_lt (by decide) (by omega)]; omega), if_neg (fun h => d3 h.2.1)]
/-- a number, taken by both or by none -/
theorem nm_both (hN : 1000 ≤ N) (C : tcC T s t ln) (C' : tcR c t ln) (hp : p ≤ ln) (hq : rne isB t ln p = q) {lo hi : Nat} (hh : hi < 2147483648) (hl : lo < 2147483648) :
    (x9_takeNumber N (tS T s q b v) T (nI lo) (nI hi) = some (tS T s q b v, 0) ∧ ∃ p', p' ≤ ln ∧ q ≤ p' ∧ md_number N (pq c p b') (nI lo) (nI hi) = some (pq c p' q, -1)) ∨
    ∃ n D, lo ≤ n ∧ n ≤ hi ∧ 1 ≤ D ∧ q + D ≤ ln ∧ x9_takeNumber N (tS T s q b v) T (nI lo) (nI hi) = some (tS T s (rne isB t ln (q + D)) q (nI n), 1) ∧ md_number N (pq c p b') (nI lo) (nI hi) = some (pq c (q + D) q, nI n) := by
  have hq' : q ≤ ln := by rw [← hq]; exact rne_le hp
  have g1 := rne_ge (P := isD) (t := t) (ln := ln) (p := q)
  have g2 := rne_le (P := isD) (t := t) hq'
  rw [tn_ok hN C hq', nu_ok hN C' hp hq]
  generalize hD : rne isD t ln q - q = D at *
  have eD : rne isD t ln q = q + D := by omega
  rw [eD] at *
  by_cases h : nq t q D (nI lo) (nI hi)
  · right
    obtain ⟨h1, h2, h3, h5⟩ := h
    rw [fa_lt, nI_toInt (by omega)] at h3
    rw [fa_le, nI_toInt (by omega)] at h5
    have e : vI t q D = nI (vI t q D).toInt.toNat := by rw [fa_eq, nI_toInt (by omega)]; omega
    refine ⟨(vI t q D).toInt.toNat, D, by omega, by omega, h1, by omega, ?_, ?_⟩
    · rw [if_pos (show nq t q D (nI lo) (nI hi) from ⟨h1, h2, by rw [fa_lt, nI_toInt (by omega)]; exact h3, by rw [fa_le, nI_toInt (by omega)]; exact h5⟩), ← e]
    · rw [if_pos (show nq t q D (nI lo) (nI hi) from ⟨h1, h2, by rw [fa_lt, nI_toInt (by omega)]; exact h3, by rw [fa_le, nI_toInt (by omega)]; exact h5⟩), ← e]
  · left
    rw [if_neg h, if_neg h]
    exact ⟨rfl, q + D, by omega, by omega, rfl⟩
/-- a sign, taken by both or by none -/
theorem sg_both (hN : 1000 ≤ N) (C : tcC T s t ln) (C' : tcR c t ln) (hp : p ≤ ln) (hq : rne isB t ln p = q) (ch : Int32) :
    (x9_takeSign N (tS T s q b v) T ch = some (tS T s q b v, 0) ∧ md_sign N (pq c p b') ch = some (pq c q q, 0) ∧ ¬ (q < ln ∧ t q = ch)) ∨
    (q + 1 ≤ ln ∧ t q = ch ∧ x9_takeSign N (tS T s q b v) T ch = some (tS T s (rne isB t ln (q + 1)) q v, 1) ∧ md_sign N (pq c p b') ch = some (pq c (q + 1) q, 1)) := by
  have h4 := C.2.2.2
  have hq' : q ≤ ln := by rw [← hq]; exact rne_le hp
  have rr : md_sign N (pq c p b') ch = if q < ln ∧ t q = ch then some (pq c (q + 1) q, 1) else some (pq c q q, 0) := by
    unfold md_sign
    rw [bl_ok hN C' hp, hq]
    simp only [zq_bindP, zq_letP]
    rw [if_pos (tR_i C' hq' ch).1, if_pos (tR_i C' hq' ch).2, ia_ok C' hq', pq_10, nI_1, pq_w10]
    by_cases h : q < ln ∧ t q = ch
    · rw [if_pos h, if_pos (show q < ln ∧ ¬ t q < ch ∧ ¬ ch < t q from ⟨h.1, i32_ne h.2⟩), if_neg (by decide)]
    · have hn : ¬ (q < ln ∧ ¬ t q < ch ∧ ¬ ch < t q) := fun x => h ⟨x.1, i32_eq x.2.1 x.2.2⟩
      rw [if_neg h, if_neg hn, if_pos rfl]
  have rc : x9_takeSign N (tS T s q b v) T ch = if q < ln ∧ t q = ch then some (tS T s (rne isB t ln (q + 1)) q v, 1) else some (tS T s q b v, 0) := by
    unfold x9_takeSign
    rw [if_pos (tC_l C), tC_1 C, tS_3]
    by_cases hl : ln ≤ q
    · rw [if_pos (by rw [zq_le (by omega) (by omega)]; exact hl), if_neg (fun x => by omega)]
    · rw [if_neg (by rw [zq_le (by omega) (by omega)]; exact hl), if_pos (tC_in C (by omega)), zq_cl (by omega), tC_b C (by omega)]
      by_cases h : t q = ch
      · have a := sp_ok (N := N) (b := b) (v := v) hN C (q := q) (d := 1) (by omega)
        have a' : x9_step N (tS T s q b v) T 1 = some (tS T s (rne isB t ln (q + 1)) q v, 0) := a
        rw [if_pos h, if_pos ⟨by omega, h⟩, a']
        rfl
      · rw [if_neg h, if_neg (fun x => h x.2)]
  by_cases h : q < ln ∧ t q = ch
  · right
    rw [rc, rr, if_pos h, if_pos h]
    exact ⟨by omega, h.2, rfl, rfl⟩
  · left
    rw [rc, rr, if_neg h, if_neg h]
    exact ⟨rfl, rfl, h⟩
/-! words -/
theorem gd_app : ∀ (pre l : List Int32) (i : Nat), (pre ++ l).getD (pre.length + i) 0 = l.getD i 0
  | [], l, i => by simp
  | a :: pre, l, i => by
    show (a :: (pre ++ l)).getD (pre.length + 1 + i) 0 = _
    rw [show pre.length + 1 + i = (pre.length + i) + 1 by omega, List.getD_cons_succ]
    exact gd_app pre l i
theorem gd_in : ∀ (w r : List Int32) (i : Nat), i < w.length → (w ++ r).getD i 0 = w.getD i 0
  | [], _, i, h => absurd h (Nat.not_lt_zero i)
  | a :: w, r, 0, h => rfl
  | a :: w, r, i + 1, h => by
    show (a :: (w ++ r)).getD (i + 1) 0 = _
    rw [List.getD_cons_succ, List.getD_cons_succ]
    exact gd_in w r i (Nat.lt_of_succ_lt_succ h)
theorem iw_loop (C : tcR c t ln) {w : List Int32} (hL : q + w.length ≤ ln) (hw : w.length < 1000) : ∀ (r i fuel : Nat), i + r = w.length → r + 1 < fuel → (∀ j, j < i → t (q + j) = st_ch (w.getD j 0)) → md_isWord_L24 N w (fun q8 x9 x10 => (if (x9 = 0 ∨ x9 = 1) then (some (q8, x9)) else none)) fuel (pq c p q) 1 (nI i) = some (pq c p q, if (∀ j, j < w.length → t (q + j) = st_ch (w.getD j 0)) then 1 else 0) := by
  have h4 := C.2.2
  intro r
  induction r with
  | zero =>
    intro i fuel h1 h2 hj
    obtain ⟨fuel, rfl⟩ : ∃ q, fuel = q + 1 := ⟨fuel - 1, by omega⟩
    obtain rfl : i = w.length := by omega
    simp only [md_isWord_L24]
    rw [if_neg (by decide), if_pos (by show nI w.length ≤ nI w.length; rw [zq_le (by omega) (by omega)]; omega), if_pos (.inr trivial), if_pos hj]
  | succ r ih =>
    intro i fuel h1 h2 hj
    obtain ⟨fuel, rfl⟩ : ∃ q, fuel = q + 1 := ⟨fuel - 1, by omega⟩
    simp only [md_isWord_L24, zq_letP]
    rw [if_neg (by decide), if_neg (by show ¬ nI w.length ≤ nI i; rw [zq_le (by omega) (by omega)]; omega), pq_12, nI_add, if_pos (zq_inBt (by omega) (by decide)), if_pos (by omega), if_pos (zq_inBt (by omega) (by omega)), zq_cl (by omega), zq_cl (by omega), tR_b C (by omega), nI_1]
    by_cases h : t (q + i) = st_ch (w.getD i 0)
    · rw [if_pos h]
      exact ih (i + 1) fuel (by omega) (by omega) (fun j hj' => by
        by_cases e : j = i
        · rw [e]; exact h
        · exact hj j (by omega))
    · obtain ⟨fuel, rfl⟩ : ∃ q, fuel = q + 1 := ⟨fuel - 1, by omega⟩
      rw [if_neg h, if_neg (fun x => h (x i (by omega)))]
      simp only [md_isWord_L24]
      rw [if_pos trivial, if_pos (.inl trivial)]
theorem iw_ok (hN : 2000 ≤ N) (C : tcR c t ln) {w : List Int32} (hL : q + L ≤ ln) (hw : w.length < 1000) : md_isWord N (pq c (q + L) q) w = some (pq c (q + L) q, if wq t q L w then 1 else 0) := by
  have h4 := C.2.2
  unfold md_isWord
  rw [pq_10, pq_12, nI_d]
  by_cases h : L = w.length
  · subst h
    rw [if_pos (show nI w.length = Int32.ofNat w.length from rfl)]
    have a := iw_loop (N := N) C (p := q + w.length) hL hw w.length 0 N (by omega) (by omega) (fun j hj => by omega)
    refine Eq.trans a ?_
    by_cases g : ∀ j, j < w.length → t (q + j) = st_ch (w.getD j 0)
    · rw [if_pos g, if_pos (show wq t q w.length w from ⟨rfl, g⟩)]
    · rw [if_neg g, if_neg (show ¬ wq t q w.length w from fun x => g x.2)]
  · rw [if_neg (by show ¬ nI L = nI w.length; rw [zq_eq (by omega) (by omega)]; exact h), if_neg (show ¬ wq t q L w from fun x => h x.1)]
    obtain ⟨M, rfl⟩ : ∃ M, N = M + 1 := ⟨N - 1, by omega⟩
    simp only [md_isWord_L24]
    rw [if_pos trivial, if_pos (.inl trivial)]
theorem ih_loop (C : tcC T s t ln) {b1 : List Int32} {st : Nat} (hL : q + L ≤ ln) (hs : st + L ≤ b1.length) (hb1 : b1.length < 1000) : ∀ (r i fuel : Nat), i + r = L → r < fuel → (∀ j, j < i → t (q + j) = st_ch (b1.getD (st + j) 0)) → x9_isHere_L3 N T b1 (fun q2 x3 x4 x5 => (some (q2, 1))) fuel (tS T s q b v) (nI st) (nI L) (nI i) = some (tS T s q b v, if (∀ j, j < L → t (q + j) = st_ch (b1.getD (st + j) 0)) then 1 else 0) := by
  have h4 := C.2.2.2
  intro r
  induction r with
  | zero =>
    intro i fuel h1 h2 hj
    obtain ⟨fuel, rfl⟩ : ∃ q, fuel = q + 1 := ⟨fuel - 1, by omega⟩
    obtain rfl : i = L := by omega
    simp only [x9_isHere_L3]
    rw [if_pos (by rw [zq_le (by omega) (by omega)]; omega), if_pos hj]
  | succ r ih =>
    intro i fuel h1 h2 hj
    obtain ⟨fuel, rfl⟩ : ∃ q, fuel = q + 1 := ⟨fuel - 1, by omega⟩
    simp only [x9_isHere_L3, zq_letP]
    rw [if_neg (by rw [zq_le (by omega) (by omega)]; omega), tS_3, nI_add, if_pos (zq_inBt (by omega) (by decide)), if_pos (by omega), nI_add, if_pos (zq_inBt (by omega) (by omega)), zq_cl (by omega), zq_cl (by omega), tC_b C (by omega), nI_1]
    by_cases h : t (q + i) = st_ch (b1.getD (st + i) 0)
    · rw [if_pos h]
      exact ih (i + 1) fuel (by omega) (by omega) (fun j hj' => by
        by_cases e : j = i
        · rw [e]; exact h
        · exact hj j (by omega))
    · rw [if_neg h, if_neg (fun x => h (x i (by omega)))]
def wds : List (List Int32) → List Int32
  | [] => []
  | [w] => w
  | w :: w' :: ws => w ++ 32 :: wds (w' :: ws)
def wix (t : Nat → Int32) (q L : Nat) : List (List Int32) → Option Nat
  | [] => none
  | w :: ws => if wq t q L w then some 0 else (wix t q L ws).map (· + 1)
theorem sc_loop {b1 w : List Int32} {st : Nat} {S : sk_S} {pL pW : Int32} {K : sk_S → Int32 → Int32 → Int32 → Int32 → Option (sk_S × Int32)} (hs : st + w.length ≤ b1.length) (hb1 : b1.length < 1000) (hg : ∀ i, i < w.length → b1.getD (st + i) 0 = w.getD i 0) (h32 : ∀ i, i < w.length → st_ch (w.getD i 0) ≠ 32) : ∀ (r i fuel : Nat), i + r = w.length → x9_takeOneOf_L13 N T b1 K (fuel + r) S pL pW (nI st) (nI (st + i)) = x9_takeOneOf_L13 N T b1 K fuel S pL pW (nI st) (nI (st + w.length)) := by
  intro r
  induction r with
  | zero =>
    intro i fuel h1
    obtain rfl : i = w.length := by omega
    rfl
  | succ r ih =>
    intro i fuel h1
    rw [← ih (i + 1) fuel (by omega)]
    show x9_takeOneOf_L13 N T b1 K ((fuel + r) + 1) S pL pW (nI st) (nI (st + i)) = _
    simp only [x9_takeOneOf_L13, zq_letP]
    rw [if_neg (by show ¬ nI b1.length < nI (st + i); rw [zq_lt (by omega) (by omega)]; omega), if_neg (by show ¬ nI (st + i) = nI b1.length; rw [zq_eq (by omega) (by omega)]; omega), if_pos (by omega), if_pos (zq_inBt (by omega) (by omega)), zq_cl (by omega), hg i (by omega), if_neg (h32 i (by omega)), nI_1]
    rfl
theorem tk_loop (hN : 2000 ≤ N) (C : tcC T s t ln) (hL : q + L ≤ ln) {b1 : List Int32} (hb1 : b1.length < 1000) : ∀ (ws : List (List Int32)) (pre : List Int32) (wh fuel : Nat), b1 = pre ++ wds ws → ws ≠ [] → (∀ w, w ∈ ws → ∀ i, i < w.length → st_ch (w.getD i 0) ≠ 32) → (wds ws).length + 2 ≤ fuel → wh + ws.length < 1000 → x9_takeOneOf_L13 N T b1 (fun q6 x7 x8 x9 x10 => (some (q6, (-1)))) fuel (tS T s q b v) (nI L) (nI wh) (nI pre.length) (nI pre.length) = (match wix t q L ws with | some i => some (tS T s (rne isB t ln (q + L)) q v, nI (wh + i)) | none => some (tS T s q b v, -1))
  | [], _, _, _, _, h, _, _, _ => absurd rfl h
  | [w], pre, wh, fuel, hb, _, h32, hf, hwh => by
    have h4 := C.2.2.2
    have hb : b1 = pre ++ w := hb
    have hf : w.length + 2 ≤ fuel := hf
    have hl : b1.length = pre.length + w.length := by rw [hb, List.length_append]
    have hg : ∀ i, i < w.length → b1.getD (pre.length + i) 0 = w.getD i 0 := fun i _ => by rw [hb, gd_app]
    obtain ⟨fuel, rfl⟩ : ∃ f, fuel = f + 2 + w.length := ⟨fuel - 2 - w.length, by omega⟩
    have a := sc_loop (N := N) (T := T) (b1 := b1) (w := w) (st := pre.length) (S := tS T s q b v) (pL := nI L) (pW := nI wh) (K := fun q6 x7 x8 x9 x10 => (some (q6, (-1)))) (by omega) hb1 hg (h32 w (by simp)) w.length 0 (fuel + 2) (by omega)
    refine Eq.trans a ?_
    have dn : x9_takeOneOf_L13 N T b1 (fun q6 x7 x8 x9 x10 => (some (q6, (-1)))) (fuel + 1) (tS T s q b v) (nI L) (nI (wh + 1)) (nI (pre.length + w.length + 1)) (nI (pre.length + w.length + 1)) = some (tS T s q b v, -1) := by
      simp only [x9_takeOneOf_L13]
      rw [if_pos (by show nI b1.length < nI (pre.length + w.length + 1); rw [zq_lt (by omega) (by omega)]; omega)]
    show x9_takeOneOf_L13 N T b1 _ ((fuel + 1) + 1) _ _ _ _ _ = _
    generalize fuel + 1 = F at dn ⊢
    have ew : wix t q L [w] = if wq t q L w then some 0 else none := rfl
    rw [ew]
    simp only [x9_takeOneOf_L13, zq_letP]
    rw [if_neg (by show ¬ nI b1.length < nI (pre.length + w.length); rw [zq_lt (by omega) (by omega)]; omega), if_pos (by show nI (pre.length + w.length) = nI b1.length; rw [hl]), nI_d]
    by_cases e : w.length = L
    · subst e
      have ih := ih_loop (N := N) (b := b) (v := v) C (b1 := b1) (st := pre.length) hL (by omega) hb1 w.length 0 N (by omega) (by omega) (fun j hj => by omega)
      have ih' : x9_isHere N (tS T s q b v) T b1 (nI pre.length) (nI w.length) = some (tS T s q b v, if (∀ j, j < w.length → t (q + j) = st_ch (b1.getD (pre.length + j) 0)) then 1 else 0) := by
        unfold x9_isHere; rw [if_pos (tC_l C)]; exact ih
      rw [if_pos rfl, ih']
      simp only [zq_bindP]
      by_cases g : ∀ j, j < w.length → t (q + j) = st_ch (w.getD j 0)
      · rw [if_pos (show ∀ j, j < w.length → t (q + j) = st_ch (b1.getD (pre.length + j) 0) from fun j hj => by rw [hg j hj]; exact g j hj), if_neg (by decide), sp_ok (by omega) C hL, if_pos (show wq t q w.length w from ⟨rfl, g⟩)]
        rfl
      · rw [if_neg (show ¬ ∀ j, j < w.length → t (q + j) = st_ch (b1.getD (pre.length + j) 0) from fun x => g (fun j hj => by rw [← hg j hj]; exact x j hj)), if_pos rfl, nI_1, nI_1, dn, if_neg (show ¬ wq t q w.length w from fun x => g x.2)]
    · rw [if_neg (by rw [zq_eq (by omega) (by omega)]; exact e), nI_1, nI_1, dn, if_neg (show ¬ wq t q L w from fun x => e x.1.symm)]
  | w :: w' :: ws, pre, wh, fuel, hb, _, h32, hf, hwh => by
    have h4 := C.2.2.2
    have hb : b1 = pre ++ (w ++ 32 :: wds (w' :: ws)) := hb
    have hf : (w ++ 32 :: wds (w' :: ws)).length + 2 ≤ fuel := hf
    rw [List.length_append, List.length_cons] at hf
    have hl : b1.length = pre.length + (w.length + ((wds (w' :: ws)).length + 1)) := by rw [hb, List.length_append, List.length_append, List.length_cons]
    have hg : ∀ i, i < w.length → b1.getD (pre.length + i) 0 = w.getD i 0 := fun i hi => by rw [hb, gd_app, gd_in _ _ _ hi]
    have hg32 : b1.getD (pre.length + w.length) 0 = 32 := by
      rw [hb, gd_app]
      exact gd_app w (32 :: wds (w' :: ws)) 0
    obtain ⟨fuel, rfl⟩ : ∃ f, fuel = f + 1 + w.length := ⟨fuel - 1 - w.length, by omega⟩
    have a := sc_loop (N := N) (T := T) (b1 := b1) (w := w) (st := pre.length) (S := tS T s q b v) (pL := nI L) (pW := nI wh) (K := fun q6 x7 x8 x9 x10 => (some (q6, (-1)))) (by omega) hb1 hg (h32 w (by simp)) w.length 0 (fuel + 1) (by omega)
    refine Eq.trans a ?_
    have lp : (pre ++ w ++ [32]).length = pre.length + w.length + 1 := by rw [List.length_append, List.length_append]; rfl
    have hwh : wh + ((w' :: ws).length + 1) < 1000 := hwh
    by_cases hwh' : wh + 1 < 1000
    · have dn := tk_loop hN C hL hb1 (w' :: ws) (pre ++ w ++ [32]) (wh + 1) fuel (by rw [hb]; simp) (by simp) (fun x hx => h32 x (List.mem_cons_of_mem _ hx)) (by omega) (by omega)
      rw [lp] at dn
      have ew : wix t q L (w :: w' :: ws) = if wq t q L w then some 0 else (wix t q L (w' :: ws)).map (· + 1) := rfl
      have fin : (match (wix t q L (w' :: ws)).map (· + 1) with | some i => some (tS T s (rne isB t ln (q + L)) q v, nI (wh + i)) | none => some (tS T s q b v, -1)) = (match wix t q L (w' :: ws) with | some i => some (tS T s (rne isB t ln (q + L)) q v, nI (wh + 1 + i)) | none => some (tS T s q b v, -1)) := by
        cases wix t q L (w' :: ws) with
        | none => rfl
        | some i => show some (_, nI (wh + (i + 1))) = some (_, nI (wh + 1 + i)); rw [show wh + (i + 1) = wh + 1 + i by omega]
      rw [ew]
      simp only [x9_takeOneOf_L13, zq_letP]
      rw [if_neg (by show ¬ nI b1.length < nI (pre.length + w.length); rw [zq_lt (by omega) (by omega)]; omega), if_neg (by show ¬ nI (pre.length + w.length) = nI b1.length; rw [zq_eq (by omega) (by omega)]; omega), if_pos (by omega), if_pos (zq_inBt (by omega) (by omega)), zq_cl (by omega), hg32, if_pos (by decide), nI_d]
      by_cases e : w.length = L
      · subst e
        have ih := ih_loop (N := N) (b := b) (v := v) C (b1 := b1) (st := pre.length) hL (by omega) hb1 w.length 0 N (by omega) (by omega) (fun j hj => by omega)
        have ih' : x9_isHere N (tS T s q b v) T b1 (nI pre.length) (nI w.length) = some (tS T s q b v, if (∀ j, j < w.length → t (q + j) = st_ch (b1.getD (pre.length + j) 0)) then 1 else 0) := by
          unfold x9_isHere; rw [if_pos (tC_l C)]; exact ih
        rw [if_pos rfl, ih']
        simp only [zq_bindP]
        by_cases g : ∀ j, j < w.length → t (q + j) = st_ch (w.getD j 0)
        · rw [if_pos (show ∀ j, j < w.length → t (q + j) = st_ch (b1.getD (pre.length + j) 0) from fun j hj => by rw [hg j hj]; exact g j hj), if_neg (by decide), sp_ok (by omega) C hL, if_pos (show wq t q w.length w from ⟨rfl, g⟩)]
          rfl
        · rw [if_neg (show ¬ ∀ j, j < w.length → t (q + j) = st_ch (b1.getD (pre.length + j) 0) from fun x => g (fun j hj => by rw [← hg j hj]; exact x j hj)), if_pos rfl, nI_1, nI_1, dn, if_neg (show ¬ wq t q w.length w from fun x => g x.2), fin]
      · rw [if_neg (by rw [zq_eq (by omega) (by omega)]; exact e), nI_1, nI_1, dn, if_neg (show ¬ wq t q L w from fun x => e x.1.symm), fin]
    · omega
theorem wix_n : ∀ (ws : List (List Int32)), wix t q L ws = none → ∀ i, i < ws.length → ¬ wq t q L (ws.getD i [])
  | [], _, i, h => absurd h (Nat.not_lt_zero i)
  | w :: ws, h, i, hi => by
    have e : wix t q L (w :: ws) = if wq t q L w then some 0 else (wix t q L ws).map (· + 1) := rfl
    rw [e] at h
    by_cases g : wq t q L w
    · rw [if_pos g] at h; cases h
    · rw [if_neg g] at h
      have h' : wix t q L ws = none := by
        cases hx : wix t q L ws with
        | none => rfl
        | some k => rw [hx] at h; cases h
      cases i with
      | zero => exact g
      | succ i => rw [List.getD_cons_succ]; exact wix_n ws h' i (Nat.lt_of_succ_lt_succ hi)
theorem wix_s : ∀ (ws : List (List Int32)) (i : Nat), wix t q L ws = some i → i < ws.length ∧ wq t q L (ws.getD i [])
  | [], _, h => by cases h
  | w :: ws, i, h => by
    have e : wix t q L (w :: ws) = if wq t q L w then some 0 else (wix t q L ws).map (· + 1) := rfl
    rw [e] at h
    by_cases g : wq t q L w
    · rw [if_pos g] at h
      obtain rfl : 0 = i := by injection h
      exact ⟨Nat.succ_pos _, g⟩
    · rw [if_neg g] at h
      cases hx : wix t q L ws with
      | none => rw [hx] at h; cases h
      | some k =>
        rw [hx] at h
        obtain rfl : k + 1 = i := by injection h
        have := wix_s ws k hx
        exact ⟨Nat.succ_lt_succ this.1, by rw [List.getD_cons_succ]; exact this.2⟩
/-- one of the words, by the class -/
theorem oo_ok (hN : 2000 ≤ N) (C : tcC T s t ln) (hq : q ≤ ln) (ws : List (List Int32)) (hne : ws ≠ []) (h32 : ∀ w, w ∈ ws → ∀ i, i < w.length → st_ch (w.getD i 0) ≠ 32) (hb1 : (wds ws).length < 1000) (hws : ws.length < 1000) :
    (x9_takeOneOf N (tS T s q b v) T (wds ws) = some (tS T s q b v, -1) ∧ ∀ i, i < ws.length → ¬ wq t q (rne isL t ln q - q) (ws.getD i [])) ∨
    ∃ i, i < ws.length ∧ wq t q (rne isL t ln q - q) (ws.getD i []) ∧ x9_takeOneOf N (tS T s q b v) T (wds ws) = some (tS T s (rne isB t ln (rne isL t ln q)) q v, nI i) := by
  have h4 := C.2.2.2
  have g1 := rne_ge (P := isL) (t := t) (ln := ln) (p := q)
  have g2 := rne_le (P := isL) (t := t) hq
  have a := tk_loop (N := N) (b := b) (v := v) (q := q) (L := rne isL t ln q - q) hN C (by omega) hb1 ws [] 0 N rfl hne h32 (by omega) (by omega)
  have e : x9_takeOneOf N (tS T s q b v) T (wds ws) = (match wix t q (rne isL t ln q - q) ws with | some i => some (tS T s (rne isB t ln (q + (rne isL t ln q - q))) q v, nI (0 + i)) | none => some (tS T s q b v, -1)) := by
    unfold x9_takeOneOf
    rw [if_pos (tC_l C), ls_ok (by omega) C hq]
    simp only [zq_bindP]
    exact a
  rw [show q + (rne isL t ln q - q) = rne isL t ln q by omega] at e
  cases hx : wix t q (rne isL t ln q - q) ws with
  | none =>
    rw [hx] at e
    exact .inl ⟨e, wix_n ws hx⟩
  | some i =>
    rw [hx] at e
    have := wix_s ws i hx
    refine .inr ⟨i, this.1, this.2, ?_⟩
    rw [e]
    show some (_, nI (0 + i)) = _
    rw [Nat.zero_add]
/-- one word, by both -/
theorem wd_both (hN : 2000 ≤ N) (C : tcC T s t ln) (C' : tcR c t ln) (hp : p ≤ ln) (hq : rne isB t ln p = q) (w : List Int32) (h32 : ∀ i, i < w.length → st_ch (w.getD i 0) ≠ 32) (hw : w.length < 1000) (hw1 : 1 ≤ w.length) :
    (x9_takeWord N (tS T s q b v) T w = some (tS T s q b v, 0) ∧ md_passes N (pq c p b') w = some (pq c q q, 0)) ∨
    (q + w.length ≤ ln ∧ x9_takeWord N (tS T s q b v) T w = some (tS T s (rne isB t ln (q + w.length)) q v, 1) ∧ md_passes N (pq c p b') w = some (pq c (q + w.length) q, 1)) := by
  have h4 := C.2.2.2
  have hq' : q ≤ ln := by rw [← hq]; exact rne_le hp
  have g1 := rne_ge (P := isL) (t := t) (ln := ln) (p := q)
  have g2 := rne_le (P := isL) (t := t) hq'
  have eL : q + (rne isL t ln q - q) = rne isL t ln q := by omega
  have rr : md_passes N (pq c p b') w = if wq t q (rne isL t ln q - q) w then some (pq c (rne isL t ln q) q, 1) else some (pq c q q, 0) := by
    unfold md_passes
    rw [le_ok (by omega) C' hp, hq]
    simp only [zq_bindP, zq_letP]
    have a := iw_ok (N := N) (q := q) (L := rne isL t ln q - q) hN C' (by omega) hw
    rw [eL] at a
    rw [a]
    simp only [zq_bindP, zq_letP]
    by_cases h : wq t q (rne isL t ln q - q) w
    · rw [if_pos h, if_pos h, if_neg (by decide)]
    · rw [if_neg h, if_neg h, if_pos rfl, pq_12, pq_w10]
  have oo := oo_ok (N := N) (b := b) (v := v) hN C hq' [w] (by simp) (fun x hx => by
    obtain rfl : x = w := by simpa using hx
    exact h32) hw (by simp)
  have tw : ∀ S x, x9_takeOneOf N (tS T s q b v) T w = some (S, x) → x9_takeWord N (tS T s q b v) T w = if x = 0 then some (S, 1) else some (S, 0) := fun S x e => by
    unfold x9_takeWord
    rw [if_pos (tC_l C), e]
    rfl
  rcases oo with ⟨o1, o2⟩ | ⟨i, o1, o2, o3⟩
  · left
    have hn : ¬ wq t q (rne isL t ln q - q) w := o2 0 (by simp)
    refine ⟨?_, by rw [rr, if_neg hn]⟩
    rw [tw _ _ o1, if_neg (by decide)]
  · right
    have hi : i = 0 := by have : i < 1 := o1; omega
    subst hi
    have o2 : wq t q (rne isL t ln q - q) w := o2
    have e : rne isL t ln q = q + w.length := by have := o2.1; omega
    refine ⟨by omega, ?_, ?_⟩
    · rw [tw _ _ o3, if_pos (by decide), e]
    · rw [rr, if_pos o2, e]
end
