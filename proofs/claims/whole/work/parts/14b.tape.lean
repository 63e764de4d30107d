/-! THE TAPE READ: runs of bytes, and the states of both readers -/
def rnn (P : Int32 → Bool) (t : Nat → Int32) (ln : Nat) : Nat → Nat → Nat
  | 0, p => p
  | n + 1, p => if p < ln ∧ P (t p) = true then rnn P t ln n (p + 1) else p
def rne (P : Int32 → Bool) (t : Nat → Int32) (ln p : Nat) : Nat := rnn P t ln (ln - p) p
def isB (v : Int32) : Bool := decide (v = 32)
def isL (v : Int32) : Bool := decide (¬ v < 97 ∧ ¬ 122 < v)
def isD (v : Int32) : Bool := decide (¬ v < 48 ∧ ¬ 57 < v)
section
variable {P : Int32 → Bool} {t : Nat → Int32} {ln p : Nat}
theorem rne_y (h : p < ln) (hP : P (t p) = true) : rne P t ln p = rne P t ln (p + 1) := by
  unfold rne
  rw [show ln - p = (ln - (p + 1)) + 1 by omega]
  show (if p < ln ∧ P (t p) = true then rnn P t ln (ln - (p + 1)) (p + 1) else p) = _
  rw [if_pos ⟨h, hP⟩]
theorem rne_n (h : ¬ (p < ln ∧ P (t p) = true)) : rne P t ln p = p := by
  unfold rne
  cases ln - p with
  | zero => rfl
  | succ n =>
    show (if p < ln ∧ P (t p) = true then rnn P t ln n (p + 1) else p) = _
    rw [if_neg h]
theorem rne_f : ∀ r p, ln - p = r → p ≤ rne P t ln p ∧ (p ≤ ln → rne P t ln p ≤ ln) ∧ ¬ (rne P t ln p < ln ∧ P (t (rne P t ln p)) = true) ∧ ∀ i, p ≤ i → i < rne P t ln p → i < ln ∧ P (t i) = true := by
  intro r
  induction r with
  | zero =>
    intro p hr
    have e : rne P t ln p = p := rne_n (fun h => by omega)
    rw [e]
    exact ⟨Nat.le_refl _, fun h => h, fun h => by omega, fun i h1 h2 => by omega⟩
  | succ r ih =>
    intro p hr
    by_cases h : p < ln ∧ P (t p) = true
    · obtain ⟨a1, a2, a3, a4⟩ := ih (p + 1) (by omega)
      rw [rne_y h.1 h.2]
      refine ⟨by omega, fun _ => a2 (by omega), a3, fun i h1 h2 => ?_⟩
      by_cases e : i = p
      · subst e; exact h
      · exact a4 i (by omega) h2
    · rw [rne_n h]
      exact ⟨Nat.le_refl _, fun h => h, h, fun i h1 h2 => by omega⟩
theorem rne_ge : p ≤ rne P t ln p := (rne_f _ p rfl).1
theorem rne_le (h : p ≤ ln) : rne P t ln p ≤ ln := (rne_f _ p rfl).2.1 h
theorem rne_end : ¬ (rne P t ln p < ln ∧ P (t (rne P t ln p)) = true) := (rne_f _ p rfl).2.2.1
theorem rne_in {i : Nat} (h1 : p ≤ i) (h2 : i < rne P t ln p) : i < ln ∧ P (t i) = true := (rne_f _ p rfl).2.2.2 i h1 h2
theorem rne_idem : rne P t ln (rne P t ln p) = rne P t ln p := rne_n rne_end
end
theorem va_uu {α : Type} (f : Nat → α) (a : Nat) (x y : α) : va_up (va_up f a x) a y = va_up f a y := bx_uu f a x y
theorem va_us {α : Type} (f : Nat → α) (a : Nat) (x : α) : va_up f a x a = x := by simp [va_up]
theorem va_un {α : Type} {f : Nat → α} {a b : Nat} {x : α} (h : b ≠ a) : va_up f a x b = f b := by simp [va_up, h]
theorem va_self {α : Type} (f : Nat → α) (a : Nat) : va_up f a (f a) = f := by
  funext b
  by_cases h : b = a
  · subst h; rw [va_us]
  · rw [va_un h]
theorem va_comm {α : Type} {f : Nat → α} {a b : Nat} {x y : α} (h : a ≠ b) : va_up (va_up f a x) b y = va_up (va_up f b y) a x := by
  funext k
  by_cases h1 : k = a
  · subst h1; rw [va_un h, va_us, va_us]
  · by_cases h2 : k = b
    · subst h2; rw [va_us, va_un h1, va_us]
    · rw [va_un h2, va_un h1, va_un h1, va_un h2]
/-! the class's tape at T -/
def tF (f : Nat → Int32) (q b : Nat) (v : Int32) : Nat → Int32 := fun k => if k = 2 then v else if k = 3 then nI q else if k = 4 then nI b else f k
def tS (T : Nat) (s : sk_S) (q b : Nat) (v : Int32) : sk_S := sk_wf s T (tF (sk_c s T) q b v)
section
variable {T q b q' b' : Nat} {s : sk_S} {v v' : Int32}
theorem wf_wf {f g : Nat → Int32} : sk_wf (sk_wf s T f) T g = sk_wf s T g := by
  show (sk_K s, va_up (va_up (sk_c s) T f) T g, sk_g s, sk_r s, sk_n s, sk_m s) = _
  rw [va_uu]; rfl
theorem wf_c {f : Nat → Int32} : sk_c (sk_wf s T f) T = f := va_us _ _ _
theorem wf_cn {f : Nat → Int32} {a : Nat} (h : a ≠ T) : sk_c (sk_wf s T f) a = sk_c s a := va_un h
theorem wf_comm {a : Nat} {f g : Nat → Int32} (h : T ≠ a) : sk_wf (sk_wf s T f) a g = sk_wf (sk_wf s a g) T f := by
  show (sk_K s, va_up (va_up (sk_c s) T f) a g, sk_g s, sk_r s, sk_n s, sk_m s) = (sk_K s, va_up (va_up (sk_c s) a g) T f, sk_g s, sk_r s, sk_n s, sk_m s)
  rw [va_comm h]
theorem wf_self {a : Nat} : sk_wf s a (sk_c s a) = s := by
  show (sk_K s, va_up (sk_c s) a (sk_c s a), sk_g s, sk_r s, sk_n s, sk_m s) = s
  rw [va_self]; rfl
theorem tS_2 : sk_c (tS T s q b v) T 2 = v := by unfold tS; rw [wf_c]; rfl
theorem tS_3 : sk_c (tS T s q b v) T 3 = nI q := by unfold tS; rw [wf_c]; rfl
theorem tS_4 : sk_c (tS T s q b v) T 4 = nI b := by unfold tS; rw [wf_c]; rfl
theorem tS_1 : sk_c (tS T s q b v) T 1 = sk_c s T 1 := by unfold tS; rw [wf_c]; rfl
theorem tS_n {a : Nat} (h : a ≠ T) : sk_c (tS T s q b v) a = sk_c s a := wf_cn h
theorem tS_w2 : sk_wc (tS T s q b v) T 2 v' = tS T s q b v' := by
  unfold tS sk_wc
  rw [wf_c, wf_wf]
  congr 1
  funext k
  unfold upd tF
  by_cases h : k = 2
  · simp [h]
  · simp [h]
theorem tS_w3 : sk_wc (tS T s q b v) T 3 (nI q') = tS T s q' b v := by
  unfold tS sk_wc
  rw [wf_c, wf_wf]
  congr 1
  funext k
  unfold upd tF
  by_cases h : k = 3
  · simp [h]
  · simp [h]
theorem tS_w4 : sk_wc (tS T s q b v) T 4 (nI b') = tS T s q b' v := by
  unfold tS sk_wc
  rw [wf_c, wf_wf]
  congr 1
  funext k
  unfold upd tF
  by_cases h : k = 4
  · simp [h]
  · simp [h]
theorem tS_wn {a k : Nat} {x : Int32} (h : a ≠ T) : sk_wc (tS T s q b v) a k x = tS T (sk_wc s a k x) q b v := by
  show sk_wf (sk_wf s T (tF (sk_c s T) q b v)) a (upd (sk_c (sk_wf s T (tF (sk_c s T) q b v)) a) k x) = sk_wf (sk_wf s a (upd (sk_c s a) k x)) T (tF (sk_c (sk_wf s a (upd (sk_c s a) k x)) T) q b v)
  rw [wf_cn h, wf_comm (Ne.symm h), wf_cn (Ne.symm h)]
theorem tS_fn {a : Nat} {f : Nat → Int32} (h : a ≠ T) : sk_wf (tS T s q b v) a f = tS T (sk_wf s a f) q b v := by
  show sk_wf (sk_wf s T (tF (sk_c s T) q b v)) a f = sk_wf (sk_wf s a f) T (tF (sk_c (sk_wf s a f) T) q b v)
  rw [wf_comm (Ne.symm h), wf_cn (Ne.symm h)]
theorem tS_K : sk_K (tS T s q b v) = sk_K s := rfl
theorem tS_r : sk_r (tS T s q b v) = sk_r s := rfl
/-- the tape's bytes in the class -/
def tcC (T : Nat) (s : sk_S) (t : Nat → Int32) (ln : Nat) : Prop := lay_X9 (sk_K s) (sk_r s) T = true ∧ sk_c s T 1 = nI ln ∧ (∀ j, j < ln → sk_c s (T + 1) j = t j) ∧ ln ≤ 400
/-- in the reference -/
def tcR (c : Nat → Nat → Int32) (t : Nat → Int32) (ln : Nat) : Prop := c 0 11 = nI ln ∧ (∀ j, j < ln → c 6 j = t j) ∧ ln ≤ 400
def pF (f : Nat → Int32) (p b : Nat) : Nat → Int32 := fun k => if k = 10 then nI p else if k = 12 then nI b else f k
def pq (c : Nat → Nat → Int32) (p b : Nat) : Nat → Nat → Int32 := va_up c 0 (pF (c 0) p b)
variable {c : Nat → Nat → Int32} {p p' : Nat}
theorem pq_10 : pq c p b 0 10 = nI p := by unfold pq; rw [va_us]; rfl
theorem pq_12 : pq c p b 0 12 = nI b := by unfold pq; rw [va_us]; rfl
theorem pq_o {k : Nat} (h : k ≠ 10) (h2 : k ≠ 12) : pq c p b 0 k = c 0 k := by unfold pq; rw [va_us]; unfold pF; rw [if_neg h, if_neg h2]
theorem pq_n {a : Nat} (h : a ≠ 0) : pq c p b a = c a := va_un h
theorem pq_w10 : bk_w (pq c p b) 0 10 (nI p') = pq c p' b := by
  show va_up (pq c p b) 0 (upd (pq c p b 0) 10 (nI p')) = _
  unfold pq
  rw [va_us, va_uu]
  congr 1
  funext k
  unfold upd pF
  by_cases h : k = 10
  · simp [h]
  · simp [h]
theorem pq_w12 : bk_w (pq c p b) 0 12 (nI b') = pq c p b' := by
  show va_up (pq c p b) 0 (upd (pq c p b 0) 12 (nI b')) = _
  unfold pq
  rw [va_us, va_uu]
  congr 1
  funext k
  unfold upd pF
  by_cases h : k = 12
  · simp [h]
  · simp [h]
theorem pq_wn {a k : Nat} {x : Int32} (h : a ≠ 0) : bk_w (pq c p b) a k x = pq (bk_w c a k x) p b := by
  show va_up (va_up c 0 (pF (c 0) p b)) a (upd (va_up c 0 (pF (c 0) p b) a) k x) = va_up (va_up c a (upd (c a) k x)) 0 (pF (va_up c a (upd (c a) k x) 0) p b)
  rw [va_un h, va_comm (Ne.symm h), va_un (Ne.symm h)]
theorem pq_w0 {k : Nat} {x : Int32} (h : k ≠ 10) (h2 : k ≠ 12) : bk_w (pq c p b) 0 k x = pq (bk_w c 0 k x) p b := by
  show va_up (va_up c 0 (pF (c 0) p b)) 0 (upd (va_up c 0 (pF (c 0) p b) 0) k x) = va_up (va_up c 0 (upd (c 0) k x)) 0 (pF (va_up c 0 (upd (c 0) k x) 0) p b)
  rw [va_us, va_us, va_uu, va_uu]
  congr 1
  funext i
  unfold upd pF
  by_cases h3 : i = k
  · subst h3; simp [h, h2]
  · simp [h3]
theorem pq_self (h1 : c 0 10 = nI p) (h2 : c 0 12 = nI b) : pq c p b = c := by
  unfold pq
  have : pF (c 0) p b = c 0 := by
    funext k
    unfold pF
    by_cases h : k = 10
    · rw [if_pos h, h, h1]
    · rw [if_neg h]
      by_cases h' : k = 12
      · rw [if_pos h', h', h2]
      · rw [if_neg h']
  rw [this, va_self]
end
/-! single steps of both -/
section
variable {N T q b p ln d : Nat} {s : sk_S} {v : Int32} {t : Nat → Int32} {c : Nat → Nat → Int32}
theorem tC_l (C : tcC T s t ln) : lay_X9 (sk_K (tS T s q b v)) (sk_r (tS T s q b v)) T = true := C.1
theorem tC_1 (C : tcC T s t ln) : sk_c (tS T s q b v) T 1 = nI ln := tS_1.trans C.2.1
theorem tC_b (C : tcC T s t ln) {i : Nat} (hi : i < ln) : sk_c (tS T s q b v) (T + 1) i = t i := by rw [tS_n (by omega)]; exact C.2.2.1 i hi
theorem tC_in (C : tcC T s t ln) {i : Nat} (hi : i < ln) : ky_inB (nI i) 400 = true := zq_inBt (by have := C.2.2.2; omega) (by decide)
theorem stp_loop (C : tcC T s t ln) {p1 : Int32} {kC : sk_S → Int32 → Option (sk_S × Int32)} : ∀ (r p fuel : Nat), ln - p = r → r < fuel → p ≤ ln → x9_step_L18 N T kC fuel (tS T s p b v) p1 = kC (tS T s (rne isB t ln p) b v) p1 := by
  have h4 := C.2.2.2
  intro r
  induction r with
  | zero =>
    intro p fuel h1 h2 h3
    obtain ⟨fuel, rfl⟩ : ∃ q, fuel = q + 1 := ⟨fuel - 1, by omega⟩
    rw [rne_n (fun h => by omega)]
    simp only [x9_step_L18]
    rw [tC_1 C, tS_3, if_pos (by rw [zq_le (by omega) (by omega)]; omega)]
  | succ r ih =>
    intro p fuel h1 h2 h3
    obtain ⟨fuel, rfl⟩ : ∃ q, fuel = q + 1 := ⟨fuel - 1, by omega⟩
    simp only [x9_step_L18, zq_letP]
    rw [tC_1 C, tS_3, if_neg (by rw [zq_le (by omega) (by omega)]; omega), if_pos (tC_in C (by omega)), zq_cl (by omega), tC_b C (by omega)]
    by_cases h : t p = 32
    · rw [if_pos h, nI_1, tS_w3, rne_y (by omega) (decide_eq_true h)]
      exact ih (p + 1) fuel (by omega) (by omega) (by omega)
    · rw [if_neg h, rne_n (fun q => h (of_decide_eq_true q.2))]
theorem sp_ok (hN : 1000 ≤ N) (C : tcC T s t ln) (hd : q + d ≤ ln) : x9_step N (tS T s q b v) T (nI d) = some (tS T s (rne isB t ln (q + d)) q v, 0) := by
  have h4 := C.2.2.2
  unfold x9_step
  simp only [zq_letP]
  rw [if_pos (tC_l C), tS_3, tS_w4, tS_3, nI_add, tS_w3]
  exact stp_loop (N := N) C (kC := fun q8 x9 => (some (q8, 0))) (ln - (q + d)) (q + d) N rfl (by omega) hd
theorem bg_ok (hN : 1000 ≤ N) (C : tcC T s t ln) : x9_begin N s T = some (tS T s (rne isB t ln 0) 0 (sk_c s T 2), 0) := by
  have h4 := C.2.2.2
  unfold x9_begin x9_step
  simp only [zq_letP]
  have l1 : lay_X9 (sk_K (sk_wc s T 3 0)) (sk_r (sk_wc s T 3 0)) T = true := C.1
  have e3 : sk_c (sk_wc s T 3 0) T 3 = 0 := by rw [qc_eq, pk_us]
  have e : sk_wc (sk_wc (sk_wc s T 3 0) T 4 0) T 3 0 = tS T s 0 0 (sk_c s T 2) := by
    show sk_wf (sk_wc (sk_wc s T 3 0) T 4 0) T (upd (sk_c (sk_wc (sk_wc s T 3 0) T 4 0) T) 3 0) = sk_wf s T _
    unfold sk_wc
    rw [wf_wf, wf_wf, wf_c, wf_c]
    congr 1
    funext k
    unfold upd tF
    by_cases h : k = 3
    · simp [h]; rfl
    · by_cases h2 : k = 4
      · simp [h2]; rfl
      · by_cases h3 : k = 2
        · simp [h3]
        · simp [h, h2, h3]
  have e4 : sk_c (sk_wc (sk_wc s T 3 0) T 4 0) T 3 + 0 = 0 := by
    rw [qc_at _ _ _ _ _ _ (by omega), e3]; rfl
  rw [if_pos C.1, if_pos l1, e3, e4, e]
  have a := stp_loop (N := N) (s := s) (b := 0) (v := sk_c s T 2) C (kC := fun q8 x9 => (some (q8, 0))) (p1 := 0) (ln - 0) 0 N rfl (by omega) (by omega)
  rw [a]
  rfl
theorem ie_ok (C : tcC T s t ln) (hq : q ≤ ln) : x9_isEnded N (tS T s q b v) T = some (tS T s q b v, if q < ln then 0 else 1) := by
  have h4 := C.2.2.2
  unfold x9_isEnded
  have zl : (nI q < nI ln) = (q < ln) := zq_lt (by omega) (by omega)
  rw [if_pos (tC_l C), tS_3, tC_1 C]
  by_cases h : q < ln
  · rw [if_pos h, if_pos (by rw [zl]; exact h)]
  · rw [if_neg h, if_neg (by rw [zl]; exact h)]
theorem rf_ok (C : tcC T s t ln) : x9_refuse N (tS T s q b v) T = some (tS T s b b v, 0) := by
  unfold x9_refuse
  simp only [zq_letP]
  rw [if_pos (tC_l C), tS_4, tS_w3]
theorem lt_loop (C : tcC T s t ln) {kC : sk_S → Int32 → Option (sk_S × Int32)} : ∀ (r p fuel : Nat), ln - p = r → r < fuel → p ≤ ln → x9_letters_L5 N T kC fuel (tS T s q b v) (nI p) = kC (tS T s q b v) (nI (rne isL t ln p)) := by
  have h4 := C.2.2.2
  intro r
  induction r with
  | zero =>
    intro p fuel h1 h2 h3
    obtain ⟨fuel, rfl⟩ : ∃ q, fuel = q + 1 := ⟨fuel - 1, by omega⟩
    rw [rne_n (fun h => by omega)]
    simp only [x9_letters_L5]
    rw [tC_1 C, if_pos (by rw [zq_le (by omega) (by omega)]; omega)]
  | succ r ih =>
    intro p fuel h1 h2 h3
    obtain ⟨fuel, rfl⟩ : ∃ q, fuel = q + 1 := ⟨fuel - 1, by omega⟩
    simp only [x9_letters_L5, zq_letP]
    rw [tC_1 C, if_neg (by rw [zq_le (by omega) (by omega)]; omega), if_pos (tC_in C (by omega)), zq_cl (by omega), tC_b C (by omega)]
    by_cases h : t p < 97
    · rw [if_pos h, rne_n (fun q => (of_decide_eq_true q.2).1 h)]
    · rw [if_neg h]
      by_cases h' : 122 < t p
      · rw [if_pos h', rne_n (fun q => (of_decide_eq_true q.2).2 h')]
      · rw [if_neg h', nI_1, rne_y (by omega) (decide_eq_true ⟨h, h'⟩)]
        exact ih (p + 1) fuel (by omega) (by omega) (by omega)
theorem ls_ok (hN : 1000 ≤ N) (C : tcC T s t ln) (hq : q ≤ ln) : x9_letters N (tS T s q b v) T = some (tS T s q b v, nI (rne isL t ln q - q)) := by
  have h4 := C.2.2.2
  have g := rne_ge (P := isL) (t := t) (ln := ln) (p := q)
  unfold x9_letters
  simp only [zq_letP]
  rw [if_pos (tC_l C), tS_3, lt_loop C (ln - q) q N rfl (by omega) hq, tS_3]
  rw [show nI (rne isL t ln q) - nI q = nI (rne isL t ln q - q) from pk_sub g]
/-! the reference's -/
theorem tR_11 (C : tcR c t ln) : pq c p b 0 11 = nI ln := by rw [pq_o (by decide) (by decide)]; exact C.1
theorem tR_b (C : tcR c t ln) {i : Nat} (hi : i < ln) : pq c p b 6 i = t i := by rw [pq_n (by decide)]; exact C.2.1 i hi
theorem tR_in (C : tcR c t ln) (x : Int32) : ((¬ ((pq c p b 0 11) ≤ (pq c p b 0 10))) → ky_inB (pq c p b 0 10) 400 = true) ∨ p < 2147483648 → p ≤ ln → (((¬ ((pq c p b 0 11) ≤ (pq c p b 0 10))) → ky_inB (pq c p b 0 10) 400 = true) ∧ ((¬ ((pq c p b 0 11) ≤ (pq c p b 0 10))) → (¬ ((pq c p b 6 (Int32.toNatClampNeg (pq c p b 0 10))) < x)) → ky_inB (pq c p b 0 10) 400 = true)) := by
  intro _ hp
  have h4 := C.2.2
  have a : (¬ ((pq c p b 0 11) ≤ (pq c p b 0 10))) → ky_inB (pq c p b 0 10) 400 = true := fun h => by
    rw [tR_11 C, pq_10, zq_le (by omega) (by omega)] at h
    rw [pq_10]
    exact zq_inBt (by omega) (by decide)
  exact ⟨a, fun h _ => a h⟩
theorem tR_i (C : tcR c t ln) (hp : p ≤ ln) (x : Int32) : ((¬ ((pq c p b 0 11) ≤ (pq c p b 0 10))) → ky_inB (pq c p b 0 10) 400 = true) ∧ ((¬ ((pq c p b 0 11) ≤ (pq c p b 0 10))) → (¬ ((pq c p b 6 (Int32.toNatClampNeg (pq c p b 0 10))) < x)) → ky_inB (pq c p b 0 10) 400 = true) := by
  have h4 := C.2.2
  exact tR_in C x (.inr (by omega)) hp
theorem ia_ok (C : tcR c t ln) (hp : p ≤ ln) (lo hi : Int32) : md_isAt_r (pq c p b) lo hi = if p < ln ∧ (¬ t p < lo ∧ ¬ hi < t p) then 1 else 0 := by
  have h4 := C.2.2
  unfold md_isAt_r
  have zl : (nI ln ≤ nI p) = (ln ≤ p) := zq_le (by omega) (by omega)
  rw [tR_11 C, pq_10]
  by_cases h : ln ≤ p
  · rw [if_pos (by rw [zl]; exact h), if_neg (fun q => by omega)]
  · rw [if_neg (by rw [zl]; exact h), zq_cl (by omega), tR_b C (by omega)]
    by_cases h1 : t p < lo
    · rw [if_pos h1, if_neg (fun q => q.2.1 h1)]
    · rw [if_neg h1]
      by_cases h2 : hi < t p
      · rw [if_pos h2, if_neg (fun q => q.2.2 h2)]
      · rw [if_neg h2, if_pos ⟨by omega, h1, h2⟩]
theorem i32_eq {x y : Int32} (h1 : ¬ x < y) (h2 : ¬ y < x) : x = y := by
  rcases fa_three x y with h | h | h
  · exact absurd h h1
  · exact h
  · exact absurd h h2
theorem i32_ne {x y : Int32} (h : x = y) : ¬ x < y ∧ ¬ y < x := by
  subst h
  constructor <;> (intro q; rw [fa_lt] at q; omega)
theorem ib_ok (C : tcR c t ln) (hp : p ≤ ln) : md_isAt_r (pq c p b) 32 32 = if p < ln ∧ isB (t p) = true then 1 else 0 := by
  rw [ia_ok C hp]
  by_cases h : p < ln ∧ isB (t p) = true
  · rw [if_pos h, if_pos ⟨h.1, i32_ne (of_decide_eq_true h.2)⟩]
  · rw [if_neg h, if_neg (fun q => h ⟨q.1, decide_eq_true (i32_eq q.2.1 q.2.2)⟩)]
theorem b0_loop (C : tcR c t ln) {kR : (Nat → Nat → Int32) → Option ((Nat → Nat → Int32) × Int32)} : ∀ (r p fuel : Nat), ln - p = r → r < fuel → p ≤ ln → md_blanks_L0 N kR fuel (pq c p b) = kR (pq c (rne isB t ln p) b) := by
  have h4 := C.2.2
  intro r
  induction r with
  | zero =>
    intro p fuel h1 h2 h3
    obtain ⟨fuel, rfl⟩ : ∃ q, fuel = q + 1 := ⟨fuel - 1, by omega⟩
    have hn : ¬ (p < ln ∧ isB (t p) = true) := fun h => by omega
    simp only [md_blanks_L0]
    rw [if_pos (tR_i C h3 32).1, if_pos (tR_i C h3 32).2, ib_ok C h3, if_neg hn, if_pos rfl, rne_n hn]
  | succ r ih =>
    intro p fuel h1 h2 h3
    obtain ⟨fuel, rfl⟩ : ∃ q, fuel = q + 1 := ⟨fuel - 1, by omega⟩
    simp only [md_blanks_L0, zq_letP]
    rw [if_pos (tR_i C h3 32).1, if_pos (tR_i C h3 32).2, ib_ok C h3]
    by_cases h : p < ln ∧ isB (t p) = true
    · rw [if_pos h, if_neg (by decide), pq_10, nI_1, pq_w10, rne_y h.1 h.2]
      exact ih (p + 1) fuel (by omega) (by omega) (by omega)
    · rw [if_neg h, if_pos rfl, rne_n h]
theorem bl_ok (hN : 1000 ≤ N) (C : tcR c t ln) (hp : p ≤ ln) : md_blanks N (pq c p b) = some (pq c (rne isB t ln p) (rne isB t ln p), 0) := by
  have h4 := C.2.2
  unfold md_blanks
  simp only [zq_letP]
  rw [if_pos (tR_i C hp 32).1, if_pos (tR_i C hp 32).2, ib_ok C hp]
  by_cases h : p < ln ∧ isB (t p) = true
  · rw [if_pos h, if_neg (by decide), pq_10, nI_1, pq_w10, b0_loop C (ln - (p + 1)) (p + 1) N rfl (by omega) (by omega), ← rne_y h.1 h.2, pq_10, pq_w12]
  · rw [if_neg h, if_pos rfl, rne_n h, pq_10, pq_w12]
theorem l4_loop (C : tcR c t ln) {kR : (Nat → Nat → Int32) → Option ((Nat → Nat → Int32) × Int32)} : ∀ (r p fuel : Nat), ln - p = r → r < fuel → p ≤ ln → md_letters_L4 N kR fuel (pq c p b) = kR (pq c (rne isL t ln p) b) := by
  have h4 := C.2.2
  have il : ∀ p, p ≤ ln → md_isAt_r (pq c p b) 97 122 = if p < ln ∧ isL (t p) = true then 1 else 0 := fun p hp => by
    rw [ia_ok C hp]
    by_cases h : p < ln ∧ isL (t p) = true
    · rw [if_pos h, if_pos ⟨h.1, of_decide_eq_true h.2⟩]
    · rw [if_neg h, if_neg (fun q => h ⟨q.1, decide_eq_true q.2⟩)]
  intro r
  induction r with
  | zero =>
    intro p fuel h1 h2 h3
    obtain ⟨fuel, rfl⟩ : ∃ q, fuel = q + 1 := ⟨fuel - 1, by omega⟩
    have hn : ¬ (p < ln ∧ isL (t p) = true) := fun h => by omega
    simp only [md_letters_L4]
    rw [if_pos (tR_i C h3 97).1, if_pos (tR_i C h3 97).2, il p h3, if_neg hn, if_pos rfl, rne_n hn]
  | succ r ih =>
    intro p fuel h1 h2 h3
    obtain ⟨fuel, rfl⟩ : ∃ q, fuel = q + 1 := ⟨fuel - 1, by omega⟩
    simp only [md_letters_L4, zq_letP]
    rw [if_pos (tR_i C h3 97).1, if_pos (tR_i C h3 97).2, il p h3]
    by_cases h : p < ln ∧ isL (t p) = true
    · rw [if_pos h, if_neg (by decide), pq_10, nI_1, pq_w10, rne_y h.1 h.2]
      exact ih (p + 1) fuel (by omega) (by omega) (by omega)
    · rw [if_neg h, if_pos rfl, rne_n h]
theorem le_ok (hN : 1000 ≤ N) (C : tcR c t ln) (hp : p ≤ ln) : md_letters N (pq c p b) = some (pq c (rne isL t ln (rne isB t ln p)) (rne isB t ln p), 0) := by
  have h4 := C.2.2
  have g := rne_le (P := isB) (t := t) hp
  unfold md_letters
  rw [bl_ok hN C hp]
  simp only [zq_bindP]
  rw [l4_loop C (ln - rne isB t ln p) _ N rfl (by omega) g]
end
