/-! WAYS: the class's search, its steps -/
def wy_mv (o : Nat) : Nat := if o < 10 then o / 2 else o - 5
theorem wy_mv_eq : ∀ o, o < 12 → wy_moveOf (nI o) = nI (wy_mv o) := by decide +kernel
theorem wy_mv_lt : ∀ o, o < 12 → wy_mv o < 7 := by decide +kernel
theorem wy_ofl (v : Nat) (h : v < 1200) : po_isOut (nI v) = if v < 12 then 1 else 0 := by
  show (if nI 12 ≤ nI v then (0 : Int32) else 1) = _
  by_cases e : v < 12
  · rw [if_neg (by rw [zq_le (by decide) (by omega)]; omega), if_pos e]
  · rw [if_pos (by rw [zq_le (by decide) (by omega)]; omega), if_neg e]
def wy_V (y : Nat) (VL : Nat → Nat → Prop) (b k : Nat) : Prop := (y + 1 ≤ b ∧ b ≤ y + 7) ∨ (b = y ∧ (k = 7 ∨ k = 8)) ∨ VL b k
/-- what the search finds when it is called -/
def wy_env (N y z : Nat) (VL : Nat → Nat → Prop) (nx : Nat → Nat → Nat) (tk : Nat → Nat) (s0 : sk_S) : Prop :=
  lay_X10 (sk_K s0) (sk_r s0) y = true ∧ sk_r s0 y 10 = some z ∧ lay_X6 (sk_K s0) (sk_r s0) z = true ∧
  (∀ s o, s < 1200 → o < 12 → nx s o < 1200) ∧ (∀ o, o < 12 → 1 ≤ tk o ∧ tk o ≤ 30) ∧ (∀ o, o < 12 → sk_c s0 (z + 1) (4 * wy_mv o + 3) = nI (tk o)) ∧
  (∃ st, 1 ≤ st ∧ st < 1048576 ∧ sk_c s0 y 9 = nI st) ∧
  (∀ k, ¬ wy_V y VL (z + 1) k) ∧ (∀ b k, VL b k → ¬ (y ≤ b ∧ b ≤ y + 7)) ∧ 2000 ≤ N ∧
  (∀ s, cfr (wy_V y VL) s0 s → ∀ v o, v < 1200 → o < 12 → ∃ s', x6_after N s z (nI v) (wy_moveOf (nI o)) (nI o &&& 1) (sk_c s0 y 11) (sk_c s0 y 12) = some (s', nI (nx v o)) ∧ cfr VL s s')
def wy_ca (y : Nat) (nx : Nat → Nat → Nat) (s : sk_S) : Prop := ∀ v o, v < 1200 → o < 12 → ((sk_c s (y + 1) (12 * v + o)) >>> ((11 : Int32) &&& 31) = sk_c s y 9 → sk_c s (y + 1) (12 * v + o) &&& 2047 = nI (nx v o)) ∧ ∃ e, sk_c s (y + 1) (12 * v + o) = nI e ∧ e < 2048 * ((sk_c s y 9).toNatClampNeg + 1)
section
variable {N y z : Nat} {VL : Nat → Nat → Prop} {nx : Nat → Nat → Nat} {tk : Nat → Nat} {s0 s : sk_S}
theorem wy_at (E : wy_env N y z VL nx tk s0) (F : cfr (wy_V y VL) s0 s) (k : Nat) (hk : k ≠ 7) (hk2 : k ≠ 8) : sk_c s y k = sk_c s0 y k := by
  obtain ⟨e1, e2, e3, e4, e5, e6, e7, e8, e9, e10, e11⟩ := E
  refine F.2.2.2.2.2 y k ?_
  rintro (⟨h, _⟩ | ⟨_, h⟩ | h)
  · omega
  · omega
  · exact e9 _ _ h ⟨by omega, by omega⟩
theorem wy_lay (E : wy_env N y z VL nx tk s0) (F : cfr (wy_V y VL) s0 s) : lay_X10 (sk_K s) (sk_r s) y = true := by rw [F.1, F.2.2.1]; exact E.1
theorem wy_target (E : wy_env N y z VL nx tk s0) (F : cfr (wy_V y VL) s0 s) (hc : wy_ca y nx s) {v o : Nat} (hv : v < 1200) (ho : o < 12) :
    ∃ s', x10_target N s y (nI v) (nI o) = some (s', nI (nx v o)) ∧ cfr (fun b k => b = y + 1 ∨ VL b k) s s' ∧ wy_ca y nx s' := by
  have hlay := wy_lay E F
  have a11 := wy_at E F 11 (by decide) (by decide)
  have a12 := wy_at E F 12 (by decide) (by decide)
  have a9 := wy_at E F 9 (by decide) (by decide)
  obtain ⟨e1, e2, e3, e4, e5, e6, ⟨st, hs1, hs2, hst⟩, e8, e9, e10, e11⟩ := E
  have hx : nI v * 12 + nI o = nI (12 * v + o) := by
    show nI v * nI 12 + nI o = _
    rw [pk_mul, nI_add]; congr 1; omega
  unfold x10_target
  rw [if_pos hlay]
  simp only [zq_let]
  rw [hx, if_pos (zq_inBt (by omega) (by decide)), zq_cl (by omega)]
  by_cases h : (sk_c s (y + 1) (12 * v + o)) >>> ((11 : Int32) &&& 31) = sk_c s y 9
  · rw [if_pos h]
    exact ⟨s, by rw [(hc v o hv ho).1 h], cfr.rf, hc⟩
  · rw [if_neg h]
    have hr : sk_r s y 10 = some z := by rw [F.2.2.1]; exact e2
    have hl6 : lay_X6 (sk_K s) (sk_r s) z = true := by rw [F.1, F.2.2.1]; exact e3
    obtain ⟨s1, h1, f1⟩ := e11 s F v o hv ho
    rw [hr]
    simp only [ky_om]
    rw [if_pos hl6, a11, a12, h1]
    simp only [zq_bind]
    have hnx := e4 v o hv ho
    have s9 : sk_c s1 y 9 = nI st := by
      rw [f1.2.2.2.2.2 y 9 (fun q => e9 _ _ q ⟨by omega, by omega⟩), a9, hst]
    have hval : (sk_c s1 y 9 <<< ((11 : Int32) &&& 31)) ||| nI (nx v o) = nI (2048 * st + nx v o) := by
      rw [s9, pk_shlN (n := st) ((11 : Int32) &&& 31) 11 (by decide) (by omega)]
      have : nI (st * 2 ^ 11) = nI (2 ^ 11 * st) := by congr 1; omega
      rw [this, fa_or_sum (k := 11) st (by omega)]
    have hmask : nI (2048 * st + nx v o) &&& 2047 = nI (nx v o) := by
      have := fa_mask (2048 * st + nx v o) 11
      have e : (2048 * st + nx v o) % 2 ^ 11 = nx v o := by omega
      rw [e] at this
      exact this
    have hshr : nI (2048 * st + nx v o) >>> ((11 : Int32) &&& 31) = nI st := by
      rw [pk_shrN (by omega) ((11 : Int32) &&& 31) 11 (by decide)]
      congr 1; omega
    rw [hval]
    refine ⟨_, ?_, ((f1.mono (fun b k q => .inr q)).wc (nI (2048 * st + nx v o)) (.inl rfl) : cfr _ s (sk_wc s1 (y + 1) (12 * v + o) (nI (2048 * st + nx v o)))), ?_⟩
    · rw [qc_eq]; simp only [pk_us]; rw [hmask]
    · intro v' o' hv' ho'
      rw [qc_eq, qc_ne (by omega)]
      by_cases e : 12 * v' + o' = 12 * v + o
      · have ev : v' = v := by omega
        have eo : o' = o := by omega
        subst ev; subst eo
        rw [pk_us]
        exact ⟨fun _ => hmask, _, rfl, by rw [s9, zq_cl (by omega)]; omega⟩
      · rw [pk_un e]
        have q1 : sk_c s1 (y + 1) (12 * v' + o') = sk_c s (y + 1) (12 * v' + o') := f1.2.2.2.2.2 _ _ (fun q => e9 _ _ q ⟨by omega, by omega⟩)
        have q2 : sk_c s1 y 9 = sk_c s y 9 := f1.2.2.2.2.2 _ _ (fun q => e9 _ _ q ⟨by omega, by omega⟩)
        rw [q1, q2]
        exact hc v' o' hv' ho'
theorem wy_takes (E : wy_env N y z VL nx tk s0) (F : cfr (wy_V y VL) s0 s) {o : Nat} (ho : o < 12) : x6_takes N s z (wy_moveOf (nI o)) = some (s, nI (tk o)) := by
  obtain ⟨e1, e2, e3, e4, e5, e6, e7, e8, e9, e10, e11⟩ := E
  have hl6 : lay_X6 (sk_K s) (sk_r s) z = true := by rw [F.1, F.2.2.1]; exact e3
  have hm := wy_mv_lt o ho
  unfold x6_takes
  rw [if_pos hl6, wy_mv_eq o ho]
  have hx : (4 : Int32) * nI (wy_mv o) + 3 = nI (4 * wy_mv o + 3) := by
    show nI 4 * nI (wy_mv o) + nI 3 = _
    rw [pk_mul, nI_add]
  rw [hx, if_pos (zq_inBt (by omega) (by decide)), zq_cl (by omega), F.2.2.2.2.2 _ _ (e8 _), e6 o ho]
theorem wy_enter (hl : lay_X10 (sk_K s) (sk_r s) y = true) {v t : Nat} (hv : v < 1200) (ht : t < 1000000) (hsl : sk_c s (y + 7) (t % 31) = -1 ∨ ∃ u, u < 1200 ∧ sk_c s (y + 7) (t % 31) = nI u) :
    ∃ s', x10_enterSlot N s y (nI v) (nI t) = some (s', 0) ∧ cfr (fun b k => b = y + 2 ∨ b = y + 3 ∨ b = y + 4 ∨ b = y + 7 ∨ (b = y ∧ k = 8)) s s' ∧
      sk_c s' (y + 2) = upd (sk_c s (y + 2)) v (nI t) ∧ sk_c s' (y + 3) = upd (sk_c s (y + 3)) v (sk_c s (y + 7) (t % 31)) ∧ sk_c s' (y + 7) = upd (sk_c s (y + 7)) (t % 31) (nI v) ∧ sk_c s' y 8 = sk_c s y 8 + 1 ∧
      ((sk_c s (y + 7) (t % 31) = -1 ∧ sk_c s' (y + 4) = upd (sk_c s (y + 4)) v (-1)) ∨ ∃ u, u < 1200 ∧ sk_c s (y + 7) (t % 31) = nI u ∧ sk_c s' (y + 4) = upd (upd (sk_c s (y + 4)) v (-1)) u (nI v)) := by
  have hm : t % 31 < 31 := Nat.mod_lt _ (by decide)
  have hx : nI t - nI t / 31 * 31 = nI (t % 31) := pk_rem (by omega) (by decide) (by decide)
  unfold x10_enterSlot
  rw [if_pos hl]
  simp only [zq_let]
  rw [hx, if_pos (zq_inBt hm (by decide)), zq_cl (by omega), if_pos (zq_inBt hv (by decide)), zq_cl (by omega)]
  rcases hsl with h | ⟨u, hu, h⟩
  · rw [h, if_pos rfl]
    refine ⟨_, rfl, ?_, ?_, ?_, ?_, ?_, .inl ⟨rfl, ?_⟩⟩
    · exact ((((cfr.rf.wc _ (by simp)).wc _ (by simp)).wc _ (by simp)).wc _ (by simp)).wc _ (by simp)
    · simp (disch := omega) only [qc_eq, qc_ne]
    · simp (disch := omega) only [qc_eq, qc_ne]
    · simp (disch := omega) only [qc_eq, qc_ne]
    · simp (disch := omega) only [qc_eq, qc_ne, pk_us]
    · simp (disch := omega) only [qc_eq, qc_ne]
  · rw [h, if_neg (zq_m1 (by omega)), if_pos (zq_inBt hu (by decide)), zq_cl (by omega)]
    refine ⟨_, rfl, ?_, ?_, ?_, ?_, ?_, .inr ⟨u, hu, rfl, ?_⟩⟩
    · exact (((((cfr.rf.wc _ (by simp)).wc _ (by simp)).wc _ (by simp)).wc _ (by simp)).wc _ (by simp)).wc _ (by simp)
    · simp (disch := omega) only [qc_eq, qc_ne]
    · simp (disch := omega) only [qc_eq, qc_ne]
    · simp (disch := omega) only [qc_eq, qc_ne]
    · simp (disch := omega) only [qc_eq, qc_ne, pk_us]
    · simp (disch := omega) only [qc_eq, qc_ne]
theorem wy_leave (hl : lay_X10 (sk_K s) (sk_r s) y = true) {v t : Nat} (hv : v < 1200) (ht : t < 1000000) (hmi : sk_c s (y + 2) v = nI t)
    (hah : sk_c s (y + 4) v = -1 ∨ ∃ w, w < 1200 ∧ w ≠ v ∧ sk_c s (y + 4) v = nI w) (hbe : sk_c s (y + 3) v = -1 ∨ ∃ u, u < 1200 ∧ u ≠ v ∧ sk_c s (y + 3) v = nI u) :
    ∃ s', x10_leaveSlot N s y (nI v) = some (s', 0) ∧ cfr (fun b k => b = y + 3 ∨ b = y + 4 ∨ b = y + 7 ∨ (b = y ∧ k = 8)) s s' ∧ sk_c s' y 8 = sk_c s y 8 - 1 ∧
      ((sk_c s (y + 4) v = -1 ∧ sk_c s' (y + 7) = upd (sk_c s (y + 7)) (t % 31) (sk_c s (y + 3) v) ∧ sk_c s' (y + 3) = sk_c s (y + 3)) ∨ ∃ w, w < 1200 ∧ sk_c s (y + 4) v = nI w ∧ sk_c s' (y + 7) = sk_c s (y + 7) ∧ sk_c s' (y + 3) = upd (sk_c s (y + 3)) w (sk_c s (y + 3) v)) ∧
      ((sk_c s (y + 3) v = -1 ∧ sk_c s' (y + 4) = sk_c s (y + 4)) ∨ ∃ u, u < 1200 ∧ sk_c s (y + 3) v = nI u ∧ sk_c s' (y + 4) = upd (sk_c s (y + 4)) u (sk_c s (y + 4) v)) := by
  have hm : t % 31 < 31 := Nat.mod_lt _ (by decide)
  have hx : nI t - nI t / 31 * 31 = nI (t % 31) := pk_rem (by omega) (by decide) (by decide)
  unfold x10_leaveSlot
  rw [if_pos hl]
  simp only [zq_let]
  rw [if_pos (zq_inBt hv (by decide)), zq_cl (by omega)]
  rcases hah with h | ⟨w, hw, hwv, h⟩
  · rw [if_pos h, hmi, hx, if_pos (zq_inBt hm (by decide)), zq_cl (by omega)]
    simp (disch := omega) only [qc_eq, qc_ne]
    rcases hbe with h2 | ⟨u, hu, huv, h2⟩
    · rw [if_pos h2]
      refine ⟨_, rfl, ?_, ?_, .inl ⟨h, ?_, ?_⟩, .inl ⟨h2, ?_⟩⟩
      · exact (cfr.rf.wc _ (by simp)).wc _ (by simp)
      · simp (disch := omega) only [qc_eq, qc_ne, pk_us]
      · simp (disch := omega) only [qc_eq, qc_ne]
      · simp (disch := omega) only [qc_eq, qc_ne]
      · simp (disch := omega) only [qc_eq, qc_ne]
    · rw [if_neg (by rw [h2]; exact zq_m1 (by omega)), h2, if_pos (zq_inBt hu (by decide)), zq_cl (by omega)]
      refine ⟨_, rfl, ?_, ?_, .inl ⟨h, ?_, ?_⟩, .inr ⟨u, hu, rfl, ?_⟩⟩
      · exact ((cfr.rf.wc _ (by simp)).wc _ (by simp)).wc _ (by simp)
      · simp (disch := omega) only [qc_eq, qc_ne, pk_us]
      · simp (disch := omega) only [qc_eq, qc_ne]
      · simp (disch := omega) only [qc_eq, qc_ne]
      · simp (disch := omega) only [qc_eq, qc_ne]
  · rw [if_neg (by rw [h]; exact zq_m1 (by omega)), h, if_pos (zq_inBt hw (by decide)), zq_cl (by omega)]
    simp (disch := omega) only [qc_eq, qc_ne]
    rw [pk_un (f := sk_c s (y + 3)) (k := w) (j := v) (x := sk_c s (y + 3) v) (fun q => hwv q.symm)]
    rcases hbe with h2 | ⟨u, hu, huv, h2⟩
    · rw [if_pos h2]
      refine ⟨_, rfl, ?_, ?_, .inr ⟨w, hw, rfl, ?_, ?_⟩, .inl ⟨h2, ?_⟩⟩
      · exact (cfr.rf.wc _ (by simp)).wc _ (by simp)
      · simp (disch := omega) only [qc_eq, qc_ne, pk_us]
      · simp (disch := omega) only [qc_eq, qc_ne]
      · simp (disch := omega) only [qc_eq, qc_ne]
      · simp (disch := omega) only [qc_eq, qc_ne]
    · rw [if_neg (by rw [h2]; exact zq_m1 (by omega)), h2, if_pos (zq_inBt hu (by decide)), zq_cl (by omega)]
      refine ⟨_, rfl, ?_, ?_, .inr ⟨w, hw, rfl, ?_, ?_⟩, .inr ⟨u, hu, rfl, ?_⟩⟩
      · exact ((cfr.rf.wc _ (by simp)).wc _ (by simp)).wc _ (by simp)
      · simp (disch := omega) only [qc_eq, qc_ne, pk_us]
      · simp (disch := omega) only [qc_eq, qc_ne]
      · simp (disch := omega) only [qc_eq, qc_ne]
      · simp (disch := omega) only [qc_eq, qc_ne, h]
end
theorem fl_L {N a len : Nat} {v : Int32} {k : sk_S → Int32 → Int32 → Int32 → Option (sk_S × Int32)} (hlen : len < 2147483648) : ∀ (m n i : Nat) (s : sk_S), i + m = len → m < n → sk_K s a = (21, len) → ∃ s', j7_fill_53178_L5 N a k n s v (nI i) (nI len) = k s' v (nI len) (nI len) ∧ cfr (fun b _ => b = a) s s' ∧ (∀ j, i ≤ j → j < len → sk_c s' a j = v) ∧ (∀ j, j < i → sk_c s' a j = sk_c s a j) := by
  intro m
  induction m with
  | zero =>
    intro n i s hi hn hK
    obtain ⟨n, rfl⟩ : ∃ q, n = q + 1 := ⟨n - 1, by omega⟩
    have e : i = len := by omega
    subst e
    refine ⟨s, ?_, cfr.rf, fun j h1 h2 => by omega, fun j _ => rfl⟩
    simp only [j7_fill_53178_L5]
    rw [if_pos (by rw [zq_le hlen hlen]; omega)]
  | succ m ih =>
    intro n i s hi hn hK
    obtain ⟨n, rfl⟩ : ∃ q, n = q + 1 := ⟨n - 1, by omega⟩
    simp only [j7_fill_53178_L5, zq_let]
    rw [if_neg (by rw [zq_le hlen (by omega)]; omega), hK, if_pos (zq_inBt (by omega) hlen), zq_cl (by omega)]
    rw [nI_1]
    obtain ⟨s', h1, h2, h3, h4⟩ := ih n (i + 1) (sk_wc s a i v) (by omega) (by omega) hK
    refine ⟨s', h1, ((cfr.rf.wc v rfl : cfr (fun b _ => b = a) s (sk_wc s a i v))).tr h2, ?_, ?_⟩
    · intro j h5 h6
      by_cases e : j = i
      · subst e
        rw [h4 j (by omega), qc_eq, pk_us]
      · exact h3 j (by omega) h6
    · intro j h5
      rw [h4 j (by omega), qc_eq, pk_un (by omega)]
theorem fl_ok {N a len : Nat} {v : Int32} {s : sk_S} (hK : sk_K s a = (21, len)) (hlen : len < 2147483648) (hN : len < N) : ∃ s', j7_fill_53178 N s a v = some (s', 0) ∧ cfr (fun b _ => b = a) s s' ∧ ∀ j, j < len → sk_c s' a j = v := by
  unfold j7_fill_53178
  rw [hK, if_pos rfl]
  simp only [zq_let]
  obtain ⟨s', h1, h2, h3, h4⟩ := fl_L (N := N) (a := a) (v := v) (k := fun q3 x4 x5 x6 => some (q3, 0)) hlen len N 0 s (by omega) hN hK
  exact ⟨s', h1, h2, fun j hj => h3 j (by omega) hj⟩
