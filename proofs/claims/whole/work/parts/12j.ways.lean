/-! THE CLASS'S WAYS: does the law ask for a fact; the rows stay good -/
def cd_frm (cd : Nat → Int32) : Nat → Nat → Prop
  | 0, _ => True
  | n + 1, i => (cd i = 0 → ∃ q, q ≤ 6 ∧ cd (i + 2) = nI q ∧ ∀ j, j < q → ∃ f, f ≤ 5 ∧ cd (i + 3 + 2 * j) = nI f) ∧ cd_frm cd n (i + cd_len cd i)
theorem cd_safe_frm {cd : Nat → Int32} {e : Nat → Nat} : ∀ {n i b : Nat}, cd_safe cd e n i b → cd_frm cd n i := by
  intro n
  induction n with
  | zero => intro i b _; trivial
  | succ n ih =>
    intro i b h
    refine ⟨fun h0 => ?_, ih h.2⟩
    obtain ⟨q, h1, h2, _, h4⟩ := h.1.2.2 h0
    exact ⟨q, h1, h2, fun j hj => (h4 j hj).1⟩
theorem cd_at_cat {cd : Nat → Int32} : ∀ {n n' i t u : Nat}, cd_at cd n i t → cd_at cd n' t u → cd_at cd (n + n') i u := by
  intro n
  induction n with
  | zero =>
    intro n' i t u h h'
    have : i = t := h
    subst this
    rw [Nat.zero_add]; exact h'
  | succ n ih =>
    intro n' i t u h h'
    rw [show n + 1 + n' = (n + n') + 1 by omega]
    exact ⟨Nat.lt_of_lt_of_le h.1 (cd_at_le h'), ih h.2 h'⟩
theorem cd_frm_cat {cd : Nat → Int32} : ∀ {n n' i t : Nat}, cd_at cd n i t → cd_frm cd n i → cd_frm cd n' t → cd_frm cd (n + n') i := by
  intro n
  induction n with
  | zero =>
    intro n' i t h _ h'
    have : i = t := h
    subst this
    rw [Nat.zero_add]; exact h'
  | succ n ih =>
    intro n' i t h h1 h'
    rw [show n + 1 + n' = (n + n') + 1 by omega]
    exact ⟨h1.1, ih h.2 h1.2 h'⟩
theorem cd_no_cut {cd : Nat → Int32} {f : Nat} : ∀ {n n' i t : Nat}, cd_at cd n i t → cd_no cd f (n + n') i → cd_no cd f n i ∧ cd_no cd f n' t := by
  intro n
  induction n with
  | zero =>
    intro n' i t h h1
    have : i = t := h
    subst this
    rw [Nat.zero_add] at h1
    exact ⟨trivial, h1⟩
  | succ n ih =>
    intro n' i t h h1
    rw [show n + 1 + n' = (n + n') + 1 by omega] at h1
    obtain ⟨a, b⟩ := ih h.2 h1.2
    exact ⟨⟨h1.1, a⟩, b⟩
theorem cd_run_no {cd : Nat → Int32} {f : Nat} {e e' : Nat → Nat} (hf : f ≤ 5) (he : ∀ j, j ≠ f → e j = e' j) : ∀ {n i b : Nat}, cd_no cd f n i → cd_frm cd n i → cd_run cd e n i b = cd_run cd e' n i b := by
  intro n
  induction n with
  | zero => intro i b _ _; rfl
  | succ n ih =>
    intro i b h1 h2
    have hs : cd_step cd e i b = cd_step cd e' i b := by
      unfold cd_step
      by_cases h0 : cd i = 0
      · rw [if_pos h0, if_pos h0]
        obtain ⟨q, q1, q2, q3⟩ := h2.1 h0
        have hcl : (cd (i + 2)).toNatClampNeg = q := by rw [q2]; exact zq_cl (by omega)
        have h3 := h1.1 h0
        rw [hcl] at h3 ⊢
        have : ∀ r, r ≤ q → cd_sum cd e i r = cd_sum cd e' i r := by
          intro r
          induction r with
          | zero => intro _; rfl
          | succ r ihr =>
            intro hr
            obtain ⟨g, g1, g2⟩ := q3 r (by omega)
            have hne := h3 r (by omega)
            simp only [cd_sum]
            rw [ihr (by omega), g2, zq_cl (n := g) (by omega), he g (fun q => hne (by rw [g2, q]))]
        rw [this q (Nat.le_refl _)]
      · rw [if_neg h0, if_neg h0, he 6 (by omega)]
    simp only [cd_run]
    rw [hs]
    exact ih h1.2 h2.2
section
variable {N a : Nat} {s : sk_S}
theorem ak_in {k : sk_S → Int32 → Int32 → Int32 → Int32 → Int32 → Option (sk_S × Int32)} {f i q : Nat} {p2 p3 : Int32} (hf5 : f ≤ 5) (hU : (sk_K s (a + 4)).2 ≤ 400) (hi : i + 3 + 2 * q ≤ (sk_K s (a + 4)).2) (hq : ∀ j, j < q → ∃ g, g ≤ 5 ∧ sk_c s (a + 4) (i + 3 + 2 * j) = nI g) :
    ∀ (r fuel j : Nat), j + r = q → r < fuel → x3_asks_L52 N a k fuel s (nI f) p2 p3 (nI (i + 3 + 2 * q)) (nI (i + 3 + 2 * j)) = some (s, 1) ∨ (x3_asks_L52 N a k fuel s (nI f) p2 p3 (nI (i + 3 + 2 * q)) (nI (i + 3 + 2 * j)) = k s (nI f) p2 p3 (nI (i + 3 + 2 * q)) (nI (i + 3 + 2 * q)) ∧ ∀ j', j ≤ j' → j' < q → sk_c s (a + 4) (i + 3 + 2 * j') ≠ nI f) := by
  intro r
  induction r with
  | zero =>
    intro fuel j hj hf
    obtain ⟨fuel, rfl⟩ : ∃ q, fuel = q + 1 := ⟨fuel - 1, by omega⟩
    have : j = q := by omega
    subst this
    simp only [x3_asks_L52]
    rw [if_pos (by rw [zq_le (by omega) (by omega)]; omega)]
    exact .inr ⟨rfl, fun j' h1 h2 => by omega⟩
  | succ r ih =>
    intro fuel j hj hf
    obtain ⟨fuel, rfl⟩ : ∃ q, fuel = q + 1 := ⟨fuel - 1, by omega⟩
    have e2 : nI (i + 3 + 2 * j) + 2 = nI (i + 3 + 2 * (j + 1)) := by show nI _ + nI 2 = _; rw [nI_add]; rfl
    simp only [x3_asks_L52, zq_letP]
    rw [if_neg (by rw [zq_le (by omega) (by omega)]; omega), if_pos (zq_inBt (by omega) (by omega)), zq_cl (n := i + 3 + 2 * j) (by omega), e2]
    by_cases h : sk_c s (a + 4) (i + 3 + 2 * j) = nI f
    · rw [if_pos h]; exact .inl rfl
    · rw [if_neg h]
      rcases ih fuel (j + 1) (by omega) (by omega) with g | ⟨g1, g2⟩
      · exact .inl g
      · refine .inr ⟨g1, fun j' h1 h2 => ?_⟩
        by_cases e : j' = j
        · subst e; exact h
        · exact g2 j' (by omega) h2
theorem ak_loop {k : sk_S → Int32 → Int32 → Int32 → Option (sk_S × Int32)} {f : Nat} (hkc : ∀ q x1 x2 x3 x4, k q x1 x2 x3 = k q x1 x2 x4) (hN : 1000 ≤ N) (hf5 : f ≤ 5) (hU : (sk_K s (a + 4)).2 ≤ 400) :
    ∀ (n fuel i c : Nat), n < fuel → c ≤ i → cd_at (sk_c s (a + 4)) n i (sk_K s (a + 4)).2 → cd_frm (sk_c s (a + 4)) n i → x3_asks_L4 N a k fuel s (nI f) (nI i) (nI c) = some (s, 1) ∨ (x3_asks_L4 N a k fuel s (nI f) (nI i) (nI c) = k s (nI f) (nI (sk_K s (a + 4)).2) 0 ∧ cd_no (sk_c s (a + 4)) f n i) := by
  intro n
  induction n with
  | zero =>
    intro fuel i c hf hci hat _
    obtain ⟨fuel, rfl⟩ : ∃ q, fuel = q + 1 := ⟨fuel - 1, by omega⟩
    have : i = (sk_K s (a + 4)).2 := hat
    simp only [x3_asks_L4]
    refine .inr ⟨?_, trivial⟩
    by_cases hc : Int32.ofNat (sk_K s (a + 4)).2 ≤ nI c
    · rw [if_pos hc, this]
      exact hkc _ _ _ _ _
    · rw [if_neg hc, if_pos (by show nI _ ≤ nI i; rw [zq_le (by omega) (by omega)]; omega), this]
      exact hkc _ _ _ _ _
  | succ n ih =>
    intro fuel i c hf hci hat hfrm
    obtain ⟨fuel, rfl⟩ : ∃ q, fuel = q + 1 := ⟨fuel - 1, by omega⟩
    obtain ⟨hit, hat'⟩ := hat
    have hle := cd_at_le hat'
    simp only [x3_asks_L4, zq_letP]
    rw [show nI c + 1 = nI (c + 1) by rw [nI_1], if_neg (by show ¬ nI _ ≤ nI c; rw [zq_le (by omega) (by omega)]; omega), if_neg (by show ¬ nI _ ≤ nI i; rw [zq_le (by omega) (by omega)]; omega), if_pos (zq_inBt hit (by omega)), zq_cl (n := i) (by omega)]
    by_cases c0 : sk_c s (a + 4) i = 0
    · obtain ⟨q, q1, q2, q3⟩ := hfrm.1 c0
      have hlen : cd_len (sk_c s (a + 4)) i = 3 + 2 * q := by
        unfold cd_len; rw [if_pos c0, q2, zq_cl (n := q) (by omega)]
      rw [hlen] at hle hat'
      have hfrm2 := hfrm.2
      rw [hlen] at hfrm2
      have e2 : nI i + 2 = nI (i + 2) := by show nI _ + nI 2 = _; rw [nI_add]
      have e3 : nI i + 3 = nI (i + 3) := by show nI _ + nI 3 = _; rw [nI_add]
      have e4 : nI (i + 3) + 2 * nI q = nI (i + 3 + 2 * q) := by show nI _ + nI 2 * nI q = _; rw [pk_mul, nI_add]
      rw [if_pos c0, e2, if_pos (zq_inBt (by omega) (by omega)), zq_cl (n := i + 2) (by omega), q2, e3, e4]
      have hin := ak_in (N := N) (a := a) (s := s) (k := fun q11 x12 x13 x14 x15 x16 => (x3_asks_L4 N a k fuel q11 x12 x15 (x14 + 1))) (f := f) (p2 := nI i) (p3 := nI c) hf5 hU (by omega : i + 3 + 2 * q ≤ (sk_K s (a + 4)).2) q3 q N 0 (by omega) (by omega)
      rcases hin with g | ⟨g1, g2⟩
      · exact .inl g
      · have g1' : x3_asks_L52 N a (fun q11 x12 x13 x14 x15 x16 => (x3_asks_L4 N a k fuel q11 x12 x15 (x14 + 1))) N s (nI f) (nI i) (nI c) (nI (i + 3 + 2 * q)) (nI (i + 3)) = _ := g1
        rw [g1', show nI c + 1 = nI (c + 1) by rw [nI_1]]
        rcases ih fuel (i + (3 + 2 * q)) (c + 1) (by omega) (by omega) hat' hfrm2 with u | ⟨u1, u2⟩
        · left; rw [← u]; congr 2; omega
        · refine .inr ⟨?_, fun _ j hj => ?_, by rw [hlen]; exact u2⟩
          · rw [← u1]; congr 2; omega
          · rw [q2, zq_cl (n := q) (by omega)] at hj
            exact g2 j (Nat.zero_le _) hj
    · have hlen : cd_len (sk_c s (a + 4)) i = 1 := by unfold cd_len; rw [if_neg c0]
      rw [hlen] at hat'
      have hfrm2 := hfrm.2
      rw [hlen] at hfrm2
      rw [if_neg c0, nI_1]
      rcases ih fuel (i + 1) (c + 1) (by omega) (by omega) hat' hfrm2 with u | ⟨u1, u2⟩
      · exact .inl u
      · exact .inr ⟨u1, fun h => absurd h c0, by rw [hlen]; exact u2⟩
theorem cd_at_n {cd : Nat → Int32} : ∀ {q i t : Nat}, cd_at cd q i t → q + i ≤ t := by
  intro q
  induction q with
  | zero => intro i t h; have : i = t := h; omega
  | succ q ih =>
    intro i t h
    have := ih h.2
    have hl : 1 ≤ cd_len cd i := by unfold cd_len; split <;> omega
    omega
theorem lw_zero : lw_sml (fun _ => 0) := ⟨by decide, by decide, by decide, by decide, by decide, by decide, by decide⟩
/-- what asks tells -/
theorem cl_asks {m : lwM} {f : Nat} (hN : 1000 ≤ N) (L : lwC s a m) (hf5 : f ≤ 5) :
    x3_asks N s a (nI f) = some (s, 1) ∨ (x3_asks N s a (nI f) = some (s, 0) ∧ ∀ n e e', n < m.1 → lw_sml e → lw_sml e' → (∀ j, j ≠ f → e j = e' j) → m.2.2.2 n e = m.2.2.2 n e') := by
  obtain ⟨h1, h2, h3, h4, h5, h6, h7, h8, st, nt, g1, g2, g3, g4⟩ := L
  have frm : ∀ n, n < m.1 → cd_frm (sk_c s (a + 4)) (nt n) (st n) := fun n hn => by
    obtain ⟨_, _, _, _, k5, k6, k7⟩ := g4 n hn
    rcases k7 with ⟨q1, _⟩ | ⟨_, q2⟩
    · have := cd_at_n k6
      have : nt n = 0 := by omega
      rw [this]; trivial
    · exact cd_safe_frm (q2 _ lw_zero).1
  have all : ∀ r n, n + r = m.1 → ∃ t, cd_at (sk_c s (a + 4)) t (st n) (st m.1) ∧ cd_frm (sk_c s (a + 4)) t (st n) ∧ (cd_no (sk_c s (a + 4)) f t (st n) → ∀ n', n ≤ n' → n' < m.1 → cd_no (sk_c s (a + 4)) f (nt n') (st n')) := by
    intro r
    induction r with
    | zero =>
      intro n hn
      have : n = m.1 := by omega
      subst this
      exact ⟨0, rfl, trivial, fun _ n' h1 h2 => by omega⟩
    | succ r ih =>
      intro n hn
      obtain ⟨t, u1, u2, u3⟩ := ih (n + 1) (by omega)
      have k6 := (g4 n (by omega)).2.2.2.2.2.1
      refine ⟨nt n + t, cd_at_cat k6 u1, cd_frm_cat k6 (frm n (by omega)) u2, fun hno n' q1 q2 => ?_⟩
      obtain ⟨a1, a2⟩ := cd_no_cut k6 hno
      by_cases e : n' = n
      · subst e; exact a1
      · exact u3 a2 n' (by omega) q2
  obtain ⟨t, u1, u2, u3⟩ := all m.1 0 (by omega)
  rw [g1, g2] at u1
  rw [g1] at u2 u3
  have ht := cd_at_n u1
  unfold x3_asks
  rw [if_pos h1]
  rcases ak_loop (N := N) (a := a) (s := s) (k := fun q2 x3 x4 x5 => (some (q2, 0))) (f := f) (fun _ _ _ _ _ => rfl) hN hf5 h7 t N 0 0 (by omega) (Nat.le_refl _) u1 u2 with q | ⟨q1, q2⟩
  · exact .inl q
  · refine .inr ⟨q1, fun n e e' hn he he' hee => ?_⟩
    obtain ⟨_, _, _, _, _, _, k7⟩ := g4 n hn
    rcases k7 with ⟨_, z⟩ | ⟨_, z⟩
    · rw [z e, z e']
    · have r1 := (z e he).2
      have r2 := (z e' he').2
      rw [cd_run_no hf5 hee (u3 q2 n (Nat.zero_le _) hn) (frm n hn), r2] at r1
      cases x : m.2.2.2 n e with
      | true => cases y : m.2.2.2 n e' with
        | true => rfl
        | false => rw [x, y] at r1; simp at r1
      | false => cases y : m.2.2.2 n e' with
        | true => rw [x, y] at r1; simp at r1
        | false => rfl
end
/-- laws that don't tell two facts apart -/
theorem lw_S_no {m : lwM} {e e' : Nat → Nat} (h : ∀ n, n < m.1 → m.2.2.2 n e = m.2.2.2 n e') (w : Nat) : lw_S m w e = lw_S m w e' := by
  have : ∀ n, n ≤ m.1 → lw_sum m w e n = lw_sum m w e' n := by
    intro n
    induction n with
    | zero => intro _; rfl
    | succ n ih =>
      intro hn
      simp only [lw_sum]
      rw [ih (by omega), h n (by omega)]
  exact this m.1 (Nat.le_refl _)
theorem mv_r_no {W : Nat → Nat} {m : lwM} {ca wa ca' wa' mv ow ot th ly : Nat} (h : ∀ n, n < m.1 → m.2.2.2 n (lw_env mv ow ot th ca wa ly) = m.2.2.2 n (lw_env mv ow ot th ca' wa' ly)) : mv_r W m ca wa mv ow ot th ly = mv_r W m ca' wa' mv ow ot th ly := by
  unfold mv_r
  simp only [lw_S_no h]
theorem nxf_no {W : Nat → Nat} {m : lwM} {ca wa ca' wa' v o : Nat} (hv : v < 1200) (ho : o < 12) (h : ∀ n e e', n < m.1 → lw_sml e → lw_sml e' → (∀ j, j ≠ 4 → j ≠ 5 → e j = e' j) → (e 4 = ca ∧ e 5 = wa) → (e' 4 = ca' ∧ e' 5 = wa') → m.2.2.2 n e = m.2.2.2 n e') (b1 : ca ≤ 9) (b2 : wa ≤ 9) (b3 : ca' ≤ 9) (b4 : wa' ≤ 9) : nxf W m ca wa v o = nxf W m ca' wa' v o := by
  have hm := wy_mv_lt o ho
  have key : ∀ ow ot, ow ≤ 9 → ot ≤ 9 → mv_r W m ca wa (wy_mv o) ow ot (v / 2 % 6) (v % 2) = mv_r W m ca' wa' (wy_mv o) ow ot (v / 2 % 6) (v % 2) := fun ow ot h1 h2 => mv_r_no (fun n hn => h n _ _ hn ⟨by show wy_mv o ≤ 6; omega, h1, h2, by show v / 2 % 6 ≤ 5; omega, b1, b2, by show v % 2 ≤ 1; omega⟩ ⟨by show wy_mv o ≤ 6; omega, h1, h2, by show v / 2 % 6 ≤ 5; omega, b3, b4, by show v % 2 ≤ 1; omega⟩ (fun j h4 h5 => by
    match j, h4, h5 with
    | 0, _, _ => rfl
    | 1, _, _ => rfl
    | 2, _, _ => rfl
    | 3, _, _ => rfl
    | 4, h, _ => exact absurd rfl h
    | 5, _, h => exact absurd rfl h
    | j + 6, _, _ => rfl) ⟨rfl, rfl⟩ ⟨rfl, rfl⟩)
  unfold nxf mv_s
  rw [key (v / 12 % 10) (v / 120) (by omega) (by omega), key (v / 120) (v / 12 % 10) (by omega) (by omega)]
