/-! the law's beginning: the machine's words into ky_OK -/
theorem ky_arr {args : Array Value} {s : State} {t : FieldType} (h : (Cond.arrayClass t).before args s = true) : ∃ cA : ClassId, ArrOfT s cA t ∧ s.vm.findClass ("[" ++ t.toString) = some cA := by
  obtain ⟨c, k, comp, h1, h2, h3⟩ := Cond.arrayClass_spec h
  exact ⟨c, fun n z => ⟨fun k h => (by cases h), k, h2, comp, h3⟩, h1⟩
theorem ky_arrO {args : Array Value} {s : State} {C : String} (h : (Cond.arrayOver (.object C)).before args s = true) : ∃ cA : ClassId, ArrOfT s cA (.object C) ∧ va_RA s cA (.object C) := by
  obtain ⟨comp, c, k, h1, h2, h3, h4, h5⟩ := Cond.arrayOver_spec h
  exact ⟨c, fun n z => ⟨fun k h => (by cases h), k, h3, comp, h4⟩, k, comp, h3, h4, h1, h5⟩
set_option maxRecDepth 20000 in
theorem lw_ok (l : Launch) (hl : l.stackTraces = false) {s : State} {b : Nat} (hts : ∀ w ∈ lw_tbl, w.before #[Value.ref b] s = true) (hgv : (Jvm.Cond.and given_1 narrow_1).before #[Value.ref b] s = true) : ∃ (D : va_G) (cy : Nat → ClassId), ky_OK (l, s, #[Value.ref b], D, cy) := by
  obtain ⟨c0, i0, h0⟩ := u_known (C := RX0) (T := TX0) (N := 5) (n := 5) hts (fun w hw => (iw_X0 w hw).1) (hts _ (ky_m1 (i := 66) rfl))
  obtain ⟨c1, i1, h1⟩ := u_known (C := RX1) (T := TX1) (N := 8) (n := 8) hts (fun w hw => (iw_X1 w hw).1) (hts _ (ky_m1 (i := 123) rfl))
  obtain ⟨c2, i2, h2⟩ := u_known (C := RX2) (T := TX2) (N := 3) (n := 3) hts (fun w hw => (iw_X2 w hw).1) (hts _ (ky_m1 (i := 231) rfl))
  obtain ⟨c3, i3, h3⟩ := u_known (C := RX3) (T := TX3) (N := 10) (n := 10) hts (fun w hw => (iw_X3 w hw).1) (hts _ (ky_m2 (i := 222) rfl))
  obtain ⟨c4, i4, h4⟩ := u_known (C := RX4) (T := TX4) (N := 7) (n := 7) hts (fun w hw => (iw_X4 w hw).1) (hts _ (ky_m1 (i := 89) rfl))
  obtain ⟨c5, i5, h5⟩ := u_known (C := RX6) (T := TX6) (N := 2) (n := 2) hts (fun w hw => (iw_X6 w hw).1) (hts _ (ky_m1 (i := 169) rfl))
  obtain ⟨c6, i6, h6⟩ := u_known (C := RX7) (T := TX7) (N := 5) (n := 5) hts (fun w hw => (iw_X7 w hw).1) (hts _ (ky_m1 (i := 117) rfl))
  obtain ⟨c7, i7, h7⟩ := u_known (C := RX8) (T := TX8) (N := 8) (n := 8) hts (fun w hw => (iw_X8 w hw).1) (hts _ (ky_m1 (i := 184) rfl))
  obtain ⟨c8, i8, h8⟩ := u_known (C := RX9) (T := TX9) (N := 5) (n := 5) hts (fun w hw => (iw_X9 w hw).1) (hts _ (ky_m1 (i := 39) rfl))
  obtain ⟨c9, i9, h9⟩ := u_known (C := RX10) (T := TX10) (N := 13) (n := 13) hts (fun w hw => (iw_X10 w hw).1) (hts _ (ky_m2 (i := 105) rfl))
  obtain ⟨c10, i10, h10⟩ := u_known (C := RX11) (T := TX11) (N := 11) (n := 11) hts (fun w hw => (iw_X11 w hw).1) (hts _ (ky_m1 (i := 31) rfl))
  obtain ⟨c11, i11, h11⟩ := u_known (C := RX12) (T := TX12) (N := 24) (n := 24) hts (fun w hw => (iw_X12 w hw).1) (hts _ (ky_m7 (i := 24) rfl))
  obtain ⟨aB, gB, nB⟩ := ky_arr (t := .byte) (hts _ (ky_m1 (i := 64) rfl))
  obtain ⟨aI, gI, nI⟩ := ky_arr (t := .int) (hts _ (ky_m1 (i := 87) rfl))
  obtain ⟨aZ, gZ, nZ⟩ := ky_arr (t := .boolean) (hts _ (ky_m2 (i := 150) rfl))
  obtain ⟨aJ, gJ, nJ⟩ := ky_arr (t := .long) (hts _ (ky_m9 (i := 174) rfl))
  obtain ⟨aS, gS, nS⟩ := ky_arrO (C := "WaistSand$Scene") (hts _ (ky_m2 (i := 31) rfl))
  refine ⟨(fun k => match k with | 0 => c0 | 1 => c1 | 2 => c2 | 3 => c3 | 4 => c4 | 5 => c5 | 6 => c6 | 7 => c7 | 8 => c8 | 9 => c9 | 10 => c10 | _ => c11, fun k => match k with | 0 => i0 | 1 => i1 | 2 => i2 | 3 => i3 | 4 => i4 | 5 => i5 | 6 => i6 | 7 => i7 | 8 => i8 | 9 => i9 | 10 => i10 | _ => i11), fun k => match k with | 0 => aB | 1 => aI | 2 => aZ | 3 => aS | _ => aJ, hts, ⟨?_, ?_⟩, hl, hgv⟩
  · intro k q hq
    match k, hq with
    | 0, hq => cases hq; exact h0
    | 1, hq => cases hq; exact h1
    | 2, hq => cases hq; exact h2
    | 3, hq => cases hq; exact h3
    | 4, hq => cases hq; exact h4
    | 5, hq => cases hq; exact h5
    | 6, hq => cases hq; exact h6
    | 7, hq => cases hq; exact h7
    | 8, hq => cases hq; exact h8
    | 9, hq => cases hq; exact h9
    | 10, hq => cases hq; exact h10
    | 11, hq => cases hq; exact h11
    | k + 12, hq => simp [vwCl] at hq
  · intro k q hq
    match k, hq with
    | 0, hq => cases hq; exact ⟨gB, nB⟩
    | 1, hq => cases hq; exact ⟨gI, nI⟩
    | 2, hq => cases hq; exact ⟨gZ, nZ⟩
    | 3, hq => cases hq; exact ⟨gS, nS⟩
    | 4, hq => cases hq; exact ⟨gJ, nJ⟩
    | k + 5, hq => simp [ky_ty] at hq
/-- the empty state, and a state with the reference's block out of sight and one cell more -/
def pu_0 (X : Nat) : sk_S := (fun _ => (0, 0), fun _ _ => 0, fun _ _ => 0, fun _ _ => none, X, 0)
def pu_hide (X : Nat) (s : sk_S) : sk_S := (fun a => if X + 24 ≤ a then (0, 0) else sk_K s a, sk_c s, sk_g s, sk_r s, sk_n s + 1, sk_m s + 1)
/-- the reference's block as its constructor leaves it -/
def pu_md (X : Nat) (s : sk_S) : Prop := sk_K s (X + 24) = (12, 0) ∧ (∀ k, k < 12 → sk_r s (X + 24) ([1, 2, 3, 4, 5, 8, 15, 17, 18, 21, 22, 23].getD k 0) = some (X + 25 + k)) ∧ (∀ k, k < 12 → sk_K s (X + 25 + k) = ([(21, 2247), (21, 1398), (21, 1398), (21, 549), (21, 6588), (20, 400), (21, 5), (21, 400), (21, 2), (21, 14400), (21, 1200), (21, 64)] : List (Nat × Nat)).getD k (0, 0)) ∧ (∀ a, X + 37 ≤ a → (sk_K s a).1 = 0)
/-- what is owed of the constructors -/
def sm_init (X N : Nat) (R : Nat → sk_S → (Nat → Nat → Int32) → Prop) : Prop := ∃ (s2 s4 : sk_S) (r r' : Int32), x11_init N (sk_nw (pu_0 X) 11 0 11) X = some (s2, r) ∧ sk_n s2 = X + 24 ∧ x12_init N (sk_nw s2 12 0 24) (X + 24) = some (s4, r') ∧ sk_n s4 = X + 37 ∧ pu_md X s4 ∧ R 0 (pu_hide X s4) (fun k => sk_c s4 (X + 24 + k))
theorem pu_hp0 {G : ky_GW} : sk_hp G (pu_0 (ky_B G)) (fun _ => ky_J, 0, 0) := ⟨fun a h => absurd rfl h, rfl, rfl⟩
theorem pu_I {G : ky_GW} {s : sk_S} {h : ky_HP} (hm : sk_hp G s h) (hn : sk_n s = ky_B G + 37) (hd : pu_md (ky_B G) s) : lw_I G (pu_hide (ky_B G) s) (fun k => sk_c s (ky_B G + 24 + k)) (fun _ => 0) (ky_nw G h (.inl (G.2.2.2.2 4, 1, .inr (.inl (fun _ => 0)))) 1) := by
  obtain ⟨d1, d2, d3, d4⟩ := hd
  have hz := hm.2.1
  refine ⟨⟨fun a ha => ?_, ?_, ?_⟩, fun k hk => ?_, ?_, fun k hk => ?_, ?_⟩
  · by_cases hx : ky_B G + 24 ≤ a
    · exact absurd (by show (if ky_B G + 24 ≤ a then ((0, 0) : Nat × Nat) else sk_K s a).1 = 0; rw [if_pos hx]) ha
    · have e1 : sk_K (pu_hide (ky_B G) s) a = sk_K s a := if_neg hx
      rw [e1] at ha ⊢
      obtain ⟨h1, h2⟩ := hm.1 a ha
      refine ⟨by show a < sk_n s + 1; omega, ?_⟩
      have hne : a ≠ ky_B G + h.2.1 := by omega
      have e2 : (ky_nw G h (.inl (G.2.2.2.2 4, 1, .inr (.inl (fun _ => 0)))) 1).1 a = h.1 a := by simp [ky_nw, va_up, hne]
      rw [e2]
      exact h2
  · show ky_B G + (h.2.1 + 1) = sk_n s + 1
    omega
  · show h.2.2 + 1 = sk_m s + 1
    rw [hm.2.2]
  · have hne : ky_B G + 24 + k ≠ ky_B G + h.2.1 := by omega
    have e2 : (ky_nw G h (.inl (G.2.2.2.2 4, 1, .inr (.inl (fun _ => 0)))) 1).1 (ky_B G + 24 + k) = h.1 (ky_B G + 24 + k) := by simp [ky_nw, va_up, hne]
    rw [e2]
    have r : ∀ k, k < 12 → _ := d2
    have q : ∀ k, k < 12 → _ := d3
    match k, hk with
    | 0, _ =>
      have := hm.at (k := 11) d1
      rw [show ky_B G + 24 + 0 = ky_B G + 24 from rfl, this]
      have f1 := d2 0 (by decide); have f2 := d2 1 (by decide); have f3 := d2 2 (by decide); have f4 := d2 3 (by decide); have f5 := d2 4 (by decide); have f6 := d2 5 (by decide)
      have f7 := d2 6 (by decide); have f8 := d2 7 (by decide); have f9 := d2 8 (by decide); have f10 := d2 9 (by decide); have f11 := d2 10 (by decide); have f12 := d2 11 (by decide)
      simp only [List.getD_cons_zero, List.getD_cons_succ] at f1 f2 f3 f4 f5 f6 f7 f8 f9 f10 f11 f12
      show (Sum.inr (11, [_, va_rf (sk_r s (ky_B G + 24) 1), va_rf (sk_r s (ky_B G + 24) 2), va_rf (sk_r s (ky_B G + 24) 3), va_rf (sk_r s (ky_B G + 24) 4), va_rf (sk_r s (ky_B G + 24) 5), _, _, va_rf (sk_r s (ky_B G + 24) 8), _, _, _, _, _, _, va_rf (sk_r s (ky_B G + 24) 15), _, va_rf (sk_r s (ky_B G + 24) 17), va_rf (sk_r s (ky_B G + 24) 18), _, _, va_rf (sk_r s (ky_B G + 24) 21), va_rf (sk_r s (ky_B G + 24) 22), va_rf (sk_r s (ky_B G + 24) 23)]) : va_E) = _
      rw [f1, f2, f3, f4, f5, f6, f7, f8, f9, f10, f11, f12]
      rfl
    | 1, _ => exact hm.at (k := 20) (d3 0 (by decide))
    | 2, _ => exact hm.at (k := 20) (d3 1 (by decide))
    | 3, _ => exact hm.at (k := 20) (d3 2 (by decide))
    | 4, _ => exact hm.at (k := 20) (d3 3 (by decide))
    | 5, _ => exact hm.at (k := 20) (d3 4 (by decide))
    | 6, _ => exact hm.at (k := 19) (d3 5 (by decide))
    | 7, _ => exact hm.at (k := 20) (d3 6 (by decide))
    | 8, _ => exact hm.at (k := 20) (d3 7 (by decide))
    | 9, _ => exact hm.at (k := 20) (d3 8 (by decide))
    | 10, _ => exact hm.at (k := 20) (d3 9 (by decide))
    | 11, _ => exact hm.at (k := 20) (d3 10 (by decide))
    | 12, _ => exact hm.at (k := 20) (d3 11 (by decide))
    | k + 13, h => exact absurd h (by omega)
  · show (ky_nw G h _ 1).1 (ky_B G + 37) = _
    have e : ky_B G + 37 = ky_B G + h.2.1 := by omega
    simp [ky_nw, va_up, ← e]
  · show (if ky_B G + 24 ≤ ky_B G + 24 + k then ((0, 0) : Nat × Nat) else sk_K s _).1 = 0
    rw [if_pos (by omega)]
  · show ky_B G + 38 ≤ sk_n s + 1
    omega
def R_law : String := "WaistSandLaw"
def lw_P (b : Addr) (xs : List Int32) (args : Array Value) (s : State) : Prop := args = #[.ref b] ∧ s.IntsAt b xs ∧ xs.length ≤ 3072 ∧ (Jvm.Cond.and given_1 narrow_1).before args s = true
def lw_Q (_ : Array Value) (s : State) (o : Outcome) (t : State) : Prop := o = .returned (some (.int 1)) ∧ Framed s o t [] 601024 7293034
def lw_Z (below : List Frame) (a : Array Value) (s : State) : State → Prop := fun t => ∃ o, t.status = .running ∧ Ended t below o ∧ lw_Q a s o t
/-- the law's own end, with 1 on the stack, nothing written that was there before, its room as the claim has it -/
theorem lw_ret {p : Program} {l : Launch} {e : Env} {s : State} {m : MethodId} {below : List Frame} {meth : Method} {c : Code} {b : Nat} (hx : p.tables.exec = Jvm.exec) (hb : c.code = code) (hr : meth.sig.returnType = ret) (hlocks : meth.locks = false) {pc : Nat} {H : Heap} {ls : Array Slot} (hdg : decode code pc = .ok (.ireturn, 1)) : W p l e room_1 s m #[Value.ref b] below meth c H [] 601024 7293034 (lw_Z below #[Value.ref b] s) (F0 m pc ls [.int 1]) := by
  intro T hT X
  obtain ⟨fs, hret, hrun, hended, hW, hframe⟩ := X.leave (v := some (.int 1)) (hlocks := hlocks) (fun h => by rw [hr] at h; cases h)
  have hmeth' : T.vm.method? m = some meth := X.method'
  refine ⟨T.setFrames fs, ?_, .returned (some (.int 1)), hrun, hended, rfl, ⟨_, rfl⟩, hW, hframe⟩
  jvm_step X.here [X.here.top, hx, hb, hdg, hmeth', hr, ret, narrow_b1]
  (try refine ⟨rfl, ?_⟩); (try refine ⟨rfl, ?_⟩)
  first | (intro acts; rw [hret _ acts rfl rfl rfl]) | rw [hret _ _ rfl rfl rfl]
  exact Steps.refl _
/-- what holds at the law's entry: the machine, the code, the tables' words (any of lw_tbl by 'hts w (by decide +kernel)'), the script of L ints xs at the cell b, what the Statement gives of the start (any of its parts by flat_of_before) -/
def lw_At (p : Program) (s : State) (m : MethodId) (meth : Method) (c : Code) (b L : Nat) (xs : Nat → Int32) : Prop :=
  p.tables.exec = Jvm.exec ∧ c.code = code ∧ meth.sig.returnType = ret ∧ c.maxLocals = 8 ∧ s.vm.findClass R_law = some m.cls ∧ (∀ w ∈ lw_tbl, w.before #[Value.ref b] s = true) ∧ va_X b L xs s s.heap ∧ b < s.heap.size ∧ meth.locks = false ∧ (Jvm.Cond.and given_1 narrow_1).before #[Value.ref b] s = true
set_option maxRecDepth 20000 in
set_option maxHeartbeats 4000000 in
theorem lw_run {G : ky_GW} {b Ln : Nat} {xs : Nat → Int32} (N : Nat) (hG : ky_OK G) (hX : va_X b Ln xs G.2.1 G.2.1.heap) (hb : b < ky_B G) (hLn : Ln ≤ 3072) {R : Nat → sk_S → (Nat → Nat → Int32) → Prop} (hRx : ∀ j s c, R j s c → lw_X G s) (S0 : sm_init (ky_B G) N R) (S : sm_all (ky_B G) N R)
    (hbd : ∀ j s c, j ≤ 512 → R j s c → sk_n s ≤ ky_B G + 601024 ∧ sk_m s ≤ 7293034) : ky_V G 61 M_law 0 [(0, .ref b)] [] (fun _ => ky_J, 0, 0) (fun r h' => r = .inl (some (.int 1)) ∧ h'.2.1 ≤ 601024 ∧ h'.2.2 ≤ 7293034) := by
  obtain ⟨s2, s4, r, r', e1, n2, e2, n4, hd, hR⟩ := S0
  have hm0 := pu_hp0 (G := G)
  have fr0 : sk_fr none (pu_0 (ky_B G)) (fun _ => ky_J, 0, 0) (pu_0 (ky_B G)) (fun _ => ky_J, 0, 0) := sk_fr.rf
  refine nw_X11 (ky_t1 (i := 30) rfl rfl) (i := 0) rfl ?_
  refine sk_snw hm0 fr0 11 0 rfl (fun y h1 ey hm1 fr1 => ?_)
  have ey : y = ky_B G := ey
  subst ey
  refine v_dup (i := 1) rfl rfl (?_ : ky_V _ _ _ 4 _ _ _ _)
  refine cl_L_109 (As := []) rfl (i := 2) rfl rfl rfl (Nat.le_of_ble_eq_true rfl) (k_X11_init N hG hm1 e1 (fun h2 hm2 fr2 => ⟨_, rfl, (?_ : ky_V _ _ _ 7 _ [.ref (ky_B G)] _ _)⟩))
  refine v_astore_n (L' := [(0, .ref b), (1, .ref (ky_B G))]) [1, 0] (i := 3) rfl (Nat.le_of_ble_eq_true rfl) rfl (?_ : ky_V _ _ _ 8 _ _ _ _)
  refine nw_X12 (ky_t7 (i := 23) rfl rfl) (i := 4) rfl ?_
  refine sk_snw hm2 (sk_fr.rf (x := none)) 12 0 rfl (fun y h3 ey hm3 fr3 => ?_)
  rw [n2] at ey
  subst ey
  refine v_dup (i := 5) rfl rfl (?_ : ky_V _ _ _ 12 _ _ _ _)
  refine cl_L_112 (As := []) rfl (i := 6) rfl rfl rfl (Nat.le_of_ble_eq_true rfl) (k_X12_init N hG hm3 e2 (fun h4 hm4 fr4 => ⟨_, rfl, (?_ : ky_V _ _ _ 15 _ [.ref (ky_B G + 24)] _ _)⟩))
  refine v_astore_n (L' := [(0, .ref b), (1, .ref (ky_B G)), (2, .ref (ky_B G + 24))]) [1, 2, 0] (i := 7) rfl (Nat.le_of_ble_eq_true rfl) rfl (?_ : ky_V _ _ _ 16 _ _ _ _)
  refine v_iconst (v := 1) (i := 8) rfl (by decide) (?_ : ky_V _ _ _ 17 _ _ _ _)
  refine v_newl (N := 1) (ky_t9 (i := 174) rfl rfl) (i := 9) rfl (by decide) rfl (by decide) ?_
  rw [hm4.2.1, n4]
  refine (?_ : ky_V _ _ _ 19 _ [.ref (ky_B G + 37)] _ _)
  refine v_astore_n (L' := [(0, .ref b), (1, .ref (ky_B G)), (2, .ref (ky_B G + 24)), (3, .ref (ky_B G + 37))]) [1, 2, 3, 0] (i := 10) rfl (Nat.le_of_ble_eq_true rfl) rfl (?_ : ky_V _ _ _ 20 _ _ _ _)
  refine v_iconst (v := 0) (i := 11) rfl (by decide) (?_ : ky_V _ _ _ 21 _ _ _ _)
  refine v_istore (L' := [(0, .ref b), (1, .ref (ky_B G)), (2, .ref (ky_B G + 24)), (3, .ref (ky_B G + 37)), (4, .int 0)]) [1, 2, 3, 4, 0] (i := 12) rfl (Nat.le_of_ble_eq_true rfl) rfl (?_ : ky_V _ _ _ 23 _ _ _ _)
  refine lw_loop N hG hX hb hLn hRx S (fun j s c f h hj hRj I => ⟨rfl, ?_, ?_⟩) (Ln + 1) 0 _ _ _ _ 0 (by omega) (by omega) rfl hR (pu_I hm4 n4 hd)
  · have := (hbd j s c hj hRj).1
    have h9 := I.1.2.1
    omega
  · have := (hbd j s c hj hRj).2
    have h9 := I.1.2.2
    omega
/-- the law, from its entry, over what is owed of the two -/
theorem lw_start {N : Nat} {R : Nat → Nat → sk_S → (Nat → Nat → Int32) → Prop} (hRx : ∀ X j s c, R X j s c → sk_K s X = (11, 0)) (S0 : ∀ X, sm_init X N (R X)) (S : ∀ X, sm_all X N (R X)) (hbd : ∀ X j s c, j ≤ 512 → R X j s c → sk_n s ≤ X + 601024 ∧ sk_m s ≤ 7293034)
    {p : Program} {e : Env} {s : State} {m : MethodId} {below : List Frame} {meth : Method} {c : Code} (l : Launch) (hl : l.stackTraces = false) {b L : Nat} {xs : Nat → Int32} (hL : L ≤ 3072) (C0 : lw_At p s m meth c b L xs) (hnm : meth.name = "law") (htb : c.exceptionTable.toList = []) : W p l e room_1 s m #[Value.ref b] below meth c s.heap [] 0 0 (lw_Z below #[Value.ref b] s) (entryFrame m ([Value.ref b] : List Value).toArray 8) := by
  obtain ⟨hx, hb, hr, hml, hown, hts, hX, hbl, hlocks, hgv⟩ := C0
  obtain ⟨D, cy, hG⟩ := lw_ok l hl hts hgv
  obtain ⟨r, h', ⟨rfl, q1, q2⟩, -, -, hrun⟩ := lw_run (G := (l, s, #[Value.ref b], D, cy)) (b := b) N hG hX hbl hL (R := R s.heap.size) (hRx s.heap.size) (S0 s.heap.size) (S s.heap.size) (hbd s.heap.size)
  rw [lg_entry_eq]
  have hH : ky_hR (l, s, #[Value.ref b], D, cy) (fun _ => ky_J, 0, 0) s.heap := ⟨rfl, fun _ _ => rfl, fun _ => Or.inl rfl⟩
  have hw := hrun p e room_1 s m #[Value.ref b] below meth c s.heap [] 0 0 _ ⟨hG, hx, hb, hml, hr, ok_law, hown, State.WarmedH.refl s, hlocks, ?_, ?_, by show 61 ≤ 2048; omega, by show 64 * 61 ≤ 84000; omega, hH.keep⟩ (lv_entry [Value.ref b] (n := 8) (Nat.le_of_ble_eq_true rfl)) hH (fun q hq => nomatch hq) (by show 0 + (h'.2.1 - 0) ≤ 601024; omega) (by show 0 + (h'.2.2 - 0) ≤ 7293034; omega)
  · intro T hT X
    obtain ⟨t, a1, o, b1, b2, b3⟩ := hw T hT X
    refine ⟨t, a1, o, b1, b2, ?_⟩
    rcases b3 with ⟨⟨v, v1, v2, -⟩, L', ⟨f1, f2, f3⟩, f4⟩ | ⟨q, -, E, ce, L', ⟨z, -⟩, -⟩
    · cases v1
      exact ⟨v2, f1, f2, f3.weaken (fun y hy hlt => absurd (f4 y hy) (Nat.not_le.mpr hlt)) (by show 0 + (h'.2.1 - 0) ≤ 601024; omega) (by show 0 + (h'.2.2 - 0) ≤ 7293034; omega)⟩
    · cases z
  · exact hnm
  · exact htb
