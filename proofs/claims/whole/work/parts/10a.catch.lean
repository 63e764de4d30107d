/-! the layer's rows for methods with handlers -/
theorem ky_ofVH {G : ky_GW} {d : Nat} {M : ky_MT} {As : List Value} {h : ky_HP} {Q : ky_RS → ky_HP → Prop} (hp : plainName M.1.cls = true) (hok : ky_ok M.2.1 M.2.2.2.2.1 = true) (hl : (lg_sl As).length ≤ M.2.2.1)
    (K : ky_V G d M 0 (lv_args 0 As) [] h Q) : ky_CallH G d M As h Q := by
  obtain ⟨r, h', hQ, m1, m2, hr⟩ := K
  refine ⟨r, h', hQ, m1, m2, fun hOK => ?_⟩
  refine vx_ofWH (cc := M.2.1) (maxL := M.2.2.1) (ret := M.2.2.2.1) (hh := M.2.2.2.2.2) hp rfl ?_
  intro p e s m args below meth c s₁ B hml hv
  obtain ⟨rfl, hW, hH⟩ := hv
  rw [lg_entry_eq]
  have hz := vx_table (x := M.1) B (atoms_spec (ws := [Cond.codeWith M.1 M.2.1 M.2.2.1 M.2.2.2.1 M.2.2.2.2.2]) B.pre _ List.mem_cons_self)
  have X : ky_CX G d M p (ky_rm d h h') s m meth c := ⟨hOK, B.exec, B.bytes, hml, B.returns, hok, findClass_of_methodNamed B.named, hW, B.notSynchronized, (name_of_methodNamed B.named B.method).1, hz, Nat.le_refl _, Nat.le_refl _, hH.keep⟩
  have hw := hr p e (ky_rm d h h') s m As.toArray below meth c s.heap [] 0 0 _ X (lv_entry As hl) hH (fun q hq => nomatch hq) (by show 0 + _ ≤ h'.2.1 - h.2.1; omega) (by show 0 + _ ≤ h'.2.2 - h.2.2; omega)
  rw [Nat.zero_add, Nat.zero_add] at hw
  exact hw
def ky_CH (M : ky_MT) (n : Nat) : Prop := ky_T (.codeWith M.1 M.2.1 M.2.2.1 M.2.2.2.1 M.2.2.2.2.2) ∧ ky_T (.initialized M.1.cls) ∧ (M.1.cls ≠ "java/lang/invoke/MethodHandle" ∧ M.1.cls ≠ "java/lang/invoke/VarHandle" ∧ (parseMethodDescriptor M.1.desc).map (fun d => d.parameters.length) = some n) ∧ M.2.2.1 ≤ 45
section
variable {G : ky_GW} {d : Nat} {M M' : ky_MT} {pc : Nat} {L : List (Nat × Value)} {S S0 : List Value} {h : ky_HP} {Q : ky_RS → ky_HP → Prop} {i n idx : Nat} {As : List Value}
theorem v_callSH (hm : ky_CH M' n) (hm2 : ky_T (.static M'.1)) (hlink : ky_T (.methodLink M.1.cls idx M'.1)) (hi : M.2.2.2.2.1[i]? = some (pc, .invokestatic idx, 3)) (hn : As.length = n) (hst : S0 = As.reverse ++ S) (hS : (S.map fun v => v.category).sum ≤ 8)
    (hC : ky_CallH G d M' As h (fun r h1 => ∃ v : Option Value, r = .inl v ∧ ky_V G (d + 1) M (pc + 3) L (v.toList ++ S) h1 Q)) : ky_V G (d + 1) M pc L S0 h Q := by
  obtain ⟨r1, h1, ⟨v, rfl, K⟩, m1, m2, hMt⟩ := hC
  refine ky_gen (h1 := h1) (L' := L) (S' := v.toList ++ S) (pc' := pc + 3) ⟨m1, m2⟩ (fun p e R s m args below meth c H locs cells slots ls Qr X hl hH hL hc9 hs9 K => ?_) K
  obtain ⟨w1, w2, ⟨y1, y2, y3⟩, y4⟩ := hm
  have hf := X.2.2.2.2.2.2.2.2.2.2.2.1
  have hlo := X.2.2.2.2.2.2.2.2.2.2.2.2.1
  refine ky_after (vx_runSW (Ts := []) (hh := M'.2.2.2.2.2) (bytes := M'.2.1) (maxL := M'.2.2.1) (ret := M'.2.2.2.1) (ws := [.codeWith M'.1 M'.2.1 M'.2.2.1 M'.2.2.2.1 M'.2.2.2.2.2]) (rm := ky_rm d h h1) ⟨X.2.1, X.2.2.1, X.2.2.2.1, X.2.2.2.2.2.2.1, fun w h => nomatch h⟩ (ky_toMet (hMt X.1))
    ⟨⟨rfl, rfl, hf, ?_, ?_, List.mem_singleton.mpr rfl⟩, ky_w X w1 args, ky_w X w2 args, ⟨y1, y2⟩, ?_, ky_w X hlink args, ky_w X hm2 args⟩ ⟨ky_blind, fun U hU hW => ⟨rfl, State.WarmedH.trans X.2.2.2.2.2.2.2.1 hW, by rw [hU]; exact hH⟩⟩ rfl hn hl.1 hst (lv_room (m := m) (pc := pc) (ls := ls) (rest := S0) hS) (ky_dec X hi) ⟨hc9, hs9⟩) hl hL K
  · show 8 + (M'.2.2.1 + 11) + 64 * d ≤ R.locals
    omega
  · intro w hw a' U hU
    rw [List.mem_singleton.mp hw]
    exact ky_wU X.1 (State.WarmedH.trans X.2.2.2.2.2.2.2.1 hU) w1 a'
  · intro sig hsig
    rw [hsig] at y3
    exact (Option.some.inj y3).symm
/-- E, thrown at pc, comes to the handler at ph -/
def ky_hd (G : ky_GW) (M : ky_MT) (pc : Nat) (E : String) (ph : Nat) : Prop :=
  ∃ (pre : List ExceptionTableEntry) (x : ExceptionTableEntry) (suf : List ExceptionTableEntry) (nm : String), tableOf M.2.2.2.2.2 = pre ++ x :: suf ∧ (∀ z ∈ pre, covers z pc = false ∨ (z.catchType ≠ 0 ∧ ∃ nm' : String, ky_T (.classLink M.1.cls z.catchType nm') ∧ va_Nc E nm' G.2.1)) ∧ covers x pc = true ∧ x.catchType ≠ 0 ∧ ky_T (.classLink M.1.cls x.catchType nm) ∧ Cond.castable E nm ∈ lw_tbl ∧ x.handlerPc = ph
theorem v_callVC {b ci : Nat} {fs : List Value} {T : u_T} {N : Nat} (hm : ky_CV M' n) (hm2 : ky_CVv M') (hlink : ky_T (.methodLink M.1.cls idx M'.1)) (hc : vwCl[ci]? = some (M'.1.cls, T, N)) (hi : M.2.2.2.2.1[i]? = some (pc, .invokevirtual idx, 3)) (hb : h.1 b = .inr (ci, fs)) (hn : As.length = n) (hst : S0 = As.reverse ++ .ref b :: S) (hS : (S.map fun v => v.category).sum ≤ 8)
    (hC : ky_Call G d M' (.ref b :: As) h (fun r h1 => (∃ v : Option Value, r = .inl v ∧ ky_V G (d + 1) M (pc + 3) L (v.toList ++ S) h1 Q) ∨ (∃ (E : String) (ph : Nat) (v : ky_RS), r = .inr E ∧ ky_hd G M pc E ph ∧ (∀ q : Nat, ky_V G (d + 1) M ph L [.ref q] h1 (fun r' h' => r' = v ∧ h' = h1)) ∧ Q v h1))) : ky_V G (d + 1) M pc L S0 h Q := by
  obtain ⟨r1, h1, hcase, m1, m2, hMt⟩ := hC
  rcases hcase with ⟨v, rfl, K⟩ | ⟨E, ph, v, rfl, hd, K, hQ⟩
  · exact v_callV hm hm2 hlink hc hi hb hn hst hS ⟨.inl v, h1, ⟨v, rfl, K⟩, m1, m2, hMt⟩
  · refine ⟨v, h1, hQ, m1, m2, ?_⟩
    intro p e R s m args below meth c H locs cells slots ls X hl hH hL hc9 hs9
    have hrv : ∃ cell : Cell, H[b]? = some cell ∧ cell.vm.isStatics = false ∧ s.vm.findClass M'.1.cls = some cell.cls := by
      have hP : va_P G.2.2.2.1 vwCl [(b, .inr (ci, fs))] H := fun j q hq => by
        match j, hq with
        | 0, hq => cases hq; exact (hH.at hb (ky_noJ_o hc)).2
        | j + 1, hq => simp at hq
      exact va_recv (ky_KK X) hP hc (q0 := 0) rfl
    have hrun := vx_runV (g := F0 m pc ls S0) (rest := S) (Ts := []) (C := M'.1.cls) (p := p) (e := e) (below := below) (meth := meth) (locs := locs) ⟨X.2.1, X.2.2.1, X.2.2.2.1, X.2.2.2.2.2.2.1, fun w h => nomatch h⟩ (hMt X.1) ⟨ky_cwB X hm hlink args, ky_w X hm2.1 args, ky_w X hm2.2 args⟩ ⟨ky_blind, hrv, fun U hU hW => ⟨rfl, State.WarmedH.trans X.2.2.2.2.2.2.2.1 hW, by rw [hU]; exact hH⟩⟩ rfl hn hl.1 hst (lv_room (m := m) (pc := pc) (ls := ls) (rest := S0) hS) (ky_dec X hi) ⟨hc9, hs9⟩
    obtain ⟨pre, x, suf, nm, hsplit, hpass, hx, hx0, hlk, hcs, rfl⟩ := hd
    intro T9 hT9 Y
    rcases hrun T9 hT9 Y with ⟨v', st₀, t, T', L', h0, X', hL', e1, e2, ⟨v2, g1, g2, g3⟩, st⟩ | ⟨q, st₀, t, T', L', E', ce, h0, X', hL', e1, e2, ⟨g1, g3⟩, hce, hcv, hcl, st⟩
    · cases g1
    · cases g1
      obtain ⟨r', h', ⟨rfl, rfl⟩, -, -, hr⟩ := K q
      have hW0 := X.2.2.2.2.2.2.2.1
      have kk := hr p e R s m args below meth c T'.heap (locs ++ L') (cells + (h'.2.1 - h.2.1)) (slots + (h'.2.2 - h.2.2)) ls X hl (by rw [e1]; exact g3) (fun q hq => (List.mem_append.mp hq).elim (hL q) (hL' q)) (by omega) (by omega)
      rw [Nat.sub_self, Nat.sub_self, Nat.add_zero, Nat.add_zero] at kk
      have hw := vx_catch (rest := S) X.2.2.2.2.2.2.1 pre x suf (by rw [X.2.2.2.2.2.2.2.2.2.2.1]; exact hsplit) (fun z hz => (hpass z hz).elim Or.inl (fun ⟨z0, nm', k1, k2⟩ => Or.inr ⟨z0, nm', ky_w X k1 args, va_Nc.moved hW0.alike k2⟩)) hx hx0 (ky_w X hlk args) (ky_word hW0 rfl (X.1.1 _ hcs) args) (by rw [e1]; exact hce) hcv hcl kk
      obtain ⟨t2, a1, b1⟩ := hw T' rfl X'
      exact ⟨t2, st.trans a1, b1⟩
end
/-! the script -/
section
variable {G : ky_GW} {d : Nat} {M : ky_MT} {pc : Nat} {L : List (Nat × Value)} {S : List Value} {h : ky_HP} {Q : ky_RS → ky_HP → Prop} {i b Ln : Nat} {xs : Nat → Int32}
theorem v_sld {x : Int32} (hX : va_X b Ln xs G.2.1 G.2.1.heap) (hb : b < ky_B G) (hin : vp_in x Ln) (hi : M.2.2.2.2.1[i]? = some (pc, .iaload, 1)) (K : ky_V G d M (pc + 1) L (.int (xs x.toNatClampNeg) :: S) h Q) : ky_V G d M pc L (.int x :: .ref b :: S) h Q :=
  ky_rd (fun p e R s m args below meth c H locs cells slots ls Qr X hl hH K => by
    obtain ⟨scr, h1, h2, h3, h4, h5⟩ := (va_X.moved X.2.2.2.2.2.2.2.1.alike hX).kept (H1 := H) (hH.2.1 b hb)
    have hlt : x.toNatClampNeg < Ln := Nat.not_le.mp fun q => hin (Or.inr q)
    exact W.iald (v := .int (xs x.toNatClampNeg)) X.2.1 X.2.2.1 h1 h2 h3 (by rw [h4]; exact hin) (h5 _ hlt) rfl rfl (ky_dec X hi) (K ls hl)) K
theorem v_slen (hX : va_X b Ln xs G.2.1 G.2.1.heap) (hb : b < ky_B G) (hi : M.2.2.2.2.1[i]? = some (pc, .arraylength, 1)) (K : ky_V G d M (pc + 1) L (.int (Int32.ofNat Ln) :: S) h Q) : ky_V G d M pc L (.ref b :: S) h Q :=
  ky_rd (fun p e R s m args below meth c H locs cells slots ls Qr X hl hH K => by
    obtain ⟨scr, h1, h2, h3, h4, h5⟩ := (va_X.moved X.2.2.2.2.2.2.2.1.alike hX).kept (H1 := H) (hH.2.1 b hb)
    exact W.alen (n := Int32.ofNat Ln) X.2.1 X.2.2.1 h1 h2 (by rw [h4]) rfl rfl (ky_dec X hi) (K ls hl)) K
end
/-! what stands through the law: the class's state, the reference's block, the row of one long -/
def lw_I (G : ky_GW) (s : sk_S) (c : Nat → Nat → Int32) (f : Nat → Int64) (h : ky_HP) : Prop :=
  sk_hp G s h ∧ md_at G h (ky_B G + 24) c ∧ h.1 (ky_B G + 37) = .inl (G.2.2.2.2 4, 1, .inr (.inl f)) ∧ (∀ k, k < 14 → (sk_K s (ky_B G + 24 + k)).1 = 0) ∧ ky_B G + 38 ≤ sk_n s
theorem lw_I.cls {G : ky_GW} {s s' : sk_S} {c : Nat → Nat → Int32} {f : Nat → Int64} {h h' : ky_HP} (I : lw_I G s c f h) (hm : sk_hp G s' h') (F : sk_fr none s h s' h') : lw_I G s' c f h' := by
  obtain ⟨-, i2, i3, i4, i5⟩ := I
  have hk : ∀ k, k < 14 → (sk_K s' (ky_B G + 24 + k)).1 = 0 ∧ h'.1 (ky_B G + 24 + k) = h.1 (ky_B G + 24 + k) := fun k hk => F.2.1 _ (by omega) (i4 k hk)
  refine ⟨hm, fun k hk9 => ?_, ?_, fun k hk9 => (hk k hk9).1, Nat.le_trans i5 F.2.2⟩
  · rw [(hk k (by omega)).2]; exact i2 k hk9
  · rw [← i3]; exact (hk 13 (by decide)).2
theorem lw_I.mdl {G : ky_GW} {s : sk_S} {c c' : Nat → Nat → Int32} {f : Nat → Int64} {h h' : ky_HP} (I : lw_I G s c f h) (hm : md_at G h' (ky_B G + 24) c') (F : bk_fr (ky_B G + 24) 13 h h') : lw_I G s c' f h' := by
  obtain ⟨i1, i2, i3, i4, i5⟩ := I
  refine ⟨⟨fun a ha => ⟨(i1.1 a ha).1, ?_⟩, by rw [F.2]; exact i1.2.1, by rw [F.2]; exact i1.2.2⟩, hm, ?_, i4, i5⟩
  · rw [F.1 a (fun hb => ha (by
      have := i4 (a - (ky_B G + 24)) (by omega)
      rwa [show ky_B G + 24 + (a - (ky_B G + 24)) = a by omega] at this))]
    exact (i1.1 a ha).2
  · rw [← i3]; exact F.1 _ (by omega)
theorem lw_I.out {G : ky_GW} {s : sk_S} {c : Nat → Nat → Int32} {f : Nat → Int64} {h : ky_HP} (I : lw_I G s c f h) (f' : Nat → Int64) : lw_I G s c f' (ky_up h (ky_B G + 37) (.inl (G.2.2.2.2 4, 1, .inr (.inl f')))) := by
  obtain ⟨i1, i2, i3, i4, i5⟩ := I
  refine ⟨⟨fun a ha => ⟨(i1.1 a ha).1, ?_⟩, i1.2.1, i1.2.2⟩, fun k hk => ?_, by simp [ky_up, va_up], i4, i5⟩
  · have hne : a ≠ ky_B G + 37 := fun e => ha (by have := i4 13 (by decide); rw [e]; exact this)
    simp only [ky_up, va_up, if_neg hne]
    exact (i1.1 a ha).2
  · have hne : ky_B G + 24 + k ≠ ky_B G + 37 := by omega
    simp only [ky_up, va_up, if_neg hne]
    exact i2 k hk
/-- the class's object stands where the law made it -/
def lw_X (G : ky_GW) (s : sk_S) : Prop := sk_K s (ky_B G) = (11, 0)
