/-! the layer's rows for calls -/
def ky_Pc (G : ky_GW) (As : List Value) (h : ky_HP) : Array Value → State → Prop := va_Pc As (fun U => G.2.1.WarmedH U.vm ∧ ky_hR G h U.heap)
def ky_Qn (G : ky_GW) (r : ky_RS) (h' : ky_HP) : Array Value → State → Outcome → State → Prop := fun _ _ o t => ∃ v : Option Value, r = .inl v ∧ o = .returned v ∧ ky_hR G h' t.heap
def ky_Qx (G : ky_GW) (r : ky_RS) (h' : ky_HP) : String → State → State → Prop := fun E _ t => r = .inr E ∧ ky_hR G h' t.heap
def ky_rm (d : Nat) (h h' : ky_HP) : Room := { frames := d, cells := h'.2.1 - h.2.1, slots := h'.2.2 - h.2.2, locals := 64 * d }
def ky_Mt (G : ky_GW) (d : Nat) (M : ky_MT) (w : Cond) (As : List Value) (h : ky_HP) (r : ky_RS) (h' : ky_HP) : Prop :=
  vx_Met G.1 M.1 [w] (ky_rm d h h') (ky_Pc G As h) (ky_Qn G r h') (ky_Qx G r h') (h'.2.1 - h.2.1) (h'.2.2 - h.2.2) (fun q => ky_B G ≤ q)
/-- the method, called with these in this heap, comes back with Q -/
def ky_Call (G : ky_GW) (d : Nat) (M : ky_MT) (As : List Value) (h : ky_HP) (Q : ky_RS → ky_HP → Prop) : Prop :=
  ∃ (r : ky_RS) (h' : ky_HP), Q r h' ∧ h.2.1 ≤ h'.2.1 ∧ h.2.2 ≤ h'.2.2 ∧ (ky_OK G → ky_Mt G d M (.code M.1 M.2.1 M.2.2.1 M.2.2.2.1) As h r h')
/-- the same for a method with handlers -/
def ky_CallH (G : ky_GW) (d : Nat) (M : ky_MT) (As : List Value) (h : ky_HP) (Q : ky_RS → ky_HP → Prop) : Prop :=
  ∃ (r : ky_RS) (h' : ky_HP), Q r h' ∧ h.2.1 ≤ h'.2.1 ∧ h.2.2 ≤ h'.2.2 ∧ (ky_OK G → ky_Mt G d M (.codeWith M.1 M.2.1 M.2.2.1 M.2.2.2.1 M.2.2.2.2.2) As h r h')
theorem ky_callMono {G : ky_GW} {d : Nat} {M : ky_MT} {As : List Value} {h : ky_HP} {Q Q' : ky_RS → ky_HP → Prop} (hq : ∀ r h', Q r h' → Q' r h') (K : ky_Call G d M As h Q) : ky_Call G d M As h Q' := by
  obtain ⟨r, h', hQ, hr⟩ := K
  exact ⟨r, h', hq r h' hQ, hr⟩
theorem ky_ofV {G : ky_GW} {d : Nat} {M : ky_MT} {As : List Value} {h : ky_HP} {Q : ky_RS → ky_HP → Prop} (hp : plainName M.1.cls = true) (heh : M.2.2.2.2.2 = []) (hok : ky_ok M.2.1 M.2.2.2.2.1 = true) (hl : (lg_sl As).length ≤ M.2.2.1)
    (K : ky_V G d M 0 (lv_args 0 As) [] h Q) : ky_Call G d M As h Q := by
  obtain ⟨r, h', hQ, m1, m2, hr⟩ := K
  refine ⟨r, h', hQ, m1, m2, fun hOK => ?_⟩
  refine vx_ofW (cc := M.2.1) (maxL := M.2.2.1) (ret := M.2.2.2.1) hp rfl ?_
  intro p e s m args below meth c s₁ B hml ht hv
  obtain ⟨rfl, hW, hH⟩ := hv
  rw [lg_entry_eq]
  have hz : c.exceptionTable.toList = [] := List.eq_nil_iff_forall_not_mem.mpr (fun x hx => ht x hx)
  have X : ky_CX G d M p (ky_rm d h h') s m meth c := ⟨hOK, B.exec, B.bytes, hml, B.returns, hok, findClass_of_methodNamed B.named, hW, B.notSynchronized, (name_of_methodNamed B.named B.method).1, by rw [hz, heh]; rfl, Nat.le_refl _, Nat.le_refl _, hH.keep⟩
  have hw := hr p e (ky_rm d h h') s m As.toArray below meth c s.heap [] 0 0 _ X (lv_entry As hl) hH (fun q hq => nomatch hq) (by show 0 + _ ≤ h'.2.1 - h.2.1; omega) (by show 0 + _ ≤ h'.2.2 - h.2.2; omega)
  rw [Nat.zero_add, Nat.zero_add] at hw
  exact hw
theorem ky_toMet {G : ky_GW} {d : Nat} {M : ky_MT} {w : Cond} {As : List Value} {h : ky_HP} {v : Option Value} {h' : ky_HP} (H : ky_Mt G d M w As h (.inl v) h') : Met G.1 M.1 [w] (ky_rm d h h') (ky_Pc G As h) (ky_Qn G (.inl v) h') (h'.2.1 - h.2.1) (h'.2.2 - h.2.2) (fun q => ky_B G ≤ q) := by
  intro p e ha hc hk s m args below hf happ hP hK
  obtain ⟨n, o, h1, h2, h3, h4⟩ := H p e ha hc hk s m args below hf happ hP hK
  refine ⟨n, o, h1, h2, h3, ?_⟩
  rcases h4 with h4 | ⟨q, -, E, ce, L, hx, -⟩
  · exact h4
  · cases hx.1
theorem ky_blind {G : ky_GW} {As : List Value} {h : ky_HP} : FrameBlind (ky_Pc G As h) := fun a U g mk q => ⟨q.1, q.2.1, q.2.2⟩
/-- what is asked of a callee -/
def ky_CV (M : ky_MT) (n : Nat) : Prop := ky_T (.code M.1 M.2.1 M.2.2.1 M.2.2.2.1) ∧ ky_T (.initialized M.1.cls) ∧ (M.1.cls ≠ "java/lang/invoke/MethodHandle" ∧ M.1.cls ≠ "java/lang/invoke/VarHandle" ∧ (parseMethodDescriptor M.1.desc).map (fun d => d.parameters.length) = some n) ∧ M.2.2.1 ≤ 45
def ky_CVv (M : ky_MT) : Prop := ky_T (.instanceMethod M.1) ∧ ky_T (.selects M.1.cls M.1 M.1)
section
variable {G : ky_GW} {d : Nat} {M M' : ky_MT} {pc : Nat} {L : List (Nat × Value)} {S S0 : List Value} {h : ky_HP} {Q : ky_RS → ky_HP → Prop} {i n idx : Nat} {As : List Value}
theorem ky_cwB {p : Program} {R : Room} {s : State} {m : MethodId} {meth : Method} {c : Code} {h1 : ky_HP} (X : ky_CX G (d + 1) M p R s m meth c) (hm : ky_CV M' n) (hlink : ky_T (.methodLink M.1.cls idx M'.1)) (args : Array Value) : CallB R s args M.1.cls idx M'.1 M'.2.1 M'.2.2.1 M'.2.2.2.1 [.code M'.1 M'.2.1 M'.2.2.1 M'.2.2.2.1] (ky_rm d h h1) (h1.2.1 - h.2.1) (h1.2.2 - h.2.2) n := by
  obtain ⟨w1, w2, ⟨y1, y2, y3⟩, y4⟩ := hm
  have hf := X.2.2.2.2.2.2.2.2.2.2.2.1
  have hlo := X.2.2.2.2.2.2.2.2.2.2.2.2.1
  refine ⟨rfl, rfl, hf, ?_, ?_, List.mem_singleton.mpr rfl, ky_w X w1 args, ky_w X w2 args, ⟨y1, y2⟩, fun sig hsig => ?_, ky_w X hlink args⟩
  · show 8 + (M'.2.2.1 + 11) + 64 * d ≤ R.locals
    omega
  · intro w hw a' U hU
    rw [List.mem_singleton.mp hw]
    exact ky_wU X.1 (State.WarmedH.trans X.2.2.2.2.2.2.2.1 hU) w1 a'
  · rw [hsig] at y3
    exact (Option.some.inj y3).symm
/-- behind a call that comes back -/
theorem ky_after {p : Program} {e : Env} {R : Room} {s : State} {m : MethodId} {args : Array Value} {below : List Frame} {meth : Method} {c : Code} {H : Heap} {locs : List Loc} {cells slots mc ms : Nat} {ls : Array Slot} {Qr : State → Prop} {v : Option Value} {h1 : ky_HP} {a : Array Value}
    (hr : va_Run p G.1 e R s m args below meth c H locs cells slots mc ms (F0 m pc ls S0) S (ky_Qn G (.inl v) h1 a) (fun q => ky_B G ≤ q)) (hl : lv_has ls M.2.2.1 L) (hL : ∀ q ∈ locs, ky_B G ≤ q.base)
    (K : ∀ (ls' : Array Slot) (H1 : Heap) (locs1 : List Loc), lv_has ls' M.2.2.1 L → ky_hR G h1 H1 → (∀ q ∈ locs1, ky_B G ≤ q.base) → W p G.1 e R s m args below meth c H1 locs1 (cells + mc) (slots + ms) Qr (F0 m (pc + 3) ls' (v.toList ++ S))) :
    W p G.1 e R s m args below meth c H locs cells slots Qr (F0 m pc ls S0) := by
  intro T hT Y
  obtain ⟨v', st₀, t, T', L', h0, X', hL', e1, e2, ⟨v2, g1, g2, g3⟩, st⟩ := hr T hT Y
  cases g1
  cases g2
  obtain ⟨t2, a1, b1⟩ := K ls T'.heap (locs ++ L') hl (by rw [e1]; exact g3) (fun q hq => (List.mem_append.mp hq).elim (hL q) (hL' q)) T' rfl X'
  exact ⟨t2, st t2 a1, b1⟩
theorem v_callV {b ci : Nat} {fs : List Value} {T : u_T} {N : Nat} (hm : ky_CV M' n) (hm2 : ky_CVv M') (hlink : ky_T (.methodLink M.1.cls idx M'.1)) (hc : vwCl[ci]? = some (M'.1.cls, T, N)) (hi : M.2.2.2.2.1[i]? = some (pc, .invokevirtual idx, 3)) (hb : h.1 b = .inr (ci, fs)) (hn : As.length = n) (hst : S0 = As.reverse ++ .ref b :: S) (hS : (S.map fun v => v.category).sum ≤ 8)
    (hC : ky_Call G d M' (.ref b :: As) h (fun r h1 => ∃ v : Option Value, r = .inl v ∧ ky_V G (d + 1) M (pc + 3) L (v.toList ++ S) h1 Q)) : ky_V G (d + 1) M pc L S0 h Q := by
  obtain ⟨r1, h1, ⟨v, rfl, K⟩, m1, m2, hMt⟩ := hC
  refine ky_gen (h1 := h1) (L' := L) (S' := v.toList ++ S) (pc' := pc + 3) ⟨m1, m2⟩ (fun p e R s m args below meth c H locs cells slots ls Qr X hl hH hL hc9 hs9 K => ?_) K
  have hrv : ∃ cell : Cell, H[b]? = some cell ∧ cell.vm.isStatics = false ∧ s.vm.findClass M'.1.cls = some cell.cls := by
    have hP : va_P G.2.2.2.1 vwCl [(b, .inr (ci, fs))] H := fun j q hq => by
      match j, hq with
      | 0, hq => cases hq; exact (hH.at hb (ky_noJ_o hc)).2
      | j + 1, hq => simp at hq
    exact va_recv (ky_KK X) hP hc (q0 := 0) rfl
  refine ky_after (va_runV (Ts := []) (C := M'.1.cls) ⟨X.2.1, X.2.2.1, X.2.2.2.1, X.2.2.2.2.2.2.1, fun w h => nomatch h⟩ (ky_toMet (hMt X.1)) ⟨ky_cwB X hm hlink args, ky_w X hm2.1 args, ky_w X hm2.2 args⟩ ⟨ky_blind, hrv, fun U hU hW => ⟨rfl, State.WarmedH.trans X.2.2.2.2.2.2.2.1 hW, by rw [hU]; exact hH⟩⟩ rfl hn hl.1 hst (lv_room (m := m) (pc := pc) (ls := ls) (rest := S0) hS) (ky_dec X hi) ⟨hc9, hs9⟩) hl hL K
theorem v_callS (hm : ky_CV M' n) (hm2 : ky_T (.static M'.1)) (hlink : ky_T (.methodLink M.1.cls idx M'.1)) (hi : M.2.2.2.2.1[i]? = some (pc, .invokestatic idx, 3)) (hn : As.length = n) (hst : S0 = As.reverse ++ S) (hS : (S.map fun v => v.category).sum ≤ 8)
    (hC : ky_Call G d M' As h (fun r h1 => ∃ v : Option Value, r = .inl v ∧ ky_V G (d + 1) M (pc + 3) L (v.toList ++ S) h1 Q)) : ky_V G (d + 1) M pc L S0 h Q := by
  obtain ⟨r1, h1, ⟨v, rfl, K⟩, m1, m2, hMt⟩ := hC
  refine ky_gen (h1 := h1) (L' := L) (S' := v.toList ++ S) (pc' := pc + 3) ⟨m1, m2⟩ (fun p e R s m args below meth c H locs cells slots ls Qr X hl hH hL hc9 hs9 K => ?_) K
  refine ky_after (va_runS (Ts := []) ⟨X.2.1, X.2.2.1, X.2.2.2.1, X.2.2.2.2.2.2.1, fun w h => nomatch h⟩ (ky_toMet (hMt X.1)) ⟨ky_cwB X hm hlink args, ky_w X hm2 args⟩ ⟨ky_blind, fun U hU hW => ⟨rfl, State.WarmedH.trans X.2.2.2.2.2.2.2.1 hW, by rw [hU]; exact hH⟩⟩ rfl hn hl.1 hst (lv_room (m := m) (pc := pc) (ls := ls) (rest := S0) hS) (ky_dec X hi) ⟨hc9, hs9⟩) hl hL K
theorem v_callI {b : Nat} (hm : ky_CV M' n) (hret : M'.2.2.2.1 = none) (hname : M'.1.name = "<init>") (hm2 : ky_T (.instanceMethod M'.1)) (hlink : ky_T (.methodLink M.1.cls idx M'.1)) (hi : M.2.2.2.2.1[i]? = some (pc, .invokespecial idx, 3)) (hn : As.length = n) (hst : S0 = As.reverse ++ .ref b :: S) (hS : (S.map fun v => v.category).sum ≤ 8)
    (hC : ky_Call G d M' (.ref b :: As) h (fun r h1 => ∃ v : Option Value, r = .inl v ∧ ky_V G (d + 1) M (pc + 3) L (v.toList ++ S) h1 Q)) : ky_V G (d + 1) M pc L S0 h Q := by
  obtain ⟨r1, h1, ⟨v, rfl, K⟩, m1, m2, hMt⟩ := hC
  refine ky_gen (h1 := h1) (L' := L) (S' := v.toList ++ S) (pc' := pc + 3) ⟨m1, m2⟩ (fun p e R s m args below meth c H locs cells slots ls Qr X hl hH hL hc9 hs9 K => ?_) K
  have cb := ky_cwB (h := h) (h1 := h1) X hm hlink args
  have hMM := ky_toMet (hMt X.1)
  rw [hret] at cb hMM
  refine ky_after (va_runI (Ts := []) ⟨X.2.1, X.2.2.1, X.2.2.2.1, X.2.2.2.2.2.2.1, fun w h => nomatch h⟩ hMM ⟨cb, hname, ky_w X hm2 args⟩ ⟨ky_blind, fun U hU hW => ⟨rfl, State.WarmedH.trans X.2.2.2.2.2.2.2.1 hW, by rw [hU]; exact hH⟩⟩ rfl hn hl.1 hst (lv_room (m := m) (pc := pc) (ls := ls) (rest := S0) hS) (ky_dec X hi) ⟨hc9, hs9⟩) hl hL K
theorem v_callIN {b : Nat} {host : String} (hm : ky_CV M' n) (hret : M'.2.2.2.1 = none) (hname : M'.1.name = "<init>") (hm2 : ky_T (.instanceMethod M'.1)) (hlink : Cond.methodLinkNest M.1.cls idx M'.1 host ∈ lw_tbl) (hi : M.2.2.2.2.1[i]? = some (pc, .invokespecial idx, 3)) (hn : As.length = n) (hst : S0 = As.reverse ++ .ref b :: S) (hS : (S.map fun v => v.category).sum ≤ 8)
    (hC : ky_Call G d M' (.ref b :: As) h (fun r h1 => ∃ v : Option Value, r = .inl v ∧ ky_V G (d + 1) M (pc + 3) L (v.toList ++ S) h1 Q)) : ky_V G (d + 1) M pc L S0 h Q := by
  obtain ⟨r1, h1, ⟨v, rfl, K⟩, m1, m2, hMt⟩ := hC
  refine ky_gen (h1 := h1) (L' := L) (S' := v.toList ++ S) (pc' := pc + 3) ⟨m1, m2⟩ (fun p e R s m args below meth c H locs cells slots ls Qr X hl hH hL hc9 hs9 K => ?_) K
  have hMM := ky_toMet (hMt X.1)
  obtain ⟨w1, w2, ⟨y1, y2, y3⟩, y4⟩ := hm
  have hf := X.2.2.2.2.2.2.2.2.2.2.2.1
  have hlo := X.2.2.2.2.2.2.2.2.2.2.2.2.1
  have cb : va_CN R s args M.1.cls idx M'.1 host M'.2.1 M'.2.2.1 M'.2.2.2.1 [.code M'.1 M'.2.1 M'.2.2.1 M'.2.2.2.1] (ky_rm d h h1) (h1.2.1 - h.2.1) (h1.2.2 - h.2.2) n := by
    refine ⟨⟨rfl, rfl, hf, ?_, ?_, List.mem_singleton.mpr rfl⟩, ky_w X w1 args, ky_w X w2 args, ⟨y1, y2⟩, fun sig hsig => ?_, va_Nw.use rfl (va_Nw.warmM X.2.2.2.2.2.2.2.1 (va_Nw.of rfl (X.1.1 _ hlink)))⟩
    · show 8 + (M'.2.2.1 + 11) + 64 * d ≤ R.locals
      omega
    · intro w hw a' U hU
      rw [List.mem_singleton.mp hw]
      exact ky_wU X.1 (State.WarmedH.trans X.2.2.2.2.2.2.2.1 hU) w1 a'
    · rw [hsig] at y3
      exact (Option.some.inj y3).symm
  rw [hret] at cb hMM
  refine ky_after (va_runIN (Ts := []) ⟨X.2.1, X.2.2.1, X.2.2.2.1, X.2.2.2.2.2.2.1, fun w h => nomatch h⟩ hMM ⟨cb, hname, ky_w X hm2 args⟩ ⟨ky_blind, fun U hU hW => ⟨rfl, State.WarmedH.trans X.2.2.2.2.2.2.2.1 hW, by rw [hU]; exact hH⟩⟩ rfl hn hl.1 hst (lv_room (m := m) (pc := pc) (ls := ls) (rest := S0) hS) (ky_dec X hi) ⟨hc9, hs9⟩) hl hL K
end
