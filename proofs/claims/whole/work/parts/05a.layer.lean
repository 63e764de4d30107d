/-! THE LAYER. A run of a method as a relation between pure heaps: cells by address, how many cells, how many slots; over the kit's W. -/
abbrev ky_HP : Type := (Nat → va_E) × Nat × Nat
abbrev ky_RS : Type := Option Value ⊕ String
abbrev ky_GW : Type := Launch × State × Array Value × va_G × (Nat → ClassId)
/-- a cell of which nothing is said -/
def ky_J : va_E := .inr (1000, [])
def ky_B (G : ky_GW) : Nat := G.2.1.heap.size
def ky_ty (G : ky_GW) : List (ClassId × FieldType) := [(G.2.2.2.2 0, .byte), (G.2.2.2.2 1, .int), (G.2.2.2.2 2, .boolean), (G.2.2.2.2 3, .object "WaistSand$Scene"), (G.2.2.2.2 4, .long)]
def ky_old (G : ky_GW) (H : Heap) : Prop := ky_B G ≤ H.size ∧ ∀ q : Nat, q < ky_B G → H[q]? = G.2.1.heap[q]?
def ky_hR (G : ky_GW) (h : ky_HP) (H : Heap) : Prop := H.size = ky_B G + h.2.1 ∧ (∀ q : Nat, q < ky_B G → H[q]? = G.2.1.heap[q]?) ∧ ∀ a : Nat, h.1 a = ky_J ∨ (ky_B G ≤ a ∧ va_at G.2.2.2.1 vwCl (a, h.1 a) H)
/-- a word of the tables that stays true -/
def ky_T (w : Cond) : Prop := w ∈ lw_tbl ∧ goodWord w = true
def ky_OK (G : ky_GW) : Prop := (∀ w ∈ lw_tbl, w.before G.2.2.1 G.2.1 = true) ∧ va_K G.2.2.2.1 vwCl (ky_ty G) G.2.1 ∧ G.1.stackTraces = false ∧ (Jvm.Cond.and given_1 narrow_1).before G.2.2.1 G.2.1 = true
def ky_CX (G : ky_GW) (d : Nat) (M : ky_MT) (p : Program) (R : Room) (s : State) (m : MethodId) (meth : Method) (c : Code) : Prop :=
  ky_OK G ∧ p.tables.exec = Jvm.exec ∧ c.code = M.2.1 ∧ c.maxLocals = M.2.2.1 ∧ meth.sig.returnType = M.2.2.2.1 ∧ ky_ok M.2.1 M.2.2.2.2.1 = true ∧ s.vm.findClass M.1.cls = some m.cls ∧ G.2.1.WarmedH s.vm ∧ meth.locks = false ∧ meth.name = M.1.name ∧ c.exceptionTable.toList = tableOf M.2.2.2.2.2 ∧ d ≤ R.frames ∧ 64 * d ≤ R.locals ∧ ky_old G s.heap
def ky_EQ (G : ky_GW) (below : List Frame) (args : Array Value) (s : State) (r : ky_RS) (h' : ky_HP) (mc ms : Nat) : State → Prop :=
  vx_MQ below (fun _ _ o t => ∃ v : Option Value, r = .inl v ∧ o = .returned v ∧ ky_hR G h' t.heap) (fun E _ t => r = .inr E ∧ ky_hR G h' t.heap) args s mc ms (fun q => ky_B G ≤ q)
def ky_RF (G : ky_GW) (d : Nat) (M : ky_MT) (pc : Nat) (L : List (Nat × Value)) (S : List Value) (h : ky_HP) (r : ky_RS) (h' : ky_HP) : Prop :=
  ∀ (p : Program) (e : Env) (R : Room) (s : State) (m : MethodId) (args : Array Value) (below : List Frame) (meth : Method) (c : Code) (H : Heap) (locs : List Loc) (cells slots : Nat) (ls : Array Slot),
    ky_CX G d M p R s m meth c → lv_has ls M.2.2.1 L → ky_hR G h H → (∀ q ∈ locs, ky_B G ≤ q.base) → cells + (h'.2.1 - h.2.1) ≤ R.cells → slots + (h'.2.2 - h.2.2) ≤ R.slots →
    W p G.1 e R s m args below meth c H locs cells slots (ky_EQ G below args s r h' (cells + (h'.2.1 - h.2.1)) (slots + (h'.2.2 - h.2.2))) (F0 m pc ls S)
/-- from this frame the method comes to an end with Q -/
def ky_V (G : ky_GW) (d : Nat) (M : ky_MT) (pc : Nat) (L : List (Nat × Value)) (S : List Value) (h : ky_HP) (Q : ky_RS → ky_HP → Prop) : Prop :=
  ∃ (r : ky_RS) (h' : ky_HP), Q r h' ∧ h.2.1 ≤ h'.2.1 ∧ h.2.2 ≤ h'.2.2 ∧ ky_RF G d M pc L S h r h'
def ky_up (h : ky_HP) (a : Nat) (e : va_E) : ky_HP := (va_up h.1 a e, h.2)
def ky_nw (G : ky_GW) (h : ky_HP) (e : va_E) (k : Nat) : ky_HP := (va_up h.1 (ky_B G + h.2.1) e, h.2.1 + 1, h.2.2 + k)
theorem ky_dec {G : ky_GW} {d : Nat} {M : ky_MT} {p : Program} {R : Room} {s : State} {m : MethodId} {meth : Method} {c : Code} (X : ky_CX G d M p R s m meth c) {i pc len : Nat} {ins : Instr} (h : M.2.2.2.2.1[i]? = some (pc, ins, len)) : decode M.2.1 pc = .ok (ins, len) := by
  have h1 := List.all_eq_true.mp X.2.2.2.2.2.1 _ (List.mem_of_getElem? h)
  exact of_decide_eq_true h1
theorem ky_w {G : ky_GW} {d : Nat} {M : ky_MT} {p : Program} {R : Room} {s : State} {m : MethodId} {meth : Method} {c : Code} (X : ky_CX G d M p R s m meth c) {w : Cond} (h : ky_T w) (a : Array Value) : w.before a s = true :=
  word_at X.2.2.2.2.2.2.2.1 (good_of_word h.2) (X.1.1 w h.1)
theorem ky_wU {G : ky_GW} (hOK : ky_OK G) {U : State} (hW : G.2.1.WarmedH U.vm) {w : Cond} (h : ky_T w) (a : Array Value) : w.before a U = true :=
  word_at hW (good_of_word h.2) (hOK.1 w h.1)
theorem ky_KK {G : ky_GW} {d : Nat} {M : ky_MT} {p : Program} {R : Room} {s : State} {m : MethodId} {meth : Method} {c : Code} (X : ky_CX G d M p R s m meth c) : va_K G.2.2.2.1 vwCl (ky_ty G) s :=
  va_K.moved X.2.2.2.2.2.2.2.1.alike X.1.2.1
theorem ky_hR.lt {G : ky_GW} {h : ky_HP} {H : Heap} (hH : ky_hR G h H) {a : Nat} (hj : h.1 a ≠ ky_J) : ky_B G ≤ a ∧ va_at G.2.2.2.1 vwCl (a, h.1 a) H :=
  (hH.2.2 a).elim (fun e => absurd e hj) id
theorem ky_noJ_o {ci : Nat} {fs : List Value} {q : vw_C} (hc : vwCl[ci]? = some q) : (.inr (ci, fs) : va_E) ≠ ky_J := by
  intro h
  have h1 : ci = 1000 := by
    have h2 := Sum.inr.inj h
    exact congrArg Prod.fst h2
  subst h1
  have h3 : vwCl[1000]? = none := rfl
  rw [h3] at hc
  cases hc
theorem ky_noJ_a {x : ClassId × vp_A} : (.inl x : va_E) ≠ ky_J := fun h => by cases h
theorem ky_hR.at {G : ky_GW} {h : ky_HP} {H : Heap} (hH : ky_hR G h H) {a : Nat} {e : va_E} (he : h.1 a = e) (hj : e ≠ ky_J) : ky_B G ≤ a ∧ va_at G.2.2.2.1 vwCl (a, e) H := by
  subst he
  exact hH.lt hj
theorem ky_hR.set {G : ky_GW} {h : ky_HP} {H H' : Heap} (hH : ky_hR G h H) {a : Nat} (ha : ky_B G ≤ a) {e : va_E} (hat : va_at G.2.2.2.1 vwCl (a, e) H') (hz : H'.size = H.size) (ho : ∀ q : Nat, q ≠ a → H'[q]? = H[q]?) : ky_hR G (ky_up h a e) H' := by
  refine ⟨hz.trans hH.1, fun q hq => (ho q (by omega)).trans (hH.2.1 q hq), fun b => ?_⟩
  by_cases hb : b = a
  · subst hb
    refine Or.inr ⟨ha, ?_⟩
    have h1 : (ky_up h b e).1 b = e := by simp [ky_up, va_up]
    rw [h1]; exact hat
  · have h1 : (ky_up h a e).1 b = h.1 b := by simp [ky_up, va_up, hb]
    rw [h1]
    rcases hH.2.2 b with h2 | ⟨h2, h3⟩
    · exact Or.inl h2
    · exact Or.inr ⟨h2, va_at.kept h3 (ho b hb)⟩
theorem ky_hR.push {G : ky_GW} {h : ky_HP} {H H' : Heap} (hH : ky_hR G h H) {e : va_E} {k : Nat} (hat : e = ky_J ∨ va_at G.2.2.2.1 vwCl (H.size, e) H') (hz : H'.size = H.size + 1) (ho : ∀ q : Nat, q < H.size → H'[q]? = H[q]?) : ky_hR G (ky_nw G h e k) H' := by
  have hs := hH.1
  refine ⟨?_, fun q hq => (ho q (by omega)).trans (hH.2.1 q hq), fun b => ?_⟩
  · show H'.size = ky_B G + (h.2.1 + 1)
    omega
  · by_cases hb : b = ky_B G + h.2.1
    · subst hb
      have h1 : (ky_nw G h e k).1 (ky_B G + h.2.1) = e := by simp [ky_nw, va_up]
      rw [h1]
      rcases hat with h2 | h2
      · exact Or.inl h2
      · rw [hs] at h2
        exact Or.inr ⟨by omega, h2⟩
    · have h1 : (ky_nw G h e k).1 b = h.1 b := by simp [ky_nw, va_up, hb]
      rw [h1]
      rcases hH.2.2 b with h2 | ⟨h2, h3⟩
      · exact Or.inl h2
      · exact Or.inr ⟨h2, va_at.kept h3 (ho b h3.lt)⟩
theorem ky_hR.keep {G : ky_GW} {h : ky_HP} {H : Heap} (hH : ky_hR G h H) : ky_old G H := ⟨by have := hH.1; omega, hH.2.1⟩
/-- a step with one successor -/
theorem ky_gen {G : ky_GW} {d : Nat} {M : ky_MT} {pc pc' : Nat} {L L' : List (Nat × Value)} {S S' : List Value} {h h1 : ky_HP} {Q : ky_RS → ky_HP → Prop} (hm : h.2.1 ≤ h1.2.1 ∧ h.2.2 ≤ h1.2.2)
    (hs : ∀ (p : Program) (e : Env) (R : Room) (s : State) (m : MethodId) (args : Array Value) (below : List Frame) (meth : Method) (c : Code) (H : Heap) (locs : List Loc) (cells slots : Nat) (ls : Array Slot) (Qr : State → Prop),
      ky_CX G d M p R s m meth c → lv_has ls M.2.2.1 L → ky_hR G h H → (∀ q ∈ locs, ky_B G ≤ q.base) → cells + (h1.2.1 - h.2.1) ≤ R.cells → slots + (h1.2.2 - h.2.2) ≤ R.slots →
      (∀ (ls' : Array Slot) (H1 : Heap) (locs1 : List Loc), lv_has ls' M.2.2.1 L' → ky_hR G h1 H1 → (∀ q ∈ locs1, ky_B G ≤ q.base) → W p G.1 e R s m args below meth c H1 locs1 (cells + (h1.2.1 - h.2.1)) (slots + (h1.2.2 - h.2.2)) Qr (F0 m pc' ls' S')) →
      W p G.1 e R s m args below meth c H locs cells slots Qr (F0 m pc ls S))
    (K : ky_V G d M pc' L' S' h1 Q) : ky_V G d M pc L S h Q := by
  obtain ⟨r, h', hQ, m1, m2, hr⟩ := K
  refine ⟨r, h', hQ, Nat.le_trans hm.1 m1, Nat.le_trans hm.2 m2, ?_⟩
  intro p e R s m args below meth c H locs cells slots ls X hl hH hL hc hsl
  have e1 : cells + (h'.2.1 - h.2.1) = cells + (h1.2.1 - h.2.1) + (h'.2.1 - h1.2.1) := by have := hm.1; omega
  have e2 : slots + (h'.2.2 - h.2.2) = slots + (h1.2.2 - h.2.2) + (h'.2.2 - h1.2.2) := by have := hm.2; omega
  rw [e1, e2]
  exact hs p e R s m args below meth c H locs cells slots ls _ X hl hH hL (by omega) (by omega) (fun ls' H1 locs1 hl' hH1 hL1 => hr p e R s m args below meth c H1 locs1 _ _ ls' X hl' hH1 hL1 (by omega) (by omega))
/-- a step that moves the frame alone -/
theorem ky_fr {G : ky_GW} {d : Nat} {M : ky_MT} {pc pc' : Nat} {L L' : List (Nat × Value)} {S S' : List Value} {h : ky_HP} {Q : ky_RS → ky_HP → Prop}
    (hs : ∀ (p : Program) (e : Env) (R : Room) (s : State) (m : MethodId) (args : Array Value) (below : List Frame) (meth : Method) (c : Code) (H : Heap) (locs : List Loc) (cells slots : Nat) (ls : Array Slot) (Qr : State → Prop),
      ky_CX G d M p R s m meth c → lv_has ls M.2.2.1 L → (∀ ls' : Array Slot, lv_has ls' M.2.2.1 L' → W p G.1 e R s m args below meth c H locs cells slots Qr (F0 m pc' ls' S')) →
      W p G.1 e R s m args below meth c H locs cells slots Qr (F0 m pc ls S))
    (K : ky_V G d M pc' L' S' h Q) : ky_V G d M pc L S h Q :=
  ky_gen ⟨Nat.le_refl _, Nat.le_refl _⟩ (fun p e R s m args below meth c H locs cells slots ls Qr X hl hH hL _ _ K => by
    rw [Nat.sub_self, Nat.sub_self] at K
    exact hs p e R s m args below meth c H locs cells slots ls Qr X hl (fun ls' hl' => K ls' H locs hl' hH hL)) K
/-- a branch -/
theorem ky_br {G : ky_GW} {d : Nat} {M : ky_MT} {pc p1 p2 : Nat} {L : List (Nat × Value)} {S S1 : List Value} {h : ky_HP} {Q : ky_RS → ky_HP → Prop} (q : Prop)
    (hs : ∀ (p : Program) (e : Env) (R : Room) (s : State) (m : MethodId) (args : Array Value) (below : List Frame) (meth : Method) (c : Code) (H : Heap) (locs : List Loc) (cells slots : Nat) (ls : Array Slot) (Qr : State → Prop),
      ky_CX G d M p R s m meth c → (q → W p G.1 e R s m args below meth c H locs cells slots Qr (F0 m p1 ls S1)) → (¬ q → W p G.1 e R s m args below meth c H locs cells slots Qr (F0 m p2 ls S1)) →
      W p G.1 e R s m args below meth c H locs cells slots Qr (F0 m pc ls S))
    (K1 : q → ky_V G d M p1 L S1 h Q) (K2 : ¬ q → ky_V G d M p2 L S1 h Q) : ky_V G d M pc L S h Q := by
  rcases Classical.em q with hq | hq
  · exact ky_fr (fun p e R s m args below meth c H locs cells slots ls Qr X hl K => hs p e R s m args below meth c H locs cells slots ls Qr X (fun _ => K ls hl) (fun z => absurd hq z)) (K1 hq)
  · exact ky_fr (fun p e R s m args below meth c H locs cells slots ls Qr X hl K => hs p e R s m args below meth c H locs cells slots ls Qr X (fun z => absurd z hq) (fun _ => K ls hl)) (K2 hq)
theorem ky_mono {G : ky_GW} {d : Nat} {M : ky_MT} {pc : Nat} {L : List (Nat × Value)} {S : List Value} {h : ky_HP} {Q Q' : ky_RS → ky_HP → Prop} (hq : ∀ r h', Q r h' → Q' r h') (K : ky_V G d M pc L S h Q) : ky_V G d M pc L S h Q' := by
  obtain ⟨r, h', hQ, hr⟩ := K
  exact ⟨r, h', hq r h' hQ, hr⟩
theorem ky_loc {G : ky_GW} {d : Nat} {M : ky_MT} {pc : Nat} {L L' : List (Nat × Value)} {S : List Value} {h : ky_HP} {Q : ky_RS → ky_HP → Prop} (hL : ∀ q ∈ L', q ∈ L) (K : ky_V G d M pc L' S h Q) : ky_V G d M pc L S h Q :=
  ky_fr (fun p e R s m args below meth c H locs cells slots ls Qr X hl K => K ls ⟨hl.1, hl.2.1, fun q hq => hl.2.2 q (hL q hq)⟩) K
