/-! the layer's rows for throws, handlers, and what lies in the old heap -/
def ky_gx (w : Cond) : Bool := match w with | .castable .. => true | .declares _ => true | _ => false
theorem ky_wordx {s0 U : State} {w : Cond} {A : Array Value} (hW : s0.WarmedH U.vm) (hg : ky_gx w = true) (h : w.before A s0 = true) (a' : Array Value) : w.before a' U = true := by
  cases w <;> first
    | (exact va_Nw.use rfl (va_Nw.warmC hW (va_Nw.of rfl h)))
    | (exact va_Nw.use rfl (va_Nw.warmD hW (va_Nw.of rfl h)))
    | (simp [ky_gx] at hg)
def ky_gd (w : Cond) : Bool := goodWord w || ky_gx w
theorem ky_word {s0 U : State} {w : Cond} {A : Array Value} (hW : s0.WarmedH U.vm) (hg : ky_gd w = true) (h : w.before A s0 = true) (a' : Array Value) : w.before a' U = true := by
  unfold ky_gd at hg
  rw [Bool.or_eq_true] at hg
  rcases hg with hg | hg
  · exact word_at hW (good_of_word hg) h
  · exact ky_wordx hW hg h a'
def ky_A (G : ky_GW) : Nat → Prop := fun q => ky_B G ≤ q
theorem ky_noA (G : ky_GW) : ∀ a : Nat, a < G.2.1.heap.size → ¬ ky_A G a := fun a h1 h2 => by unfold ky_A ky_B at h2; omega
theorem ky_flat {G : ky_GW} (hG : ky_OK G) {w : Cond} (h : w ∈ flatC (Jvm.Cond.and given_1 narrow_1)) : w.before G.2.2.1 G.2.1 = true := flat_of_before _ hG.2.2.2 w h
section
variable {G : ky_GW} {d : Nat} {M M' : ky_MT} {pc : Nat} {L : List (Nat × Value)} {S S0 : List Value} {h : ky_HP} {Q : ky_RS → ky_HP → Prop} {i n idx : Nat} {As : List Value}
/-- what a throw of E in the class own wants of the tables -/
def ky_TE (own : String) (ik ic : Nat) (E : String) : Prop := Bundle.fit E = true ∧ Cond.classLink own ik E ∈ lw_tbl ∧ Cond.initialized E ∈ lw_tbl ∧ (∀ w ∈ vx_atS own ic E ["java/lang/RuntimeException", "java/lang/Exception"], w ∈ lw_tbl ∧ ky_gd w = true ∧ vx_ot w = true)
def ky_TS : Prop := Cond.laysStatic Bundle.tN "UNASSIGNED_STACK" Bundle.steD ∈ lw_tbl ∧ Cond.laysStatic Bundle.tN "SUPPRESSED_SENTINEL" Bundle.listD ∈ lw_tbl ∧ Cond.initialized Bundle.tN ∈ lw_tbl ∧ Cond.isRef (.static Bundle.tN "UNASSIGNED_STACK" Bundle.steD) ∈ flatC (Jvm.Cond.and given_1 narrow_1) ∧ Cond.isRef (.static Bundle.tN "SUPPRESSED_SENTINEL" Bundle.listD) ∈ flatC (Jvm.Cond.and given_1 narrow_1)
theorem ky_oldZ {p : Program} {R : Room} {s : State} {m : MethodId} {meth : Method} {c : Code} (X : ky_CX G d M p R s m meth c) {C n d9 : String} (h : vx_Zq C n d9 (ky_A G) G.2.1 G.2.1.heap) : vx_Zq C n d9 (ky_A G) s s.heap :=
  vx_Zq.kept (vx_Zq.moved X.2.2.2.2.2.2.2.1.alike h) (fun a h1 _ => X.2.2.2.2.2.2.2.2.2.2.2.2.2.2 a h1)
theorem ky_vaS {s : State} {H : Heap} {locs : List Loc} (ho : ky_old G s.heap) (hH : ky_hR G h H) (hL : ∀ q ∈ locs, ky_B G ≤ q.base) (hz : s.heap.size ≤ H.size) : va_S (ky_A G) s.heap H locs :=
  ⟨hz, fun q _ h2 => by
    have h3 : q < ky_B G := Nat.not_le.mp h2
    rw [hH.2.1 q h3, ho.2 q h3], hL⟩
theorem v_throwS {E tx : String} {ik is ic sa i0 i1 i2 i3 i4 : Nat} (hE : ky_TE M.1.cls ik ic E) (hT : ky_TS) (hG : ky_OK G) (hstr : vk_R M.1.cls is tx sa G.2.1) (heh : M.2.2.2.2.2 = [])
    (d0 : M.2.2.2.2.1[i0]? = some (pc, .new ik, 3)) (d3 : M.2.2.2.2.1[i1]? = some (pc + 3, .dup, 1)) (d4 : M.2.2.2.2.1[i2]? = some (pc + 4, .ldc is, 2)) (d6 : M.2.2.2.2.1[i3]? = some (pc + 6, .invokespecial ic, 3)) (d9 : M.2.2.2.2.1[i4]? = some (pc + 9, .athrow, 1))
    (hS : (S.map fun v => v.category).sum ≤ 8) (K : Q (.inr E) (ky_nw G h ky_J 6)) : ky_V G (d + 6) M pc L S h Q := by
  obtain ⟨hfit, hk, hini, hat⟩ := hE
  refine ⟨.inr E, ky_nw G h ky_J 6, K, Nat.le_succ _, Nat.le_add_right _ _, ?_⟩
  intro p e R s m args below meth c H locs cells slots ls X hl hH hL hc hsl
  have z1 : (ky_nw G h ky_J 6).2.1 - h.2.1 = 1 := by show h.2.1 + 1 - h.2.1 = 1; omega
  have z2 : (ky_nw G h ky_J 6).2.2 - h.2.2 = 6 := by show h.2.2 + 6 - h.2.2 = 6; omega
  rw [z1] at hc ⊢
  rw [z2] at hsl ⊢
  have hW0 := X.2.2.2.2.2.2.2.1
  have hf := X.2.2.2.2.2.2.2.2.2.2.2.1
  have hlo := X.2.2.2.2.2.2.2.2.2.2.2.2.1
  have hna : ∀ a : Nat, a < G.2.1.heap.size → ¬ ky_A G a := ky_noA G
  have hU := ky_oldZ X (vx_Zqof (A := ky_A G) (hG.1 _ hT.1) (hG.1 _ hT.2.2.1) (ky_flat hG hT.2.2.2.1) hna)
  have hN := ky_oldZ X (vx_Zqof (A := ky_A G) (hG.1 _ hT.2.1) (hG.1 _ hT.2.2.1) (ky_flat hG hT.2.2.2.2) hna)
  intro T9 hT9 Y
  have hz : s.heap.size ≤ H.size := by rw [← hT9]; exact Y.same.2.1
  refine vx_throwS (names := ["java/lang/RuntimeException", "java/lang/Exception"]) (A := ky_A G) X.2.1 X.2.2.1 hG.2.2.1 X.2.2.2.2.2.2.1 hfit (by decide +kernel) (ky_word hW0 rfl (hG.1 _ hk) args) (ky_word hW0 rfl (hG.1 _ hini) args) (vk_R.warm hW0 hstr) (fun w hw => ky_word hW0 (hat w hw).2.1 (hG.1 _ (hat w hw).1) args) ?_ hU hN (ky_vaS X.2.2.2.2.2.2.2.2.2.2.2.2.2 hH hL hz) (by rw [X.2.2.2.1]; exact hl.1)
    (ky_dec X d0) (ky_dec X d3) (ky_dec X d4) (ky_dec X d6) (ky_dec X d9) ?_ (by show 2 + 3 < _; omega) (by show _ + (13 * (2 + 1) + 43) ≤ _; omega) hc hsl X.2.2.2.2.2.2.2.2.1 ?_ hL (Nat.le_refl _) (Nat.le_refl _) T9 hT9 Y
  · intro w hw
    rcases List.mem_cons.mp hw with rfl | hw
    · rfl
    · rcases List.mem_cons.mp hw with rfl | hw
      · rfl
      · exact (hat w hw).2.2
  · intro x hx
    rw [X.2.2.2.2.2.2.2.2.2.2.1, heh] at hx
    exact nomatch hx
  · intro t _ hsz ho
    exact ⟨rfl, hH.push (Or.inl rfl) hsz ho⟩
theorem v_throwSW {E tx : String} {ik is ic sa i0 i1 i2 i3 i4 : Nat} (hE : ky_TE M.1.cls ik ic E) (hT : ky_TS) (hG : ky_OK G) (hstr : vk_R M.1.cls is tx sa G.2.1) (heh : M.2.2.2.2.2 = [])
    (d0 : M.2.2.2.2.1[i0]? = some (pc, .new ik, 3)) (d3 : M.2.2.2.2.1[i1]? = some (pc + 3, .dup, 1)) (d4 : M.2.2.2.2.1[i2]? = some (pc + 4, .ldc_w is, 3)) (d6 : M.2.2.2.2.1[i3]? = some (pc + 7, .invokespecial ic, 3)) (d9 : M.2.2.2.2.1[i4]? = some (pc + 10, .athrow, 1))
    (hS : (S.map fun v => v.category).sum ≤ 8) (K : Q (.inr E) (ky_nw G h ky_J 6)) : ky_V G (d + 6) M pc L S h Q := by
  obtain ⟨hfit, hk, hini, hat⟩ := hE
  refine ⟨.inr E, ky_nw G h ky_J 6, K, Nat.le_succ _, Nat.le_add_right _ _, ?_⟩
  intro p e R s m args below meth c H locs cells slots ls X hl hH hL hc hsl
  have z1 : (ky_nw G h ky_J 6).2.1 - h.2.1 = 1 := by show h.2.1 + 1 - h.2.1 = 1; omega
  have z2 : (ky_nw G h ky_J 6).2.2 - h.2.2 = 6 := by show h.2.2 + 6 - h.2.2 = 6; omega
  rw [z1] at hc ⊢
  rw [z2] at hsl ⊢
  have hW0 := X.2.2.2.2.2.2.2.1
  have hf := X.2.2.2.2.2.2.2.2.2.2.2.1
  have hlo := X.2.2.2.2.2.2.2.2.2.2.2.2.1
  have hna : ∀ a : Nat, a < G.2.1.heap.size → ¬ ky_A G a := ky_noA G
  have hU := ky_oldZ X (vx_Zqof (A := ky_A G) (hG.1 _ hT.1) (hG.1 _ hT.2.2.1) (ky_flat hG hT.2.2.2.1) hna)
  have hN := ky_oldZ X (vx_Zqof (A := ky_A G) (hG.1 _ hT.2.1) (hG.1 _ hT.2.2.1) (ky_flat hG hT.2.2.2.2) hna)
  intro T9 hT9 Y
  have hz : s.heap.size ≤ H.size := by rw [← hT9]; exact Y.same.2.1
  refine vx_throwSW (names := ["java/lang/RuntimeException", "java/lang/Exception"]) (A := ky_A G) X.2.1 X.2.2.1 hG.2.2.1 X.2.2.2.2.2.2.1 hfit (by decide +kernel) (ky_word hW0 rfl (hG.1 _ hk) args) (ky_word hW0 rfl (hG.1 _ hini) args) (vk_R.warm hW0 hstr) (fun w hw => ky_word hW0 (hat w hw).2.1 (hG.1 _ (hat w hw).1) args) ?_ hU hN (ky_vaS X.2.2.2.2.2.2.2.2.2.2.2.2.2 hH hL hz) (by rw [X.2.2.2.1]; exact hl.1)
    (ky_dec X d0) (ky_dec X d3) (ky_dec X d4) (ky_dec X d6) (ky_dec X d9) ?_ (by show 2 + 3 < _; omega) (by show _ + (13 * (2 + 1) + 43) ≤ _; omega) hc hsl X.2.2.2.2.2.2.2.2.1 ?_ hL (Nat.le_refl _) (Nat.le_refl _) T9 hT9 Y
  · intro w hw
    rcases List.mem_cons.mp hw with rfl | hw
    · rfl
    · rcases List.mem_cons.mp hw with rfl | hw
      · rfl
      · exact (hat w hw).2.2
  · intro x hx
    rw [X.2.2.2.2.2.2.2.2.2.2.1, heh] at hx
    exact nomatch hx
  · intro t _ hsz ho
    exact ⟨rfl, hH.push (Or.inl rfl) hsz ho⟩
/-! reads of the old heap -/
theorem v_getO {o n9 d9 : String} {v : Value} {a : Nat} (hE : va_OF o n9 d9 v a (ky_A G) G.2.1 G.2.1.heap) (hlink : ky_T (.fieldLink M.1.cls idx o n9 d9)) (hi : M.2.2.2.2.1[i]? = some (pc, .getfield idx, 3)) (K : ky_V G d M (pc + 3) L (v :: S) h Q) : ky_V G d M pc L (.ref a :: S) h Q :=
  ky_rd (fun p e R s m args below meth c H locs cells slots ls Qr X hl hH K => by
    obtain ⟨cf, k, fi, f, cell, h1, h2, h3, h4, h5, h6⟩ := (va_OF.moved X.2.2.2.2.2.2.2.1.alike hE).kept (fun q hq _ => hH.2.1 q hq)
    exact W.getf X.2.1 X.2.2.1 X.2.2.2.2.2.2.1 (ky_w X hlink args) h1 h2 h3 h4 (v := v) h5 rfl rfl (ky_dec X hi) (K ls hl)) K
theorem v_alenO {ty : FieldType} {t N : Nat} {f : Nat → Value} {v : Int32} (hT : va_T ty t N f (ky_A G) G.2.1 G.2.1.heap) (hv : Int32.ofNat N = v) (hi : M.2.2.2.2.1[i]? = some (pc, .arraylength, 1)) (K : ky_V G d M (pc + 1) L (.int v :: S) h Q) : ky_V G d M pc L (.ref t :: S) h Q :=
  ky_rd (fun p e R s m args below meth c H locs cells slots ls Qr X hl hH K => by
    obtain ⟨cell, h1, h2, h3, h4, h5, h6, h7⟩ := (va_T.moved X.2.2.2.2.2.2.2.1.alike hT).kept (fun q hq _ => hH.2.1 q hq)
    exact W.alen X.2.1 X.2.2.1 h1 h2 (h5.trans hv) rfl rfl (ky_dec X hi) (K ls hl)) K
theorem v_baldO {t N : Nat} {f : Nat → Value} {x : Int32} (hT : va_T .byte t N f (ky_A G) G.2.1 G.2.1.heap) (hin : vp_in x N) (hi : M.2.2.2.2.1[i]? = some (pc, .baload, 1)) (K : ky_V G d M (pc + 1) L (f x.toNatClampNeg :: S) h Q) : ky_V G d M pc L (.int x :: .ref t :: S) h Q :=
  ky_rd (fun p e R s m args below meth c H locs cells slots ls Qr X hl hH K => by
    obtain ⟨cell, h1, h2, h3, h4, h5, h6, h7⟩ := (va_T.moved X.2.2.2.2.2.2.2.1.alike hT).kept (fun q hq _ => hH.2.1 q hq)
    have hlt : x.toNatClampNeg < N := Nat.not_le.mp fun q => hin (Or.inr q)
    exact W.bald X.2.1 X.2.2.1 h1 h2 h3 (fun z => z.elim (fun z => hin (Or.inl z)) (fun z => by omega)) (h6 _ hlt) rfl rfl (ky_dec X hi) (K ls hl)) K
theorem v_gets {C n9 d9 : String} {v : Value} (hZ : va_Z C n9 d9 v (ky_A G) G.2.1 G.2.1.heap) (hlink : ky_T (.fieldLink M.1.cls idx C n9 d9)) (hi : M.2.2.2.2.1[i]? = some (pc, .getstatic idx, 3)) (K : ky_V G d M (pc + 3) L (v :: S) h Q) : ky_V G d M pc L S h Q :=
  ky_gen (h1 := h) ⟨Nat.le_refl _, Nat.le_refl _⟩ (fun p e R s m args below meth c H locs cells slots ls Qr X hl hH hL _ _ K => by
    rw [Nat.sub_self, Nat.sub_self] at K
    intro T9 hT9 Y
    have hz : s.heap.size ≤ H.size := by rw [← hT9]; exact Y.same.2.1
    exact va_gets X.2.1 X.2.2.1 (va_Z.kept (va_Z.moved X.2.2.2.2.2.2.2.1.alike hZ) (fun a h1 _ => X.2.2.2.2.2.2.2.2.2.2.2.2.2.2 a h1)) (ky_vaS X.2.2.2.2.2.2.2.2.2.2.2.2.2 hH hL hz) X.2.2.2.2.2.2.1 (ky_w X hlink args) (fun _ h9 => h9) (ky_dec X hi) (K ls H locs hl hH hL) T9 hT9 Y) K
theorem v_ldcS {tx : String} {a : Nat} (hZ : vk_R M.1.cls idx tx a G.2.1) (hi : M.2.2.2.2.1[i]? = some (pc, .ldc idx, 2)) (K : ky_V G d M (pc + 2) L (.ref a :: S) h Q) : ky_V G d M pc L S h Q :=
  ky_fr (fun p e R s m args below meth c H locs cells slots ls Qr X hl K => va_ldcS X.2.1 X.2.2.1 X.2.2.2.2.2.2.1 (vk_R.warm X.2.2.2.2.2.2.2.1 hZ) (ky_dec X hi) (K ls hl)) K
/-- a String of the old heap: its bytes -/
def ky_Str (G : ky_GW) (a : Nat) (bs : List Int32) : Prop := ∃ v : Nat, va_O "java/lang/String" a (ky_A G) G.2.1 G.2.1.heap ∧ va_OF "java/lang/String" "coder" "B" (.int 0) a (ky_A G) G.2.1 G.2.1.heap ∧ va_OF "java/lang/String" "value" "[B" (.ref v) a (ky_A G) G.2.1 G.2.1.heap ∧ va_T .byte v bs.length (fun j => .int (bs.getD j 0)) (ky_A G) G.2.1 G.2.1.heap
theorem v_callVO {b : Nat} (hm : ky_CV M' n) (hm2 : ky_CVv M') (hlink : ky_T (.methodLink M.1.cls idx M'.1)) (hi : M.2.2.2.2.1[i]? = some (pc, .invokevirtual idx, 3)) (hb : va_O M'.1.cls b (ky_A G) G.2.1 G.2.1.heap) (hn : As.length = n) (hst : S0 = As.reverse ++ .ref b :: S) (hS : (S.map fun v => v.category).sum ≤ 8)
    (hC : ky_Call G d M' (.ref b :: As) h (fun r h1 => ∃ v : Option Value, r = .inl v ∧ ky_V G (d + 1) M (pc + 3) L (v.toList ++ S) h1 Q)) : ky_V G (d + 1) M pc L S0 h Q := by
  obtain ⟨r1, h1, ⟨v, rfl, K⟩, m1, m2, hMt⟩ := hC
  refine ky_gen (h1 := h1) (L' := L) (S' := v.toList ++ S) (pc' := pc + 3) ⟨m1, m2⟩ (fun p e R s m args below meth c H locs cells slots ls Qr X hl hH hL hc9 hs9 K => ?_) K
  have hrv : ∃ cell : Cell, H[b]? = some cell ∧ cell.vm.isStatics = false ∧ s.vm.findClass M'.1.cls = some cell.cls := by
    obtain ⟨cell, g1, g2, g3, -⟩ := (va_O.moved X.2.2.2.2.2.2.2.1.alike hb).kept (fun q hq _ => hH.2.1 q hq)
    exact ⟨cell, g1, g2, g3⟩
  refine ky_after (va_runV (Ts := []) (C := M'.1.cls) ⟨X.2.1, X.2.2.1, X.2.2.2.1, X.2.2.2.2.2.2.1, fun w h => nomatch h⟩ (ky_toMet (hMt X.1)) ⟨ky_cwB X hm hlink args, ky_w X hm2.1 args, ky_w X hm2.2 args⟩ ⟨ky_blind, hrv, fun U hU hW => ⟨rfl, State.WarmedH.trans X.2.2.2.2.2.2.2.1 hW, by rw [hU]; exact hH⟩⟩ rfl hn hl.1 hst (lv_room (m := m) (pc := pc) (ls := ls) (rest := S0) hS) (ky_dec X hi) ⟨hc9, hs9⟩) hl hL K
end
