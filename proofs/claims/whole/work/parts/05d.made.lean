/-! the layer's rows for what is made: objects, arrays, copies -/
section
variable {G : ky_GW} {d : Nat} {M : ky_MT} {pc : Nat} {L : List (Nat × Value)} {S : List Value} {h : ky_HP} {Q : ky_RS → ky_HP → Prop} {i : Nat}
/-- a step that makes a cell -/
theorem ky_mk {pc' k : Nat} {S' : List Value} {e9 : va_E}
    (hs : ∀ (p : Program) (e : Env) (R : Room) (s : State) (m : MethodId) (args : Array Value) (below : List Frame) (meth : Method) (c : Code) (H : Heap) (locs : List Loc) (cells slots : Nat) (ls : Array Slot) (Qr : State → Prop),
      ky_CX G d M p R s m meth c → lv_has ls M.2.2.1 L → ky_hR G h H → H.size = ky_B G + h.2.1 → cells + 1 ≤ R.cells → slots + k ≤ R.slots →
      (∀ H1 : Heap, va_at G.2.2.2.1 vwCl (ky_B G + h.2.1, e9) H1 → H1.size = ky_B G + h.2.1 + 1 → (∀ q : Nat, q < ky_B G + h.2.1 → H1[q]? = H[q]?) → W p G.1 e R s m args below meth c H1 locs (cells + 1) (slots + k) Qr (F0 m pc' ls S')) →
      W p G.1 e R s m args below meth c H locs cells slots Qr (F0 m pc ls S))
    (K : ky_V G d M pc' L S' (ky_nw G h e9 k) Q) : ky_V G d M pc L S h Q :=
  ky_gen (h1 := ky_nw G h e9 k) (L' := L) (S' := S') (pc' := pc') ⟨Nat.le_succ _, Nat.le_add_right _ _⟩ (fun p e R s m args below meth c H locs cells slots ls Qr X hl hH hL hc hsl K => by
    have z1 : (ky_nw G h e9 k).2.1 - h.2.1 = 1 := by show h.2.1 + 1 - h.2.1 = 1; omega
    have z2 : (ky_nw G h e9 k).2.2 - h.2.2 = k := by show h.2.2 + k - h.2.2 = k; omega
    rw [z1] at K hc
    rw [z2] at K hsl
    refine hs p e R s m args below meth c H locs cells slots ls Qr X hl hH hH.1 hc hsl (fun H1 hat hz ho => K ls H1 locs hl (hH.push (Or.inr ?_) ?_ ?_) hL)
    · rw [hH.1]; exact hat
    · rw [hH.1]; exact hz
    · rw [hH.1]; exact ho) K
theorem v_new {C : String} {T : u_T} {N ci idx : Nat} {fs : List Value} (hin : ∀ w ∈ u_ws C T N, ky_T w) (ty : Nat → FieldType) (hty : ∀ k, k < N → parseFieldDescriptor (T k).2.2.1 = some (ty k)) (hc : vwCl[ci]? = some (C, T, N)) (hcl : ky_T (.classLink M.1.cls idx C)) (hinst : ky_T (.instantiable C N)) (hini : ky_T (.initialized C)) (hfs : ∀ j, j < N → defaultValue (ty j) = vp_V fs j)
    (hi : M.2.2.2.2.1[i]? = some (pc, .new idx, 3)) (K : ky_V G d M (pc + 3) L (.ref (ky_B G + h.2.1) :: S) (ky_nw G h (.inr (ci, fs)) N) Q) : ky_V G d M pc L S h Q :=
  ky_mk (fun p e R s m args below meth c H locs cells slots ls Qr X hl hH hz hcl9 hsl9 K => by
    have hKn := (ky_KK X).1 ci _ hc
    refine W.newcK X.2.1 X.2.2.1 X.2.2.2.2.2.2.1 (ky_w X hcl args) (ky_w X hinst args) (ky_w X hini args) rfl (ky_dec X hi) hcl9 hsl9 hKn.2.1 hz fun H1 kC hkC e1 z1 o1 => ?_
    exact K H1 ⟨_, hc, (u_born ty (fun w hw => ky_w X (hin w hw) args) (fun w hw => hw) hKn hkC e1 hty).to hfs⟩ z1 o1) K
theorem ky_cy {s : State} {cA cB : ClassId} {n : String} (h1 : s.vm.findClass n = some cA) (h2 : s.vm.findClass n = some cB) : cB = cA := Option.some.inj (h2.symm.trans h1)
theorem v_newi {n : Int32} {N : Nat} (hw : ky_T (.arrayClass .int)) (hi : M.2.2.2.2.1[i]? = some (pc, .newarray .int, 2)) (hn : ¬ n < 0) (hN : n.toNatClampNeg = N) (hb : N ≤ 134217728) (K : ky_V G d M (pc + 2) L (.ref (ky_B G + h.2.1) :: S) (ky_nw G h (.inl (G.2.2.2.2 1, N, .inl (fun _ => 0))) N) Q) : ky_V G d M pc L (.int n :: S) h Q :=
  ky_mk (fun p e R s m args below meth c H locs cells slots ls Qr X hl hH hz hcl9 hsl9 K => by
    refine va_newaK X.2.1 X.2.2.1 (atype := .int) (ky_w X hw args) rfl (ky_dec X hi) rfl hn hN (by show N * 4 ≤ 536870912; omega) hcl9 hsl9 hz fun H1 cA e1 z1 o1 hAr hNm => ?_
    have hcA : cA = G.2.2.2.2 1 := ky_cy ((ky_KK X).2 1 _ rfl).2 hNm
    subst hcA
    exact K H1 e1 z1 o1) K
theorem v_newb {n : Int32} {N : Nat} (hw : ky_T (.arrayClass .byte)) (hi : M.2.2.2.2.1[i]? = some (pc, .newarray .byte, 2)) (hn : ¬ n < 0) (hN : n.toNatClampNeg = N) (hb : N ≤ 134217728) (K : ky_V G d M (pc + 2) L (.ref (ky_B G + h.2.1) :: S) (ky_nw G h (.inl (G.2.2.2.2 0, N, .inl (fun _ => 0))) N) Q) : ky_V G d M pc L (.int n :: S) h Q :=
  ky_mk (fun p e R s m args below meth c H locs cells slots ls Qr X hl hH hz hcl9 hsl9 K => by
    refine va_newaK X.2.1 X.2.2.1 (atype := .byte) (ky_w X hw args) rfl (ky_dec X hi) rfl hn hN (by show N * 1 ≤ 536870912; omega) hcl9 hsl9 hz fun H1 cA e1 z1 o1 hAr hNm => ?_
    have hcA : cA = G.2.2.2.2 0 := ky_cy ((ky_KK X).2 0 _ rfl).2 hNm
    subst hcA
    exact K H1 e1 z1 o1) K
theorem v_newz {n : Int32} {N : Nat} (hw : ky_T (.arrayClass .boolean)) (hi : M.2.2.2.2.1[i]? = some (pc, .newarray .boolean, 2)) (hn : ¬ n < 0) (hN : n.toNatClampNeg = N) (hb : N ≤ 134217728) (K : ky_V G d M (pc + 2) L (.ref (ky_B G + h.2.1) :: S) (ky_nw G h (.inl (G.2.2.2.2 2, N, .inl (fun _ => 0))) N) Q) : ky_V G d M pc L (.int n :: S) h Q :=
  ky_mk (fun p e R s m args below meth c H locs cells slots ls Qr X hl hH hz hcl9 hsl9 K => by
    refine va_newaK X.2.1 X.2.2.1 (atype := .boolean) (ky_w X hw args) rfl (ky_dec X hi) rfl hn hN (by show N * 1 ≤ 536870912; omega) hcl9 hsl9 hz fun H1 cA e1 z1 o1 hAr hNm => ?_
    have hcA : cA = G.2.2.2.2 2 := ky_cy ((ky_KK X).2 2 _ rfl).2 hNm
    subst hcA
    exact K H1 e1 z1 o1) K
theorem v_newl {n : Int32} {N : Nat} (hw : ky_T (.arrayClass .long)) (hi : M.2.2.2.2.1[i]? = some (pc, .newarray .long, 2)) (hn : ¬ n < 0) (hN : n.toNatClampNeg = N) (hb : N ≤ 67108864) (K : ky_V G d M (pc + 2) L (.ref (ky_B G + h.2.1) :: S) (ky_nw G h (.inl (G.2.2.2.2 4, N, .inr (.inl (fun _ => 0)))) N) Q) : ky_V G d M pc L (.int n :: S) h Q :=
  ky_mk (fun p e R s m args below meth c H locs cells slots ls Qr X hl hH hz hcl9 hsl9 K => by
    refine va_newaK X.2.1 X.2.2.1 (atype := .long) (ky_w X hw args) rfl (ky_dec X hi) rfl hn hN (by show N * 8 ≤ 536870912; omega) hcl9 hsl9 hz fun H1 cA e1 z1 o1 hAr hNm => ?_
    have hcA : cA = G.2.2.2.2 4 := ky_cy ((ky_KK X).2 4 _ rfl).2 hNm
    subst hcA
    exact K H1 e1 z1 o1) K
theorem v_newA {idx : Nat} {n : Int32} {N : Nat} (hcl : ky_T (.classLink M.1.cls idx "WaistSand$Scene")) (hov : ky_T (.arrayOver (.object "WaistSand$Scene"))) (hi : M.2.2.2.2.1[i]? = some (pc, .anewarray idx, 3)) (hn : ¬ n < 0) (hN : n.toNatClampNeg = N) (hb : N ≤ 134217728) (K : ky_V G d M (pc + 3) L (.ref (ky_B G + h.2.1) :: S) (ky_nw G h (.inl (G.2.2.2.2 3, N, .inr (.inr (.inr (.inr (fun _ => none)))))) N) Q) : ky_V G d M pc L (.int n :: S) h Q :=
  ky_mk (fun p e R s m args below meth c H locs cells slots ls Qr X hl hH hz hcl9 hsl9 K => by
    subst hN
    refine W.anew X.2.1 X.2.2.1 X.2.2.2.2.2.2.1 (ky_w X hcl args) (ky_w X hov args) rfl (ky_dec X hi) rfl hn (by omega) hcl9 hsl9 fun cA kA comp h1 h2 h3 h4 => ?_
    obtain ⟨kA', comp', k1, k2, k3, k4⟩ := ((ky_KK X).2 3 _ rfl).2
    have hcA : cA = G.2.2.2.2 3 := ky_cy k4 h1
    subst hcA
    rw [hz]
    refine K _ ?_ ?_ ?_
    · show (H.push _)[_]? = some (vp_cell _ _)
      rw [← hz, Array.getElem?_push_size, arrV_new]
      rfl
    · rw [Array.size_push, hz]
    · intro q hq
      rw [Array.getElem?_push, if_neg (by omega)]) K
theorem v_objInit {idx a : Nat} (hlink : ky_T (.methodLink M.1.cls idx Lib.objectInit)) (hinst : ky_T (.instanceMethod Lib.objectInit)) (hcode : ky_T (.code Lib.objectInit ⟨#[0xb1]⟩ 1 none)) (hi : M.2.2.2.2.1[i]? = some (pc, .invokespecial idx, 3)) (hS : (S.map fun v => v.category).sum ≤ 8) (K : ky_V G (d + 1) M (pc + 3) L S h Q) : ky_V G (d + 1) M pc L (.ref a :: S) h Q :=
  ky_fr (fun p e R s m args below meth c H locs cells slots ls Qr X hl K => by
    have hf := X.2.2.2.2.2.2.2.2.2.2.2.1
    have hlo := X.2.2.2.2.2.2.2.2.2.2.2.2.1
    refine W.objInit X.2.1 X.2.2.1 X.2.2.2.2.2.2.1 (ky_w X hlink args) (ky_w X hinst args) (ky_w X hcode args) rfl (by rw [X.2.2.2.1]; exact hl.1) rfl (ky_dec X hi) (by omega) (by show 2 * 0 + _ + 12 ≤ _; omega) ?_
    exact K ls hl) K
/-- System.arraycopy between int arrays -/
theorem v_copyi {idx a0 a : Nat} {n0 n1 : Nat} {f g : Nat → Int32} {sp dp n : Int32} (hlink : ky_T (.methodLink M.1.cls idx arraycopyName)) (hnat : ky_T (.native arraycopyName)) (hstat : ky_T (.static arraycopyName)) (hini : ky_T (.initialized "java/lang/System"))
    (hi : M.2.2.2.2.1[i]? = some (pc, .invokestatic idx, 3)) (ha0 : h.1 a0 = .inl (G.2.2.2.2 1, n0, .inl f)) (ha1 : h.1 a = .inl (G.2.2.2.2 1, n1, .inl g)) (h1 : ¬ sp < 0) (h2 : ¬ dp < 0) (h3 : ¬ n < 0) (h4 : sp.toNatClampNeg + n.toNatClampNeg ≤ n0) (h5 : dp.toNatClampNeg + n.toNatClampNeg ≤ n1) (hS : (S.map fun v => v.category).sum ≤ 8)
    (K : ky_V G (d + 1) M (pc + 3) L S (ky_up h a (.inl (G.2.2.2.2 1, n1, .inl (va_cpy f g sp.toNatClampNeg dp.toNatClampNeg n.toNatClampNeg)))) Q) : ky_V G (d + 1) M pc L (.int n :: .int dp :: .ref a :: .int sp :: .ref a0 :: S) h Q :=
  ky_wr (fun p e R s m args below meth c H locs cells slots ls Qr X hl hH hL K => by
    have nn : ∀ z : Int32, ¬ z < 0 → z.toInt = (z.toNatClampNeg : Int) := by
      intro z hz
      have hz0 : (0 : Int) ≤ z.toInt := by
        have := Int32.not_lt.mp hz
        simpa using Int32.le_iff_toInt_le.mp this
      show z.toInt = ((z.toInt.toNat : Nat) : Int)
      omega
    have hf9 := X.2.2.2.2.2.2.2.2.2.2.2.1
    have hlo := X.2.2.2.2.2.2.2.2.2.2.2.2.1
    have hwd : nativeFrameWords "java/lang/System" "arraycopy" 5 + 11 ≤ 56 := by decide +kernel
    intro T hT Y
    have hc0 : H[a0]? = some (vp_cell (G.2.2.2.2 1) (n0, .inl f)) := (hH.at ha0 ky_noJ_a).2
    have hc1 : H[a]? = some (vp_cell (G.2.2.2.2 1) (n1, .inl g)) := (hH.at ha1 ky_noJ_a).2
    obtain ⟨-, k0, hk0, cm0, hkk0⟩ := ((ky_KK X).2 1 _ rfl).1 n0 (fun j => .int (f j))
    obtain ⟨-, k1, hk1, cm1, hkk1⟩ := ((ky_KK X).2 1 _ rfl).1 n1 (fun j => .int (g j))
    obtain ⟨vm', X', step⟩ := Y.arraycopy X.2.1 X.2.2.2.2.2.2.1 (ky_w X hlink args) (ky_w X hnat args) (ky_w X hstat args) (ky_w X hini args) (src := a0) (dst := a) (cs := vp_cell (G.2.2.2.2 1) (n0, .inl f)) (cd := vp_cell (G.2.2.2.2 1) (n1, .inl g)) (srcPos := sp) (destPos := dp) (n := n) (by rw [hT]; exact hc0) (by rw [hT]; exact hc1)
      (fun _ h => by cases h) (fun _ h => by cases h) (fun h => by cases h) (fun h => by cases h) hk0 hk1 hkk0 hkk1 (by simp [refKind]) h1 h2 h3
      (by rw [nn sp h1, nn n h3]; show ¬ _ > ((arrV (G.2.2.2.2 1) n0 (fun j => .int (f j))).slots.size : Int); rw [arrV_size]; omega)
      (by rw [nn dp h2, nn n h3]; show ¬ _ > ((arrV (G.2.2.2.2 1) n1 (fun j => .int (g j))).slots.size : Int); rw [arrV_size]; omega)
      (fun vm₁ _ i hi => by
        have e : (vp_cell (G.2.2.2.2 1) (n0, .inl f)).slots.getD (sp.toNatClampNeg + i) .null = .int (f (sp.toNatClampNeg + i)) := by
          show (arrV (G.2.2.2.2 1) n0 (fun j => .int (f j))).slots.getD _ _ = _
          rw [Array.getD_eq_getD_getElem?, arrV_read _ _ (by omega)]
          rfl
        refine ⟨?_, ?_⟩
        · rw [e]
          rfl
        · rw [e]
          exact trivial)
      (g := F0 m pc ls (.int n :: .int dp :: .ref a :: .int sp :: .ref a0 :: S)) rfl (by rw [X.2.2.2.1]; exact hl.1) (rest := S) rfl (by rw [X.2.2.1]; exact ky_dec X hi) (by omega) (by show 2 * 0 + _ + _ ≤ _; omega)
    have e1 : copied (vp_cell (G.2.2.2.2 1) (n0, .inl f)) (vp_cell (G.2.2.2.2 1) (n1, .inl g)) sp dp n = vp_cell (G.2.2.2.2 1) (n1, .inl (va_cpy f g sp.toNatClampNeg dp.toNatClampNeg n.toNatClampNeg)) := va_copied (fun z => .int z) _ _ f g h4
    rw [e1] at X' step
    have hl9 : a < H.size := (Array.getElem?_eq_some_iff.mp hc1).1
    have hheap : ((T.setVm vm').setCell a (vp_cell (G.2.2.2.2 1) (n1, .inl (va_cpy f g sp.toNatClampNeg dp.toNatClampNeg n.toNatClampNeg)))).heap = H.setIfInBounds a (vp_cell (G.2.2.2.2 1) (n1, .inl (va_cpy f g sp.toNatClampNeg dp.toNatClampNeg n.toNatClampNeg))) := by rw [← hT]; rfl
    have oq : ∀ q : Nat, q ≠ a → (H.setIfInBounds a (vp_cell (G.2.2.2.2 1) (n1, .inl (va_cpy f g sp.toNatClampNeg dp.toNatClampNeg n.toNatClampNeg))))[q]? = H[q]? := fun q hq => by simp [Array.getElem?_setIfInBounds, Ne.symm hq]
    obtain ⟨t, a1, b1⟩ := K _ _ (show (H.setIfInBounds a _)[a]? = some _ by simp [Array.getElem?_setIfInBounds, hl9]) (by simp) oq (fun q hq => by
        rcases List.mem_append.mp hq with h | h
        · exact Or.inl h
        · obtain ⟨z, -, hz⟩ := List.mem_map.mp h
          rw [← hz]
          exact Or.inr rfl) _ hheap X'
    exact ⟨t, step t a1, b1⟩) (by rw [ha1]; exact ky_noJ_a) K
end
