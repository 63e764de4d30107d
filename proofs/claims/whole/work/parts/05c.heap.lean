/-! the layer's rows for the heap -/
section
variable {G : ky_GW} {d : Nat} {M : ky_MT} {pc : Nat} {L : List (Nat × Value)} {S : List Value} {h : ky_HP} {Q : ky_RS → ky_HP → Prop} {i : Nat}
/-- a step that reads the heap -/
theorem ky_rd {pc' : Nat} {L' : List (Nat × Value)} {S' : List Value}
    (hs : ∀ (p : Program) (e : Env) (R : Room) (s : State) (m : MethodId) (args : Array Value) (below : List Frame) (meth : Method) (c : Code) (H : Heap) (locs : List Loc) (cells slots : Nat) (ls : Array Slot) (Qr : State → Prop),
      ky_CX G d M p R s m meth c → lv_has ls M.2.2.1 L → ky_hR G h H → (∀ ls' : Array Slot, lv_has ls' M.2.2.1 L' → W p G.1 e R s m args below meth c H locs cells slots Qr (F0 m pc' ls' S')) →
      W p G.1 e R s m args below meth c H locs cells slots Qr (F0 m pc ls S))
    (K : ky_V G d M pc' L' S' h Q) : ky_V G d M pc L S h Q :=
  ky_gen ⟨Nat.le_refl _, Nat.le_refl _⟩ (fun p e R s m args below meth c H locs cells slots ls Qr X hl hH hL _ _ K => by
    rw [Nat.sub_self, Nat.sub_self] at K
    exact hs p e R s m args below meth c H locs cells slots ls Qr X hl hH (fun ls' hl' => K ls' H locs hl' hH hL)) K
/-- a step that writes a cell -/
theorem ky_wr {pc' : Nat} {S' : List Value} {a : Nat} {e9 : va_E}
    (hs : ∀ (p : Program) (e : Env) (R : Room) (s : State) (m : MethodId) (args : Array Value) (below : List Frame) (meth : Method) (c : Code) (H : Heap) (locs : List Loc) (cells slots : Nat) (ls : Array Slot) (Qr : State → Prop),
      ky_CX G d M p R s m meth c → lv_has ls M.2.2.1 L → ky_hR G h H → (∀ q ∈ locs, ky_B G ≤ q.base) →
      (∀ (H1 : Heap) (locs1 : List Loc), va_at G.2.2.2.1 vwCl (a, e9) H1 → H1.size = H.size → (∀ q : Nat, q ≠ a → H1[q]? = H[q]?) → (∀ q ∈ locs1, q ∈ locs ∨ q.base = a) → W p G.1 e R s m args below meth c H1 locs1 cells slots Qr (F0 m pc' ls S')) →
      W p G.1 e R s m args below meth c H locs cells slots Qr (F0 m pc ls S))
    (hj : h.1 a ≠ ky_J) (K : ky_V G d M pc' L S' (ky_up h a e9) Q) : ky_V G d M pc L S h Q :=
  ky_gen (h1 := ky_up h a e9) (L' := L) (S' := S') (pc' := pc') ⟨Nat.le_refl _, Nat.le_refl _⟩ (fun p e R s m args below meth c H locs cells slots ls Qr X hl hH hL _ _ K => by
    have z1 : (ky_up h a e9).2.1 - h.2.1 = 0 := Nat.sub_self _
    have z2 : (ky_up h a e9).2.2 - h.2.2 = 0 := Nat.sub_self _
    rw [z1, z2] at K
    have hb := (hH.lt hj).1
    exact hs p e R s m args below meth c H locs cells slots ls Qr X hl hH hL (fun H1 locs1 hat hz ho hq => K ls H1 locs1 hl (hH.set hb hat hz ho) (fun q h9 => (hq q h9).elim (hL q) (fun e8 => by rw [e8]; exact hb)))) K
theorem ky_mem1 {locs : List Loc} {a k : Nat} : ∀ q ∈ locs ++ [(⟨a, k⟩ : Loc)], q ∈ locs ∨ q.base = a := fun q h => by
  rcases List.mem_append.mp h with h1 | h1
  · exact Or.inl h1
  · rw [List.mem_singleton.mp h1]; exact Or.inr rfl
theorem v_get {C : String} {T : u_T} {N ci k idx a : Nat} {fs : List Value} {v : Value} (hin : ∀ w ∈ u_ws C T N, ky_T w) (hc : vwCl[ci]? = some (C, T, N)) (hk : k < N) (hlink : ky_T (.fieldLink M.1.cls idx (T k).1 (T k).2.1 (T k).2.2.1))
    (hi : M.2.2.2.2.1[i]? = some (pc, .getfield idx, 3)) (ha : h.1 a = .inr (ci, fs)) (hv : fs[k]? = some v) (K : ky_V G d M (pc + 3) L (v :: S) h Q) : ky_V G d M pc L (.ref a :: S) h Q :=
  ky_rd (fun p e R s m args below meth c H locs cells slots ls Qr X hl hH K => by
    have hP : va_P G.2.2.2.1 vwCl [(a, .inr (ci, fs))] H := fun j q hq => by
      match j, hq with
      | 0, hq => cases hq; exact (hH.at ha (ky_noJ_o hc)).2
      | j + 1, hq => simp at hq
    exact va_get X.2.1 X.2.2.1 (Ts := u_ws C T N) (fun w hw => ky_w X (hin w hw) args) (fun w hw => hw) X.2.2.2.2.2.2.1 (ky_KK X) hP 0 rfl hc k hk (ky_w X hlink args) (fun _ h9 => h9) hv (ky_dec X hi) (K ls hl)) K
theorem v_put {C : String} {T : u_T} {N ci k idx a : Nat} {fs : List Value} {v : Value} {ty : FieldType} (hin : ∀ w ∈ u_ws C T N, ky_T w) (ty0 : Nat → FieldType) (hty : ∀ k, k < N → parseFieldDescriptor (T k).2.2.1 = some (ty0 k)) (hnm : ∀ a, a < N → ∀ b, b < N → a ≠ b → (T a).2.1 ≠ (T b).2.1) (hc : vwCl[ci]? = some (C, T, N)) (hk : k < N) (hlink : ky_T (.fieldLink M.1.cls idx (T k).1 (T k).2.1 (T k).2.2.1)) (hfin : (T k).2.2.2 = false) (hd : parseFieldDescriptor (T k).2.2.1 = some ty)
    (hi : M.2.2.2.2.1[i]? = some (pc, .putfield idx, 3)) (ha : h.1 a = .inr (ci, fs)) (hl9 : k < fs.length) (hn : narrow ty v = v) (hfit : fits ty v = true) (K : ky_V G d M (pc + 3) L S (ky_up h a (.inr (ci, fs.set k v))) Q) : ky_V G d M pc L (v :: .ref a :: S) h Q :=
  ky_wr (fun p e R s m args below meth c H locs cells slots ls Qr X hl hH hL K => by
    have hts : ∀ w ∈ u_ws C T N, w.before args s = true := fun w hw => ky_w X (hin w hw) args
    have hK := ky_KK X
    have hap := va_apart (own := C) hts (fun w hw => hw) ty0 hty hnm hK hc
    obtain ⟨r, h1, cell, q1, q2, q3, q4⟩ := (hH.at ha (ky_noJ_o hc)).2
    have hr : r = (C, T, N) := Option.some.inj (h1.symm.trans hc)
    subst hr
    obtain ⟨hS, hfc, kC, hkC, hkind⟩ := hK.1 ci _ hc
    obtain ⟨cf, kf, fi, f, hi9, hsl⟩ := hS k hk
    have hlay := hts _ (u_in_lay hk)
    unfold u_lay at hlay
    rw [if_neg (by rw [hfin]; decide)] at hlay
    have hst := (u_facts hfc hkC (u_lays hts (fun w hw => hw) hk) hi9).1
    have h6 := u_store hfc hkC hkind hlay hi9 hd hn hfit
    refine W.putK X.2.1 X.2.2.1 (f := f) ⟨X.2.2.2.2.2.2.1, ky_w X hlink args, ⟨_, _, _, hi9⟩, hst⟩ (by rw [q2]; exact h6) q1 q3 (by rw [hsl]; exact k2_hasslot (q4 k hk)) rfl rfl (ky_dec X hi) fun H' e1 e2 e3 => ?_
    rw [hsl] at e1 ⊢
    exact K H' _ ⟨_, hc, t_OB.to (V := updV (vp_V fs) k v) ⟨_, e1, q2, q3, t_set q4 hap hk v⟩ (fun j _ => vp_updV_set hl9 v j)⟩ e2 e3 ky_mem1) (by rw [ha]; exact ky_noJ_o hc) K
theorem v_putF {C : String} {T : u_T} {N ci k idx a : Nat} {fs : List Value} {v : Value} {ty : FieldType} (hin : ∀ w ∈ u_ws C T N, ky_T w) (ty0 : Nat → FieldType) (hty : ∀ k, k < N → parseFieldDescriptor (T k).2.2.1 = some (ty0 k)) (hnm : ∀ a, a < N → ∀ b, b < N → a ≠ b → (T a).2.1 ≠ (T b).2.1) (hc : vwCl[ci]? = some (C, T, N)) (hk : k < N) (hlink : ky_T (.fieldLink M.1.cls idx (T k).1 (T k).2.1 (T k).2.2.1)) (hfin : (T k).2.2.2 = true) (hown : (T k).1 = M.1.cls) (hname : M.1.name = "<init>") (hd : parseFieldDescriptor (T k).2.2.1 = some ty)
    (hi : M.2.2.2.2.1[i]? = some (pc, .putfield idx, 3)) (ha : h.1 a = .inr (ci, fs)) (hl9 : k < fs.length) (hn : narrow ty v = v) (hfit : fits ty v = true) (K : ky_V G d M (pc + 3) L S (ky_up h a (.inr (ci, fs.set k v))) Q) : ky_V G d M pc L (v :: .ref a :: S) h Q :=
  ky_wr (fun p e R s m args below meth c H locs cells slots ls Qr X hl hH hL K => by
    have hts : ∀ w ∈ u_ws C T N, w.before args s = true := fun w hw => ky_w X (hin w hw) args
    have hK := ky_KK X
    have hap := va_apart (own := C) hts (fun w hw => hw) ty0 hty hnm hK hc
    obtain ⟨r, h1, cell, q1, q2, q3, q4⟩ := (hH.at ha (ky_noJ_o hc)).2
    have hr : r = (C, T, N) := Option.some.inj (h1.symm.trans hc)
    subst hr
    obtain ⟨hS, hfc, kC, hkC, hkind⟩ := hK.1 ci _ hc
    obtain ⟨cf, kf, fi, f, hi9, hsl⟩ := hS k hk
    have hlay := hts _ (u_in_lay hk)
    unfold u_lay at hlay
    rw [if_pos hfin] at hlay
    have hst := (u_facts hfc hkC (u_lays hts (fun w hw => hw) hk) hi9).1
    have hcf : m.cls = cf := by
      obtain ⟨_, _, c', _, _, _, -, -, hf', -, -, -, hown2, -⟩ := Cond.laysFinal_spec hlay
      have e1 : c' = cf := by have := hi9.symm.trans hf'; simp at this; exact this.1.symm
      rw [hown] at hown2
      rw [← e1]; exact Option.some.inj (X.2.2.2.2.2.2.1.symm.trans hown2)
    have h6 := u_fits hfc hkC hkind (Or.inr hlay) hi9 hd hn hfit
    refine W.putFinK X.2.1 X.2.2.1 X.2.2.2.2.2.2.1 (ky_w X hlink args) hi9 hst hcf (X.2.2.2.2.2.2.2.2.2.1.trans hname) (by rw [q2]; exact h6) q1 q3 (by rw [hsl]; exact k2_hasslot (q4 k hk)) rfl rfl (ky_dec X hi) fun H' e1 e2 e3 => ?_
    rw [hsl] at e1 ⊢
    exact K H' _ ⟨_, hc, t_OB.to (V := updV (vp_V fs) k v) ⟨_, e1, q2, q3, t_set q4 hap hk v⟩ (fun j _ => vp_updV_set hl9 v j)⟩ e2 e3 ky_mem1) (by rw [ha]; exact ky_noJ_o hc) K
theorem ky_P1 {H : Heap} {a : Nat} {x : ClassId × vp_A} (hH : ky_hR G h H) (ha : h.1 a = .inl x) : va_P G.2.2.2.1 vwCl [(a, .inl x)] H := fun j q hq => by
  match j, hq with
  | 0, hq => cases hq; exact (hH.at ha ky_noJ_a).2
  | j + 1, hq => simp at hq
theorem v_iald {n a : Nat} {f : Nat → Int32} {x : Int32} (hi : M.2.2.2.2.1[i]? = some (pc, .iaload, 1)) (ha : h.1 a = .inl (G.2.2.2.2 1, n, .inl f)) (hin : vp_in x n) (K : ky_V G d M (pc + 1) L (.int (f x.toNatClampNeg) :: S) h Q) : ky_V G d M pc L (.int x :: .ref a :: S) h Q :=
  ky_rd (fun p e R s m args below meth c H locs cells slots ls Qr X hl hH K => va_iald X.2.1 X.2.2.1 (ky_KK X) (ky_P1 hH ha) 0 1 rfl rfl hin (ky_dec X hi) (K ls hl)) K
theorem v_bald {n a : Nat} {f : Nat → Int32} {x : Int32} (hi : M.2.2.2.2.1[i]? = some (pc, .baload, 1)) (ha : h.1 a = .inl (G.2.2.2.2 0, n, .inl f)) (hin : vp_in x n) (K : ky_V G d M (pc + 1) L (.int (f x.toNatClampNeg) :: S) h Q) : ky_V G d M pc L (.int x :: .ref a :: S) h Q :=
  ky_rd (fun p e R s m args below meth c H locs cells slots ls Qr X hl hH K => va_bald X.2.1 X.2.2.1 (ky_KK X) (ky_P1 hH ha) 0 0 rfl rfl hin (ky_dec X hi) (K ls hl)) K
theorem v_zald {n a : Nat} {f : Nat → Int32} {x : Int32} (hi : M.2.2.2.2.1[i]? = some (pc, .baload, 1)) (ha : h.1 a = .inl (G.2.2.2.2 2, n, .inl f)) (hin : vp_in x n) (K : ky_V G d M (pc + 1) L (.int (f x.toNatClampNeg) :: S) h Q) : ky_V G d M pc L (.int x :: .ref a :: S) h Q :=
  ky_rd (fun p e R s m args below meth c H locs cells slots ls Qr X hl hH K => va_zald X.2.1 X.2.2.1 (ky_KK X) (ky_P1 hH ha) 0 2 rfl rfl hin (ky_dec X hi) (K ls hl)) K
theorem v_lald {n a : Nat} {f : Nat → Int64} {x : Int32} (hi : M.2.2.2.2.1[i]? = some (pc, .laload, 1)) (ha : h.1 a = .inl (G.2.2.2.2 4, n, .inr (.inl f))) (hin : vp_in x n) (K : ky_V G d M (pc + 1) L (.long (f x.toNatClampNeg) :: S) h Q) : ky_V G d M pc L (.int x :: .ref a :: S) h Q :=
  ky_rd (fun p e R s m args below meth c H locs cells slots ls Qr X hl hH K => va_lald X.2.1 X.2.2.1 (ky_KK X) (ky_P1 hH ha) 0 4 rfl rfl hin (ky_dec X hi) (K ls hl)) K
theorem v_aald {n a : Nat} {f : Nat → Option Nat} {x : Int32} (hi : M.2.2.2.2.1[i]? = some (pc, .aaload, 1)) (ha : h.1 a = .inl (G.2.2.2.2 3, n, .inr (.inr (.inr (.inr f))))) (hin : vp_in x n) (K : ky_V G d M (pc + 1) L (va_rf (f x.toNatClampNeg) :: S) h Q) : ky_V G d M pc L (.int x :: .ref a :: S) h Q :=
  ky_rd (fun p e R s m args below meth c H locs cells slots ls Qr X hl hH K => va_aldq X.2.1 X.2.2.1 (ky_KK X) (ky_P1 hH ha) 0 3 rfl rfl hin (ky_dec X hi) (K ls hl)) K
theorem v_alen {a : Nat} {x : vp_A} {v : Int32} (t0 : Nat) (ht : t0 < 5) (hi : M.2.2.2.2.1[i]? = some (pc, .arraylength, 1)) (ha : h.1 a = .inl (G.2.2.2.2 t0, x)) (hv : Int32.ofNat x.1 = v) (K : ky_V G d M (pc + 1) L (.int v :: S) h Q) : ky_V G d M pc L (.ref a :: S) h Q :=
  ky_rd (fun p e R s m args below meth c H locs cells slots ls Qr X hl hH K => by
    obtain ⟨ty, hty⟩ : ∃ ty, (ky_ty G)[t0]? = some (G.2.2.2.2 t0, ty) := by
      match t0, ht with
      | 0, _ => exact ⟨_, rfl⟩
      | 1, _ => exact ⟨_, rfl⟩
      | 2, _ => exact ⟨_, rfl⟩
      | 3, _ => exact ⟨_, rfl⟩
      | 4, _ => exact ⟨_, rfl⟩
      | n + 5, h9 => omega
    exact va_alen X.2.1 X.2.2.1 (ky_KK X) (ky_P1 hH ha) 0 t0 rfl hty hv (ky_dec X hi) (K ls hl)) K
theorem ky_sz {cA : ClassId} {n : Nat} {f : Nat → Value} {x : Int32} (hin : vp_in x n) : ¬ (x < 0 ∨ (arrV cA n f).slots.size ≤ x.toNatClampNeg) := by rw [arrV_size]; exact hin
theorem v_iast {n a : Nat} {f : Nat → Int32} {x v : Int32} (hi : M.2.2.2.2.1[i]? = some (pc, .iastore, 1)) (ha : h.1 a = .inl (G.2.2.2.2 1, n, .inl f)) (hin : vp_in x n) (K : ky_V G d M (pc + 1) L S (ky_up h a (.inl (G.2.2.2.2 1, n, .inl (upd f x.toNatClampNeg v)))) Q) : ky_V G d M pc L (.int v :: .int x :: .ref a :: S) h Q :=
  ky_wr (fun p e R s m args below meth c H locs cells slots ls Qr X hl hH hL K => by
    have hc := (hH.at ha ky_noJ_a).2
    refine W.iast X.2.1 X.2.2.1 hc (((ky_KK X).2 1 _ rfl).1 n (fun j => .int (f j))) (fun q => by cases q) (ky_sz hin) rfl rfl (ky_dec X hi) fun H1 e1 e2 e3 => ?_
    refine K H1 _ ?_ e2 e3 ky_mem1
    show H1[a]? = some (vp_cell _ _)
    rw [e1]
    show some ((vp_cell _ (n, .inl f)).setSlot _ _) = _
    rw [vp_cell_i, vp_cell_i, arrV_store]
    congr 2
    funext q
    by_cases hq : q = x.toNatClampNeg
    · subst hq; simp [updV, upd]
    · simp [updV, upd, hq]) (by rw [ha]; exact ky_noJ_a) K
theorem v_bast {n a : Nat} {f : Nat → Int32} {x v : Int32} (hi : M.2.2.2.2.1[i]? = some (pc, .bastore, 1)) (ha : h.1 a = .inl (G.2.2.2.2 0, n, .inl f)) (hin : vp_in x n) (K : ky_V G d M (pc + 1) L S (ky_up h a (.inl (G.2.2.2.2 0, n, .inl (upd f x.toNatClampNeg v.toInt8.toInt32)))) Q) : ky_V G d M pc L (.int v :: .int x :: .ref a :: S) h Q :=
  ky_wr (fun p e R s m args below meth c H locs cells slots ls Qr X hl hH hL K => by
    have hc := (hH.at ha ky_noJ_a).2
    refine W.bast X.2.1 X.2.2.1 hc (((ky_KK X).2 0 _ rfl).1 n (fun j => .int (f j))) (fun q => by cases q) (ky_sz hin) rfl rfl (ky_dec X hi) fun H1 e1 e2 e3 => ?_
    refine K H1 _ ?_ e2 e3 ky_mem1
    show H1[a]? = some (vp_cell _ _)
    rw [e1]
    show some ((vp_cell _ (n, .inl f)).setSlot _ _) = _
    rw [vp_cell_i, vp_cell_i, arrV_store]
    congr 2
    funext q
    by_cases hq : q = x.toNatClampNeg
    · subst hq; simp [updV, upd, narrow]
    · simp [updV, upd, hq]) (by rw [ha]; exact ky_noJ_a) K
theorem v_zast {n a : Nat} {f : Nat → Int32} {x v : Int32} (hi : M.2.2.2.2.1[i]? = some (pc, .bastore, 1)) (ha : h.1 a = .inl (G.2.2.2.2 2, n, .inl f)) (hin : vp_in x n) (hv : narrow .boolean (.int v) = .int v) (K : ky_V G d M (pc + 1) L S (ky_up h a (.inl (G.2.2.2.2 2, n, .inl (upd f x.toNatClampNeg v)))) Q) : ky_V G d M pc L (.int v :: .int x :: .ref a :: S) h Q :=
  ky_wr (fun p e R s m args below meth c H locs cells slots ls Qr X hl hH hL K => by
    have hc := (hH.at ha ky_noJ_a).2
    refine W.zast X.2.1 X.2.2.1 hc (((ky_KK X).2 2 _ rfl).1 n (fun j => .int (f j))) (fun q => by cases q) (ky_sz hin) rfl rfl (ky_dec X hi) fun H1 e1 e2 e3 => ?_
    refine K H1 _ ?_ e2 e3 ky_mem1
    show H1[a]? = some (vp_cell _ _)
    rw [e1, hv]
    show some ((vp_cell _ (n, .inl f)).setSlot _ _) = _
    rw [vp_cell_i, vp_cell_i, arrV_store]
    congr 2
    funext q
    by_cases hq : q = x.toNatClampNeg
    · subst hq; simp [updV, upd]
    · simp [updV, upd, hq]) (by rw [ha]; exact ky_noJ_a) K
theorem v_last {n a : Nat} {f : Nat → Int64} {x : Int32} {v : Int64} (hi : M.2.2.2.2.1[i]? = some (pc, .lastore, 1)) (ha : h.1 a = .inl (G.2.2.2.2 4, n, .inr (.inl f))) (hin : vp_in x n) (K : ky_V G d M (pc + 1) L S (ky_up h a (.inl (G.2.2.2.2 4, n, .inr (.inl (vp_updL f x.toNatClampNeg v))))) Q) : ky_V G d M pc L (.long v :: .int x :: .ref a :: S) h Q :=
  ky_wr (fun p e R s m args below meth c H locs cells slots ls Qr X hl hH hL K => by
    have hc := (hH.at ha ky_noJ_a).2
    refine W.last X.2.1 X.2.2.1 hc (((ky_KK X).2 4 _ rfl).1 n (fun j => .long (f j))) (fun q => by cases q) (ky_sz hin) rfl rfl (ky_dec X hi) fun H1 e1 e2 e3 => ?_
    refine K H1 _ ?_ e2 e3 ky_mem1
    show H1[a]? = some (vp_cell _ _)
    rw [e1]
    show some ((vp_cell _ (n, .inr (.inl f))).setSlot _ _) = _
    rw [vp_cell_l, vp_cell_l, arrV_store]
    congr 2
    funext q
    by_cases hq : q = x.toNatClampNeg
    · subst hq; simp [updV, vp_updL]
    · simp [updV, vp_updL, hq]) (by rw [ha]; exact ky_noJ_a) K
theorem v_aast {n a b ci : Nat} {fs : List Value} {T : u_T} {N : Nat} {f : Nat → Option Nat} {x : Int32} (hi : M.2.2.2.2.1[i]? = some (pc, .aastore, 1)) (ha : h.1 a = .inl (G.2.2.2.2 3, n, .inr (.inr (.inr (.inr f))))) (hb : h.1 b = .inr (ci, fs)) (hc : vwCl[ci]? = some ("WaistSand$Scene", T, N)) (hin : vp_in x n) (K : ky_V G d M (pc + 1) L S (ky_up h a (.inl (G.2.2.2.2 3, n, .inr (.inr (.inr (.inr (va_up f x.toNatClampNeg (some b)))))))) Q) : ky_V G d M pc L (.ref b :: .int x :: .ref a :: S) h Q :=
  ky_wr (fun p e R s m args below meth c H locs cells slots ls Qr X hl hH hL K => by
    have hcA := (hH.at ha ky_noJ_a).2
    have hK := ky_KK X
    have hlt : x.toNatClampNeg < n := Nat.not_le.mp fun q => hin (Or.inr q)
    have h0 : ¬ x < 0 := fun q => hin (Or.inl q)
    obtain ⟨r', hr', cellV, g1, g2, g3, -⟩ := (hH.at hb (ky_noJ_o hc)).2
    have hcls := (hK.1 ci _ hc).2
    obtain ⟨kA, comp, k1, k2, k3, -⟩ := (hK.2 3 _ rfl).2
    have hcomp : comp = G.2.2.2.1.1 ci := Option.some.inj (k3.symm.trans hcls.1)
    subst hcomp
    obtain ⟨kC, hkC, -⟩ := hcls.2
    refine W.aast X.2.1 X.2.2.1 hcA (fun q h => by cases h) (fun h => by cases h) k1 k2 rfl hkC ⟨h0, by show _ < (arrV _ _ _).slots.size; rw [arrV_size]; exact hlt⟩ g1 (fun q h => by rw [g3] at h; cases h) (by rw [g2]; exact hkC) (by rw [g2]; exact va_assign hcls) rfl rfl (ky_dec X hi) fun H1 e1 e2 e3 => ?_
    refine K H1 _ ?_ e2 e3 ky_mem1
    show H1[a]? = some (vp_cell _ _)
    rw [e1]
    show some ((vp_cell _ (n, .inr (.inr (.inr (.inr f))))).setSlot _ _) = _
    rw [vp_cell_q, vp_cell_q, arrV_store]
    congr 2
    funext q
    by_cases hq : q = x.toNatClampNeg
    · subst hq; simp [updV, va_up, va_rf]
    · simp [updV, va_up, hq]) (by rw [ha]; exact ky_noJ_a) K
end
