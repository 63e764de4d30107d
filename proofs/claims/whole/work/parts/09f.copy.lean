section
variable {G : ky_GW} {d : Nat} {M : ky_MT} {pc : Nat} {L : List (Nat × Value)} {S : List Value} {h : ky_HP} {Q : ky_RS → ky_HP → Prop} {i : Nat}
/-- an array of ints, cloned -/
theorem v_clonei {idx a n : Nat} {f : Nat → Int32} (hlink : ky_T (.methodLink M.1.cls idx ⟨"[I", "clone", "()Ljava/lang/Object;"⟩)) (hi : M.2.2.2.2.1[i]? = some (pc, .invokevirtual idx, 3)) (ha : h.1 a = .inl (G.2.2.2.2 1, n, .inl f)) (hS : (S.map fun v => v.category).sum ≤ 8)
    (K : ky_V G (d + 1) M (pc + 3) L (.ref (ky_B G + h.2.1) :: S) (ky_nw G h (.inl (G.2.2.2.2 1, n, .inl f)) n) Q) : ky_V G (d + 1) M pc L (.ref a :: S) h Q :=
  ky_mk (fun p e R s m args below meth c H locs cells slots ls Qr X hl hH hz hcl9 hsl9 K => by
    have hat := (hH.at ha ky_noJ_a).2
    have hcell : H[a]? = some (vp_cell (G.2.2.2.2 1) (n, .inl f)) := hat
    have hsz : (vp_cell (G.2.2.2.2 1) (n, .inl f)).slots.size = n := arrV_size _ _ _
    have hcs : (Cond.castable "[I" "java/lang/Cloneable").before args s = true := ky_word X.2.2.2.2.2.2.2.1 rfl (X.1.1 _ (ky_m4 (i := 239) rfl)) args
    obtain ⟨c0, t0, f1, f2, f3⟩ := Cond.castable_spec hcs
    have hnm := ((ky_KK X).2 1 _ rfl).2
    have hc0 : c0 = G.2.2.2.2 1 := ky_cy hnm f1
    subst hc0
    intro T hT XT
    have hcellT : T.heap[a]? = some (vp_cell (G.2.2.2.2 1) (n, .inl f)) := by rw [hT]; exact hcell
    obtain ⟨-, kA, hkA, comp, hkind⟩ := State.isArrayOf_alike XT.warmed.alike (((ky_KK X).2 1 _ rfl).1 0 (fun _ => .null))
    obtain ⟨-, kS, hkS, compS, hkindS⟩ := ((ky_KK X).2 1 _ rfl).1 0 (fun _ => .null)
    have hfr : d + 1 ≤ R.frames := X.2.2.2.2.2.2.2.2.2.2.2.1
    have hlo : 64 * (d + 1) ≤ R.locals := X.2.2.2.2.2.2.2.2.2.2.2.2.1
    obtain ⟨vm', X', st⟩ := XT.cloneArray X.2.1 X.2.2.2.2.2.2.1 (ky_w X hlink args) (ky_w X (ky_t4 (i := 235) rfl rfl) args) (ky_w X (ky_t4 (i := 236) rfl rfl) args) (ky_w X (ky_t4 (i := 237) rfl rfl) args) (ky_w X (ky_t4 (i := 238) rfl rfl) args) (a := a) (cell := vp_cell (G.2.2.2.2 1) (n, .inl f)) hcellT (fun k h => by cases h) (fun h => by cases h) hnm f2 f3
      (fun i v hv => by
        have hk' : T.vm.classes[G.2.2.2.2 1]? = some kA := hkA
        have hv' : fits .int v = true := by
          by_cases hi9 : i < n
          · have := arrV_read (G.2.2.2.2 1) (fun j => Value.int (f j)) hi9
            rw [show (vp_cell (G.2.2.2.2 1) (n, .inl f)).slots[i]? = (arrV (G.2.2.2.2 1) n (fun j => Value.int (f j))).slots[i]? from rfl, this] at hv
            cases hv
            rfl
          · rw [Array.getElem?_eq_none (by rw [hsz]; omega)] at hv
            cases hv
        have hc9 : (vp_cell (G.2.2.2.2 1) (n, .inl f)).cls = G.2.2.2.2 1 := rfl
        rw [hc9]
        simpa [State.fitsSlot, State.slotType?, hk', hkind] using hv')
      (g := F0 m pc ls (.ref a :: S)) rfl (by rw [X.2.2.2.1]; exact hl.1) rfl (by rw [X.2.2.1]; exact ky_dec X hi) (by omega) (by show 2 * 0 + _ + 14 ≤ _; omega) hcl9 (by rw [hsz]; exact hsl9) (hloader := Vm.clonesLoader_of_array hkS hkindS)
    have hE : ({ cls := (vp_cell (G.2.2.2.2 1) (n, .inl f)).cls, slots := (vp_cell (G.2.2.2.2 1) (n, .inl f)).slots } : Cell) = vp_cell (G.2.2.2.2 1) (n, .inl f) := rfl
    rw [hE, hsz] at X'
    obtain ⟨t, b1, b2⟩ := K (H.push (vp_cell (G.2.2.2.2 1) (n, .inl f))) (by show (H.push _)[_]? = _; rw [← hz, Array.getElem?_push_size]) (by rw [Array.size_push, hz]) (fun q hq => by rw [Array.getElem?_push, if_neg (by omega)])
      ((T.setVm vm').pushCell (vp_cell (G.2.2.2.2 1) (n, .inl f))) (by rw [← hT]; rfl) X'
    refine ⟨t, st t ?_, b2⟩
    rw [hE, hT, hz]
    exact b1) K
theorem v_castI {idx a n : Nat} {f : Nat → Int32} (hlink : ky_T (.classLink M.1.cls idx "[I")) (hi : M.2.2.2.2.1[i]? = some (pc, .checkcast idx, 3)) (ha : h.1 a = .inl (G.2.2.2.2 1, n, .inl f)) (K : ky_V G d M (pc + 3) L (.ref a :: S) h Q) : ky_V G d M pc L (.ref a :: S) h Q :=
  ky_rd (fun p e R s m args below meth c H locs cells slots ls Qr X hl hH K => by
    have hP : va_P G.2.2.2.1 vwCl [(a, .inl (G.2.2.2.2 1, n, .inl f))] H := fun j q hq => by
      match j, hq with
      | 0, hq => cases hq; exact (hH.at ha ky_noJ_a).2
      | j + 1, hq => simp at hq
    exact va_castA X.2.1 X.2.2.1 X.2.2.2.2.2.2.1 (ky_w X hlink args) hP 0 rfl ((ky_KK X).2 1 _ rfl).2 (ky_dec X hi) (K ls hl)) K
end
section
variable {G : ky_GW} {d : Nat} {M : ky_MT} {pc : Nat} {L : List (Nat × Value)} {S : List Value} {Q : ky_RS → ky_HP → Prop} {x : Option Nat} {s0 s : sk_S} {h0 h : ky_HP} {a n : Nat}
theorem sk_scl (hm : sk_hp G s h) (F : sk_fr x s0 h0 s h) (hk : sk_K s a = (21, n)) (K : ∀ y h1, y = sk_n s → sk_hp G (sk_cl s a) h1 → sk_fr x s0 h0 (sk_cl s a) h1 → ky_V G d M pc L (.ref y :: S) h1 Q) : ky_V G d M pc L (.ref (ky_B G + h.2.1) :: S) (ky_nw G h (.inl (G.2.2.2.2 1, n, .inl (sk_c s a))) n) Q := by
  have hn := hm.2.1
  rw [hn]
  refine K _ _ rfl ⟨fun b hb => ?_, by show ky_B G + (h.2.1 + 1) = sk_n s + 1; omega, by show h.2.2 + n = sk_m s + (sk_K s a).2; rw [hm.2.2, hk]⟩ ⟨fun b hb => ?_, fun b hl hb => ?_, Nat.le_trans F.2.2 (Nat.le_succ _)⟩
  · by_cases e : b = sk_n s
    · subst e
      refine ⟨by show sk_n s < sk_n s + 1; omega, ?_⟩
      simp [ky_nw, va_up, hn, sk_cl, sk_K, sk_c, sk_g, sk_r]
      have hk' : s.1 a = (21, n) := hk
      rw [hk']
      rfl
    · have hb0 : (sk_K s b).1 ≠ 0 := by simpa [sk_cl, sk_K, va_up, e] using hb
      obtain ⟨h1, h2⟩ := hm.1 b hb0
      refine ⟨by show b < sk_n s + 1; omega, ?_⟩
      have e1 : (ky_nw G h (.inl (G.2.2.2.2 1, n, .inl (sk_c s a))) n).1 b = h.1 b := by simp [ky_nw, va_up, hn, e]
      rw [e1, h2]
      simp [sk_cl, sk_K, sk_c, sk_g, sk_r, va_up, e]
  · obtain ⟨e1, e2⟩ := F.1 b hb
    have hlt := (hm.1 b (by rw [e1]; exact hb)).1
    have hne : b ≠ sk_n s := by omega
    refine ⟨?_, fun hx j hj => ?_⟩
    · rw [← e1]; simp [sk_cl, sk_K, va_up, hne]
    · rw [← e2 hx j hj]; simp [sk_cl, sk_r, va_up, hne]
  · obtain ⟨e1, e2⟩ := F.2.1 b hl hb
    have hne : b ≠ sk_n s := by have := F.2.2; omega
    refine ⟨?_, ?_⟩
    · rw [← e1]; simp [sk_cl, sk_K, va_up, hne]
    · rw [← e2]; simp [ky_nw, va_up, hn, hne]
end
section
variable {G : ky_GW} {d : Nat} {M : ky_MT} {pc : Nat} {L : List (Nat × Value)} {S : List Value} {h : ky_HP} {Q : ky_RS → ky_HP → Prop} {i : Nat}
theorem v_newA2 {idx : Nat} {n : Int32} {N : Nat} (hcl : ky_T (.classLink M.1.cls idx "WaistSand$Scene")) (hov : Cond.arrayOver (.object "WaistSand$Scene") ∈ lw_tbl) (hi : M.2.2.2.2.1[i]? = some (pc, .anewarray idx, 3)) (hn : ¬ n < 0) (hN : n.toNatClampNeg = N) (hb : N ≤ 134217728) (K : ky_V G d M (pc + 3) L (.ref (ky_B G + h.2.1) :: S) (ky_nw G h (.inl (G.2.2.2.2 3, N, .inr (.inr (.inr (.inr (fun _ => none)))))) N) Q) : ky_V G d M pc L (.int n :: S) h Q :=
  ky_mk (fun p e R s m args below meth c H locs cells slots ls Qr X hl hH hz hcl9 hsl9 K => by
    subst hN
    refine W.anew X.2.1 X.2.2.1 X.2.2.2.2.2.2.1 (ky_w X hcl args) (va_AO.use (va_AO.moved X.2.2.2.2.2.2.2.1.alike (va_AO.of (X.1.1 _ hov)))) rfl (ky_dec X hi) rfl hn (by omega) hcl9 hsl9 fun cA kA comp h1 h2 h3 h4 => ?_
    obtain ⟨kA', comp', k1, k2, k3, k4⟩ := ((ky_KK X).2 3 _ rfl).2
    have hcA : cA = G.2.2.2.2 3 := ky_cy k4 h1
    subst hcA
    rw [hz]
    refine K _ ?_ ?_ ?_
    · show (H.push _)[_]? = some (vp_cell _ _)
      rw [← hz, Array.getElem?_push_size, arrV_new]
      rfl
    · rw [Array.size_push, hz]
    · intro q hq
      rw [Array.getElem?_push, if_neg (by omega)]) K
end
set_option maxRecDepth 100000 in
set_option maxHeartbeats 4000000 in
theorem ky_ts : ky_TS := by unfold ky_TS; decide +kernel
set_option maxRecDepth 100000 in
set_option maxHeartbeats 4000000 in
theorem te_X11_80_84 : ky_TE RX11 80 84 "java/lang/IllegalArgumentException" := by unfold ky_TE; decide +kernel
set_option maxRecDepth 100000 in
set_option maxHeartbeats 4000000 in
theorem te_X11_90_94 : ky_TE RX11 90 94 "java/lang/UnsupportedOperationException" := by unfold ky_TE; decide +kernel
set_option maxRecDepth 100000 in
set_option maxHeartbeats 4000000 in
theorem te_X11_128_132 : ky_TE RX11 128 132 "java/lang/IndexOutOfBoundsException" := by unfold ky_TE; decide +kernel
set_option maxRecDepth 100000 in
set_option maxHeartbeats 4000000 in
theorem tn_X11_133_137 : ky_TN RX11 133 137 "java/util/NoSuchElementException" 13 prog_35_method_4_code := by unfold ky_TN; decide +kernel
set_option maxRecDepth 100000 in
set_option maxHeartbeats 4000000 in
theorem te_X11_197_201 : ky_TE RX11 197 201 "java/lang/IllegalStateException" := by unfold ky_TE; decide +kernel
