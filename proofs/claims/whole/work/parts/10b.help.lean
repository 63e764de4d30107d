set_option maxRecDepth 100000 in
set_option maxHeartbeats 4000000 in
theorem hd_L_beach_1 {G : ky_GW} (hG : ky_OK G) : ky_hd G M_L_beach 3 "java/lang/IllegalArgumentException" 11 :=
  ⟨[], ⟨0, 8, 11, 13⟩, [⟨0, 8, 14, 15⟩], "java/lang/IllegalArgumentException", rfl, (fun z hz => absurd hz List.not_mem_nil), by decide, by decide, ky_t3 (i := 173) rfl rfl, ky_m4 (i := 60) rfl, rfl⟩
set_option maxRecDepth 100000 in
set_option maxHeartbeats 4000000 in
theorem hd_L_beach_2 {G : ky_GW} (hG : ky_OK G) : ky_hd G M_L_beach 3 "java/lang/UnsupportedOperationException" 14 :=
  ⟨[⟨0, 8, 11, 13⟩], ⟨0, 8, 14, 15⟩, [], "java/lang/UnsupportedOperationException", rfl, (fun z hz => by
    rw [List.mem_singleton.mp hz]
    exact Or.inr ⟨by decide, "java/lang/IllegalArgumentException", ky_t3 (i := 173) rfl rfl, va_Nc.of (ky_lL (ky_lR (ky_lR (ky_lL (ky_lR (ky_lL (ky_lL (ky_lL (ky_lL (ky_lL (ky_lR hG.2.2.2)))))))))))⟩), by decide, by decide, ky_t3 (i := 174) rfl rfl, ky_m4 (i := 129) rfl, rfl⟩
set_option maxRecDepth 20000 in
set_option maxHeartbeats 4000000 in
theorem k_L_beach {G : ky_GW} {d : Nat} {h : ky_HP} {Q : ky_RS → ky_HP → Prop} {s s9 : sk_S} {c : Nat → Nat → Int32} {f : Nat → Int64} {r9 : ky_RS} (N : Nat) (hG : ky_OK G) (I : lw_I G s c f h) (hx : lw_X G s) (e : x11_beach N s (ky_B G) = some (s9, r9)) (hc : (∃ v : Int32, r9 = .inl (some (.int v))) ∨ r9 = .inr "java/lang/IllegalArgumentException" ∨ r9 = .inr "java/lang/UnsupportedOperationException") (h0 : ∀ (v : Int32) (h1 : ky_HP) (f1 : Nat → Int64), r9 = .inl (some (.int v)) → lw_I G s9 c f1 h1 → f1 0 = v.toInt64 → Q (.inl (some (.int 0))) h1) (h1 : ∀ h1 : ky_HP, r9 = .inr "java/lang/IllegalArgumentException" → lw_I G s9 c f h1 → Q (.inl (some (.int 1))) h1) (h2 : ∀ h1 : ky_HP, r9 = .inr "java/lang/UnsupportedOperationException" → lw_I G s9 c f h1 → Q (.inl (some (.int 2))) h1) : ky_CallH G (d + 11) M_L_beach [.ref ((ky_B G)), .ref ((ky_B G + 37))] h Q := by
  refine ky_ofVH (by decide +kernel) ok_L_beach (Nat.le_of_ble_eq_true rfl) ?_
  refine (?_ : ky_V _ _ _ 0 [(0, .ref ((ky_B G))), (1, .ref ((ky_B G + 37)))] [] _ _)
  refine v_aload_n (i := 0) (j := 1) rfl rfl (?_ : ky_V _ _ _ 1 _ _ _ _)
  refine v_iconst (v := 0) (i := 1) rfl (by decide) (?_ : ky_V _ _ _ 2 _ _ _ _)
  refine v_aload_n (i := 2) (j := 0) rfl rfl (?_ : ky_V _ _ _ 3 _ _ _ _)
  refine v_callVC (As := []) (S := [.int 0, .ref (ky_B G + 37)]) cv_X11_beach sv_X11_beach (ky_t3 (i := 175) rfl rfl) (ci := 10) rfl (i := 3) rfl (oc_X11 I.1 hx) rfl rfl (Nat.le_of_ble_eq_true rfl) (k_X11_beach N hG I.1 e (fun h1 hm1 fr1 => ?_))
  have I1 := I.cls hm1 fr1
  rcases hc with ⟨v, rfl⟩ | rfl | rfl
  · refine Or.inl ⟨some (.int v), rfl, (?_ : ky_V _ _ _ 6 _ [.int v, .int 0, .ref (ky_B G + 37)] _ _)⟩
    refine v_i2l (i := 4) rfl rfl (?_ : ky_V _ _ _ 7 _ _ _ _)
    refine v_last (i := 5) rfl I1.2.2.1 (ky_inl (by decide)) (?_ : ky_V _ _ _ 8 _ _ _ _)
    refine v_goto (tgt := 17) (i := 6) rfl (by decide) (?_ : ky_V _ _ _ 17 _ _ _ _)
    refine v_iconst (v := 0) (i := 13) rfl (by decide) (?_ : ky_V _ _ _ 18 _ _ _ _)
    refine v_iret (v := 0) (ty := .int) (i := 14) rfl rfl rfl ?_
    exact h0 v _ _ rfl (I1.out _) rfl
  · refine Or.inr ⟨_, 11, .inl (some (.int 1)), rfl, hd_L_beach_1 hG, fun q => ?_, h1 _ rfl I1⟩
    refine v_astore_n (L' := [(0, .ref ((ky_B G))), (1, .ref ((ky_B G + 37))), (2, .ref q)]) [1, 2, 0] (i := 7) rfl (Nat.le_of_ble_eq_true rfl) rfl (?_ : ky_V _ _ _ 12 _ _ _ _)
    refine v_iconst (v := 1) (i := 8) rfl (by decide) (?_ : ky_V _ _ _ 13 _ _ _ _)
    refine v_iret (v := 1) (ty := .int) (i := 9) rfl rfl rfl ?_
    exact ⟨rfl, rfl⟩
  · refine Or.inr ⟨_, 14, .inl (some (.int 2)), rfl, hd_L_beach_2 hG, fun q => ?_, h2 _ rfl I1⟩
    refine v_astore_n (L' := [(0, .ref ((ky_B G))), (1, .ref ((ky_B G + 37))), (2, .ref q)]) [1, 2, 0] (i := 10) rfl (Nat.le_of_ble_eq_true rfl) rfl (?_ : ky_V _ _ _ 15 _ _ _ _)
    refine v_iconst (v := 2) (i := 11) rfl (by decide) (?_ : ky_V _ _ _ 16 _ _ _ _)
    refine v_iret (v := 2) (ty := .int) (i := 12) rfl rfl rfl ?_
    exact ⟨rfl, rfl⟩
set_option maxRecDepth 100000 in
set_option maxHeartbeats 4000000 in
theorem hd_L_law_1 {G : ky_GW} (hG : ky_OK G) : ky_hd G M_L_law 3 "java/lang/IllegalArgumentException" 11 :=
  ⟨[], ⟨0, 8, 11, 13⟩, [], "java/lang/IllegalArgumentException", rfl, (fun z hz => absurd hz List.not_mem_nil), by decide, by decide, ky_t3 (i := 173) rfl rfl, ky_m4 (i := 60) rfl, rfl⟩
set_option maxRecDepth 20000 in
set_option maxHeartbeats 4000000 in
theorem k_L_law {G : ky_GW} {d : Nat} {h : ky_HP} {Q : ky_RS → ky_HP → Prop} {s s9 : sk_S} {c : Nat → Nat → Int32} {f : Nat → Int64} {r9 : ky_RS} (N : Nat) (hG : ky_OK G) (I : lw_I G s c f h) (hx : lw_X G s) (e : x11_law N s (ky_B G) = some (s9, r9)) (hc : (∃ v : Int32, r9 = .inl (some (.int v))) ∨ r9 = .inr "java/lang/IllegalArgumentException") (h0 : ∀ (v : Int32) (h1 : ky_HP) (f1 : Nat → Int64), r9 = .inl (some (.int v)) → lw_I G s9 c f1 h1 → f1 0 = v.toInt64 → Q (.inl (some (.int 0))) h1) (h1 : ∀ h1 : ky_HP, r9 = .inr "java/lang/IllegalArgumentException" → lw_I G s9 c f h1 → Q (.inl (some (.int 1))) h1) : ky_CallH G (d + 50) M_L_law [.ref ((ky_B G)), .ref ((ky_B G + 37))] h Q := by
  refine ky_ofVH (by decide +kernel) ok_L_law (Nat.le_of_ble_eq_true rfl) ?_
  refine (?_ : ky_V _ _ _ 0 [(0, .ref ((ky_B G))), (1, .ref ((ky_B G + 37)))] [] _ _)
  refine v_aload_n (i := 0) (j := 1) rfl rfl (?_ : ky_V _ _ _ 1 _ _ _ _)
  refine v_iconst (v := 0) (i := 1) rfl (by decide) (?_ : ky_V _ _ _ 2 _ _ _ _)
  refine v_aload_n (i := 2) (j := 0) rfl rfl (?_ : ky_V _ _ _ 3 _ _ _ _)
  refine v_callVC (As := []) (S := [.int 0, .ref (ky_B G + 37)]) cv_X11_law sv_X11_law (ky_t4 (i := 175) rfl rfl) (ci := 10) rfl (i := 3) rfl (oc_X11 I.1 hx) rfl rfl (Nat.le_of_ble_eq_true rfl) (k_X11_law N hG I.1 e (fun h1 hm1 fr1 => ?_))
  have I1 := I.cls hm1 fr1
  rcases hc with ⟨v, rfl⟩ | rfl
  · refine Or.inl ⟨some (.int v), rfl, (?_ : ky_V _ _ _ 6 _ [.int v, .int 0, .ref (ky_B G + 37)] _ _)⟩
    refine v_i2l (i := 4) rfl rfl (?_ : ky_V _ _ _ 7 _ _ _ _)
    refine v_last (i := 5) rfl I1.2.2.1 (ky_inl (by decide)) (?_ : ky_V _ _ _ 8 _ _ _ _)
    refine v_goto (tgt := 14) (i := 6) rfl (by decide) (?_ : ky_V _ _ _ 14 _ _ _ _)
    refine v_iconst (v := 0) (i := 10) rfl (by decide) (?_ : ky_V _ _ _ 15 _ _ _ _)
    refine v_iret (v := 0) (ty := .int) (i := 11) rfl rfl rfl ?_
    exact h0 v _ _ rfl (I1.out _) rfl
  · refine Or.inr ⟨_, 11, .inl (some (.int 1)), rfl, hd_L_law_1 hG, fun q => ?_, h1 _ rfl I1⟩
    refine v_astore_n (L' := [(0, .ref ((ky_B G))), (1, .ref ((ky_B G + 37))), (2, .ref q)]) [1, 2, 0] (i := 7) rfl (Nat.le_of_ble_eq_true rfl) rfl (?_ : ky_V _ _ _ 12 _ _ _ _)
    refine v_iconst (v := 1) (i := 8) rfl (by decide) (?_ : ky_V _ _ _ 13 _ _ _ _)
    refine v_iret (v := 1) (ty := .int) (i := 9) rfl rfl rfl ?_
    exact ⟨rfl, rfl⟩
set_option maxRecDepth 100000 in
set_option maxHeartbeats 4000000 in
theorem hd_L_move_1 {G : ky_GW} (hG : ky_OK G) : ky_hd G M_L_move 5 "java/lang/IndexOutOfBoundsException" 13 :=
  ⟨[], ⟨0, 10, 13, 24⟩, [⟨0, 10, 17, 26⟩], "java/lang/IndexOutOfBoundsException", rfl, (fun z hz => absurd hz List.not_mem_nil), by decide, by decide, ky_t5 (i := 46) rfl rfl, ky_m5 (i := 57) rfl, rfl⟩
set_option maxRecDepth 100000 in
set_option maxHeartbeats 4000000 in
theorem hd_L_move_2 {G : ky_GW} (hG : ky_OK G) : ky_hd G M_L_move 5 "java/util/NoSuchElementException" 17 :=
  ⟨[⟨0, 10, 13, 24⟩], ⟨0, 10, 17, 26⟩, [], "java/util/NoSuchElementException", rfl, (fun z hz => by
    rw [List.mem_singleton.mp hz]
    exact Or.inr ⟨by decide, "java/lang/IndexOutOfBoundsException", ky_t5 (i := 46) rfl rfl, va_Nc.of (ky_lR (ky_lR (ky_lL (ky_lR (ky_lR (ky_lR (ky_lL (ky_lL (ky_lL (ky_lL (ky_lR hG.2.2.2)))))))))))⟩), by decide, by decide, ky_t5 (i := 47) rfl rfl, ky_m5 (i := 73) rfl, rfl⟩
set_option maxRecDepth 20000 in
set_option maxHeartbeats 4000000 in
theorem k_L_move {G : ky_GW} {d : Nat} {h : ky_HP} {Q : ky_RS → ky_HP → Prop} {s s9 : sk_S} {c : Nat → Nat → Int32} {f : Nat → Int64} {r9 : ky_RS} {p1 : Int32} {p2 : Int32} (N : Nat) (hG : ky_OK G) (I : lw_I G s c f h) (hx : lw_X G s) (e : x11_move N s (ky_B G) p1 p2 = some (s9, r9)) (hc : (∃ v : Int32, r9 = .inl (some (.int v))) ∨ r9 = .inr "java/lang/IndexOutOfBoundsException" ∨ r9 = .inr "java/util/NoSuchElementException") (h0 : ∀ (v : Int32) (h1 : ky_HP) (f1 : Nat → Int64), r9 = .inl (some (.int v)) → lw_I G s9 c f1 h1 → f1 0 = v.toInt64 → Q (.inl (some (.int 0))) h1) (h1 : ∀ h1 : ky_HP, r9 = .inr "java/lang/IndexOutOfBoundsException" → lw_I G s9 c f h1 → Q (.inl (some (.int 1))) h1) (h2 : ∀ h1 : ky_HP, r9 = .inr "java/util/NoSuchElementException" → lw_I G s9 c f h1 → Q (.inl (some (.int 2))) h1) : ky_CallH G (d + 8) M_L_move [.ref ((ky_B G)), .int p1, .int p2, .ref ((ky_B G + 37))] h Q := by
  refine ky_ofVH (by decide +kernel) ok_L_move (Nat.le_of_ble_eq_true rfl) ?_
  refine (?_ : ky_V _ _ _ 0 [(0, .ref ((ky_B G))), (1, .int p1), (2, .int p2), (3, .ref ((ky_B G + 37)))] [] _ _)
  refine v_aload_n (i := 0) (j := 3) rfl rfl (?_ : ky_V _ _ _ 1 _ _ _ _)
  refine v_iconst (v := 0) (i := 1) rfl (by decide) (?_ : ky_V _ _ _ 2 _ _ _ _)
  refine v_aload_n (i := 2) (j := 0) rfl rfl (?_ : ky_V _ _ _ 3 _ _ _ _)
  refine v_iload_n (i := 3) (j := 1) rfl rfl (?_ : ky_V _ _ _ 4 _ _ _ _)
  refine v_iload_n (i := 4) (j := 2) rfl rfl (?_ : ky_V _ _ _ 5 _ _ _ _)
  refine v_callVC (As := [.int p1, .int p2]) (S := [.int 0, .ref (ky_B G + 37)]) cv_X11_move sv_X11_move (ky_t5 (i := 48) rfl rfl) (ci := 10) rfl (i := 5) rfl (oc_X11 I.1 hx) rfl rfl (Nat.le_of_ble_eq_true rfl) (k_X11_move N hG I.1 e (fun h1 hm1 fr1 => ?_))
  have I1 := I.cls hm1 fr1
  rcases hc with ⟨v, rfl⟩ | rfl | rfl
  · refine Or.inl ⟨some (.int v), rfl, (?_ : ky_V _ _ _ 8 _ [.int v, .int 0, .ref (ky_B G + 37)] _ _)⟩
    refine v_i2l (i := 6) rfl rfl (?_ : ky_V _ _ _ 9 _ _ _ _)
    refine v_last (i := 7) rfl I1.2.2.1 (ky_inl (by decide)) (?_ : ky_V _ _ _ 10 _ _ _ _)
    refine v_goto (tgt := 21) (i := 8) rfl (by decide) (?_ : ky_V _ _ _ 21 _ _ _ _)
    refine v_iconst (v := 0) (i := 15) rfl (by decide) (?_ : ky_V _ _ _ 22 _ _ _ _)
    refine v_iret (v := 0) (ty := .int) (i := 16) rfl rfl rfl ?_
    exact h0 v _ _ rfl (I1.out _) rfl
  · refine Or.inr ⟨_, 13, .inl (some (.int 1)), rfl, hd_L_move_1 hG, fun q => ?_, h1 _ rfl I1⟩
    refine v_astore (L' := [(0, .ref ((ky_B G))), (1, .int p1), (2, .int p2), (3, .ref ((ky_B G + 37))), (4, .ref q)]) [1, 2, 3, 4, 0] (i := 9) rfl (Nat.le_of_ble_eq_true rfl) rfl (?_ : ky_V _ _ _ 15 _ _ _ _)
    refine v_iconst (v := 1) (i := 10) rfl (by decide) (?_ : ky_V _ _ _ 16 _ _ _ _)
    refine v_iret (v := 1) (ty := .int) (i := 11) rfl rfl rfl ?_
    exact ⟨rfl, rfl⟩
  · refine Or.inr ⟨_, 17, .inl (some (.int 2)), rfl, hd_L_move_2 hG, fun q => ?_, h2 _ rfl I1⟩
    refine v_astore (L' := [(0, .ref ((ky_B G))), (1, .int p1), (2, .int p2), (3, .ref ((ky_B G + 37))), (4, .ref q)]) [1, 2, 3, 4, 0] (i := 12) rfl (Nat.le_of_ble_eq_true rfl) rfl (?_ : ky_V _ _ _ 19 _ _ _ _)
    refine v_iconst (v := 2) (i := 13) rfl (by decide) (?_ : ky_V _ _ _ 20 _ _ _ _)
    refine v_iret (v := 2) (ty := .int) (i := 14) rfl rfl rfl ?_
    exact ⟨rfl, rfl⟩
set_option maxRecDepth 100000 in
set_option maxHeartbeats 4000000 in
theorem hd_L_cell_1 {G : ky_GW} (hG : ky_OK G) : ky_hd G M_L_cell 5 "java/lang/IndexOutOfBoundsException" 13 :=
  ⟨[], ⟨0, 10, 13, 24⟩, [⟨0, 10, 17, 26⟩], "java/lang/IndexOutOfBoundsException", rfl, (fun z hz => absurd hz List.not_mem_nil), by decide, by decide, ky_t5 (i := 46) rfl rfl, ky_m5 (i := 57) rfl, rfl⟩
set_option maxRecDepth 100000 in
set_option maxHeartbeats 4000000 in
theorem hd_L_cell_2 {G : ky_GW} (hG : ky_OK G) : ky_hd G M_L_cell 5 "java/util/NoSuchElementException" 17 :=
  ⟨[⟨0, 10, 13, 24⟩], ⟨0, 10, 17, 26⟩, [], "java/util/NoSuchElementException", rfl, (fun z hz => by
    rw [List.mem_singleton.mp hz]
    exact Or.inr ⟨by decide, "java/lang/IndexOutOfBoundsException", ky_t5 (i := 46) rfl rfl, va_Nc.of (ky_lR (ky_lR (ky_lL (ky_lR (ky_lR (ky_lR (ky_lL (ky_lL (ky_lL (ky_lL (ky_lR hG.2.2.2)))))))))))⟩), by decide, by decide, ky_t5 (i := 47) rfl rfl, ky_m5 (i := 73) rfl, rfl⟩
set_option maxRecDepth 20000 in
set_option maxHeartbeats 4000000 in
theorem k_L_cell {G : ky_GW} {d : Nat} {h : ky_HP} {Q : ky_RS → ky_HP → Prop} {s s9 : sk_S} {c : Nat → Nat → Int32} {f : Nat → Int64} {r9 : ky_RS} {p1 : Int32} {p2 : Int32} (N : Nat) (hG : ky_OK G) (I : lw_I G s c f h) (hx : lw_X G s) (e : x11_cell N s (ky_B G) p1 p2 = some (s9, r9)) (hc : (∃ v : Int32, r9 = .inl (some (.int v))) ∨ r9 = .inr "java/lang/IndexOutOfBoundsException" ∨ r9 = .inr "java/util/NoSuchElementException") (h0 : ∀ (v : Int32) (h1 : ky_HP) (f1 : Nat → Int64), r9 = .inl (some (.int v)) → lw_I G s9 c f1 h1 → f1 0 = v.toInt64 → Q (.inl (some (.int 0))) h1) (h1 : ∀ h1 : ky_HP, r9 = .inr "java/lang/IndexOutOfBoundsException" → lw_I G s9 c f h1 → Q (.inl (some (.int 1))) h1) (h2 : ∀ h1 : ky_HP, r9 = .inr "java/util/NoSuchElementException" → lw_I G s9 c f h1 → Q (.inl (some (.int 2))) h1) : ky_CallH G (d + 7) M_L_cell [.ref ((ky_B G)), .int p1, .int p2, .ref ((ky_B G + 37))] h Q := by
  refine ky_ofVH (by decide +kernel) ok_L_cell (Nat.le_of_ble_eq_true rfl) ?_
  refine (?_ : ky_V _ _ _ 0 [(0, .ref ((ky_B G))), (1, .int p1), (2, .int p2), (3, .ref ((ky_B G + 37)))] [] _ _)
  refine v_aload_n (i := 0) (j := 3) rfl rfl (?_ : ky_V _ _ _ 1 _ _ _ _)
  refine v_iconst (v := 0) (i := 1) rfl (by decide) (?_ : ky_V _ _ _ 2 _ _ _ _)
  refine v_aload_n (i := 2) (j := 0) rfl rfl (?_ : ky_V _ _ _ 3 _ _ _ _)
  refine v_iload_n (i := 3) (j := 1) rfl rfl (?_ : ky_V _ _ _ 4 _ _ _ _)
  refine v_iload_n (i := 4) (j := 2) rfl rfl (?_ : ky_V _ _ _ 5 _ _ _ _)
  refine v_callVC (As := [.int p1, .int p2]) (S := [.int 0, .ref (ky_B G + 37)]) cv_X11_cell sv_X11_cell (ky_t5 (i := 98) rfl rfl) (ci := 10) rfl (i := 5) rfl (oc_X11 I.1 hx) rfl rfl (Nat.le_of_ble_eq_true rfl) (k_X11_cell N hG I.1 e (fun h1 hm1 fr1 => ?_))
  have I1 := I.cls hm1 fr1
  rcases hc with ⟨v, rfl⟩ | rfl | rfl
  · refine Or.inl ⟨some (.int v), rfl, (?_ : ky_V _ _ _ 8 _ [.int v, .int 0, .ref (ky_B G + 37)] _ _)⟩
    refine v_i2l (i := 6) rfl rfl (?_ : ky_V _ _ _ 9 _ _ _ _)
    refine v_last (i := 7) rfl I1.2.2.1 (ky_inl (by decide)) (?_ : ky_V _ _ _ 10 _ _ _ _)
    refine v_goto (tgt := 21) (i := 8) rfl (by decide) (?_ : ky_V _ _ _ 21 _ _ _ _)
    refine v_iconst (v := 0) (i := 15) rfl (by decide) (?_ : ky_V _ _ _ 22 _ _ _ _)
    refine v_iret (v := 0) (ty := .int) (i := 16) rfl rfl rfl ?_
    exact h0 v _ _ rfl (I1.out _) rfl
  · refine Or.inr ⟨_, 13, .inl (some (.int 1)), rfl, hd_L_cell_1 hG, fun q => ?_, h1 _ rfl I1⟩
    refine v_astore (L' := [(0, .ref ((ky_B G))), (1, .int p1), (2, .int p2), (3, .ref ((ky_B G + 37))), (4, .ref q)]) [1, 2, 3, 4, 0] (i := 9) rfl (Nat.le_of_ble_eq_true rfl) rfl (?_ : ky_V _ _ _ 15 _ _ _ _)
    refine v_iconst (v := 1) (i := 10) rfl (by decide) (?_ : ky_V _ _ _ 16 _ _ _ _)
    refine v_iret (v := 1) (ty := .int) (i := 11) rfl rfl rfl ?_
    exact ⟨rfl, rfl⟩
  · refine Or.inr ⟨_, 17, .inl (some (.int 2)), rfl, hd_L_cell_2 hG, fun q => ?_, h2 _ rfl I1⟩
    refine v_astore (L' := [(0, .ref ((ky_B G))), (1, .int p1), (2, .int p2), (3, .ref ((ky_B G + 37))), (4, .ref q)]) [1, 2, 3, 4, 0] (i := 12) rfl (Nat.le_of_ble_eq_true rfl) rfl (?_ : ky_V _ _ _ 19 _ _ _ _)
    refine v_iconst (v := 2) (i := 13) rfl (by decide) (?_ : ky_V _ _ _ 20 _ _ _ _)
    refine v_iret (v := 2) (ty := .int) (i := 14) rfl rfl rfl ?_
    exact ⟨rfl, rfl⟩
set_option maxRecDepth 100000 in
set_option maxHeartbeats 4000000 in
theorem hd_L_person_1 {G : ky_GW} (hG : ky_OK G) : ky_hd G M_L_person 5 "java/lang/IndexOutOfBoundsException" 13 :=
  ⟨[], ⟨0, 10, 13, 24⟩, [⟨0, 10, 17, 26⟩], "java/lang/IndexOutOfBoundsException", rfl, (fun z hz => absurd hz List.not_mem_nil), by decide, by decide, ky_t5 (i := 46) rfl rfl, ky_m5 (i := 57) rfl, rfl⟩
set_option maxRecDepth 100000 in
set_option maxHeartbeats 4000000 in
theorem hd_L_person_2 {G : ky_GW} (hG : ky_OK G) : ky_hd G M_L_person 5 "java/util/NoSuchElementException" 17 :=
  ⟨[⟨0, 10, 13, 24⟩], ⟨0, 10, 17, 26⟩, [], "java/util/NoSuchElementException", rfl, (fun z hz => by
    rw [List.mem_singleton.mp hz]
    exact Or.inr ⟨by decide, "java/lang/IndexOutOfBoundsException", ky_t5 (i := 46) rfl rfl, va_Nc.of (ky_lR (ky_lR (ky_lL (ky_lR (ky_lR (ky_lR (ky_lL (ky_lL (ky_lL (ky_lL (ky_lR hG.2.2.2)))))))))))⟩), by decide, by decide, ky_t5 (i := 47) rfl rfl, ky_m5 (i := 73) rfl, rfl⟩
set_option maxRecDepth 20000 in
set_option maxHeartbeats 4000000 in
theorem k_L_person {G : ky_GW} {d : Nat} {h : ky_HP} {Q : ky_RS → ky_HP → Prop} {s s9 : sk_S} {c : Nat → Nat → Int32} {f : Nat → Int64} {r9 : ky_RS} {p1 : Int32} {p2 : Int32} (N : Nat) (hG : ky_OK G) (I : lw_I G s c f h) (hx : lw_X G s) (e : x11_person N s (ky_B G) p1 p2 = some (s9, r9)) (hc : (∃ v : Int32, r9 = .inl (some (.int v))) ∨ r9 = .inr "java/lang/IndexOutOfBoundsException" ∨ r9 = .inr "java/util/NoSuchElementException") (h0 : ∀ (v : Int32) (h1 : ky_HP) (f1 : Nat → Int64), r9 = .inl (some (.int v)) → lw_I G s9 c f1 h1 → f1 0 = v.toInt64 → Q (.inl (some (.int 0))) h1) (h1 : ∀ h1 : ky_HP, r9 = .inr "java/lang/IndexOutOfBoundsException" → lw_I G s9 c f h1 → Q (.inl (some (.int 1))) h1) (h2 : ∀ h1 : ky_HP, r9 = .inr "java/util/NoSuchElementException" → lw_I G s9 c f h1 → Q (.inl (some (.int 2))) h1) : ky_CallH G (d + 7) M_L_person [.ref ((ky_B G)), .int p1, .int p2, .ref ((ky_B G + 37))] h Q := by
  refine ky_ofVH (by decide +kernel) ok_L_person (Nat.le_of_ble_eq_true rfl) ?_
  refine (?_ : ky_V _ _ _ 0 [(0, .ref ((ky_B G))), (1, .int p1), (2, .int p2), (3, .ref ((ky_B G + 37)))] [] _ _)
  refine v_aload_n (i := 0) (j := 3) rfl rfl (?_ : ky_V _ _ _ 1 _ _ _ _)
  refine v_iconst (v := 0) (i := 1) rfl (by decide) (?_ : ky_V _ _ _ 2 _ _ _ _)
  refine v_aload_n (i := 2) (j := 0) rfl rfl (?_ : ky_V _ _ _ 3 _ _ _ _)
  refine v_iload_n (i := 3) (j := 1) rfl rfl (?_ : ky_V _ _ _ 4 _ _ _ _)
  refine v_iload_n (i := 4) (j := 2) rfl rfl (?_ : ky_V _ _ _ 5 _ _ _ _)
  refine v_callVC (As := [.int p1, .int p2]) (S := [.int 0, .ref (ky_B G + 37)]) cv_X11_person sv_X11_person (ky_t5 (i := 116) rfl rfl) (ci := 10) rfl (i := 5) rfl (oc_X11 I.1 hx) rfl rfl (Nat.le_of_ble_eq_true rfl) (k_X11_person N hG I.1 e (fun h1 hm1 fr1 => ?_))
  have I1 := I.cls hm1 fr1
  rcases hc with ⟨v, rfl⟩ | rfl | rfl
  · refine Or.inl ⟨some (.int v), rfl, (?_ : ky_V _ _ _ 8 _ [.int v, .int 0, .ref (ky_B G + 37)] _ _)⟩
    refine v_i2l (i := 6) rfl rfl (?_ : ky_V _ _ _ 9 _ _ _ _)
    refine v_last (i := 7) rfl I1.2.2.1 (ky_inl (by decide)) (?_ : ky_V _ _ _ 10 _ _ _ _)
    refine v_goto (tgt := 21) (i := 8) rfl (by decide) (?_ : ky_V _ _ _ 21 _ _ _ _)
    refine v_iconst (v := 0) (i := 15) rfl (by decide) (?_ : ky_V _ _ _ 22 _ _ _ _)
    refine v_iret (v := 0) (ty := .int) (i := 16) rfl rfl rfl ?_
    exact h0 v _ _ rfl (I1.out _) rfl
  · refine Or.inr ⟨_, 13, .inl (some (.int 1)), rfl, hd_L_person_1 hG, fun q => ?_, h1 _ rfl I1⟩
    refine v_astore (L' := [(0, .ref ((ky_B G))), (1, .int p1), (2, .int p2), (3, .ref ((ky_B G + 37))), (4, .ref q)]) [1, 2, 3, 4, 0] (i := 9) rfl (Nat.le_of_ble_eq_true rfl) rfl (?_ : ky_V _ _ _ 15 _ _ _ _)
    refine v_iconst (v := 1) (i := 10) rfl (by decide) (?_ : ky_V _ _ _ 16 _ _ _ _)
    refine v_iret (v := 1) (ty := .int) (i := 11) rfl rfl rfl ?_
    exact ⟨rfl, rfl⟩
  · refine Or.inr ⟨_, 17, .inl (some (.int 2)), rfl, hd_L_person_2 hG, fun q => ?_, h2 _ rfl I1⟩
    refine v_astore (L' := [(0, .ref ((ky_B G))), (1, .int p1), (2, .int p2), (3, .ref ((ky_B G + 37))), (4, .ref q)]) [1, 2, 3, 4, 0] (i := 12) rfl (Nat.le_of_ble_eq_true rfl) rfl (?_ : ky_V _ _ _ 19 _ _ _ _)
    refine v_iconst (v := 2) (i := 13) rfl (by decide) (?_ : ky_V _ _ _ 20 _ _ _ _)
    refine v_iret (v := 2) (ty := .int) (i := 14) rfl rfl rfl ?_
    exact ⟨rfl, rfl⟩
set_option maxRecDepth 100000 in
set_option maxHeartbeats 4000000 in
theorem hd_L_moved_1 {G : ky_GW} (hG : ky_OK G) : ky_hd G M_L_moved 5 "java/lang/IndexOutOfBoundsException" 13 :=
  ⟨[], ⟨0, 10, 13, 24⟩, [⟨0, 10, 17, 37⟩], "java/lang/IndexOutOfBoundsException", rfl, (fun z hz => absurd hz List.not_mem_nil), by decide, by decide, ky_t5 (i := 46) rfl rfl, ky_m5 (i := 57) rfl, rfl⟩
set_option maxRecDepth 100000 in
set_option maxHeartbeats 4000000 in
theorem hd_L_moved_2 {G : ky_GW} (hG : ky_OK G) : ky_hd G M_L_moved 5 "java/lang/IllegalStateException" 17 :=
  ⟨[⟨0, 10, 13, 24⟩], ⟨0, 10, 17, 37⟩, [], "java/lang/IllegalStateException", rfl, (fun z hz => by
    rw [List.mem_singleton.mp hz]
    exact Or.inr ⟨by decide, "java/lang/IndexOutOfBoundsException", ky_t5 (i := 46) rfl rfl, va_Nc.of (ky_lR (ky_lL (ky_lR (ky_lR (ky_lR (ky_lR (ky_lL (ky_lL (ky_lL (ky_lL (ky_lR hG.2.2.2)))))))))))⟩), by decide, by decide, ky_t5 (i := 153) rfl rfl, ky_m5 (i := 169) rfl, rfl⟩
set_option maxRecDepth 20000 in
set_option maxHeartbeats 4000000 in
theorem k_L_moved {G : ky_GW} {d : Nat} {h : ky_HP} {Q : ky_RS → ky_HP → Prop} {s s9 : sk_S} {c : Nat → Nat → Int32} {f : Nat → Int64} {r9 : ky_RS} {p1 : Int32} {p2 : Int32} (N : Nat) (hG : ky_OK G) (I : lw_I G s c f h) (hx : lw_X G s) (e : x11_moved N s (ky_B G) p1 p2 = some (s9, r9)) (hc : (∃ v : Int32, r9 = .inl (some (.int v))) ∨ r9 = .inr "java/lang/IndexOutOfBoundsException" ∨ r9 = .inr "java/lang/IllegalStateException") (h0 : ∀ (v : Int32) (h1 : ky_HP) (f1 : Nat → Int64), r9 = .inl (some (.int v)) → lw_I G s9 c f1 h1 → f1 0 = v.toInt64 → Q (.inl (some (.int 0))) h1) (h1 : ∀ h1 : ky_HP, r9 = .inr "java/lang/IndexOutOfBoundsException" → lw_I G s9 c f h1 → Q (.inl (some (.int 1))) h1) (h2 : ∀ h1 : ky_HP, r9 = .inr "java/lang/IllegalStateException" → lw_I G s9 c f h1 → Q (.inl (some (.int 2))) h1) : ky_CallH G (d + 7) M_L_moved [.ref ((ky_B G)), .int p1, .int p2, .ref ((ky_B G + 37))] h Q := by
  refine ky_ofVH (by decide +kernel) ok_L_moved (Nat.le_of_ble_eq_true rfl) ?_
  refine (?_ : ky_V _ _ _ 0 [(0, .ref ((ky_B G))), (1, .int p1), (2, .int p2), (3, .ref ((ky_B G + 37)))] [] _ _)
  refine v_aload_n (i := 0) (j := 3) rfl rfl (?_ : ky_V _ _ _ 1 _ _ _ _)
  refine v_iconst (v := 0) (i := 1) rfl (by decide) (?_ : ky_V _ _ _ 2 _ _ _ _)
  refine v_aload_n (i := 2) (j := 0) rfl rfl (?_ : ky_V _ _ _ 3 _ _ _ _)
  refine v_iload_n (i := 3) (j := 1) rfl rfl (?_ : ky_V _ _ _ 4 _ _ _ _)
  refine v_iload_n (i := 4) (j := 2) rfl rfl (?_ : ky_V _ _ _ 5 _ _ _ _)
  refine v_callVC (As := [.int p1, .int p2]) (S := [.int 0, .ref (ky_B G + 37)]) cv_X11_moved sv_X11_moved (ky_t5 (i := 154) rfl rfl) (ci := 10) rfl (i := 5) rfl (oc_X11 I.1 hx) rfl rfl (Nat.le_of_ble_eq_true rfl) (k_X11_moved N hG I.1 e (fun h1 hm1 fr1 => ?_))
  have I1 := I.cls hm1 fr1
  rcases hc with ⟨v, rfl⟩ | rfl | rfl
  · refine Or.inl ⟨some (.int v), rfl, (?_ : ky_V _ _ _ 8 _ [.int v, .int 0, .ref (ky_B G + 37)] _ _)⟩
    refine v_i2l (i := 6) rfl rfl (?_ : ky_V _ _ _ 9 _ _ _ _)
    refine v_last (i := 7) rfl I1.2.2.1 (ky_inl (by decide)) (?_ : ky_V _ _ _ 10 _ _ _ _)
    refine v_goto (tgt := 21) (i := 8) rfl (by decide) (?_ : ky_V _ _ _ 21 _ _ _ _)
    refine v_iconst (v := 0) (i := 15) rfl (by decide) (?_ : ky_V _ _ _ 22 _ _ _ _)
    refine v_iret (v := 0) (ty := .int) (i := 16) rfl rfl rfl ?_
    exact h0 v _ _ rfl (I1.out _) rfl
  · refine Or.inr ⟨_, 13, .inl (some (.int 1)), rfl, hd_L_moved_1 hG, fun q => ?_, h1 _ rfl I1⟩
    refine v_astore (L' := [(0, .ref ((ky_B G))), (1, .int p1), (2, .int p2), (3, .ref ((ky_B G + 37))), (4, .ref q)]) [1, 2, 3, 4, 0] (i := 9) rfl (Nat.le_of_ble_eq_true rfl) rfl (?_ : ky_V _ _ _ 15 _ _ _ _)
    refine v_iconst (v := 1) (i := 10) rfl (by decide) (?_ : ky_V _ _ _ 16 _ _ _ _)
    refine v_iret (v := 1) (ty := .int) (i := 11) rfl rfl rfl ?_
    exact ⟨rfl, rfl⟩
  · refine Or.inr ⟨_, 17, .inl (some (.int 2)), rfl, hd_L_moved_2 hG, fun q => ?_, h2 _ rfl I1⟩
    refine v_astore (L' := [(0, .ref ((ky_B G))), (1, .int p1), (2, .int p2), (3, .ref ((ky_B G + 37))), (4, .ref q)]) [1, 2, 3, 4, 0] (i := 12) rfl (Nat.le_of_ble_eq_true rfl) rfl (?_ : ky_V _ _ _ 19 _ _ _ _)
    refine v_iconst (v := 2) (i := 13) rfl (by decide) (?_ : ky_V _ _ _ 20 _ _ _ _)
    refine v_iret (v := 2) (ty := .int) (i := 14) rfl rfl rfl ?_
    exact ⟨rfl, rfl⟩
set_option maxRecDepth 100000 in
set_option maxHeartbeats 4000000 in
theorem hd_L_pull_1 {G : ky_GW} (hG : ky_OK G) : ky_hd G M_L_pull 4 "java/lang/IllegalArgumentException" 12 :=
  ⟨[], ⟨0, 9, 12, 13⟩, [⟨0, 9, 15, 37⟩], "java/lang/IllegalArgumentException", rfl, (fun z hz => absurd hz List.not_mem_nil), by decide, by decide, ky_t3 (i := 173) rfl rfl, ky_m4 (i := 60) rfl, rfl⟩
set_option maxRecDepth 100000 in
set_option maxHeartbeats 4000000 in
theorem hd_L_pull_2 {G : ky_GW} (hG : ky_OK G) : ky_hd G M_L_pull 4 "java/lang/IllegalStateException" 15 :=
  ⟨[⟨0, 9, 12, 13⟩], ⟨0, 9, 15, 37⟩, [], "java/lang/IllegalStateException", rfl, (fun z hz => by
    rw [List.mem_singleton.mp hz]
    exact Or.inr ⟨by decide, "java/lang/IllegalArgumentException", ky_t3 (i := 173) rfl rfl, va_Nc.of (ky_lR (ky_lR (ky_lL (ky_lR (ky_lR (ky_lL (ky_lL (ky_lL (ky_lL (ky_lL (ky_lR hG.2.2.2)))))))))))⟩), by decide, by decide, ky_t5 (i := 153) rfl rfl, ky_m5 (i := 169) rfl, rfl⟩
set_option maxRecDepth 20000 in
set_option maxHeartbeats 4000000 in
theorem k_L_pull {G : ky_GW} {d : Nat} {h : ky_HP} {Q : ky_RS → ky_HP → Prop} {s s9 : sk_S} {c : Nat → Nat → Int32} {f : Nat → Int64} {r9 : ky_RS} {p1 : Int32} (N : Nat) (hG : ky_OK G) (I : lw_I G s c f h) (hx : lw_X G s) (e : x11_pull N s (ky_B G) p1 = some (s9, r9)) (hc : (∃ v : Int32, r9 = .inl (some (.int v))) ∨ r9 = .inr "java/lang/IllegalArgumentException" ∨ r9 = .inr "java/lang/IllegalStateException") (h0 : ∀ (v : Int32) (h1 : ky_HP) (f1 : Nat → Int64), r9 = .inl (some (.int v)) → lw_I G s9 c f1 h1 → f1 0 = v.toInt64 → Q (.inl (some (.int 0))) h1) (h1 : ∀ h1 : ky_HP, r9 = .inr "java/lang/IllegalArgumentException" → lw_I G s9 c f h1 → Q (.inl (some (.int 1))) h1) (h2 : ∀ h1 : ky_HP, r9 = .inr "java/lang/IllegalStateException" → lw_I G s9 c f h1 → Q (.inl (some (.int 2))) h1) : ky_CallH G (d + 7) M_L_pull [.ref ((ky_B G)), .int p1, .ref ((ky_B G + 37))] h Q := by
  refine ky_ofVH (by decide +kernel) ok_L_pull (Nat.le_of_ble_eq_true rfl) ?_
  refine (?_ : ky_V _ _ _ 0 [(0, .ref ((ky_B G))), (1, .int p1), (2, .ref ((ky_B G + 37)))] [] _ _)
  refine v_aload_n (i := 0) (j := 2) rfl rfl (?_ : ky_V _ _ _ 1 _ _ _ _)
  refine v_iconst (v := 0) (i := 1) rfl (by decide) (?_ : ky_V _ _ _ 2 _ _ _ _)
  refine v_aload_n (i := 2) (j := 0) rfl rfl (?_ : ky_V _ _ _ 3 _ _ _ _)
  refine v_iload_n (i := 3) (j := 1) rfl rfl (?_ : ky_V _ _ _ 4 _ _ _ _)
  refine v_callVC (As := [.int p1]) (S := [.int 0, .ref (ky_B G + 37)]) cv_X11_pull sv_X11_pull (ky_t5 (i := 226) rfl rfl) (ci := 10) rfl (i := 4) rfl (oc_X11 I.1 hx) rfl rfl (Nat.le_of_ble_eq_true rfl) (k_X11_pull N hG I.1 e (fun h1 hm1 fr1 => ?_))
  have I1 := I.cls hm1 fr1
  rcases hc with ⟨v, rfl⟩ | rfl | rfl
  · refine Or.inl ⟨some (.int v), rfl, (?_ : ky_V _ _ _ 7 _ [.int v, .int 0, .ref (ky_B G + 37)] _ _)⟩
    refine v_i2l (i := 5) rfl rfl (?_ : ky_V _ _ _ 8 _ _ _ _)
    refine v_last (i := 6) rfl I1.2.2.1 (ky_inl (by decide)) (?_ : ky_V _ _ _ 9 _ _ _ _)
    refine v_goto (tgt := 18) (i := 7) rfl (by decide) (?_ : ky_V _ _ _ 18 _ _ _ _)
    refine v_iconst (v := 0) (i := 14) rfl (by decide) (?_ : ky_V _ _ _ 19 _ _ _ _)
    refine v_iret (v := 0) (ty := .int) (i := 15) rfl rfl rfl ?_
    exact h0 v _ _ rfl (I1.out _) rfl
  · refine Or.inr ⟨_, 12, .inl (some (.int 1)), rfl, hd_L_pull_1 hG, fun q => ?_, h1 _ rfl I1⟩
    refine v_astore_n (L' := [(0, .ref ((ky_B G))), (1, .int p1), (2, .ref ((ky_B G + 37))), (3, .ref q)]) [1, 2, 3, 0] (i := 8) rfl (Nat.le_of_ble_eq_true rfl) rfl (?_ : ky_V _ _ _ 13 _ _ _ _)
    refine v_iconst (v := 1) (i := 9) rfl (by decide) (?_ : ky_V _ _ _ 14 _ _ _ _)
    refine v_iret (v := 1) (ty := .int) (i := 10) rfl rfl rfl ?_
    exact ⟨rfl, rfl⟩
  · refine Or.inr ⟨_, 15, .inl (some (.int 2)), rfl, hd_L_pull_2 hG, fun q => ?_, h2 _ rfl I1⟩
    refine v_astore_n (L' := [(0, .ref ((ky_B G))), (1, .int p1), (2, .ref ((ky_B G + 37))), (3, .ref q)]) [1, 2, 3, 0] (i := 11) rfl (Nat.le_of_ble_eq_true rfl) rfl (?_ : ky_V _ _ _ 16 _ _ _ _)
    refine v_iconst (v := 2) (i := 12) rfl (by decide) (?_ : ky_V _ _ _ 17 _ _ _ _)
    refine v_iret (v := 2) (ty := .int) (i := 13) rfl rfl rfl ?_
    exact ⟨rfl, rfl⟩
set_option maxRecDepth 100000 in
set_option maxHeartbeats 4000000 in
theorem hd_L_talk_1 {G : ky_GW} (hG : ky_OK G) : ky_hd G M_L_talk 3 "java/lang/IllegalStateException" 11 :=
  ⟨[], ⟨0, 8, 11, 37⟩, [], "java/lang/IllegalStateException", rfl, (fun z hz => absurd hz List.not_mem_nil), by decide, by decide, ky_t5 (i := 153) rfl rfl, ky_m5 (i := 169) rfl, rfl⟩
set_option maxRecDepth 20000 in
set_option maxHeartbeats 4000000 in
theorem k_L_talk {G : ky_GW} {d : Nat} {h : ky_HP} {Q : ky_RS → ky_HP → Prop} {s s9 : sk_S} {c : Nat → Nat → Int32} {f : Nat → Int64} {r9 : ky_RS} (N : Nat) (hG : ky_OK G) (I : lw_I G s c f h) (hx : lw_X G s) (e : x11_talk N s (ky_B G) = some (s9, r9)) (hc : (∃ v : Int32, r9 = .inl (some (.int v))) ∨ r9 = .inr "java/lang/IllegalStateException") (h0 : ∀ (v : Int32) (h1 : ky_HP) (f1 : Nat → Int64), r9 = .inl (some (.int v)) → lw_I G s9 c f1 h1 → f1 0 = v.toInt64 → Q (.inl (some (.int 0))) h1) (h1 : ∀ h1 : ky_HP, r9 = .inr "java/lang/IllegalStateException" → lw_I G s9 c f h1 → Q (.inl (some (.int 1))) h1) : ky_CallH G (d + 7) M_L_talk [.ref ((ky_B G)), .ref ((ky_B G + 37))] h Q := by
  refine ky_ofVH (by decide +kernel) ok_L_talk (Nat.le_of_ble_eq_true rfl) ?_
  refine (?_ : ky_V _ _ _ 0 [(0, .ref ((ky_B G))), (1, .ref ((ky_B G + 37)))] [] _ _)
  refine v_aload_n (i := 0) (j := 1) rfl rfl (?_ : ky_V _ _ _ 1 _ _ _ _)
  refine v_iconst (v := 0) (i := 1) rfl (by decide) (?_ : ky_V _ _ _ 2 _ _ _ _)
  refine v_aload_n (i := 2) (j := 0) rfl rfl (?_ : ky_V _ _ _ 3 _ _ _ _)
  refine v_callVC (As := []) (S := [.int 0, .ref (ky_B G + 37)]) cv_X11_talk sv_X11_talk (ky_t6 (i := 16) rfl rfl) (ci := 10) rfl (i := 3) rfl (oc_X11 I.1 hx) rfl rfl (Nat.le_of_ble_eq_true rfl) (k_X11_talk N hG I.1 e (fun h1 hm1 fr1 => ?_))
  have I1 := I.cls hm1 fr1
  rcases hc with ⟨v, rfl⟩ | rfl
  · refine Or.inl ⟨some (.int v), rfl, (?_ : ky_V _ _ _ 6 _ [.int v, .int 0, .ref (ky_B G + 37)] _ _)⟩
    refine v_i2l (i := 4) rfl rfl (?_ : ky_V _ _ _ 7 _ _ _ _)
    refine v_last (i := 5) rfl I1.2.2.1 (ky_inl (by decide)) (?_ : ky_V _ _ _ 8 _ _ _ _)
    refine v_goto (tgt := 14) (i := 6) rfl (by decide) (?_ : ky_V _ _ _ 14 _ _ _ _)
    refine v_iconst (v := 0) (i := 10) rfl (by decide) (?_ : ky_V _ _ _ 15 _ _ _ _)
    refine v_iret (v := 0) (ty := .int) (i := 11) rfl rfl rfl ?_
    exact h0 v _ _ rfl (I1.out _) rfl
  · refine Or.inr ⟨_, 11, .inl (some (.int 1)), rfl, hd_L_talk_1 hG, fun q => ?_, h1 _ rfl I1⟩
    refine v_astore_n (L' := [(0, .ref ((ky_B G))), (1, .ref ((ky_B G + 37))), (2, .ref q)]) [1, 2, 0] (i := 7) rfl (Nat.le_of_ble_eq_true rfl) rfl (?_ : ky_V _ _ _ 12 _ _ _ _)
    refine v_iconst (v := 1) (i := 8) rfl (by decide) (?_ : ky_V _ _ _ 13 _ _ _ _)
    refine v_iret (v := 1) (ty := .int) (i := 9) rfl rfl rfl ?_
    exact ⟨rfl, rfl⟩
set_option maxRecDepth 100000 in
set_option maxHeartbeats 4000000 in
theorem hd_L_pour_1 {G : ky_GW} (hG : ky_OK G) : ky_hd G M_L_pour 3 "java/lang/IllegalStateException" 11 :=
  ⟨[], ⟨0, 8, 11, 37⟩, [], "java/lang/IllegalStateException", rfl, (fun z hz => absurd hz List.not_mem_nil), by decide, by decide, ky_t5 (i := 153) rfl rfl, ky_m5 (i := 169) rfl, rfl⟩
set_option maxRecDepth 20000 in
set_option maxHeartbeats 4000000 in
theorem k_L_pour {G : ky_GW} {d : Nat} {h : ky_HP} {Q : ky_RS → ky_HP → Prop} {s s9 : sk_S} {c : Nat → Nat → Int32} {f : Nat → Int64} {r9 : ky_RS} (N : Nat) (hG : ky_OK G) (I : lw_I G s c f h) (hx : lw_X G s) (e : x11_pour N s (ky_B G) = some (s9, r9)) (hc : (∃ v : Int32, r9 = .inl (some (.int v))) ∨ r9 = .inr "java/lang/IllegalStateException") (h0 : ∀ (v : Int32) (h1 : ky_HP) (f1 : Nat → Int64), r9 = .inl (some (.int v)) → lw_I G s9 c f1 h1 → f1 0 = v.toInt64 → Q (.inl (some (.int 0))) h1) (h1 : ∀ h1 : ky_HP, r9 = .inr "java/lang/IllegalStateException" → lw_I G s9 c f h1 → Q (.inl (some (.int 1))) h1) : ky_CallH G (d + 7) M_L_pour [.ref ((ky_B G)), .ref ((ky_B G + 37))] h Q := by
  refine ky_ofVH (by decide +kernel) ok_L_pour (Nat.le_of_ble_eq_true rfl) ?_
  refine (?_ : ky_V _ _ _ 0 [(0, .ref ((ky_B G))), (1, .ref ((ky_B G + 37)))] [] _ _)
  refine v_aload_n (i := 0) (j := 1) rfl rfl (?_ : ky_V _ _ _ 1 _ _ _ _)
  refine v_iconst (v := 0) (i := 1) rfl (by decide) (?_ : ky_V _ _ _ 2 _ _ _ _)
  refine v_aload_n (i := 2) (j := 0) rfl rfl (?_ : ky_V _ _ _ 3 _ _ _ _)
  refine v_callVC (As := []) (S := [.int 0, .ref (ky_B G + 37)]) cv_X11_pour sv_X11_pour (ky_t6 (i := 28) rfl rfl) (ci := 10) rfl (i := 3) rfl (oc_X11 I.1 hx) rfl rfl (Nat.le_of_ble_eq_true rfl) (k_X11_pour N hG I.1 e (fun h1 hm1 fr1 => ?_))
  have I1 := I.cls hm1 fr1
  rcases hc with ⟨v, rfl⟩ | rfl
  · refine Or.inl ⟨some (.int v), rfl, (?_ : ky_V _ _ _ 6 _ [.int v, .int 0, .ref (ky_B G + 37)] _ _)⟩
    refine v_i2l (i := 4) rfl rfl (?_ : ky_V _ _ _ 7 _ _ _ _)
    refine v_last (i := 5) rfl I1.2.2.1 (ky_inl (by decide)) (?_ : ky_V _ _ _ 8 _ _ _ _)
    refine v_goto (tgt := 14) (i := 6) rfl (by decide) (?_ : ky_V _ _ _ 14 _ _ _ _)
    refine v_iconst (v := 0) (i := 10) rfl (by decide) (?_ : ky_V _ _ _ 15 _ _ _ _)
    refine v_iret (v := 0) (ty := .int) (i := 11) rfl rfl rfl ?_
    exact h0 v _ _ rfl (I1.out _) rfl
  · refine Or.inr ⟨_, 11, .inl (some (.int 1)), rfl, hd_L_pour_1 hG, fun q => ?_, h1 _ rfl I1⟩
    refine v_astore_n (L' := [(0, .ref ((ky_B G))), (1, .ref ((ky_B G + 37))), (2, .ref q)]) [1, 2, 0] (i := 7) rfl (Nat.le_of_ble_eq_true rfl) rfl (?_ : ky_V _ _ _ 12 _ _ _ _)
    refine v_iconst (v := 1) (i := 8) rfl (by decide) (?_ : ky_V _ _ _ 13 _ _ _ _)
    refine v_iret (v := 1) (ty := .int) (i := 9) rfl rfl rfl ?_
    exact ⟨rfl, rfl⟩
set_option maxRecDepth 100000 in
set_option maxHeartbeats 4000000 in
theorem hd_L_walk_1 {G : ky_GW} (hG : ky_OK G) : ky_hd G M_L_walk 5 "java/lang/IndexOutOfBoundsException" 13 :=
  ⟨[], ⟨0, 10, 13, 24⟩, [⟨0, 10, 17, 37⟩], "java/lang/IndexOutOfBoundsException", rfl, (fun z hz => absurd hz List.not_mem_nil), by decide, by decide, ky_t5 (i := 46) rfl rfl, ky_m5 (i := 57) rfl, rfl⟩
set_option maxRecDepth 100000 in
set_option maxHeartbeats 4000000 in
theorem hd_L_walk_2 {G : ky_GW} (hG : ky_OK G) : ky_hd G M_L_walk 5 "java/lang/IllegalStateException" 17 :=
  ⟨[⟨0, 10, 13, 24⟩], ⟨0, 10, 17, 37⟩, [], "java/lang/IllegalStateException", rfl, (fun z hz => by
    rw [List.mem_singleton.mp hz]
    exact Or.inr ⟨by decide, "java/lang/IndexOutOfBoundsException", ky_t5 (i := 46) rfl rfl, va_Nc.of (ky_lR (ky_lL (ky_lR (ky_lR (ky_lR (ky_lR (ky_lL (ky_lL (ky_lL (ky_lL (ky_lR hG.2.2.2)))))))))))⟩), by decide, by decide, ky_t5 (i := 153) rfl rfl, ky_m5 (i := 169) rfl, rfl⟩
set_option maxRecDepth 20000 in
set_option maxHeartbeats 4000000 in
theorem k_L_walk {G : ky_GW} {d : Nat} {h : ky_HP} {Q : ky_RS → ky_HP → Prop} {s s9 : sk_S} {c : Nat → Nat → Int32} {f : Nat → Int64} {r9 : ky_RS} {p1 : Int32} {p2 : Int32} (N : Nat) (hG : ky_OK G) (I : lw_I G s c f h) (hx : lw_X G s) (e : x11_walk N s (ky_B G) p1 p2 = some (s9, r9)) (hc : (∃ v : Int32, r9 = .inl (some (.int v))) ∨ r9 = .inr "java/lang/IndexOutOfBoundsException" ∨ r9 = .inr "java/lang/IllegalStateException") (h0 : ∀ (v : Int32) (h1 : ky_HP) (f1 : Nat → Int64), r9 = .inl (some (.int v)) → lw_I G s9 c f1 h1 → f1 0 = v.toInt64 → Q (.inl (some (.int 0))) h1) (h1 : ∀ h1 : ky_HP, r9 = .inr "java/lang/IndexOutOfBoundsException" → lw_I G s9 c f h1 → Q (.inl (some (.int 1))) h1) (h2 : ∀ h1 : ky_HP, r9 = .inr "java/lang/IllegalStateException" → lw_I G s9 c f h1 → Q (.inl (some (.int 2))) h1) : ky_CallH G (d + 7) M_L_walk [.ref ((ky_B G)), .int p1, .int p2, .ref ((ky_B G + 37))] h Q := by
  refine ky_ofVH (by decide +kernel) ok_L_walk (Nat.le_of_ble_eq_true rfl) ?_
  refine (?_ : ky_V _ _ _ 0 [(0, .ref ((ky_B G))), (1, .int p1), (2, .int p2), (3, .ref ((ky_B G + 37)))] [] _ _)
  refine v_aload_n (i := 0) (j := 3) rfl rfl (?_ : ky_V _ _ _ 1 _ _ _ _)
  refine v_iconst (v := 0) (i := 1) rfl (by decide) (?_ : ky_V _ _ _ 2 _ _ _ _)
  refine v_aload_n (i := 2) (j := 0) rfl rfl (?_ : ky_V _ _ _ 3 _ _ _ _)
  refine v_iload_n (i := 3) (j := 1) rfl rfl (?_ : ky_V _ _ _ 4 _ _ _ _)
  refine v_iload_n (i := 4) (j := 2) rfl rfl (?_ : ky_V _ _ _ 5 _ _ _ _)
  refine v_callVC (As := [.int p1, .int p2]) (S := [.int 0, .ref (ky_B G + 37)]) cv_X11_walk sv_X11_walk (ky_t6 (i := 35) rfl rfl) (ci := 10) rfl (i := 5) rfl (oc_X11 I.1 hx) rfl rfl (Nat.le_of_ble_eq_true rfl) (k_X11_walk N hG I.1 e (fun h1 hm1 fr1 => ?_))
  have I1 := I.cls hm1 fr1
  rcases hc with ⟨v, rfl⟩ | rfl | rfl
  · refine Or.inl ⟨some (.int v), rfl, (?_ : ky_V _ _ _ 8 _ [.int v, .int 0, .ref (ky_B G + 37)] _ _)⟩
    refine v_i2l (i := 6) rfl rfl (?_ : ky_V _ _ _ 9 _ _ _ _)
    refine v_last (i := 7) rfl I1.2.2.1 (ky_inl (by decide)) (?_ : ky_V _ _ _ 10 _ _ _ _)
    refine v_goto (tgt := 21) (i := 8) rfl (by decide) (?_ : ky_V _ _ _ 21 _ _ _ _)
    refine v_iconst (v := 0) (i := 15) rfl (by decide) (?_ : ky_V _ _ _ 22 _ _ _ _)
    refine v_iret (v := 0) (ty := .int) (i := 16) rfl rfl rfl ?_
    exact h0 v _ _ rfl (I1.out _) rfl
  · refine Or.inr ⟨_, 13, .inl (some (.int 1)), rfl, hd_L_walk_1 hG, fun q => ?_, h1 _ rfl I1⟩
    refine v_astore (L' := [(0, .ref ((ky_B G))), (1, .int p1), (2, .int p2), (3, .ref ((ky_B G + 37))), (4, .ref q)]) [1, 2, 3, 4, 0] (i := 9) rfl (Nat.le_of_ble_eq_true rfl) rfl (?_ : ky_V _ _ _ 15 _ _ _ _)
    refine v_iconst (v := 1) (i := 10) rfl (by decide) (?_ : ky_V _ _ _ 16 _ _ _ _)
    refine v_iret (v := 1) (ty := .int) (i := 11) rfl rfl rfl ?_
    exact ⟨rfl, rfl⟩
  · refine Or.inr ⟨_, 17, .inl (some (.int 2)), rfl, hd_L_walk_2 hG, fun q => ?_, h2 _ rfl I1⟩
    refine v_astore (L' := [(0, .ref ((ky_B G))), (1, .int p1), (2, .int p2), (3, .ref ((ky_B G + 37))), (4, .ref q)]) [1, 2, 3, 4, 0] (i := 12) rfl (Nat.le_of_ble_eq_true rfl) rfl (?_ : ky_V _ _ _ 19 _ _ _ _)
    refine v_iconst (v := 2) (i := 13) rfl (by decide) (?_ : ky_V _ _ _ 20 _ _ _ _)
    refine v_iret (v := 2) (ty := .int) (i := 14) rfl rfl rfl ?_
    exact ⟨rfl, rfl⟩
set_option maxRecDepth 100000 in
set_option maxHeartbeats 4000000 in
theorem hd_L_board_1 {G : ky_GW} (hG : ky_OK G) : ky_hd G M_L_board 4 "java/lang/IndexOutOfBoundsException" 12 :=
  ⟨[], ⟨0, 9, 12, 24⟩, [⟨0, 9, 15, 37⟩], "java/lang/IndexOutOfBoundsException", rfl, (fun z hz => absurd hz List.not_mem_nil), by decide, by decide, ky_t5 (i := 46) rfl rfl, ky_m5 (i := 57) rfl, rfl⟩
set_option maxRecDepth 100000 in
set_option maxHeartbeats 4000000 in
theorem hd_L_board_2 {G : ky_GW} (hG : ky_OK G) : ky_hd G M_L_board 4 "java/lang/IllegalStateException" 15 :=
  ⟨[⟨0, 9, 12, 24⟩], ⟨0, 9, 15, 37⟩, [], "java/lang/IllegalStateException", rfl, (fun z hz => by
    rw [List.mem_singleton.mp hz]
    exact Or.inr ⟨by decide, "java/lang/IndexOutOfBoundsException", ky_t5 (i := 46) rfl rfl, va_Nc.of (ky_lR (ky_lL (ky_lR (ky_lR (ky_lR (ky_lR (ky_lL (ky_lL (ky_lL (ky_lL (ky_lR hG.2.2.2)))))))))))⟩), by decide, by decide, ky_t5 (i := 153) rfl rfl, ky_m5 (i := 169) rfl, rfl⟩
set_option maxRecDepth 20000 in
set_option maxHeartbeats 4000000 in
theorem k_L_board {G : ky_GW} {d : Nat} {h : ky_HP} {Q : ky_RS → ky_HP → Prop} {s s9 : sk_S} {c : Nat → Nat → Int32} {f : Nat → Int64} {r9 : ky_RS} {p1 : Int32} (N : Nat) (hG : ky_OK G) (I : lw_I G s c f h) (hx : lw_X G s) (e : x11_board N s (ky_B G) p1 = some (s9, r9)) (hc : (∃ v : Int32, r9 = .inl (some (.int v))) ∨ r9 = .inr "java/lang/IndexOutOfBoundsException" ∨ r9 = .inr "java/lang/IllegalStateException") (h0 : ∀ (v : Int32) (h1 : ky_HP) (f1 : Nat → Int64), r9 = .inl (some (.int v)) → lw_I G s9 c f1 h1 → f1 0 = v.toInt64 → Q (.inl (some (.int 0))) h1) (h1 : ∀ h1 : ky_HP, r9 = .inr "java/lang/IndexOutOfBoundsException" → lw_I G s9 c f h1 → Q (.inl (some (.int 1))) h1) (h2 : ∀ h1 : ky_HP, r9 = .inr "java/lang/IllegalStateException" → lw_I G s9 c f h1 → Q (.inl (some (.int 2))) h1) : ky_CallH G (d + 7) M_L_board [.ref ((ky_B G)), .int p1, .ref ((ky_B G + 37))] h Q := by
  refine ky_ofVH (by decide +kernel) ok_L_board (Nat.le_of_ble_eq_true rfl) ?_
  refine (?_ : ky_V _ _ _ 0 [(0, .ref ((ky_B G))), (1, .int p1), (2, .ref ((ky_B G + 37)))] [] _ _)
  refine v_aload_n (i := 0) (j := 2) rfl rfl (?_ : ky_V _ _ _ 1 _ _ _ _)
  refine v_iconst (v := 0) (i := 1) rfl (by decide) (?_ : ky_V _ _ _ 2 _ _ _ _)
  refine v_aload_n (i := 2) (j := 0) rfl rfl (?_ : ky_V _ _ _ 3 _ _ _ _)
  refine v_iload_n (i := 3) (j := 1) rfl rfl (?_ : ky_V _ _ _ 4 _ _ _ _)
  refine v_callVC (As := [.int p1]) (S := [.int 0, .ref (ky_B G + 37)]) cv_X11_board sv_X11_board (ky_t6 (i := 45) rfl rfl) (ci := 10) rfl (i := 4) rfl (oc_X11 I.1 hx) rfl rfl (Nat.le_of_ble_eq_true rfl) (k_X11_board N hG I.1 e (fun h1 hm1 fr1 => ?_))
  have I1 := I.cls hm1 fr1
  rcases hc with ⟨v, rfl⟩ | rfl | rfl
  · refine Or.inl ⟨some (.int v), rfl, (?_ : ky_V _ _ _ 7 _ [.int v, .int 0, .ref (ky_B G + 37)] _ _)⟩
    refine v_i2l (i := 5) rfl rfl (?_ : ky_V _ _ _ 8 _ _ _ _)
    refine v_last (i := 6) rfl I1.2.2.1 (ky_inl (by decide)) (?_ : ky_V _ _ _ 9 _ _ _ _)
    refine v_goto (tgt := 18) (i := 7) rfl (by decide) (?_ : ky_V _ _ _ 18 _ _ _ _)
    refine v_iconst (v := 0) (i := 14) rfl (by decide) (?_ : ky_V _ _ _ 19 _ _ _ _)
    refine v_iret (v := 0) (ty := .int) (i := 15) rfl rfl rfl ?_
    exact h0 v _ _ rfl (I1.out _) rfl
  · refine Or.inr ⟨_, 12, .inl (some (.int 1)), rfl, hd_L_board_1 hG, fun q => ?_, h1 _ rfl I1⟩
    refine v_astore_n (L' := [(0, .ref ((ky_B G))), (1, .int p1), (2, .ref ((ky_B G + 37))), (3, .ref q)]) [1, 2, 3, 0] (i := 8) rfl (Nat.le_of_ble_eq_true rfl) rfl (?_ : ky_V _ _ _ 13 _ _ _ _)
    refine v_iconst (v := 1) (i := 9) rfl (by decide) (?_ : ky_V _ _ _ 14 _ _ _ _)
    refine v_iret (v := 1) (ty := .int) (i := 10) rfl rfl rfl ?_
    exact ⟨rfl, rfl⟩
  · refine Or.inr ⟨_, 15, .inl (some (.int 2)), rfl, hd_L_board_2 hG, fun q => ?_, h2 _ rfl I1⟩
    refine v_astore_n (L' := [(0, .ref ((ky_B G))), (1, .int p1), (2, .ref ((ky_B G + 37))), (3, .ref q)]) [1, 2, 3, 0] (i := 11) rfl (Nat.le_of_ble_eq_true rfl) rfl (?_ : ky_V _ _ _ 16 _ _ _ _)
    refine v_iconst (v := 2) (i := 12) rfl (by decide) (?_ : ky_V _ _ _ 17 _ _ _ _)
    refine v_iret (v := 2) (ty := .int) (i := 13) rfl rfl rfl ?_
    exact ⟨rfl, rfl⟩
set_option maxRecDepth 100000 in
set_option maxHeartbeats 4000000 in
theorem hd_L_moves_1 {G : ky_GW} (hG : ky_OK G) : ky_hd G M_L_moves 4 "java/lang/IllegalArgumentException" 12 :=
  ⟨[], ⟨0, 9, 12, 13⟩, [], "java/lang/IllegalArgumentException", rfl, (fun z hz => absurd hz List.not_mem_nil), by decide, by decide, ky_t3 (i := 173) rfl rfl, ky_m4 (i := 60) rfl, rfl⟩
set_option maxRecDepth 20000 in
set_option maxHeartbeats 4000000 in
theorem k_L_moves {G : ky_GW} {d : Nat} {h : ky_HP} {Q : ky_RS → ky_HP → Prop} {s s9 : sk_S} {c : Nat → Nat → Int32} {f : Nat → Int64} {r9 : ky_RS} {p1 : Int32} (N : Nat) (hG : ky_OK G) (I : lw_I G s c f h) (hx : lw_X G s) (e : x11_moves N s (ky_B G) p1 = some (s9, r9)) (hc : (∃ v : Int32, r9 = .inl (some (.int v))) ∨ r9 = .inr "java/lang/IllegalArgumentException") (h0 : ∀ (v : Int32) (h1 : ky_HP) (f1 : Nat → Int64), r9 = .inl (some (.int v)) → lw_I G s9 c f1 h1 → f1 0 = v.toInt64 → Q (.inl (some (.int 0))) h1) (h1 : ∀ h1 : ky_HP, r9 = .inr "java/lang/IllegalArgumentException" → lw_I G s9 c f h1 → Q (.inl (some (.int 1))) h1) : ky_CallH G (d + 7) M_L_moves [.ref ((ky_B G)), .int p1, .ref ((ky_B G + 37))] h Q := by
  refine ky_ofVH (by decide +kernel) ok_L_moves (Nat.le_of_ble_eq_true rfl) ?_
  refine (?_ : ky_V _ _ _ 0 [(0, .ref ((ky_B G))), (1, .int p1), (2, .ref ((ky_B G + 37)))] [] _ _)
  refine v_aload_n (i := 0) (j := 2) rfl rfl (?_ : ky_V _ _ _ 1 _ _ _ _)
  refine v_iconst (v := 0) (i := 1) rfl (by decide) (?_ : ky_V _ _ _ 2 _ _ _ _)
  refine v_aload_n (i := 2) (j := 0) rfl rfl (?_ : ky_V _ _ _ 3 _ _ _ _)
  refine v_iload_n (i := 3) (j := 1) rfl rfl (?_ : ky_V _ _ _ 4 _ _ _ _)
  refine v_callVC (As := [.int p1]) (S := [.int 0, .ref (ky_B G + 37)]) cv_X11_moves sv_X11_moves (ky_t6 (i := 57) rfl rfl) (ci := 10) rfl (i := 4) rfl (oc_X11 I.1 hx) rfl rfl (Nat.le_of_ble_eq_true rfl) (k_X11_moves N hG I.1 e (fun h1 hm1 fr1 => ?_))
  have I1 := I.cls hm1 fr1
  rcases hc with ⟨v, rfl⟩ | rfl
  · refine Or.inl ⟨some (.int v), rfl, (?_ : ky_V _ _ _ 7 _ [.int v, .int 0, .ref (ky_B G + 37)] _ _)⟩
    refine v_i2l (i := 5) rfl rfl (?_ : ky_V _ _ _ 8 _ _ _ _)
    refine v_last (i := 6) rfl I1.2.2.1 (ky_inl (by decide)) (?_ : ky_V _ _ _ 9 _ _ _ _)
    refine v_goto (tgt := 15) (i := 7) rfl (by decide) (?_ : ky_V _ _ _ 15 _ _ _ _)
    refine v_iconst (v := 0) (i := 11) rfl (by decide) (?_ : ky_V _ _ _ 16 _ _ _ _)
    refine v_iret (v := 0) (ty := .int) (i := 12) rfl rfl rfl ?_
    exact h0 v _ _ rfl (I1.out _) rfl
  · refine Or.inr ⟨_, 12, .inl (some (.int 1)), rfl, hd_L_moves_1 hG, fun q => ?_, h1 _ rfl I1⟩
    refine v_astore_n (L' := [(0, .ref ((ky_B G))), (1, .int p1), (2, .ref ((ky_B G + 37))), (3, .ref q)]) [1, 2, 3, 0] (i := 8) rfl (Nat.le_of_ble_eq_true rfl) rfl (?_ : ky_V _ _ _ 13 _ _ _ _)
    refine v_iconst (v := 1) (i := 9) rfl (by decide) (?_ : ky_V _ _ _ 14 _ _ _ _)
    refine v_iret (v := 1) (ty := .int) (i := 10) rfl rfl rfl ?_
    exact ⟨rfl, rfl⟩
set_option maxRecDepth 100000 in
set_option maxHeartbeats 4000000 in
theorem hd_L_would_1 {G : ky_GW} (hG : ky_OK G) : ky_hd G M_L_would 7 "java/lang/IndexOutOfBoundsException" 15 :=
  ⟨[], ⟨0, 12, 15, 24⟩, [⟨0, 12, 19, 26⟩], "java/lang/IndexOutOfBoundsException", rfl, (fun z hz => absurd hz List.not_mem_nil), by decide, by decide, ky_t5 (i := 46) rfl rfl, ky_m5 (i := 57) rfl, rfl⟩
set_option maxRecDepth 100000 in
set_option maxHeartbeats 4000000 in
theorem hd_L_would_2 {G : ky_GW} (hG : ky_OK G) : ky_hd G M_L_would 7 "java/util/NoSuchElementException" 19 :=
  ⟨[⟨0, 12, 15, 24⟩], ⟨0, 12, 19, 26⟩, [], "java/util/NoSuchElementException", rfl, (fun z hz => by
    rw [List.mem_singleton.mp hz]
    exact Or.inr ⟨by decide, "java/lang/IndexOutOfBoundsException", ky_t5 (i := 46) rfl rfl, va_Nc.of (ky_lR (ky_lR (ky_lL (ky_lR (ky_lR (ky_lR (ky_lL (ky_lL (ky_lL (ky_lL (ky_lR hG.2.2.2)))))))))))⟩), by decide, by decide, ky_t5 (i := 47) rfl rfl, ky_m5 (i := 73) rfl, rfl⟩
set_option maxRecDepth 20000 in
set_option maxHeartbeats 4000000 in
theorem k_L_would {G : ky_GW} {d : Nat} {h : ky_HP} {Q : ky_RS → ky_HP → Prop} {s s9 : sk_S} {c : Nat → Nat → Int32} {f : Nat → Int64} {r9 : ky_RS} {p1 : Int32} {p2 : Int32} {p3 : Int32} (N : Nat) (hG : ky_OK G) (I : lw_I G s c f h) (hx : lw_X G s) (e : x11_would N s (ky_B G) p1 p2 p3 = some (s9, r9)) (hc : (∃ v : Int32, r9 = .inl (some (.int v))) ∨ r9 = .inr "java/lang/IndexOutOfBoundsException" ∨ r9 = .inr "java/util/NoSuchElementException") (h0 : ∀ (v : Int32) (h1 : ky_HP) (f1 : Nat → Int64), r9 = .inl (some (.int v)) → lw_I G s9 c f1 h1 → f1 0 = v.toInt64 → Q (.inl (some (.int 0))) h1) (h1 : ∀ h1 : ky_HP, r9 = .inr "java/lang/IndexOutOfBoundsException" → lw_I G s9 c f h1 → Q (.inl (some (.int 1))) h1) (h2 : ∀ h1 : ky_HP, r9 = .inr "java/util/NoSuchElementException" → lw_I G s9 c f h1 → Q (.inl (some (.int 2))) h1) : ky_CallH G (d + 7) M_L_would [.ref ((ky_B G)), .int p1, .int p2, .int p3, .ref ((ky_B G + 37))] h Q := by
  refine ky_ofVH (by decide +kernel) ok_L_would (Nat.le_of_ble_eq_true rfl) ?_
  refine (?_ : ky_V _ _ _ 0 [(0, .ref ((ky_B G))), (1, .int p1), (2, .int p2), (3, .int p3), (4, .ref ((ky_B G + 37)))] [] _ _)
  refine v_aload (i := 0) (j := 4) rfl rfl (?_ : ky_V _ _ _ 2 _ _ _ _)
  refine v_iconst (v := 0) (i := 1) rfl (by decide) (?_ : ky_V _ _ _ 3 _ _ _ _)
  refine v_aload_n (i := 2) (j := 0) rfl rfl (?_ : ky_V _ _ _ 4 _ _ _ _)
  refine v_iload_n (i := 3) (j := 1) rfl rfl (?_ : ky_V _ _ _ 5 _ _ _ _)
  refine v_iload_n (i := 4) (j := 2) rfl rfl (?_ : ky_V _ _ _ 6 _ _ _ _)
  refine v_iload_n (i := 5) (j := 3) rfl rfl (?_ : ky_V _ _ _ 7 _ _ _ _)
  refine v_callVC (As := [.int p1, .int p2, .int p3]) (S := [.int 0, .ref (ky_B G + 37)]) cv_X11_would sv_X11_would (ky_t6 (i := 73) rfl rfl) (ci := 10) rfl (i := 6) rfl (oc_X11 I.1 hx) rfl rfl (Nat.le_of_ble_eq_true rfl) (k_X11_would N hG I.1 e (fun h1 hm1 fr1 => ?_))
  have I1 := I.cls hm1 fr1
  rcases hc with ⟨v, rfl⟩ | rfl | rfl
  · refine Or.inl ⟨some (.int v), rfl, (?_ : ky_V _ _ _ 10 _ [.int v, .int 0, .ref (ky_B G + 37)] _ _)⟩
    refine v_i2l (i := 7) rfl rfl (?_ : ky_V _ _ _ 11 _ _ _ _)
    refine v_last (i := 8) rfl I1.2.2.1 (ky_inl (by decide)) (?_ : ky_V _ _ _ 12 _ _ _ _)
    refine v_goto (tgt := 23) (i := 9) rfl (by decide) (?_ : ky_V _ _ _ 23 _ _ _ _)
    refine v_iconst (v := 0) (i := 16) rfl (by decide) (?_ : ky_V _ _ _ 24 _ _ _ _)
    refine v_iret (v := 0) (ty := .int) (i := 17) rfl rfl rfl ?_
    exact h0 v _ _ rfl (I1.out _) rfl
  · refine Or.inr ⟨_, 15, .inl (some (.int 1)), rfl, hd_L_would_1 hG, fun q => ?_, h1 _ rfl I1⟩
    refine v_astore (L' := [(0, .ref ((ky_B G))), (1, .int p1), (2, .int p2), (3, .int p3), (4, .ref ((ky_B G + 37))), (5, .ref q)]) [1, 2, 3, 4, 5, 0] (i := 10) rfl (Nat.le_of_ble_eq_true rfl) rfl (?_ : ky_V _ _ _ 17 _ _ _ _)
    refine v_iconst (v := 1) (i := 11) rfl (by decide) (?_ : ky_V _ _ _ 18 _ _ _ _)
    refine v_iret (v := 1) (ty := .int) (i := 12) rfl rfl rfl ?_
    exact ⟨rfl, rfl⟩
  · refine Or.inr ⟨_, 19, .inl (some (.int 2)), rfl, hd_L_would_2 hG, fun q => ?_, h2 _ rfl I1⟩
    refine v_astore (L' := [(0, .ref ((ky_B G))), (1, .int p1), (2, .int p2), (3, .int p3), (4, .ref ((ky_B G + 37))), (5, .ref q)]) [1, 2, 3, 4, 5, 0] (i := 13) rfl (Nat.le_of_ble_eq_true rfl) rfl (?_ : ky_V _ _ _ 21 _ _ _ _)
    refine v_iconst (v := 2) (i := 14) rfl (by decide) (?_ : ky_V _ _ _ 22 _ _ _ _)
    refine v_iret (v := 2) (ty := .int) (i := 15) rfl rfl rfl ?_
    exact ⟨rfl, rfl⟩
set_option maxRecDepth 100000 in
set_option maxHeartbeats 4000000 in
theorem hd_L_worth_1 {G : ky_GW} (hG : ky_OK G) : ky_hd G M_L_worth 4 "java/util/NoSuchElementException" 12 :=
  ⟨[], ⟨0, 9, 12, 26⟩, [], "java/util/NoSuchElementException", rfl, (fun z hz => absurd hz List.not_mem_nil), by decide, by decide, ky_t5 (i := 47) rfl rfl, ky_m5 (i := 73) rfl, rfl⟩
set_option maxRecDepth 20000 in
set_option maxHeartbeats 4000000 in
theorem k_L_worth {G : ky_GW} {d : Nat} {h : ky_HP} {Q : ky_RS → ky_HP → Prop} {s s9 : sk_S} {c : Nat → Nat → Int32} {f : Nat → Int64} {r9 : ky_RS} {p1 : Int32} (N : Nat) (hG : ky_OK G) (I : lw_I G s c f h) (hx : lw_X G s) (e : x11_worth N s (ky_B G) p1 = some (s9, r9)) (hc : (∃ v : Int32, r9 = .inl (some (.int v))) ∨ r9 = .inr "java/util/NoSuchElementException") (h0 : ∀ (v : Int32) (h1 : ky_HP) (f1 : Nat → Int64), r9 = .inl (some (.int v)) → lw_I G s9 c f1 h1 → f1 0 = v.toInt64 → Q (.inl (some (.int 0))) h1) (h1 : ∀ h1 : ky_HP, r9 = .inr "java/util/NoSuchElementException" → lw_I G s9 c f h1 → Q (.inl (some (.int 1))) h1) : ky_CallH G (d + 8) M_L_worth [.ref ((ky_B G)), .int p1, .ref ((ky_B G + 37))] h Q := by
  refine ky_ofVH (by decide +kernel) ok_L_worth (Nat.le_of_ble_eq_true rfl) ?_
  refine (?_ : ky_V _ _ _ 0 [(0, .ref ((ky_B G))), (1, .int p1), (2, .ref ((ky_B G + 37)))] [] _ _)
  refine v_aload_n (i := 0) (j := 2) rfl rfl (?_ : ky_V _ _ _ 1 _ _ _ _)
  refine v_iconst (v := 0) (i := 1) rfl (by decide) (?_ : ky_V _ _ _ 2 _ _ _ _)
  refine v_aload_n (i := 2) (j := 0) rfl rfl (?_ : ky_V _ _ _ 3 _ _ _ _)
  refine v_iload_n (i := 3) (j := 1) rfl rfl (?_ : ky_V _ _ _ 4 _ _ _ _)
  refine v_callVC (As := [.int p1]) (S := [.int 0, .ref (ky_B G + 37)]) cv_X11_worth sv_X11_worth (ky_t6 (i := 81) rfl rfl) (ci := 10) rfl (i := 4) rfl (oc_X11 I.1 hx) rfl rfl (Nat.le_of_ble_eq_true rfl) (k_X11_worth N hG I.1 e (fun h1 hm1 fr1 => ?_))
  have I1 := I.cls hm1 fr1
  rcases hc with ⟨v, rfl⟩ | rfl
  · refine Or.inl ⟨some (.int v), rfl, (?_ : ky_V _ _ _ 7 _ [.int v, .int 0, .ref (ky_B G + 37)] _ _)⟩
    refine v_i2l (i := 5) rfl rfl (?_ : ky_V _ _ _ 8 _ _ _ _)
    refine v_last (i := 6) rfl I1.2.2.1 (ky_inl (by decide)) (?_ : ky_V _ _ _ 9 _ _ _ _)
    refine v_goto (tgt := 15) (i := 7) rfl (by decide) (?_ : ky_V _ _ _ 15 _ _ _ _)
    refine v_iconst (v := 0) (i := 11) rfl (by decide) (?_ : ky_V _ _ _ 16 _ _ _ _)
    refine v_iret (v := 0) (ty := .int) (i := 12) rfl rfl rfl ?_
    exact h0 v _ _ rfl (I1.out _) rfl
  · refine Or.inr ⟨_, 12, .inl (some (.int 1)), rfl, hd_L_worth_1 hG, fun q => ?_, h1 _ rfl I1⟩
    refine v_astore_n (L' := [(0, .ref ((ky_B G))), (1, .int p1), (2, .ref ((ky_B G + 37))), (3, .ref q)]) [1, 2, 3, 0] (i := 8) rfl (Nat.le_of_ble_eq_true rfl) rfl (?_ : ky_V _ _ _ 13 _ _ _ _)
    refine v_iconst (v := 1) (i := 9) rfl (by decide) (?_ : ky_V _ _ _ 14 _ _ _ _)
    refine v_iret (v := 1) (ty := .int) (i := 10) rfl rfl rfl ?_
    exact ⟨rfl, rfl⟩
set_option maxRecDepth 100000 in
set_option maxHeartbeats 4000000 in
theorem hd_L_run_1 {G : ky_GW} (hG : ky_OK G) : ky_hd G M_L_run 5 "java/lang/IllegalArgumentException" 13 :=
  ⟨[], ⟨0, 10, 13, 13⟩, [], "java/lang/IllegalArgumentException", rfl, (fun z hz => absurd hz List.not_mem_nil), by decide, by decide, ky_t3 (i := 173) rfl rfl, ky_m4 (i := 60) rfl, rfl⟩
set_option maxRecDepth 20000 in
set_option maxHeartbeats 4000000 in
theorem k_L_run {G : ky_GW} {d : Nat} {h : ky_HP} {Q : ky_RS → ky_HP → Prop} {s s9 : sk_S} {c : Nat → Nat → Int32} {f : Nat → Int64} {r9 : ky_RS} {p1 : Int32} {p2 : Int32} (N : Nat) (hG : ky_OK G) (I : lw_I G s c f h) (hx : lw_X G s) (e : x11_run N s (ky_B G) p1 p2 = some (s9, r9)) (hc : (∃ v : Int32, r9 = .inl (some (.int v))) ∨ r9 = .inr "java/lang/IllegalArgumentException") (h0 : ∀ (v : Int32) (h1 : ky_HP) (f1 : Nat → Int64), r9 = .inl (some (.int v)) → lw_I G s9 c f1 h1 → f1 0 = v.toInt64 → Q (.inl (some (.int 0))) h1) (h1 : ∀ h1 : ky_HP, r9 = .inr "java/lang/IllegalArgumentException" → lw_I G s9 c f h1 → Q (.inl (some (.int 1))) h1) : ky_CallH G (d + 7) M_L_run [.ref ((ky_B G)), .int p1, .int p2, .ref ((ky_B G + 37))] h Q := by
  refine ky_ofVH (by decide +kernel) ok_L_run (Nat.le_of_ble_eq_true rfl) ?_
  refine (?_ : ky_V _ _ _ 0 [(0, .ref ((ky_B G))), (1, .int p1), (2, .int p2), (3, .ref ((ky_B G + 37)))] [] _ _)
  refine v_aload_n (i := 0) (j := 3) rfl rfl (?_ : ky_V _ _ _ 1 _ _ _ _)
  refine v_iconst (v := 0) (i := 1) rfl (by decide) (?_ : ky_V _ _ _ 2 _ _ _ _)
  refine v_aload_n (i := 2) (j := 0) rfl rfl (?_ : ky_V _ _ _ 3 _ _ _ _)
  refine v_iload_n (i := 3) (j := 1) rfl rfl (?_ : ky_V _ _ _ 4 _ _ _ _)
  refine v_iload_n (i := 4) (j := 2) rfl rfl (?_ : ky_V _ _ _ 5 _ _ _ _)
  refine v_callVC (As := [.int p1, .int p2]) (S := [.int 0, .ref (ky_B G + 37)]) cv_X11_run sv_X11_run (ky_t6 (i := 95) rfl rfl) (ci := 10) rfl (i := 5) rfl (oc_X11 I.1 hx) rfl rfl (Nat.le_of_ble_eq_true rfl) (k_X11_run N hG I.1 e (fun h1 hm1 fr1 => ?_))
  have I1 := I.cls hm1 fr1
  rcases hc with ⟨v, rfl⟩ | rfl
  · refine Or.inl ⟨some (.int v), rfl, (?_ : ky_V _ _ _ 8 _ [.int v, .int 0, .ref (ky_B G + 37)] _ _)⟩
    refine v_i2l (i := 6) rfl rfl (?_ : ky_V _ _ _ 9 _ _ _ _)
    refine v_last (i := 7) rfl I1.2.2.1 (ky_inl (by decide)) (?_ : ky_V _ _ _ 10 _ _ _ _)
    refine v_goto (tgt := 17) (i := 8) rfl (by decide) (?_ : ky_V _ _ _ 17 _ _ _ _)
    refine v_iconst (v := 0) (i := 12) rfl (by decide) (?_ : ky_V _ _ _ 18 _ _ _ _)
    refine v_iret (v := 0) (ty := .int) (i := 13) rfl rfl rfl ?_
    exact h0 v _ _ rfl (I1.out _) rfl
  · refine Or.inr ⟨_, 13, .inl (some (.int 1)), rfl, hd_L_run_1 hG, fun q => ?_, h1 _ rfl I1⟩
    refine v_astore (L' := [(0, .ref ((ky_B G))), (1, .int p1), (2, .int p2), (3, .ref ((ky_B G + 37))), (4, .ref q)]) [1, 2, 3, 4, 0] (i := 9) rfl (Nat.le_of_ble_eq_true rfl) rfl (?_ : ky_V _ _ _ 15 _ _ _ _)
    refine v_iconst (v := 1) (i := 10) rfl (by decide) (?_ : ky_V _ _ _ 16 _ _ _ _)
    refine v_iret (v := 1) (ty := .int) (i := 11) rfl rfl rfl ?_
    exact ⟨rfl, rfl⟩
set_option maxRecDepth 100000 in
set_option maxHeartbeats 4000000 in
theorem hd_L_better_1 {G : ky_GW} (hG : ky_OK G) : ky_hd G M_L_better 5 "java/lang/IllegalArgumentException" 20 :=
  ⟨[], ⟨0, 17, 20, 13⟩, [], "java/lang/IllegalArgumentException", rfl, (fun z hz => absurd hz List.not_mem_nil), by decide, by decide, ky_t3 (i := 173) rfl rfl, ky_m4 (i := 60) rfl, rfl⟩
set_option maxRecDepth 20000 in
set_option maxHeartbeats 4000000 in
theorem k_L_better {G : ky_GW} {d : Nat} {h : ky_HP} {Q : ky_RS → ky_HP → Prop} {s s9 : sk_S} {c : Nat → Nat → Int32} {f : Nat → Int64} {r9 : ky_RS} {p1 : Int32} {p2 : Int32} (N : Nat) (hG : ky_OK G) (I : lw_I G s c f h) (hx : lw_X G s) (e : x11_better N s (ky_B G) p1 p2 = some (s9, r9)) (hc : (∃ v : Int32, r9 = .inl (some (.int v))) ∨ r9 = .inr "java/lang/IllegalArgumentException") (h0 : ∀ (v : Int32) (h1 : ky_HP) (f1 : Nat → Int64), r9 = .inl (some (.int v)) → lw_I G s9 c f1 h1 → f1 0 = (if v = 0 then 0 else 1) → Q (.inl (some (.int 0))) h1) (h1 : ∀ h1 : ky_HP, r9 = .inr "java/lang/IllegalArgumentException" → lw_I G s9 c f h1 → Q (.inl (some (.int 1))) h1) : ky_CallH G (d + 8) M_L_better [.ref ((ky_B G)), .int p1, .int p2, .ref ((ky_B G + 37))] h Q := by
  refine ky_ofVH (by decide +kernel) ok_L_better (Nat.le_of_ble_eq_true rfl) ?_
  refine (?_ : ky_V _ _ _ 0 [(0, .ref ((ky_B G))), (1, .int p1), (2, .int p2), (3, .ref ((ky_B G + 37)))] [] _ _)
  refine v_aload_n (i := 0) (j := 3) rfl rfl (?_ : ky_V _ _ _ 1 _ _ _ _)
  refine v_iconst (v := 0) (i := 1) rfl (by decide) (?_ : ky_V _ _ _ 2 _ _ _ _)
  refine v_aload_n (i := 2) (j := 0) rfl rfl (?_ : ky_V _ _ _ 3 _ _ _ _)
  refine v_iload_n (i := 3) (j := 1) rfl rfl (?_ : ky_V _ _ _ 4 _ _ _ _)
  refine v_iload_n (i := 4) (j := 2) rfl rfl (?_ : ky_V _ _ _ 5 _ _ _ _)
  refine v_callVC (As := [.int p1, .int p2]) (S := [.int 0, .ref (ky_B G + 37)]) cv_X11_better sv_X11_better (ky_t6 (i := 115) rfl rfl) (ci := 10) rfl (i := 5) rfl (oc_X11 I.1 hx) rfl rfl (Nat.le_of_ble_eq_true rfl) (k_X11_better N hG I.1 e (fun h1 hm1 fr1 => ?_))
  have I1 := I.cls hm1 fr1
  rcases hc with ⟨v, rfl⟩ | rfl
  · refine Or.inl ⟨some (.int v), rfl, (?_ : ky_V _ _ _ 8 _ [.int v, .int 0, .ref (ky_B G + 37)] _ _)⟩
    refine v_if_eq (tgt := 15) (i := 6) rfl (by decide) (fun c1 => ?_) (fun c1 => ?_)
    · refine v_lconst (v := 0) (i := 9) rfl (by decide) (?_ : ky_V _ _ _ 16 _ _ _ _)
      refine v_last (i := 10) rfl I1.2.2.1 (ky_inl (by decide)) (?_ : ky_V _ _ _ 17 _ _ _ _)
      refine v_goto (tgt := 24) (i := 11) rfl (by decide) (?_ : ky_V _ _ _ 24 _ _ _ _)
      refine v_iconst (v := 0) (i := 15) rfl (by decide) (?_ : ky_V _ _ _ 25 _ _ _ _)
      refine v_iret (v := 0) (ty := .int) (i := 16) rfl rfl rfl ?_
      exact h0 v _ _ rfl (I1.out _) (by rw [if_pos c1]; rfl)
    · refine v_lconst (v := 1) (i := 7) rfl (by decide) (?_ : ky_V _ _ _ 12 _ _ _ _)
      refine v_goto (tgt := 16) (i := 8) rfl (by decide) (?_ : ky_V _ _ _ 16 _ _ _ _)
      refine v_last (i := 10) rfl I1.2.2.1 (ky_inl (by decide)) (?_ : ky_V _ _ _ 17 _ _ _ _)
      refine v_goto (tgt := 24) (i := 11) rfl (by decide) (?_ : ky_V _ _ _ 24 _ _ _ _)
      refine v_iconst (v := 0) (i := 15) rfl (by decide) (?_ : ky_V _ _ _ 25 _ _ _ _)
      refine v_iret (v := 0) (ty := .int) (i := 16) rfl rfl rfl ?_
      exact h0 v _ _ rfl (I1.out _) (by rw [if_neg c1]; rfl)
  · refine Or.inr ⟨_, 20, .inl (some (.int 1)), rfl, hd_L_better_1 hG, fun q => ?_, h1 _ rfl I1⟩
    refine v_astore (L' := [(0, .ref ((ky_B G))), (1, .int p1), (2, .int p2), (3, .ref ((ky_B G + 37))), (4, .ref q)]) [1, 2, 3, 4, 0] (i := 12) rfl (Nat.le_of_ble_eq_true rfl) rfl (?_ : ky_V _ _ _ 22 _ _ _ _)
    refine v_iconst (v := 1) (i := 13) rfl (by decide) (?_ : ky_V _ _ _ 23 _ _ _ _)
    refine v_iret (v := 1) (ty := .int) (i := 14) rfl rfl rfl ?_
    exact ⟨rfl, rfl⟩
set_option maxRecDepth 100000 in
set_option maxHeartbeats 4000000 in
theorem hd_L_force_1 {G : ky_GW} (hG : ky_OK G) : ky_hd G M_L_force 5 "java/lang/IllegalArgumentException" 13 :=
  ⟨[], ⟨0, 10, 13, 13⟩, [], "java/lang/IllegalArgumentException", rfl, (fun z hz => absurd hz List.not_mem_nil), by decide, by decide, ky_t3 (i := 173) rfl rfl, ky_m4 (i := 60) rfl, rfl⟩
set_option maxRecDepth 20000 in
set_option maxHeartbeats 4000000 in
theorem k_L_force {G : ky_GW} {d : Nat} {h : ky_HP} {Q : ky_RS → ky_HP → Prop} {s s9 : sk_S} {c : Nat → Nat → Int32} {f : Nat → Int64} {r9 : ky_RS} {p1 : Int32} {p2 : Int32} (N : Nat) (hG : ky_OK G) (I : lw_I G s c f h) (hx : lw_X G s) (e : x11_force N s (ky_B G) p1 p2 = some (s9, r9)) (hc : (∃ v : Int32, r9 = .inl (some (.int v))) ∨ r9 = .inr "java/lang/IllegalArgumentException") (h0 : ∀ (v : Int32) (h1 : ky_HP) (f1 : Nat → Int64), r9 = .inl (some (.int v)) → lw_I G s9 c f1 h1 → f1 0 = v.toInt64 → Q (.inl (some (.int 0))) h1) (h1 : ∀ h1 : ky_HP, r9 = .inr "java/lang/IllegalArgumentException" → lw_I G s9 c f h1 → Q (.inl (some (.int 1))) h1) : ky_CallH G (d + 7) M_L_force [.ref ((ky_B G)), .int p1, .int p2, .ref ((ky_B G + 37))] h Q := by
  refine ky_ofVH (by decide +kernel) ok_L_force (Nat.le_of_ble_eq_true rfl) ?_
  refine (?_ : ky_V _ _ _ 0 [(0, .ref ((ky_B G))), (1, .int p1), (2, .int p2), (3, .ref ((ky_B G + 37)))] [] _ _)
  refine v_aload_n (i := 0) (j := 3) rfl rfl (?_ : ky_V _ _ _ 1 _ _ _ _)
  refine v_iconst (v := 0) (i := 1) rfl (by decide) (?_ : ky_V _ _ _ 2 _ _ _ _)
  refine v_aload_n (i := 2) (j := 0) rfl rfl (?_ : ky_V _ _ _ 3 _ _ _ _)
  refine v_iload_n (i := 3) (j := 1) rfl rfl (?_ : ky_V _ _ _ 4 _ _ _ _)
  refine v_iload_n (i := 4) (j := 2) rfl rfl (?_ : ky_V _ _ _ 5 _ _ _ _)
  refine v_callVC (As := [.int p1, .int p2]) (S := [.int 0, .ref (ky_B G + 37)]) cv_X11_force sv_X11_force (ky_t6 (i := 122) rfl rfl) (ci := 10) rfl (i := 5) rfl (oc_X11 I.1 hx) rfl rfl (Nat.le_of_ble_eq_true rfl) (k_X11_force N hG I.1 e (fun h1 hm1 fr1 => ?_))
  have I1 := I.cls hm1 fr1
  rcases hc with ⟨v, rfl⟩ | rfl
  · refine Or.inl ⟨some (.int v), rfl, (?_ : ky_V _ _ _ 8 _ [.int v, .int 0, .ref (ky_B G + 37)] _ _)⟩
    refine v_i2l (i := 6) rfl rfl (?_ : ky_V _ _ _ 9 _ _ _ _)
    refine v_last (i := 7) rfl I1.2.2.1 (ky_inl (by decide)) (?_ : ky_V _ _ _ 10 _ _ _ _)
    refine v_goto (tgt := 17) (i := 8) rfl (by decide) (?_ : ky_V _ _ _ 17 _ _ _ _)
    refine v_iconst (v := 0) (i := 12) rfl (by decide) (?_ : ky_V _ _ _ 18 _ _ _ _)
    refine v_iret (v := 0) (ty := .int) (i := 13) rfl rfl rfl ?_
    exact h0 v _ _ rfl (I1.out _) rfl
  · refine Or.inr ⟨_, 13, .inl (some (.int 1)), rfl, hd_L_force_1 hG, fun q => ?_, h1 _ rfl I1⟩
    refine v_astore (L' := [(0, .ref ((ky_B G))), (1, .int p1), (2, .int p2), (3, .ref ((ky_B G + 37))), (4, .ref q)]) [1, 2, 3, 4, 0] (i := 9) rfl (Nat.le_of_ble_eq_true rfl) rfl (?_ : ky_V _ _ _ 15 _ _ _ _)
    refine v_iconst (v := 1) (i := 10) rfl (by decide) (?_ : ky_V _ _ _ 16 _ _ _ _)
    refine v_iret (v := 1) (ty := .int) (i := 11) rfl rfl rfl ?_
    exact ⟨rfl, rfl⟩
set_option maxRecDepth 100000 in
set_option maxHeartbeats 4000000 in
theorem hd_L_way_1 {G : ky_GW} (hG : ky_OK G) : ky_hd G M_L_way 7 "java/lang/IndexOutOfBoundsException" 15 :=
  ⟨[], ⟨0, 12, 15, 24⟩, [], "java/lang/IndexOutOfBoundsException", rfl, (fun z hz => absurd hz List.not_mem_nil), by decide, by decide, ky_t5 (i := 46) rfl rfl, ky_m5 (i := 57) rfl, rfl⟩
set_option maxRecDepth 20000 in
set_option maxHeartbeats 4000000 in
theorem k_L_way {G : ky_GW} {d : Nat} {h : ky_HP} {Q : ky_RS → ky_HP → Prop} {s s9 : sk_S} {c : Nat → Nat → Int32} {f : Nat → Int64} {r9 : ky_RS} {p1 : Int32} {p2 : Int32} {p3 : Int32} (N : Nat) (hG : ky_OK G) (I : lw_I G s c f h) (hx : lw_X G s) (e : x11_way N s (ky_B G) p1 p2 p3 = some (s9, r9)) (hc : (∃ v : Int32, r9 = .inl (some (.int v))) ∨ r9 = .inr "java/lang/IndexOutOfBoundsException") (h0 : ∀ (v : Int32) (h1 : ky_HP) (f1 : Nat → Int64), r9 = .inl (some (.int v)) → lw_I G s9 c f1 h1 → f1 0 = v.toInt64 → Q (.inl (some (.int 0))) h1) (h1 : ∀ h1 : ky_HP, r9 = .inr "java/lang/IndexOutOfBoundsException" → lw_I G s9 c f h1 → Q (.inl (some (.int 1))) h1) : ky_CallH G (d + 7) M_L_way [.ref ((ky_B G)), .int p1, .int p2, .int p3, .ref ((ky_B G + 37))] h Q := by
  refine ky_ofVH (by decide +kernel) ok_L_way (Nat.le_of_ble_eq_true rfl) ?_
  refine (?_ : ky_V _ _ _ 0 [(0, .ref ((ky_B G))), (1, .int p1), (2, .int p2), (3, .int p3), (4, .ref ((ky_B G + 37)))] [] _ _)
  refine v_aload (i := 0) (j := 4) rfl rfl (?_ : ky_V _ _ _ 2 _ _ _ _)
  refine v_iconst (v := 0) (i := 1) rfl (by decide) (?_ : ky_V _ _ _ 3 _ _ _ _)
  refine v_aload_n (i := 2) (j := 0) rfl rfl (?_ : ky_V _ _ _ 4 _ _ _ _)
  refine v_iload_n (i := 3) (j := 1) rfl rfl (?_ : ky_V _ _ _ 5 _ _ _ _)
  refine v_iload_n (i := 4) (j := 2) rfl rfl (?_ : ky_V _ _ _ 6 _ _ _ _)
  refine v_iload_n (i := 5) (j := 3) rfl rfl (?_ : ky_V _ _ _ 7 _ _ _ _)
  refine v_callVC (As := [.int p1, .int p2, .int p3]) (S := [.int 0, .ref (ky_B G + 37)]) cv_X11_way sv_X11_way (ky_t6 (i := 131) rfl rfl) (ci := 10) rfl (i := 6) rfl (oc_X11 I.1 hx) rfl rfl (Nat.le_of_ble_eq_true rfl) (k_X11_way N hG I.1 e (fun h1 hm1 fr1 => ?_))
  have I1 := I.cls hm1 fr1
  rcases hc with ⟨v, rfl⟩ | rfl
  · refine Or.inl ⟨some (.int v), rfl, (?_ : ky_V _ _ _ 10 _ [.int v, .int 0, .ref (ky_B G + 37)] _ _)⟩
    refine v_i2l (i := 7) rfl rfl (?_ : ky_V _ _ _ 11 _ _ _ _)
    refine v_last (i := 8) rfl I1.2.2.1 (ky_inl (by decide)) (?_ : ky_V _ _ _ 12 _ _ _ _)
    refine v_goto (tgt := 19) (i := 9) rfl (by decide) (?_ : ky_V _ _ _ 19 _ _ _ _)
    refine v_iconst (v := 0) (i := 13) rfl (by decide) (?_ : ky_V _ _ _ 20 _ _ _ _)
    refine v_iret (v := 0) (ty := .int) (i := 14) rfl rfl rfl ?_
    exact h0 v _ _ rfl (I1.out _) rfl
  · refine Or.inr ⟨_, 15, .inl (some (.int 1)), rfl, hd_L_way_1 hG, fun q => ?_, h1 _ rfl I1⟩
    refine v_astore (L' := [(0, .ref ((ky_B G))), (1, .int p1), (2, .int p2), (3, .int p3), (4, .ref ((ky_B G + 37))), (5, .ref q)]) [1, 2, 3, 4, 5, 0] (i := 10) rfl (Nat.le_of_ble_eq_true rfl) rfl (?_ : ky_V _ _ _ 17 _ _ _ _)
    refine v_iconst (v := 1) (i := 11) rfl (by decide) (?_ : ky_V _ _ _ 18 _ _ _ _)
    refine v_iret (v := 1) (ty := .int) (i := 12) rfl rfl rfl ?_
    exact ⟨rfl, rfl⟩
set_option maxRecDepth 100000 in
set_option maxHeartbeats 4000000 in
theorem hd_L_reach_1 {G : ky_GW} (hG : ky_OK G) : ky_hd G M_L_reach 5 "java/lang/IndexOutOfBoundsException" 12 :=
  ⟨[], ⟨0, 9, 12, 24⟩, [], "java/lang/IndexOutOfBoundsException", rfl, (fun z hz => absurd hz List.not_mem_nil), by decide, by decide, ky_t5 (i := 46) rfl rfl, ky_m5 (i := 57) rfl, rfl⟩
set_option maxRecDepth 20000 in
set_option maxHeartbeats 4000000 in
theorem k_L_reach {G : ky_GW} {d : Nat} {h : ky_HP} {Q : ky_RS → ky_HP → Prop} {s s9 : sk_S} {c : Nat → Nat → Int32} {f : Nat → Int64} {r9 : ky_RS} {p1 : Int32} {p2 : Int32} (N : Nat) (hG : ky_OK G) (I : lw_I G s c f h) (hx : lw_X G s) (e : x11_reach N s (ky_B G) p1 p2 = some (s9, r9)) (hc : (∃ v : Int64, r9 = .inl (some (.long v))) ∨ r9 = .inr "java/lang/IndexOutOfBoundsException") (h0 : ∀ (v : Int64) (h1 : ky_HP) (f1 : Nat → Int64), r9 = .inl (some (.long v)) → lw_I G s9 c f1 h1 → f1 0 = v → Q (.inl (some (.int 0))) h1) (h1 : ∀ h1 : ky_HP, r9 = .inr "java/lang/IndexOutOfBoundsException" → lw_I G s9 c f h1 → Q (.inl (some (.int 1))) h1) : ky_CallH G (d + 7) M_L_reach [.ref ((ky_B G)), .int p1, .int p2, .ref ((ky_B G + 37))] h Q := by
  refine ky_ofVH (by decide +kernel) ok_L_reach (Nat.le_of_ble_eq_true rfl) ?_
  refine (?_ : ky_V _ _ _ 0 [(0, .ref ((ky_B G))), (1, .int p1), (2, .int p2), (3, .ref ((ky_B G + 37)))] [] _ _)
  refine v_aload_n (i := 0) (j := 3) rfl rfl (?_ : ky_V _ _ _ 1 _ _ _ _)
  refine v_iconst (v := 0) (i := 1) rfl (by decide) (?_ : ky_V _ _ _ 2 _ _ _ _)
  refine v_aload_n (i := 2) (j := 0) rfl rfl (?_ : ky_V _ _ _ 3 _ _ _ _)
  refine v_iload_n (i := 3) (j := 1) rfl rfl (?_ : ky_V _ _ _ 4 _ _ _ _)
  refine v_iload_n (i := 4) (j := 2) rfl rfl (?_ : ky_V _ _ _ 5 _ _ _ _)
  refine v_callVC (As := [.int p1, .int p2]) (S := [.int 0, .ref (ky_B G + 37)]) cv_X11_reach sv_X11_reach (ky_t6 (i := 142) rfl rfl) (ci := 10) rfl (i := 5) rfl (oc_X11 I.1 hx) rfl rfl (Nat.le_of_ble_eq_true rfl) (k_X11_reach N hG I.1 e (fun h1 hm1 fr1 => ?_))
  have I1 := I.cls hm1 fr1
  rcases hc with ⟨v, rfl⟩ | rfl
  · refine Or.inl ⟨some (.long v), rfl, (?_ : ky_V _ _ _ 8 _ [.long v, .int 0, .ref (ky_B G + 37)] _ _)⟩
    refine v_last (i := 6) rfl I1.2.2.1 (ky_inl (by decide)) (?_ : ky_V _ _ _ 9 _ _ _ _)
    refine v_goto (tgt := 16) (i := 7) rfl (by decide) (?_ : ky_V _ _ _ 16 _ _ _ _)
    refine v_iconst (v := 0) (i := 11) rfl (by decide) (?_ : ky_V _ _ _ 17 _ _ _ _)
    refine v_iret (v := 0) (ty := .int) (i := 12) rfl rfl rfl ?_
    exact h0 v _ _ rfl (I1.out _) rfl
  · refine Or.inr ⟨_, 12, .inl (some (.int 1)), rfl, hd_L_reach_1 hG, fun q => ?_, h1 _ rfl I1⟩
    refine v_astore (L' := [(0, .ref ((ky_B G))), (1, .int p1), (2, .int p2), (3, .ref ((ky_B G + 37))), (4, .ref q)]) [1, 2, 3, 4, 0] (i := 8) rfl (Nat.le_of_ble_eq_true rfl) rfl (?_ : ky_V _ _ _ 14 _ _ _ _)
    refine v_iconst (v := 1) (i := 9) rfl (by decide) (?_ : ky_V _ _ _ 15 _ _ _ _)
    refine v_iret (v := 1) (ty := .int) (i := 10) rfl rfl rfl ?_
    exact ⟨rfl, rfl⟩
set_option maxRecDepth 100000 in
set_option maxHeartbeats 4000000 in
theorem hd_L_edge_1 {G : ky_GW} (hG : ky_OK G) : ky_hd G M_L_edge 5 "java/lang/IllegalArgumentException" 13 :=
  ⟨[], ⟨0, 10, 13, 13⟩, [], "java/lang/IllegalArgumentException", rfl, (fun z hz => absurd hz List.not_mem_nil), by decide, by decide, ky_t3 (i := 173) rfl rfl, ky_m4 (i := 60) rfl, rfl⟩
set_option maxRecDepth 20000 in
set_option maxHeartbeats 4000000 in
theorem k_L_edge {G : ky_GW} {d : Nat} {h : ky_HP} {Q : ky_RS → ky_HP → Prop} {s s9 : sk_S} {c : Nat → Nat → Int32} {f : Nat → Int64} {r9 : ky_RS} {p1 : Int32} {p2 : Int32} (N : Nat) (hG : ky_OK G) (I : lw_I G s c f h) (hx : lw_X G s) (e : x11_edge N s (ky_B G) p1 p2 = some (s9, r9)) (hc : (∃ v : Int32, r9 = .inl (some (.int v))) ∨ r9 = .inr "java/lang/IllegalArgumentException") (h0 : ∀ (v : Int32) (h1 : ky_HP) (f1 : Nat → Int64), r9 = .inl (some (.int v)) → lw_I G s9 c f1 h1 → f1 0 = v.toInt64 → Q (.inl (some (.int 0))) h1) (h1 : ∀ h1 : ky_HP, r9 = .inr "java/lang/IllegalArgumentException" → lw_I G s9 c f h1 → Q (.inl (some (.int 1))) h1) : ky_CallH G (d + 7) M_L_edge [.ref ((ky_B G)), .int p1, .int p2, .ref ((ky_B G + 37))] h Q := by
  refine ky_ofVH (by decide +kernel) ok_L_edge (Nat.le_of_ble_eq_true rfl) ?_
  refine (?_ : ky_V _ _ _ 0 [(0, .ref ((ky_B G))), (1, .int p1), (2, .int p2), (3, .ref ((ky_B G + 37)))] [] _ _)
  refine v_aload_n (i := 0) (j := 3) rfl rfl (?_ : ky_V _ _ _ 1 _ _ _ _)
  refine v_iconst (v := 0) (i := 1) rfl (by decide) (?_ : ky_V _ _ _ 2 _ _ _ _)
  refine v_aload_n (i := 2) (j := 0) rfl rfl (?_ : ky_V _ _ _ 3 _ _ _ _)
  refine v_iload_n (i := 3) (j := 1) rfl rfl (?_ : ky_V _ _ _ 4 _ _ _ _)
  refine v_iload_n (i := 4) (j := 2) rfl rfl (?_ : ky_V _ _ _ 5 _ _ _ _)
  refine v_callVC (As := [.int p1, .int p2]) (S := [.int 0, .ref (ky_B G + 37)]) cv_X11_edge sv_X11_edge (ky_t6 (i := 150) rfl rfl) (ci := 10) rfl (i := 5) rfl (oc_X11 I.1 hx) rfl rfl (Nat.le_of_ble_eq_true rfl) (k_X11_edge N hG I.1 e (fun h1 hm1 fr1 => ?_))
  have I1 := I.cls hm1 fr1
  rcases hc with ⟨v, rfl⟩ | rfl
  · refine Or.inl ⟨some (.int v), rfl, (?_ : ky_V _ _ _ 8 _ [.int v, .int 0, .ref (ky_B G + 37)] _ _)⟩
    refine v_i2l (i := 6) rfl rfl (?_ : ky_V _ _ _ 9 _ _ _ _)
    refine v_last (i := 7) rfl I1.2.2.1 (ky_inl (by decide)) (?_ : ky_V _ _ _ 10 _ _ _ _)
    refine v_goto (tgt := 17) (i := 8) rfl (by decide) (?_ : ky_V _ _ _ 17 _ _ _ _)
    refine v_iconst (v := 0) (i := 12) rfl (by decide) (?_ : ky_V _ _ _ 18 _ _ _ _)
    refine v_iret (v := 0) (ty := .int) (i := 13) rfl rfl rfl ?_
    exact h0 v _ _ rfl (I1.out _) rfl
  · refine Or.inr ⟨_, 13, .inl (some (.int 1)), rfl, hd_L_edge_1 hG, fun q => ?_, h1 _ rfl I1⟩
    refine v_astore (L' := [(0, .ref ((ky_B G))), (1, .int p1), (2, .int p2), (3, .ref ((ky_B G + 37))), (4, .ref q)]) [1, 2, 3, 4, 0] (i := 9) rfl (Nat.le_of_ble_eq_true rfl) rfl (?_ : ky_V _ _ _ 15 _ _ _ _)
    refine v_iconst (v := 1) (i := 10) rfl (by decide) (?_ : ky_V _ _ _ 16 _ _ _ _)
    refine v_iret (v := 1) (ty := .int) (i := 11) rfl rfl rfl ?_
    exact ⟨rfl, rfl⟩
set_option maxRecDepth 100000 in
set_option maxHeartbeats 4000000 in
theorem hd_L_signs_1 {G : ky_GW} (hG : ky_OK G) : ky_hd G M_L_signs 5 "java/lang/IllegalArgumentException" 13 :=
  ⟨[], ⟨0, 10, 13, 13⟩, [], "java/lang/IllegalArgumentException", rfl, (fun z hz => absurd hz List.not_mem_nil), by decide, by decide, ky_t3 (i := 173) rfl rfl, ky_m4 (i := 60) rfl, rfl⟩
set_option maxRecDepth 20000 in
set_option maxHeartbeats 4000000 in
theorem k_L_signs {G : ky_GW} {d : Nat} {h : ky_HP} {Q : ky_RS → ky_HP → Prop} {s s9 : sk_S} {c : Nat → Nat → Int32} {f : Nat → Int64} {r9 : ky_RS} {p1 : Int32} {p2 : Int32} (N : Nat) (hG : ky_OK G) (I : lw_I G s c f h) (hx : lw_X G s) (e : x11_signs N s (ky_B G) p1 p2 = some (s9, r9)) (hc : (∃ v : Int32, r9 = .inl (some (.int v))) ∨ r9 = .inr "java/lang/IllegalArgumentException") (h0 : ∀ (v : Int32) (h1 : ky_HP) (f1 : Nat → Int64), r9 = .inl (some (.int v)) → lw_I G s9 c f1 h1 → f1 0 = v.toInt64 → Q (.inl (some (.int 0))) h1) (h1 : ∀ h1 : ky_HP, r9 = .inr "java/lang/IllegalArgumentException" → lw_I G s9 c f h1 → Q (.inl (some (.int 1))) h1) : ky_CallH G (d + 7) M_L_signs [.ref ((ky_B G)), .int p1, .int p2, .ref ((ky_B G + 37))] h Q := by
  refine ky_ofVH (by decide +kernel) ok_L_signs (Nat.le_of_ble_eq_true rfl) ?_
  refine (?_ : ky_V _ _ _ 0 [(0, .ref ((ky_B G))), (1, .int p1), (2, .int p2), (3, .ref ((ky_B G + 37)))] [] _ _)
  refine v_aload_n (i := 0) (j := 3) rfl rfl (?_ : ky_V _ _ _ 1 _ _ _ _)
  refine v_iconst (v := 0) (i := 1) rfl (by decide) (?_ : ky_V _ _ _ 2 _ _ _ _)
  refine v_aload_n (i := 2) (j := 0) rfl rfl (?_ : ky_V _ _ _ 3 _ _ _ _)
  refine v_iload_n (i := 3) (j := 1) rfl rfl (?_ : ky_V _ _ _ 4 _ _ _ _)
  refine v_iload_n (i := 4) (j := 2) rfl rfl (?_ : ky_V _ _ _ 5 _ _ _ _)
  refine v_callVC (As := [.int p1, .int p2]) (S := [.int 0, .ref (ky_B G + 37)]) cv_X11_signs sv_X11_signs (ky_t6 (i := 166) rfl rfl) (ci := 10) rfl (i := 5) rfl (oc_X11 I.1 hx) rfl rfl (Nat.le_of_ble_eq_true rfl) (k_X11_signs N hG I.1 e (fun h1 hm1 fr1 => ?_))
  have I1 := I.cls hm1 fr1
  rcases hc with ⟨v, rfl⟩ | rfl
  · refine Or.inl ⟨some (.int v), rfl, (?_ : ky_V _ _ _ 8 _ [.int v, .int 0, .ref (ky_B G + 37)] _ _)⟩
    refine v_i2l (i := 6) rfl rfl (?_ : ky_V _ _ _ 9 _ _ _ _)
    refine v_last (i := 7) rfl I1.2.2.1 (ky_inl (by decide)) (?_ : ky_V _ _ _ 10 _ _ _ _)
    refine v_goto (tgt := 17) (i := 8) rfl (by decide) (?_ : ky_V _ _ _ 17 _ _ _ _)
    refine v_iconst (v := 0) (i := 12) rfl (by decide) (?_ : ky_V _ _ _ 18 _ _ _ _)
    refine v_iret (v := 0) (ty := .int) (i := 13) rfl rfl rfl ?_
    exact h0 v _ _ rfl (I1.out _) rfl
  · refine Or.inr ⟨_, 13, .inl (some (.int 1)), rfl, hd_L_signs_1 hG, fun q => ?_, h1 _ rfl I1⟩
    refine v_astore (L' := [(0, .ref ((ky_B G))), (1, .int p1), (2, .int p2), (3, .ref ((ky_B G + 37))), (4, .ref q)]) [1, 2, 3, 4, 0] (i := 9) rfl (Nat.le_of_ble_eq_true rfl) rfl (?_ : ky_V _ _ _ 15 _ _ _ _)
    refine v_iconst (v := 1) (i := 10) rfl (by decide) (?_ : ky_V _ _ _ 16 _ _ _ _)
    refine v_iret (v := 1) (ty := .int) (i := 11) rfl rfl rfl ?_
    exact ⟨rfl, rfl⟩
set_option maxRecDepth 100000 in
set_option maxHeartbeats 4000000 in
theorem hd_L_holes_1 {G : ky_GW} (hG : ky_OK G) : ky_hd G M_L_holes 5 "java/lang/IndexOutOfBoundsException" 13 :=
  ⟨[], ⟨0, 10, 13, 24⟩, [⟨0, 10, 17, 13⟩], "java/lang/IndexOutOfBoundsException", rfl, (fun z hz => absurd hz List.not_mem_nil), by decide, by decide, ky_t5 (i := 46) rfl rfl, ky_m5 (i := 57) rfl, rfl⟩
set_option maxRecDepth 100000 in
set_option maxHeartbeats 4000000 in
theorem hd_L_holes_2 {G : ky_GW} (hG : ky_OK G) : ky_hd G M_L_holes 5 "java/lang/IllegalArgumentException" 17 :=
  ⟨[⟨0, 10, 13, 24⟩], ⟨0, 10, 17, 13⟩, [], "java/lang/IllegalArgumentException", rfl, (fun z hz => by
    rw [List.mem_singleton.mp hz]
    exact Or.inr ⟨by decide, "java/lang/IndexOutOfBoundsException", ky_t5 (i := 46) rfl rfl, va_Nc.of (ky_lL (ky_lL (ky_lL (ky_lR (ky_lR (ky_lR (ky_lL (ky_lL (ky_lL (ky_lL (ky_lR hG.2.2.2)))))))))))⟩), by decide, by decide, ky_t3 (i := 173) rfl rfl, ky_m4 (i := 60) rfl, rfl⟩
set_option maxRecDepth 20000 in
set_option maxHeartbeats 4000000 in
theorem k_L_holes {G : ky_GW} {d : Nat} {h : ky_HP} {Q : ky_RS → ky_HP → Prop} {s s9 : sk_S} {c : Nat → Nat → Int32} {f : Nat → Int64} {r9 : ky_RS} {p1 : Int32} {p2 : Int32} (N : Nat) (hG : ky_OK G) (I : lw_I G s c f h) (hx : lw_X G s) (e : x11_holes N s (ky_B G) p1 p2 = some (s9, r9)) (hc : (∃ v : Int32, r9 = .inl (some (.int v))) ∨ r9 = .inr "java/lang/IndexOutOfBoundsException" ∨ r9 = .inr "java/lang/IllegalArgumentException") (h0 : ∀ (v : Int32) (h1 : ky_HP) (f1 : Nat → Int64), r9 = .inl (some (.int v)) → lw_I G s9 c f1 h1 → f1 0 = v.toInt64 → Q (.inl (some (.int 0))) h1) (h1 : ∀ h1 : ky_HP, r9 = .inr "java/lang/IndexOutOfBoundsException" → lw_I G s9 c f h1 → Q (.inl (some (.int 1))) h1) (h2 : ∀ h1 : ky_HP, r9 = .inr "java/lang/IllegalArgumentException" → lw_I G s9 c f h1 → Q (.inl (some (.int 2))) h1) : ky_CallH G (d + 7) M_L_holes [.ref ((ky_B G)), .int p1, .int p2, .ref ((ky_B G + 37))] h Q := by
  refine ky_ofVH (by decide +kernel) ok_L_holes (Nat.le_of_ble_eq_true rfl) ?_
  refine (?_ : ky_V _ _ _ 0 [(0, .ref ((ky_B G))), (1, .int p1), (2, .int p2), (3, .ref ((ky_B G + 37)))] [] _ _)
  refine v_aload_n (i := 0) (j := 3) rfl rfl (?_ : ky_V _ _ _ 1 _ _ _ _)
  refine v_iconst (v := 0) (i := 1) rfl (by decide) (?_ : ky_V _ _ _ 2 _ _ _ _)
  refine v_aload_n (i := 2) (j := 0) rfl rfl (?_ : ky_V _ _ _ 3 _ _ _ _)
  refine v_iload_n (i := 3) (j := 1) rfl rfl (?_ : ky_V _ _ _ 4 _ _ _ _)
  refine v_iload_n (i := 4) (j := 2) rfl rfl (?_ : ky_V _ _ _ 5 _ _ _ _)
  refine v_callVC (As := [.int p1, .int p2]) (S := [.int 0, .ref (ky_B G + 37)]) cv_X11_holes sv_X11_holes (ky_t6 (i := 185) rfl rfl) (ci := 10) rfl (i := 5) rfl (oc_X11 I.1 hx) rfl rfl (Nat.le_of_ble_eq_true rfl) (k_X11_holes N hG I.1 e (fun h1 hm1 fr1 => ?_))
  have I1 := I.cls hm1 fr1
  rcases hc with ⟨v, rfl⟩ | rfl | rfl
  · refine Or.inl ⟨some (.int v), rfl, (?_ : ky_V _ _ _ 8 _ [.int v, .int 0, .ref (ky_B G + 37)] _ _)⟩
    refine v_i2l (i := 6) rfl rfl (?_ : ky_V _ _ _ 9 _ _ _ _)
    refine v_last (i := 7) rfl I1.2.2.1 (ky_inl (by decide)) (?_ : ky_V _ _ _ 10 _ _ _ _)
    refine v_goto (tgt := 21) (i := 8) rfl (by decide) (?_ : ky_V _ _ _ 21 _ _ _ _)
    refine v_iconst (v := 0) (i := 15) rfl (by decide) (?_ : ky_V _ _ _ 22 _ _ _ _)
    refine v_iret (v := 0) (ty := .int) (i := 16) rfl rfl rfl ?_
    exact h0 v _ _ rfl (I1.out _) rfl
  · refine Or.inr ⟨_, 13, .inl (some (.int 1)), rfl, hd_L_holes_1 hG, fun q => ?_, h1 _ rfl I1⟩
    refine v_astore (L' := [(0, .ref ((ky_B G))), (1, .int p1), (2, .int p2), (3, .ref ((ky_B G + 37))), (4, .ref q)]) [1, 2, 3, 4, 0] (i := 9) rfl (Nat.le_of_ble_eq_true rfl) rfl (?_ : ky_V _ _ _ 15 _ _ _ _)
    refine v_iconst (v := 1) (i := 10) rfl (by decide) (?_ : ky_V _ _ _ 16 _ _ _ _)
    refine v_iret (v := 1) (ty := .int) (i := 11) rfl rfl rfl ?_
    exact ⟨rfl, rfl⟩
  · refine Or.inr ⟨_, 17, .inl (some (.int 2)), rfl, hd_L_holes_2 hG, fun q => ?_, h2 _ rfl I1⟩
    refine v_astore (L' := [(0, .ref ((ky_B G))), (1, .int p1), (2, .int p2), (3, .ref ((ky_B G + 37))), (4, .ref q)]) [1, 2, 3, 4, 0] (i := 12) rfl (Nat.le_of_ble_eq_true rfl) rfl (?_ : ky_V _ _ _ 19 _ _ _ _)
    refine v_iconst (v := 2) (i := 13) rfl (by decide) (?_ : ky_V _ _ _ 20 _ _ _ _)
    refine v_iret (v := 2) (ty := .int) (i := 14) rfl rfl rfl ?_
    exact ⟨rfl, rfl⟩
set_option maxRecDepth 100000 in
set_option maxHeartbeats 4000000 in
theorem hd_L_rope_1 {G : ky_GW} (hG : ky_OK G) : ky_hd G M_L_rope 4 "java/lang/IllegalArgumentException" 11 :=
  ⟨[], ⟨0, 8, 11, 13⟩, [], "java/lang/IllegalArgumentException", rfl, (fun z hz => absurd hz List.not_mem_nil), by decide, by decide, ky_t3 (i := 173) rfl rfl, ky_m4 (i := 60) rfl, rfl⟩
set_option maxRecDepth 20000 in
set_option maxHeartbeats 4000000 in
theorem k_L_rope {G : ky_GW} {d : Nat} {h : ky_HP} {Q : ky_RS → ky_HP → Prop} {s s9 : sk_S} {c : Nat → Nat → Int32} {f : Nat → Int64} {r9 : ky_RS} {p1 : Int32} (N : Nat) (hG : ky_OK G) (I : lw_I G s c f h) (hx : lw_X G s) (e : x11_rope N s (ky_B G) p1 = some (s9, r9)) (hc : (∃ v : Int64, r9 = .inl (some (.long v))) ∨ r9 = .inr "java/lang/IllegalArgumentException") (h0 : ∀ (v : Int64) (h1 : ky_HP) (f1 : Nat → Int64), r9 = .inl (some (.long v)) → lw_I G s9 c f1 h1 → f1 0 = v → Q (.inl (some (.int 0))) h1) (h1 : ∀ h1 : ky_HP, r9 = .inr "java/lang/IllegalArgumentException" → lw_I G s9 c f h1 → Q (.inl (some (.int 1))) h1) : ky_CallH G (d + 7) M_L_rope [.ref ((ky_B G)), .int p1, .ref ((ky_B G + 37))] h Q := by
  refine ky_ofVH (by decide +kernel) ok_L_rope (Nat.le_of_ble_eq_true rfl) ?_
  refine (?_ : ky_V _ _ _ 0 [(0, .ref ((ky_B G))), (1, .int p1), (2, .ref ((ky_B G + 37)))] [] _ _)
  refine v_aload_n (i := 0) (j := 2) rfl rfl (?_ : ky_V _ _ _ 1 _ _ _ _)
  refine v_iconst (v := 0) (i := 1) rfl (by decide) (?_ : ky_V _ _ _ 2 _ _ _ _)
  refine v_aload_n (i := 2) (j := 0) rfl rfl (?_ : ky_V _ _ _ 3 _ _ _ _)
  refine v_iload_n (i := 3) (j := 1) rfl rfl (?_ : ky_V _ _ _ 4 _ _ _ _)
  refine v_callVC (As := [.int p1]) (S := [.int 0, .ref (ky_B G + 37)]) cv_X11_rope sv_X11_rope (ky_t6 (i := 197) rfl rfl) (ci := 10) rfl (i := 4) rfl (oc_X11 I.1 hx) rfl rfl (Nat.le_of_ble_eq_true rfl) (k_X11_rope N hG I.1 e (fun h1 hm1 fr1 => ?_))
  have I1 := I.cls hm1 fr1
  rcases hc with ⟨v, rfl⟩ | rfl
  · refine Or.inl ⟨some (.long v), rfl, (?_ : ky_V _ _ _ 7 _ [.long v, .int 0, .ref (ky_B G + 37)] _ _)⟩
    refine v_last (i := 5) rfl I1.2.2.1 (ky_inl (by decide)) (?_ : ky_V _ _ _ 8 _ _ _ _)
    refine v_goto (tgt := 14) (i := 6) rfl (by decide) (?_ : ky_V _ _ _ 14 _ _ _ _)
    refine v_iconst (v := 0) (i := 10) rfl (by decide) (?_ : ky_V _ _ _ 15 _ _ _ _)
    refine v_iret (v := 0) (ty := .int) (i := 11) rfl rfl rfl ?_
    exact h0 v _ _ rfl (I1.out _) rfl
  · refine Or.inr ⟨_, 11, .inl (some (.int 1)), rfl, hd_L_rope_1 hG, fun q => ?_, h1 _ rfl I1⟩
    refine v_astore_n (L' := [(0, .ref ((ky_B G))), (1, .int p1), (2, .ref ((ky_B G + 37))), (3, .ref q)]) [1, 2, 3, 0] (i := 7) rfl (Nat.le_of_ble_eq_true rfl) rfl (?_ : ky_V _ _ _ 12 _ _ _ _)
    refine v_iconst (v := 1) (i := 8) rfl (by decide) (?_ : ky_V _ _ _ 13 _ _ _ _)
    refine v_iret (v := 1) (ty := .int) (i := 9) rfl rfl rfl ?_
    exact ⟨rfl, rfl⟩
set_option maxRecDepth 100000 in
set_option maxHeartbeats 4000000 in
theorem hd_L_trial_1 {G : ky_GW} (hG : ky_OK G) : ky_hd G M_L_trial 5 "java/lang/IllegalArgumentException" 13 :=
  ⟨[], ⟨0, 10, 13, 13⟩, [], "java/lang/IllegalArgumentException", rfl, (fun z hz => absurd hz List.not_mem_nil), by decide, by decide, ky_t3 (i := 173) rfl rfl, ky_m4 (i := 60) rfl, rfl⟩
set_option maxRecDepth 20000 in
set_option maxHeartbeats 4000000 in
theorem k_L_trial {G : ky_GW} {d : Nat} {h : ky_HP} {Q : ky_RS → ky_HP → Prop} {s s9 : sk_S} {c : Nat → Nat → Int32} {f : Nat → Int64} {r9 : ky_RS} {p1 : Int32} {p2 : Int32} (N : Nat) (hG : ky_OK G) (I : lw_I G s c f h) (hx : lw_X G s) (e : x11_trial N s (ky_B G) p1 p2 = some (s9, r9)) (hc : (∃ v : Int32, r9 = .inl (some (.int v))) ∨ r9 = .inr "java/lang/IllegalArgumentException") (h0 : ∀ (v : Int32) (h1 : ky_HP) (f1 : Nat → Int64), r9 = .inl (some (.int v)) → lw_I G s9 c f1 h1 → f1 0 = v.toInt64 → Q (.inl (some (.int 0))) h1) (h1 : ∀ h1 : ky_HP, r9 = .inr "java/lang/IllegalArgumentException" → lw_I G s9 c f h1 → Q (.inl (some (.int 1))) h1) : ky_CallH G (d + 7) M_L_trial [.ref ((ky_B G)), .int p1, .int p2, .ref ((ky_B G + 37))] h Q := by
  refine ky_ofVH (by decide +kernel) ok_L_trial (Nat.le_of_ble_eq_true rfl) ?_
  refine (?_ : ky_V _ _ _ 0 [(0, .ref ((ky_B G))), (1, .int p1), (2, .int p2), (3, .ref ((ky_B G + 37)))] [] _ _)
  refine v_aload_n (i := 0) (j := 3) rfl rfl (?_ : ky_V _ _ _ 1 _ _ _ _)
  refine v_iconst (v := 0) (i := 1) rfl (by decide) (?_ : ky_V _ _ _ 2 _ _ _ _)
  refine v_aload_n (i := 2) (j := 0) rfl rfl (?_ : ky_V _ _ _ 3 _ _ _ _)
  refine v_iload_n (i := 3) (j := 1) rfl rfl (?_ : ky_V _ _ _ 4 _ _ _ _)
  refine v_iload_n (i := 4) (j := 2) rfl rfl (?_ : ky_V _ _ _ 5 _ _ _ _)
  refine v_callVC (As := [.int p1, .int p2]) (S := [.int 0, .ref (ky_B G + 37)]) cv_X11_trial sv_X11_trial (ky_t6 (i := 206) rfl rfl) (ci := 10) rfl (i := 5) rfl (oc_X11 I.1 hx) rfl rfl (Nat.le_of_ble_eq_true rfl) (k_X11_trial N hG I.1 e (fun h1 hm1 fr1 => ?_))
  have I1 := I.cls hm1 fr1
  rcases hc with ⟨v, rfl⟩ | rfl
  · refine Or.inl ⟨some (.int v), rfl, (?_ : ky_V _ _ _ 8 _ [.int v, .int 0, .ref (ky_B G + 37)] _ _)⟩
    refine v_i2l (i := 6) rfl rfl (?_ : ky_V _ _ _ 9 _ _ _ _)
    refine v_last (i := 7) rfl I1.2.2.1 (ky_inl (by decide)) (?_ : ky_V _ _ _ 10 _ _ _ _)
    refine v_goto (tgt := 17) (i := 8) rfl (by decide) (?_ : ky_V _ _ _ 17 _ _ _ _)
    refine v_iconst (v := 0) (i := 12) rfl (by decide) (?_ : ky_V _ _ _ 18 _ _ _ _)
    refine v_iret (v := 0) (ty := .int) (i := 13) rfl rfl rfl ?_
    exact h0 v _ _ rfl (I1.out _) rfl
  · refine Or.inr ⟨_, 13, .inl (some (.int 1)), rfl, hd_L_trial_1 hG, fun q => ?_, h1 _ rfl I1⟩
    refine v_astore (L' := [(0, .ref ((ky_B G))), (1, .int p1), (2, .int p2), (3, .ref ((ky_B G + 37))), (4, .ref q)]) [1, 2, 3, 4, 0] (i := 9) rfl (Nat.le_of_ble_eq_true rfl) rfl (?_ : ky_V _ _ _ 15 _ _ _ _)
    refine v_iconst (v := 1) (i := 10) rfl (by decide) (?_ : ky_V _ _ _ 16 _ _ _ _)
    refine v_iret (v := 1) (ty := .int) (i := 11) rfl rfl rfl ?_
    exact ⟨rfl, rfl⟩
set_option maxRecDepth 100000 in
set_option maxHeartbeats 4000000 in
theorem hd_L_span_1 {G : ky_GW} (hG : ky_OK G) : ky_hd G M_L_span 5 "java/lang/IllegalArgumentException" 13 :=
  ⟨[], ⟨0, 10, 13, 13⟩, [], "java/lang/IllegalArgumentException", rfl, (fun z hz => absurd hz List.not_mem_nil), by decide, by decide, ky_t3 (i := 173) rfl rfl, ky_m4 (i := 60) rfl, rfl⟩
set_option maxRecDepth 20000 in
set_option maxHeartbeats 4000000 in
theorem k_L_span {G : ky_GW} {d : Nat} {h : ky_HP} {Q : ky_RS → ky_HP → Prop} {s s9 : sk_S} {c : Nat → Nat → Int32} {f : Nat → Int64} {r9 : ky_RS} {p1 : Int32} {p2 : Int32} (N : Nat) (hG : ky_OK G) (I : lw_I G s c f h) (hx : lw_X G s) (e : x11_span N s (ky_B G) p1 p2 = some (s9, r9)) (hc : (∃ v : Int32, r9 = .inl (some (.int v))) ∨ r9 = .inr "java/lang/IllegalArgumentException") (h0 : ∀ (v : Int32) (h1 : ky_HP) (f1 : Nat → Int64), r9 = .inl (some (.int v)) → lw_I G s9 c f1 h1 → f1 0 = v.toInt64 → Q (.inl (some (.int 0))) h1) (h1 : ∀ h1 : ky_HP, r9 = .inr "java/lang/IllegalArgumentException" → lw_I G s9 c f h1 → Q (.inl (some (.int 1))) h1) : ky_CallH G (d + 7) M_L_span [.ref ((ky_B G)), .int p1, .int p2, .ref ((ky_B G + 37))] h Q := by
  refine ky_ofVH (by decide +kernel) ok_L_span (Nat.le_of_ble_eq_true rfl) ?_
  refine (?_ : ky_V _ _ _ 0 [(0, .ref ((ky_B G))), (1, .int p1), (2, .int p2), (3, .ref ((ky_B G + 37)))] [] _ _)
  refine v_aload_n (i := 0) (j := 3) rfl rfl (?_ : ky_V _ _ _ 1 _ _ _ _)
  refine v_iconst (v := 0) (i := 1) rfl (by decide) (?_ : ky_V _ _ _ 2 _ _ _ _)
  refine v_aload_n (i := 2) (j := 0) rfl rfl (?_ : ky_V _ _ _ 3 _ _ _ _)
  refine v_iload_n (i := 3) (j := 1) rfl rfl (?_ : ky_V _ _ _ 4 _ _ _ _)
  refine v_iload_n (i := 4) (j := 2) rfl rfl (?_ : ky_V _ _ _ 5 _ _ _ _)
  refine v_callVC (As := [.int p1, .int p2]) (S := [.int 0, .ref (ky_B G + 37)]) cv_X11_span sv_X11_span (ky_t6 (i := 222) rfl rfl) (ci := 10) rfl (i := 5) rfl (oc_X11 I.1 hx) rfl rfl (Nat.le_of_ble_eq_true rfl) (k_X11_span N hG I.1 e (fun h1 hm1 fr1 => ?_))
  have I1 := I.cls hm1 fr1
  rcases hc with ⟨v, rfl⟩ | rfl
  · refine Or.inl ⟨some (.int v), rfl, (?_ : ky_V _ _ _ 8 _ [.int v, .int 0, .ref (ky_B G + 37)] _ _)⟩
    refine v_i2l (i := 6) rfl rfl (?_ : ky_V _ _ _ 9 _ _ _ _)
    refine v_last (i := 7) rfl I1.2.2.1 (ky_inl (by decide)) (?_ : ky_V _ _ _ 10 _ _ _ _)
    refine v_goto (tgt := 17) (i := 8) rfl (by decide) (?_ : ky_V _ _ _ 17 _ _ _ _)
    refine v_iconst (v := 0) (i := 12) rfl (by decide) (?_ : ky_V _ _ _ 18 _ _ _ _)
    refine v_iret (v := 0) (ty := .int) (i := 13) rfl rfl rfl ?_
    exact h0 v _ _ rfl (I1.out _) rfl
  · refine Or.inr ⟨_, 13, .inl (some (.int 1)), rfl, hd_L_span_1 hG, fun q => ?_, h1 _ rfl I1⟩
    refine v_astore (L' := [(0, .ref ((ky_B G))), (1, .int p1), (2, .int p2), (3, .ref ((ky_B G + 37))), (4, .ref q)]) [1, 2, 3, 4, 0] (i := 9) rfl (Nat.le_of_ble_eq_true rfl) rfl (?_ : ky_V _ _ _ 15 _ _ _ _)
    refine v_iconst (v := 1) (i := 10) rfl (by decide) (?_ : ky_V _ _ _ 16 _ _ _ _)
    refine v_iret (v := 1) (ty := .int) (i := 11) rfl rfl rfl ?_
    exact ⟨rfl, rfl⟩
set_option maxRecDepth 100000 in
set_option maxHeartbeats 4000000 in
theorem hd_L_led_1 {G : ky_GW} (hG : ky_OK G) : ky_hd G M_L_led 5 "java/lang/IndexOutOfBoundsException" 13 :=
  ⟨[], ⟨0, 10, 13, 24⟩, [], "java/lang/IndexOutOfBoundsException", rfl, (fun z hz => absurd hz List.not_mem_nil), by decide, by decide, ky_t5 (i := 46) rfl rfl, ky_m5 (i := 57) rfl, rfl⟩
set_option maxRecDepth 20000 in
set_option maxHeartbeats 4000000 in
theorem k_L_led {G : ky_GW} {d : Nat} {h : ky_HP} {Q : ky_RS → ky_HP → Prop} {s s9 : sk_S} {c : Nat → Nat → Int32} {f : Nat → Int64} {r9 : ky_RS} {p1 : Int32} {p2 : Int32} (N : Nat) (hG : ky_OK G) (I : lw_I G s c f h) (hx : lw_X G s) (e : x11_led N s (ky_B G) p1 p2 = some (s9, r9)) (hc : (∃ v : Int32, r9 = .inl (some (.int v))) ∨ r9 = .inr "java/lang/IndexOutOfBoundsException") (h0 : ∀ (v : Int32) (h1 : ky_HP) (f1 : Nat → Int64), r9 = .inl (some (.int v)) → lw_I G s9 c f1 h1 → f1 0 = v.toInt64 → Q (.inl (some (.int 0))) h1) (h1 : ∀ h1 : ky_HP, r9 = .inr "java/lang/IndexOutOfBoundsException" → lw_I G s9 c f h1 → Q (.inl (some (.int 1))) h1) : ky_CallH G (d + 7) M_L_led [.ref ((ky_B G)), .int p1, .int p2, .ref ((ky_B G + 37))] h Q := by
  refine ky_ofVH (by decide +kernel) ok_L_led (Nat.le_of_ble_eq_true rfl) ?_
  refine (?_ : ky_V _ _ _ 0 [(0, .ref ((ky_B G))), (1, .int p1), (2, .int p2), (3, .ref ((ky_B G + 37)))] [] _ _)
  refine v_aload_n (i := 0) (j := 3) rfl rfl (?_ : ky_V _ _ _ 1 _ _ _ _)
  refine v_iconst (v := 0) (i := 1) rfl (by decide) (?_ : ky_V _ _ _ 2 _ _ _ _)
  refine v_aload_n (i := 2) (j := 0) rfl rfl (?_ : ky_V _ _ _ 3 _ _ _ _)
  refine v_iload_n (i := 3) (j := 1) rfl rfl (?_ : ky_V _ _ _ 4 _ _ _ _)
  refine v_iload_n (i := 4) (j := 2) rfl rfl (?_ : ky_V _ _ _ 5 _ _ _ _)
  refine v_callVC (As := [.int p1, .int p2]) (S := [.int 0, .ref (ky_B G + 37)]) cv_X11_led sv_X11_led (ky_t6 (i := 230) rfl rfl) (ci := 10) rfl (i := 5) rfl (oc_X11 I.1 hx) rfl rfl (Nat.le_of_ble_eq_true rfl) (k_X11_led N hG I.1 e (fun h1 hm1 fr1 => ?_))
  have I1 := I.cls hm1 fr1
  rcases hc with ⟨v, rfl⟩ | rfl
  · refine Or.inl ⟨some (.int v), rfl, (?_ : ky_V _ _ _ 8 _ [.int v, .int 0, .ref (ky_B G + 37)] _ _)⟩
    refine v_i2l (i := 6) rfl rfl (?_ : ky_V _ _ _ 9 _ _ _ _)
    refine v_last (i := 7) rfl I1.2.2.1 (ky_inl (by decide)) (?_ : ky_V _ _ _ 10 _ _ _ _)
    refine v_goto (tgt := 17) (i := 8) rfl (by decide) (?_ : ky_V _ _ _ 17 _ _ _ _)
    refine v_iconst (v := 0) (i := 12) rfl (by decide) (?_ : ky_V _ _ _ 18 _ _ _ _)
    refine v_iret (v := 0) (ty := .int) (i := 13) rfl rfl rfl ?_
    exact h0 v _ _ rfl (I1.out _) rfl
  · refine Or.inr ⟨_, 13, .inl (some (.int 1)), rfl, hd_L_led_1 hG, fun q => ?_, h1 _ rfl I1⟩
    refine v_astore (L' := [(0, .ref ((ky_B G))), (1, .int p1), (2, .int p2), (3, .ref ((ky_B G + 37))), (4, .ref q)]) [1, 2, 3, 4, 0] (i := 9) rfl (Nat.le_of_ble_eq_true rfl) rfl (?_ : ky_V _ _ _ 15 _ _ _ _)
    refine v_iconst (v := 1) (i := 10) rfl (by decide) (?_ : ky_V _ _ _ 16 _ _ _ _)
    refine v_iret (v := 1) (ty := .int) (i := 11) rfl rfl rfl ?_
    exact ⟨rfl, rfl⟩
set_option maxRecDepth 100000 in
set_option maxHeartbeats 4000000 in
theorem hd_L_log_1 {G : ky_GW} (hG : ky_OK G) : ky_hd G M_L_log 5 "java/util/NoSuchElementException" 13 :=
  ⟨[], ⟨0, 10, 13, 26⟩, [], "java/util/NoSuchElementException", rfl, (fun z hz => absurd hz List.not_mem_nil), by decide, by decide, ky_t5 (i := 47) rfl rfl, ky_m5 (i := 73) rfl, rfl⟩
set_option maxRecDepth 20000 in
set_option maxHeartbeats 4000000 in
theorem k_L_log {G : ky_GW} {d : Nat} {h : ky_HP} {Q : ky_RS → ky_HP → Prop} {s s9 : sk_S} {c : Nat → Nat → Int32} {f : Nat → Int64} {r9 : ky_RS} {p1 : Int32} {p2 : Int32} (N : Nat) (hG : ky_OK G) (I : lw_I G s c f h) (hx : lw_X G s) (e : x11_log N s (ky_B G) p1 p2 = some (s9, r9)) (hc : (∃ v : Int32, r9 = .inl (some (.int v))) ∨ r9 = .inr "java/util/NoSuchElementException") (h0 : ∀ (v : Int32) (h1 : ky_HP) (f1 : Nat → Int64), r9 = .inl (some (.int v)) → lw_I G s9 c f1 h1 → f1 0 = v.toInt64 → Q (.inl (some (.int 0))) h1) (h1 : ∀ h1 : ky_HP, r9 = .inr "java/util/NoSuchElementException" → lw_I G s9 c f h1 → Q (.inl (some (.int 1))) h1) : ky_CallH G (d + 7) M_L_log [.ref ((ky_B G)), .int p1, .int p2, .ref ((ky_B G + 37))] h Q := by
  refine ky_ofVH (by decide +kernel) ok_L_log (Nat.le_of_ble_eq_true rfl) ?_
  refine (?_ : ky_V _ _ _ 0 [(0, .ref ((ky_B G))), (1, .int p1), (2, .int p2), (3, .ref ((ky_B G + 37)))] [] _ _)
  refine v_aload_n (i := 0) (j := 3) rfl rfl (?_ : ky_V _ _ _ 1 _ _ _ _)
  refine v_iconst (v := 0) (i := 1) rfl (by decide) (?_ : ky_V _ _ _ 2 _ _ _ _)
  refine v_aload_n (i := 2) (j := 0) rfl rfl (?_ : ky_V _ _ _ 3 _ _ _ _)
  refine v_iload_n (i := 3) (j := 1) rfl rfl (?_ : ky_V _ _ _ 4 _ _ _ _)
  refine v_iload_n (i := 4) (j := 2) rfl rfl (?_ : ky_V _ _ _ 5 _ _ _ _)
  refine v_callVC (As := [.int p1, .int p2]) (S := [.int 0, .ref (ky_B G + 37)]) cv_X11_log sv_X11_log (ky_t7 (i := 13) rfl rfl) (ci := 10) rfl (i := 5) rfl (oc_X11 I.1 hx) rfl rfl (Nat.le_of_ble_eq_true rfl) (k_X11_log N hG I.1 e (fun h1 hm1 fr1 => ?_))
  have I1 := I.cls hm1 fr1
  rcases hc with ⟨v, rfl⟩ | rfl
  · refine Or.inl ⟨some (.int v), rfl, (?_ : ky_V _ _ _ 8 _ [.int v, .int 0, .ref (ky_B G + 37)] _ _)⟩
    refine v_i2l (i := 6) rfl rfl (?_ : ky_V _ _ _ 9 _ _ _ _)
    refine v_last (i := 7) rfl I1.2.2.1 (ky_inl (by decide)) (?_ : ky_V _ _ _ 10 _ _ _ _)
    refine v_goto (tgt := 17) (i := 8) rfl (by decide) (?_ : ky_V _ _ _ 17 _ _ _ _)
    refine v_iconst (v := 0) (i := 12) rfl (by decide) (?_ : ky_V _ _ _ 18 _ _ _ _)
    refine v_iret (v := 0) (ty := .int) (i := 13) rfl rfl rfl ?_
    exact h0 v _ _ rfl (I1.out _) rfl
  · refine Or.inr ⟨_, 13, .inl (some (.int 1)), rfl, hd_L_log_1 hG, fun q => ?_, h1 _ rfl I1⟩
    refine v_astore (L' := [(0, .ref ((ky_B G))), (1, .int p1), (2, .int p2), (3, .ref ((ky_B G + 37))), (4, .ref q)]) [1, 2, 3, 4, 0] (i := 9) rfl (Nat.le_of_ble_eq_true rfl) rfl (?_ : ky_V _ _ _ 15 _ _ _ _)
    refine v_iconst (v := 1) (i := 10) rfl (by decide) (?_ : ky_V _ _ _ 16 _ _ _ _)
    refine v_iret (v := 1) (ty := .int) (i := 11) rfl rfl rfl ?_
    exact ⟨rfl, rfl⟩
