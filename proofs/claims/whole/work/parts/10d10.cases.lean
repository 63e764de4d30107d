def tb_lc_undo : List (Nat × Instr × Nat) := [(2343, .aload_n 1, 1), (2344, .invokevirtual 260, 3), (2347, .aload_n 2, 1), (2348, .invokevirtual 264, 3), (2351, .if_icmp .eq 54, 3), (2354, .iconst 0, 1), (2355, .ireturn, 1)]
def M_lc_undo : ky_MT := (x, code, 8, ret, tb_lc_undo, [])
set_option maxRecDepth 100000 in
set_option maxHeartbeats 4000000 in
theorem ok_lc_undo : ky_ok code tb_lc_undo = true := by decide +kernel
set_option maxRecDepth 20000 in
set_option maxHeartbeats 4000000 in
theorem lc_undo {G : ky_GW} {b Ln : Nat} {xs : Nat → Int32} {h : ky_HP} {Q : ky_RS → ky_HP → Prop} {s s9 : sk_S} {c c9 : Nat → Nat → Int32} {f : Nat → Int64} {i : Int32} {r : Int32} (N : Nat) (hG : ky_OK G) (hX : va_X b Ln xs G.2.1 G.2.1.heap) (hb : b < ky_B G) (b1 : vp_in (i + 1) Ln) (b2 : vp_in (i + 2) Ln) (b3 : vp_in (i + 3) Ln) (b4 : vp_in (i + 4) Ln) (b5 : vp_in (i + 5) Ln) (I : lw_I G s c f h) (hx : lw_X G s) (e1 : x11_undo N s (ky_B G) = some (s9, r)) (e2 : md_undo N c = some (c9, r)) (K : ∀ f9 h9, lw_I G s9 c9 f9 h9 → ky_V G 61 M_law 2405 [(0, .ref b), (1, .ref ((ky_B G))), (2, .ref ((ky_B G + 24))), (3, .ref ((ky_B G + 37))), (4, .int i)] [] h9 Q) : ky_V G 61 M_law 2343 [(0, .ref b), (1, .ref ((ky_B G))), (2, .ref ((ky_B G + 24))), (3, .ref ((ky_B G + 37))), (4, .int i)] [] h Q := by
  refine ky_sub (M := M_law) (M' := M_lc_undo) rfl rfl rfl rfl rfl ok_lc_undo ?_
  refine v_aload_n (i := 0) (j := 1) rfl rfl (?_ : ky_V _ _ _ 2344 _ _ _ _)
  refine cl_L_260 (As := []) rfl (i := 1) rfl (oc_X11 I.1 hx) rfl rfl (Nat.le_of_ble_eq_true rfl) (k_X11_undo N hG I.1 e1 (fun h1 hm1 fr1 => ⟨_, rfl, (?_ : ky_V _ _ _ 2347 _ [.int r] _ _)⟩))
  have I1 := I.cls hm1 fr1
  refine v_aload_n (i := 2) (j := 2) rfl rfl (?_ : ky_V _ _ _ 2348 _ _ _ _)
  refine cl_L_264 (As := []) rfl (i := 3) rfl (md_0 I1.2.1) rfl rfl (Nat.le_of_ble_eq_true rfl) (k_X12_undo N I1.2.1 e2 (fun h2 hm2 fr2 => ⟨_, rfl, (?_ : ky_V _ _ _ 2351 _ [.int r, .int r] _ _)⟩))
  have I2 := I1.mdl hm2 fr2
  refine v_icmp_eq (tgt := 2405) (i := 4) rfl (by decide) (fun _ => ?_) (fun c => absurd rfl c)
  refine (?_ : ky_V _ _ _ 2405 _ _ _ _)
  refine ky_sub (M := M_lc_undo) (M' := M_law) rfl rfl rfl rfl rfl ok_law ?_
  exact K _ _ I2
def tb_lc_image : List (Nat × Instr × Nat) := [(2356, .aload_n 1, 1), (2357, .invokevirtual 265, 3), (2360, .aload_n 2, 1), (2361, .invokevirtual 268, 3), (2364, .goto 41, 3)]
def M_lc_image : ky_MT := (x, code, 8, ret, tb_lc_image, [])
set_option maxRecDepth 100000 in
set_option maxHeartbeats 4000000 in
theorem ok_lc_image : ky_ok code tb_lc_image = true := by decide +kernel
set_option maxRecDepth 20000 in
set_option maxHeartbeats 4000000 in
theorem lc_image {G : ky_GW} {b Ln : Nat} {xs : Nat → Int32} {h : ky_HP} {Q : ky_RS → ky_HP → Prop} {s s9 : sk_S} {c c9 : Nat → Nat → Int32} {f : Nat → Int64} {i : Int32} {r r2 : Int32} (N : Nat) (hG : ky_OK G) (hX : va_X b Ln xs G.2.1 G.2.1.heap) (hb : b < ky_B G) (b1 : vp_in (i + 1) Ln) (b2 : vp_in (i + 2) Ln) (b3 : vp_in (i + 3) Ln) (b4 : vp_in (i + 4) Ln) (b5 : vp_in (i + 5) Ln) (I : lw_I G s c f h) (hx : lw_X G s) (e1 : x11_image N s (ky_B G) = some (s9, r)) (e2 : md_image N c = some (c9, r2)) (K : ∀ f9 h9, lw_I G s9 c9 f9 h9 → ky_V G 61 M_law 2405 [(0, .ref b), (1, .ref ((ky_B G))), (2, .ref ((ky_B G + 24))), (3, .ref ((ky_B G + 37))), (4, .int i)] [] h9 Q) : ky_V G 61 M_law 2356 [(0, .ref b), (1, .ref ((ky_B G))), (2, .ref ((ky_B G + 24))), (3, .ref ((ky_B G + 37))), (4, .int i)] [] h Q := by
  refine ky_sub (M := M_law) (M' := M_lc_image) rfl rfl rfl rfl rfl ok_lc_image ?_
  refine v_aload_n (i := 0) (j := 1) rfl rfl (?_ : ky_V _ _ _ 2357 _ _ _ _)
  refine cl_L_265 (As := []) rfl (i := 1) rfl (oc_X11 I.1 hx) rfl rfl (Nat.le_of_ble_eq_true rfl) (k_X11_image N hG I.1 e1 (fun h1 hm1 fr1 => ⟨_, rfl, (?_ : ky_V _ _ _ 2360 _ [] _ _)⟩))
  have I1 := I.cls hm1 fr1
  refine v_aload_n (i := 2) (j := 2) rfl rfl (?_ : ky_V _ _ _ 2361 _ _ _ _)
  refine cl_L_268 (As := []) rfl (i := 3) rfl (md_0 I1.2.1) rfl rfl (Nat.le_of_ble_eq_true rfl) (k_X12_image N I1.2.1 e2 (fun h2 hm2 fr2 => ⟨_, rfl, (?_ : ky_V _ _ _ 2364 _ [] _ _)⟩))
  have I2 := I1.mdl hm2 fr2
  refine v_goto (tgt := 2405) (i := 4) rfl (by decide) (?_ : ky_V _ _ _ 2405 _ _ _ _)
  refine ky_sub (M := M_lc_image) (M' := M_law) rfl rfl rfl rfl rfl ok_law ?_
  exact K _ _ I2
def tb_lc_back : List (Nat × Instr × Nat) := [(2367, .aload_n 1, 1), (2368, .invokevirtual 269, 3), (2371, .aload_n 2, 1), (2372, .invokevirtual 272, 3), (2375, .if_icmp .eq 30, 3), (2378, .iconst 0, 1), (2379, .ireturn, 1)]
def M_lc_back : ky_MT := (x, code, 8, ret, tb_lc_back, [])
set_option maxRecDepth 100000 in
set_option maxHeartbeats 4000000 in
theorem ok_lc_back : ky_ok code tb_lc_back = true := by decide +kernel
set_option maxRecDepth 20000 in
set_option maxHeartbeats 4000000 in
theorem lc_back {G : ky_GW} {b Ln : Nat} {xs : Nat → Int32} {h : ky_HP} {Q : ky_RS → ky_HP → Prop} {s s9 : sk_S} {c c9 : Nat → Nat → Int32} {f : Nat → Int64} {i : Int32} {r : Int32} (N : Nat) (hG : ky_OK G) (hX : va_X b Ln xs G.2.1 G.2.1.heap) (hb : b < ky_B G) (b1 : vp_in (i + 1) Ln) (b2 : vp_in (i + 2) Ln) (b3 : vp_in (i + 3) Ln) (b4 : vp_in (i + 4) Ln) (b5 : vp_in (i + 5) Ln) (I : lw_I G s c f h) (hx : lw_X G s) (e1 : x11_back N s (ky_B G) = some (s9, r)) (e2 : md_back N c = some (c9, r)) (K : ∀ f9 h9, lw_I G s9 c9 f9 h9 → ky_V G 61 M_law 2405 [(0, .ref b), (1, .ref ((ky_B G))), (2, .ref ((ky_B G + 24))), (3, .ref ((ky_B G + 37))), (4, .int i)] [] h9 Q) : ky_V G 61 M_law 2367 [(0, .ref b), (1, .ref ((ky_B G))), (2, .ref ((ky_B G + 24))), (3, .ref ((ky_B G + 37))), (4, .int i)] [] h Q := by
  refine ky_sub (M := M_law) (M' := M_lc_back) rfl rfl rfl rfl rfl ok_lc_back ?_
  refine v_aload_n (i := 0) (j := 1) rfl rfl (?_ : ky_V _ _ _ 2368 _ _ _ _)
  refine cl_L_269 (As := []) rfl (i := 1) rfl (oc_X11 I.1 hx) rfl rfl (Nat.le_of_ble_eq_true rfl) (k_X11_back N hG I.1 e1 (fun h1 hm1 fr1 => ⟨_, rfl, (?_ : ky_V _ _ _ 2371 _ [.int r] _ _)⟩))
  have I1 := I.cls hm1 fr1
  refine v_aload_n (i := 2) (j := 2) rfl rfl (?_ : ky_V _ _ _ 2372 _ _ _ _)
  refine cl_L_272 (As := []) rfl (i := 3) rfl (md_0 I1.2.1) rfl rfl (Nat.le_of_ble_eq_true rfl) (k_X12_back N I1.2.1 e2 (fun h2 hm2 fr2 => ⟨_, rfl, (?_ : ky_V _ _ _ 2375 _ [.int r, .int r] _ _)⟩))
  have I2 := I1.mdl hm2 fr2
  refine v_icmp_eq (tgt := 2405) (i := 4) rfl (by decide) (fun _ => ?_) (fun c => absurd rfl c)
  refine (?_ : ky_V _ _ _ 2405 _ _ _ _)
  refine ky_sub (M := M_lc_back) (M' := M_law) rfl rfl rfl rfl rfl ok_law ?_
  exact K _ _ I2
def tb_lc_count : List (Nat × Instr × Nat) := [(2380, .aload_n 1, 1), (2381, .aload_n 0, 1), (2382, .iload 4, 2), (2384, .iconst 1, 1), (2385, .iadd, 1), (2386, .iaload, 1), (2387, .invokevirtual 273, 3), (2390, .aload_n 2, 1), (2391, .aload_n 0, 1), (2392, .iload 4, 2), (2394, .iconst 1, 1), (2395, .iadd, 1), (2396, .iaload, 1), (2397, .invokevirtual 276, 3), (2400, .if_icmp .eq 5, 3), (2403, .iconst 0, 1), (2404, .ireturn, 1)]
def M_lc_count : ky_MT := (x, code, 8, ret, tb_lc_count, [])
set_option maxRecDepth 100000 in
set_option maxHeartbeats 4000000 in
theorem ok_lc_count : ky_ok code tb_lc_count = true := by decide +kernel
set_option maxRecDepth 20000 in
set_option maxHeartbeats 4000000 in
theorem lc_count {G : ky_GW} {b Ln : Nat} {xs : Nat → Int32} {h : ky_HP} {Q : ky_RS → ky_HP → Prop} {s s9 : sk_S} {c c9 : Nat → Nat → Int32} {f : Nat → Int64} {i : Int32} {r : Int32} (N : Nat) (hG : ky_OK G) (hX : va_X b Ln xs G.2.1 G.2.1.heap) (hb : b < ky_B G) (b1 : vp_in (i + 1) Ln) (b2 : vp_in (i + 2) Ln) (b3 : vp_in (i + 3) Ln) (b4 : vp_in (i + 4) Ln) (b5 : vp_in (i + 5) Ln) (I : lw_I G s c f h) (hx : lw_X G s) (e1 : x11_count N s (ky_B G) (xs (Int32.toNatClampNeg (i + 1))) = some (s9, r)) (e2 : md_count N c (xs (Int32.toNatClampNeg (i + 1))) = some (c9, r)) (K : ∀ f9 h9, lw_I G s9 c9 f9 h9 → ky_V G 61 M_law 2405 [(0, .ref b), (1, .ref ((ky_B G))), (2, .ref ((ky_B G + 24))), (3, .ref ((ky_B G + 37))), (4, .int i)] [] h9 Q) : ky_V G 61 M_law 2380 [(0, .ref b), (1, .ref ((ky_B G))), (2, .ref ((ky_B G + 24))), (3, .ref ((ky_B G + 37))), (4, .int i)] [] h Q := by
  refine ky_sub (M := M_law) (M' := M_lc_count) rfl rfl rfl rfl rfl ok_lc_count ?_
  refine v_aload_n (i := 0) (j := 1) rfl rfl (?_ : ky_V _ _ _ 2381 _ _ _ _)
  refine v_aload_n (i := 1) (j := 0) rfl rfl (?_ : ky_V _ _ _ 2382 _ _ _ _)
  refine v_iload (i := 2) (j := 4) rfl rfl (?_ : ky_V _ _ _ 2384 _ _ _ _)
  refine v_iconst (v := 1) (i := 3) rfl (by decide) (?_ : ky_V _ _ _ 2385 _ _ _ _)
  refine v_iadd (i := 4) rfl (?_ : ky_V _ _ _ 2386 _ _ _ _)
  refine v_sld hX hb b1 (i := 5) rfl (?_ : ky_V _ _ _ 2387 _ (.int (xs (Int32.toNatClampNeg (i + 1))) :: _) _ _)
  refine cl_L_273 (As := [.int ((xs (Int32.toNatClampNeg (i + 1))))]) rfl (i := 6) rfl (oc_X11 I.1 hx) rfl rfl (Nat.le_of_ble_eq_true rfl) (k_X11_count N hG I.1 e1 (fun h1 hm1 fr1 => ⟨_, rfl, (?_ : ky_V _ _ _ 2390 _ [.int r] _ _)⟩))
  have I1 := I.cls hm1 fr1
  refine v_aload_n (i := 7) (j := 2) rfl rfl (?_ : ky_V _ _ _ 2391 _ _ _ _)
  refine v_aload_n (i := 8) (j := 0) rfl rfl (?_ : ky_V _ _ _ 2392 _ _ _ _)
  refine v_iload (i := 9) (j := 4) rfl rfl (?_ : ky_V _ _ _ 2394 _ _ _ _)
  refine v_iconst (v := 1) (i := 10) rfl (by decide) (?_ : ky_V _ _ _ 2395 _ _ _ _)
  refine v_iadd (i := 11) rfl (?_ : ky_V _ _ _ 2396 _ _ _ _)
  refine v_sld hX hb b1 (i := 12) rfl (?_ : ky_V _ _ _ 2397 _ (.int (xs (Int32.toNatClampNeg (i + 1))) :: _) _ _)
  refine cl_L_276 (As := [.int ((xs (Int32.toNatClampNeg (i + 1))))]) rfl (i := 13) rfl (md_0 I1.2.1) rfl rfl (Nat.le_of_ble_eq_true rfl) (k_X12_count N I1.2.1 e2 (fun h2 hm2 fr2 => ⟨_, rfl, (?_ : ky_V _ _ _ 2400 _ [.int r, .int r] _ _)⟩))
  have I2 := I1.mdl hm2 fr2
  refine v_icmp_eq (tgt := 2405) (i := 14) rfl (by decide) (fun _ => ?_) (fun c => absurd rfl c)
  refine (?_ : ky_V _ _ _ 2405 _ _ _ _)
  refine ky_sub (M := M_lc_count) (M' := M_law) rfl rfl rfl rfl rfl ok_law ?_
  exact K _ _ I2
