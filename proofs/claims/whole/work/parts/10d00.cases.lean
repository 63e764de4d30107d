def tb_lc_feed : List (Nat × Instr × Nat) := [(232, .aload_n 1, 1), (233, .aload_n 0, 1), (234, .iload 4, 2), (236, .iconst 1, 1), (237, .iadd, 1), (238, .iaload, 1), (239, .aload_n 0, 1), (240, .iload 4, 2), (242, .iconst 2, 1), (243, .iadd, 1), (244, .iaload, 1), (245, .aload_n 0, 1), (246, .iload 4, 2), (248, .iconst 3, 1), (249, .iadd, 1), (250, .iaload, 1), (251, .aload_n 0, 1), (252, .iload 4, 2), (254, .iconst 4, 1), (255, .iadd, 1), (256, .iaload, 1), (257, .aload_n 0, 1), (258, .iload 4, 2), (260, .iconst 5, 1), (261, .iadd, 1), (262, .iaload, 1), (263, .invokevirtual 113, 3), (266, .aload_n 2, 1), (267, .aload_n 0, 1), (268, .iload 4, 2), (270, .iconst 1, 1), (271, .iadd, 1), (272, .iaload, 1), (273, .aload_n 0, 1), (274, .iload 4, 2), (276, .iconst 2, 1), (277, .iadd, 1), (278, .iaload, 1), (279, .aload_n 0, 1), (280, .iload 4, 2), (282, .iconst 3, 1), (283, .iadd, 1), (284, .iaload, 1), (285, .aload_n 0, 1), (286, .iload 4, 2), (288, .iconst 4, 1), (289, .iadd, 1), (290, .iaload, 1), (291, .aload_n 0, 1), (292, .iload 4, 2), (294, .iconst 5, 1), (295, .iadd, 1), (296, .iaload, 1), (297, .invokevirtual 117, 3), (300, .if_icmp .eq 2105, 3), (303, .iconst 0, 1), (304, .ireturn, 1)]
def M_lc_feed : ky_MT := (x, code, 8, ret, tb_lc_feed, [])
set_option maxRecDepth 100000 in
set_option maxHeartbeats 4000000 in
theorem ok_lc_feed : ky_ok code tb_lc_feed = true := by decide +kernel
set_option maxRecDepth 20000 in
set_option maxHeartbeats 4000000 in
theorem lc_feed {G : ky_GW} {b Ln : Nat} {xs : Nat → Int32} {h : ky_HP} {Q : ky_RS → ky_HP → Prop} {s s9 : sk_S} {c c9 : Nat → Nat → Int32} {f : Nat → Int64} {i : Int32} {r : Int32} (N : Nat) (hG : ky_OK G) (hX : va_X b Ln xs G.2.1 G.2.1.heap) (hb : b < ky_B G) (b1 : vp_in (i + 1) Ln) (b2 : vp_in (i + 2) Ln) (b3 : vp_in (i + 3) Ln) (b4 : vp_in (i + 4) Ln) (b5 : vp_in (i + 5) Ln) (I : lw_I G s c f h) (hx : lw_X G s) (e1 : x11_feed N s (ky_B G) (xs (Int32.toNatClampNeg (i + 1))) (xs (Int32.toNatClampNeg (i + 2))) (xs (Int32.toNatClampNeg (i + 3))) (xs (Int32.toNatClampNeg (i + 4))) (xs (Int32.toNatClampNeg (i + 5))) = some (s9, r)) (e2 : md_feed N c (xs (Int32.toNatClampNeg (i + 1))) (xs (Int32.toNatClampNeg (i + 2))) (xs (Int32.toNatClampNeg (i + 3))) (xs (Int32.toNatClampNeg (i + 4))) (xs (Int32.toNatClampNeg (i + 5))) = some (c9, r)) (K : ∀ f9 h9, lw_I G s9 c9 f9 h9 → ky_V G 61 M_law 2405 [(0, .ref b), (1, .ref ((ky_B G))), (2, .ref ((ky_B G + 24))), (3, .ref ((ky_B G + 37))), (4, .int i)] [] h9 Q) : ky_V G 61 M_law 232 [(0, .ref b), (1, .ref ((ky_B G))), (2, .ref ((ky_B G + 24))), (3, .ref ((ky_B G + 37))), (4, .int i)] [] h Q := by
  refine ky_sub (M := M_law) (M' := M_lc_feed) rfl rfl rfl rfl rfl ok_lc_feed ?_
  refine v_aload_n (i := 0) (j := 1) rfl rfl (?_ : ky_V _ _ _ 233 _ _ _ _)
  refine v_aload_n (i := 1) (j := 0) rfl rfl (?_ : ky_V _ _ _ 234 _ _ _ _)
  refine v_iload (i := 2) (j := 4) rfl rfl (?_ : ky_V _ _ _ 236 _ _ _ _)
  refine v_iconst (v := 1) (i := 3) rfl (by decide) (?_ : ky_V _ _ _ 237 _ _ _ _)
  refine v_iadd (i := 4) rfl (?_ : ky_V _ _ _ 238 _ _ _ _)
  refine v_sld hX hb b1 (i := 5) rfl (?_ : ky_V _ _ _ 239 _ (.int (xs (Int32.toNatClampNeg (i + 1))) :: _) _ _)
  refine v_aload_n (i := 6) (j := 0) rfl rfl (?_ : ky_V _ _ _ 240 _ _ _ _)
  refine v_iload (i := 7) (j := 4) rfl rfl (?_ : ky_V _ _ _ 242 _ _ _ _)
  refine v_iconst (v := 2) (i := 8) rfl (by decide) (?_ : ky_V _ _ _ 243 _ _ _ _)
  refine v_iadd (i := 9) rfl (?_ : ky_V _ _ _ 244 _ _ _ _)
  refine v_sld hX hb b2 (i := 10) rfl (?_ : ky_V _ _ _ 245 _ (.int (xs (Int32.toNatClampNeg (i + 2))) :: _) _ _)
  refine v_aload_n (i := 11) (j := 0) rfl rfl (?_ : ky_V _ _ _ 246 _ _ _ _)
  refine v_iload (i := 12) (j := 4) rfl rfl (?_ : ky_V _ _ _ 248 _ _ _ _)
  refine v_iconst (v := 3) (i := 13) rfl (by decide) (?_ : ky_V _ _ _ 249 _ _ _ _)
  refine v_iadd (i := 14) rfl (?_ : ky_V _ _ _ 250 _ _ _ _)
  refine v_sld hX hb b3 (i := 15) rfl (?_ : ky_V _ _ _ 251 _ (.int (xs (Int32.toNatClampNeg (i + 3))) :: _) _ _)
  refine v_aload_n (i := 16) (j := 0) rfl rfl (?_ : ky_V _ _ _ 252 _ _ _ _)
  refine v_iload (i := 17) (j := 4) rfl rfl (?_ : ky_V _ _ _ 254 _ _ _ _)
  refine v_iconst (v := 4) (i := 18) rfl (by decide) (?_ : ky_V _ _ _ 255 _ _ _ _)
  refine v_iadd (i := 19) rfl (?_ : ky_V _ _ _ 256 _ _ _ _)
  refine v_sld hX hb b4 (i := 20) rfl (?_ : ky_V _ _ _ 257 _ (.int (xs (Int32.toNatClampNeg (i + 4))) :: _) _ _)
  refine v_aload_n (i := 21) (j := 0) rfl rfl (?_ : ky_V _ _ _ 258 _ _ _ _)
  refine v_iload (i := 22) (j := 4) rfl rfl (?_ : ky_V _ _ _ 260 _ _ _ _)
  refine v_iconst (v := 5) (i := 23) rfl (by decide) (?_ : ky_V _ _ _ 261 _ _ _ _)
  refine v_iadd (i := 24) rfl (?_ : ky_V _ _ _ 262 _ _ _ _)
  refine v_sld hX hb b5 (i := 25) rfl (?_ : ky_V _ _ _ 263 _ (.int (xs (Int32.toNatClampNeg (i + 5))) :: _) _ _)
  refine cl_L_113 (As := [.int ((xs (Int32.toNatClampNeg (i + 1)))), .int ((xs (Int32.toNatClampNeg (i + 2)))), .int ((xs (Int32.toNatClampNeg (i + 3)))), .int ((xs (Int32.toNatClampNeg (i + 4)))), .int ((xs (Int32.toNatClampNeg (i + 5))))]) rfl (i := 26) rfl (oc_X11 I.1 hx) rfl rfl (Nat.le_of_ble_eq_true rfl) (k_X11_feed N hG I.1 e1 (fun h1 hm1 fr1 => ⟨_, rfl, (?_ : ky_V _ _ _ 266 _ [.int r] _ _)⟩))
  have I1 := I.cls hm1 fr1
  refine v_aload_n (i := 27) (j := 2) rfl rfl (?_ : ky_V _ _ _ 267 _ _ _ _)
  refine v_aload_n (i := 28) (j := 0) rfl rfl (?_ : ky_V _ _ _ 268 _ _ _ _)
  refine v_iload (i := 29) (j := 4) rfl rfl (?_ : ky_V _ _ _ 270 _ _ _ _)
  refine v_iconst (v := 1) (i := 30) rfl (by decide) (?_ : ky_V _ _ _ 271 _ _ _ _)
  refine v_iadd (i := 31) rfl (?_ : ky_V _ _ _ 272 _ _ _ _)
  refine v_sld hX hb b1 (i := 32) rfl (?_ : ky_V _ _ _ 273 _ (.int (xs (Int32.toNatClampNeg (i + 1))) :: _) _ _)
  refine v_aload_n (i := 33) (j := 0) rfl rfl (?_ : ky_V _ _ _ 274 _ _ _ _)
  refine v_iload (i := 34) (j := 4) rfl rfl (?_ : ky_V _ _ _ 276 _ _ _ _)
  refine v_iconst (v := 2) (i := 35) rfl (by decide) (?_ : ky_V _ _ _ 277 _ _ _ _)
  refine v_iadd (i := 36) rfl (?_ : ky_V _ _ _ 278 _ _ _ _)
  refine v_sld hX hb b2 (i := 37) rfl (?_ : ky_V _ _ _ 279 _ (.int (xs (Int32.toNatClampNeg (i + 2))) :: _) _ _)
  refine v_aload_n (i := 38) (j := 0) rfl rfl (?_ : ky_V _ _ _ 280 _ _ _ _)
  refine v_iload (i := 39) (j := 4) rfl rfl (?_ : ky_V _ _ _ 282 _ _ _ _)
  refine v_iconst (v := 3) (i := 40) rfl (by decide) (?_ : ky_V _ _ _ 283 _ _ _ _)
  refine v_iadd (i := 41) rfl (?_ : ky_V _ _ _ 284 _ _ _ _)
  refine v_sld hX hb b3 (i := 42) rfl (?_ : ky_V _ _ _ 285 _ (.int (xs (Int32.toNatClampNeg (i + 3))) :: _) _ _)
  refine v_aload_n (i := 43) (j := 0) rfl rfl (?_ : ky_V _ _ _ 286 _ _ _ _)
  refine v_iload (i := 44) (j := 4) rfl rfl (?_ : ky_V _ _ _ 288 _ _ _ _)
  refine v_iconst (v := 4) (i := 45) rfl (by decide) (?_ : ky_V _ _ _ 289 _ _ _ _)
  refine v_iadd (i := 46) rfl (?_ : ky_V _ _ _ 290 _ _ _ _)
  refine v_sld hX hb b4 (i := 47) rfl (?_ : ky_V _ _ _ 291 _ (.int (xs (Int32.toNatClampNeg (i + 4))) :: _) _ _)
  refine v_aload_n (i := 48) (j := 0) rfl rfl (?_ : ky_V _ _ _ 292 _ _ _ _)
  refine v_iload (i := 49) (j := 4) rfl rfl (?_ : ky_V _ _ _ 294 _ _ _ _)
  refine v_iconst (v := 5) (i := 50) rfl (by decide) (?_ : ky_V _ _ _ 295 _ _ _ _)
  refine v_iadd (i := 51) rfl (?_ : ky_V _ _ _ 296 _ _ _ _)
  refine v_sld hX hb b5 (i := 52) rfl (?_ : ky_V _ _ _ 297 _ (.int (xs (Int32.toNatClampNeg (i + 5))) :: _) _ _)
  refine cl_L_117 (As := [.int ((xs (Int32.toNatClampNeg (i + 1)))), .int ((xs (Int32.toNatClampNeg (i + 2)))), .int ((xs (Int32.toNatClampNeg (i + 3)))), .int ((xs (Int32.toNatClampNeg (i + 4)))), .int ((xs (Int32.toNatClampNeg (i + 5))))]) rfl (i := 53) rfl (md_0 I1.2.1) rfl rfl (Nat.le_of_ble_eq_true rfl) (k_X12_feed N I1.2.1 e2 (fun h2 hm2 fr2 => ⟨_, rfl, (?_ : ky_V _ _ _ 300 _ [.int r, .int r] _ _)⟩))
  have I2 := I1.mdl hm2 fr2
  refine v_icmp_eq (tgt := 2405) (i := 54) rfl (by decide) (fun _ => ?_) (fun c => absurd rfl c)
  refine (?_ : ky_V _ _ _ 2405 _ _ _ _)
  refine ky_sub (M := M_lc_feed) (M' := M_law) rfl rfl rfl rfl rfl ok_law ?_
  exact K _ _ I2
def tb_lc_end : List (Nat × Instr × Nat) := [(305, .aload_n 1, 1), (306, .aload_n 0, 1), (307, .iload 4, 2), (309, .iconst 1, 1), (310, .iadd, 1), (311, .iaload, 1), (312, .invokevirtual 118, 3), (315, .aload_n 2, 1), (316, .aload_n 0, 1), (317, .iload 4, 2), (319, .iconst 1, 1), (320, .iadd, 1), (321, .iaload, 1), (322, .invokevirtual 122, 3), (325, .if_icmp .eq 2080, 3), (328, .iconst 0, 1), (329, .ireturn, 1)]
def M_lc_end : ky_MT := (x, code, 8, ret, tb_lc_end, [])
set_option maxRecDepth 100000 in
set_option maxHeartbeats 4000000 in
theorem ok_lc_end : ky_ok code tb_lc_end = true := by decide +kernel
set_option maxRecDepth 20000 in
set_option maxHeartbeats 4000000 in
theorem lc_end {G : ky_GW} {b Ln : Nat} {xs : Nat → Int32} {h : ky_HP} {Q : ky_RS → ky_HP → Prop} {s s9 : sk_S} {c c9 : Nat → Nat → Int32} {f : Nat → Int64} {i : Int32} {r : Int32} (N : Nat) (hG : ky_OK G) (hX : va_X b Ln xs G.2.1 G.2.1.heap) (hb : b < ky_B G) (b1 : vp_in (i + 1) Ln) (b2 : vp_in (i + 2) Ln) (b3 : vp_in (i + 3) Ln) (b4 : vp_in (i + 4) Ln) (b5 : vp_in (i + 5) Ln) (I : lw_I G s c f h) (hx : lw_X G s) (e1 : x11_end N s (ky_B G) (xs (Int32.toNatClampNeg (i + 1))) = some (s9, r)) (e2 : md_endO N c (xs (Int32.toNatClampNeg (i + 1))) = some (c9, r)) (K : ∀ f9 h9, lw_I G s9 c9 f9 h9 → ky_V G 61 M_law 2405 [(0, .ref b), (1, .ref ((ky_B G))), (2, .ref ((ky_B G + 24))), (3, .ref ((ky_B G + 37))), (4, .int i)] [] h9 Q) : ky_V G 61 M_law 305 [(0, .ref b), (1, .ref ((ky_B G))), (2, .ref ((ky_B G + 24))), (3, .ref ((ky_B G + 37))), (4, .int i)] [] h Q := by
  refine ky_sub (M := M_law) (M' := M_lc_end) rfl rfl rfl rfl rfl ok_lc_end ?_
  refine v_aload_n (i := 0) (j := 1) rfl rfl (?_ : ky_V _ _ _ 306 _ _ _ _)
  refine v_aload_n (i := 1) (j := 0) rfl rfl (?_ : ky_V _ _ _ 307 _ _ _ _)
  refine v_iload (i := 2) (j := 4) rfl rfl (?_ : ky_V _ _ _ 309 _ _ _ _)
  refine v_iconst (v := 1) (i := 3) rfl (by decide) (?_ : ky_V _ _ _ 310 _ _ _ _)
  refine v_iadd (i := 4) rfl (?_ : ky_V _ _ _ 311 _ _ _ _)
  refine v_sld hX hb b1 (i := 5) rfl (?_ : ky_V _ _ _ 312 _ (.int (xs (Int32.toNatClampNeg (i + 1))) :: _) _ _)
  refine cl_L_118 (As := [.int ((xs (Int32.toNatClampNeg (i + 1))))]) rfl (i := 6) rfl (oc_X11 I.1 hx) rfl rfl (Nat.le_of_ble_eq_true rfl) (k_X11_end N hG I.1 e1 (fun h1 hm1 fr1 => ⟨_, rfl, (?_ : ky_V _ _ _ 315 _ [.int r] _ _)⟩))
  have I1 := I.cls hm1 fr1
  refine v_aload_n (i := 7) (j := 2) rfl rfl (?_ : ky_V _ _ _ 316 _ _ _ _)
  refine v_aload_n (i := 8) (j := 0) rfl rfl (?_ : ky_V _ _ _ 317 _ _ _ _)
  refine v_iload (i := 9) (j := 4) rfl rfl (?_ : ky_V _ _ _ 319 _ _ _ _)
  refine v_iconst (v := 1) (i := 10) rfl (by decide) (?_ : ky_V _ _ _ 320 _ _ _ _)
  refine v_iadd (i := 11) rfl (?_ : ky_V _ _ _ 321 _ _ _ _)
  refine v_sld hX hb b1 (i := 12) rfl (?_ : ky_V _ _ _ 322 _ (.int (xs (Int32.toNatClampNeg (i + 1))) :: _) _ _)
  refine cl_L_122 (As := [.int ((xs (Int32.toNatClampNeg (i + 1))))]) rfl (i := 13) rfl (md_0 I1.2.1) rfl rfl (Nat.le_of_ble_eq_true rfl) (k_X12_endO N I1.2.1 e2 (fun h2 hm2 fr2 => ⟨_, rfl, (?_ : ky_V _ _ _ 325 _ [.int r, .int r] _ _)⟩))
  have I2 := I1.mdl hm2 fr2
  refine v_icmp_eq (tgt := 2405) (i := 14) rfl (by decide) (fun _ => ?_) (fun c => absurd rfl c)
  refine (?_ : ky_V _ _ _ 2405 _ _ _ _)
  refine ky_sub (M := M_lc_end) (M' := M_law) rfl rfl rfl rfl rfl ok_law ?_
  exact K _ _ I2
def tb_lc_beach : List (Nat × Instr × Nat) := [(330, .aload_n 1, 1), (331, .aload_n 3, 1), (332, .invokestatic 123, 3), (335, .istore 5, 2), (337, .aload_n 2, 1), (338, .invokevirtual 128, 3), (341, .istore 6, 2), (343, .aload_n 2, 1), (344, .invokevirtual 129, 3), (347, .iload 5, 2), (349, .if_icmp .eq 5, 3), (352, .iconst 0, 1), (353, .ireturn, 1), (354, .iload 5, 2), (356, .ifCond .ne 15, 3), (359, .aload_n 3, 1), (360, .iconst 0, 1), (361, .laload, 1), (362, .iload 6, 2), (364, .i2l, 1), (365, .lcmp, 1), (366, .ifCond .eq 5, 3), (369, .iconst 0, 1), (370, .ireturn, 1), (371, .goto 2034, 3)]
def M_lc_beach : ky_MT := (x, code, 8, ret, tb_lc_beach, [])
set_option maxRecDepth 100000 in
set_option maxHeartbeats 4000000 in
theorem ok_lc_beach : ky_ok code tb_lc_beach = true := by decide +kernel
set_option maxRecDepth 20000 in
set_option maxHeartbeats 4000000 in
theorem lc_beach {G : ky_GW} {b Ln : Nat} {xs : Nat → Int32} {h : ky_HP} {Q : ky_RS → ky_HP → Prop} {s s9 : sk_S} {c c9 : Nat → Nat → Int32} {f : Nat → Int64} {i : Int32} {r9 : ky_RS} {r : Int32} (N : Nat) (hG : ky_OK G) (hX : va_X b Ln xs G.2.1 G.2.1.heap) (hb : b < ky_B G) (b1 : vp_in (i + 1) Ln) (b2 : vp_in (i + 2) Ln) (b3 : vp_in (i + 3) Ln) (b4 : vp_in (i + 4) Ln) (b5 : vp_in (i + 5) Ln) (I : lw_I G s c f h) (hx : lw_X G s) (e1 : x11_beach N s (ky_B G) = some (s9, r9)) (e2 : md_beach N c = some (c9, r)) (hc : (r9 = .inl (some (.int r)) ∧ c9 0 0 = 0) ∨ (r9 = .inr "java/lang/IllegalArgumentException" ∧ c9 0 0 = 1) ∨ (r9 = .inr "java/lang/UnsupportedOperationException" ∧ c9 0 0 = 2)) (K : ∀ f9 h9, lw_I G s9 c9 f9 h9 → ky_V G 61 M_law 2405 [(0, .ref b), (1, .ref ((ky_B G))), (2, .ref ((ky_B G + 24))), (3, .ref ((ky_B G + 37))), (4, .int i)] [] h9 Q) : ky_V G 61 M_law 330 [(0, .ref b), (1, .ref ((ky_B G))), (2, .ref ((ky_B G + 24))), (3, .ref ((ky_B G + 37))), (4, .int i)] [] h Q := by
  refine ky_sub (M := M_law) (M' := M_lc_beach) rfl rfl rfl rfl rfl ok_lc_beach ?_
  rcases hc with ⟨rfl, ht⟩ | ⟨rfl, ht⟩ | ⟨rfl, ht⟩
  · refine v_aload_n (i := 0) (j := 1) rfl rfl (?_ : ky_V _ _ _ 331 _ _ _ _)
    refine v_aload_n (i := 1) (j := 3) rfl rfl (?_ : ky_V _ _ _ 332 _ _ _ _)
    refine v_callSH (As := [.ref ((ky_B G)), .ref ((ky_B G + 37))]) ch_L_beach (ky_t3 (i := 171) rfl rfl) (ky_t3 (i := 170) rfl rfl) (i := 2) rfl rfl rfl (Nat.le_of_ble_eq_true rfl) (k_L_beach N hG I hx e1 (Or.inl ⟨r, rfl⟩) (fun v h1 f1 z I1 hf => ?_) (fun h1 z I1 => by cases z) (fun h1 z I1 => by cases z))
    cases z
    refine ⟨_, rfl, (?_ : ky_V _ _ _ 335 _ [.int 0] _ _)⟩
    refine v_istore (L' := [(0, .ref b), (1, .ref ((ky_B G))), (2, .ref ((ky_B G + 24))), (3, .ref ((ky_B G + 37))), (4, .int i), (5, .int 0)]) [1, 2, 3, 4, 5, 0] (i := 3) rfl (Nat.le_of_ble_eq_true rfl) rfl (?_ : ky_V _ _ _ 337 _ _ _ _)
    refine v_aload_n (i := 4) (j := 2) rfl rfl (?_ : ky_V _ _ _ 338 _ _ _ _)
    refine cl_L_128 (As := []) rfl (i := 5) rfl (md_0 I1.2.1) rfl rfl (Nat.le_of_ble_eq_true rfl) (k_X12_beach N hG I1.2.1 e2 (fun h2 hm2 fr2 => ⟨_, rfl, (?_ : ky_V _ _ _ 341 _ [.int r] _ _)⟩))
    have I2 := I1.mdl hm2 fr2
    refine v_istore (L' := [(0, .ref b), (1, .ref ((ky_B G))), (2, .ref ((ky_B G + 24))), (3, .ref ((ky_B G + 37))), (4, .int i), (5, .int 0), (6, .int r)]) [1, 2, 3, 4, 5, 6, 0] (i := 6) rfl (Nat.le_of_ble_eq_true rfl) rfl (?_ : ky_V _ _ _ 343 _ _ _ _)
    refine v_aload_n (i := 7) (j := 2) rfl rfl (?_ : ky_V _ _ _ 344 _ _ _ _)
    refine cl_L_129 (As := []) rfl (i := 8) rfl (md_0 I2.2.1) rfl rfl (Nat.le_of_ble_eq_true rfl) (k_X12_thrown I2.2.1 ⟨_, rfl, (?_ : ky_V _ _ _ 347 _ [.int ((md_thrown_r c9))] _ _)⟩)
    refine v_iload (i := 9) (j := 5) rfl rfl (?_ : ky_V _ _ _ 349 _ _ _ _)
    refine v_icmp_eq (tgt := 354) (i := 10) rfl (by decide) (fun _ => ?_) (fun c => absurd ht c)
    refine (?_ : ky_V _ _ _ 354 _ _ _ _)
    refine v_iload (i := 13) (j := 5) rfl rfl (?_ : ky_V _ _ _ 356 _ _ _ _)
    refine v_if_ne (tgt := 371) (i := 14) rfl (by decide) (fun c => absurd c (by decide)) (fun _ => ?_)
    refine (?_ : ky_V _ _ _ 359 _ _ _ _)
    refine v_aload_n (i := 15) (j := 3) rfl rfl (?_ : ky_V _ _ _ 360 _ _ _ _)
    refine v_iconst (v := 0) (i := 16) rfl (by decide) (?_ : ky_V _ _ _ 361 _ _ _ _)
    refine v_lald (i := 17) rfl I2.2.2.1 (ky_inl (by decide)) (?_ : ky_V _ _ _ 362 _ (.long (f1 0) :: _) _ _)
    refine v_iload (i := 18) (j := 6) rfl rfl (?_ : ky_V _ _ _ 364 _ _ _ _)
    refine v_i2l (i := 19) rfl rfl (?_ : ky_V _ _ _ 365 _ _ _ _)
    refine v_lcmp (i := 20) rfl (?_ : ky_V _ _ _ 366 _ _ _ _)
    refine v_if_eq (tgt := 371) (i := 21) rfl (by decide) (fun _ => ?_) (fun c => absurd (by rw [hf]; exact lg_self _) c)
    refine (?_ : ky_V _ _ _ 371 _ _ _ _)
    refine v_goto (tgt := 2405) (i := 24) rfl (by decide) (?_ : ky_V _ _ _ 2405 _ _ _ _)
    refine ky_loc (L' := [(0, .ref b), (1, .ref ((ky_B G))), (2, .ref ((ky_B G + 24))), (3, .ref ((ky_B G + 37))), (4, .int i)]) (by simp) ?_
    refine ky_sub (M := M_lc_beach) (M' := M_law) rfl rfl rfl rfl rfl ok_law ?_
    exact K _ _ I2
  · refine v_aload_n (i := 0) (j := 1) rfl rfl (?_ : ky_V _ _ _ 331 _ _ _ _)
    refine v_aload_n (i := 1) (j := 3) rfl rfl (?_ : ky_V _ _ _ 332 _ _ _ _)
    refine v_callSH (As := [.ref ((ky_B G)), .ref ((ky_B G + 37))]) ch_L_beach (ky_t3 (i := 171) rfl rfl) (ky_t3 (i := 170) rfl rfl) (i := 2) rfl rfl rfl (Nat.le_of_ble_eq_true rfl) (k_L_beach N hG I hx e1 (Or.inr (Or.inl rfl)) (fun v h1 f1 z I1 hf => by cases z) (fun h1 z I1 => ⟨_, rfl, (?_ : ky_V _ _ _ 335 _ [.int 1] _ _)⟩) (fun h1 z I1 => absurd (Sum.inr.inj z) (by decide)))
    refine v_istore (L' := [(0, .ref b), (1, .ref ((ky_B G))), (2, .ref ((ky_B G + 24))), (3, .ref ((ky_B G + 37))), (4, .int i), (5, .int 1)]) [1, 2, 3, 4, 5, 0] (i := 3) rfl (Nat.le_of_ble_eq_true rfl) rfl (?_ : ky_V _ _ _ 337 _ _ _ _)
    refine v_aload_n (i := 4) (j := 2) rfl rfl (?_ : ky_V _ _ _ 338 _ _ _ _)
    refine cl_L_128 (As := []) rfl (i := 5) rfl (md_0 I1.2.1) rfl rfl (Nat.le_of_ble_eq_true rfl) (k_X12_beach N hG I1.2.1 e2 (fun h2 hm2 fr2 => ⟨_, rfl, (?_ : ky_V _ _ _ 341 _ [.int r] _ _)⟩))
    have I2 := I1.mdl hm2 fr2
    refine v_istore (L' := [(0, .ref b), (1, .ref ((ky_B G))), (2, .ref ((ky_B G + 24))), (3, .ref ((ky_B G + 37))), (4, .int i), (5, .int 1), (6, .int r)]) [1, 2, 3, 4, 5, 6, 0] (i := 6) rfl (Nat.le_of_ble_eq_true rfl) rfl (?_ : ky_V _ _ _ 343 _ _ _ _)
    refine v_aload_n (i := 7) (j := 2) rfl rfl (?_ : ky_V _ _ _ 344 _ _ _ _)
    refine cl_L_129 (As := []) rfl (i := 8) rfl (md_0 I2.2.1) rfl rfl (Nat.le_of_ble_eq_true rfl) (k_X12_thrown I2.2.1 ⟨_, rfl, (?_ : ky_V _ _ _ 347 _ [.int ((md_thrown_r c9))] _ _)⟩)
    refine v_iload (i := 9) (j := 5) rfl rfl (?_ : ky_V _ _ _ 349 _ _ _ _)
    refine v_icmp_eq (tgt := 354) (i := 10) rfl (by decide) (fun _ => ?_) (fun c => absurd ht c)
    refine (?_ : ky_V _ _ _ 354 _ _ _ _)
    refine v_iload (i := 13) (j := 5) rfl rfl (?_ : ky_V _ _ _ 356 _ _ _ _)
    refine v_if_ne (tgt := 371) (i := 14) rfl (by decide) (fun _ => ?_) (fun c => absurd c (by decide))
    refine (?_ : ky_V _ _ _ 371 _ _ _ _)
    refine v_goto (tgt := 2405) (i := 24) rfl (by decide) (?_ : ky_V _ _ _ 2405 _ _ _ _)
    refine ky_loc (L' := [(0, .ref b), (1, .ref ((ky_B G))), (2, .ref ((ky_B G + 24))), (3, .ref ((ky_B G + 37))), (4, .int i)]) (by simp) ?_
    refine ky_sub (M := M_lc_beach) (M' := M_law) rfl rfl rfl rfl rfl ok_law ?_
    exact K _ _ I2
  · refine v_aload_n (i := 0) (j := 1) rfl rfl (?_ : ky_V _ _ _ 331 _ _ _ _)
    refine v_aload_n (i := 1) (j := 3) rfl rfl (?_ : ky_V _ _ _ 332 _ _ _ _)
    refine v_callSH (As := [.ref ((ky_B G)), .ref ((ky_B G + 37))]) ch_L_beach (ky_t3 (i := 171) rfl rfl) (ky_t3 (i := 170) rfl rfl) (i := 2) rfl rfl rfl (Nat.le_of_ble_eq_true rfl) (k_L_beach N hG I hx e1 (Or.inr (Or.inr rfl)) (fun v h1 f1 z I1 hf => by cases z) (fun h1 z I1 => absurd (Sum.inr.inj z) (by decide)) (fun h1 z I1 => ⟨_, rfl, (?_ : ky_V _ _ _ 335 _ [.int 2] _ _)⟩))
    refine v_istore (L' := [(0, .ref b), (1, .ref ((ky_B G))), (2, .ref ((ky_B G + 24))), (3, .ref ((ky_B G + 37))), (4, .int i), (5, .int 2)]) [1, 2, 3, 4, 5, 0] (i := 3) rfl (Nat.le_of_ble_eq_true rfl) rfl (?_ : ky_V _ _ _ 337 _ _ _ _)
    refine v_aload_n (i := 4) (j := 2) rfl rfl (?_ : ky_V _ _ _ 338 _ _ _ _)
    refine cl_L_128 (As := []) rfl (i := 5) rfl (md_0 I1.2.1) rfl rfl (Nat.le_of_ble_eq_true rfl) (k_X12_beach N hG I1.2.1 e2 (fun h2 hm2 fr2 => ⟨_, rfl, (?_ : ky_V _ _ _ 341 _ [.int r] _ _)⟩))
    have I2 := I1.mdl hm2 fr2
    refine v_istore (L' := [(0, .ref b), (1, .ref ((ky_B G))), (2, .ref ((ky_B G + 24))), (3, .ref ((ky_B G + 37))), (4, .int i), (5, .int 2), (6, .int r)]) [1, 2, 3, 4, 5, 6, 0] (i := 6) rfl (Nat.le_of_ble_eq_true rfl) rfl (?_ : ky_V _ _ _ 343 _ _ _ _)
    refine v_aload_n (i := 7) (j := 2) rfl rfl (?_ : ky_V _ _ _ 344 _ _ _ _)
    refine cl_L_129 (As := []) rfl (i := 8) rfl (md_0 I2.2.1) rfl rfl (Nat.le_of_ble_eq_true rfl) (k_X12_thrown I2.2.1 ⟨_, rfl, (?_ : ky_V _ _ _ 347 _ [.int ((md_thrown_r c9))] _ _)⟩)
    refine v_iload (i := 9) (j := 5) rfl rfl (?_ : ky_V _ _ _ 349 _ _ _ _)
    refine v_icmp_eq (tgt := 354) (i := 10) rfl (by decide) (fun _ => ?_) (fun c => absurd ht c)
    refine (?_ : ky_V _ _ _ 354 _ _ _ _)
    refine v_iload (i := 13) (j := 5) rfl rfl (?_ : ky_V _ _ _ 356 _ _ _ _)
    refine v_if_ne (tgt := 371) (i := 14) rfl (by decide) (fun _ => ?_) (fun c => absurd c (by decide))
    refine (?_ : ky_V _ _ _ 371 _ _ _ _)
    refine v_goto (tgt := 2405) (i := 24) rfl (by decide) (?_ : ky_V _ _ _ 2405 _ _ _ _)
    refine ky_loc (L' := [(0, .ref b), (1, .ref ((ky_B G))), (2, .ref ((ky_B G + 24))), (3, .ref ((ky_B G + 37))), (4, .int i)]) (by simp) ?_
    refine ky_sub (M := M_lc_beach) (M' := M_law) rfl rfl rfl rfl rfl ok_law ?_
    exact K _ _ I2
def tb_lc_law : List (Nat × Instr × Nat) := [(374, .aload_n 1, 1), (375, .aload_n 3, 1), (376, .invokestatic 132, 3), (379, .istore 5, 2), (381, .aload_n 2, 1), (382, .invokevirtual 134, 3), (385, .istore 6, 2), (387, .aload_n 2, 1), (388, .invokevirtual 129, 3), (391, .iload 5, 2), (393, .if_icmp .eq 5, 3), (396, .iconst 0, 1), (397, .ireturn, 1), (398, .iload 5, 2), (400, .ifCond .ne 15, 3), (403, .aload_n 3, 1), (404, .iconst 0, 1), (405, .laload, 1), (406, .iload 6, 2), (408, .i2l, 1), (409, .lcmp, 1), (410, .ifCond .eq 5, 3), (413, .iconst 0, 1), (414, .ireturn, 1), (415, .goto 1990, 3)]
def M_lc_law : ky_MT := (x, code, 8, ret, tb_lc_law, [])
set_option maxRecDepth 100000 in
set_option maxHeartbeats 4000000 in
theorem ok_lc_law : ky_ok code tb_lc_law = true := by decide +kernel
set_option maxRecDepth 20000 in
set_option maxHeartbeats 4000000 in
theorem lc_law {G : ky_GW} {b Ln : Nat} {xs : Nat → Int32} {h : ky_HP} {Q : ky_RS → ky_HP → Prop} {s s9 : sk_S} {c c9 : Nat → Nat → Int32} {f : Nat → Int64} {i : Int32} {r9 : ky_RS} {r : Int32} (N : Nat) (hG : ky_OK G) (hX : va_X b Ln xs G.2.1 G.2.1.heap) (hb : b < ky_B G) (b1 : vp_in (i + 1) Ln) (b2 : vp_in (i + 2) Ln) (b3 : vp_in (i + 3) Ln) (b4 : vp_in (i + 4) Ln) (b5 : vp_in (i + 5) Ln) (I : lw_I G s c f h) (hx : lw_X G s) (e1 : x11_law N s (ky_B G) = some (s9, r9)) (e2 : md_law N c = some (c9, r)) (hc : (r9 = .inl (some (.int r)) ∧ c9 0 0 = 0) ∨ (r9 = .inr "java/lang/IllegalArgumentException" ∧ c9 0 0 = 1)) (K : ∀ f9 h9, lw_I G s9 c9 f9 h9 → ky_V G 61 M_law 2405 [(0, .ref b), (1, .ref ((ky_B G))), (2, .ref ((ky_B G + 24))), (3, .ref ((ky_B G + 37))), (4, .int i)] [] h9 Q) : ky_V G 61 M_law 374 [(0, .ref b), (1, .ref ((ky_B G))), (2, .ref ((ky_B G + 24))), (3, .ref ((ky_B G + 37))), (4, .int i)] [] h Q := by
  refine ky_sub (M := M_law) (M' := M_lc_law) rfl rfl rfl rfl rfl ok_lc_law ?_
  rcases hc with ⟨rfl, ht⟩ | ⟨rfl, ht⟩
  · refine v_aload_n (i := 0) (j := 1) rfl rfl (?_ : ky_V _ _ _ 375 _ _ _ _)
    refine v_aload_n (i := 1) (j := 3) rfl rfl (?_ : ky_V _ _ _ 376 _ _ _ _)
    refine v_callSH (As := [.ref ((ky_B G)), .ref ((ky_B G + 37))]) ch_L_law (ky_t4 (i := 173) rfl rfl) (ky_t4 (i := 172) rfl rfl) (i := 2) rfl rfl rfl (Nat.le_of_ble_eq_true rfl) (k_L_law N hG I hx e1 (Or.inl ⟨r, rfl⟩) (fun v h1 f1 z I1 hf => ?_) (fun h1 z I1 => by cases z))
    cases z
    refine ⟨_, rfl, (?_ : ky_V _ _ _ 379 _ [.int 0] _ _)⟩
    refine v_istore (L' := [(0, .ref b), (1, .ref ((ky_B G))), (2, .ref ((ky_B G + 24))), (3, .ref ((ky_B G + 37))), (4, .int i), (5, .int 0)]) [1, 2, 3, 4, 5, 0] (i := 3) rfl (Nat.le_of_ble_eq_true rfl) rfl (?_ : ky_V _ _ _ 381 _ _ _ _)
    refine v_aload_n (i := 4) (j := 2) rfl rfl (?_ : ky_V _ _ _ 382 _ _ _ _)
    refine cl_L_134 (As := []) rfl (i := 5) rfl (md_0 I1.2.1) rfl rfl (Nat.le_of_ble_eq_true rfl) (k_X12_law N hG I1.2.1 e2 (fun h2 hm2 fr2 => ⟨_, rfl, (?_ : ky_V _ _ _ 385 _ [.int r] _ _)⟩))
    have I2 := I1.mdl hm2 fr2
    refine v_istore (L' := [(0, .ref b), (1, .ref ((ky_B G))), (2, .ref ((ky_B G + 24))), (3, .ref ((ky_B G + 37))), (4, .int i), (5, .int 0), (6, .int r)]) [1, 2, 3, 4, 5, 6, 0] (i := 6) rfl (Nat.le_of_ble_eq_true rfl) rfl (?_ : ky_V _ _ _ 387 _ _ _ _)
    refine v_aload_n (i := 7) (j := 2) rfl rfl (?_ : ky_V _ _ _ 388 _ _ _ _)
    refine cl_L_129 (As := []) rfl (i := 8) rfl (md_0 I2.2.1) rfl rfl (Nat.le_of_ble_eq_true rfl) (k_X12_thrown I2.2.1 ⟨_, rfl, (?_ : ky_V _ _ _ 391 _ [.int ((md_thrown_r c9))] _ _)⟩)
    refine v_iload (i := 9) (j := 5) rfl rfl (?_ : ky_V _ _ _ 393 _ _ _ _)
    refine v_icmp_eq (tgt := 398) (i := 10) rfl (by decide) (fun _ => ?_) (fun c => absurd ht c)
    refine (?_ : ky_V _ _ _ 398 _ _ _ _)
    refine v_iload (i := 13) (j := 5) rfl rfl (?_ : ky_V _ _ _ 400 _ _ _ _)
    refine v_if_ne (tgt := 415) (i := 14) rfl (by decide) (fun c => absurd c (by decide)) (fun _ => ?_)
    refine (?_ : ky_V _ _ _ 403 _ _ _ _)
    refine v_aload_n (i := 15) (j := 3) rfl rfl (?_ : ky_V _ _ _ 404 _ _ _ _)
    refine v_iconst (v := 0) (i := 16) rfl (by decide) (?_ : ky_V _ _ _ 405 _ _ _ _)
    refine v_lald (i := 17) rfl I2.2.2.1 (ky_inl (by decide)) (?_ : ky_V _ _ _ 406 _ (.long (f1 0) :: _) _ _)
    refine v_iload (i := 18) (j := 6) rfl rfl (?_ : ky_V _ _ _ 408 _ _ _ _)
    refine v_i2l (i := 19) rfl rfl (?_ : ky_V _ _ _ 409 _ _ _ _)
    refine v_lcmp (i := 20) rfl (?_ : ky_V _ _ _ 410 _ _ _ _)
    refine v_if_eq (tgt := 415) (i := 21) rfl (by decide) (fun _ => ?_) (fun c => absurd (by rw [hf]; exact lg_self _) c)
    refine (?_ : ky_V _ _ _ 415 _ _ _ _)
    refine v_goto (tgt := 2405) (i := 24) rfl (by decide) (?_ : ky_V _ _ _ 2405 _ _ _ _)
    refine ky_loc (L' := [(0, .ref b), (1, .ref ((ky_B G))), (2, .ref ((ky_B G + 24))), (3, .ref ((ky_B G + 37))), (4, .int i)]) (by simp) ?_
    refine ky_sub (M := M_lc_law) (M' := M_law) rfl rfl rfl rfl rfl ok_law ?_
    exact K _ _ I2
  · refine v_aload_n (i := 0) (j := 1) rfl rfl (?_ : ky_V _ _ _ 375 _ _ _ _)
    refine v_aload_n (i := 1) (j := 3) rfl rfl (?_ : ky_V _ _ _ 376 _ _ _ _)
    refine v_callSH (As := [.ref ((ky_B G)), .ref ((ky_B G + 37))]) ch_L_law (ky_t4 (i := 173) rfl rfl) (ky_t4 (i := 172) rfl rfl) (i := 2) rfl rfl rfl (Nat.le_of_ble_eq_true rfl) (k_L_law N hG I hx e1 (Or.inr rfl) (fun v h1 f1 z I1 hf => by cases z) (fun h1 z I1 => ⟨_, rfl, (?_ : ky_V _ _ _ 379 _ [.int 1] _ _)⟩))
    refine v_istore (L' := [(0, .ref b), (1, .ref ((ky_B G))), (2, .ref ((ky_B G + 24))), (3, .ref ((ky_B G + 37))), (4, .int i), (5, .int 1)]) [1, 2, 3, 4, 5, 0] (i := 3) rfl (Nat.le_of_ble_eq_true rfl) rfl (?_ : ky_V _ _ _ 381 _ _ _ _)
    refine v_aload_n (i := 4) (j := 2) rfl rfl (?_ : ky_V _ _ _ 382 _ _ _ _)
    refine cl_L_134 (As := []) rfl (i := 5) rfl (md_0 I1.2.1) rfl rfl (Nat.le_of_ble_eq_true rfl) (k_X12_law N hG I1.2.1 e2 (fun h2 hm2 fr2 => ⟨_, rfl, (?_ : ky_V _ _ _ 385 _ [.int r] _ _)⟩))
    have I2 := I1.mdl hm2 fr2
    refine v_istore (L' := [(0, .ref b), (1, .ref ((ky_B G))), (2, .ref ((ky_B G + 24))), (3, .ref ((ky_B G + 37))), (4, .int i), (5, .int 1), (6, .int r)]) [1, 2, 3, 4, 5, 6, 0] (i := 6) rfl (Nat.le_of_ble_eq_true rfl) rfl (?_ : ky_V _ _ _ 387 _ _ _ _)
    refine v_aload_n (i := 7) (j := 2) rfl rfl (?_ : ky_V _ _ _ 388 _ _ _ _)
    refine cl_L_129 (As := []) rfl (i := 8) rfl (md_0 I2.2.1) rfl rfl (Nat.le_of_ble_eq_true rfl) (k_X12_thrown I2.2.1 ⟨_, rfl, (?_ : ky_V _ _ _ 391 _ [.int ((md_thrown_r c9))] _ _)⟩)
    refine v_iload (i := 9) (j := 5) rfl rfl (?_ : ky_V _ _ _ 393 _ _ _ _)
    refine v_icmp_eq (tgt := 398) (i := 10) rfl (by decide) (fun _ => ?_) (fun c => absurd ht c)
    refine (?_ : ky_V _ _ _ 398 _ _ _ _)
    refine v_iload (i := 13) (j := 5) rfl rfl (?_ : ky_V _ _ _ 400 _ _ _ _)
    refine v_if_ne (tgt := 415) (i := 14) rfl (by decide) (fun _ => ?_) (fun c => absurd c (by decide))
    refine (?_ : ky_V _ _ _ 415 _ _ _ _)
    refine v_goto (tgt := 2405) (i := 24) rfl (by decide) (?_ : ky_V _ _ _ 2405 _ _ _ _)
    refine ky_loc (L' := [(0, .ref b), (1, .ref ((ky_B G))), (2, .ref ((ky_B G + 24))), (3, .ref ((ky_B G + 37))), (4, .int i)]) (by simp) ?_
    refine ky_sub (M := M_lc_law) (M' := M_law) rfl rfl rfl rfl rfl ok_law ?_
    exact K _ _ I2
