def tb_lc_stuck : List (Nat × Instr × Nat) := [(1238, .aload_n 1, 1), (1239, .invokevirtual 190, 3), (1242, .aload_n 2, 1), (1243, .invokevirtual 193, 3), (1246, .if_icmp .eq 1159, 3), (1249, .iconst 0, 1), (1250, .ireturn, 1)]
def M_lc_stuck : ky_MT := (x, code, 8, ret, tb_lc_stuck, [])
set_option maxRecDepth 100000 in
set_option maxHeartbeats 4000000 in
theorem ok_lc_stuck : ky_ok code tb_lc_stuck = true := by decide +kernel
set_option maxRecDepth 20000 in
set_option maxHeartbeats 4000000 in
theorem lc_stuck {G : ky_GW} {b Ln : Nat} {xs : Nat → Int32} {h : ky_HP} {Q : ky_RS → ky_HP → Prop} {s s9 : sk_S} {c c9 : Nat → Nat → Int32} {f : Nat → Int64} {i : Int32} {r : Int32} (N : Nat) (hG : ky_OK G) (hX : va_X b Ln xs G.2.1 G.2.1.heap) (hb : b < ky_B G) (b1 : vp_in (i + 1) Ln) (b2 : vp_in (i + 2) Ln) (b3 : vp_in (i + 3) Ln) (b4 : vp_in (i + 4) Ln) (b5 : vp_in (i + 5) Ln) (I : lw_I G s c f h) (hx : lw_X G s) (e1 : x11_stuck N s (ky_B G) = some (s9, r)) (e2 : md_stuck N c = some (c9, r)) (K : ∀ f9 h9, lw_I G s9 c9 f9 h9 → ky_V G 61 M_law 2405 [(0, .ref b), (1, .ref ((ky_B G))), (2, .ref ((ky_B G + 24))), (3, .ref ((ky_B G + 37))), (4, .int i)] [] h9 Q) : ky_V G 61 M_law 1238 [(0, .ref b), (1, .ref ((ky_B G))), (2, .ref ((ky_B G + 24))), (3, .ref ((ky_B G + 37))), (4, .int i)] [] h Q := by
  refine ky_sub (M := M_law) (M' := M_lc_stuck) rfl rfl rfl rfl rfl ok_lc_stuck ?_
  refine v_aload_n (i := 0) (j := 1) rfl rfl (?_ : ky_V _ _ _ 1239 _ _ _ _)
  refine cl_L_190 (As := []) rfl (i := 1) rfl (oc_X11 I.1 hx) rfl rfl (Nat.le_of_ble_eq_true rfl) (k_X11_stuck N hG I.1 e1 (fun h1 hm1 fr1 => ⟨_, rfl, (?_ : ky_V _ _ _ 1242 _ [.int r] _ _)⟩))
  have I1 := I.cls hm1 fr1
  refine v_aload_n (i := 2) (j := 2) rfl rfl (?_ : ky_V _ _ _ 1243 _ _ _ _)
  refine cl_L_193 (As := []) rfl (i := 3) rfl (md_0 I1.2.1) rfl rfl (Nat.le_of_ble_eq_true rfl) (k_X12_stuck N I1.2.1 e2 (fun h2 hm2 fr2 => ⟨_, rfl, (?_ : ky_V _ _ _ 1246 _ [.int r, .int r] _ _)⟩))
  have I2 := I1.mdl hm2 fr2
  refine v_icmp_eq (tgt := 2405) (i := 4) rfl (by decide) (fun _ => ?_) (fun c => absurd rfl c)
  refine (?_ : ky_V _ _ _ 2405 _ _ _ _)
  refine ky_sub (M := M_lc_stuck) (M' := M_law) rfl rfl rfl rfl rfl ok_law ?_
  exact K _ _ I2
def tb_lc_deepest : List (Nat × Instr × Nat) := [(1251, .aload_n 1, 1), (1252, .invokevirtual 194, 3), (1255, .aload_n 2, 1), (1256, .invokevirtual 197, 3), (1259, .if_icmp .eq 1146, 3), (1262, .iconst 0, 1), (1263, .ireturn, 1)]
def M_lc_deepest : ky_MT := (x, code, 8, ret, tb_lc_deepest, [])
set_option maxRecDepth 100000 in
set_option maxHeartbeats 4000000 in
theorem ok_lc_deepest : ky_ok code tb_lc_deepest = true := by decide +kernel
set_option maxRecDepth 20000 in
set_option maxHeartbeats 4000000 in
theorem lc_deepest {G : ky_GW} {b Ln : Nat} {xs : Nat → Int32} {h : ky_HP} {Q : ky_RS → ky_HP → Prop} {s s9 : sk_S} {c c9 : Nat → Nat → Int32} {f : Nat → Int64} {i : Int32} {r : Int32} (N : Nat) (hG : ky_OK G) (hX : va_X b Ln xs G.2.1 G.2.1.heap) (hb : b < ky_B G) (b1 : vp_in (i + 1) Ln) (b2 : vp_in (i + 2) Ln) (b3 : vp_in (i + 3) Ln) (b4 : vp_in (i + 4) Ln) (b5 : vp_in (i + 5) Ln) (I : lw_I G s c f h) (hx : lw_X G s) (e1 : x11_deepest N s (ky_B G) = some (s9, r)) (e2 : md_deepest N c = some (c9, r)) (K : ∀ f9 h9, lw_I G s9 c9 f9 h9 → ky_V G 61 M_law 2405 [(0, .ref b), (1, .ref ((ky_B G))), (2, .ref ((ky_B G + 24))), (3, .ref ((ky_B G + 37))), (4, .int i)] [] h9 Q) : ky_V G 61 M_law 1251 [(0, .ref b), (1, .ref ((ky_B G))), (2, .ref ((ky_B G + 24))), (3, .ref ((ky_B G + 37))), (4, .int i)] [] h Q := by
  refine ky_sub (M := M_law) (M' := M_lc_deepest) rfl rfl rfl rfl rfl ok_lc_deepest ?_
  refine v_aload_n (i := 0) (j := 1) rfl rfl (?_ : ky_V _ _ _ 1252 _ _ _ _)
  refine cl_L_194 (As := []) rfl (i := 1) rfl (oc_X11 I.1 hx) rfl rfl (Nat.le_of_ble_eq_true rfl) (k_X11_deepest N hG I.1 e1 (fun h1 hm1 fr1 => ⟨_, rfl, (?_ : ky_V _ _ _ 1255 _ [.int r] _ _)⟩))
  have I1 := I.cls hm1 fr1
  refine v_aload_n (i := 2) (j := 2) rfl rfl (?_ : ky_V _ _ _ 1256 _ _ _ _)
  refine cl_L_197 (As := []) rfl (i := 3) rfl (md_0 I1.2.1) rfl rfl (Nat.le_of_ble_eq_true rfl) (k_X12_deepest N I1.2.1 e2 (fun h2 hm2 fr2 => ⟨_, rfl, (?_ : ky_V _ _ _ 1259 _ [.int r, .int r] _ _)⟩))
  have I2 := I1.mdl hm2 fr2
  refine v_icmp_eq (tgt := 2405) (i := 4) rfl (by decide) (fun _ => ?_) (fun c => absurd rfl c)
  refine (?_ : ky_V _ _ _ 2405 _ _ _ _)
  refine ky_sub (M := M_lc_deepest) (M' := M_law) rfl rfl rfl rfl rfl ok_law ?_
  exact K _ _ I2
def tb_lc_round : List (Nat × Instr × Nat) := [(1264, .aload_n 1, 1), (1265, .invokevirtual 198, 3), (1268, .aload_n 2, 1), (1269, .invokevirtual 201, 3), (1272, .if_icmp .eq 1133, 3), (1275, .iconst 0, 1), (1276, .ireturn, 1)]
def M_lc_round : ky_MT := (x, code, 8, ret, tb_lc_round, [])
set_option maxRecDepth 100000 in
set_option maxHeartbeats 4000000 in
theorem ok_lc_round : ky_ok code tb_lc_round = true := by decide +kernel
set_option maxRecDepth 20000 in
set_option maxHeartbeats 4000000 in
theorem lc_round {G : ky_GW} {b Ln : Nat} {xs : Nat → Int32} {h : ky_HP} {Q : ky_RS → ky_HP → Prop} {s s9 : sk_S} {c c9 : Nat → Nat → Int32} {f : Nat → Int64} {i : Int32} {r : Int32} (N : Nat) (hG : ky_OK G) (hX : va_X b Ln xs G.2.1 G.2.1.heap) (hb : b < ky_B G) (b1 : vp_in (i + 1) Ln) (b2 : vp_in (i + 2) Ln) (b3 : vp_in (i + 3) Ln) (b4 : vp_in (i + 4) Ln) (b5 : vp_in (i + 5) Ln) (I : lw_I G s c f h) (hx : lw_X G s) (e1 : x11_round N s (ky_B G) = some (s9, r)) (e2 : md_round N c = some (c9, r)) (K : ∀ f9 h9, lw_I G s9 c9 f9 h9 → ky_V G 61 M_law 2405 [(0, .ref b), (1, .ref ((ky_B G))), (2, .ref ((ky_B G + 24))), (3, .ref ((ky_B G + 37))), (4, .int i)] [] h9 Q) : ky_V G 61 M_law 1264 [(0, .ref b), (1, .ref ((ky_B G))), (2, .ref ((ky_B G + 24))), (3, .ref ((ky_B G + 37))), (4, .int i)] [] h Q := by
  refine ky_sub (M := M_law) (M' := M_lc_round) rfl rfl rfl rfl rfl ok_lc_round ?_
  refine v_aload_n (i := 0) (j := 1) rfl rfl (?_ : ky_V _ _ _ 1265 _ _ _ _)
  refine cl_L_198 (As := []) rfl (i := 1) rfl (oc_X11 I.1 hx) rfl rfl (Nat.le_of_ble_eq_true rfl) (k_X11_round N hG I.1 e1 (fun h1 hm1 fr1 => ⟨_, rfl, (?_ : ky_V _ _ _ 1268 _ [.int r] _ _)⟩))
  have I1 := I.cls hm1 fr1
  refine v_aload_n (i := 2) (j := 2) rfl rfl (?_ : ky_V _ _ _ 1269 _ _ _ _)
  refine cl_L_201 (As := []) rfl (i := 3) rfl (md_0 I1.2.1) rfl rfl (Nat.le_of_ble_eq_true rfl) (k_X12_round N I1.2.1 e2 (fun h2 hm2 fr2 => ⟨_, rfl, (?_ : ky_V _ _ _ 1272 _ [.int r, .int r] _ _)⟩))
  have I2 := I1.mdl hm2 fr2
  refine v_icmp_eq (tgt := 2405) (i := 4) rfl (by decide) (fun _ => ?_) (fun c => absurd rfl c)
  refine (?_ : ky_V _ _ _ 2405 _ _ _ _)
  refine ky_sub (M := M_lc_round) (M' := M_law) rfl rfl rfl rfl rfl ok_law ?_
  exact K _ _ I2
def tb_lc_more : List (Nat × Instr × Nat) := [(1277, .aload_n 1, 1), (1278, .invokevirtual 202, 3), (1281, .aload_n 2, 1), (1282, .invokevirtual 205, 3), (1285, .if_icmp .eq 1120, 3), (1288, .iconst 0, 1), (1289, .ireturn, 1)]
def M_lc_more : ky_MT := (x, code, 8, ret, tb_lc_more, [])
set_option maxRecDepth 100000 in
set_option maxHeartbeats 4000000 in
theorem ok_lc_more : ky_ok code tb_lc_more = true := by decide +kernel
set_option maxRecDepth 20000 in
set_option maxHeartbeats 4000000 in
theorem lc_more {G : ky_GW} {b Ln : Nat} {xs : Nat → Int32} {h : ky_HP} {Q : ky_RS → ky_HP → Prop} {s s9 : sk_S} {c c9 : Nat → Nat → Int32} {f : Nat → Int64} {i : Int32} {r : Int32} (N : Nat) (hG : ky_OK G) (hX : va_X b Ln xs G.2.1 G.2.1.heap) (hb : b < ky_B G) (b1 : vp_in (i + 1) Ln) (b2 : vp_in (i + 2) Ln) (b3 : vp_in (i + 3) Ln) (b4 : vp_in (i + 4) Ln) (b5 : vp_in (i + 5) Ln) (I : lw_I G s c f h) (hx : lw_X G s) (e1 : x11_more N s (ky_B G) = some (s9, r)) (e2 : md_more N c = some (c9, r)) (K : ∀ f9 h9, lw_I G s9 c9 f9 h9 → ky_V G 61 M_law 2405 [(0, .ref b), (1, .ref ((ky_B G))), (2, .ref ((ky_B G + 24))), (3, .ref ((ky_B G + 37))), (4, .int i)] [] h9 Q) : ky_V G 61 M_law 1277 [(0, .ref b), (1, .ref ((ky_B G))), (2, .ref ((ky_B G + 24))), (3, .ref ((ky_B G + 37))), (4, .int i)] [] h Q := by
  refine ky_sub (M := M_law) (M' := M_lc_more) rfl rfl rfl rfl rfl ok_lc_more ?_
  refine v_aload_n (i := 0) (j := 1) rfl rfl (?_ : ky_V _ _ _ 1278 _ _ _ _)
  refine cl_L_202 (As := []) rfl (i := 1) rfl (oc_X11 I.1 hx) rfl rfl (Nat.le_of_ble_eq_true rfl) (k_X11_more N hG I.1 e1 (fun h1 hm1 fr1 => ⟨_, rfl, (?_ : ky_V _ _ _ 1281 _ [.int r] _ _)⟩))
  have I1 := I.cls hm1 fr1
  refine v_aload_n (i := 2) (j := 2) rfl rfl (?_ : ky_V _ _ _ 1282 _ _ _ _)
  refine cl_L_205 (As := []) rfl (i := 3) rfl (md_0 I1.2.1) rfl rfl (Nat.le_of_ble_eq_true rfl) (k_X12_more N I1.2.1 e2 (fun h2 hm2 fr2 => ⟨_, rfl, (?_ : ky_V _ _ _ 1285 _ [.int r, .int r] _ _)⟩))
  have I2 := I1.mdl hm2 fr2
  refine v_icmp_eq (tgt := 2405) (i := 4) rfl (by decide) (fun _ => ?_) (fun c => absurd rfl c)
  refine (?_ : ky_V _ _ _ 2405 _ _ _ _)
  refine ky_sub (M := M_lc_more) (M' := M_law) rfl rfl rfl rfl rfl ok_law ?_
  exact K _ _ I2
