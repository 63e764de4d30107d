def tb_lc_soonest : List (Nat × Instr × Nat) := [(1107, .aload_n 1, 1), (1108, .aload_n 0, 1), (1109, .iload 4, 2), (1111, .iconst 1, 1), (1112, .iadd, 1), (1113, .iaload, 1), (1114, .invokevirtual 175, 3), (1117, .aload_n 2, 1), (1118, .aload_n 0, 1), (1119, .iload 4, 2), (1121, .iconst 1, 1), (1122, .iadd, 1), (1123, .iaload, 1), (1124, .invokevirtual 178, 3), (1127, .if_icmp .eq 1278, 3), (1130, .iconst 0, 1), (1131, .ireturn, 1)]
def M_lc_soonest : ky_MT := (x, code, 8, ret, tb_lc_soonest, [])
set_option maxRecDepth 100000 in
set_option maxHeartbeats 4000000 in
theorem ok_lc_soonest : ky_ok code tb_lc_soonest = true := by decide +kernel
set_option maxRecDepth 20000 in
set_option maxHeartbeats 4000000 in
theorem lc_soonest {G : ky_GW} {b Ln : Nat} {xs : Nat → Int32} {h : ky_HP} {Q : ky_RS → ky_HP → Prop} {s s9 : sk_S} {c c9 : Nat → Nat → Int32} {f : Nat → Int64} {i : Int32} {r : Int32} (N : Nat) (hG : ky_OK G) (hX : va_X b Ln xs G.2.1 G.2.1.heap) (hb : b < ky_B G) (b1 : vp_in (i + 1) Ln) (b2 : vp_in (i + 2) Ln) (b3 : vp_in (i + 3) Ln) (b4 : vp_in (i + 4) Ln) (b5 : vp_in (i + 5) Ln) (I : lw_I G s c f h) (hx : lw_X G s) (e1 : x11_soonest N s (ky_B G) (xs (Int32.toNatClampNeg (i + 1))) = some (s9, r)) (e2 : md_soonest N c (xs (Int32.toNatClampNeg (i + 1))) = some (c9, r)) (K : ∀ f9 h9, lw_I G s9 c9 f9 h9 → ky_V G 61 M_law 2405 [(0, .ref b), (1, .ref ((ky_B G))), (2, .ref ((ky_B G + 24))), (3, .ref ((ky_B G + 37))), (4, .int i)] [] h9 Q) : ky_V G 61 M_law 1107 [(0, .ref b), (1, .ref ((ky_B G))), (2, .ref ((ky_B G + 24))), (3, .ref ((ky_B G + 37))), (4, .int i)] [] h Q := by
  refine ky_sub (M := M_law) (M' := M_lc_soonest) rfl rfl rfl rfl rfl ok_lc_soonest ?_
  refine v_aload_n (i := 0) (j := 1) rfl rfl (?_ : ky_V _ _ _ 1108 _ _ _ _)
  refine v_aload_n (i := 1) (j := 0) rfl rfl (?_ : ky_V _ _ _ 1109 _ _ _ _)
  refine v_iload (i := 2) (j := 4) rfl rfl (?_ : ky_V _ _ _ 1111 _ _ _ _)
  refine v_iconst (v := 1) (i := 3) rfl (by decide) (?_ : ky_V _ _ _ 1112 _ _ _ _)
  refine v_iadd (i := 4) rfl (?_ : ky_V _ _ _ 1113 _ _ _ _)
  refine v_sld hX hb b1 (i := 5) rfl (?_ : ky_V _ _ _ 1114 _ (.int (xs (Int32.toNatClampNeg (i + 1))) :: _) _ _)
  refine cl_L_175 (As := [.int ((xs (Int32.toNatClampNeg (i + 1))))]) rfl (i := 6) rfl (oc_X11 I.1 hx) rfl rfl (Nat.le_of_ble_eq_true rfl) (k_X11_soonest N hG I.1 e1 (fun h1 hm1 fr1 => ⟨_, rfl, (?_ : ky_V _ _ _ 1117 _ [.int r] _ _)⟩))
  have I1 := I.cls hm1 fr1
  refine v_aload_n (i := 7) (j := 2) rfl rfl (?_ : ky_V _ _ _ 1118 _ _ _ _)
  refine v_aload_n (i := 8) (j := 0) rfl rfl (?_ : ky_V _ _ _ 1119 _ _ _ _)
  refine v_iload (i := 9) (j := 4) rfl rfl (?_ : ky_V _ _ _ 1121 _ _ _ _)
  refine v_iconst (v := 1) (i := 10) rfl (by decide) (?_ : ky_V _ _ _ 1122 _ _ _ _)
  refine v_iadd (i := 11) rfl (?_ : ky_V _ _ _ 1123 _ _ _ _)
  refine v_sld hX hb b1 (i := 12) rfl (?_ : ky_V _ _ _ 1124 _ (.int (xs (Int32.toNatClampNeg (i + 1))) :: _) _ _)
  refine cl_L_178 (As := [.int ((xs (Int32.toNatClampNeg (i + 1))))]) rfl (i := 13) rfl (md_0 I1.2.1) rfl rfl (Nat.le_of_ble_eq_true rfl) (k_X12_soonest N I1.2.1 e2 (fun h2 hm2 fr2 => ⟨_, rfl, (?_ : ky_V _ _ _ 1127 _ [.int r, .int r] _ _)⟩))
  have I2 := I1.mdl hm2 fr2
  refine v_icmp_eq (tgt := 2405) (i := 14) rfl (by decide) (fun _ => ?_) (fun c => absurd rfl c)
  refine (?_ : ky_V _ _ _ 2405 _ _ _ _)
  refine ky_sub (M := M_lc_soonest) (M' := M_law) rfl rfl rfl rfl rfl ok_law ?_
  exact K _ _ I2
def tb_lc_best : List (Nat × Instr × Nat) := [(1132, .aload_n 1, 1), (1133, .aload_n 0, 1), (1134, .iload 4, 2), (1136, .iconst 1, 1), (1137, .iadd, 1), (1138, .iaload, 1), (1139, .aload_n 0, 1), (1140, .iload 4, 2), (1142, .iconst 2, 1), (1143, .iadd, 1), (1144, .iaload, 1), (1145, .invokevirtual 179, 3), (1148, .aload_n 2, 1), (1149, .aload_n 0, 1), (1150, .iload 4, 2), (1152, .iconst 1, 1), (1153, .iadd, 1), (1154, .iaload, 1), (1155, .aload_n 0, 1), (1156, .iload 4, 2), (1158, .iconst 2, 1), (1159, .iadd, 1), (1160, .iaload, 1), (1161, .invokevirtual 182, 3), (1164, .if_icmp .eq 1241, 3), (1167, .iconst 0, 1), (1168, .ireturn, 1)]
def M_lc_best : ky_MT := (x, code, 8, ret, tb_lc_best, [])
set_option maxRecDepth 100000 in
set_option maxHeartbeats 4000000 in
theorem ok_lc_best : ky_ok code tb_lc_best = true := by decide +kernel
set_option maxRecDepth 20000 in
set_option maxHeartbeats 4000000 in
theorem lc_best {G : ky_GW} {b Ln : Nat} {xs : Nat → Int32} {h : ky_HP} {Q : ky_RS → ky_HP → Prop} {s s9 : sk_S} {c c9 : Nat → Nat → Int32} {f : Nat → Int64} {i : Int32} {r : Int32} (N : Nat) (hG : ky_OK G) (hX : va_X b Ln xs G.2.1 G.2.1.heap) (hb : b < ky_B G) (b1 : vp_in (i + 1) Ln) (b2 : vp_in (i + 2) Ln) (b3 : vp_in (i + 3) Ln) (b4 : vp_in (i + 4) Ln) (b5 : vp_in (i + 5) Ln) (I : lw_I G s c f h) (hx : lw_X G s) (e1 : x11_best N s (ky_B G) (xs (Int32.toNatClampNeg (i + 1))) (xs (Int32.toNatClampNeg (i + 2))) = some (s9, r)) (e2 : md_best N c (xs (Int32.toNatClampNeg (i + 1))) (xs (Int32.toNatClampNeg (i + 2))) = some (c9, r)) (K : ∀ f9 h9, lw_I G s9 c9 f9 h9 → ky_V G 61 M_law 2405 [(0, .ref b), (1, .ref ((ky_B G))), (2, .ref ((ky_B G + 24))), (3, .ref ((ky_B G + 37))), (4, .int i)] [] h9 Q) : ky_V G 61 M_law 1132 [(0, .ref b), (1, .ref ((ky_B G))), (2, .ref ((ky_B G + 24))), (3, .ref ((ky_B G + 37))), (4, .int i)] [] h Q := by
  refine ky_sub (M := M_law) (M' := M_lc_best) rfl rfl rfl rfl rfl ok_lc_best ?_
  refine v_aload_n (i := 0) (j := 1) rfl rfl (?_ : ky_V _ _ _ 1133 _ _ _ _)
  refine v_aload_n (i := 1) (j := 0) rfl rfl (?_ : ky_V _ _ _ 1134 _ _ _ _)
  refine v_iload (i := 2) (j := 4) rfl rfl (?_ : ky_V _ _ _ 1136 _ _ _ _)
  refine v_iconst (v := 1) (i := 3) rfl (by decide) (?_ : ky_V _ _ _ 1137 _ _ _ _)
  refine v_iadd (i := 4) rfl (?_ : ky_V _ _ _ 1138 _ _ _ _)
  refine v_sld hX hb b1 (i := 5) rfl (?_ : ky_V _ _ _ 1139 _ (.int (xs (Int32.toNatClampNeg (i + 1))) :: _) _ _)
  refine v_aload_n (i := 6) (j := 0) rfl rfl (?_ : ky_V _ _ _ 1140 _ _ _ _)
  refine v_iload (i := 7) (j := 4) rfl rfl (?_ : ky_V _ _ _ 1142 _ _ _ _)
  refine v_iconst (v := 2) (i := 8) rfl (by decide) (?_ : ky_V _ _ _ 1143 _ _ _ _)
  refine v_iadd (i := 9) rfl (?_ : ky_V _ _ _ 1144 _ _ _ _)
  refine v_sld hX hb b2 (i := 10) rfl (?_ : ky_V _ _ _ 1145 _ (.int (xs (Int32.toNatClampNeg (i + 2))) :: _) _ _)
  refine cl_L_179 (As := [.int ((xs (Int32.toNatClampNeg (i + 1)))), .int ((xs (Int32.toNatClampNeg (i + 2))))]) rfl (i := 11) rfl (oc_X11 I.1 hx) rfl rfl (Nat.le_of_ble_eq_true rfl) (k_X11_best N hG I.1 e1 (fun h1 hm1 fr1 => ⟨_, rfl, (?_ : ky_V _ _ _ 1148 _ [.int r] _ _)⟩))
  have I1 := I.cls hm1 fr1
  refine v_aload_n (i := 12) (j := 2) rfl rfl (?_ : ky_V _ _ _ 1149 _ _ _ _)
  refine v_aload_n (i := 13) (j := 0) rfl rfl (?_ : ky_V _ _ _ 1150 _ _ _ _)
  refine v_iload (i := 14) (j := 4) rfl rfl (?_ : ky_V _ _ _ 1152 _ _ _ _)
  refine v_iconst (v := 1) (i := 15) rfl (by decide) (?_ : ky_V _ _ _ 1153 _ _ _ _)
  refine v_iadd (i := 16) rfl (?_ : ky_V _ _ _ 1154 _ _ _ _)
  refine v_sld hX hb b1 (i := 17) rfl (?_ : ky_V _ _ _ 1155 _ (.int (xs (Int32.toNatClampNeg (i + 1))) :: _) _ _)
  refine v_aload_n (i := 18) (j := 0) rfl rfl (?_ : ky_V _ _ _ 1156 _ _ _ _)
  refine v_iload (i := 19) (j := 4) rfl rfl (?_ : ky_V _ _ _ 1158 _ _ _ _)
  refine v_iconst (v := 2) (i := 20) rfl (by decide) (?_ : ky_V _ _ _ 1159 _ _ _ _)
  refine v_iadd (i := 21) rfl (?_ : ky_V _ _ _ 1160 _ _ _ _)
  refine v_sld hX hb b2 (i := 22) rfl (?_ : ky_V _ _ _ 1161 _ (.int (xs (Int32.toNatClampNeg (i + 2))) :: _) _ _)
  refine cl_L_182 (As := [.int ((xs (Int32.toNatClampNeg (i + 1)))), .int ((xs (Int32.toNatClampNeg (i + 2))))]) rfl (i := 23) rfl (md_0 I1.2.1) rfl rfl (Nat.le_of_ble_eq_true rfl) (k_X12_best N I1.2.1 e2 (fun h2 hm2 fr2 => ⟨_, rfl, (?_ : ky_V _ _ _ 1164 _ [.int r, .int r] _ _)⟩))
  have I2 := I1.mdl hm2 fr2
  refine v_icmp_eq (tgt := 2405) (i := 24) rfl (by decide) (fun _ => ?_) (fun c => absurd rfl c)
  refine (?_ : ky_V _ _ _ 2405 _ _ _ _)
  refine ky_sub (M := M_lc_best) (M' := M_law) rfl rfl rfl rfl rfl ok_law ?_
  exact K _ _ I2
def tb_lc_latest : List (Nat × Instr × Nat) := [(1169, .aload_n 1, 1), (1170, .invokevirtual 183, 3), (1173, .aload_n 2, 1), (1174, .invokevirtual 186, 3), (1177, .if_icmp .eq 1228, 3), (1180, .iconst 0, 1), (1181, .ireturn, 1)]
def M_lc_latest : ky_MT := (x, code, 8, ret, tb_lc_latest, [])
set_option maxRecDepth 100000 in
set_option maxHeartbeats 4000000 in
theorem ok_lc_latest : ky_ok code tb_lc_latest = true := by decide +kernel
set_option maxRecDepth 20000 in
set_option maxHeartbeats 4000000 in
theorem lc_latest {G : ky_GW} {b Ln : Nat} {xs : Nat → Int32} {h : ky_HP} {Q : ky_RS → ky_HP → Prop} {s s9 : sk_S} {c c9 : Nat → Nat → Int32} {f : Nat → Int64} {i : Int32} {r : Int32} (N : Nat) (hG : ky_OK G) (hX : va_X b Ln xs G.2.1 G.2.1.heap) (hb : b < ky_B G) (b1 : vp_in (i + 1) Ln) (b2 : vp_in (i + 2) Ln) (b3 : vp_in (i + 3) Ln) (b4 : vp_in (i + 4) Ln) (b5 : vp_in (i + 5) Ln) (I : lw_I G s c f h) (hx : lw_X G s) (e1 : x11_latest N s (ky_B G) = some (s9, r)) (e2 : md_latest N c = some (c9, r)) (K : ∀ f9 h9, lw_I G s9 c9 f9 h9 → ky_V G 61 M_law 2405 [(0, .ref b), (1, .ref ((ky_B G))), (2, .ref ((ky_B G + 24))), (3, .ref ((ky_B G + 37))), (4, .int i)] [] h9 Q) : ky_V G 61 M_law 1169 [(0, .ref b), (1, .ref ((ky_B G))), (2, .ref ((ky_B G + 24))), (3, .ref ((ky_B G + 37))), (4, .int i)] [] h Q := by
  refine ky_sub (M := M_law) (M' := M_lc_latest) rfl rfl rfl rfl rfl ok_lc_latest ?_
  refine v_aload_n (i := 0) (j := 1) rfl rfl (?_ : ky_V _ _ _ 1170 _ _ _ _)
  refine cl_L_183 (As := []) rfl (i := 1) rfl (oc_X11 I.1 hx) rfl rfl (Nat.le_of_ble_eq_true rfl) (k_X11_latest N hG I.1 e1 (fun h1 hm1 fr1 => ⟨_, rfl, (?_ : ky_V _ _ _ 1173 _ [.int r] _ _)⟩))
  have I1 := I.cls hm1 fr1
  refine v_aload_n (i := 2) (j := 2) rfl rfl (?_ : ky_V _ _ _ 1174 _ _ _ _)
  refine cl_L_186 (As := []) rfl (i := 3) rfl (md_0 I1.2.1) rfl rfl (Nat.le_of_ble_eq_true rfl) (k_X12_latest N I1.2.1 e2 (fun h2 hm2 fr2 => ⟨_, rfl, (?_ : ky_V _ _ _ 1177 _ [.int r, .int r] _ _)⟩))
  have I2 := I1.mdl hm2 fr2
  refine v_icmp_eq (tgt := 2405) (i := 4) rfl (by decide) (fun _ => ?_) (fun c => absurd rfl c)
  refine (?_ : ky_V _ _ _ 2405 _ _ _ _)
  refine ky_sub (M := M_lc_latest) (M' := M_law) rfl rfl rfl rfl rfl ok_law ?_
  exact K _ _ I2
def tb_lc_worth : List (Nat × Instr × Nat) := [(1182, .aload_n 1, 1), (1183, .aload_n 0, 1), (1184, .iload 4, 2), (1186, .iconst 1, 1), (1187, .iadd, 1), (1188, .iaload, 1), (1189, .aload_n 3, 1), (1190, .invokestatic 187, 3), (1193, .istore 5, 2), (1195, .aload_n 2, 1), (1196, .aload_n 0, 1), (1197, .iload 4, 2), (1199, .iconst 1, 1), (1200, .iadd, 1), (1201, .iaload, 1), (1202, .invokevirtual 189, 3), (1205, .istore 6, 2), (1207, .aload_n 2, 1), (1208, .invokevirtual 129, 3), (1211, .iload 5, 2), (1213, .if_icmp .eq 5, 3), (1216, .iconst 0, 1), (1217, .ireturn, 1), (1218, .iload 5, 2), (1220, .ifCond .ne 15, 3), (1223, .aload_n 3, 1), (1224, .iconst 0, 1), (1225, .laload, 1), (1226, .iload 6, 2), (1228, .i2l, 1), (1229, .lcmp, 1), (1230, .ifCond .eq 5, 3), (1233, .iconst 0, 1), (1234, .ireturn, 1), (1235, .goto 1170, 3)]
def M_lc_worth : ky_MT := (x, code, 8, ret, tb_lc_worth, [])
set_option maxRecDepth 100000 in
set_option maxHeartbeats 4000000 in
theorem ok_lc_worth : ky_ok code tb_lc_worth = true := by decide +kernel
set_option maxRecDepth 20000 in
set_option maxHeartbeats 4000000 in
theorem lc_worth {G : ky_GW} {b Ln : Nat} {xs : Nat → Int32} {h : ky_HP} {Q : ky_RS → ky_HP → Prop} {s s9 : sk_S} {c c9 : Nat → Nat → Int32} {f : Nat → Int64} {i : Int32} {r9 : ky_RS} {r : Int32} (N : Nat) (hG : ky_OK G) (hX : va_X b Ln xs G.2.1 G.2.1.heap) (hb : b < ky_B G) (b1 : vp_in (i + 1) Ln) (b2 : vp_in (i + 2) Ln) (b3 : vp_in (i + 3) Ln) (b4 : vp_in (i + 4) Ln) (b5 : vp_in (i + 5) Ln) (I : lw_I G s c f h) (hx : lw_X G s) (e1 : x11_worth N s (ky_B G) (xs (Int32.toNatClampNeg (i + 1))) = some (s9, r9)) (e2 : md_worth N c (xs (Int32.toNatClampNeg (i + 1))) = some (c9, r)) (hc : (r9 = .inl (some (.int r)) ∧ c9 0 0 = 0) ∨ (r9 = .inr "java/util/NoSuchElementException" ∧ c9 0 0 = 1)) (K : ∀ f9 h9, lw_I G s9 c9 f9 h9 → ky_V G 61 M_law 2405 [(0, .ref b), (1, .ref ((ky_B G))), (2, .ref ((ky_B G + 24))), (3, .ref ((ky_B G + 37))), (4, .int i)] [] h9 Q) : ky_V G 61 M_law 1182 [(0, .ref b), (1, .ref ((ky_B G))), (2, .ref ((ky_B G + 24))), (3, .ref ((ky_B G + 37))), (4, .int i)] [] h Q := by
  refine ky_sub (M := M_law) (M' := M_lc_worth) rfl rfl rfl rfl rfl ok_lc_worth ?_
  rcases hc with ⟨rfl, ht⟩ | ⟨rfl, ht⟩
  · refine v_aload_n (i := 0) (j := 1) rfl rfl (?_ : ky_V _ _ _ 1183 _ _ _ _)
    refine v_aload_n (i := 1) (j := 0) rfl rfl (?_ : ky_V _ _ _ 1184 _ _ _ _)
    refine v_iload (i := 2) (j := 4) rfl rfl (?_ : ky_V _ _ _ 1186 _ _ _ _)
    refine v_iconst (v := 1) (i := 3) rfl (by decide) (?_ : ky_V _ _ _ 1187 _ _ _ _)
    refine v_iadd (i := 4) rfl (?_ : ky_V _ _ _ 1188 _ _ _ _)
    refine v_sld hX hb b1 (i := 5) rfl (?_ : ky_V _ _ _ 1189 _ (.int (xs (Int32.toNatClampNeg (i + 1))) :: _) _ _)
    refine v_aload_n (i := 6) (j := 3) rfl rfl (?_ : ky_V _ _ _ 1190 _ _ _ _)
    refine v_callSH (As := [.ref ((ky_B G)), .int ((xs (Int32.toNatClampNeg (i + 1)))), .ref ((ky_B G + 37))]) ch_L_worth (ky_t6 (i := 79) rfl rfl) (ky_t6 (i := 78) rfl rfl) (i := 7) rfl rfl rfl (Nat.le_of_ble_eq_true rfl) (k_L_worth N hG I hx e1 (Or.inl ⟨r, rfl⟩) (fun v h1 f1 z I1 hf => ?_) (fun h1 z I1 => by cases z))
    cases z
    refine ⟨_, rfl, (?_ : ky_V _ _ _ 1193 _ [.int 0] _ _)⟩
    refine v_istore (L' := [(0, .ref b), (1, .ref ((ky_B G))), (2, .ref ((ky_B G + 24))), (3, .ref ((ky_B G + 37))), (4, .int i), (5, .int 0)]) [1, 2, 3, 4, 5, 0] (i := 8) rfl (Nat.le_of_ble_eq_true rfl) rfl (?_ : ky_V _ _ _ 1195 _ _ _ _)
    refine v_aload_n (i := 9) (j := 2) rfl rfl (?_ : ky_V _ _ _ 1196 _ _ _ _)
    refine v_aload_n (i := 10) (j := 0) rfl rfl (?_ : ky_V _ _ _ 1197 _ _ _ _)
    refine v_iload (i := 11) (j := 4) rfl rfl (?_ : ky_V _ _ _ 1199 _ _ _ _)
    refine v_iconst (v := 1) (i := 12) rfl (by decide) (?_ : ky_V _ _ _ 1200 _ _ _ _)
    refine v_iadd (i := 13) rfl (?_ : ky_V _ _ _ 1201 _ _ _ _)
    refine v_sld hX hb b1 (i := 14) rfl (?_ : ky_V _ _ _ 1202 _ (.int (xs (Int32.toNatClampNeg (i + 1))) :: _) _ _)
    refine cl_L_189 (As := [.int ((xs (Int32.toNatClampNeg (i + 1))))]) rfl (i := 15) rfl (md_0 I1.2.1) rfl rfl (Nat.le_of_ble_eq_true rfl) (k_X12_worth N I1.2.1 e2 (fun h2 hm2 fr2 => ⟨_, rfl, (?_ : ky_V _ _ _ 1205 _ [.int r] _ _)⟩))
    have I2 := I1.mdl hm2 fr2
    refine v_istore (L' := [(0, .ref b), (1, .ref ((ky_B G))), (2, .ref ((ky_B G + 24))), (3, .ref ((ky_B G + 37))), (4, .int i), (5, .int 0), (6, .int r)]) [1, 2, 3, 4, 5, 6, 0] (i := 16) rfl (Nat.le_of_ble_eq_true rfl) rfl (?_ : ky_V _ _ _ 1207 _ _ _ _)
    refine v_aload_n (i := 17) (j := 2) rfl rfl (?_ : ky_V _ _ _ 1208 _ _ _ _)
    refine cl_L_129 (As := []) rfl (i := 18) rfl (md_0 I2.2.1) rfl rfl (Nat.le_of_ble_eq_true rfl) (k_X12_thrown I2.2.1 ⟨_, rfl, (?_ : ky_V _ _ _ 1211 _ [.int ((md_thrown_r c9))] _ _)⟩)
    refine v_iload (i := 19) (j := 5) rfl rfl (?_ : ky_V _ _ _ 1213 _ _ _ _)
    refine v_icmp_eq (tgt := 1218) (i := 20) rfl (by decide) (fun _ => ?_) (fun c => absurd ht c)
    refine (?_ : ky_V _ _ _ 1218 _ _ _ _)
    refine v_iload (i := 23) (j := 5) rfl rfl (?_ : ky_V _ _ _ 1220 _ _ _ _)
    refine v_if_ne (tgt := 1235) (i := 24) rfl (by decide) (fun c => absurd c (by decide)) (fun _ => ?_)
    refine (?_ : ky_V _ _ _ 1223 _ _ _ _)
    refine v_aload_n (i := 25) (j := 3) rfl rfl (?_ : ky_V _ _ _ 1224 _ _ _ _)
    refine v_iconst (v := 0) (i := 26) rfl (by decide) (?_ : ky_V _ _ _ 1225 _ _ _ _)
    refine v_lald (i := 27) rfl I2.2.2.1 (ky_inl (by decide)) (?_ : ky_V _ _ _ 1226 _ (.long (f1 0) :: _) _ _)
    refine v_iload (i := 28) (j := 6) rfl rfl (?_ : ky_V _ _ _ 1228 _ _ _ _)
    refine v_i2l (i := 29) rfl rfl (?_ : ky_V _ _ _ 1229 _ _ _ _)
    refine v_lcmp (i := 30) rfl (?_ : ky_V _ _ _ 1230 _ _ _ _)
    refine v_if_eq (tgt := 1235) (i := 31) rfl (by decide) (fun _ => ?_) (fun c => absurd (by rw [hf]; exact lg_self _) c)
    refine (?_ : ky_V _ _ _ 1235 _ _ _ _)
    refine v_goto (tgt := 2405) (i := 34) rfl (by decide) (?_ : ky_V _ _ _ 2405 _ _ _ _)
    refine ky_loc (L' := [(0, .ref b), (1, .ref ((ky_B G))), (2, .ref ((ky_B G + 24))), (3, .ref ((ky_B G + 37))), (4, .int i)]) (by simp) ?_
    refine ky_sub (M := M_lc_worth) (M' := M_law) rfl rfl rfl rfl rfl ok_law ?_
    exact K _ _ I2
  · refine v_aload_n (i := 0) (j := 1) rfl rfl (?_ : ky_V _ _ _ 1183 _ _ _ _)
    refine v_aload_n (i := 1) (j := 0) rfl rfl (?_ : ky_V _ _ _ 1184 _ _ _ _)
    refine v_iload (i := 2) (j := 4) rfl rfl (?_ : ky_V _ _ _ 1186 _ _ _ _)
    refine v_iconst (v := 1) (i := 3) rfl (by decide) (?_ : ky_V _ _ _ 1187 _ _ _ _)
    refine v_iadd (i := 4) rfl (?_ : ky_V _ _ _ 1188 _ _ _ _)
    refine v_sld hX hb b1 (i := 5) rfl (?_ : ky_V _ _ _ 1189 _ (.int (xs (Int32.toNatClampNeg (i + 1))) :: _) _ _)
    refine v_aload_n (i := 6) (j := 3) rfl rfl (?_ : ky_V _ _ _ 1190 _ _ _ _)
    refine v_callSH (As := [.ref ((ky_B G)), .int ((xs (Int32.toNatClampNeg (i + 1)))), .ref ((ky_B G + 37))]) ch_L_worth (ky_t6 (i := 79) rfl rfl) (ky_t6 (i := 78) rfl rfl) (i := 7) rfl rfl rfl (Nat.le_of_ble_eq_true rfl) (k_L_worth N hG I hx e1 (Or.inr rfl) (fun v h1 f1 z I1 hf => by cases z) (fun h1 z I1 => ⟨_, rfl, (?_ : ky_V _ _ _ 1193 _ [.int 1] _ _)⟩))
    refine v_istore (L' := [(0, .ref b), (1, .ref ((ky_B G))), (2, .ref ((ky_B G + 24))), (3, .ref ((ky_B G + 37))), (4, .int i), (5, .int 1)]) [1, 2, 3, 4, 5, 0] (i := 8) rfl (Nat.le_of_ble_eq_true rfl) rfl (?_ : ky_V _ _ _ 1195 _ _ _ _)
    refine v_aload_n (i := 9) (j := 2) rfl rfl (?_ : ky_V _ _ _ 1196 _ _ _ _)
    refine v_aload_n (i := 10) (j := 0) rfl rfl (?_ : ky_V _ _ _ 1197 _ _ _ _)
    refine v_iload (i := 11) (j := 4) rfl rfl (?_ : ky_V _ _ _ 1199 _ _ _ _)
    refine v_iconst (v := 1) (i := 12) rfl (by decide) (?_ : ky_V _ _ _ 1200 _ _ _ _)
    refine v_iadd (i := 13) rfl (?_ : ky_V _ _ _ 1201 _ _ _ _)
    refine v_sld hX hb b1 (i := 14) rfl (?_ : ky_V _ _ _ 1202 _ (.int (xs (Int32.toNatClampNeg (i + 1))) :: _) _ _)
    refine cl_L_189 (As := [.int ((xs (Int32.toNatClampNeg (i + 1))))]) rfl (i := 15) rfl (md_0 I1.2.1) rfl rfl (Nat.le_of_ble_eq_true rfl) (k_X12_worth N I1.2.1 e2 (fun h2 hm2 fr2 => ⟨_, rfl, (?_ : ky_V _ _ _ 1205 _ [.int r] _ _)⟩))
    have I2 := I1.mdl hm2 fr2
    refine v_istore (L' := [(0, .ref b), (1, .ref ((ky_B G))), (2, .ref ((ky_B G + 24))), (3, .ref ((ky_B G + 37))), (4, .int i), (5, .int 1), (6, .int r)]) [1, 2, 3, 4, 5, 6, 0] (i := 16) rfl (Nat.le_of_ble_eq_true rfl) rfl (?_ : ky_V _ _ _ 1207 _ _ _ _)
    refine v_aload_n (i := 17) (j := 2) rfl rfl (?_ : ky_V _ _ _ 1208 _ _ _ _)
    refine cl_L_129 (As := []) rfl (i := 18) rfl (md_0 I2.2.1) rfl rfl (Nat.le_of_ble_eq_true rfl) (k_X12_thrown I2.2.1 ⟨_, rfl, (?_ : ky_V _ _ _ 1211 _ [.int ((md_thrown_r c9))] _ _)⟩)
    refine v_iload (i := 19) (j := 5) rfl rfl (?_ : ky_V _ _ _ 1213 _ _ _ _)
    refine v_icmp_eq (tgt := 1218) (i := 20) rfl (by decide) (fun _ => ?_) (fun c => absurd ht c)
    refine (?_ : ky_V _ _ _ 1218 _ _ _ _)
    refine v_iload (i := 23) (j := 5) rfl rfl (?_ : ky_V _ _ _ 1220 _ _ _ _)
    refine v_if_ne (tgt := 1235) (i := 24) rfl (by decide) (fun _ => ?_) (fun c => absurd c (by decide))
    refine (?_ : ky_V _ _ _ 1235 _ _ _ _)
    refine v_goto (tgt := 2405) (i := 34) rfl (by decide) (?_ : ky_V _ _ _ 2405 _ _ _ _)
    refine ky_loc (L' := [(0, .ref b), (1, .ref ((ky_B G))), (2, .ref ((ky_B G + 24))), (3, .ref ((ky_B G + 37))), (4, .int i)]) (by simp) ?_
    refine ky_sub (M := M_lc_worth) (M' := M_law) rfl rfl rfl rfl rfl ok_law ?_
    exact K _ _ I2
