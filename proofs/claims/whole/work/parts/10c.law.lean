def tb_law : List (Nat × Instr × Nat) := [(0, .new 8, 3), (3, .dup, 1), (4, .invokespecial 109, 3), (7, .astore_n 1, 1), (8, .new 110, 3), (11, .dup, 1), (12, .invokespecial 112, 3), (15, .astore_n 2, 1), (16, .iconst 1, 1), (17, .newarray .long, 2), (19, .astore_n 3, 1), (20, .iconst 0, 1), (21, .istore 4, 2), (23, .iload 4, 2), (25, .aload_n 0, 1), (26, .arraylength, 1), (27, .bipush 6, 2), (29, .isub, 1), (30, .if_icmp .gt 2381, 3), (33, .aload_n 0, 1), (34, .iload 4, 2), (36, .iaload, 1), (37, .bipush 63, 2), (39, .iand, 1), (40, .tableswitch 2365 0 43 #[192, 265, 290, 334, 378, 391, 459, 527, 595, 663, 719, 763, 807, 875, 931, 987, 1067, 1092, 1129, 1142, 1198, 1211, 1224, 1237, 1250, 1318, 1393, 1477, 1573, 1656, 1724, 1808, 1822, 1890, 1945, 1958, 2042, 2126, 2210, 2278, 2303, 2316, 2327, 2340], 192), (2405, .iinc 4 6, 3), (2408, .goto (-2385), 3), (2411, .iconst 1, 1), (2412, .ireturn, 1)]
def M_law : ky_MT := (x, code, 8, ret, tb_law, [])
set_option maxRecDepth 100000 in
set_option maxHeartbeats 4000000 in
theorem ok_law : ky_ok code tb_law = true := by decide +kernel
/-- the same method by another table of its instructions -/
theorem ky_sub {G : ky_GW} {d : Nat} {M M' : ky_MT} {pc : Nat} {L : List (Nat × Value)} {S : List Value} {h : ky_HP} {Q : ky_RS → ky_HP → Prop} (h1 : M'.1 = M.1) (h2 : M'.2.1 = M.2.1) (h3 : M'.2.2.1 = M.2.2.1) (h4 : M'.2.2.2.1 = M.2.2.2.1) (h5 : M'.2.2.2.2.2 = M.2.2.2.2.2) (hok : ky_ok M'.2.1 M'.2.2.2.2.1 = true) (K : ky_V G d M' pc L S h Q) : ky_V G d M pc L S h Q := by
  obtain ⟨r, h', hQ, m1, m2, hr⟩ := K
  refine ⟨r, h', hQ, m1, m2, ?_⟩
  intro p e R s m args below meth c H locs cells slots ls X hl hH hL hc hs
  obtain ⟨x1, x2, x3, x4, x5, x6, x7, x8, x9, x10, x11, x12⟩ := X
  exact hr p e R s m args below meth c H locs cells slots ls ⟨x1, x2, x3.trans h2.symm, x4.trans h3.symm, x5.trans h4.symm, hok, by rw [h1]; exact x7, x8, x9, by rw [h1]; exact x10, by rw [h5]; exact x11, x12⟩ (by rw [h3]; exact hl) hH hL hc hs
def md_endO (N : Nat) (c : Nat → Nat → Int32) (p0 : Int32) : Option ((Nat → Nat → Int32) × Int32) := some (md_end_c c p0, md_end_r c p0)
theorem k_X12_endO {G : ky_GW} {d : Nat} {h : ky_HP} {Q : ky_RS → ky_HP → Prop} {a : Nat} {c c9 : Nat → Nat → Int32} {r9 : Int32} {p0 : Int32} (N : Nat) (hm : md_at G h a c) (e : md_endO N c p0 = some (c9, r9)) (hr : ∀ h1, md_at G h1 a c9 → bk_fr a 13 h h1 → Q (.inl (some (.int r9))) h1) : ky_Call G (d + 0) M_X12_end [.ref a, .int p0] h Q := by
  unfold md_endO at e
  obtain ⟨rfl, rfl⟩ := ky_leaf e
  exact k_X12_end p0 hm hr
def md_faultO (N : Nat) (c : Nat → Nat → Int32) : Option ((Nat → Nat → Int32) × Int32) := some (md_fault_c c, md_fault_r c)
theorem k_X12_faultO {G : ky_GW} {d : Nat} {h : ky_HP} {Q : ky_RS → ky_HP → Prop} {a : Nat} {c c9 : Nat → Nat → Int32} {r9 : Int32} (N : Nat) (hm : md_at G h a c) (e : md_faultO N c = some (c9, r9)) (hr : ∀ h1, md_at G h1 a c9 → bk_fr a 13 h h1 → Q (.inl (some (.int r9))) h1) : ky_Call G (d + 0) M_X12_fault [.ref a] h Q := by
  unfold md_faultO at e
  obtain ⟨rfl, rfl⟩ := ky_leaf e
  exact k_X12_fault hm hr
def md_seedO (N : Nat) (c : Nat → Nat → Int32) (p0 : Int32) : Option ((Nat → Nat → Int32) × Int32) := some (md_seed_c c p0, md_seed_r c p0)
theorem k_X12_seedO {G : ky_GW} {d : Nat} {h : ky_HP} {Q : ky_RS → ky_HP → Prop} {a : Nat} {c c9 : Nat → Nat → Int32} {r9 : Int32} {p0 : Int32} (N : Nat) (hm : md_at G h a c) (e : md_seedO N c p0 = some (c9, r9)) (hr : ∀ h1, md_at G h1 a c9 → bk_fr a 13 h h1 → Q (.inl (some (.int r9))) h1) : ky_Call G (d + 0) M_X12_seed [.ref a, .int p0] h Q := by
  unfold md_seedO at e
  obtain ⟨rfl, rfl⟩ := ky_leaf e
  exact k_X12_seed p0 hm hr
def md_logO (N : Nat) (c : Nat → Nat → Int32) (p0 : Int32) (p1 : Int32) : Option ((Nat → Nat → Int32) × Int32) := if ((¬ ((md_in p1 0 4) = 0)) → ((md_throwsIf_r (bk_w c 0 0 0) 0 1) = 0) → (¬ ((md_in p0 0 (((md_throwsIf_c (bk_w c 0 0 0) 0 1) 1 15) - 1)) = 0)) → ky_inB ((249 + (5 * p0)) + p1) 2247 = true) then if (((md_in p1 0 4) = 0) → ((md_throwsIf_r (bk_w c 0 0 0) 1 1) = 0) → (¬ ((md_in p0 0 (((md_throwsIf_c (bk_w c 0 0 0) 1 1) 1 15) - 1)) = 0)) → ky_inB ((249 + (5 * p0)) + p1) 2247 = true) then some (md_log_c c p0 p1, md_log_r c p0 p1) else none else none
theorem k_X12_logO {G : ky_GW} {d : Nat} {h : ky_HP} {Q : ky_RS → ky_HP → Prop} {a : Nat} {c c9 : Nat → Nat → Int32} {r9 : Int32} {p0 : Int32} {p1 : Int32} (N : Nat) (hm : md_at G h a c) (e : md_logO N c p0 p1 = some (c9, r9)) (hr : ∀ h1, md_at G h1 a c9 → bk_fr a 13 h h1 → Q (.inl (some (.int r9))) h1) : ky_Call G (d + 1) M_X12_log [.ref a, .int p0, .int p1] h Q := by
  unfold md_logO at e
  obtain ⟨z0, e⟩ := ky_chkE e
  obtain ⟨z1, e⟩ := ky_chkE e
  obtain ⟨rfl, rfl⟩ := ky_leaf e
  exact k_X12_log p0 p1 hm (fun y0 y1 y2 => ky_inb (z0 y0 y1 y2)) (fun y0 y1 y2 => ky_inb (z1 y0 y1 y2)) hr
theorem lg_self (v : Int64) : lg_cmp v v = 0 := by unfold lg_cmp; simp
set_option maxRecDepth 100000 in
set_option maxHeartbeats 4000000 in
theorem ch_L_beach : ky_CH M_L_beach 2 := ⟨ky_t3 (i := 172) rfl rfl, ky_t1 (i := 0) rfl rfl, ⟨by decide, by decide, by decide +kernel⟩, by decide⟩
set_option maxRecDepth 100000 in
set_option maxHeartbeats 4000000 in
theorem ch_L_law : ky_CH M_L_law 2 := ⟨ky_t4 (i := 174) rfl rfl, ky_t1 (i := 0) rfl rfl, ⟨by decide, by decide, by decide +kernel⟩, by decide⟩
set_option maxRecDepth 100000 in
set_option maxHeartbeats 4000000 in
theorem ch_L_move : ky_CH M_L_move 4 := ⟨ky_t5 (i := 45) rfl rfl, ky_t1 (i := 0) rfl rfl, ⟨by decide, by decide, by decide +kernel⟩, by decide⟩
set_option maxRecDepth 100000 in
set_option maxHeartbeats 4000000 in
theorem ch_L_cell : ky_CH M_L_cell 4 := ⟨ky_t5 (i := 97) rfl rfl, ky_t1 (i := 0) rfl rfl, ⟨by decide, by decide, by decide +kernel⟩, by decide⟩
set_option maxRecDepth 100000 in
set_option maxHeartbeats 4000000 in
theorem ch_L_person : ky_CH M_L_person 4 := ⟨ky_t5 (i := 115) rfl rfl, ky_t1 (i := 0) rfl rfl, ⟨by decide, by decide, by decide +kernel⟩, by decide⟩
set_option maxRecDepth 100000 in
set_option maxHeartbeats 4000000 in
theorem ch_L_moved : ky_CH M_L_moved 4 := ⟨ky_t5 (i := 152) rfl rfl, ky_t1 (i := 0) rfl rfl, ⟨by decide, by decide, by decide +kernel⟩, by decide⟩
set_option maxRecDepth 100000 in
set_option maxHeartbeats 4000000 in
theorem ch_L_pull : ky_CH M_L_pull 3 := ⟨ky_t5 (i := 225) rfl rfl, ky_t1 (i := 0) rfl rfl, ⟨by decide, by decide, by decide +kernel⟩, by decide⟩
set_option maxRecDepth 100000 in
set_option maxHeartbeats 4000000 in
theorem ch_L_talk : ky_CH M_L_talk 2 := ⟨ky_t6 (i := 15) rfl rfl, ky_t1 (i := 0) rfl rfl, ⟨by decide, by decide, by decide +kernel⟩, by decide⟩
set_option maxRecDepth 100000 in
set_option maxHeartbeats 4000000 in
theorem ch_L_pour : ky_CH M_L_pour 2 := ⟨ky_t6 (i := 27) rfl rfl, ky_t1 (i := 0) rfl rfl, ⟨by decide, by decide, by decide +kernel⟩, by decide⟩
set_option maxRecDepth 100000 in
set_option maxHeartbeats 4000000 in
theorem ch_L_walk : ky_CH M_L_walk 4 := ⟨ky_t6 (i := 34) rfl rfl, ky_t1 (i := 0) rfl rfl, ⟨by decide, by decide, by decide +kernel⟩, by decide⟩
set_option maxRecDepth 100000 in
set_option maxHeartbeats 4000000 in
theorem ch_L_board : ky_CH M_L_board 3 := ⟨ky_t6 (i := 44) rfl rfl, ky_t1 (i := 0) rfl rfl, ⟨by decide, by decide, by decide +kernel⟩, by decide⟩
set_option maxRecDepth 100000 in
set_option maxHeartbeats 4000000 in
theorem ch_L_moves : ky_CH M_L_moves 3 := ⟨ky_t6 (i := 56) rfl rfl, ky_t1 (i := 0) rfl rfl, ⟨by decide, by decide, by decide +kernel⟩, by decide⟩
set_option maxRecDepth 100000 in
set_option maxHeartbeats 4000000 in
theorem ch_L_would : ky_CH M_L_would 5 := ⟨ky_t6 (i := 72) rfl rfl, ky_t1 (i := 0) rfl rfl, ⟨by decide, by decide, by decide +kernel⟩, by decide⟩
set_option maxRecDepth 100000 in
set_option maxHeartbeats 4000000 in
theorem ch_L_worth : ky_CH M_L_worth 3 := ⟨ky_t6 (i := 80) rfl rfl, ky_t1 (i := 0) rfl rfl, ⟨by decide, by decide, by decide +kernel⟩, by decide⟩
set_option maxRecDepth 100000 in
set_option maxHeartbeats 4000000 in
theorem ch_L_run : ky_CH M_L_run 4 := ⟨ky_t6 (i := 94) rfl rfl, ky_t1 (i := 0) rfl rfl, ⟨by decide, by decide, by decide +kernel⟩, by decide⟩
set_option maxRecDepth 100000 in
set_option maxHeartbeats 4000000 in
theorem ch_L_better : ky_CH M_L_better 4 := ⟨ky_t6 (i := 114) rfl rfl, ky_t1 (i := 0) rfl rfl, ⟨by decide, by decide, by decide +kernel⟩, by decide⟩
set_option maxRecDepth 100000 in
set_option maxHeartbeats 4000000 in
theorem ch_L_force : ky_CH M_L_force 4 := ⟨ky_t6 (i := 121) rfl rfl, ky_t1 (i := 0) rfl rfl, ⟨by decide, by decide, by decide +kernel⟩, by decide⟩
set_option maxRecDepth 100000 in
set_option maxHeartbeats 4000000 in
theorem ch_L_way : ky_CH M_L_way 5 := ⟨ky_t6 (i := 130) rfl rfl, ky_t1 (i := 0) rfl rfl, ⟨by decide, by decide, by decide +kernel⟩, by decide⟩
set_option maxRecDepth 100000 in
set_option maxHeartbeats 4000000 in
theorem ch_L_reach : ky_CH M_L_reach 4 := ⟨ky_t6 (i := 141) rfl rfl, ky_t1 (i := 0) rfl rfl, ⟨by decide, by decide, by decide +kernel⟩, by decide⟩
set_option maxRecDepth 100000 in
set_option maxHeartbeats 4000000 in
theorem ch_L_edge : ky_CH M_L_edge 4 := ⟨ky_t6 (i := 149) rfl rfl, ky_t1 (i := 0) rfl rfl, ⟨by decide, by decide, by decide +kernel⟩, by decide⟩
set_option maxRecDepth 100000 in
set_option maxHeartbeats 4000000 in
theorem ch_L_signs : ky_CH M_L_signs 4 := ⟨ky_t6 (i := 165) rfl rfl, ky_t1 (i := 0) rfl rfl, ⟨by decide, by decide, by decide +kernel⟩, by decide⟩
set_option maxRecDepth 100000 in
set_option maxHeartbeats 4000000 in
theorem ch_L_holes : ky_CH M_L_holes 4 := ⟨ky_t6 (i := 184) rfl rfl, ky_t1 (i := 0) rfl rfl, ⟨by decide, by decide, by decide +kernel⟩, by decide⟩
set_option maxRecDepth 100000 in
set_option maxHeartbeats 4000000 in
theorem ch_L_rope : ky_CH M_L_rope 3 := ⟨ky_t6 (i := 196) rfl rfl, ky_t1 (i := 0) rfl rfl, ⟨by decide, by decide, by decide +kernel⟩, by decide⟩
set_option maxRecDepth 100000 in
set_option maxHeartbeats 4000000 in
theorem ch_L_trial : ky_CH M_L_trial 4 := ⟨ky_t6 (i := 205) rfl rfl, ky_t1 (i := 0) rfl rfl, ⟨by decide, by decide, by decide +kernel⟩, by decide⟩
set_option maxRecDepth 100000 in
set_option maxHeartbeats 4000000 in
theorem ch_L_span : ky_CH M_L_span 4 := ⟨ky_t6 (i := 221) rfl rfl, ky_t1 (i := 0) rfl rfl, ⟨by decide, by decide, by decide +kernel⟩, by decide⟩
set_option maxRecDepth 100000 in
set_option maxHeartbeats 4000000 in
theorem ch_L_led : ky_CH M_L_led 4 := ⟨ky_t6 (i := 229) rfl rfl, ky_t1 (i := 0) rfl rfl, ⟨by decide, by decide, by decide +kernel⟩, by decide⟩
set_option maxRecDepth 100000 in
set_option maxHeartbeats 4000000 in
theorem ch_L_log : ky_CH M_L_log 4 := ⟨ky_t7 (i := 12) rfl rfl, ky_t1 (i := 0) rfl rfl, ⟨by decide, by decide, by decide +kernel⟩, by decide⟩
