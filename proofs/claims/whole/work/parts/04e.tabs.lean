def tb_L_talk : List (Nat × Instr × Nat) := [(0, .aload_n 1, 1), (1, .iconst 0, 1), (2, .aload_n 0, 1), (3, .invokevirtual 43, 3), (6, .i2l, 1), (7, .lastore, 1), (8, .goto 6, 3), (11, .astore_n 2, 1), (12, .iconst 1, 1), (13, .ireturn, 1), (14, .iconst 0, 1), (15, .ireturn, 1)]
set_option maxRecDepth 20000 in
theorem ok_L_talk : ky_ok cL_talk tb_L_talk = true := by decide +kernel
def M_L_talk : ky_MT := (yL_talk, cL_talk, 3, (Option.some FieldType.int), tb_L_talk, [((0 : Nat), (8 : Nat), (11 : Nat), (37 : Nat))])
def tb_L_pour : List (Nat × Instr × Nat) := [(0, .aload_n 1, 1), (1, .iconst 0, 1), (2, .aload_n 0, 1), (3, .invokevirtual 46, 3), (6, .i2l, 1), (7, .lastore, 1), (8, .goto 6, 3), (11, .astore_n 2, 1), (12, .iconst 1, 1), (13, .ireturn, 1), (14, .iconst 0, 1), (15, .ireturn, 1)]
set_option maxRecDepth 20000 in
theorem ok_L_pour : ky_ok cL_pour tb_L_pour = true := by decide +kernel
def M_L_pour : ky_MT := (yL_pour, cL_pour, 3, (Option.some FieldType.int), tb_L_pour, [((0 : Nat), (8 : Nat), (11 : Nat), (37 : Nat))])
def tb_L_walk : List (Nat × Instr × Nat) := [(0, .aload_n 3, 1), (1, .iconst 0, 1), (2, .aload_n 0, 1), (3, .iload_n 1, 1), (4, .iload_n 2, 1), (5, .invokevirtual 49, 3), (8, .i2l, 1), (9, .lastore, 1), (10, .goto 11, 3), (13, .astore 4, 2), (15, .iconst 1, 1), (16, .ireturn, 1), (17, .astore 4, 2), (19, .iconst 2, 1), (20, .ireturn, 1), (21, .iconst 0, 1), (22, .ireturn, 1)]
set_option maxRecDepth 20000 in
theorem ok_L_walk : ky_ok cL_walk tb_L_walk = true := by decide +kernel
def M_L_walk : ky_MT := (yL_walk, cL_walk, 5, (Option.some FieldType.int), tb_L_walk, [((0 : Nat), (10 : Nat), (13 : Nat), (24 : Nat)), ((0 : Nat), (10 : Nat), (17 : Nat), (37 : Nat))])
def tb_L_board : List (Nat × Instr × Nat) := [(0, .aload_n 2, 1), (1, .iconst 0, 1), (2, .aload_n 0, 1), (3, .iload_n 1, 1), (4, .invokevirtual 52, 3), (7, .i2l, 1), (8, .lastore, 1), (9, .goto 9, 3), (12, .astore_n 3, 1), (13, .iconst 1, 1), (14, .ireturn, 1), (15, .astore_n 3, 1), (16, .iconst 2, 1), (17, .ireturn, 1), (18, .iconst 0, 1), (19, .ireturn, 1)]
set_option maxRecDepth 20000 in
theorem ok_L_board : ky_ok cL_board tb_L_board = true := by decide +kernel
def M_L_board : ky_MT := (yL_board, cL_board, 4, (Option.some FieldType.int), tb_L_board, [((0 : Nat), (9 : Nat), (12 : Nat), (24 : Nat)), ((0 : Nat), (9 : Nat), (15 : Nat), (37 : Nat))])
def tb_L_moves : List (Nat × Instr × Nat) := [(0, .aload_n 2, 1), (1, .iconst 0, 1), (2, .aload_n 0, 1), (3, .iload_n 1, 1), (4, .invokevirtual 55, 3), (7, .i2l, 1), (8, .lastore, 1), (9, .goto 6, 3), (12, .astore_n 3, 1), (13, .iconst 1, 1), (14, .ireturn, 1), (15, .iconst 0, 1), (16, .ireturn, 1)]
set_option maxRecDepth 20000 in
theorem ok_L_moves : ky_ok cL_moves tb_L_moves = true := by decide +kernel
def M_L_moves : ky_MT := (yL_moves, cL_moves, 4, (Option.some FieldType.int), tb_L_moves, [((0 : Nat), (9 : Nat), (12 : Nat), (13 : Nat))])
def tb_L_would : List (Nat × Instr × Nat) := [(0, .aload 4, 2), (2, .iconst 0, 1), (3, .aload_n 0, 1), (4, .iload_n 1, 1), (5, .iload_n 2, 1), (6, .iload_n 3, 1), (7, .invokevirtual 58, 3), (10, .i2l, 1), (11, .lastore, 1), (12, .goto 11, 3), (15, .astore 5, 2), (17, .iconst 1, 1), (18, .ireturn, 1), (19, .astore 5, 2), (21, .iconst 2, 1), (22, .ireturn, 1), (23, .iconst 0, 1), (24, .ireturn, 1)]
set_option maxRecDepth 20000 in
theorem ok_L_would : ky_ok cL_would tb_L_would = true := by decide +kernel
def M_L_would : ky_MT := (yL_would, cL_would, 6, (Option.some FieldType.int), tb_L_would, [((0 : Nat), (12 : Nat), (15 : Nat), (24 : Nat)), ((0 : Nat), (12 : Nat), (19 : Nat), (26 : Nat))])
def tb_L_worth : List (Nat × Instr × Nat) := [(0, .aload_n 2, 1), (1, .iconst 0, 1), (2, .aload_n 0, 1), (3, .iload_n 1, 1), (4, .invokevirtual 62, 3), (7, .i2l, 1), (8, .lastore, 1), (9, .goto 6, 3), (12, .astore_n 3, 1), (13, .iconst 1, 1), (14, .ireturn, 1), (15, .iconst 0, 1), (16, .ireturn, 1)]
set_option maxRecDepth 20000 in
theorem ok_L_worth : ky_ok cL_worth tb_L_worth = true := by decide +kernel
def M_L_worth : ky_MT := (yL_worth, cL_worth, 4, (Option.some FieldType.int), tb_L_worth, [((0 : Nat), (9 : Nat), (12 : Nat), (26 : Nat))])
def tb_L_run : List (Nat × Instr × Nat) := [(0, .aload_n 3, 1), (1, .iconst 0, 1), (2, .aload_n 0, 1), (3, .iload_n 1, 1), (4, .iload_n 2, 1), (5, .invokevirtual 65, 3), (8, .i2l, 1), (9, .lastore, 1), (10, .goto 7, 3), (13, .astore 4, 2), (15, .iconst 1, 1), (16, .ireturn, 1), (17, .iconst 0, 1), (18, .ireturn, 1)]
set_option maxRecDepth 20000 in
theorem ok_L_run : ky_ok cL_run tb_L_run = true := by decide +kernel
def M_L_run : ky_MT := (yL_run, cL_run, 5, (Option.some FieldType.int), tb_L_run, [((0 : Nat), (10 : Nat), (13 : Nat), (13 : Nat))])
def tb_L_better : List (Nat × Instr × Nat) := [(0, .aload_n 3, 1), (1, .iconst 0, 1), (2, .aload_n 0, 1), (3, .iload_n 1, 1), (4, .iload_n 2, 1), (5, .invokevirtual 68, 3), (8, .ifCond .eq 7, 3), (11, .lconst 1, 1), (12, .goto 4, 3), (15, .lconst 0, 1), (16, .lastore, 1), (17, .goto 7, 3), (20, .astore 4, 2), (22, .iconst 1, 1), (23, .ireturn, 1), (24, .iconst 0, 1), (25, .ireturn, 1)]
set_option maxRecDepth 20000 in
theorem ok_L_better : ky_ok cL_better tb_L_better = true := by decide +kernel
def M_L_better : ky_MT := (yL_better, cL_better, 5, (Option.some FieldType.int), tb_L_better, [((0 : Nat), (17 : Nat), (20 : Nat), (13 : Nat))])
def tb_L_force : List (Nat × Instr × Nat) := [(0, .aload_n 3, 1), (1, .iconst 0, 1), (2, .aload_n 0, 1), (3, .iload_n 1, 1), (4, .iload_n 2, 1), (5, .invokevirtual 72, 3), (8, .i2l, 1), (9, .lastore, 1), (10, .goto 7, 3), (13, .astore 4, 2), (15, .iconst 1, 1), (16, .ireturn, 1), (17, .iconst 0, 1), (18, .ireturn, 1)]
set_option maxRecDepth 20000 in
theorem ok_L_force : ky_ok cL_force tb_L_force = true := by decide +kernel
def M_L_force : ky_MT := (yL_force, cL_force, 5, (Option.some FieldType.int), tb_L_force, [((0 : Nat), (10 : Nat), (13 : Nat), (13 : Nat))])
def tb_L_way : List (Nat × Instr × Nat) := [(0, .aload 4, 2), (2, .iconst 0, 1), (3, .aload_n 0, 1), (4, .iload_n 1, 1), (5, .iload_n 2, 1), (6, .iload_n 3, 1), (7, .invokevirtual 76, 3), (10, .i2l, 1), (11, .lastore, 1), (12, .goto 7, 3), (15, .astore 5, 2), (17, .iconst 1, 1), (18, .ireturn, 1), (19, .iconst 0, 1), (20, .ireturn, 1)]
set_option maxRecDepth 20000 in
theorem ok_L_way : ky_ok cL_way tb_L_way = true := by decide +kernel
def M_L_way : ky_MT := (yL_way, cL_way, 6, (Option.some FieldType.int), tb_L_way, [((0 : Nat), (12 : Nat), (15 : Nat), (24 : Nat))])
def tb_L_reach : List (Nat × Instr × Nat) := [(0, .aload_n 3, 1), (1, .iconst 0, 1), (2, .aload_n 0, 1), (3, .iload_n 1, 1), (4, .iload_n 2, 1), (5, .invokevirtual 80, 3), (8, .lastore, 1), (9, .goto 7, 3), (12, .astore 4, 2), (14, .iconst 1, 1), (15, .ireturn, 1), (16, .iconst 0, 1), (17, .ireturn, 1)]
set_option maxRecDepth 20000 in
theorem ok_L_reach : ky_ok cL_reach tb_L_reach = true := by decide +kernel
def M_L_reach : ky_MT := (yL_reach, cL_reach, 5, (Option.some FieldType.int), tb_L_reach, [((0 : Nat), (9 : Nat), (12 : Nat), (24 : Nat))])
def tb_L_edge : List (Nat × Instr × Nat) := [(0, .aload_n 3, 1), (1, .iconst 0, 1), (2, .aload_n 0, 1), (3, .iload_n 1, 1), (4, .iload_n 2, 1), (5, .invokevirtual 84, 3), (8, .i2l, 1), (9, .lastore, 1), (10, .goto 7, 3), (13, .astore 4, 2), (15, .iconst 1, 1), (16, .ireturn, 1), (17, .iconst 0, 1), (18, .ireturn, 1)]
set_option maxRecDepth 20000 in
theorem ok_L_edge : ky_ok cL_edge tb_L_edge = true := by decide +kernel
def M_L_edge : ky_MT := (yL_edge, cL_edge, 5, (Option.some FieldType.int), tb_L_edge, [((0 : Nat), (10 : Nat), (13 : Nat), (13 : Nat))])
def tb_L_signs : List (Nat × Instr × Nat) := [(0, .aload_n 3, 1), (1, .iconst 0, 1), (2, .aload_n 0, 1), (3, .iload_n 1, 1), (4, .iload_n 2, 1), (5, .invokevirtual 87, 3), (8, .i2l, 1), (9, .lastore, 1), (10, .goto 7, 3), (13, .astore 4, 2), (15, .iconst 1, 1), (16, .ireturn, 1), (17, .iconst 0, 1), (18, .ireturn, 1)]
set_option maxRecDepth 20000 in
theorem ok_L_signs : ky_ok cL_signs tb_L_signs = true := by decide +kernel
def M_L_signs : ky_MT := (yL_signs, cL_signs, 5, (Option.some FieldType.int), tb_L_signs, [((0 : Nat), (10 : Nat), (13 : Nat), (13 : Nat))])
def tb_L_holes : List (Nat × Instr × Nat) := [(0, .aload_n 3, 1), (1, .iconst 0, 1), (2, .aload_n 0, 1), (3, .iload_n 1, 1), (4, .iload_n 2, 1), (5, .invokevirtual 90, 3), (8, .i2l, 1), (9, .lastore, 1), (10, .goto 11, 3), (13, .astore 4, 2), (15, .iconst 1, 1), (16, .ireturn, 1), (17, .astore 4, 2), (19, .iconst 2, 1), (20, .ireturn, 1), (21, .iconst 0, 1), (22, .ireturn, 1)]
set_option maxRecDepth 20000 in
theorem ok_L_holes : ky_ok cL_holes tb_L_holes = true := by decide +kernel
def M_L_holes : ky_MT := (yL_holes, cL_holes, 5, (Option.some FieldType.int), tb_L_holes, [((0 : Nat), (10 : Nat), (13 : Nat), (24 : Nat)), ((0 : Nat), (10 : Nat), (17 : Nat), (13 : Nat))])
def tb_L_rope : List (Nat × Instr × Nat) := [(0, .aload_n 2, 1), (1, .iconst 0, 1), (2, .aload_n 0, 1), (3, .iload_n 1, 1), (4, .invokevirtual 93, 3), (7, .lastore, 1), (8, .goto 6, 3), (11, .astore_n 3, 1), (12, .iconst 1, 1), (13, .ireturn, 1), (14, .iconst 0, 1), (15, .ireturn, 1)]
set_option maxRecDepth 20000 in
theorem ok_L_rope : ky_ok cL_rope tb_L_rope = true := by decide +kernel
def M_L_rope : ky_MT := (yL_rope, cL_rope, 4, (Option.some FieldType.int), tb_L_rope, [((0 : Nat), (8 : Nat), (11 : Nat), (13 : Nat))])
def tb_L_trial : List (Nat × Instr × Nat) := [(0, .aload_n 3, 1), (1, .iconst 0, 1), (2, .aload_n 0, 1), (3, .iload_n 1, 1), (4, .iload_n 2, 1), (5, .invokevirtual 97, 3), (8, .i2l, 1), (9, .lastore, 1), (10, .goto 7, 3), (13, .astore 4, 2), (15, .iconst 1, 1), (16, .ireturn, 1), (17, .iconst 0, 1), (18, .ireturn, 1)]
set_option maxRecDepth 20000 in
theorem ok_L_trial : ky_ok cL_trial tb_L_trial = true := by decide +kernel
def M_L_trial : ky_MT := (yL_trial, cL_trial, 5, (Option.some FieldType.int), tb_L_trial, [((0 : Nat), (10 : Nat), (13 : Nat), (13 : Nat))])
def tb_L_span : List (Nat × Instr × Nat) := [(0, .aload_n 3, 1), (1, .iconst 0, 1), (2, .aload_n 0, 1), (3, .iload_n 1, 1), (4, .iload_n 2, 1), (5, .invokevirtual 100, 3), (8, .i2l, 1), (9, .lastore, 1), (10, .goto 7, 3), (13, .astore 4, 2), (15, .iconst 1, 1), (16, .ireturn, 1), (17, .iconst 0, 1), (18, .ireturn, 1)]
set_option maxRecDepth 20000 in
theorem ok_L_span : ky_ok cL_span tb_L_span = true := by decide +kernel
def M_L_span : ky_MT := (yL_span, cL_span, 5, (Option.some FieldType.int), tb_L_span, [((0 : Nat), (10 : Nat), (13 : Nat), (13 : Nat))])
def tb_L_led : List (Nat × Instr × Nat) := [(0, .aload_n 3, 1), (1, .iconst 0, 1), (2, .aload_n 0, 1), (3, .iload_n 1, 1), (4, .iload_n 2, 1), (5, .invokevirtual 103, 3), (8, .i2l, 1), (9, .lastore, 1), (10, .goto 7, 3), (13, .astore 4, 2), (15, .iconst 1, 1), (16, .ireturn, 1), (17, .iconst 0, 1), (18, .ireturn, 1)]
set_option maxRecDepth 20000 in
theorem ok_L_led : ky_ok cL_led tb_L_led = true := by decide +kernel
def M_L_led : ky_MT := (yL_led, cL_led, 5, (Option.some FieldType.int), tb_L_led, [((0 : Nat), (10 : Nat), (13 : Nat), (24 : Nat))])
def tb_L_log : List (Nat × Instr × Nat) := [(0, .aload_n 3, 1), (1, .iconst 0, 1), (2, .aload_n 0, 1), (3, .iload_n 1, 1), (4, .iload_n 2, 1), (5, .invokevirtual 106, 3), (8, .i2l, 1), (9, .lastore, 1), (10, .goto 7, 3), (13, .astore 4, 2), (15, .iconst 1, 1), (16, .ireturn, 1), (17, .iconst 0, 1), (18, .ireturn, 1)]
set_option maxRecDepth 20000 in
theorem ok_L_log : ky_ok cL_log tb_L_log = true := by decide +kernel
def M_L_log : ky_MT := (yL_log, cL_log, 5, (Option.some FieldType.int), tb_L_log, [((0 : Nat), (10 : Nat), (13 : Nat), (26 : Nat))])
