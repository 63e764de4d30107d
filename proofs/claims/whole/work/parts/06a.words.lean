theorem ky_m1 {i : Nat} {w : Cond} (h : tables_1_1[i]? = some w) : w ∈ lw_tbl := List.mem_append_right _ (List.mem_append_left _ (List.mem_of_getElem? h))
theorem ky_t1 {i : Nat} {w : Cond} (h : tables_1_1[i]? = some w) (g : goodWord w = true) : ky_T w := ⟨ky_m1 h, g⟩
theorem ky_m2 {i : Nat} {w : Cond} (h : tables_1_2[i]? = some w) : w ∈ lw_tbl := List.mem_append_right _ (List.mem_append_right _ (List.mem_append_left _ (List.mem_of_getElem? h)))
theorem ky_t2 {i : Nat} {w : Cond} (h : tables_1_2[i]? = some w) (g : goodWord w = true) : ky_T w := ⟨ky_m2 h, g⟩
theorem ky_m3 {i : Nat} {w : Cond} (h : tables_1_3[i]? = some w) : w ∈ lw_tbl := List.mem_append_right _ (List.mem_append_right _ (List.mem_append_right _ (List.mem_append_left _ (List.mem_of_getElem? h))))
theorem ky_t3 {i : Nat} {w : Cond} (h : tables_1_3[i]? = some w) (g : goodWord w = true) : ky_T w := ⟨ky_m3 h, g⟩
theorem ky_m4 {i : Nat} {w : Cond} (h : tables_1_4[i]? = some w) : w ∈ lw_tbl := List.mem_append_right _ (List.mem_append_right _ (List.mem_append_right _ (List.mem_append_right _ (List.mem_append_left _ (List.mem_of_getElem? h)))))
theorem ky_t4 {i : Nat} {w : Cond} (h : tables_1_4[i]? = some w) (g : goodWord w = true) : ky_T w := ⟨ky_m4 h, g⟩
theorem ky_m5 {i : Nat} {w : Cond} (h : tables_1_5[i]? = some w) : w ∈ lw_tbl := List.mem_append_right _ (List.mem_append_right _ (List.mem_append_right _ (List.mem_append_right _ (List.mem_append_right _ (List.mem_append_left _ (List.mem_of_getElem? h))))))
theorem ky_t5 {i : Nat} {w : Cond} (h : tables_1_5[i]? = some w) (g : goodWord w = true) : ky_T w := ⟨ky_m5 h, g⟩
theorem ky_m6 {i : Nat} {w : Cond} (h : tables_1_6[i]? = some w) : w ∈ lw_tbl := List.mem_append_right _ (List.mem_append_right _ (List.mem_append_right _ (List.mem_append_right _ (List.mem_append_right _ (List.mem_append_right _ (List.mem_append_left _ (List.mem_of_getElem? h)))))))
theorem ky_t6 {i : Nat} {w : Cond} (h : tables_1_6[i]? = some w) (g : goodWord w = true) : ky_T w := ⟨ky_m6 h, g⟩
theorem ky_m7 {i : Nat} {w : Cond} (h : tables_1_7[i]? = some w) : w ∈ lw_tbl := List.mem_append_right _ (List.mem_append_right _ (List.mem_append_right _ (List.mem_append_right _ (List.mem_append_right _ (List.mem_append_right _ (List.mem_append_right _ (List.mem_append_left _ (List.mem_of_getElem? h))))))))
theorem ky_t7 {i : Nat} {w : Cond} (h : tables_1_7[i]? = some w) (g : goodWord w = true) : ky_T w := ⟨ky_m7 h, g⟩
theorem ky_m8 {i : Nat} {w : Cond} (h : tables_1_8[i]? = some w) : w ∈ lw_tbl := List.mem_append_right _ (List.mem_append_right _ (List.mem_append_right _ (List.mem_append_right _ (List.mem_append_right _ (List.mem_append_right _ (List.mem_append_right _ (List.mem_append_right _ (List.mem_append_left _ (List.mem_of_getElem? h)))))))))
theorem ky_t8 {i : Nat} {w : Cond} (h : tables_1_8[i]? = some w) (g : goodWord w = true) : ky_T w := ⟨ky_m8 h, g⟩
theorem ky_m9 {i : Nat} {w : Cond} (h : tables_1_9[i]? = some w) : w ∈ lw_tbl := List.mem_append_right _ (List.mem_append_right _ (List.mem_append_right _ (List.mem_append_right _ (List.mem_append_right _ (List.mem_append_right _ (List.mem_append_right _ (List.mem_append_right _ (List.mem_append_right _ (List.mem_of_getElem? h)))))))))
theorem ky_t9 {i : Nat} {w : Cond} (h : tables_1_9[i]? = some w) (g : goodWord w = true) : ky_T w := ⟨ky_m9 h, g⟩
theorem ky_s1 {i : Nat} {q : MethodName × Nat} (h : lw_privs_1[i]? = some q) : ky_T (.selects q.1.cls q.1 q.1) := ⟨List.mem_append_left _ (List.mem_map_of_mem (f := fun q : MethodName × Nat => Cond.selects q.1.cls q.1 q.1) (List.mem_append_left _ (List.mem_of_getElem? h))), rfl⟩
theorem ky_s2 {i : Nat} {q : MethodName × Nat} (h : lw_privs_2[i]? = some q) : ky_T (.selects q.1.cls q.1 q.1) := ⟨List.mem_append_left _ (List.mem_map_of_mem (f := fun q : MethodName × Nat => Cond.selects q.1.cls q.1 q.1) (List.mem_append_right _ (List.mem_append_left _ (List.mem_of_getElem? h)))), rfl⟩
theorem ky_s3 {i : Nat} {q : MethodName × Nat} (h : lw_privs_3[i]? = some q) : ky_T (.selects q.1.cls q.1 q.1) := ⟨List.mem_append_left _ (List.mem_map_of_mem (f := fun q : MethodName × Nat => Cond.selects q.1.cls q.1 q.1) (List.mem_append_right _ (List.mem_append_right _ (List.mem_append_left _ (List.mem_of_getElem? h))))), rfl⟩
theorem ky_s4 {i : Nat} {q : MethodName × Nat} (h : lw_privs_4[i]? = some q) : ky_T (.selects q.1.cls q.1 q.1) := ⟨List.mem_append_left _ (List.mem_map_of_mem (f := fun q : MethodName × Nat => Cond.selects q.1.cls q.1 q.1) (List.mem_append_right _ (List.mem_append_right _ (List.mem_append_right _ (List.mem_append_left _ (List.mem_of_getElem? h)))))), rfl⟩
theorem ky_s5 {i : Nat} {q : MethodName × Nat} (h : lw_privs_5[i]? = some q) : ky_T (.selects q.1.cls q.1 q.1) := ⟨List.mem_append_left _ (List.mem_map_of_mem (f := fun q : MethodName × Nat => Cond.selects q.1.cls q.1 q.1) (List.mem_append_right _ (List.mem_append_right _ (List.mem_append_right _ (List.mem_append_right _ (List.mem_append_left _ (List.mem_of_getElem? h))))))), rfl⟩
theorem ky_s6 {i : Nat} {q : MethodName × Nat} (h : lw_privs_6[i]? = some q) : ky_T (.selects q.1.cls q.1 q.1) := ⟨List.mem_append_left _ (List.mem_map_of_mem (f := fun q : MethodName × Nat => Cond.selects q.1.cls q.1 q.1) (List.mem_append_right _ (List.mem_append_right _ (List.mem_append_right _ (List.mem_append_right _ (List.mem_append_right _ (List.mem_append_left _ (List.mem_of_getElem? h)))))))), rfl⟩
theorem ky_s7 {i : Nat} {q : MethodName × Nat} (h : lw_privs_7[i]? = some q) : ky_T (.selects q.1.cls q.1 q.1) := ⟨List.mem_append_left _ (List.mem_map_of_mem (f := fun q : MethodName × Nat => Cond.selects q.1.cls q.1 q.1) (List.mem_append_right _ (List.mem_append_right _ (List.mem_append_right _ (List.mem_append_right _ (List.mem_append_right _ (List.mem_append_right _ (List.mem_append_left _ (List.mem_of_getElem? h))))))))), rfl⟩
theorem ky_s8 {i : Nat} {q : MethodName × Nat} (h : lw_privs_8[i]? = some q) : ky_T (.selects q.1.cls q.1 q.1) := ⟨List.mem_append_left _ (List.mem_map_of_mem (f := fun q : MethodName × Nat => Cond.selects q.1.cls q.1 q.1) (List.mem_append_right _ (List.mem_append_right _ (List.mem_append_right _ (List.mem_append_right _ (List.mem_append_right _ (List.mem_append_right _ (List.mem_append_right _ (List.mem_of_getElem? h))))))))), rfl⟩
theorem iw_X0 : ∀ w ∈ u_ws RX0 TX0 5, ky_T w := by
  show ∀ w ∈ ([.laysFinal "WaistSand$BeachReader" "WaistSand$BeachReader" "kinds" "[I", .laysFinal "WaistSand$BeachReader" "WaistSand$BeachReader" "numbers" "[I", .lays "WaistSand$BeachReader" "WaistSand$BeachReader" "lines" "I", .lays "WaistSand$BeachReader" "WaistSand$BeachReader" "taken" "I", .lays "WaistSand$BeachReader" "WaistSand$BeachReader" "people" "I"] : List Cond), ky_T w
  exact List.forall_mem_cons.mpr ⟨ky_t1 (i := 76) rfl rfl, List.forall_mem_cons.mpr ⟨ky_t1 (i := 78) rfl rfl, List.forall_mem_cons.mpr ⟨ky_t1 (i := 80) rfl rfl, List.forall_mem_cons.mpr ⟨ky_t1 (i := 82) rfl rfl, List.forall_mem_cons.mpr ⟨ky_t1 (i := 84) rfl rfl, fun _ h => nomatch h⟩⟩⟩⟩⟩
theorem iw_X1 : ∀ w ∈ u_ws RX1 TX1 8, ky_T w := by
  show ∀ w ∈ ([.lays "WaistSand$Body" "WaistSand$Body" "pose" "I", .lays "WaistSand$Body" "WaistSand$Body" "calm" "I", .lays "WaistSand$Body" "WaistSand$Body" "water" "I", .lays "WaistSand$Body" "WaistSand$Body" "harm" "I", .lays "WaistSand$Body" "WaistSand$Body" "minute" "I", .lays "WaistSand$Body" "WaistSand$Body" "tide" "I", .lays "WaistSand$Body" "WaistSand$Body" "slip" "I", .lays "WaistSand$Body" "WaistSand$Body" "seed" "I"] : List Cond), ky_T w
  exact List.forall_mem_cons.mpr ⟨ky_t1 (i := 151) rfl rfl, List.forall_mem_cons.mpr ⟨ky_t1 (i := 153) rfl rfl, List.forall_mem_cons.mpr ⟨ky_t1 (i := 155) rfl rfl, List.forall_mem_cons.mpr ⟨ky_t1 (i := 157) rfl rfl, List.forall_mem_cons.mpr ⟨ky_t1 (i := 159) rfl rfl, List.forall_mem_cons.mpr ⟨ky_t1 (i := 161) rfl rfl, List.forall_mem_cons.mpr ⟨ky_t1 (i := 163) rfl rfl, List.forall_mem_cons.mpr ⟨ky_t1 (i := 165) rfl rfl, fun _ h => nomatch h⟩⟩⟩⟩⟩⟩⟩⟩
theorem iw_X2 : ∀ w ∈ u_ws RX2 TX2 3, ky_T w := by
  show ∀ w ∈ ([.laysFinal "WaistSand$Diary" "WaistSand$Diary" "rows" "[I", .lays "WaistSand$Diary" "WaistSand$Diary" "next" "I", .lays "WaistSand$Diary" "WaistSand$Diary" "size" "I"] : List Cond), ky_T w
  exact List.forall_mem_cons.mpr ⟨ky_t2 (i := 0) rfl rfl, List.forall_mem_cons.mpr ⟨ky_t2 (i := 2) rfl rfl, List.forall_mem_cons.mpr ⟨ky_t2 (i := 4) rfl rfl, fun _ h => nomatch h⟩⟩⟩
theorem iw_X3 : ∀ w ∈ u_ws RX3 TX3 10, ky_T w := by
  show ∀ w ∈ ([.laysFinal "WaistSand$Law" "WaistSand$Law" "lines" "I", .laysFinal "WaistSand$Law" "WaistSand$Law" "kinds" "[I", .laysFinal "WaistSand$Law" "WaistSand$Law" "amounts" "[I", .laysFinal "WaistSand$Law" "WaistSand$Law" "starts" "[I", .laysFinal "WaistSand$Law" "WaistSand$Law" "code" "[I", .laysFinal "WaistSand$Law" "WaistSand$Law" "facts" "[I", .lays "WaistSand$Law" "WaistSand$Law" "lying" "I", .lays "WaistSand$Law" "WaistSand$Law" "up" "I", .lays "WaistSand$Law" "WaistSand$Law" "down" "I", .lays "WaistSand$Law" "WaistSand$Law" "stir" "I"] : List Cond), ky_T w
  exact List.forall_mem_cons.mpr ⟨ky_t5 (i := 22) rfl rfl, List.forall_mem_cons.mpr ⟨ky_t5 (i := 24) rfl rfl, List.forall_mem_cons.mpr ⟨ky_t5 (i := 26) rfl rfl, List.forall_mem_cons.mpr ⟨ky_t5 (i := 28) rfl rfl, List.forall_mem_cons.mpr ⟨ky_t5 (i := 30) rfl rfl, List.forall_mem_cons.mpr ⟨ky_t5 (i := 32) rfl rfl, List.forall_mem_cons.mpr ⟨ky_t5 (i := 34) rfl rfl, List.forall_mem_cons.mpr ⟨ky_t5 (i := 36) rfl rfl, List.forall_mem_cons.mpr ⟨ky_t5 (i := 38) rfl rfl, List.forall_mem_cons.mpr ⟨ky_t5 (i := 40) rfl rfl, fun _ h => nomatch h⟩⟩⟩⟩⟩⟩⟩⟩⟩⟩
theorem iw_X4 : ∀ w ∈ u_ws RX4 TX4 7, ky_T w := by
  show ∀ w ∈ ([.laysFinal "WaistSand$LawReader" "WaistSand$LawReader" "kinds" "[I", .laysFinal "WaistSand$LawReader" "WaistSand$LawReader" "amounts" "[I", .laysFinal "WaistSand$LawReader" "WaistSand$LawReader" "starts" "[I", .laysFinal "WaistSand$LawReader" "WaistSand$LawReader" "code" "[I", .laysFinal "WaistSand$LawReader" "WaistSand$LawReader" "weights" "[I", .lays "WaistSand$LawReader" "WaistSand$LawReader" "lines" "I", .lays "WaistSand$LawReader" "WaistSand$LawReader" "used" "I"] : List Cond), ky_T w
  exact List.forall_mem_cons.mpr ⟨ky_t1 (i := 101) rfl rfl, List.forall_mem_cons.mpr ⟨ky_t1 (i := 103) rfl rfl, List.forall_mem_cons.mpr ⟨ky_t1 (i := 105) rfl rfl, List.forall_mem_cons.mpr ⟨ky_t1 (i := 107) rfl rfl, List.forall_mem_cons.mpr ⟨ky_t1 (i := 109) rfl rfl, List.forall_mem_cons.mpr ⟨ky_t1 (i := 111) rfl rfl, List.forall_mem_cons.mpr ⟨ky_t1 (i := 113) rfl rfl, fun _ h => nomatch h⟩⟩⟩⟩⟩⟩⟩
theorem iw_X6 : ∀ w ∈ u_ws RX6 TX6 2, ky_T w := by
  show ∀ w ∈ ([.laysFinal "WaistSand$Rules" "WaistSand$Rules" "numbers" "[I", .lays "WaistSand$Rules" "WaistSand$Rules" "law" "LWaistSand$Law;"] : List Cond), ky_T w
  exact List.forall_mem_cons.mpr ⟨ky_t1 (i := 178) rfl rfl, List.forall_mem_cons.mpr ⟨ky_t1 (i := 180) rfl rfl, fun _ h => nomatch h⟩⟩
theorem iw_X7 : ∀ w ∈ u_ws RX7 TX7 5, ky_T w := by
  show ∀ w ∈ ([.laysFinal "WaistSand$Scene" "WaistSand$Scene" "body" "LWaistSand$Body;", .laysFinal "WaistSand$Scene" "WaistSand$Scene" "rules" "LWaistSand$Rules;", .laysFinal "WaistSand$Scene" "WaistSand$Scene" "shore" "LWaistSand$Shore;", .laysFinal "WaistSand$Scene" "WaistSand$Scene" "diary" "LWaistSand$Diary;", .lays "WaistSand$Scene" "WaistSand$Scene" "texts" "I"] : List Cond), ky_T w
  exact List.forall_mem_cons.mpr ⟨ky_t2 (i := 20) rfl rfl, List.forall_mem_cons.mpr ⟨ky_t2 (i := 22) rfl rfl, List.forall_mem_cons.mpr ⟨ky_t2 (i := 24) rfl rfl, List.forall_mem_cons.mpr ⟨ky_t2 (i := 26) rfl rfl, List.forall_mem_cons.mpr ⟨ky_t2 (i := 28) rfl rfl, fun _ h => nomatch h⟩⟩⟩⟩⟩
theorem iw_X8 : ∀ w ∈ u_ws RX8 TX8 8, ky_T w := by
  show ∀ w ∈ ([.laysFinal "WaistSand$Shore" "WaistSand$Shore" "bears" "[I", .laysFinal "WaistSand$Shore" "WaistSand$Shore" "weights" "[I", .laysFinal "WaistSand$Shore" "WaistSand$Shore" "places" "[I", .lays "WaistSand$Shore" "WaistSand$Shore" "heaps" "J", .lays "WaistSand$Shore" "WaistSand$Shore" "shines" "J", .lays "WaistSand$Shore" "WaistSand$Shore" "hole" "I", .lays "WaistSand$Shore" "WaistSand$Shore" "people" "I", .lays "WaistSand$Shore" "WaistSand$Shore" "boards" "I"] : List Cond), ky_T w
  exact List.forall_mem_cons.mpr ⟨ky_t1 (i := 213) rfl rfl, List.forall_mem_cons.mpr ⟨ky_t1 (i := 215) rfl rfl, List.forall_mem_cons.mpr ⟨ky_t1 (i := 217) rfl rfl, List.forall_mem_cons.mpr ⟨ky_t1 (i := 219) rfl rfl, List.forall_mem_cons.mpr ⟨ky_t1 (i := 221) rfl rfl, List.forall_mem_cons.mpr ⟨ky_t1 (i := 223) rfl rfl, List.forall_mem_cons.mpr ⟨ky_t1 (i := 225) rfl rfl, List.forall_mem_cons.mpr ⟨ky_t1 (i := 227) rfl rfl, fun _ h => nomatch h⟩⟩⟩⟩⟩⟩⟩⟩
theorem iw_X9 : ∀ w ∈ u_ws RX9 TX9 5, ky_T w := by
  show ∀ w ∈ ([.laysFinal "WaistSand$Tape" "WaistSand$Tape" "bytes" "[B", .lays "WaistSand$Tape" "WaistSand$Tape" "length" "I", .lays "WaistSand$Tape" "WaistSand$Tape" "number" "I", .lays "WaistSand$Tape" "WaistSand$Tape" "at" "I", .lays "WaistSand$Tape" "WaistSand$Tape" "before" "I"] : List Cond), ky_T w
  exact List.forall_mem_cons.mpr ⟨ky_t1 (i := 53) rfl rfl, List.forall_mem_cons.mpr ⟨ky_t1 (i := 55) rfl rfl, List.forall_mem_cons.mpr ⟨ky_t1 (i := 57) rfl rfl, List.forall_mem_cons.mpr ⟨ky_t1 (i := 59) rfl rfl, List.forall_mem_cons.mpr ⟨ky_t1 (i := 61) rfl rfl, fun _ h => nomatch h⟩⟩⟩⟩⟩
theorem iw_X10 : ∀ w ∈ u_ws RX10 TX10 13, ky_T w := by
  show ∀ w ∈ ([.laysFinal "WaistSand$Ways" "WaistSand$Ways" "targets" "[I", .laysFinal "WaistSand$Ways" "WaistSand$Ways" "minutes" "[I", .laysFinal "WaistSand$Ways" "WaistSand$Ways" "behind" "[I", .laysFinal "WaistSand$Ways" "WaistSand$Ways" "ahead" "[I", .laysFinal "WaistSand$Ways" "WaistSand$Ways" "order" "[I", .laysFinal "WaistSand$Ways" "WaistSand$Ways" "leads" "[Z", .laysFinal "WaistSand$Ways" "WaistSand$Ways" "slots" "[I", .lays "WaistSand$Ways" "WaistSand$Ways" "ordered" "I", .lays "WaistSand$Ways" "WaistSand$Ways" "waiting" "I", .lays "WaistSand$Ways" "WaistSand$Ways" "stamp" "I", .lays "WaistSand$Ways" "WaistSand$Ways" "rules" "LWaistSand$Rules;", .lays "WaistSand$Ways" "WaistSand$Ways" "calm" "I", .lays "WaistSand$Ways" "WaistSand$Ways" "water" "I"] : List Cond), ky_T w
  exact List.forall_mem_cons.mpr ⟨ky_t2 (i := 123) rfl rfl, List.forall_mem_cons.mpr ⟨ky_t2 (i := 125) rfl rfl, List.forall_mem_cons.mpr ⟨ky_t2 (i := 127) rfl rfl, List.forall_mem_cons.mpr ⟨ky_t2 (i := 129) rfl rfl, List.forall_mem_cons.mpr ⟨ky_t2 (i := 131) rfl rfl, List.forall_mem_cons.mpr ⟨ky_t2 (i := 133) rfl rfl, List.forall_mem_cons.mpr ⟨ky_t2 (i := 135) rfl rfl, List.forall_mem_cons.mpr ⟨ky_t2 (i := 137) rfl rfl, List.forall_mem_cons.mpr ⟨ky_t2 (i := 139) rfl rfl, List.forall_mem_cons.mpr ⟨ky_t2 (i := 141) rfl rfl, List.forall_mem_cons.mpr ⟨ky_t2 (i := 143) rfl rfl, List.forall_mem_cons.mpr ⟨ky_t2 (i := 145) rfl rfl, List.forall_mem_cons.mpr ⟨ky_t2 (i := 147) rfl rfl, fun _ h => nomatch h⟩⟩⟩⟩⟩⟩⟩⟩⟩⟩⟩⟩⟩
theorem iw_X11 : ∀ w ∈ u_ws RX11 TX11 11, ky_T w := by
  show ∀ w ∈ ([.laysFinal "WaistSand" "WaistSand" "tape" "LWaistSand$Tape;", .laysFinal "WaistSand" "WaistSand" "beachReader" "LWaistSand$BeachReader;", .laysFinal "WaistSand" "WaistSand" "lawReader" "LWaistSand$LawReader;", .laysFinal "WaistSand" "WaistSand" "now" "LWaistSand$Scene;", .laysFinal "WaistSand" "WaistSand" "past" "[LWaistSand$Scene;", .laysFinal "WaistSand" "WaistSand" "tried" "LWaistSand$Body;", .lays "WaistSand" "WaistSand" "nextPast" "I", .lays "WaistSand" "WaistSand" "pasts" "I", .lays "WaistSand" "WaistSand" "kept" "LWaistSand$Scene;", .lays "WaistSand" "WaistSand" "ways" "LWaistSand$Ways;", .lays "WaistSand" "WaistSand" "wrongByte" "I"] : List Cond), ky_T w
  exact List.forall_mem_cons.mpr ⟨ky_t2 (i := 45) rfl rfl, List.forall_mem_cons.mpr ⟨ky_t2 (i := 47) rfl rfl, List.forall_mem_cons.mpr ⟨ky_t2 (i := 49) rfl rfl, List.forall_mem_cons.mpr ⟨ky_t2 (i := 51) rfl rfl, List.forall_mem_cons.mpr ⟨ky_t2 (i := 53) rfl rfl, List.forall_mem_cons.mpr ⟨ky_t2 (i := 55) rfl rfl, List.forall_mem_cons.mpr ⟨ky_t2 (i := 57) rfl rfl, List.forall_mem_cons.mpr ⟨ky_t2 (i := 59) rfl rfl, List.forall_mem_cons.mpr ⟨ky_t2 (i := 61) rfl rfl, List.forall_mem_cons.mpr ⟨ky_t2 (i := 63) rfl rfl, List.forall_mem_cons.mpr ⟨ky_t2 (i := 65) rfl rfl, fun _ h => nomatch h⟩⟩⟩⟩⟩⟩⟩⟩⟩⟩⟩
theorem iw_X12 : ∀ w ∈ u_ws RX12 TX12 24, ky_T w := by
  show ∀ w ∈ ([.lays "WaistSandModel" "WaistSandModel" "thrown" "I", .laysFinal "WaistSandModel" "WaistSandModel" "world" "[I", .laysFinal "WaistSandModel" "WaistSandModel" "image" "[I", .laysFinal "WaistSandModel" "WaistSandModel" "before" "[I", .laysFinal "WaistSandModel" "WaistSandModel" "trial" "[I", .laysFinal "WaistSandModel" "WaistSandModel" "acts" "[I", .lays "WaistSandModel" "WaistSandModel" "hasImage" "Z", .lays "WaistSandModel" "WaistSandModel" "remembered" "I", .laysFinal "WaistSandModel" "WaistSandModel" "tape" "[B", .lays "WaistSandModel" "WaistSandModel" "taped" "I", .lays "WaistSandModel" "WaistSandModel" "point" "I", .lays "WaistSandModel" "WaistSandModel" "end" "I", .lays "WaistSandModel" "WaistSandModel" "begin" "I", .lays "WaistSandModel" "WaistSandModel" "deep" "I", .lays "WaistSandModel" "WaistSandModel" "faultAt" "I", .laysFinal "WaistSandModel" "WaistSandModel" "five" "[I", .lays "WaistSandModel" "WaistSandModel" "steps" "I", .laysFinal "WaistSandModel" "WaistSandModel" "value" "[I", .laysFinal "WaistSandModel" "WaistSandModel" "depth" "[I", .lays "WaistSandModel" "WaistSandModel" "thin" "I", .lays "WaistSandModel" "WaistSandModel" "lying" "Z", .laysFinal "WaistSandModel" "WaistSandModel" "next" "[I", .laysFinal "WaistSandModel" "WaistSandModel" "need" "[I", .laysFinal "WaistSandModel" "WaistSandModel" "till" "[I"] : List Cond), ky_T w
  exact List.forall_mem_cons.mpr ⟨ky_t7 (i := 53) rfl rfl, List.forall_mem_cons.mpr ⟨ky_t7 (i := 55) rfl rfl, List.forall_mem_cons.mpr ⟨ky_t7 (i := 57) rfl rfl, List.forall_mem_cons.mpr ⟨ky_t7 (i := 59) rfl rfl, List.forall_mem_cons.mpr ⟨ky_t7 (i := 61) rfl rfl, List.forall_mem_cons.mpr ⟨ky_t7 (i := 63) rfl rfl, List.forall_mem_cons.mpr ⟨ky_t7 (i := 65) rfl rfl, List.forall_mem_cons.mpr ⟨ky_t7 (i := 67) rfl rfl, List.forall_mem_cons.mpr ⟨ky_t7 (i := 69) rfl rfl, List.forall_mem_cons.mpr ⟨ky_t7 (i := 71) rfl rfl, List.forall_mem_cons.mpr ⟨ky_t7 (i := 73) rfl rfl, List.forall_mem_cons.mpr ⟨ky_t7 (i := 75) rfl rfl, List.forall_mem_cons.mpr ⟨ky_t7 (i := 77) rfl rfl, List.forall_mem_cons.mpr ⟨ky_t7 (i := 79) rfl rfl, List.forall_mem_cons.mpr ⟨ky_t7 (i := 81) rfl rfl, List.forall_mem_cons.mpr ⟨ky_t7 (i := 83) rfl rfl, List.forall_mem_cons.mpr ⟨ky_t7 (i := 85) rfl rfl, List.forall_mem_cons.mpr ⟨ky_t7 (i := 87) rfl rfl, List.forall_mem_cons.mpr ⟨ky_t7 (i := 89) rfl rfl, List.forall_mem_cons.mpr ⟨ky_t7 (i := 91) rfl rfl, List.forall_mem_cons.mpr ⟨ky_t7 (i := 93) rfl rfl, List.forall_mem_cons.mpr ⟨ky_t7 (i := 95) rfl rfl, List.forall_mem_cons.mpr ⟨ky_t7 (i := 97) rfl rfl, List.forall_mem_cons.mpr ⟨ky_t7 (i := 99) rfl rfl, fun _ h => nomatch h⟩⟩⟩⟩⟩⟩⟩⟩⟩⟩⟩⟩⟩⟩⟩⟩⟩⟩⟩⟩⟩⟩⟩⟩
theorem cv_J0_charAt_5068e : ky_CV M_J0_charAt_5068e 1 := ⟨ky_t3 (i := 221) rfl rfl, ky_t1 (i := 12) rfl rfl, ⟨by decide +kernel, by decide +kernel, by decide +kernel⟩, Nat.le_of_ble_eq_true rfl⟩
theorem sv_J0_charAt_5068e : ky_CVv M_J0_charAt_5068e := ⟨ky_t3 (i := 219) rfl rfl, ky_t3 (i := 220) rfl rfl⟩
theorem cv_J0_checkIndex_df160 : ky_CV M_J0_checkIndex_df160 2 := ⟨ky_t3 (i := 231) rfl rfl, ky_t1 (i := 12) rfl rfl, ⟨by decide +kernel, by decide +kernel, by decide +kernel⟩, Nat.le_of_ble_eq_true rfl⟩
theorem sv_J0_checkIndex_df160 : ky_T (.static M_J0_checkIndex_df160.1) := ky_t3 (i := 230) rfl rfl
theorem cv_J0_coder_7d493 : ky_CV M_J0_coder_7d493 0 := ⟨ky_t3 (i := 215) rfl rfl, ky_t1 (i := 12) rfl rfl, ⟨by decide +kernel, by decide +kernel, by decide +kernel⟩, Nat.le_of_ble_eq_true rfl⟩
theorem sv_J0_coder_7d493 : ky_CVv M_J0_coder_7d493 := ⟨ky_t3 (i := 213) rfl rfl, ky_t3 (i := 214) rfl rfl⟩
theorem cv_J0_isLatin1_aae02 : ky_CV M_J0_isLatin1_aae02 0 := ⟨ky_t3 (i := 225) rfl rfl, ky_t1 (i := 12) rfl rfl, ⟨by decide +kernel, by decide +kernel, by decide +kernel⟩, Nat.le_of_ble_eq_true rfl⟩
theorem sv_J0_isLatin1_aae02 : ky_CVv M_J0_isLatin1_aae02 := ⟨ky_t3 (i := 223) rfl rfl, ky_t3 (i := 224) rfl rfl⟩
theorem cv_J0_length_8abf5 : ky_CV M_J0_length_8abf5 0 := ⟨ky_t3 (i := 211) rfl rfl, ky_t1 (i := 12) rfl rfl, ⟨by decide +kernel, by decide +kernel, by decide +kernel⟩, Nat.le_of_ble_eq_true rfl⟩
theorem sv_J0_length_8abf5 : ky_CVv M_J0_length_8abf5 := ⟨ky_t3 (i := 209) rfl rfl, ky_t3 (i := 210) rfl rfl⟩
theorem cv_J13_bitCount_95d88 : ky_CV M_J13_bitCount_95d88 1 := ⟨ky_t3 (i := 100) rfl rfl, ky_t1 (i := 29) rfl rfl, ⟨by decide +kernel, by decide +kernel, by decide +kernel⟩, Nat.le_of_ble_eq_true rfl⟩
theorem sv_J13_bitCount_95d88 : ky_T (.static M_J13_bitCount_95d88.1) := ky_t3 (i := 99) rfl rfl
theorem cv_J1_charAt_3b067 : ky_CV M_J1_charAt_3b067 2 := ⟨ky_t3 (i := 228) rfl rfl, ky_t1 (i := 13) rfl rfl, ⟨by decide +kernel, by decide +kernel, by decide +kernel⟩, Nat.le_of_ble_eq_true rfl⟩
theorem sv_J1_charAt_3b067 : ky_T (.static M_J1_charAt_3b067.1) := ky_t3 (i := 227) rfl rfl
theorem cv_J2_charAt_3b067 : ky_CV M_J2_charAt_3b067 2 := ⟨ky_t3 (i := 239) rfl rfl, ky_t1 (i := 15) rfl rfl, ⟨by decide +kernel, by decide +kernel, by decide +kernel⟩, Nat.le_of_ble_eq_true rfl⟩
theorem sv_J2_charAt_3b067 : ky_T (.static M_J2_charAt_3b067.1) := ky_t3 (i := 238) rfl rfl
theorem cv_J2_checkIndex_2214a : ky_CV M_J2_checkIndex_2214a 2 := ⟨ky_t4 (i := 2) rfl rfl, ky_t1 (i := 15) rfl rfl, ⟨by decide +kernel, by decide +kernel, by decide +kernel⟩, Nat.le_of_ble_eq_true rfl⟩
theorem sv_J2_checkIndex_2214a : ky_T (.static M_J2_checkIndex_2214a.1) := ky_t4 (i := 1) rfl rfl
theorem cv_J2_getChar_3b067 : ky_CV M_J2_getChar_3b067 2 := ⟨ky_t4 (i := 9) rfl rfl, ky_t1 (i := 15) rfl rfl, ⟨by decide +kernel, by decide +kernel, by decide +kernel⟩, Nat.le_of_ble_eq_true rfl⟩
theorem sv_J2_getChar_3b067 : ky_T (.static M_J2_getChar_3b067.1) := ky_t4 (i := 8) rfl rfl
theorem cv_J2_length_9d52b : ky_CV M_J2_length_9d52b 1 := ⟨ky_t4 (i := 5) rfl rfl, ky_t1 (i := 15) rfl rfl, ⟨by decide +kernel, by decide +kernel, by decide +kernel⟩, Nat.le_of_ble_eq_true rfl⟩
theorem sv_J2_length_9d52b : ky_T (.static M_J2_length_9d52b.1) := ky_t4 (i := 4) rfl rfl
theorem cv_J3_checkIndex_8e157 : ky_CV M_J3_checkIndex_8e157 3 := ⟨ky_t3 (i := 236) rfl rfl, ky_t1 (i := 14) rfl rfl, ⟨by decide +kernel, by decide +kernel, by decide +kernel⟩, Nat.le_of_ble_eq_true rfl⟩
theorem sv_J3_checkIndex_8e157 : ky_T (.static M_J3_checkIndex_8e157.1) := ky_t3 (i := 235) rfl rfl
theorem cv_J7_copyOf_59c91 : ky_CV M_J7_copyOf_59c91 2 := ⟨ky_t4 (i := 233) rfl rfl, ky_t1 (i := 9) rfl rfl, ⟨by decide +kernel, by decide +kernel, by decide +kernel⟩, Nat.le_of_ble_eq_true rfl⟩
theorem sv_J7_copyOf_59c91 : ky_T (.static M_J7_copyOf_59c91.1) := ky_t4 (i := 232) rfl rfl
theorem cv_J7_fill_53178 : ky_CV M_J7_fill_53178 2 := ⟨ky_t1 (i := 191) rfl rfl, ky_t1 (i := 9) rfl rfl, ⟨by decide +kernel, by decide +kernel, by decide +kernel⟩, Nat.le_of_ble_eq_true rfl⟩
theorem sv_J7_fill_53178 : ky_T (.static M_J7_fill_53178.1) := ky_t1 (i := 190) rfl rfl
theorem cv_X0_init : ky_CV M_X0_init 0 := ⟨ky_t1 (i := 69) rfl rfl, ky_t1 (i := 3) rfl rfl, ⟨by decide +kernel, by decide +kernel, by decide +kernel⟩, Nat.le_of_ble_eq_true rfl⟩
theorem sv_X0_init : ky_T (.instanceMethod M_X0_init.1) := ky_t1 (i := 68) rfl rfl
theorem cv_X0_placeAt : ky_CV M_X0_placeAt 1 := ⟨ky_t4 (i := 164) rfl rfl, ky_t1 (i := 3) rfl rfl, ⟨by decide +kernel, by decide +kernel, by decide +kernel⟩, Nat.le_of_ble_eq_true rfl⟩
theorem sv_X0_placeAt : ky_CVv M_X0_placeAt := ⟨ky_t4 (i := 163) rfl rfl, ky_s2 (i := 10) (q := (⟨"WaistSand$BeachReader", "placeAt", "(I)I"⟩, 5)) rfl⟩
theorem cv_X0_readLine : ky_CV M_X0_readLine 1 := ⟨ky_t3 (i := 198) rfl rfl, ky_t1 (i := 3) rfl rfl, ⟨by decide +kernel, by decide +kernel, by decide +kernel⟩, Nat.le_of_ble_eq_true rfl⟩
theorem sv_X0_readLine : ky_CVv M_X0_readLine := ⟨ky_t3 (i := 197) rfl rfl, ky_s2 (i := 0) (q := (⟨"WaistSand$BeachReader", "readLine", "(LWaistSand$Tape;)Z"⟩, 5)) rfl⟩
theorem cv_X0_readRest : ky_CV M_X0_readRest 2 := ⟨ky_t4 (i := 27) rfl rfl, ky_t1 (i := 3) rfl rfl, ⟨by decide +kernel, by decide +kernel, by decide +kernel⟩, Nat.le_of_ble_eq_true rfl⟩
theorem sv_X0_readRest : ky_CVv M_X0_readRest := ⟨ky_t4 (i := 26) rfl rfl, ky_s2 (i := 3) (q := (⟨"WaistSand$BeachReader", "readRest", "(LWaistSand$Tape;I)Z"⟩, 5)) rfl⟩
theorem cv_X0_reads : ky_CV M_X0_reads 2 := ⟨ky_t3 (i := 182) rfl rfl, ky_t1 (i := 3) rfl rfl, ⟨by decide +kernel, by decide +kernel, by decide +kernel⟩, Nat.le_of_ble_eq_true rfl⟩
theorem sv_X0_reads : ky_CVv M_X0_reads := ⟨ky_t3 (i := 180) rfl rfl, ky_t3 (i := 181) rfl rfl⟩
theorem cv_X0_take : ky_CV M_X0_take 3 := ⟨ky_t4 (i := 31) rfl rfl, ky_t1 (i := 3) rfl rfl, ⟨by decide +kernel, by decide +kernel, by decide +kernel⟩, Nat.le_of_ble_eq_true rfl⟩
theorem sv_X0_take : ky_CVv M_X0_take := ⟨ky_t4 (i := 30) rfl rfl, ky_s2 (i := 4) (q := (⟨"WaistSand$BeachReader", "take", "(LWaistSand$Tape;II)Z"⟩, 5)) rfl⟩
theorem cv_X0_takePlace : ky_CV M_X0_takePlace 1 := ⟨ky_t4 (i := 48) rfl rfl, ky_t1 (i := 3) rfl rfl, ⟨by decide +kernel, by decide +kernel, by decide +kernel⟩, Nat.le_of_ble_eq_true rfl⟩
theorem sv_X0_takePlace : ky_CVv M_X0_takePlace := ⟨ky_t4 (i := 47) rfl rfl, ky_s2 (i := 5) (q := (⟨"WaistSand$BeachReader", "takePlace", "(LWaistSand$Tape;)Z"⟩, 5)) rfl⟩
theorem cv_X0_tell : ky_CV M_X0_tell 1 := ⟨ky_t4 (i := 146) rfl rfl, ky_t1 (i := 3) rfl rfl, ⟨by decide +kernel, by decide +kernel, by decide +kernel⟩, Nat.le_of_ble_eq_true rfl⟩
theorem sv_X0_tell : ky_CVv M_X0_tell := ⟨ky_t4 (i := 144) rfl rfl, ky_t4 (i := 145) rfl rfl⟩
theorem cv_X0_tellBody : ky_CV M_X0_tellBody 3 := ⟨ky_t4 (i := 150) rfl rfl, ky_t1 (i := 3) rfl rfl, ⟨by decide +kernel, by decide +kernel, by decide +kernel⟩, Nat.le_of_ble_eq_true rfl⟩
theorem sv_X0_tellBody : ky_CVv M_X0_tellBody := ⟨ky_t4 (i := 149) rfl rfl, ky_s2 (i := 8) (q := (⟨"WaistSand$BeachReader", "tellBody", "(LWaistSand$Body;II)V"⟩, 5)) rfl⟩
theorem cv_X0_tellShore : ky_CV M_X0_tellShore 3 := ⟨ky_t4 (i := 160) rfl rfl, ky_t1 (i := 3) rfl rfl, ⟨by decide +kernel, by decide +kernel, by decide +kernel⟩, Nat.le_of_ble_eq_true rfl⟩
theorem sv_X0_tellShore : ky_CVv M_X0_tellShore := ⟨ky_t4 (i := 159) rfl rfl, ky_s2 (i := 9) (q := (⟨"WaistSand$BeachReader", "tellShore", "(LWaistSand$Shore;II)V"⟩, 5)) rfl⟩
theorem cv_X10_begin : ky_CV M_X10_begin 1 := ⟨ky_t2 (i := 170) rfl rfl, ky_t1 (i := 27) rfl rfl, ⟨by decide +kernel, by decide +kernel, by decide +kernel⟩, Nat.le_of_ble_eq_true rfl⟩
theorem sv_X10_begin : ky_CVv M_X10_begin := ⟨ky_t2 (i := 169) rfl rfl, ky_s1 (i := 3) (q := (⟨"WaistSand$Ways", "begin", "(I)V"⟩, 13)) rfl⟩
theorem cv_X10_bestStep : ky_CV M_X10_bestStep 3 := ⟨ky_t3 (i := 8) rfl rfl, ky_t1 (i := 27) rfl rfl, ⟨by decide +kernel, by decide +kernel, by decide +kernel⟩, Nat.le_of_ble_eq_true rfl⟩
theorem sv_X10_bestStep : ky_CVv M_X10_bestStep := ⟨ky_t3 (i := 6) rfl rfl, ky_t3 (i := 7) rfl rfl⟩
theorem cv_X10_enterSlot : ky_CV M_X10_enterSlot 2 := ⟨ky_t2 (i := 175) rfl rfl, ky_t1 (i := 27) rfl rfl, ⟨by decide +kernel, by decide +kernel, by decide +kernel⟩, Nat.le_of_ble_eq_true rfl⟩
theorem sv_X10_enterSlot : ky_CVv M_X10_enterSlot := ⟨ky_t2 (i := 174) rfl rfl, ky_s1 (i := 4) (q := (⟨"WaistSand$Ways", "enterSlot", "(II)V"⟩, 13)) rfl⟩
theorem cv_X10_forget : ky_CV M_X10_forget 0 := ⟨ky_t2 (i := 162) rfl rfl, ky_t1 (i := 27) rfl rfl, ⟨by decide +kernel, by decide +kernel, by decide +kernel⟩, Nat.le_of_ble_eq_true rfl⟩
theorem sv_X10_forget : ky_CVv M_X10_forget := ⟨ky_t2 (i := 160) rfl rfl, ky_t2 (i := 161) rfl rfl⟩
theorem cv_X10_init : ky_CV M_X10_init 0 := ⟨ky_t2 (i := 108) rfl rfl, ky_t1 (i := 27) rfl rfl, ⟨by decide +kernel, by decide +kernel, by decide +kernel⟩, Nat.le_of_ble_eq_true rfl⟩
theorem sv_X10_init : ky_T (.instanceMethod M_X10_init.1) := ky_t2 (i := 107) rfl rfl
theorem cv_X10_isIn : ky_CV M_X10_isIn 2 := ⟨ky_t2 (i := 190) rfl rfl, ky_t1 (i := 27) rfl rfl, ⟨by decide +kernel, by decide +kernel, by decide +kernel⟩, Nat.le_of_ble_eq_true rfl⟩
theorem sv_X10_isIn : ky_T (.static M_X10_isIn.1) := ky_t2 (i := 189) rfl rfl
theorem cv_X10_leadingStep : ky_CV M_X10_leadingStep 2 := ⟨ky_t3 (i := 17) rfl rfl, ky_t1 (i := 27) rfl rfl, ⟨by decide +kernel, by decide +kernel, by decide +kernel⟩, Nat.le_of_ble_eq_true rfl⟩
theorem sv_X10_leadingStep : ky_CVv M_X10_leadingStep := ⟨ky_t3 (i := 16) rfl rfl, ky_s1 (i := 10) (q := (⟨"WaistSand$Ways", "leadingStep", "(II)I"⟩, 13)) rfl⟩
theorem cv_X10_leaveSlot : ky_CV M_X10_leaveSlot 1 := ⟨ky_t2 (i := 183) rfl rfl, ky_t1 (i := 27) rfl rfl, ⟨by decide +kernel, by decide +kernel, by decide +kernel⟩, Nat.le_of_ble_eq_true rfl⟩
theorem sv_X10_leaveSlot : ky_CVv M_X10_leaveSlot := ⟨ky_t2 (i := 182) rfl rfl, ky_s1 (i := 5) (q := (⟨"WaistSand$Ways", "leaveSlot", "(I)V"⟩, 13)) rfl⟩
theorem cv_X10_lookAt : ky_CV M_X10_lookAt 3 := ⟨ky_t2 (i := 154) rfl rfl, ky_t1 (i := 27) rfl rfl, ⟨by decide +kernel, by decide +kernel, by decide +kernel⟩, Nat.le_of_ble_eq_true rfl⟩
theorem sv_X10_lookAt : ky_CVv M_X10_lookAt := ⟨ky_t2 (i := 152) rfl rfl, ky_t2 (i := 153) rfl rfl⟩
theorem cv_X10_lookOn : ky_CV M_X10_lookOn 2 := ⟨ky_t2 (i := 187) rfl rfl, ky_t1 (i := 27) rfl rfl, ⟨by decide +kernel, by decide +kernel, by decide +kernel⟩, Nat.le_of_ble_eq_true rfl⟩
theorem sv_X10_lookOn : ky_CVv M_X10_lookOn := ⟨ky_t2 (i := 186) rfl rfl, ky_s1 (i := 6) (q := (⟨"WaistSand$Ways", "lookOn", "(II)V"⟩, 13)) rfl⟩
theorem cv_X10_markLeading : ky_CV M_X10_markLeading 2 := ⟨ky_t3 (i := 13) rfl rfl, ky_t1 (i := 27) rfl rfl, ⟨by decide +kernel, by decide +kernel, by decide +kernel⟩, Nat.le_of_ble_eq_true rfl⟩
theorem sv_X10_markLeading : ky_CVv M_X10_markLeading := ⟨ky_t3 (i := 12) rfl rfl, ky_s1 (i := 9) (q := (⟨"WaistSand$Ways", "markLeading", "(II)V"⟩, 13)) rfl⟩
theorem cv_X10_minutesHome : ky_CV M_X10_minutesHome 2 := ⟨ky_t3 (i := 55) rfl rfl, ky_t1 (i := 27) rfl rfl, ⟨by decide +kernel, by decide +kernel, by decide +kernel⟩, Nat.le_of_ble_eq_true rfl⟩
theorem sv_X10_minutesHome : ky_CVv M_X10_minutesHome := ⟨ky_t3 (i := 54) rfl rfl, ky_s1 (i := 11) (q := (⟨"WaistSand$Ways", "minutesHome", "(II)I"⟩, 13)) rfl⟩
theorem cv_X10_minutesRound : ky_CV M_X10_minutesRound 1 := ⟨ky_t3 (i := 51) rfl rfl, ky_t1 (i := 27) rfl rfl, ⟨by decide +kernel, by decide +kernel, by decide +kernel⟩, Nat.le_of_ble_eq_true rfl⟩
theorem sv_X10_minutesRound : ky_CVv M_X10_minutesRound := ⟨ky_t3 (i := 49) rfl rfl, ky_t3 (i := 50) rfl rfl⟩
theorem cv_X10_moveOf : ky_CV M_X10_moveOf 1 := ⟨ky_t2 (i := 193) rfl rfl, ky_t1 (i := 27) rfl rfl, ⟨by decide +kernel, by decide +kernel, by decide +kernel⟩, Nat.le_of_ble_eq_true rfl⟩
theorem sv_X10_moveOf : ky_T (.static M_X10_moveOf.1) := ky_t2 (i := 192) rfl rfl
theorem cv_X10_numberOf : ky_CV M_X10_numberOf 1 := ⟨ky_t3 (i := 20) rfl rfl, ky_t1 (i := 27) rfl rfl, ⟨by decide +kernel, by decide +kernel, by decide +kernel⟩, Nat.le_of_ble_eq_true rfl⟩
theorem sv_X10_numberOf : ky_T (.static M_X10_numberOf.1) := ky_t3 (i := 19) rfl rfl
theorem cv_X10_search : ky_CV M_X10_search 3 := ⟨ky_t2 (i := 166) rfl rfl, ky_t1 (i := 27) rfl rfl, ⟨by decide +kernel, by decide +kernel, by decide +kernel⟩, Nat.le_of_ble_eq_true rfl⟩
theorem sv_X10_search : ky_CVv M_X10_search := ⟨ky_t2 (i := 164) rfl rfl, ky_t2 (i := 165) rfl rfl⟩
theorem cv_X10_statesFrom : ky_CV M_X10_statesFrom 1 := ⟨ky_t3 (i := 63) rfl rfl, ky_t1 (i := 27) rfl rfl, ⟨by decide +kernel, by decide +kernel, by decide +kernel⟩, Nat.le_of_ble_eq_true rfl⟩
theorem sv_X10_statesFrom : ky_CVv M_X10_statesFrom := ⟨ky_t3 (i := 61) rfl rfl, ky_t3 (i := 62) rfl rfl⟩
theorem cv_X10_target : ky_CV M_X10_target 2 := ⟨ky_t2 (i := 197) rfl rfl, ky_t1 (i := 27) rfl rfl, ⟨by decide +kernel, by decide +kernel, by decide +kernel⟩, Nat.le_of_ble_eq_true rfl⟩
theorem sv_X10_target : ky_CVv M_X10_target := ⟨ky_t2 (i := 196) rfl rfl, ky_s1 (i := 7) (q := (⟨"WaistSand$Ways", "target", "(II)I"⟩, 13)) rfl⟩
theorem cv_X11_back : ky_CV M_X11_back 0 := ⟨ky_t3 (i := 151) rfl rfl, ky_t1 (i := 1) rfl rfl, ⟨by decide +kernel, by decide +kernel, by decide +kernel⟩, Nat.le_of_ble_eq_true rfl⟩
theorem sv_X11_back : ky_CVv M_X11_back := ⟨ky_t3 (i := 149) rfl rfl, ky_t3 (i := 150) rfl rfl⟩
theorem cv_X11_beach : ky_CV M_X11_beach 0 := ⟨ky_t3 (i := 178) rfl rfl, ky_t1 (i := 1) rfl rfl, ⟨by decide +kernel, by decide +kernel, by decide +kernel⟩, Nat.le_of_ble_eq_true rfl⟩
theorem sv_X11_beach : ky_CVv M_X11_beach := ⟨ky_t3 (i := 176) rfl rfl, ky_t3 (i := 177) rfl rfl⟩
theorem cv_X11_best : ky_CV M_X11_best 2 := ⟨ky_t3 (i := 4) rfl rfl, ky_t1 (i := 1) rfl rfl, ⟨by decide +kernel, by decide +kernel, by decide +kernel⟩, Nat.le_of_ble_eq_true rfl⟩
theorem sv_X11_best : ky_CVv M_X11_best := ⟨ky_t3 (i := 2) rfl rfl, ky_t3 (i := 3) rfl rfl⟩
theorem cv_X11_better : ky_CV M_X11_better 2 := ⟨ky_t6 (i := 118) rfl rfl, ky_t1 (i := 1) rfl rfl, ⟨by decide +kernel, by decide +kernel, by decide +kernel⟩, Nat.le_of_ble_eq_true rfl⟩
theorem sv_X11_better : ky_CVv M_X11_better := ⟨ky_t6 (i := 116) rfl rfl, ky_t6 (i := 117) rfl rfl⟩
theorem cv_X11_board : ky_CV M_X11_board 1 := ⟨ky_t6 (i := 48) rfl rfl, ky_t1 (i := 1) rfl rfl, ⟨by decide +kernel, by decide +kernel, by decide +kernel⟩, Nat.le_of_ble_eq_true rfl⟩
theorem sv_X11_board : ky_CVv M_X11_board := ⟨ky_t6 (i := 46) rfl rfl, ky_t6 (i := 47) rfl rfl⟩
theorem cv_X11_cell : ky_CV M_X11_cell 2 := ⟨ky_t5 (i := 101) rfl rfl, ky_t1 (i := 1) rfl rfl, ⟨by decide +kernel, by decide +kernel, by decide +kernel⟩, Nat.le_of_ble_eq_true rfl⟩
theorem sv_X11_cell : ky_CVv M_X11_cell := ⟨ky_t5 (i := 99) rfl rfl, ky_t5 (i := 100) rfl rfl⟩
theorem cv_X11_count : ky_CV M_X11_count 1 := ⟨ky_t3 (i := 160) rfl rfl, ky_t1 (i := 1) rfl rfl, ⟨by decide +kernel, by decide +kernel, by decide +kernel⟩, Nat.le_of_ble_eq_true rfl⟩
theorem sv_X11_count : ky_CVv M_X11_count := ⟨ky_t3 (i := 158) rfl rfl, ky_t3 (i := 159) rfl rfl⟩
theorem cv_X11_deepest : ky_CV M_X11_deepest 0 := ⟨ky_t3 (i := 39) rfl rfl, ky_t1 (i := 1) rfl rfl, ⟨by decide +kernel, by decide +kernel, by decide +kernel⟩, Nat.le_of_ble_eq_true rfl⟩
theorem sv_X11_deepest : ky_CVv M_X11_deepest := ⟨ky_t3 (i := 37) rfl rfl, ky_t3 (i := 38) rfl rfl⟩
theorem cv_X11_edge : ky_CV M_X11_edge 2 := ⟨ky_t6 (i := 153) rfl rfl, ky_t1 (i := 1) rfl rfl, ⟨by decide +kernel, by decide +kernel, by decide +kernel⟩, Nat.le_of_ble_eq_true rfl⟩
theorem sv_X11_edge : ky_CVv M_X11_edge := ⟨ky_t6 (i := 151) rfl rfl, ky_t6 (i := 152) rfl rfl⟩
theorem cv_X11_end : ky_CV M_X11_end 1 := ⟨ky_t2 (i := 83) rfl rfl, ky_t1 (i := 1) rfl rfl, ⟨by decide +kernel, by decide +kernel, by decide +kernel⟩, Nat.le_of_ble_eq_true rfl⟩
theorem sv_X11_end : ky_CVv M_X11_end := ⟨ky_t2 (i := 81) rfl rfl, ky_t2 (i := 82) rfl rfl⟩
theorem cv_X11_fault : ky_CV M_X11_fault 0 := ⟨ky_t2 (i := 87) rfl rfl, ky_t1 (i := 1) rfl rfl, ⟨by decide +kernel, by decide +kernel, by decide +kernel⟩, Nat.le_of_ble_eq_true rfl⟩
theorem sv_X11_fault : ky_CVv M_X11_fault := ⟨ky_t2 (i := 85) rfl rfl, ky_t2 (i := 86) rfl rfl⟩
theorem cv_X11_feed : ky_CV M_X11_feed 5 := ⟨ky_t2 (i := 71) rfl rfl, ky_t1 (i := 1) rfl rfl, ⟨by decide +kernel, by decide +kernel, by decide +kernel⟩, Nat.le_of_ble_eq_true rfl⟩
theorem sv_X11_feed : ky_CVv M_X11_feed := ⟨ky_t2 (i := 69) rfl rfl, ky_t2 (i := 70) rfl rfl⟩
theorem cv_X11_force : ky_CV M_X11_force 2 := ⟨ky_t6 (i := 125) rfl rfl, ky_t1 (i := 1) rfl rfl, ⟨by decide +kernel, by decide +kernel, by decide +kernel⟩, Nat.le_of_ble_eq_true rfl⟩
theorem sv_X11_force : ky_CVv M_X11_force := ⟨ky_t6 (i := 123) rfl rfl, ky_t6 (i := 124) rfl rfl⟩
theorem cv_X11_forgetPast : ky_CV M_X11_forgetPast 0 := ⟨ky_t3 (i := 155) rfl rfl, ky_t1 (i := 1) rfl rfl, ⟨by decide +kernel, by decide +kernel, by decide +kernel⟩, Nat.le_of_ble_eq_true rfl⟩
theorem sv_X11_forgetPast : ky_CVv M_X11_forgetPast := ⟨ky_t3 (i := 154) rfl rfl, ky_s1 (i := 14) (q := (⟨"WaistSand", "forgetPast", "()V"⟩, 11)) rfl⟩
theorem cv_X11_helps : ky_CV M_X11_helps 1 := ⟨ky_t5 (i := 90) rfl rfl, ky_t1 (i := 1) rfl rfl, ⟨by decide +kernel, by decide +kernel, by decide +kernel⟩, Nat.le_of_ble_eq_true rfl⟩
theorem sv_X11_helps : ky_CVv M_X11_helps := ⟨ky_t5 (i := 89) rfl rfl, ky_s3 (i := 2) (q := (⟨"WaistSand", "helps", "(I)I"⟩, 11)) rfl⟩
theorem cv_X11_holes : ky_CV M_X11_holes 2 := ⟨ky_t6 (i := 188) rfl rfl, ky_t1 (i := 1) rfl rfl, ⟨by decide +kernel, by decide +kernel, by decide +kernel⟩, Nat.le_of_ble_eq_true rfl⟩
theorem sv_X11_holes : ky_CVv M_X11_holes := ⟨ky_t6 (i := 186) rfl rfl, ky_t6 (i := 187) rfl rfl⟩
theorem cv_X11_image : ky_CV M_X11_image 0 := ⟨ky_t3 (i := 147) rfl rfl, ky_t1 (i := 1) rfl rfl, ⟨by decide +kernel, by decide +kernel, by decide +kernel⟩, Nat.le_of_ble_eq_true rfl⟩
theorem sv_X11_image : ky_CVv M_X11_image := ⟨ky_t3 (i := 145) rfl rfl, ky_t3 (i := 146) rfl rfl⟩
theorem cv_X11_init : ky_CV M_X11_init 0 := ⟨ky_t1 (i := 34) rfl rfl, ky_t1 (i := 1) rfl rfl, ⟨by decide +kernel, by decide +kernel, by decide +kernel⟩, Nat.le_of_ble_eq_true rfl⟩
theorem sv_X11_init : ky_T (.instanceMethod M_X11_init.1) := ky_t1 (i := 33) rfl rfl
theorem cv_X11_isCell : ky_CV M_X11_isCell 1 := ⟨ky_t5 (i := 104) rfl rfl, ky_t1 (i := 1) rfl rfl, ⟨by decide +kernel, by decide +kernel, by decide +kernel⟩, Nat.le_of_ble_eq_true rfl⟩
theorem sv_X11_isCell : ky_T (.static M_X11_isCell.1) := ky_t5 (i := 103) rfl rfl
theorem cv_X11_isForce : ky_CV M_X11_isForce 1 := ⟨ky_t5 (i := 232) rfl rfl, ky_t1 (i := 1) rfl rfl, ⟨by decide +kernel, by decide +kernel, by decide +kernel⟩, Nat.le_of_ble_eq_true rfl⟩
theorem sv_X11_isForce : ky_T (.static M_X11_isForce.1) := ky_t5 (i := 231) rfl rfl
theorem cv_X11_isLeg : ky_CV M_X11_isLeg 1 := ⟨ky_t5 (i := 160) rfl rfl, ky_t1 (i := 1) rfl rfl, ⟨by decide +kernel, by decide +kernel, by decide +kernel⟩, Nat.le_of_ble_eq_true rfl⟩
theorem sv_X11_isLeg : ky_T (.static M_X11_isLeg.1) := ky_t5 (i := 159) rfl rfl
theorem cv_X11_isMove : ky_CV M_X11_isMove 1 := ⟨ky_t5 (i := 54) rfl rfl, ky_t1 (i := 1) rfl rfl, ⟨by decide +kernel, by decide +kernel, by decide +kernel⟩, Nat.le_of_ble_eq_true rfl⟩
theorem sv_X11_isMove : ky_T (.static M_X11_isMove.1) := ky_t5 (i := 53) rfl rfl
theorem cv_X11_isPerson : ky_CV M_X11_isPerson 1 := ⟨ky_t5 (i := 123) rfl rfl, ky_t1 (i := 1) rfl rfl, ⟨by decide +kernel, by decide +kernel, by decide +kernel⟩, Nat.le_of_ble_eq_true rfl⟩
theorem sv_X11_isPerson : ky_CVv M_X11_isPerson := ⟨ky_t5 (i := 122) rfl rfl, ky_s3 (i := 3) (q := (⟨"WaistSand", "isPerson", "(I)Z"⟩, 11)) rfl⟩
theorem cv_X11_isRun : ky_CV M_X11_isRun 1 := ⟨ky_t6 (i := 101) rfl rfl, ky_t1 (i := 1) rfl rfl, ⟨by decide +kernel, by decide +kernel, by decide +kernel⟩, Nat.le_of_ble_eq_true rfl⟩
theorem sv_X11_isRun : ky_T (.static M_X11_isRun.1) := ky_t6 (i := 100) rfl rfl
theorem cv_X11_isTrial : ky_CV M_X11_isTrial 1 := ⟨ky_t6 (i := 212) rfl rfl, ky_t1 (i := 1) rfl rfl, ⟨by decide +kernel, by decide +kernel, by decide +kernel⟩, Nat.le_of_ble_eq_true rfl⟩
theorem sv_X11_isTrial : ky_T (.static M_X11_isTrial.1) := ky_t6 (i := 211) rfl rfl
theorem cv_X11_isWeight : ky_CV M_X11_isWeight 1 := ⟨ky_t6 (i := 156) rfl rfl, ky_t1 (i := 1) rfl rfl, ⟨by decide +kernel, by decide +kernel, by decide +kernel⟩, Nat.le_of_ble_eq_true rfl⟩
theorem sv_X11_isWeight : ky_T (.static M_X11_isWeight.1) := ky_t6 (i := 155) rfl rfl
theorem cv_X11_latest : ky_CV M_X11_latest 0 := ⟨ky_t3 (i := 24) rfl rfl, ky_t1 (i := 1) rfl rfl, ⟨by decide +kernel, by decide +kernel, by decide +kernel⟩, Nat.le_of_ble_eq_true rfl⟩
theorem sv_X11_latest : ky_CVv M_X11_latest := ⟨ky_t3 (i := 22) rfl rfl, ky_t3 (i := 23) rfl rfl⟩
theorem cv_X11_law : ky_CV M_X11_law 0 := ⟨ky_t4 (i := 178) rfl rfl, ky_t1 (i := 1) rfl rfl, ⟨by decide +kernel, by decide +kernel, by decide +kernel⟩, Nat.le_of_ble_eq_true rfl⟩
theorem sv_X11_law : ky_CVv M_X11_law := ⟨ky_t4 (i := 176) rfl rfl, ky_t4 (i := 177) rfl rfl⟩
theorem cv_X11_led : ky_CV M_X11_led 2 := ⟨ky_t6 (i := 233) rfl rfl, ky_t1 (i := 1) rfl rfl, ⟨by decide +kernel, by decide +kernel, by decide +kernel⟩, Nat.le_of_ble_eq_true rfl⟩
theorem sv_X11_led : ky_CVv M_X11_led := ⟨ky_t6 (i := 231) rfl rfl, ky_t6 (i := 232) rfl rfl⟩
theorem cv_X11_log : ky_CV M_X11_log 2 := ⟨ky_t7 (i := 16) rfl rfl, ky_t1 (i := 1) rfl rfl, ⟨by decide +kernel, by decide +kernel, by decide +kernel⟩, Nat.le_of_ble_eq_true rfl⟩
theorem sv_X11_log : ky_CVv M_X11_log := ⟨ky_t7 (i := 14) rfl rfl, ky_t7 (i := 15) rfl rfl⟩
theorem cv_X11_minuteByHelp : ky_CV M_X11_minuteByHelp 2 := ⟨ky_t6 (i := 106) rfl rfl, ky_t1 (i := 1) rfl rfl, ⟨by decide +kernel, by decide +kernel, by decide +kernel⟩, Nat.le_of_ble_eq_true rfl⟩
theorem sv_X11_minuteByHelp : ky_CVv M_X11_minuteByHelp := ⟨ky_t6 (i := 105) rfl rfl, ky_s3 (i := 7) (q := (⟨"WaistSand", "minuteByHelp", "(II)I"⟩, 11)) rfl⟩
theorem cv_X11_minutesOut : ky_CV M_X11_minutesOut 2 := ⟨ky_t2 (i := 95) rfl rfl, ky_t1 (i := 1) rfl rfl, ⟨by decide +kernel, by decide +kernel, by decide +kernel⟩, Nat.le_of_ble_eq_true rfl⟩
theorem sv_X11_minutesOut : ky_CVv M_X11_minutesOut := ⟨ky_t2 (i := 94) rfl rfl, ky_s1 (i := 0) (q := (⟨"WaistSand", "minutesOut", "(II)I"⟩, 11)) rfl⟩
theorem cv_X11_minutesOutWith : ky_CV M_X11_minutesOutWith 2 := ⟨ky_t6 (i := 91) rfl rfl, ky_t1 (i := 1) rfl rfl, ⟨by decide +kernel, by decide +kernel, by decide +kernel⟩, Nat.le_of_ble_eq_true rfl⟩
theorem sv_X11_minutesOutWith : ky_CVv M_X11_minutesOutWith := ⟨ky_t6 (i := 90) rfl rfl, ky_s3 (i := 6) (q := (⟨"WaistSand", "minutesOutWith", "(II)I"⟩, 11)) rfl⟩
theorem cv_X11_more : ky_CV M_X11_more 0 := ⟨ky_t3 (i := 59) rfl rfl, ky_t1 (i := 1) rfl rfl, ⟨by decide +kernel, by decide +kernel, by decide +kernel⟩, Nat.le_of_ble_eq_true rfl⟩
theorem sv_X11_more : ky_CVv M_X11_more := ⟨ky_t3 (i := 57) rfl rfl, ky_t3 (i := 58) rfl rfl⟩
theorem cv_X11_move : ky_CV M_X11_move 2 := ⟨ky_t5 (i := 51) rfl rfl, ky_t1 (i := 1) rfl rfl, ⟨by decide +kernel, by decide +kernel, by decide +kernel⟩, Nat.le_of_ble_eq_true rfl⟩
theorem sv_X11_move : ky_CVv M_X11_move := ⟨ky_t5 (i := 49) rfl rfl, ky_t5 (i := 50) rfl rfl⟩
theorem cv_X11_moved : ky_CV M_X11_moved 2 := ⟨ky_t5 (i := 157) rfl rfl, ky_t1 (i := 1) rfl rfl, ⟨by decide +kernel, by decide +kernel, by decide +kernel⟩, Nat.le_of_ble_eq_true rfl⟩
theorem sv_X11_moved : ky_CVv M_X11_moved := ⟨ky_t5 (i := 155) rfl rfl, ky_t5 (i := 156) rfl rfl⟩
theorem cv_X11_moves : ky_CV M_X11_moves 1 := ⟨ky_t6 (i := 60) rfl rfl, ky_t1 (i := 1) rfl rfl, ⟨by decide +kernel, by decide +kernel, by decide +kernel⟩, Nat.le_of_ble_eq_true rfl⟩
theorem sv_X11_moves : ky_CVv M_X11_moves := ⟨ky_t6 (i := 58) rfl rfl, ky_t6 (i := 59) rfl rfl⟩
theorem cv_X11_person : ky_CV M_X11_person 2 := ⟨ky_t5 (i := 119) rfl rfl, ky_t1 (i := 1) rfl rfl, ⟨by decide +kernel, by decide +kernel, by decide +kernel⟩, Nat.le_of_ble_eq_true rfl⟩
theorem sv_X11_person : ky_CVv M_X11_person := ⟨ky_t5 (i := 117) rfl rfl, ky_t5 (i := 118) rfl rfl⟩
theorem cv_X11_placed : ky_CV M_X11_placed 0 := ⟨ky_t3 (i := 79) rfl rfl, ky_t1 (i := 1) rfl rfl, ⟨by decide +kernel, by decide +kernel, by decide +kernel⟩, Nat.le_of_ble_eq_true rfl⟩
theorem sv_X11_placed : ky_CVv M_X11_placed := ⟨ky_t3 (i := 77) rfl rfl, ky_t3 (i := 78) rfl rfl⟩
theorem cv_X11_pour : ky_CV M_X11_pour 0 := ⟨ky_t6 (i := 31) rfl rfl, ky_t1 (i := 1) rfl rfl, ⟨by decide +kernel, by decide +kernel, by decide +kernel⟩, Nat.le_of_ble_eq_true rfl⟩
theorem sv_X11_pour : ky_CVv M_X11_pour := ⟨ky_t6 (i := 29) rfl rfl, ky_t6 (i := 30) rfl rfl⟩
theorem cv_X11_pull : ky_CV M_X11_pull 1 := ⟨ky_t5 (i := 229) rfl rfl, ky_t1 (i := 1) rfl rfl, ⟨by decide +kernel, by decide +kernel, by decide +kernel⟩, Nat.le_of_ble_eq_true rfl⟩
theorem sv_X11_pull : ky_CVv M_X11_pull := ⟨ky_t5 (i := 227) rfl rfl, ky_t5 (i := 228) rfl rfl⟩
theorem cv_X11_reach : ky_CV M_X11_reach 2 := ⟨ky_t6 (i := 145) rfl rfl, ky_t1 (i := 1) rfl rfl, ⟨by decide +kernel, by decide +kernel, by decide +kernel⟩, Nat.le_of_ble_eq_true rfl⟩
theorem sv_X11_reach : ky_CVv M_X11_reach := ⟨ky_t6 (i := 143) rfl rfl, ky_t6 (i := 144) rfl rfl⟩
theorem cv_X11_remember : ky_CV M_X11_remember 0 := ⟨ky_t5 (i := 186) rfl rfl, ky_t1 (i := 1) rfl rfl, ⟨by decide +kernel, by decide +kernel, by decide +kernel⟩, Nat.le_of_ble_eq_true rfl⟩
theorem sv_X11_remember : ky_CVv M_X11_remember := ⟨ky_t5 (i := 185) rfl rfl, ky_s3 (i := 4) (q := (⟨"WaistSand", "remember", "()V"⟩, 11)) rfl⟩
theorem cv_X11_rope : ky_CV M_X11_rope 1 := ⟨ky_t6 (i := 200) rfl rfl, ky_t1 (i := 1) rfl rfl, ⟨by decide +kernel, by decide +kernel, by decide +kernel⟩, Nat.le_of_ble_eq_true rfl⟩
theorem sv_X11_rope : ky_CVv M_X11_rope := ⟨ky_t6 (i := 198) rfl rfl, ky_t6 (i := 199) rfl rfl⟩
theorem cv_X11_round : ky_CV M_X11_round 0 := ⟨ky_t3 (i := 47) rfl rfl, ky_t1 (i := 1) rfl rfl, ⟨by decide +kernel, by decide +kernel, by decide +kernel⟩, Nat.le_of_ble_eq_true rfl⟩
theorem sv_X11_round : ky_CVv M_X11_round := ⟨ky_t3 (i := 45) rfl rfl, ky_t3 (i := 46) rfl rfl⟩
theorem cv_X11_run : ky_CV M_X11_run 2 := ⟨ky_t6 (i := 98) rfl rfl, ky_t1 (i := 1) rfl rfl, ⟨by decide +kernel, by decide +kernel, by decide +kernel⟩, Nat.le_of_ble_eq_true rfl⟩
theorem sv_X11_run : ky_CVv M_X11_run := ⟨ky_t6 (i := 96) rfl rfl, ky_t6 (i := 97) rfl rfl⟩
theorem cv_X11_seed : ky_CV M_X11_seed 1 := ⟨ky_t3 (i := 114) rfl rfl, ky_t1 (i := 1) rfl rfl, ⟨by decide +kernel, by decide +kernel, by decide +kernel⟩, Nat.le_of_ble_eq_true rfl⟩
theorem sv_X11_seed : ky_CVv M_X11_seed := ⟨ky_t3 (i := 112) rfl rfl, ky_t3 (i := 113) rfl rfl⟩
theorem cv_X11_signs : ky_CV M_X11_signs 2 := ⟨ky_t6 (i := 169) rfl rfl, ky_t1 (i := 1) rfl rfl, ⟨by decide +kernel, by decide +kernel, by decide +kernel⟩, Nat.le_of_ble_eq_true rfl⟩
theorem sv_X11_signs : ky_CVv M_X11_signs := ⟨ky_t6 (i := 167) rfl rfl, ky_t6 (i := 168) rfl rfl⟩
theorem cv_X11_sinking : ky_CV M_X11_sinking 0 := ⟨ky_t3 (i := 67) rfl rfl, ky_t1 (i := 1) rfl rfl, ⟨by decide +kernel, by decide +kernel, by decide +kernel⟩, Nat.le_of_ble_eq_true rfl⟩
theorem sv_X11_sinking : ky_CVv M_X11_sinking := ⟨ky_t3 (i := 65) rfl rfl, ky_t3 (i := 66) rfl rfl⟩
theorem cv_X11_soonest : ky_CV M_X11_soonest 1 := ⟨ky_t2 (i := 91) rfl rfl, ky_t1 (i := 1) rfl rfl, ⟨by decide +kernel, by decide +kernel, by decide +kernel⟩, Nat.le_of_ble_eq_true rfl⟩
theorem sv_X11_soonest : ky_CVv M_X11_soonest := ⟨ky_t2 (i := 89) rfl rfl, ky_t2 (i := 90) rfl rfl⟩
theorem cv_X11_span : ky_CV M_X11_span 2 := ⟨ky_t6 (i := 225) rfl rfl, ky_t1 (i := 1) rfl rfl, ⟨by decide +kernel, by decide +kernel, by decide +kernel⟩, Nat.le_of_ble_eq_true rfl⟩
theorem sv_X11_span : ky_CVv M_X11_span := ⟨ky_t6 (i := 223) rfl rfl, ky_t6 (i := 224) rfl rfl⟩
theorem cv_X11_stuck : ky_CV M_X11_stuck 0 := ⟨ky_t3 (i := 28) rfl rfl, ky_t1 (i := 1) rfl rfl, ⟨by decide +kernel, by decide +kernel, by decide +kernel⟩, Nat.le_of_ble_eq_true rfl⟩
theorem sv_X11_stuck : ky_CVv M_X11_stuck := ⟨ky_t3 (i := 26) rfl rfl, ky_t3 (i := 27) rfl rfl⟩
theorem cv_X11_talk : ky_CV M_X11_talk 0 := ⟨ky_t6 (i := 19) rfl rfl, ky_t1 (i := 1) rfl rfl, ⟨by decide +kernel, by decide +kernel, by decide +kernel⟩, Nat.le_of_ble_eq_true rfl⟩
theorem sv_X11_talk : ky_CVv M_X11_talk := ⟨ky_t6 (i := 17) rfl rfl, ky_t6 (i := 18) rfl rfl⟩
theorem cv_X11_trial : ky_CV M_X11_trial 2 := ⟨ky_t6 (i := 209) rfl rfl, ky_t1 (i := 1) rfl rfl, ⟨by decide +kernel, by decide +kernel, by decide +kernel⟩, Nat.le_of_ble_eq_true rfl⟩
theorem sv_X11_trial : ky_CVv M_X11_trial := ⟨ky_t6 (i := 207) rfl rfl, ky_t6 (i := 208) rfl rfl⟩
theorem cv_X11_tryOut : ky_CV M_X11_tryOut 2 := ⟨ky_t6 (i := 216) rfl rfl, ky_t1 (i := 1) rfl rfl, ⟨by decide +kernel, by decide +kernel, by decide +kernel⟩, Nat.le_of_ble_eq_true rfl⟩
theorem sv_X11_tryOut : ky_CVv M_X11_tryOut := ⟨ky_t6 (i := 215) rfl rfl, ky_s3 (i := 8) (q := (⟨"WaistSand", "tryOut", "(II)V"⟩, 11)) rfl⟩
theorem cv_X11_undo : ky_CV M_X11_undo 0 := ⟨ky_t3 (i := 118) rfl rfl, ky_t1 (i := 1) rfl rfl, ⟨by decide +kernel, by decide +kernel, by decide +kernel⟩, Nat.le_of_ble_eq_true rfl⟩
theorem sv_X11_undo : ky_CVv M_X11_undo := ⟨ky_t3 (i := 116) rfl rfl, ky_t3 (i := 117) rfl rfl⟩
theorem cv_X11_useTapeUp : ky_CV M_X11_useTapeUp 1 := ⟨ky_t4 (i := 57) rfl rfl, ky_t1 (i := 1) rfl rfl, ⟨by decide +kernel, by decide +kernel, by decide +kernel⟩, Nat.le_of_ble_eq_true rfl⟩
theorem sv_X11_useTapeUp : ky_CVv M_X11_useTapeUp := ⟨ky_t4 (i := 56) rfl rfl, ky_s2 (i := 6) (q := (⟨"WaistSand", "useTapeUp", "(Z)V"⟩, 11)) rfl⟩
theorem cv_X11_walk : ky_CV M_X11_walk 2 := ⟨ky_t6 (i := 38) rfl rfl, ky_t1 (i := 1) rfl rfl, ⟨by decide +kernel, by decide +kernel, by decide +kernel⟩, Nat.le_of_ble_eq_true rfl⟩
theorem sv_X11_walk : ky_CVv M_X11_walk := ⟨ky_t6 (i := 36) rfl rfl, ky_t6 (i := 37) rfl rfl⟩
theorem cv_X11_way : ky_CV M_X11_way 3 := ⟨ky_t6 (i := 134) rfl rfl, ky_t1 (i := 1) rfl rfl, ⟨by decide +kernel, by decide +kernel, by decide +kernel⟩, Nat.le_of_ble_eq_true rfl⟩
theorem sv_X11_way : ky_CVv M_X11_way := ⟨ky_t6 (i := 132) rfl rfl, ky_t6 (i := 133) rfl rfl⟩
theorem cv_X11_waysAsItIs : ky_CV M_X11_waysAsItIs 0 := ⟨ky_t2 (i := 99) rfl rfl, ky_t1 (i := 1) rfl rfl, ⟨by decide +kernel, by decide +kernel, by decide +kernel⟩, Nat.le_of_ble_eq_true rfl⟩
theorem sv_X11_waysAsItIs : ky_CVv M_X11_waysAsItIs := ⟨ky_t2 (i := 98) rfl rfl, ky_s1 (i := 1) (q := (⟨"WaistSand", "waysAsItIs", "()LWaistSand$Ways;"⟩, 11)) rfl⟩
theorem cv_X11_waysWith : ky_CV M_X11_waysWith 2 := ⟨ky_t2 (i := 103) rfl rfl, ky_t1 (i := 1) rfl rfl, ⟨by decide +kernel, by decide +kernel, by decide +kernel⟩, Nat.le_of_ble_eq_true rfl⟩
theorem sv_X11_waysWith : ky_CVv M_X11_waysWith := ⟨ky_t2 (i := 102) rfl rfl, ky_s1 (i := 2) (q := (⟨"WaistSand", "waysWith", "(II)LWaistSand$Ways;"⟩, 11)) rfl⟩
theorem cv_X11_worth : ky_CV M_X11_worth 1 := ⟨ky_t6 (i := 84) rfl rfl, ky_t1 (i := 1) rfl rfl, ⟨by decide +kernel, by decide +kernel, by decide +kernel⟩, Nat.le_of_ble_eq_true rfl⟩
theorem sv_X11_worth : ky_CVv M_X11_worth := ⟨ky_t6 (i := 82) rfl rfl, ky_t6 (i := 83) rfl rfl⟩
theorem cv_X11_would : ky_CV M_X11_would 3 := ⟨ky_t6 (i := 76) rfl rfl, ky_t1 (i := 1) rfl rfl, ⟨by decide +kernel, by decide +kernel, by decide +kernel⟩, Nat.le_of_ble_eq_true rfl⟩
theorem sv_X11_would : ky_CVv M_X11_would := ⟨ky_t6 (i := 74) rfl rfl, ky_t6 (i := 75) rfl rfl⟩
theorem cv_X12_after : ky_CV M_X12_after 3 := ⟨ky_t7 (i := 186) rfl rfl, ky_t1 (i := 11) rfl rfl, ⟨by decide +kernel, by decide +kernel, by decide +kernel⟩, Nat.le_of_ble_eq_true rfl⟩
theorem sv_X12_after : ky_CVv M_X12_after := ⟨ky_t7 (i := 185) rfl rfl, ky_s4 (i := 4) (q := (⟨"WaistSandModel", "after", "(Ljava/lang/String;II)I"⟩, 24)) rfl⟩
theorem cv_X12_apart : ky_CV M_X12_apart 2 := ⟨ky_t9 (i := 40) rfl rfl, ky_t1 (i := 11) rfl rfl, ⟨by decide +kernel, by decide +kernel, by decide +kernel⟩, Nat.le_of_ble_eq_true rfl⟩
theorem sv_X12_apart : ky_T (.static M_X12_apart.1) := ky_t9 (i := 39) rfl rfl
theorem cv_X12_back : ky_CV M_X12_back 0 := ⟨ky_t7 (i := 109) rfl rfl, ky_t1 (i := 11) rfl rfl, ⟨by decide +kernel, by decide +kernel, by decide +kernel⟩, Nat.le_of_ble_eq_true rfl⟩
theorem sv_X12_back : ky_CVv M_X12_back := ⟨ky_t7 (i := 107) rfl rfl, ky_t7 (i := 108) rfl rfl⟩
theorem cv_X12_beach : ky_CV M_X12_beach 0 := ⟨ky_t7 (i := 129) rfl rfl, ky_t1 (i := 11) rfl rfl, ⟨by decide +kernel, by decide +kernel, by decide +kernel⟩, Nat.le_of_ble_eq_true rfl⟩
theorem sv_X12_beach : ky_CVv M_X12_beach := ⟨ky_t7 (i := 127) rfl rfl, ky_t7 (i := 128) rfl rfl⟩
theorem cv_X12_best : ky_CV M_X12_best 2 := ⟨ky_t8 (i := 135) rfl rfl, ky_t1 (i := 11) rfl rfl, ⟨by decide +kernel, by decide +kernel, by decide +kernel⟩, Nat.le_of_ble_eq_true rfl⟩
theorem sv_X12_best : ky_CVv M_X12_best := ⟨ky_t8 (i := 133) rfl rfl, ky_t8 (i := 134) rfl rfl⟩
theorem cv_X12_bestOf : ky_CV M_X12_bestOf 2 := ⟨ky_t8 (i := 120) rfl rfl, ky_t1 (i := 11) rfl rfl, ⟨by decide +kernel, by decide +kernel, by decide +kernel⟩, Nat.le_of_ble_eq_true rfl⟩
theorem sv_X12_bestOf : ky_CVv M_X12_bestOf := ⟨ky_t8 (i := 119) rfl rfl, ky_s6 (i := 0) (q := (⟨"WaistSandModel", "bestOf", "(II)I"⟩, 24)) rfl⟩
theorem cv_X12_better : ky_CV M_X12_better 2 := ⟨ky_t8 (i := 201) rfl rfl, ky_t1 (i := 11) rfl rfl, ⟨by decide +kernel, by decide +kernel, by decide +kernel⟩, Nat.le_of_ble_eq_true rfl⟩
theorem sv_X12_better : ky_CVv M_X12_better := ⟨ky_t8 (i := 199) rfl rfl, ky_t8 (i := 200) rfl rfl⟩
theorem cv_X12_blanks : ky_CV M_X12_blanks 0 := ⟨ky_t7 (i := 141) rfl rfl, ky_t1 (i := 11) rfl rfl, ⟨by decide +kernel, by decide +kernel, by decide +kernel⟩, Nat.le_of_ble_eq_true rfl⟩
theorem sv_X12_blanks : ky_CVv M_X12_blanks := ⟨ky_t7 (i := 140) rfl rfl, ky_s3 (i := 11) (q := (⟨"WaistSandModel", "blanks", "()V"⟩, 24)) rfl⟩
theorem cv_X12_board : ky_CV M_X12_board 1 := ⟨ky_t9 (i := 49) rfl rfl, ky_t1 (i := 11) rfl rfl, ⟨by decide +kernel, by decide +kernel, by decide +kernel⟩, Nat.le_of_ble_eq_true rfl⟩
theorem sv_X12_board : ky_CVv M_X12_board := ⟨ky_t9 (i := 47) rfl rfl, ky_t9 (i := 48) rfl rfl⟩
theorem cv_X12_boardedOf : ky_CV M_X12_boardedOf 1 := ⟨ky_t9 (i := 65) rfl rfl, ky_t1 (i := 11) rfl rfl, ⟨by decide +kernel, by decide +kernel, by decide +kernel⟩, Nat.le_of_ble_eq_true rfl⟩
theorem sv_X12_boardedOf : ky_CVv M_X12_boardedOf := ⟨ky_t9 (i := 64) rfl rfl, ky_s7 (i := 7) (q := (⟨"WaistSandModel", "boardedOf", "(I)I"⟩, 24)) rfl⟩
theorem cv_X12_bringsBack : ky_CV M_X12_bringsBack 0 := ⟨ky_t9 (i := 149) rfl rfl, ky_t1 (i := 11) rfl rfl, ⟨by decide +kernel, by decide +kernel, by decide +kernel⟩, Nat.le_of_ble_eq_true rfl⟩
theorem sv_X12_bringsBack : ky_CVv M_X12_bringsBack := ⟨ky_t9 (i := 148) rfl rfl, ky_s8 (i := 1) (q := (⟨"WaistSandModel", "bringsBack", "()V"⟩, 24)) rfl⟩
theorem cv_X12_cell : ky_CV M_X12_cell 2 := ⟨ky_t9 (i := 89) rfl rfl, ky_t1 (i := 11) rfl rfl, ⟨by decide +kernel, by decide +kernel, by decide +kernel⟩, Nat.le_of_ble_eq_true rfl⟩
theorem sv_X12_cell : ky_CVv M_X12_cell := ⟨ky_t9 (i := 87) rfl rfl, ky_t9 (i := 88) rfl rfl⟩
theorem cv_X12_cellTold : ky_CV M_X12_cellTold 0 := ⟨ky_t7 (i := 199) rfl rfl, ky_t1 (i := 11) rfl rfl, ⟨by decide +kernel, by decide +kernel, by decide +kernel⟩, Nat.le_of_ble_eq_true rfl⟩
theorem sv_X12_cellTold : ky_CVv M_X12_cellTold := ⟨ky_t7 (i := 198) rfl rfl, ky_s4 (i := 6) (q := (⟨"WaistSandModel", "cellTold", "()I"⟩, 24)) rfl⟩
theorem cv_X12_costOf : ky_CV M_X12_costOf 3 := ⟨ky_t9 (i := 77) rfl rfl, ky_t1 (i := 11) rfl rfl, ⟨by decide +kernel, by decide +kernel, by decide +kernel⟩, Nat.le_of_ble_eq_true rfl⟩
theorem sv_X12_costOf : ky_CVv M_X12_costOf := ⟨ky_t9 (i := 76) rfl rfl, ky_s7 (i := 10) (q := (⟨"WaistSandModel", "costOf", "(IIZ)I"⟩, 24)) rfl⟩
theorem cv_X12_count : ky_CV M_X12_count 1 := ⟨ky_t9 (i := 173) rfl rfl, ky_t1 (i := 11) rfl rfl, ⟨by decide +kernel, by decide +kernel, by decide +kernel⟩, Nat.le_of_ble_eq_true rfl⟩
theorem sv_X12_count : ky_CVv M_X12_count := ⟨ky_t9 (i := 171) rfl rfl, ky_t9 (i := 172) rfl rfl⟩
theorem cv_X12_deeper : ky_CV M_X12_deeper 2 := ⟨ky_t8 (i := 81) rfl rfl, ky_t1 (i := 11) rfl rfl, ⟨by decide +kernel, by decide +kernel, by decide +kernel⟩, Nat.le_of_ble_eq_true rfl⟩
theorem sv_X12_deeper : ky_T (.static M_X12_deeper.1) := ky_t8 (i := 80) rfl rfl
theorem cv_X12_deepest : ky_CV M_X12_deepest 0 := ⟨ky_t8 (i := 162) rfl rfl, ky_t1 (i := 11) rfl rfl, ⟨by decide +kernel, by decide +kernel, by decide +kernel⟩, Nat.le_of_ble_eq_true rfl⟩
theorem sv_X12_deepest : ky_CVv M_X12_deepest := ⟨ky_t8 (i := 160) rfl rfl, ky_t8 (i := 161) rfl rfl⟩
theorem cv_X12_draw : ky_CV M_X12_draw 1 := ⟨ky_t8 (i := 233) rfl rfl, ky_t1 (i := 11) rfl rfl, ⟨by decide +kernel, by decide +kernel, by decide +kernel⟩, Nat.le_of_ble_eq_true rfl⟩
theorem sv_X12_draw : ky_CVv M_X12_draw := ⟨ky_t8 (i := 232) rfl rfl, ky_s6 (i := 14) (q := (⟨"WaistSandModel", "draw", "(I)I"⟩, 24)) rfl⟩
theorem cv_X12_edge : ky_CV M_X12_edge 2 := ⟨ky_t9 (i := 105) rfl rfl, ky_t1 (i := 11) rfl rfl, ⟨by decide +kernel, by decide +kernel, by decide +kernel⟩, Nat.le_of_ble_eq_true rfl⟩
theorem sv_X12_edge : ky_CVv M_X12_edge := ⟨ky_t9 (i := 103) rfl rfl, ky_t9 (i := 104) rfl rfl⟩
theorem cv_X12_emits : ky_CV M_X12_emits 2 := ⟨ky_t8 (i := 13) rfl rfl, ky_t1 (i := 11) rfl rfl, ⟨by decide +kernel, by decide +kernel, by decide +kernel⟩, Nat.le_of_ble_eq_true rfl⟩
theorem sv_X12_emits : ky_CVv M_X12_emits := ⟨ky_t8 (i := 12) rfl rfl, ky_s5 (i := 1) (q := (⟨"WaistSandModel", "emits", "(II)V"⟩, 24)) rfl⟩
theorem cv_X12_end : ky_CV M_X12_end 1 := ⟨ky_t7 (i := 121) rfl rfl, ky_t1 (i := 11) rfl rfl, ⟨by decide +kernel, by decide +kernel, by decide +kernel⟩, Nat.le_of_ble_eq_true rfl⟩
theorem sv_X12_end : ky_CVv M_X12_end := ⟨ky_t7 (i := 119) rfl rfl, ky_t7 (i := 120) rfl rfl⟩
theorem cv_X12_factOf : ky_CV M_X12_factOf 4 := ⟨ky_t8 (i := 74) rfl rfl, ky_t1 (i := 11) rfl rfl, ⟨by decide +kernel, by decide +kernel, by decide +kernel⟩, Nat.le_of_ble_eq_true rfl⟩
theorem sv_X12_factOf : ky_CVv M_X12_factOf := ⟨ky_t8 (i := 73) rfl rfl, ky_s5 (i := 10) (q := (⟨"WaistSandModel", "factOf", "(IIII)I"⟩, 24)) rfl⟩
theorem cv_X12_farOf : ky_CV M_X12_farOf 1 := ⟨ky_t9 (i := 81) rfl rfl, ky_t1 (i := 11) rfl rfl, ⟨by decide +kernel, by decide +kernel, by decide +kernel⟩, Nat.le_of_ble_eq_true rfl⟩
theorem sv_X12_farOf : ky_CVv M_X12_farOf := ⟨ky_t9 (i := 80) rfl rfl, ky_s7 (i := 11) (q := (⟨"WaistSandModel", "farOf", "(I)I"⟩, 24)) rfl⟩
theorem cv_X12_fault : ky_CV M_X12_fault 0 := ⟨ky_t7 (i := 125) rfl rfl, ky_t1 (i := 11) rfl rfl, ⟨by decide +kernel, by decide +kernel, by decide +kernel⟩, Nat.le_of_ble_eq_true rfl⟩
theorem sv_X12_fault : ky_CVv M_X12_fault := ⟨ky_t7 (i := 123) rfl rfl, ky_t7 (i := 124) rfl rfl⟩
theorem cv_X12_feed : ky_CV M_X12_feed 5 := ⟨ky_t7 (i := 117) rfl rfl, ky_t1 (i := 11) rfl rfl, ⟨by decide +kernel, by decide +kernel, by decide +kernel⟩, Nat.le_of_ble_eq_true rfl⟩
theorem sv_X12_feed : ky_CVv M_X12_feed := ⟨ky_t7 (i := 115) rfl rfl, ky_t7 (i := 116) rfl rfl⟩
theorem cv_X12_force : ky_CV M_X12_force 2 := ⟨ky_t8 (i := 205) rfl rfl, ky_t1 (i := 11) rfl rfl, ⟨by decide +kernel, by decide +kernel, by decide +kernel⟩, Nat.le_of_ble_eq_true rfl⟩
theorem sv_X12_force : ky_CVv M_X12_force := ⟨ky_t8 (i := 203) rfl rfl, ky_t8 (i := 204) rfl rfl⟩
theorem cv_X12_goesBy : ky_CV M_X12_goesBy 1 := ⟨ky_t9 (i := 2) rfl rfl, ky_t1 (i := 11) rfl rfl, ⟨by decide +kernel, by decide +kernel, by decide +kernel⟩, Nat.le_of_ble_eq_true rfl⟩
theorem sv_X12_goesBy : ky_CVv M_X12_goesBy := ⟨ky_t9 (i := 1) rfl rfl, ky_s7 (i := 0) (q := (⟨"WaistSandModel", "goesBy", "(I)V"⟩, 24)) rfl⟩
theorem cv_X12_has : ky_CV M_X12_has 2 := ⟨ky_t8 (i := 123) rfl rfl, ky_t1 (i := 11) rfl rfl, ⟨by decide +kernel, by decide +kernel, by decide +kernel⟩, Nat.le_of_ble_eq_true rfl⟩
theorem sv_X12_has : ky_T (.static M_X12_has.1) := ky_t8 (i := 122) rfl rfl
theorem cv_X12_helpsOf : ky_CV M_X12_helpsOf 1 := ⟨ky_t8 (i := 150) rfl rfl, ky_t1 (i := 11) rfl rfl, ⟨by decide +kernel, by decide +kernel, by decide +kernel⟩, Nat.le_of_ble_eq_true rfl⟩
theorem sv_X12_helpsOf : ky_CVv M_X12_helpsOf := ⟨ky_t8 (i := 149) rfl rfl, ky_s6 (i := 3) (q := (⟨"WaistSandModel", "helpsOf", "(I)I"⟩, 24)) rfl⟩
theorem cv_X12_holdsLine : ky_CV M_X12_holdsLine 3 := ⟨ky_t8 (i := 70) rfl rfl, ky_t1 (i := 11) rfl rfl, ⟨by decide +kernel, by decide +kernel, by decide +kernel⟩, Nat.le_of_ble_eq_true rfl⟩
theorem sv_X12_holdsLine : ky_CVv M_X12_holdsLine := ⟨ky_t8 (i := 69) rfl rfl, ky_s5 (i := 9) (q := (⟨"WaistSandModel", "holdsLine", "(III)Z"⟩, 24)) rfl⟩
theorem cv_X12_holes : ky_CV M_X12_holes 2 := ⟨ky_t9 (i := 124) rfl rfl, ky_t1 (i := 11) rfl rfl, ⟨by decide +kernel, by decide +kernel, by decide +kernel⟩, Nat.le_of_ble_eq_true rfl⟩
theorem sv_X12_holes : ky_CVv M_X12_holes := ⟨ky_t9 (i := 122) rfl rfl, ky_t9 (i := 123) rfl rfl⟩
theorem cv_X12_image : ky_CV M_X12_image 0 := ⟨ky_t7 (i := 105) rfl rfl, ky_t1 (i := 11) rfl rfl, ⟨by decide +kernel, by decide +kernel, by decide +kernel⟩, Nat.le_of_ble_eq_true rfl⟩
theorem sv_X12_image : ky_CVv M_X12_image := ⟨ky_t7 (i := 103) rfl rfl, ky_t7 (i := 104) rfl rfl⟩
theorem cv_X12_in : ky_CV M_X12_in 3 := ⟨ky_t8 (i := 44) rfl rfl, ky_t1 (i := 11) rfl rfl, ⟨by decide +kernel, by decide +kernel, by decide +kernel⟩, Nat.le_of_ble_eq_true rfl⟩
theorem sv_X12_in : ky_T (.static M_X12_in.1) := ky_t8 (i := 43) rfl rfl
theorem cv_X12_init : ky_CV M_X12_init 0 := ⟨ky_t7 (i := 27) rfl rfl, ky_t1 (i := 11) rfl rfl, ⟨by decide +kernel, by decide +kernel, by decide +kernel⟩, Nat.le_of_ble_eq_true rfl⟩
theorem sv_X12_init : ky_T (.instanceMethod M_X12_init.1) := ky_t7 (i := 26) rfl rfl
theorem cv_X12_isAt : ky_CV M_X12_isAt 2 := ⟨ky_t7 (i := 145) rfl rfl, ky_t1 (i := 11) rfl rfl, ⟨by decide +kernel, by decide +kernel, by decide +kernel⟩, Nat.le_of_ble_eq_true rfl⟩
theorem sv_X12_isAt : ky_CVv M_X12_isAt := ⟨ky_t7 (i := 144) rfl rfl, ky_s3 (i := 12) (q := (⟨"WaistSandModel", "isAt", "(II)Z"⟩, 24)) rfl⟩
theorem cv_X12_isDrowned : ky_CV M_X12_isDrowned 0 := ⟨ky_t8 (i := 221) rfl rfl, ky_t1 (i := 11) rfl rfl, ⟨by decide +kernel, by decide +kernel, by decide +kernel⟩, Nat.le_of_ble_eq_true rfl⟩
theorem sv_X12_isDrowned : ky_CVv M_X12_isDrowned := ⟨ky_t8 (i := 220) rfl rfl, ky_s6 (i := 11) (q := (⟨"WaistSandModel", "isDrowned", "()Z"⟩, 24)) rfl⟩
theorem cv_X12_isNow : ky_CV M_X12_isNow 0 := ⟨ky_t8 (i := 238) rfl rfl, ky_t1 (i := 11) rfl rfl, ⟨by decide +kernel, by decide +kernel, by decide +kernel⟩, Nat.le_of_ble_eq_true rfl⟩
theorem sv_X12_isNow : ky_CVv M_X12_isNow := ⟨ky_t8 (i := 237) rfl rfl, ky_s6 (i := 15) (q := (⟨"WaistSandModel", "isNow", "()V"⟩, 24)) rfl⟩
theorem cv_X12_isOfNone : ky_CV M_X12_isOfNone 1 := ⟨ky_t8 (i := 58) rfl rfl, ky_t1 (i := 11) rfl rfl, ⟨by decide +kernel, by decide +kernel, by decide +kernel⟩, Nat.le_of_ble_eq_true rfl⟩
theorem sv_X12_isOfNone : ky_T (.static M_X12_isOfNone.1) := ky_t8 (i := 57) rfl rfl
theorem cv_X12_isOut : ky_CV M_X12_isOut 0 := ⟨ky_t8 (i := 217) rfl rfl, ky_t1 (i := 11) rfl rfl, ⟨by decide +kernel, by decide +kernel, by decide +kernel⟩, Nat.le_of_ble_eq_true rfl⟩
theorem sv_X12_isOut : ky_CVv M_X12_isOut := ⟨ky_t8 (i := 216) rfl rfl, ky_s6 (i := 10) (q := (⟨"WaistSandModel", "isOut", "()Z"⟩, 24)) rfl⟩
theorem cv_X12_isOutAt : ky_CV M_X12_isOutAt 1 := ⟨ky_t8 (i := 115) rfl rfl, ky_t1 (i := 11) rfl rfl, ⟨by decide +kernel, by decide +kernel, by decide +kernel⟩, Nat.le_of_ble_eq_true rfl⟩
theorem sv_X12_isOutAt : ky_T (.static M_X12_isOutAt.1) := ky_t8 (i := 114) rfl rfl
theorem cv_X12_isOutNow : ky_CV M_X12_isOutNow 0 := ⟨ky_t8 (i := 189) rfl rfl, ky_t1 (i := 11) rfl rfl, ⟨by decide +kernel, by decide +kernel, by decide +kernel⟩, Nat.le_of_ble_eq_true rfl⟩
theorem sv_X12_isOutNow : ky_CVv M_X12_isOutNow := ⟨ky_t8 (i := 188) rfl rfl, ky_s6 (i := 6) (q := (⟨"WaistSandModel", "isOutNow", "()Z"⟩, 24)) rfl⟩
theorem cv_X12_isOver : ky_CV M_X12_isOver 0 := ⟨ky_t8 (i := 213) rfl rfl, ky_t1 (i := 11) rfl rfl, ⟨by decide +kernel, by decide +kernel, by decide +kernel⟩, Nat.le_of_ble_eq_true rfl⟩
theorem sv_X12_isOver : ky_CVv M_X12_isOver := ⟨ky_t8 (i := 212) rfl rfl, ky_s6 (i := 9) (q := (⟨"WaistSandModel", "isOver", "()Z"⟩, 24)) rfl⟩
theorem cv_X12_isWord : ky_CV M_X12_isWord 1 := ⟨ky_t7 (i := 162) rfl rfl, ky_t1 (i := 11) rfl rfl, ⟨by decide +kernel, by decide +kernel, by decide +kernel⟩, Nat.le_of_ble_eq_true rfl⟩
theorem sv_X12_isWord : ky_CVv M_X12_isWord := ⟨ky_t7 (i := 161) rfl rfl, ky_s4 (i := 0) (q := (⟨"WaistSandModel", "isWord", "(Ljava/lang/String;)Z"⟩, 24)) rfl⟩
theorem cv_X12_keepsAll : ky_CV M_X12_keepsAll 0 := ⟨ky_t9 (i := 145) rfl rfl, ky_t1 (i := 11) rfl rfl, ⟨by decide +kernel, by decide +kernel, by decide +kernel⟩, Nat.le_of_ble_eq_true rfl⟩
theorem sv_X12_keepsAll : ky_CVv M_X12_keepsAll := ⟨ky_t9 (i := 144) rfl rfl, ky_s8 (i := 0) (q := (⟨"WaistSandModel", "keepsAll", "()V"⟩, 24)) rfl⟩
theorem cv_X12_latest : ky_CV M_X12_latest 0 := ⟨ky_t8 (i := 142) rfl rfl, ky_t1 (i := 11) rfl rfl, ⟨by decide +kernel, by decide +kernel, by decide +kernel⟩, Nat.le_of_ble_eq_true rfl⟩
theorem sv_X12_latest : ky_CVv M_X12_latest := ⟨ky_t8 (i := 140) rfl rfl, ky_t8 (i := 141) rfl rfl⟩
theorem cv_X12_law : ky_CV M_X12_law 0 := ⟨ky_t8 (i := 34) rfl rfl, ky_t1 (i := 11) rfl rfl, ⟨by decide +kernel, by decide +kernel, by decide +kernel⟩, Nat.le_of_ble_eq_true rfl⟩
theorem sv_X12_law : ky_CVv M_X12_law := ⟨ky_t8 (i := 32) rfl rfl, ky_t8 (i := 33) rfl rfl⟩
theorem cv_X12_laysNeed : ky_CV M_X12_laysNeed 1 := ⟨ky_t8 (i := 112) rfl rfl, ky_t1 (i := 11) rfl rfl, ⟨by decide +kernel, by decide +kernel, by decide +kernel⟩, Nat.le_of_ble_eq_true rfl⟩
theorem sv_X12_laysNeed : ky_CVv M_X12_laysNeed := ⟨ky_t8 (i := 111) rfl rfl, ky_s5 (i := 15) (q := (⟨"WaistSandModel", "laysNeed", "(I)V"⟩, 24)) rfl⟩
theorem cv_X12_laysNext : ky_CV M_X12_laysNext 0 := ⟨ky_t8 (i := 94) rfl rfl, ky_t1 (i := 11) rfl rfl, ⟨by decide +kernel, by decide +kernel, by decide +kernel⟩, Nat.le_of_ble_eq_true rfl⟩
theorem sv_X12_laysNext : ky_CVv M_X12_laysNext := ⟨ky_t8 (i := 93) rfl rfl, ky_s5 (i := 12) (q := (⟨"WaistSandModel", "laysNext", "()V"⟩, 24)) rfl⟩
theorem cv_X12_laysRound : ky_CV M_X12_laysRound 1 := ⟨ky_t8 (i := 170) rfl rfl, ky_t1 (i := 11) rfl rfl, ⟨by decide +kernel, by decide +kernel, by decide +kernel⟩, Nat.le_of_ble_eq_true rfl⟩
theorem sv_X12_laysRound : ky_CVv M_X12_laysRound := ⟨ky_t8 (i := 169) rfl rfl, ky_s6 (i := 4) (q := (⟨"WaistSandModel", "laysRound", "(I)V"⟩, 24)) rfl⟩
theorem cv_X12_laysTill : ky_CV M_X12_laysTill 3 := ⟨ky_t9 (i := 69) rfl rfl, ky_t1 (i := 11) rfl rfl, ⟨by decide +kernel, by decide +kernel, by decide +kernel⟩, Nat.le_of_ble_eq_true rfl⟩
theorem sv_X12_laysTill : ky_CVv M_X12_laysTill := ⟨ky_t9 (i := 68) rfl rfl, ky_s7 (i := 8) (q := (⟨"WaistSandModel", "laysTill", "(IIZ)V"⟩, 24)) rfl⟩
theorem cv_X12_laysWays : ky_CV M_X12_laysWays 2 := ⟨ky_t9 (i := 85) rfl rfl, ky_t1 (i := 11) rfl rfl, ⟨by decide +kernel, by decide +kernel, by decide +kernel⟩, Nat.le_of_ble_eq_true rfl⟩
theorem sv_X12_laysWays : ky_CVv M_X12_laysWays := ⟨ky_t9 (i := 84) rfl rfl, ky_s7 (i := 12) (q := (⟨"WaistSandModel", "laysWays", "(IZ)V"⟩, 24)) rfl⟩
theorem cv_X12_leastBeside : ky_CV M_X12_leastBeside 1 := ⟨ky_t9 (i := 73) rfl rfl, ky_t1 (i := 11) rfl rfl, ⟨by decide +kernel, by decide +kernel, by decide +kernel⟩, Nat.le_of_ble_eq_true rfl⟩
theorem sv_X12_leastBeside : ky_CVv M_X12_leastBeside := ⟨ky_t9 (i := 72) rfl rfl, ky_s7 (i := 9) (q := (⟨"WaistSandModel", "leastBeside", "(I)I"⟩, 24)) rfl⟩
theorem cv_X12_led : ky_CV M_X12_led 2 := ⟨ky_t9 (i := 157) rfl rfl, ky_t1 (i := 11) rfl rfl, ⟨by decide +kernel, by decide +kernel, by decide +kernel⟩, Nat.le_of_ble_eq_true rfl⟩
theorem sv_X12_led : ky_CVv M_X12_led := ⟨ky_t9 (i := 155) rfl rfl, ky_t9 (i := 156) rfl rfl⟩
theorem cv_X12_legOf : ky_CV M_X12_legOf 1 := ⟨ky_t8 (i := 104) rfl rfl, ky_t1 (i := 11) rfl rfl, ⟨by decide +kernel, by decide +kernel, by decide +kernel⟩, Nat.le_of_ble_eq_true rfl⟩
theorem sv_X12_legOf : ky_T (.static M_X12_legOf.1) := ky_t8 (i := 103) rfl rfl
theorem cv_X12_less : ky_CV M_X12_less 2 := ⟨ky_t8 (i := 77) rfl rfl, ky_t1 (i := 11) rfl rfl, ⟨by decide +kernel, by decide +kernel, by decide +kernel⟩, Nat.le_of_ble_eq_true rfl⟩
theorem sv_X12_less : ky_T (.static M_X12_less.1) := ky_t8 (i := 76) rfl rfl
theorem cv_X12_letters : ky_CV M_X12_letters 0 := ⟨ky_t7 (i := 153) rfl rfl, ky_t1 (i := 11) rfl rfl, ⟨by decide +kernel, by decide +kernel, by decide +kernel⟩, Nat.le_of_ble_eq_true rfl⟩
theorem sv_X12_letters : ky_CVv M_X12_letters := ⟨ky_t7 (i := 152) rfl rfl, ky_s3 (i := 14) (q := (⟨"WaistSandModel", "letters", "()V"⟩, 24)) rfl⟩
theorem cv_X12_log : ky_CV M_X12_log 2 := ⟨ky_t9 (i := 165) rfl rfl, ky_t1 (i := 11) rfl rfl, ⟨by decide +kernel, by decide +kernel, by decide +kernel⟩, Nat.le_of_ble_eq_true rfl⟩
theorem sv_X12_log : ky_CVv M_X12_log := ⟨ky_t9 (i := 163) rfl rfl, ky_t9 (i := 164) rfl rfl⟩
theorem cv_X12_looks : ky_CV M_X12_looks 0 := ⟨ky_t8 (i := 51) rfl rfl, ky_t1 (i := 11) rfl rfl, ⟨by decide +kernel, by decide +kernel, by decide +kernel⟩, Nat.le_of_ble_eq_true rfl⟩
theorem sv_X12_looks : ky_CVv M_X12_looks := ⟨ky_t8 (i := 50) rfl rfl, ky_s5 (i := 5) (q := (⟨"WaistSandModel", "looks", "()V"⟩, 24)) rfl⟩
theorem cv_X12_looksAt : ky_CV M_X12_looksAt 1 := ⟨ky_t8 (i := 98) rfl rfl, ky_t1 (i := 11) rfl rfl, ⟨by decide +kernel, by decide +kernel, by decide +kernel⟩, Nat.le_of_ble_eq_true rfl⟩
theorem sv_X12_looksAt : ky_CVv M_X12_looksAt := ⟨ky_t8 (i := 97) rfl rfl, ky_s5 (i := 13) (q := (⟨"WaistSandModel", "looksAt", "(I)V"⟩, 24)) rfl⟩
theorem cv_X12_makes : ky_CV M_X12_makes 2 := ⟨ky_t8 (i := 229) rfl rfl, ky_t1 (i := 11) rfl rfl, ⟨by decide +kernel, by decide +kernel, by decide +kernel⟩, Nat.le_of_ble_eq_true rfl⟩
theorem sv_X12_makes : ky_CVv M_X12_makes := ⟨ky_t8 (i := 228) rfl rfl, ky_s6 (i := 13) (q := (⟨"WaistSandModel", "makes", "(II)V"⟩, 24)) rfl⟩
theorem cv_X12_makesByDraws : ky_CV M_X12_makesByDraws 1 := ⟨ky_t9 (i := 57) rfl rfl, ky_t1 (i := 11) rfl rfl, ⟨by decide +kernel, by decide +kernel, by decide +kernel⟩, Nat.le_of_ble_eq_true rfl⟩
theorem sv_X12_makesByDraws : ky_CVv M_X12_makesByDraws := ⟨ky_t9 (i := 56) rfl rfl, ky_s7 (i := 6) (q := (⟨"WaistSandModel", "makesByDraws", "(I)I"⟩, 24)) rfl⟩
theorem cv_X12_more : ky_CV M_X12_more 0 := ⟨ky_t8 (i := 174) rfl rfl, ky_t1 (i := 11) rfl rfl, ⟨by decide +kernel, by decide +kernel, by decide +kernel⟩, Nat.le_of_ble_eq_true rfl⟩
theorem sv_X12_more : ky_CVv M_X12_more := ⟨ky_t8 (i := 172) rfl rfl, ky_t8 (i := 173) rfl rfl⟩
theorem cv_X12_move : ky_CV M_X12_move 2 := ⟨ky_t8 (i := 146) rfl rfl, ky_t1 (i := 11) rfl rfl, ⟨by decide +kernel, by decide +kernel, by decide +kernel⟩, Nat.le_of_ble_eq_true rfl⟩
theorem sv_X12_move : ky_CVv M_X12_move := ⟨ky_t8 (i := 144) rfl rfl, ky_t8 (i := 145) rfl rfl⟩
theorem cv_X12_moveOf : ky_CV M_X12_moveOf 1 := ⟨ky_t8 (i := 101) rfl rfl, ky_t1 (i := 11) rfl rfl, ⟨by decide +kernel, by decide +kernel, by decide +kernel⟩, Nat.le_of_ble_eq_true rfl⟩
theorem sv_X12_moveOf : ky_T (.static M_X12_moveOf.1) := ky_t8 (i := 100) rfl rfl
theorem cv_X12_moved : ky_CV M_X12_moved 2 := ⟨ky_t8 (i := 209) rfl rfl, ky_t1 (i := 11) rfl rfl, ⟨by decide +kernel, by decide +kernel, by decide +kernel⟩, Nat.le_of_ble_eq_true rfl⟩
theorem sv_X12_moved : ky_CVv M_X12_moved := ⟨ky_t8 (i := 207) rfl rfl, ky_t8 (i := 208) rfl rfl⟩
theorem cv_X12_moves : ky_CV M_X12_moves 1 := ⟨ky_t9 (i := 53) rfl rfl, ky_t1 (i := 11) rfl rfl, ⟨by decide +kernel, by decide +kernel, by decide +kernel⟩, Nat.le_of_ble_eq_true rfl⟩
theorem sv_X12_moves : ky_CVv M_X12_moves := ⟨ky_t9 (i := 51) rfl rfl, ky_t9 (i := 52) rfl rfl⟩
theorem cv_X12_movesBy : ky_CV M_X12_movesBy 2 := ⟨ky_t8 (i := 55) rfl rfl, ky_t1 (i := 11) rfl rfl, ⟨by decide +kernel, by decide +kernel, by decide +kernel⟩, Nat.le_of_ble_eq_true rfl⟩
theorem sv_X12_movesBy : ky_CVv M_X12_movesBy := ⟨ky_t8 (i := 54) rfl rfl, ky_s5 (i := 6) (q := (⟨"WaistSandModel", "movesBy", "(II)V"⟩, 24)) rfl⟩
theorem cv_X12_nameOf : ky_CV M_X12_nameOf 1 := ⟨ky_t8 (i := 138) rfl rfl, ky_t1 (i := 11) rfl rfl, ⟨by decide +kernel, by decide +kernel, by decide +kernel⟩, Nat.le_of_ble_eq_true rfl⟩
theorem sv_X12_nameOf : ky_T (.static M_X12_nameOf.1) := ky_t8 (i := 137) rfl rfl
theorem cv_X12_noCell : ky_CV M_X12_noCell 1 := ⟨ky_t9 (i := 33) rfl rfl, ky_t1 (i := 11) rfl rfl, ⟨by decide +kernel, by decide +kernel, by decide +kernel⟩, Nat.le_of_ble_eq_true rfl⟩
theorem sv_X12_noCell : ky_T (.static M_X12_noCell.1) := ky_t9 (i := 32) rfl rfl
theorem cv_X12_noLeg : ky_CV M_X12_noLeg 1 := ⟨ky_t8 (i := 47) rfl rfl, ky_t1 (i := 11) rfl rfl, ⟨by decide +kernel, by decide +kernel, by decide +kernel⟩, Nat.le_of_ble_eq_true rfl⟩
theorem sv_X12_noLeg : ky_T (.static M_X12_noLeg.1) := ky_t8 (i := 46) rfl rfl
theorem cv_X12_noMove : ky_CV M_X12_noMove 1 := ⟨ky_t8 (i := 41) rfl rfl, ky_t1 (i := 11) rfl rfl, ⟨by decide +kernel, by decide +kernel, by decide +kernel⟩, Nat.le_of_ble_eq_true rfl⟩
theorem sv_X12_noMove : ky_T (.static M_X12_noMove.1) := ky_t8 (i := 40) rfl rfl
theorem cv_X12_noPerson : ky_CV M_X12_noPerson 1 := ⟨ky_t9 (i := 30) rfl rfl, ky_t1 (i := 11) rfl rfl, ⟨by decide +kernel, by decide +kernel, by decide +kernel⟩, Nat.le_of_ble_eq_true rfl⟩
theorem sv_X12_noPerson : ky_CVv M_X12_noPerson := ⟨ky_t9 (i := 29) rfl rfl, ky_s7 (i := 3) (q := (⟨"WaistSandModel", "noPerson", "(I)Z"⟩, 24)) rfl⟩
theorem cv_X12_noRun : ky_CV M_X12_noRun 2 := ⟨ky_t8 (i := 181) rfl rfl, ky_t1 (i := 11) rfl rfl, ⟨by decide +kernel, by decide +kernel, by decide +kernel⟩, Nat.le_of_ble_eq_true rfl⟩
theorem sv_X12_noRun : ky_T (.static M_X12_noRun.1) := ky_t8 (i := 180) rfl rfl
theorem cv_X12_noWeight : ky_CV M_X12_noWeight 1 := ⟨ky_t9 (i := 108) rfl rfl, ky_t1 (i := 11) rfl rfl, ⟨by decide +kernel, by decide +kernel, by decide +kernel⟩, Nat.le_of_ble_eq_true rfl⟩
theorem sv_X12_noWeight : ky_T (.static M_X12_noWeight.1) := ky_t9 (i := 107) rfl rfl
theorem cv_X12_number : ky_CV M_X12_number 2 := ⟨ky_t7 (i := 172) rfl rfl, ky_t1 (i := 11) rfl rfl, ⟨by decide +kernel, by decide +kernel, by decide +kernel⟩, Nat.le_of_ble_eq_true rfl⟩
theorem sv_X12_number : ky_CVv M_X12_number := ⟨ky_t7 (i := 171) rfl rfl, ky_s4 (i := 2) (q := (⟨"WaistSandModel", "number", "(II)I"⟩, 24)) rfl⟩
theorem cv_X12_of : ky_CV M_X12_of 2 := ⟨ky_t9 (i := 45) rfl rfl, ky_t1 (i := 11) rfl rfl, ⟨by decide +kernel, by decide +kernel, by decide +kernel⟩, Nat.le_of_ble_eq_true rfl⟩
theorem sv_X12_of : ky_CVv M_X12_of := ⟨ky_t9 (i := 44) rfl rfl, ky_s7 (i := 5) (q := (⟨"WaistSandModel", "of", "(II)I"⟩, 24)) rfl⟩
theorem cv_X12_ofLog : ky_CV M_X12_ofLog 2 := ⟨ky_t9 (i := 161) rfl rfl, ky_t1 (i := 11) rfl rfl, ⟨by decide +kernel, by decide +kernel, by decide +kernel⟩, Nat.le_of_ble_eq_true rfl⟩
theorem sv_X12_ofLog : ky_CVv M_X12_ofLog := ⟨ky_t9 (i := 160) rfl rfl, ky_s8 (i := 2) (q := (⟨"WaistSandModel", "ofLog", "(II)I"⟩, 24)) rfl⟩
theorem cv_X12_ofMove : ky_CV M_X12_ofMove 2 := ⟨ky_t8 (i := 62) rfl rfl, ky_t1 (i := 11) rfl rfl, ⟨by decide +kernel, by decide +kernel, by decide +kernel⟩, Nat.le_of_ble_eq_true rfl⟩
theorem sv_X12_ofMove : ky_CVv M_X12_ofMove := ⟨ky_t8 (i := 61) rfl rfl, ky_s5 (i := 7) (q := (⟨"WaistSandModel", "ofMove", "(II)I"⟩, 24)) rfl⟩
theorem cv_X12_ofPerson : ky_CV M_X12_ofPerson 2 := ⟨ky_t9 (i := 37) rfl rfl, ky_t1 (i := 11) rfl rfl, ⟨by decide +kernel, by decide +kernel, by decide +kernel⟩, Nat.le_of_ble_eq_true rfl⟩
theorem sv_X12_ofPerson : ky_CVv M_X12_ofPerson := ⟨ky_t9 (i := 36) rfl rfl, ky_s7 (i := 4) (q := (⟨"WaistSandModel", "ofPerson", "(II)I"⟩, 24)) rfl⟩
theorem cv_X12_passes : ky_CV M_X12_passes 1 := ⟨ky_t7 (i := 232) rfl rfl, ky_t1 (i := 11) rfl rfl, ⟨by decide +kernel, by decide +kernel, by decide +kernel⟩, Nat.le_of_ble_eq_true rfl⟩
theorem sv_X12_passes : ky_CVv M_X12_passes := ⟨ky_t7 (i := 231) rfl rfl, ky_s4 (i := 12) (q := (⟨"WaistSandModel", "passes", "(Ljava/lang/String;)Z"⟩, 24)) rfl⟩
theorem cv_X12_people : ky_CV M_X12_people 0 := ⟨ky_t7 (i := 219) rfl rfl, ky_t1 (i := 11) rfl rfl, ⟨by decide +kernel, by decide +kernel, by decide +kernel⟩, Nat.le_of_ble_eq_true rfl⟩
theorem sv_X12_people : ky_CVv M_X12_people := ⟨ky_t7 (i := 218) rfl rfl, ky_s4 (i := 10) (q := (⟨"WaistSandModel", "people", "()I"⟩, 24)) rfl⟩
theorem cv_X12_peopleOn : ky_CV M_X12_peopleOn 1 := ⟨ky_t9 (i := 93) rfl rfl, ky_t1 (i := 11) rfl rfl, ⟨by decide +kernel, by decide +kernel, by decide +kernel⟩, Nat.le_of_ble_eq_true rfl⟩
theorem sv_X12_peopleOn : ky_CVv M_X12_peopleOn := ⟨ky_t9 (i := 92) rfl rfl, ky_s7 (i := 13) (q := (⟨"WaistSandModel", "peopleOn", "(I)I"⟩, 24)) rfl⟩
theorem cv_X12_person : ky_CV M_X12_person 2 := ⟨ky_t9 (i := 61) rfl rfl, ky_t1 (i := 11) rfl rfl, ⟨by decide +kernel, by decide +kernel, by decide +kernel⟩, Nat.le_of_ble_eq_true rfl⟩
theorem sv_X12_person : ky_CVv M_X12_person := ⟨ky_t9 (i := 59) rfl rfl, ky_t9 (i := 60) rfl rfl⟩
theorem cv_X12_placed : ky_CV M_X12_placed 0 := ⟨ky_t9 (i := 136) rfl rfl, ky_t1 (i := 11) rfl rfl, ⟨by decide +kernel, by decide +kernel, by decide +kernel⟩, Nat.le_of_ble_eq_true rfl⟩
theorem sv_X12_placed : ky_CVv M_X12_placed := ⟨ky_t9 (i := 134) rfl rfl, ky_t9 (i := 135) rfl rfl⟩
theorem cv_X12_pour : ky_CV M_X12_pour 0 := ⟨ky_t9 (i := 22) rfl rfl, ky_t1 (i := 11) rfl rfl, ⟨by decide +kernel, by decide +kernel, by decide +kernel⟩, Nat.le_of_ble_eq_true rfl⟩
theorem sv_X12_pour : ky_CVv M_X12_pour := ⟨ky_t9 (i := 20) rfl rfl, ky_t9 (i := 21) rfl rfl⟩
theorem cv_X12_pull : ky_CV M_X12_pull 1 := ⟨ky_t9 (i := 10) rfl rfl, ky_t1 (i := 11) rfl rfl, ⟨by decide +kernel, by decide +kernel, by decide +kernel⟩, Nat.le_of_ble_eq_true rfl⟩
theorem sv_X12_pull : ky_CVv M_X12_pull := ⟨ky_t9 (i := 8) rfl rfl, ky_t9 (i := 9) rfl rfl⟩
theorem cv_X12_pulledBy : ky_CV M_X12_pulledBy 1 := ⟨ky_t8 (i := 197) rfl rfl, ky_t1 (i := 11) rfl rfl, ⟨by decide +kernel, by decide +kernel, by decide +kernel⟩, Nat.le_of_ble_eq_true rfl⟩
theorem sv_X12_pulledBy : ky_CVv M_X12_pulledBy := ⟨ky_t8 (i := 196) rfl rfl, ky_s6 (i := 8) (q := (⟨"WaistSandModel", "pulledBy", "(I)I"⟩, 24)) rfl⟩
theorem cv_X12_pullsBy : ky_CV M_X12_pullsBy 2 := ⟨ky_t8 (i := 193) rfl rfl, ky_t1 (i := 11) rfl rfl, ⟨by decide +kernel, by decide +kernel, by decide +kernel⟩, Nat.le_of_ble_eq_true rfl⟩
theorem sv_X12_pullsBy : ky_CVv M_X12_pullsBy := ⟨ky_t8 (i := 192) rfl rfl, ky_s6 (i := 7) (q := (⟨"WaistSandModel", "pullsBy", "(II)I"⟩, 24)) rfl⟩
theorem cv_X12_reach : ky_CV M_X12_reach 2 := ⟨ky_t9 (i := 101) rfl rfl, ky_t1 (i := 11) rfl rfl, ⟨by decide +kernel, by decide +kernel, by decide +kernel⟩, Nat.le_of_ble_eq_true rfl⟩
theorem sv_X12_reach : ky_CVv M_X12_reach := ⟨ky_t9 (i := 99) rfl rfl, ky_t9 (i := 100) rfl rfl⟩
theorem cv_X12_readAll : ky_CV M_X12_readAll 1 := ⟨ky_t7 (i := 133) rfl rfl, ky_t1 (i := 11) rfl rfl, ⟨by decide +kernel, by decide +kernel, by decide +kernel⟩, Nat.le_of_ble_eq_true rfl⟩
theorem sv_X12_readAll : ky_CVv M_X12_readAll := ⟨ky_t7 (i := 132) rfl rfl, ky_s3 (i := 9) (q := (⟨"WaistSandModel", "readAll", "(Z)I"⟩, 24)) rfl⟩
theorem cv_X12_readAllOf : ky_CV M_X12_readAllOf 0 := ⟨ky_t8 (i := 0) rfl rfl, ky_t1 (i := 11) rfl rfl, ⟨by decide +kernel, by decide +kernel, by decide +kernel⟩, Nat.le_of_ble_eq_true rfl⟩
theorem sv_X12_readAllOf : ky_CVv M_X12_readAllOf := ⟨ky_t7 (i := 239) rfl rfl, ky_s4 (i := 14) (q := (⟨"WaistSandModel", "readAllOf", "()Z"⟩, 24)) rfl⟩
theorem cv_X12_readAtom : ky_CV M_X12_readAtom 0 := ⟨ky_t8 (i := 4) rfl rfl, ky_t1 (i := 11) rfl rfl, ⟨by decide +kernel, by decide +kernel, by decide +kernel⟩, Nat.le_of_ble_eq_true rfl⟩
theorem sv_X12_readAtom : ky_CVv M_X12_readAtom := ⟨ky_t8 (i := 3) rfl rfl, ky_s4 (i := 15) (q := (⟨"WaistSandModel", "readAtom", "()Z"⟩, 24)) rfl⟩
theorem cv_X12_readBeachLine : ky_CV M_X12_readBeachLine 0 := ⟨ky_t7 (i := 157) rfl rfl, ky_t1 (i := 11) rfl rfl, ⟨by decide +kernel, by decide +kernel, by decide +kernel⟩, Nat.le_of_ble_eq_true rfl⟩
theorem sv_X12_readBeachLine : ky_CVv M_X12_readBeachLine := ⟨ky_t7 (i := 156) rfl rfl, ky_s3 (i := 15) (q := (⟨"WaistSandModel", "readBeachLine", "()Z"⟩, 24)) rfl⟩
theorem cv_X12_readBears : ky_CV M_X12_readBears 0 := ⟨ky_t7 (i := 195) rfl rfl, ky_t1 (i := 11) rfl rfl, ⟨by decide +kernel, by decide +kernel, by decide +kernel⟩, Nat.le_of_ble_eq_true rfl⟩
theorem sv_X12_readBears : ky_CVv M_X12_readBears := ⟨ky_t7 (i := 194) rfl rfl, ky_s4 (i := 5) (q := (⟨"WaistSandModel", "readBears", "()Z"⟩, 24)) rfl⟩
theorem cv_X12_readCond : ky_CV M_X12_readCond 0 := ⟨ky_t7 (i := 236) rfl rfl, ky_t1 (i := 11) rfl rfl, ⟨by decide +kernel, by decide +kernel, by decide +kernel⟩, Nat.le_of_ble_eq_true rfl⟩
theorem sv_X12_readCond : ky_CVv M_X12_readCond := ⟨ky_t7 (i := 235) rfl rfl, ky_s4 (i := 13) (q := (⟨"WaistSandModel", "readCond", "()Z"⟩, 24)) rfl⟩
theorem cv_X12_readHole : ky_CV M_X12_readHole 0 := ⟨ky_t7 (i := 210) rfl rfl, ky_t1 (i := 11) rfl rfl, ⟨by decide +kernel, by decide +kernel, by decide +kernel⟩, Nat.le_of_ble_eq_true rfl⟩
theorem sv_X12_readHole : ky_CVv M_X12_readHole := ⟨ky_t7 (i := 209) rfl rfl, ky_s4 (i := 8) (q := (⟨"WaistSandModel", "readHole", "()Z"⟩, 24)) rfl⟩
theorem cv_X12_readLawLine : ky_CV M_X12_readLawLine 1 := ⟨ky_t7 (i := 225) rfl rfl, ky_t1 (i := 11) rfl rfl, ⟨by decide +kernel, by decide +kernel, by decide +kernel⟩, Nat.le_of_ble_eq_true rfl⟩
theorem sv_X12_readLawLine : ky_CVv M_X12_readLawLine := ⟨ky_t7 (i := 224) rfl rfl, ky_s4 (i := 11) (q := (⟨"WaistSandModel", "readLawLine", "(I)Z"⟩, 24)) rfl⟩
theorem cv_X12_readLine : ky_CV M_X12_readLine 2 := ⟨ky_t7 (i := 149) rfl rfl, ky_t1 (i := 11) rfl rfl, ⟨by decide +kernel, by decide +kernel, by decide +kernel⟩, Nat.le_of_ble_eq_true rfl⟩
theorem sv_X12_readLine : ky_CVv M_X12_readLine := ⟨ky_t7 (i := 148) rfl rfl, ky_s3 (i := 13) (q := (⟨"WaistSandModel", "readLine", "(ZI)Z"⟩, 24)) rfl⟩
theorem cv_X12_readMove : ky_CV M_X12_readMove 0 := ⟨ky_t7 (i := 181) rfl rfl, ky_t1 (i := 11) rfl rfl, ⟨by decide +kernel, by decide +kernel, by decide +kernel⟩, Nat.le_of_ble_eq_true rfl⟩
theorem sv_X12_readMove : ky_CVv M_X12_readMove := ⟨ky_t7 (i := 180) rfl rfl, ky_s4 (i := 3) (q := (⟨"WaistSandModel", "readMove", "()Z"⟩, 24)) rfl⟩
theorem cv_X12_readNumber : ky_CV M_X12_readNumber 2 := ⟨ky_t7 (i := 168) rfl rfl, ky_t1 (i := 11) rfl rfl, ⟨by decide +kernel, by decide +kernel, by decide +kernel⟩, Nat.le_of_ble_eq_true rfl⟩
theorem sv_X12_readNumber : ky_CVv M_X12_readNumber := ⟨ky_t7 (i := 167) rfl rfl, ky_s4 (i := 1) (q := (⟨"WaistSandModel", "readNumber", "(II)Z"⟩, 24)) rfl⟩
theorem cv_X12_readPart : ky_CV M_X12_readPart 0 := ⟨ky_t8 (i := 22) rfl rfl, ky_t1 (i := 11) rfl rfl, ⟨by decide +kernel, by decide +kernel, by decide +kernel⟩, Nat.le_of_ble_eq_true rfl⟩
theorem sv_X12_readPart : ky_CVv M_X12_readPart := ⟨ky_t8 (i := 21) rfl rfl, ky_s5 (i := 3) (q := (⟨"WaistSandModel", "readPart", "()Z"⟩, 24)) rfl⟩
theorem cv_X12_readPerson : ky_CV M_X12_readPerson 0 := ⟨ky_t7 (i := 215) rfl rfl, ky_t1 (i := 11) rfl rfl, ⟨by decide +kernel, by decide +kernel, by decide +kernel⟩, Nat.le_of_ble_eq_true rfl⟩
theorem sv_X12_readPerson : ky_CVv M_X12_readPerson := ⟨ky_t7 (i := 214) rfl rfl, ky_s4 (i := 9) (q := (⟨"WaistSandModel", "readPerson", "()Z"⟩, 24)) rfl⟩
theorem cv_X12_readSign : ky_CV M_X12_readSign 1 := ⟨ky_t7 (i := 204) rfl rfl, ky_t1 (i := 11) rfl rfl, ⟨by decide +kernel, by decide +kernel, by decide +kernel⟩, Nat.le_of_ble_eq_true rfl⟩
theorem sv_X12_readSign : ky_CVv M_X12_readSign := ⟨ky_t7 (i := 203) rfl rfl, ky_s4 (i := 7) (q := (⟨"WaistSandModel", "readSign", "(I)Z"⟩, 24)) rfl⟩
theorem cv_X12_readSum : ky_CV M_X12_readSum 0 := ⟨ky_t8 (i := 18) rfl rfl, ky_t1 (i := 11) rfl rfl, ⟨by decide +kernel, by decide +kernel, by decide +kernel⟩, Nat.le_of_ble_eq_true rfl⟩
theorem sv_X12_readSum : ky_CVv M_X12_readSum := ⟨ky_t8 (i := 17) rfl rfl, ky_s5 (i := 2) (q := (⟨"WaistSandModel", "readSum", "()Z"⟩, 24)) rfl⟩
theorem cv_X12_remembers : ky_CV M_X12_remembers 0 := ⟨ky_t8 (i := 225) rfl rfl, ky_t1 (i := 11) rfl rfl, ⟨by decide +kernel, by decide +kernel, by decide +kernel⟩, Nat.le_of_ble_eq_true rfl⟩
theorem sv_X12_remembers : ky_CVv M_X12_remembers := ⟨ky_t8 (i := 224) rfl rfl, ky_s6 (i := 12) (q := (⟨"WaistSandModel", "remembers", "()V"⟩, 24)) rfl⟩
theorem cv_X12_rope : ky_CV M_X12_rope 1 := ⟨ky_t9 (i := 128) rfl rfl, ky_t1 (i := 11) rfl rfl, ⟨by decide +kernel, by decide +kernel, by decide +kernel⟩, Nat.le_of_ble_eq_true rfl⟩
theorem sv_X12_rope : ky_CVv M_X12_rope := ⟨ky_t9 (i := 126) rfl rfl, ky_t9 (i := 127) rfl rfl⟩
theorem cv_X12_ropeFor : ky_CV M_X12_ropeFor 1 := ⟨ky_t9 (i := 132) rfl rfl, ky_t1 (i := 11) rfl rfl, ⟨by decide +kernel, by decide +kernel, by decide +kernel⟩, Nat.le_of_ble_eq_true rfl⟩
theorem sv_X12_ropeFor : ky_CVv M_X12_ropeFor := ⟨ky_t9 (i := 131) rfl rfl, ky_s7 (i := 15) (q := (⟨"WaistSandModel", "ropeFor", "(I)J"⟩, 24)) rfl⟩
theorem cv_X12_round : ky_CV M_X12_round 0 := ⟨ky_t8 (i := 166) rfl rfl, ky_t1 (i := 11) rfl rfl, ⟨by decide +kernel, by decide +kernel, by decide +kernel⟩, Nat.le_of_ble_eq_true rfl⟩
theorem sv_X12_round : ky_CVv M_X12_round := ⟨ky_t8 (i := 164) rfl rfl, ky_t8 (i := 165) rfl rfl⟩
theorem cv_X12_run : ky_CV M_X12_run 2 := ⟨ky_t8 (i := 178) rfl rfl, ky_t1 (i := 11) rfl rfl, ⟨by decide +kernel, by decide +kernel, by decide +kernel⟩, Nat.le_of_ble_eq_true rfl⟩
theorem sv_X12_run : ky_CVv M_X12_run := ⟨ky_t8 (i := 176) rfl rfl, ky_t8 (i := 177) rfl rfl⟩
theorem cv_X12_runOf : ky_CV M_X12_runOf 2 := ⟨ky_t8 (i := 185) rfl rfl, ky_t1 (i := 11) rfl rfl, ⟨by decide +kernel, by decide +kernel, by decide +kernel⟩, Nat.le_of_ble_eq_true rfl⟩
theorem sv_X12_runOf : ky_CVv M_X12_runOf := ⟨ky_t8 (i := 184) rfl rfl, ky_s6 (i := 5) (q := (⟨"WaistSandModel", "runOf", "(II)I"⟩, 24)) rfl⟩
theorem cv_X12_seed : ky_CV M_X12_seed 1 := ⟨ky_t9 (i := 169) rfl rfl, ky_t1 (i := 11) rfl rfl, ⟨by decide +kernel, by decide +kernel, by decide +kernel⟩, Nat.le_of_ble_eq_true rfl⟩
theorem sv_X12_seed : ky_CVv M_X12_seed := ⟨ky_t9 (i := 167) rfl rfl, ky_t9 (i := 168) rfl rfl⟩
theorem cv_X12_sign : ky_CV M_X12_sign 1 := ⟨ky_t8 (i := 8) rfl rfl, ky_t1 (i := 11) rfl rfl, ⟨by decide +kernel, by decide +kernel, by decide +kernel⟩, Nat.le_of_ble_eq_true rfl⟩
theorem sv_X12_sign : ky_CVv M_X12_sign := ⟨ky_t8 (i := 7) rfl rfl, ky_s5 (i := 0) (q := (⟨"WaistSandModel", "sign", "(I)Z"⟩, 24)) rfl⟩
theorem cv_X12_signs : ky_CV M_X12_signs 2 := ⟨ky_t9 (i := 112) rfl rfl, ky_t1 (i := 11) rfl rfl, ⟨by decide +kernel, by decide +kernel, by decide +kernel⟩, Nat.le_of_ble_eq_true rfl⟩
theorem sv_X12_signs : ky_CVv M_X12_signs := ⟨ky_t9 (i := 110) rfl rfl, ky_t9 (i := 111) rfl rfl⟩
theorem cv_X12_sinking : ky_CV M_X12_sinking 0 := ⟨ky_t9 (i := 116) rfl rfl, ky_t1 (i := 11) rfl rfl, ⟨by decide +kernel, by decide +kernel, by decide +kernel⟩, Nat.le_of_ble_eq_true rfl⟩
theorem sv_X12_sinking : ky_CVv M_X12_sinking := ⟨ky_t9 (i := 114) rfl rfl, ky_t9 (i := 115) rfl rfl⟩
theorem cv_X12_soonest : ky_CV M_X12_soonest 1 := ⟨ky_t8 (i := 86) rfl rfl, ky_t1 (i := 11) rfl rfl, ⟨by decide +kernel, by decide +kernel, by decide +kernel⟩, Nat.le_of_ble_eq_true rfl⟩
theorem sv_X12_soonest : ky_CVv M_X12_soonest := ⟨ky_t8 (i := 84) rfl rfl, ky_t8 (i := 85) rfl rfl⟩
theorem cv_X12_soonestBy : ky_CV M_X12_soonestBy 1 := ⟨ky_t8 (i := 90) rfl rfl, ky_t1 (i := 11) rfl rfl, ⟨by decide +kernel, by decide +kernel, by decide +kernel⟩, Nat.le_of_ble_eq_true rfl⟩
theorem sv_X12_soonestBy : ky_CVv M_X12_soonestBy := ⟨ky_t8 (i := 89) rfl rfl, ky_s5 (i := 11) (q := (⟨"WaistSandModel", "soonestBy", "(I)I"⟩, 24)) rfl⟩
theorem cv_X12_span : ky_CV M_X12_span 2 := ⟨ky_t9 (i := 153) rfl rfl, ky_t1 (i := 11) rfl rfl, ⟨by decide +kernel, by decide +kernel, by decide +kernel⟩, Nat.le_of_ble_eq_true rfl⟩
theorem sv_X12_span : ky_CVv M_X12_span := ⟨ky_t9 (i := 151) rfl rfl, ky_t9 (i := 152) rfl rfl⟩
theorem cv_X12_state : ky_CV M_X12_state 0 := ⟨ky_t8 (i := 108) rfl rfl, ky_t1 (i := 11) rfl rfl, ⟨by decide +kernel, by decide +kernel, by decide +kernel⟩, Nat.le_of_ble_eq_true rfl⟩
theorem sv_X12_state : ky_CVv M_X12_state := ⟨ky_t8 (i := 107) rfl rfl, ky_s5 (i := 14) (q := (⟨"WaistSandModel", "state", "()I"⟩, 24)) rfl⟩
theorem cv_X12_stateNow : ky_CV M_X12_stateNow 0 := ⟨ky_t8 (i := 131) rfl rfl, ky_t1 (i := 11) rfl rfl, ⟨by decide +kernel, by decide +kernel, by decide +kernel⟩, Nat.le_of_ble_eq_true rfl⟩
theorem sv_X12_stateNow : ky_CVv M_X12_stateNow := ⟨ky_t8 (i := 130) rfl rfl, ky_s6 (i := 2) (q := (⟨"WaistSandModel", "stateNow", "()I"⟩, 24)) rfl⟩
theorem cv_X12_stuck : ky_CV M_X12_stuck 0 := ⟨ky_t8 (i := 158) rfl rfl, ky_t1 (i := 11) rfl rfl, ⟨by decide +kernel, by decide +kernel, by decide +kernel⟩, Nat.le_of_ble_eq_true rfl⟩
theorem sv_X12_stuck : ky_CVv M_X12_stuck := ⟨ky_t8 (i := 156) rfl rfl, ky_t8 (i := 157) rfl rfl⟩
theorem cv_X12_sumOf : ky_CV M_X12_sumOf 3 := ⟨ky_t8 (i := 66) rfl rfl, ky_t1 (i := 11) rfl rfl, ⟨by decide +kernel, by decide +kernel, by decide +kernel⟩, Nat.le_of_ble_eq_true rfl⟩
theorem sv_X12_sumOf : ky_CVv M_X12_sumOf := ⟨ky_t8 (i := 65) rfl rfl, ky_s5 (i := 8) (q := (⟨"WaistSandModel", "sumOf", "(III)I"⟩, 24)) rfl⟩
theorem cv_X12_takesMinute : ky_CV M_X12_takesMinute 1 := ⟨ky_t9 (i := 18) rfl rfl, ky_t1 (i := 11) rfl rfl, ⟨by decide +kernel, by decide +kernel, by decide +kernel⟩, Nat.le_of_ble_eq_true rfl⟩
theorem sv_X12_takesMinute : ky_CVv M_X12_takesMinute := ⟨ky_t9 (i := 17) rfl rfl, ky_s7 (i := 2) (q := (⟨"WaistSandModel", "takesMinute", "(I)I"⟩, 24)) rfl⟩
theorem cv_X12_takesOf : ky_CV M_X12_takesOf 1 := ⟨ky_t8 (i := 127) rfl rfl, ky_t1 (i := 11) rfl rfl, ⟨by decide +kernel, by decide +kernel, by decide +kernel⟩, Nat.le_of_ble_eq_true rfl⟩
theorem sv_X12_takesOf : ky_CVv M_X12_takesOf := ⟨ky_t8 (i := 126) rfl rfl, ky_s6 (i := 1) (q := (⟨"WaistSandModel", "takesOf", "(I)I"⟩, 24)) rfl⟩
theorem cv_X12_talk : ky_CV M_X12_talk 0 := ⟨ky_t9 (i := 14) rfl rfl, ky_t1 (i := 11) rfl rfl, ⟨by decide +kernel, by decide +kernel, by decide +kernel⟩, Nat.le_of_ble_eq_true rfl⟩
theorem sv_X12_talk : ky_CVv M_X12_talk := ⟨ky_t9 (i := 12) rfl rfl, ky_t9 (i := 13) rfl rfl⟩
theorem cv_X12_tells : ky_CV M_X12_tells 3 := ⟨ky_t9 (i := 6) rfl rfl, ky_t1 (i := 11) rfl rfl, ⟨by decide +kernel, by decide +kernel, by decide +kernel⟩, Nat.le_of_ble_eq_true rfl⟩
theorem sv_X12_tells : ky_CVv M_X12_tells := ⟨ky_t9 (i := 5) rfl rfl, ky_s7 (i := 1) (q := (⟨"WaistSandModel", "tells", "(III)V"⟩, 24)) rfl⟩
theorem cv_X12_thrown : ky_CV M_X12_thrown 0 := ⟨ky_t7 (i := 22) rfl rfl, ky_t1 (i := 11) rfl rfl, ⟨by decide +kernel, by decide +kernel, by decide +kernel⟩, Nat.le_of_ble_eq_true rfl⟩
theorem sv_X12_thrown : ky_CVv M_X12_thrown := ⟨ky_t7 (i := 20) rfl rfl, ky_t7 (i := 21) rfl rfl⟩
theorem cv_X12_throwsIf : ky_CV M_X12_throwsIf 2 := ⟨ky_t8 (i := 30) rfl rfl, ky_t1 (i := 11) rfl rfl, ⟨by decide +kernel, by decide +kernel, by decide +kernel⟩, Nat.le_of_ble_eq_true rfl⟩
theorem sv_X12_throwsIf : ky_CVv M_X12_throwsIf := ⟨ky_t8 (i := 29) rfl rfl, ky_s5 (i := 4) (q := (⟨"WaistSandModel", "throwsIf", "(ZI)Z"⟩, 24)) rfl⟩
theorem cv_X12_trial : ky_CV M_X12_trial 2 := ⟨ky_t9 (i := 141) rfl rfl, ky_t1 (i := 11) rfl rfl, ⟨by decide +kernel, by decide +kernel, by decide +kernel⟩, Nat.le_of_ble_eq_true rfl⟩
theorem sv_X12_trial : ky_CVv M_X12_trial := ⟨ky_t9 (i := 139) rfl rfl, ky_t9 (i := 140) rfl rfl⟩
theorem cv_X12_undo : ky_CV M_X12_undo 0 := ⟨ky_t7 (i := 113) rfl rfl, ky_t1 (i := 11) rfl rfl, ⟨by decide +kernel, by decide +kernel, by decide +kernel⟩, Nat.le_of_ble_eq_true rfl⟩
theorem sv_X12_undo : ky_CVv M_X12_undo := ⟨ky_t7 (i := 111) rfl rfl, ky_t7 (i := 112) rfl rfl⟩
theorem cv_X12_uses : ky_CV M_X12_uses 0 := ⟨ky_t7 (i := 137) rfl rfl, ky_t1 (i := 11) rfl rfl, ⟨by decide +kernel, by decide +kernel, by decide +kernel⟩, Nat.le_of_ble_eq_true rfl⟩
theorem sv_X12_uses : ky_CVv M_X12_uses := ⟨ky_t7 (i := 136) rfl rfl, ky_s3 (i := 10) (q := (⟨"WaistSandModel", "uses", "()V"⟩, 24)) rfl⟩
theorem cv_X12_walk : ky_CV M_X12_walk 2 := ⟨ky_t9 (i := 26) rfl rfl, ky_t1 (i := 11) rfl rfl, ⟨by decide +kernel, by decide +kernel, by decide +kernel⟩, Nat.le_of_ble_eq_true rfl⟩
theorem sv_X12_walk : ky_CVv M_X12_walk := ⟨ky_t9 (i := 24) rfl rfl, ky_t9 (i := 25) rfl rfl⟩
theorem cv_X12_way : ky_CV M_X12_way 3 := ⟨ky_t9 (i := 97) rfl rfl, ky_t1 (i := 11) rfl rfl, ⟨by decide +kernel, by decide +kernel, by decide +kernel⟩, Nat.le_of_ble_eq_true rfl⟩
theorem sv_X12_way : ky_CVv M_X12_way := ⟨ky_t9 (i := 95) rfl rfl, ky_t9 (i := 96) rfl rfl⟩
theorem cv_X12_weightOn : ky_CV M_X12_weightOn 1 := ⟨ky_t9 (i := 120) rfl rfl, ky_t1 (i := 11) rfl rfl, ⟨by decide +kernel, by decide +kernel, by decide +kernel⟩, Nat.le_of_ble_eq_true rfl⟩
theorem sv_X12_weightOn : ky_CVv M_X12_weightOn := ⟨ky_t9 (i := 119) rfl rfl, ky_s7 (i := 14) (q := (⟨"WaistSandModel", "weightOn", "(I)I"⟩, 24)) rfl⟩
theorem cv_X12_worth : ky_CV M_X12_worth 1 := ⟨ky_t8 (i := 154) rfl rfl, ky_t1 (i := 11) rfl rfl, ⟨by decide +kernel, by decide +kernel, by decide +kernel⟩, Nat.le_of_ble_eq_true rfl⟩
theorem sv_X12_worth : ky_CVv M_X12_worth := ⟨ky_t8 (i := 152) rfl rfl, ky_t8 (i := 153) rfl rfl⟩
theorem cv_X12_would : ky_CV M_X12_would 3 := ⟨ky_t8 (i := 38) rfl rfl, ky_t1 (i := 11) rfl rfl, ⟨by decide +kernel, by decide +kernel, by decide +kernel⟩, Nat.le_of_ble_eq_true rfl⟩
theorem sv_X12_would : ky_CVv M_X12_would := ⟨ky_t8 (i := 36) rfl rfl, ky_t8 (i := 37) rfl rfl⟩
theorem cv_X1_bePulled : ky_CV M_X1_bePulled 1 := ⟨ky_t6 (i := 1) rfl rfl, ky_t1 (i := 6) rfl rfl, ⟨by decide +kernel, by decide +kernel, by decide +kernel⟩, Nat.le_of_ble_eq_true rfl⟩
theorem sv_X1_bePulled : ky_CVv M_X1_bePulled := ⟨ky_t5 (i := 239) rfl rfl, ky_t6 (i := 0) rfl rfl⟩
theorem cv_X1_become : ky_CV M_X1_become 1 := ⟨ky_t3 (i := 126) rfl rfl, ky_t1 (i := 6) rfl rfl, ⟨by decide +kernel, by decide +kernel, by decide +kernel⟩, Nat.le_of_ble_eq_true rfl⟩
theorem sv_X1_become : ky_CVv M_X1_become := ⟨ky_t3 (i := 124) rfl rfl, ky_t3 (i := 125) rfl rfl⟩
theorem cv_X1_draw : ky_CV M_X1_draw 0 := ⟨ky_t5 (i := 206) rfl rfl, ky_t1 (i := 6) rfl rfl, ⟨by decide +kernel, by decide +kernel, by decide +kernel⟩, Nat.le_of_ble_eq_true rfl⟩
theorem sv_X1_draw : ky_CVv M_X1_draw := ⟨ky_t5 (i := 205) rfl rfl, ky_s3 (i := 5) (q := (⟨"WaistSand$Body", "draw", "()I"⟩, 8)) rfl⟩
theorem cv_X1_drawLeg : ky_CV M_X1_drawLeg 0 := ⟨ky_t6 (i := 69) rfl rfl, ky_t1 (i := 6) rfl rfl, ⟨by decide +kernel, by decide +kernel, by decide +kernel⟩, Nat.le_of_ble_eq_true rfl⟩
theorem sv_X1_drawLeg : ky_CVv M_X1_drawLeg := ⟨ky_t6 (i := 67) rfl rfl, ky_t6 (i := 68) rfl rfl⟩
theorem cv_X1_drawMove : ky_CV M_X1_drawMove 0 := ⟨ky_t6 (i := 65) rfl rfl, ky_t1 (i := 6) rfl rfl, ⟨by decide +kernel, by decide +kernel, by decide +kernel⟩, Nat.le_of_ble_eq_true rfl⟩
theorem sv_X1_drawMove : ky_CVv M_X1_drawMove := ⟨ky_t6 (i := 63) rfl rfl, ky_t6 (i := 64) rfl rfl⟩
theorem cv_X1_harmOf : ky_CV M_X1_harmOf 1 := ⟨ky_t6 (i := 11) rfl rfl, ky_t1 (i := 6) rfl rfl, ⟨by decide +kernel, by decide +kernel, by decide +kernel⟩, Nat.le_of_ble_eq_true rfl⟩
theorem sv_X1_harmOf : ky_T (.static M_X1_harmOf.1) := ky_t6 (i := 10) rfl rfl
theorem cv_X1_init : ky_CV M_X1_init 0 := ⟨ky_t1 (i := 126) rfl rfl, ky_t1 (i := 6) rfl rfl, ⟨by decide +kernel, by decide +kernel, by decide +kernel⟩, Nat.le_of_ble_eq_true rfl⟩
theorem sv_X1_init : ky_T (.instanceMethod M_X1_init.1) := ky_t1 (i := 125) rfl rfl
theorem cv_X1_isDrowned : ky_CV M_X1_isDrowned 0 := ⟨ky_t3 (i := 168) rfl rfl, ky_t1 (i := 6) rfl rfl, ⟨by decide +kernel, by decide +kernel, by decide +kernel⟩, Nat.le_of_ble_eq_true rfl⟩
theorem sv_X1_isDrowned : ky_CVv M_X1_isDrowned := ⟨ky_t3 (i := 166) rfl rfl, ky_t3 (i := 167) rfl rfl⟩
theorem cv_X1_isStill : ky_CV M_X1_isStill 0 := ⟨ky_t5 (i := 165) rfl rfl, ky_t1 (i := 6) rfl rfl, ⟨by decide +kernel, by decide +kernel, by decide +kernel⟩, Nat.le_of_ble_eq_true rfl⟩
theorem sv_X1_isStill : ky_CVv M_X1_isStill := ⟨ky_t5 (i := 163) rfl rfl, ky_t5 (i := 164) rfl rfl⟩
theorem cv_X1_make : ky_CV M_X1_make 3 := ⟨ky_t5 (i := 195) rfl rfl, ky_t1 (i := 6) rfl rfl, ⟨by decide +kernel, by decide +kernel, by decide +kernel⟩, Nat.le_of_ble_eq_true rfl⟩
theorem sv_X1_make : ky_CVv M_X1_make := ⟨ky_t5 (i := 193) rfl rfl, ky_t5 (i := 194) rfl rfl⟩
theorem cv_X1_oneMore : ky_CV M_X1_oneMore 1 := ⟨ky_t6 (i := 23) rfl rfl, ky_t1 (i := 6) rfl rfl, ⟨by decide +kernel, by decide +kernel, by decide +kernel⟩, Nat.le_of_ble_eq_true rfl⟩
theorem sv_X1_oneMore : ky_T (.static M_X1_oneMore.1) := ky_t6 (i := 22) rfl rfl
theorem cv_X1_pass : ky_CV M_X1_pass 1 := ⟨ky_t5 (i := 201) rfl rfl, ky_t1 (i := 6) rfl rfl, ⟨by decide +kernel, by decide +kernel, by decide +kernel⟩, Nat.le_of_ble_eq_true rfl⟩
theorem sv_X1_pass : ky_CVv M_X1_pass := ⟨ky_t5 (i := 199) rfl rfl, ky_t5 (i := 200) rfl rfl⟩
theorem cv_X2_add : ky_CV M_X2_add 4 := ⟨ky_t5 (i := 216) rfl rfl, ky_t1 (i := 10) rfl rfl, ⟨by decide +kernel, by decide +kernel, by decide +kernel⟩, Nat.le_of_ble_eq_true rfl⟩
theorem sv_X2_add : ky_CVv M_X2_add := ⟨ky_t5 (i := 214) rfl rfl, ky_t5 (i := 215) rfl rfl⟩
theorem cv_X2_become : ky_CV M_X2_become 1 := ⟨ky_t3 (i := 142) rfl rfl, ky_t1 (i := 10) rfl rfl, ⟨by decide +kernel, by decide +kernel, by decide +kernel⟩, Nat.le_of_ble_eq_true rfl⟩
theorem sv_X2_become : ky_CVv M_X2_become := ⟨ky_t3 (i := 140) rfl rfl, ky_t3 (i := 141) rfl rfl⟩
theorem cv_X2_init : ky_CV M_X2_init 0 := ⟨ky_t1 (i := 234) rfl rfl, ky_t1 (i := 10) rfl rfl, ⟨by decide +kernel, by decide +kernel, by decide +kernel⟩, Nat.le_of_ble_eq_true rfl⟩
theorem sv_X2_init : ky_T (.instanceMethod M_X2_init.1) := ky_t1 (i := 233) rfl rfl
theorem cv_X2_latestMoveOf : ky_CV M_X2_latestMoveOf 1 := ⟨ky_t6 (i := 238) rfl rfl, ky_t1 (i := 10) rfl rfl, ⟨by decide +kernel, by decide +kernel, by decide +kernel⟩, Nat.le_of_ble_eq_true rfl⟩
theorem sv_X2_latestMoveOf : ky_CVv M_X2_latestMoveOf := ⟨ky_t6 (i := 236) rfl rfl, ky_t6 (i := 237) rfl rfl⟩
theorem cv_X2_part : ky_CV M_X2_part 2 := ⟨ky_t7 (i := 5) rfl rfl, ky_t1 (i := 10) rfl rfl, ⟨by decide +kernel, by decide +kernel, by decide +kernel⟩, Nat.le_of_ble_eq_true rfl⟩
theorem sv_X2_part : ky_T (.static M_X2_part.1) := ky_t7 (i := 4) rfl rfl
theorem cv_X2_row : ky_CV M_X2_row 1 := ⟨ky_t7 (i := 2) rfl rfl, ky_t1 (i := 10) rfl rfl, ⟨by decide +kernel, by decide +kernel, by decide +kernel⟩, Nat.le_of_ble_eq_true rfl⟩
theorem sv_X2_row : ky_CVv M_X2_row := ⟨ky_t7 (i := 0) rfl rfl, ky_t7 (i := 1) rfl rfl⟩
theorem cv_X2_rowsOf : ky_CV M_X2_rowsOf 1 := ⟨ky_t7 (i := 9) rfl rfl, ky_t1 (i := 10) rfl rfl, ⟨by decide +kernel, by decide +kernel, by decide +kernel⟩, Nat.le_of_ble_eq_true rfl⟩
theorem sv_X2_rowsOf : ky_CVv M_X2_rowsOf := ⟨ky_t7 (i := 7) rfl rfl, ky_t7 (i := 8) rfl rfl⟩
theorem cv_X3_asks : ky_CV M_X3_asks 1 := ⟨ky_t2 (i := 158) rfl rfl, ky_t1 (i := 23) rfl rfl, ⟨by decide +kernel, by decide +kernel, by decide +kernel⟩, Nat.le_of_ble_eq_true rfl⟩
theorem sv_X3_asks : ky_CVv M_X3_asks := ⟨ky_t2 (i := 156) rfl rfl, ky_t2 (i := 157) rfl rfl⟩
theorem cv_X3_holds : ky_CV M_X3_holds 2 := ⟨ky_t2 (i := 223) rfl rfl, ky_t1 (i := 23) rfl rfl, ⟨by decide +kernel, by decide +kernel, by decide +kernel⟩, Nat.le_of_ble_eq_true rfl⟩
theorem sv_X3_holds : ky_CVv M_X3_holds := ⟨ky_t2 (i := 221) rfl rfl, ky_s1 (i := 8) (q := (⟨"WaistSand$Law", "holds", "(II)Z"⟩, 10)) rfl⟩
theorem cv_X3_init : ky_CV M_X3_init 4 := ⟨ky_t5 (i := 5) rfl rfl, ky_t1 (i := 23) rfl rfl, ⟨by decide +kernel, by decide +kernel, by decide +kernel⟩, Nat.le_of_ble_eq_true rfl⟩
theorem sv_X3_init : ky_T (.instanceMethod M_X3_init.1) := ky_t5 (i := 4) rfl rfl
theorem cv_X3_weigh : ky_CV M_X3_weigh 6 := ⟨ky_t2 (i := 214) rfl rfl, ky_t1 (i := 23) rfl rfl, ⟨by decide +kernel, by decide +kernel, by decide +kernel⟩, Nat.le_of_ble_eq_true rfl⟩
theorem sv_X3_weigh : ky_CVv M_X3_weigh := ⟨ky_t2 (i := 212) rfl rfl, ky_t2 (i := 213) rfl rfl⟩
theorem cv_X4_init : ky_CV M_X4_init 0 := ⟨ky_t1 (i := 92) rfl rfl, ky_t1 (i := 4) rfl rfl, ⟨by decide +kernel, by decide +kernel, by decide +kernel⟩, Nat.le_of_ble_eq_true rfl⟩
theorem sv_X4_init : ky_T (.instanceMethod M_X4_init.1) := ky_t1 (i := 91) rfl rfl
theorem cv_X4_made : ky_CV M_X4_made 0 := ⟨ky_t4 (i := 229) rfl rfl, ky_t1 (i := 4) rfl rfl, ⟨by decide +kernel, by decide +kernel, by decide +kernel⟩, Nat.le_of_ble_eq_true rfl⟩
theorem sv_X4_made : ky_CVv M_X4_made := ⟨ky_t4 (i := 227) rfl rfl, ky_t4 (i := 228) rfl rfl⟩
theorem cv_X4_put : ky_CV M_X4_put 1 := ⟨ky_t4 (i := 210) rfl rfl, ky_t1 (i := 4) rfl rfl, ⟨by decide +kernel, by decide +kernel, by decide +kernel⟩, Nat.le_of_ble_eq_true rfl⟩
theorem sv_X4_put : ky_CVv M_X4_put := ⟨ky_t4 (i := 209) rfl rfl, ky_s2 (i := 15) (q := (⟨"WaistSand$LawReader", "put", "(I)Z"⟩, 7)) rfl⟩
theorem cv_X4_putComparison : ky_CV M_X4_putComparison 1 := ⟨ky_t4 (i := 223) rfl rfl, ky_t1 (i := 4) rfl rfl, ⟨by decide +kernel, by decide +kernel, by decide +kernel⟩, Nat.le_of_ble_eq_true rfl⟩
theorem sv_X4_putComparison : ky_CVv M_X4_putComparison := ⟨ky_t4 (i := 222) rfl rfl, ky_s3 (i := 1) (q := (⟨"WaistSand$LawReader", "putComparison", "(I)Z"⟩, 7)) rfl⟩
theorem cv_X4_readAll : ky_CV M_X4_readAll 2 := ⟨ky_t4 (i := 201) rfl rfl, ky_t1 (i := 4) rfl rfl, ⟨by decide +kernel, by decide +kernel, by decide +kernel⟩, Nat.le_of_ble_eq_true rfl⟩
theorem sv_X4_readAll : ky_CVv M_X4_readAll := ⟨ky_t4 (i := 200) rfl rfl, ky_s2 (i := 13) (q := (⟨"WaistSand$LawReader", "readAll", "(LWaistSand$Tape;I)Z"⟩, 7)) rfl⟩
theorem cv_X4_readAtom : ky_CV M_X4_readAtom 2 := ⟨ky_t4 (i := 205) rfl rfl, ky_t1 (i := 4) rfl rfl, ⟨by decide +kernel, by decide +kernel, by decide +kernel⟩, Nat.le_of_ble_eq_true rfl⟩
theorem sv_X4_readAtom : ky_CVv M_X4_readAtom := ⟨ky_t4 (i := 204) rfl rfl, ky_s2 (i := 14) (q := (⟨"WaistSand$LawReader", "readAtom", "(LWaistSand$Tape;I)Z"⟩, 7)) rfl⟩
theorem cv_X4_readCondition : ky_CV M_X4_readCondition 2 := ⟨ky_t4 (i := 197) rfl rfl, ky_t1 (i := 4) rfl rfl, ⟨by decide +kernel, by decide +kernel, by decide +kernel⟩, Nat.le_of_ble_eq_true rfl⟩
theorem sv_X4_readCondition : ky_CVv M_X4_readCondition := ⟨ky_t4 (i := 196) rfl rfl, ky_s2 (i := 12) (q := (⟨"WaistSand$LawReader", "readCondition", "(LWaistSand$Tape;I)Z"⟩, 7)) rfl⟩
theorem cv_X4_readLine : ky_CV M_X4_readLine 1 := ⟨ky_t4 (i := 188) rfl rfl, ky_t1 (i := 4) rfl rfl, ⟨by decide +kernel, by decide +kernel, by decide +kernel⟩, Nat.le_of_ble_eq_true rfl⟩
theorem sv_X4_readLine : ky_CVv M_X4_readLine := ⟨ky_t4 (i := 187) rfl rfl, ky_s2 (i := 11) (q := (⟨"WaistSand$LawReader", "readLine", "(LWaistSand$Tape;)Z"⟩, 7)) rfl⟩
theorem cv_X4_readSum : ky_CV M_X4_readSum 2 := ⟨ky_t4 (i := 218) rfl rfl, ky_t1 (i := 4) rfl rfl, ⟨by decide +kernel, by decide +kernel, by decide +kernel⟩, Nat.le_of_ble_eq_true rfl⟩
theorem sv_X4_readSum : ky_CVv M_X4_readSum := ⟨ky_t4 (i := 217) rfl rfl, ky_s3 (i := 0) (q := (⟨"WaistSand$LawReader", "readSum", "(LWaistSand$Tape;I)Z"⟩, 7)) rfl⟩
theorem cv_X4_reads : ky_CV M_X4_reads 1 := ⟨ky_t4 (i := 182) rfl rfl, ky_t1 (i := 4) rfl rfl, ⟨by decide +kernel, by decide +kernel, by decide +kernel⟩, Nat.le_of_ble_eq_true rfl⟩
theorem sv_X4_reads : ky_CVv M_X4_reads := ⟨ky_t4 (i := 180) rfl rfl, ky_t4 (i := 181) rfl rfl⟩
theorem cv_X5_deeperByOne : ky_CV M_X5_deeperByOne 1 := ⟨ky_t5 (i := 210) rfl rfl, ky_t1 (i := 21) rfl rfl, ⟨by decide +kernel, by decide +kernel, by decide +kernel⟩, Nat.le_of_ble_eq_true rfl⟩
theorem sv_X5_deeperByOne : ky_T (.static M_X5_deeperByOne.1) := ky_t5 (i := 209) rfl rfl
theorem cv_X5_depth0 : ky_CV M_X5_depth0 1 := ⟨ky_t2 (i := 207) rfl rfl, ky_t1 (i := 21) rfl rfl, ⟨by decide +kernel, by decide +kernel, by decide +kernel⟩, Nat.le_of_ble_eq_true rfl⟩
theorem sv_X5_depth0 : ky_T (.static M_X5_depth0.1) := ky_t2 (i := 206) rfl rfl
theorem cv_X5_depth1 : ky_CV M_X5_depth1 1 := ⟨ky_t2 (i := 204) rfl rfl, ky_t1 (i := 21) rfl rfl, ⟨by decide +kernel, by decide +kernel, by decide +kernel⟩, Nat.le_of_ble_eq_true rfl⟩
theorem sv_X5_depth1 : ky_T (.static M_X5_depth1.1) := ky_t2 (i := 203) rfl rfl
theorem cv_X5_isOut : ky_CV M_X5_isOut 1 := ⟨ky_t2 (i := 179) rfl rfl, ky_t1 (i := 21) rfl rfl, ⟨by decide +kernel, by decide +kernel, by decide +kernel⟩, Nat.le_of_ble_eq_true rfl⟩
theorem sv_X5_isOut : ky_T (.static M_X5_isOut.1) := ky_t2 (i := 178) rfl rfl
theorem cv_X5_lift : ky_CV M_X5_lift 2 := ⟨ky_t6 (i := 7) rfl rfl, ky_t1 (i := 21) rfl rfl, ⟨by decide +kernel, by decide +kernel, by decide +kernel⟩, Nat.le_of_ble_eq_true rfl⟩
theorem sv_X5_lift : ky_T (.static M_X5_lift.1) := ky_t6 (i := 6) rfl rfl
theorem cv_X5_lying : ky_CV M_X5_lying 1 := ⟨ky_t2 (i := 218) rfl rfl, ky_t1 (i := 21) rfl rfl, ⟨by decide +kernel, by decide +kernel, by decide +kernel⟩, Nat.le_of_ble_eq_true rfl⟩
theorem sv_X5_lying : ky_T (.static M_X5_lying.1) := ky_t2 (i := 217) rfl rfl
theorem cv_X5_lyingBack : ky_CV M_X5_lyingBack 1 := ⟨ky_t6 (i := 87) rfl rfl, ky_t1 (i := 21) rfl rfl, ⟨by decide +kernel, by decide +kernel, by decide +kernel⟩, Nat.le_of_ble_eq_true rfl⟩
theorem sv_X5_lyingBack : ky_T (.static M_X5_lyingBack.1) := ky_t6 (i := 86) rfl rfl
theorem cv_X5_of : ky_CV M_X5_of 4 := ⟨ky_t2 (i := 236) rfl rfl, ky_t1 (i := 21) rfl rfl, ⟨by decide +kernel, by decide +kernel, by decide +kernel⟩, Nat.le_of_ble_eq_true rfl⟩
theorem sv_X5_of : ky_T (.static M_X5_of.1) := ky_t2 (i := 235) rfl rfl
theorem cv_X5_part : ky_CV M_X5_part 2 := ⟨ky_t3 (i := 163) rfl rfl, ky_t1 (i := 21) rfl rfl, ⟨by decide +kernel, by decide +kernel, by decide +kernel⟩, Nat.le_of_ble_eq_true rfl⟩
theorem sv_X5_part : ky_T (.static M_X5_part.1) := ky_t3 (i := 162) rfl rfl
theorem cv_X5_pulled : ky_CV M_X5_pulled 2 := ⟨ky_t6 (i := 4) rfl rfl, ky_t1 (i := 21) rfl rfl, ⟨by decide +kernel, by decide +kernel, by decide +kernel⟩, Nat.le_of_ble_eq_true rfl⟩
theorem sv_X5_pulled : ky_T (.static M_X5_pulled.1) := ky_t6 (i := 3) rfl rfl
theorem cv_X5_pullsOut : ky_CV M_X5_pullsOut 2 := ⟨ky_t6 (i := 110) rfl rfl, ky_t1 (i := 21) rfl rfl, ⟨by decide +kernel, by decide +kernel, by decide +kernel⟩, Nat.le_of_ble_eq_true rfl⟩
theorem sv_X5_pullsOut : ky_T (.static M_X5_pullsOut.1) := ky_t6 (i := 109) rfl rfl
theorem cv_X5_thin : ky_CV M_X5_thin 1 := ⟨ky_t2 (i := 210) rfl rfl, ky_t1 (i := 21) rfl rfl, ⟨by decide +kernel, by decide +kernel, by decide +kernel⟩, Nat.le_of_ble_eq_true rfl⟩
theorem sv_X5_thin : ky_T (.static M_X5_thin.1) := ky_t2 (i := 209) rfl rfl
theorem cv_X5_together : ky_CV M_X5_together 1 := ⟨ky_t5 (i := 222) rfl rfl, ky_t1 (i := 21) rfl rfl, ⟨by decide +kernel, by decide +kernel, by decide +kernel⟩, Nat.le_of_ble_eq_true rfl⟩
theorem sv_X5_together : ky_T (.static M_X5_together.1) := ky_t5 (i := 221) rfl rfl
theorem cv_X5_withDepths : ky_CV M_X5_withDepths 3 := ⟨ky_t3 (i := 42) rfl rfl, ky_t1 (i := 21) rfl rfl, ⟨by decide +kernel, by decide +kernel, by decide +kernel⟩, Nat.le_of_ble_eq_true rfl⟩
theorem sv_X5_withDepths : ky_T (.static M_X5_withDepths.1) := ky_t3 (i := 41) rfl rfl
theorem cv_X5_withThin : ky_CV M_X5_withThin 2 := ⟨ky_t3 (i := 31) rfl rfl, ky_t1 (i := 21) rfl rfl, ⟨by decide +kernel, by decide +kernel, by decide +kernel⟩, Nat.le_of_ble_eq_true rfl⟩
theorem sv_X5_withThin : ky_T (.static M_X5_withThin.1) := ky_t3 (i := 30) rfl rfl
theorem cv_X6_after : ky_CV M_X6_after 5 := ⟨ky_t2 (i := 201) rfl rfl, ky_t1 (i := 7) rfl rfl, ⟨by decide +kernel, by decide +kernel, by decide +kernel⟩, Nat.le_of_ble_eq_true rfl⟩
theorem sv_X6_after : ky_CVv M_X6_after := ⟨ky_t2 (i := 199) rfl rfl, ky_t2 (i := 200) rfl rfl⟩
theorem cv_X6_become : ky_CV M_X6_become 1 := ⟨ky_t3 (i := 130) rfl rfl, ky_t1 (i := 7) rfl rfl, ⟨by decide +kernel, by decide +kernel, by decide +kernel⟩, Nat.le_of_ble_eq_true rfl⟩
theorem sv_X6_become : ky_CVv M_X6_become := ⟨ky_t3 (i := 128) rfl rfl, ky_t3 (i := 129) rfl rfl⟩
theorem cv_X6_deeper : ky_CV M_X6_deeper 2 := ⟨ky_t2 (i := 229) rfl rfl, ky_t1 (i := 7) rfl rfl, ⟨by decide +kernel, by decide +kernel, by decide +kernel⟩, Nat.le_of_ble_eq_true rfl⟩
theorem sv_X6_deeper : ky_T (.static M_X6_deeper.1) := ky_t2 (i := 228) rfl rfl
theorem cv_X6_init : ky_CV M_X6_init 0 := ⟨ky_t1 (i := 172) rfl rfl, ky_t1 (i := 7) rfl rfl, ⟨by decide +kernel, by decide +kernel, by decide +kernel⟩, Nat.le_of_ble_eq_true rfl⟩
theorem sv_X6_init : ky_T (.instanceMethod M_X6_init.1) := ky_t1 (i := 171) rfl rfl
theorem cv_X6_lessDeep : ky_CV M_X6_lessDeep 2 := ⟨ky_t2 (i := 226) rfl rfl, ky_t1 (i := 7) rfl rfl, ⟨by decide +kernel, by decide +kernel, by decide +kernel⟩, Nat.le_of_ble_eq_true rfl⟩
theorem sv_X6_lessDeep : ky_T (.static M_X6_lessDeep.1) := ky_t2 (i := 225) rfl rfl
theorem cv_X6_lyingBehind : ky_CV M_X6_lyingBehind 2 := ⟨ky_t2 (i := 232) rfl rfl, ky_t1 (i := 7) rfl rfl, ⟨by decide +kernel, by decide +kernel, by decide +kernel⟩, Nat.le_of_ble_eq_true rfl⟩
theorem sv_X6_lyingBehind : ky_T (.static M_X6_lyingBehind.1) := ky_t2 (i := 231) rfl rfl
theorem cv_X6_number : ky_CV M_X6_number 2 := ⟨ky_t5 (i := 94) rfl rfl, ky_t1 (i := 7) rfl rfl, ⟨by decide +kernel, by decide +kernel, by decide +kernel⟩, Nat.le_of_ble_eq_true rfl⟩
theorem sv_X6_number : ky_CVv M_X6_number := ⟨ky_t5 (i := 92) rfl rfl, ky_t5 (i := 93) rfl rfl⟩
theorem cv_X6_takes : ky_CV M_X6_takes 1 := ⟨ky_t3 (i := 0) rfl rfl, ky_t1 (i := 7) rfl rfl, ⟨by decide +kernel, by decide +kernel, by decide +kernel⟩, Nat.le_of_ble_eq_true rfl⟩
theorem sv_X6_takes : ky_CVv M_X6_takes := ⟨ky_t2 (i := 238) rfl rfl, ky_t2 (i := 239) rfl rfl⟩
theorem cv_X6_tell : ky_CV M_X6_tell 2 := ⟨ky_t4 (i := 156) rfl rfl, ky_t1 (i := 7) rfl rfl, ⟨by decide +kernel, by decide +kernel, by decide +kernel⟩, Nat.le_of_ble_eq_true rfl⟩
theorem sv_X6_tell : ky_CVv M_X6_tell := ⟨ky_t4 (i := 154) rfl rfl, ky_t4 (i := 155) rfl rfl⟩
theorem cv_X7_become : ky_CV M_X7_become 1 := ⟨ky_t3 (i := 122) rfl rfl, ky_t1 (i := 5) rfl rfl, ⟨by decide +kernel, by decide +kernel, by decide +kernel⟩, Nat.le_of_ble_eq_true rfl⟩
theorem sv_X7_become : ky_CVv M_X7_become := ⟨ky_t3 (i := 120) rfl rfl, ky_t3 (i := 121) rfl rfl⟩
theorem cv_X7_init : ky_CV M_X7_init 0 := ⟨ky_t1 (i := 120) rfl rfl, ky_t1 (i := 5) rfl rfl, ⟨by decide +kernel, by decide +kernel, by decide +kernel⟩, Nat.le_of_ble_eq_true rfl⟩
theorem sv_X7_init : ky_T (.instanceMethod M_X7_init.1) := ky_t1 (i := 119) rfl rfl
theorem cv_X7_makeMove : ky_CV M_X7_makeMove 2 := ⟨ky_t5 (i := 191) rfl rfl, ky_t1 (i := 5) rfl rfl, ⟨by decide +kernel, by decide +kernel, by decide +kernel⟩, Nat.le_of_ble_eq_true rfl⟩
theorem sv_X7_makeMove : ky_CVv M_X7_makeMove := ⟨ky_t5 (i := 189) rfl rfl, ky_t5 (i := 190) rfl rfl⟩
theorem cv_X7_makePull : ky_CV M_X7_makePull 1 := ⟨ky_t5 (i := 237) rfl rfl, ky_t1 (i := 5) rfl rfl, ⟨by decide +kernel, by decide +kernel, by decide +kernel⟩, Nat.le_of_ble_eq_true rfl⟩
theorem sv_X7_makePull : ky_CVv M_X7_makePull := ⟨ky_t5 (i := 235) rfl rfl, ky_t5 (i := 236) rfl rfl⟩
theorem cv_X8_addPerson : ky_CV M_X8_addPerson 2 := ⟨ky_t4 (i := 171) rfl rfl, ky_t1 (i := 8) rfl rfl, ⟨by decide +kernel, by decide +kernel, by decide +kernel⟩, Nat.le_of_ble_eq_true rfl⟩
theorem sv_X8_addPerson : ky_CVv M_X8_addPerson := ⟨ky_t4 (i := 169) rfl rfl, ky_t4 (i := 170) rfl rfl⟩
theorem cv_X8_bearing : ky_CV M_X8_bearing 1 := ⟨ky_t3 (i := 97) rfl rfl, ky_t1 (i := 8) rfl rfl, ⟨by decide +kernel, by decide +kernel, by decide +kernel⟩, Nat.le_of_ble_eq_true rfl⟩
theorem sv_X8_bearing : ky_CVv M_X8_bearing := ⟨ky_t3 (i := 95) rfl rfl, ky_t3 (i := 96) rfl rfl⟩
theorem cv_X8_become : ky_CV M_X8_become 1 := ⟨ky_t3 (i := 137) rfl rfl, ky_t1 (i := 8) rfl rfl, ⟨by decide +kernel, by decide +kernel, by decide +kernel⟩, Nat.le_of_ble_eq_true rfl⟩
theorem sv_X8_become : ky_CVv M_X8_become := ⟨ky_t3 (i := 135) rfl rfl, ky_t3 (i := 136) rfl rfl⟩
theorem cv_X8_beside : ky_CV M_X8_beside 1 := ⟨ky_t3 (i := 90) rfl rfl, ky_t1 (i := 8) rfl rfl, ⟨by decide +kernel, by decide +kernel, by decide +kernel⟩, Nat.le_of_ble_eq_true rfl⟩
theorem sv_X8_beside : ky_T (.static M_X8_beside.1) := ky_t3 (i := 89) rfl rfl
theorem cv_X8_boardsToCome : ky_CV M_X8_boardsToCome 1 := ⟨ky_t5 (i := 128) rfl rfl, ky_t1 (i := 8) rfl rfl, ⟨by decide +kernel, by decide +kernel, by decide +kernel⟩, Nat.le_of_ble_eq_true rfl⟩
theorem sv_X8_boardsToCome : ky_CVv M_X8_boardsToCome := ⟨ky_t5 (i := 126) rfl rfl, ky_t5 (i := 127) rfl rfl⟩
theorem cv_X8_cellAt : ky_CV M_X8_cellAt 2 := ⟨ky_t4 (i := 167) rfl rfl, ky_t1 (i := 8) rfl rfl, ⟨by decide +kernel, by decide +kernel, by decide +kernel⟩, Nat.le_of_ble_eq_true rfl⟩
theorem sv_X8_cellAt : ky_T (.static M_X8_cellAt.1) := ky_t4 (i := 166) rfl rfl
theorem cv_X8_distance : ky_CV M_X8_distance 2 := ⟨ky_t5 (i := 143) rfl rfl, ky_t1 (i := 8) rfl rfl, ⟨by decide +kernel, by decide +kernel, by decide +kernel⟩, Nat.le_of_ble_eq_true rfl⟩
theorem sv_X8_distance : ky_T (.static M_X8_distance.1) := ky_t5 (i := 142) rfl rfl
theorem cv_X8_farthest : ky_CV M_X8_farthest 1 := ⟨ky_t5 (i := 135) rfl rfl, ky_t1 (i := 8) rfl rfl, ⟨by decide +kernel, by decide +kernel, by decide +kernel⟩, Nat.le_of_ble_eq_true rfl⟩
theorem sv_X8_farthest : ky_CVv M_X8_farthest := ⟨ky_t5 (i := 133) rfl rfl, ky_t5 (i := 134) rfl rfl⟩
theorem cv_X8_flood : ky_CV M_X8_flood 2 := ⟨ky_t5 (i := 131) rfl rfl, ky_t1 (i := 8) rfl rfl, ⟨by decide +kernel, by decide +kernel, by decide +kernel⟩, Nat.le_of_ble_eq_true rfl⟩
theorem sv_X8_flood : ky_T (.static M_X8_flood.1) := ky_t5 (i := 130) rfl rfl
theorem cv_X8_has : ky_CV M_X8_has 2 := ⟨ky_t5 (i := 108) rfl rfl, ky_t1 (i := 8) rfl rfl, ⟨by decide +kernel, by decide +kernel, by decide +kernel⟩, Nat.le_of_ble_eq_true rfl⟩
theorem sv_X8_has : ky_T (.static M_X8_has.1) := ky_t5 (i := 107) rfl rfl
theorem cv_X8_heapTells : ky_CV M_X8_heapTells 1 := ⟨ky_t6 (i := 181) rfl rfl, ky_t1 (i := 8) rfl rfl, ⟨by decide +kernel, by decide +kernel, by decide +kernel⟩, Nat.le_of_ble_eq_true rfl⟩
theorem sv_X8_heapTells : ky_CVv M_X8_heapTells := ⟨ky_t6 (i := 179) rfl rfl, ky_t6 (i := 180) rfl rfl⟩
theorem cv_X8_heavierBy : ky_CV M_X8_heavierBy 2 := ⟨ky_t6 (i := 193) rfl rfl, ky_t1 (i := 8) rfl rfl, ⟨by decide +kernel, by decide +kernel, by decide +kernel⟩, Nat.le_of_ble_eq_true rfl⟩
theorem sv_X8_heavierBy : ky_CVv M_X8_heavierBy := ⟨ky_t6 (i := 191) rfl rfl, ky_t6 (i := 192) rfl rfl⟩
theorem cv_X8_heldTo : ky_CV M_X8_heldTo 2 := ⟨ky_t6 (i := 161) rfl rfl, ky_t1 (i := 8) rfl rfl, ⟨by decide +kernel, by decide +kernel, by decide +kernel⟩, Nat.le_of_ble_eq_true rfl⟩
theorem sv_X8_heldTo : ky_CVv M_X8_heldTo := ⟨ky_t6 (i := 159) rfl rfl, ky_t6 (i := 160) rfl rfl⟩
theorem cv_X8_hundredths : ky_CV M_X8_hundredths 2 := ⟨ky_t6 (i := 177) rfl rfl, ky_t1 (i := 8) rfl rfl, ⟨by decide +kernel, by decide +kernel, by decide +kernel⟩, Nat.le_of_ble_eq_true rfl⟩
theorem sv_X8_hundredths : ky_T (.static M_X8_hundredths.1) := ky_t6 (i := 176) rfl rfl
theorem cv_X8_init : ky_CV M_X8_init 0 := ⟨ky_t1 (i := 187) rfl rfl, ky_t1 (i := 8) rfl rfl, ⟨by decide +kernel, by decide +kernel, by decide +kernel⟩, Nat.le_of_ble_eq_true rfl⟩
theorem sv_X8_init : ky_T (.instanceMethod M_X8_init.1) := ky_t1 (i := 186) rfl rfl
theorem cv_X8_laden : ky_CV M_X8_laden 1 := ⟨ky_t3 (i := 75) rfl rfl, ky_t1 (i := 8) rfl rfl, ⟨by decide +kernel, by decide +kernel, by decide +kernel⟩, Nat.le_of_ble_eq_true rfl⟩
theorem sv_X8_laden : ky_CVv M_X8_laden := ⟨ky_t3 (i := 74) rfl rfl, ky_s1 (i := 12) (q := (⟨"WaistSand$Shore", "laden", "(I)I"⟩, 8)) rfl⟩
theorem cv_X8_layBoard : ky_CV M_X8_layBoard 1 := ⟨ky_t6 (i := 53) rfl rfl, ky_t1 (i := 8) rfl rfl, ⟨by decide +kernel, by decide +kernel, by decide +kernel⟩, Nat.le_of_ble_eq_true rfl⟩
theorem sv_X8_layBoard : ky_CVv M_X8_layBoard := ⟨ky_t6 (i := 51) rfl rfl, ky_t6 (i := 52) rfl rfl⟩
theorem cv_X8_mostPlaced : ky_CV M_X8_mostPlaced 0 := ⟨ky_t3 (i := 83) rfl rfl, ky_t1 (i := 8) rfl rfl, ⟨by decide +kernel, by decide +kernel, by decide +kernel⟩, Nat.le_of_ble_eq_true rfl⟩
theorem sv_X8_mostPlaced : ky_CVv M_X8_mostPlaced := ⟨ky_t3 (i := 81) rfl rfl, ky_t3 (i := 82) rfl rfl⟩
theorem cv_X8_notHeavierThan : ky_CV M_X8_notHeavierThan 1 := ⟨ky_t3 (i := 107) rfl rfl, ky_t1 (i := 8) rfl rfl, ⟨by decide +kernel, by decide +kernel, by decide +kernel⟩, Nat.le_of_ble_eq_true rfl⟩
theorem sv_X8_notHeavierThan : ky_CVv M_X8_notHeavierThan := ⟨ky_t3 (i := 106) rfl rfl, ky_s1 (i := 13) (q := (⟨"WaistSand$Shore", "notHeavierThan", "(I)I"⟩, 8)) rfl⟩
theorem cv_X8_overladen : ky_CV M_X8_overladen 0 := ⟨ky_t3 (i := 71) rfl rfl, ky_t1 (i := 8) rfl rfl, ⟨by decide +kernel, by decide +kernel, by decide +kernel⟩, Nat.le_of_ble_eq_true rfl⟩
theorem sv_X8_overladen : ky_CVv M_X8_overladen := ⟨ky_t3 (i := 69) rfl rfl, ky_t3 (i := 70) rfl rfl⟩
theorem cv_X8_peopleOn : ky_CV M_X8_peopleOn 1 := ⟨ky_t5 (i := 112) rfl rfl, ky_t1 (i := 8) rfl rfl, ⟨by decide +kernel, by decide +kernel, by decide +kernel⟩, Nat.le_of_ble_eq_true rfl⟩
theorem sv_X8_peopleOn : ky_CVv M_X8_peopleOn := ⟨ky_t5 (i := 110) rfl rfl, ky_t5 (i := 111) rfl rfl⟩
theorem cv_X8_reached : ky_CV M_X8_reached 2 := ⟨ky_t5 (i := 139) rfl rfl, ky_t1 (i := 8) rfl rfl, ⟨by decide +kernel, by decide +kernel, by decide +kernel⟩, Nat.le_of_ble_eq_true rfl⟩
theorem sv_X8_reached : ky_CVv M_X8_reached := ⟨ky_t5 (i := 137) rfl rfl, ky_t5 (i := 138) rfl rfl⟩
theorem cv_X8_ropeCells : ky_CV M_X8_ropeCells 0 := ⟨ky_t3 (i := 87) rfl rfl, ky_t1 (i := 8) rfl rfl, ⟨by decide +kernel, by decide +kernel, by decide +kernel⟩, Nat.le_of_ble_eq_true rfl⟩
theorem sv_X8_ropeCells : ky_CVv M_X8_ropeCells := ⟨ky_t3 (i := 85) rfl rfl, ky_t3 (i := 86) rfl rfl⟩
theorem cv_X8_shineTells : ky_CV M_X8_shineTells 1 := ⟨ky_t6 (i := 174) rfl rfl, ky_t1 (i := 8) rfl rfl, ⟨by decide +kernel, by decide +kernel, by decide +kernel⟩, Nat.le_of_ble_eq_true rfl⟩
theorem sv_X8_shineTells : ky_CVv M_X8_shineTells := ⟨ky_t6 (i := 172) rfl rfl, ky_t6 (i := 173) rfl rfl⟩
theorem cv_X8_steps : ky_CV M_X8_steps 3 := ⟨ky_t6 (i := 138) rfl rfl, ky_t1 (i := 8) rfl rfl, ⟨by decide +kernel, by decide +kernel, by decide +kernel⟩, Nat.le_of_ble_eq_true rfl⟩
theorem sv_X8_steps : ky_CVv M_X8_steps := ⟨ky_t6 (i := 136) rfl rfl, ky_t6 (i := 137) rfl rfl⟩
theorem cv_X9_add : ky_CV M_X9_add 1 := ⟨ky_t2 (i := 79) rfl rfl, ky_t1 (i := 2) rfl rfl, ⟨by decide +kernel, by decide +kernel, by decide +kernel⟩, Nat.le_of_ble_eq_true rfl⟩
theorem sv_X9_add : ky_CVv M_X9_add := ⟨ky_t2 (i := 77) rfl rfl, ky_t2 (i := 78) rfl rfl⟩
theorem cv_X9_begin : ky_CV M_X9_begin 0 := ⟨ky_t3 (i := 186) rfl rfl, ky_t1 (i := 2) rfl rfl, ⟨by decide +kernel, by decide +kernel, by decide +kernel⟩, Nat.le_of_ble_eq_true rfl⟩
theorem sv_X9_begin : ky_CVv M_X9_begin := ⟨ky_t3 (i := 184) rfl rfl, ky_t3 (i := 185) rfl rfl⟩
theorem cv_X9_hasRoom : ky_CV M_X9_hasRoom 0 := ⟨ky_t2 (i := 75) rfl rfl, ky_t1 (i := 2) rfl rfl, ⟨by decide +kernel, by decide +kernel, by decide +kernel⟩, Nat.le_of_ble_eq_true rfl⟩
theorem sv_X9_hasRoom : ky_CVv M_X9_hasRoom := ⟨ky_t2 (i := 73) rfl rfl, ky_t2 (i := 74) rfl rfl⟩
theorem cv_X9_init : ky_CV M_X9_init 0 := ⟨ky_t1 (i := 42) rfl rfl, ky_t1 (i := 2) rfl rfl, ⟨by decide +kernel, by decide +kernel, by decide +kernel⟩, Nat.le_of_ble_eq_true rfl⟩
theorem sv_X9_init : ky_T (.instanceMethod M_X9_init.1) := ky_t1 (i := 41) rfl rfl
theorem cv_X9_isEnded : ky_CV M_X9_isEnded 0 := ⟨ky_t3 (i := 194) rfl rfl, ky_t1 (i := 2) rfl rfl, ⟨by decide +kernel, by decide +kernel, by decide +kernel⟩, Nat.le_of_ble_eq_true rfl⟩
theorem sv_X9_isEnded : ky_CVv M_X9_isEnded := ⟨ky_t3 (i := 192) rfl rfl, ky_t3 (i := 193) rfl rfl⟩
theorem cv_X9_isHere : ky_CV M_X9_isHere 3 := ⟨ky_t4 (i := 19) rfl rfl, ky_t1 (i := 2) rfl rfl, ⟨by decide +kernel, by decide +kernel, by decide +kernel⟩, Nat.le_of_ble_eq_true rfl⟩
theorem sv_X9_isHere : ky_CVv M_X9_isHere := ⟨ky_t4 (i := 18) rfl rfl, ky_s2 (i := 2) (q := (⟨"WaistSand$Tape", "isHere", "(Ljava/lang/String;II)Z"⟩, 5)) rfl⟩
theorem cv_X9_letters : ky_CV M_X9_letters 0 := ⟨ky_t3 (i := 207) rfl rfl, ky_t1 (i := 2) rfl rfl, ⟨by decide +kernel, by decide +kernel, by decide +kernel⟩, Nat.le_of_ble_eq_true rfl⟩
theorem sv_X9_letters : ky_CVv M_X9_letters := ⟨ky_t3 (i := 206) rfl rfl, ky_s2 (i := 1) (q := (⟨"WaistSand$Tape", "letters", "()I"⟩, 5)) rfl⟩
theorem cv_X9_refuse : ky_CV M_X9_refuse 0 := ⟨ky_t4 (i := 23) rfl rfl, ky_t1 (i := 2) rfl rfl, ⟨by decide +kernel, by decide +kernel, by decide +kernel⟩, Nat.le_of_ble_eq_true rfl⟩
theorem sv_X9_refuse : ky_CVv M_X9_refuse := ⟨ky_t4 (i := 21) rfl rfl, ky_t4 (i := 22) rfl rfl⟩
theorem cv_X9_step : ky_CV M_X9_step 1 := ⟨ky_t3 (i := 190) rfl rfl, ky_t1 (i := 2) rfl rfl, ⟨by decide +kernel, by decide +kernel, by decide +kernel⟩, Nat.le_of_ble_eq_true rfl⟩
theorem sv_X9_step : ky_CVv M_X9_step := ⟨ky_t3 (i := 189) rfl rfl, ky_s1 (i := 15) (q := (⟨"WaistSand$Tape", "step", "(I)V"⟩, 5)) rfl⟩
theorem cv_X9_takeNumber : ky_CV M_X9_takeNumber 2 := ⟨ky_t4 (i := 35) rfl rfl, ky_t1 (i := 2) rfl rfl, ⟨by decide +kernel, by decide +kernel, by decide +kernel⟩, Nat.le_of_ble_eq_true rfl⟩
theorem sv_X9_takeNumber : ky_CVv M_X9_takeNumber := ⟨ky_t4 (i := 33) rfl rfl, ky_t4 (i := 34) rfl rfl⟩
theorem cv_X9_takeOneOf : ky_CV M_X9_takeOneOf 1 := ⟨ky_t3 (i := 203) rfl rfl, ky_t1 (i := 2) rfl rfl, ⟨by decide +kernel, by decide +kernel, by decide +kernel⟩, Nat.le_of_ble_eq_true rfl⟩
theorem sv_X9_takeOneOf : ky_CVv M_X9_takeOneOf := ⟨ky_t3 (i := 201) rfl rfl, ky_t3 (i := 202) rfl rfl⟩
theorem cv_X9_takeSign : ky_CV M_X9_takeSign 1 := ⟨ky_t4 (i := 53) rfl rfl, ky_t1 (i := 2) rfl rfl, ⟨by decide +kernel, by decide +kernel, by decide +kernel⟩, Nat.le_of_ble_eq_true rfl⟩
theorem sv_X9_takeSign : ky_CVv M_X9_takeSign := ⟨ky_t4 (i := 51) rfl rfl, ky_t4 (i := 52) rfl rfl⟩
theorem cv_X9_takeWord : ky_CV M_X9_takeWord 1 := ⟨ky_t4 (i := 40) rfl rfl, ky_t1 (i := 2) rfl rfl, ⟨by decide +kernel, by decide +kernel, by decide +kernel⟩, Nat.le_of_ble_eq_true rfl⟩
theorem sv_X9_takeWord : ky_CVv M_X9_takeWord := ⟨ky_t4 (i := 38) rfl rfl, ky_t4 (i := 39) rfl rfl⟩
