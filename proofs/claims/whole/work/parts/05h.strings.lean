theorem ky_lL {a b : Cond} {A : Array Value} {s : State} (h : (Cond.and a b).before A s = true) : a.before A s = true := by rw [Cond.before_and, Bool.and_eq_true] at h; exact h.1
theorem ky_lR {a b : Cond} {A : Array Value} {s : State} (h : (Cond.and a b).before A s = true) : b.before A s = true := by rw [Cond.before_and, Bool.and_eq_true] at h; exact h.2
set_option maxRecDepth 100000 in
set_option maxHeartbeats 4000000 in
theorem sg_X0_42 {G : ky_GW} (hG : ky_OK G) : ∃ s, vk_R RX0 42 "legs thin calm water tide slip move bears heap shine hole boards person" s G.2.1 ∧ ky_Str G s [108, 101, 103, 115, 32, 116, 104, 105, 110, 32, 99, 97, 108, 109, 32, 119, 97, 116, 101, 114, 32, 116, 105, 100, 101, 32, 115, 108, 105, 112, 32, 109, 111, 118, 101, 32, 98, 101, 97, 114, 115, 32, 104, 101, 97, 112, 32, 115, 104, 105, 110, 101, 32, 104, 111, 108, 101, 32, 98, 111, 97, 114, 100, 115, 32, 112, 101, 114, 115, 111, 110] := by
  have hel : ∀ j : Nat, j < 71 → (Cond.eq (.elem (.field (.string "WaistSand$BeachReader" 42) "java/lang/String" "value" "[B") (.int (Int32.ofNat j))) (.int (([108, 101, 103, 115, 32, 116, 104, 105, 110, 32, 99, 97, 108, 109, 32, 119, 97, 116, 101, 114, 32, 116, 105, 100, 101, 32, 115, 108, 105, 112, 32, 109, 111, 118, 101, 32, 98, 101, 97, 114, 115, 32, 104, 101, 97, 112, 32, 115, 104, 105, 110, 101, 32, 104, 111, 108, 101, 32, 98, 111, 97, 114, 100, 115, 32, 112, 101, 114, 115, 111, 110] : List Int32).getD j 0))).before G.2.2.1 G.2.1 = true := fun j hj => match j, hj with
    | 0, _ => (ky_lR (ky_lL (ky_lR (ky_lL (ky_lL (ky_lR (ky_lR (ky_lL (ky_lL (ky_lL (ky_lR hG.2.2.2)))))))))))
    | 1, _ => (ky_lL (ky_lR (ky_lR (ky_lL (ky_lL (ky_lR (ky_lR (ky_lL (ky_lL (ky_lL (ky_lR hG.2.2.2)))))))))))
    | 2, _ => (ky_lR (ky_lR (ky_lR (ky_lL (ky_lL (ky_lR (ky_lR (ky_lL (ky_lL (ky_lL (ky_lR hG.2.2.2)))))))))))
    | 3, _ => (ky_lL (ky_lL (ky_lL (ky_lR (ky_lL (ky_lR (ky_lR (ky_lL (ky_lL (ky_lL (ky_lR hG.2.2.2)))))))))))
    | 4, _ => (ky_lR (ky_lL (ky_lL (ky_lR (ky_lL (ky_lR (ky_lR (ky_lL (ky_lL (ky_lL (ky_lR hG.2.2.2)))))))))))
    | 5, _ => (ky_lL (ky_lR (ky_lL (ky_lR (ky_lL (ky_lR (ky_lR (ky_lL (ky_lL (ky_lL (ky_lR hG.2.2.2)))))))))))
    | 6, _ => (ky_lR (ky_lR (ky_lL (ky_lR (ky_lL (ky_lR (ky_lR (ky_lL (ky_lL (ky_lL (ky_lR hG.2.2.2)))))))))))
    | 7, _ => (ky_lL (ky_lL (ky_lR (ky_lR (ky_lL (ky_lR (ky_lR (ky_lL (ky_lL (ky_lL (ky_lR hG.2.2.2)))))))))))
    | 8, _ => (ky_lR (ky_lL (ky_lR (ky_lR (ky_lL (ky_lR (ky_lR (ky_lL (ky_lL (ky_lL (ky_lR hG.2.2.2)))))))))))
    | 9, _ => (ky_lL (ky_lR (ky_lR (ky_lR (ky_lL (ky_lR (ky_lR (ky_lL (ky_lL (ky_lL (ky_lR hG.2.2.2)))))))))))
    | 10, _ => (ky_lR (ky_lR (ky_lR (ky_lR (ky_lL (ky_lR (ky_lR (ky_lL (ky_lL (ky_lL (ky_lR hG.2.2.2)))))))))))
    | 11, _ => (ky_lL (ky_lL (ky_lL (ky_lR (ky_lR (ky_lR (ky_lL (ky_lL (ky_lL (ky_lR hG.2.2.2))))))))))
    | 12, _ => (ky_lL (ky_lR (ky_lL (ky_lL (ky_lR (ky_lR (ky_lR (ky_lL (ky_lL (ky_lL (ky_lR hG.2.2.2)))))))))))
    | 13, _ => (ky_lR (ky_lR (ky_lL (ky_lL (ky_lR (ky_lR (ky_lR (ky_lL (ky_lL (ky_lL (ky_lR hG.2.2.2)))))))))))
    | 14, _ => (ky_lL (ky_lL (ky_lR (ky_lL (ky_lR (ky_lR (ky_lR (ky_lL (ky_lL (ky_lL (ky_lR hG.2.2.2)))))))))))
    | 15, _ => (ky_lR (ky_lL (ky_lR (ky_lL (ky_lR (ky_lR (ky_lR (ky_lL (ky_lL (ky_lL (ky_lR hG.2.2.2)))))))))))
    | 16, _ => (ky_lL (ky_lR (ky_lR (ky_lL (ky_lR (ky_lR (ky_lR (ky_lL (ky_lL (ky_lL (ky_lR hG.2.2.2)))))))))))
    | 17, _ => (ky_lR (ky_lR (ky_lR (ky_lL (ky_lR (ky_lR (ky_lR (ky_lL (ky_lL (ky_lL (ky_lR hG.2.2.2)))))))))))
    | 18, _ => (ky_lL (ky_lL (ky_lL (ky_lR (ky_lR (ky_lR (ky_lR (ky_lL (ky_lL (ky_lL (ky_lR hG.2.2.2)))))))))))
    | 19, _ => (ky_lR (ky_lL (ky_lL (ky_lR (ky_lR (ky_lR (ky_lR (ky_lL (ky_lL (ky_lL (ky_lR hG.2.2.2)))))))))))
    | 20, _ => (ky_lL (ky_lR (ky_lL (ky_lR (ky_lR (ky_lR (ky_lR (ky_lL (ky_lL (ky_lL (ky_lR hG.2.2.2)))))))))))
    | 21, _ => (ky_lR (ky_lR (ky_lL (ky_lR (ky_lR (ky_lR (ky_lR (ky_lL (ky_lL (ky_lL (ky_lR hG.2.2.2)))))))))))
    | 22, _ => (ky_lL (ky_lL (ky_lR (ky_lR (ky_lR (ky_lR (ky_lR (ky_lL (ky_lL (ky_lL (ky_lR hG.2.2.2)))))))))))
    | 23, _ => (ky_lR (ky_lL (ky_lR (ky_lR (ky_lR (ky_lR (ky_lR (ky_lL (ky_lL (ky_lL (ky_lR hG.2.2.2)))))))))))
    | 24, _ => (ky_lL (ky_lR (ky_lR (ky_lR (ky_lR (ky_lR (ky_lR (ky_lL (ky_lL (ky_lL (ky_lR hG.2.2.2)))))))))))
    | 25, _ => (ky_lR (ky_lR (ky_lR (ky_lR (ky_lR (ky_lR (ky_lR (ky_lL (ky_lL (ky_lL (ky_lR hG.2.2.2)))))))))))
    | 26, _ => (ky_lL (ky_lL (ky_lL (ky_lL (ky_lL (ky_lL (ky_lR (ky_lL (ky_lL (ky_lR hG.2.2.2))))))))))
    | 27, _ => (ky_lL (ky_lR (ky_lL (ky_lL (ky_lL (ky_lL (ky_lL (ky_lR (ky_lL (ky_lL (ky_lR hG.2.2.2)))))))))))
    | 28, _ => (ky_lR (ky_lR (ky_lL (ky_lL (ky_lL (ky_lL (ky_lL (ky_lR (ky_lL (ky_lL (ky_lR hG.2.2.2)))))))))))
    | 29, _ => (ky_lL (ky_lL (ky_lR (ky_lL (ky_lL (ky_lL (ky_lL (ky_lR (ky_lL (ky_lL (ky_lR hG.2.2.2)))))))))))
    | 30, _ => (ky_lR (ky_lL (ky_lR (ky_lL (ky_lL (ky_lL (ky_lL (ky_lR (ky_lL (ky_lL (ky_lR hG.2.2.2)))))))))))
    | 31, _ => (ky_lL (ky_lR (ky_lR (ky_lL (ky_lL (ky_lL (ky_lL (ky_lR (ky_lL (ky_lL (ky_lR hG.2.2.2)))))))))))
    | 32, _ => (ky_lR (ky_lR (ky_lR (ky_lL (ky_lL (ky_lL (ky_lL (ky_lR (ky_lL (ky_lL (ky_lR hG.2.2.2)))))))))))
    | 33, _ => (ky_lL (ky_lL (ky_lL (ky_lR (ky_lL (ky_lL (ky_lL (ky_lR (ky_lL (ky_lL (ky_lR hG.2.2.2)))))))))))
    | 34, _ => (ky_lR (ky_lL (ky_lL (ky_lR (ky_lL (ky_lL (ky_lL (ky_lR (ky_lL (ky_lL (ky_lR hG.2.2.2)))))))))))
    | 35, _ => (ky_lL (ky_lR (ky_lL (ky_lR (ky_lL (ky_lL (ky_lL (ky_lR (ky_lL (ky_lL (ky_lR hG.2.2.2)))))))))))
    | 36, _ => (ky_lR (ky_lR (ky_lL (ky_lR (ky_lL (ky_lL (ky_lL (ky_lR (ky_lL (ky_lL (ky_lR hG.2.2.2)))))))))))
    | 37, _ => (ky_lL (ky_lL (ky_lR (ky_lR (ky_lL (ky_lL (ky_lL (ky_lR (ky_lL (ky_lL (ky_lR hG.2.2.2)))))))))))
    | 38, _ => (ky_lR (ky_lL (ky_lR (ky_lR (ky_lL (ky_lL (ky_lL (ky_lR (ky_lL (ky_lL (ky_lR hG.2.2.2)))))))))))
    | 39, _ => (ky_lL (ky_lR (ky_lR (ky_lR (ky_lL (ky_lL (ky_lL (ky_lR (ky_lL (ky_lL (ky_lR hG.2.2.2)))))))))))
    | 40, _ => (ky_lR (ky_lR (ky_lR (ky_lR (ky_lL (ky_lL (ky_lL (ky_lR (ky_lL (ky_lL (ky_lR hG.2.2.2)))))))))))
    | 41, _ => (ky_lL (ky_lL (ky_lL (ky_lR (ky_lL (ky_lL (ky_lR (ky_lL (ky_lL (ky_lR hG.2.2.2))))))))))
    | 42, _ => (ky_lL (ky_lR (ky_lL (ky_lL (ky_lR (ky_lL (ky_lL (ky_lR (ky_lL (ky_lL (ky_lR hG.2.2.2)))))))))))
    | 43, _ => (ky_lR (ky_lR (ky_lL (ky_lL (ky_lR (ky_lL (ky_lL (ky_lR (ky_lL (ky_lL (ky_lR hG.2.2.2)))))))))))
    | 44, _ => (ky_lL (ky_lL (ky_lR (ky_lL (ky_lR (ky_lL (ky_lL (ky_lR (ky_lL (ky_lL (ky_lR hG.2.2.2)))))))))))
    | 45, _ => (ky_lR (ky_lL (ky_lR (ky_lL (ky_lR (ky_lL (ky_lL (ky_lR (ky_lL (ky_lL (ky_lR hG.2.2.2)))))))))))
    | 46, _ => (ky_lL (ky_lR (ky_lR (ky_lL (ky_lR (ky_lL (ky_lL (ky_lR (ky_lL (ky_lL (ky_lR hG.2.2.2)))))))))))
    | 47, _ => (ky_lR (ky_lR (ky_lR (ky_lL (ky_lR (ky_lL (ky_lL (ky_lR (ky_lL (ky_lL (ky_lR hG.2.2.2)))))))))))
    | 48, _ => (ky_lL (ky_lL (ky_lL (ky_lR (ky_lR (ky_lL (ky_lL (ky_lR (ky_lL (ky_lL (ky_lR hG.2.2.2)))))))))))
    | 49, _ => (ky_lR (ky_lL (ky_lL (ky_lR (ky_lR (ky_lL (ky_lL (ky_lR (ky_lL (ky_lL (ky_lR hG.2.2.2)))))))))))
    | 50, _ => (ky_lL (ky_lR (ky_lL (ky_lR (ky_lR (ky_lL (ky_lL (ky_lR (ky_lL (ky_lL (ky_lR hG.2.2.2)))))))))))
    | 51, _ => (ky_lR (ky_lR (ky_lL (ky_lR (ky_lR (ky_lL (ky_lL (ky_lR (ky_lL (ky_lL (ky_lR hG.2.2.2)))))))))))
    | 52, _ => (ky_lL (ky_lL (ky_lR (ky_lR (ky_lR (ky_lL (ky_lL (ky_lR (ky_lL (ky_lL (ky_lR hG.2.2.2)))))))))))
    | 53, _ => (ky_lR (ky_lL (ky_lR (ky_lR (ky_lR (ky_lL (ky_lL (ky_lR (ky_lL (ky_lL (ky_lR hG.2.2.2)))))))))))
    | 54, _ => (ky_lL (ky_lR (ky_lR (ky_lR (ky_lR (ky_lL (ky_lL (ky_lR (ky_lL (ky_lL (ky_lR hG.2.2.2)))))))))))
    | 55, _ => (ky_lR (ky_lR (ky_lR (ky_lR (ky_lR (ky_lL (ky_lL (ky_lR (ky_lL (ky_lL (ky_lR hG.2.2.2)))))))))))
    | 56, _ => (ky_lL (ky_lL (ky_lL (ky_lL (ky_lR (ky_lL (ky_lR (ky_lL (ky_lL (ky_lR hG.2.2.2))))))))))
    | 57, _ => (ky_lL (ky_lR (ky_lL (ky_lL (ky_lL (ky_lR (ky_lL (ky_lR (ky_lL (ky_lL (ky_lR hG.2.2.2)))))))))))
    | 58, _ => (ky_lR (ky_lR (ky_lL (ky_lL (ky_lL (ky_lR (ky_lL (ky_lR (ky_lL (ky_lL (ky_lR hG.2.2.2)))))))))))
    | 59, _ => (ky_lL (ky_lL (ky_lR (ky_lL (ky_lL (ky_lR (ky_lL (ky_lR (ky_lL (ky_lL (ky_lR hG.2.2.2)))))))))))
    | 60, _ => (ky_lR (ky_lL (ky_lR (ky_lL (ky_lL (ky_lR (ky_lL (ky_lR (ky_lL (ky_lL (ky_lR hG.2.2.2)))))))))))
    | 61, _ => (ky_lL (ky_lR (ky_lR (ky_lL (ky_lL (ky_lR (ky_lL (ky_lR (ky_lL (ky_lL (ky_lR hG.2.2.2)))))))))))
    | 62, _ => (ky_lR (ky_lR (ky_lR (ky_lL (ky_lL (ky_lR (ky_lL (ky_lR (ky_lL (ky_lL (ky_lR hG.2.2.2)))))))))))
    | 63, _ => (ky_lL (ky_lL (ky_lL (ky_lR (ky_lL (ky_lR (ky_lL (ky_lR (ky_lL (ky_lL (ky_lR hG.2.2.2)))))))))))
    | 64, _ => (ky_lR (ky_lL (ky_lL (ky_lR (ky_lL (ky_lR (ky_lL (ky_lR (ky_lL (ky_lL (ky_lR hG.2.2.2)))))))))))
    | 65, _ => (ky_lL (ky_lR (ky_lL (ky_lR (ky_lL (ky_lR (ky_lL (ky_lR (ky_lL (ky_lL (ky_lR hG.2.2.2)))))))))))
    | 66, _ => (ky_lR (ky_lR (ky_lL (ky_lR (ky_lL (ky_lR (ky_lL (ky_lR (ky_lL (ky_lL (ky_lR hG.2.2.2)))))))))))
    | 67, _ => (ky_lL (ky_lL (ky_lR (ky_lR (ky_lL (ky_lR (ky_lL (ky_lR (ky_lL (ky_lL (ky_lR hG.2.2.2)))))))))))
    | 68, _ => (ky_lR (ky_lL (ky_lR (ky_lR (ky_lL (ky_lR (ky_lL (ky_lR (ky_lL (ky_lL (ky_lR hG.2.2.2)))))))))))
    | 69, _ => (ky_lL (ky_lR (ky_lR (ky_lR (ky_lL (ky_lR (ky_lL (ky_lR (ky_lL (ky_lL (ky_lR hG.2.2.2)))))))))))
    | 70, _ => (ky_lR (ky_lR (ky_lR (ky_lR (ky_lL (ky_lR (ky_lL (ky_lR (ky_lL (ky_lL (ky_lR hG.2.2.2)))))))))))
    | j + 71, h => absurd h (by omega)
  obtain ⟨adK, adV, hS, hA⟩ := vk_Sof (N := 1) (tm := fun _ => .string "WaistSand$BeachReader" 42) (len := [71]) (byt := [[108, 101, 103, 115, 32, 116, 104, 105, 110, 32, 99, 97, 108, 109, 32, 119, 97, 116, 101, 114, 32, 116, 105, 100, 101, 32, 115, 108, 105, 112, 32, 109, 111, 118, 101, 32, 98, 101, 97, 114, 115, 32, 104, 101, 97, 112, 32, 115, 104, 105, 110, 101, 32, 104, 111, 108, 101, 32, 98, 111, 97, 114, 100, 115, 32, 112, 101, 114, 115, 111, 110]]) (A := ky_A G) (fun i hi => by rw [show i = 0 by omega]; decide) (fun i hi => (ky_lL (ky_lL (ky_lL (ky_lL (ky_lR (ky_lR (ky_lL (ky_lL (ky_lL (ky_lR hG.2.2.2))))))))))) (fun i hi => (ky_lL (ky_lR (ky_lL (ky_lL (ky_lL (ky_lR (ky_lR (ky_lL (ky_lL (ky_lL (ky_lR hG.2.2.2)))))))))))) (fun i hi => (ky_lR (ky_lR (ky_lL (ky_lL (ky_lL (ky_lR (ky_lR (ky_lL (ky_lL (ky_lL (ky_lR hG.2.2.2)))))))))))) (fun i hi => by rw [show i = 0 by omega]; exact (ky_lL (ky_lL (ky_lR (ky_lL (ky_lL (ky_lR (ky_lR (ky_lL (ky_lL (ky_lL (ky_lR hG.2.2.2)))))))))))) (fun i hi j hj => by rw [show i = 0 by omega] at hj ⊢; exact hel j hj) (fun i j hi hj hij => absurd (by omega) hij) (ky_noA G)
  refine ⟨adK 0, vk_R.of (hG.1 _ (List.mem_append_right _ (List.mem_append_right _ (List.mem_append_right _ (List.mem_append_left _ (List.mem_of_getElem? (i := 199) rfl)))))) (hA 0 (by decide)), adV 0, ?_⟩
  exact hS.1 0 (by decide)
set_option maxRecDepth 100000 in
set_option maxHeartbeats 4000000 in
theorem sg_X0_64 {G : ky_GW} (hG : ky_OK G) : ∃ s, vk_R RX0 64 "up" s G.2.1 ∧ ky_Str G s [117, 112] := by
  have hel : ∀ j : Nat, j < 2 → (Cond.eq (.elem (.field (.string "WaistSand$BeachReader" 64) "java/lang/String" "value" "[B") (.int (Int32.ofNat j))) (.int (([117, 112] : List Int32).getD j 0))).before G.2.2.1 G.2.1 = true := fun j hj => match j, hj with
    | 0, _ => (ky_lR (ky_lL (ky_lR (ky_lL (ky_lR (ky_lR (ky_lL (ky_lR (ky_lL (ky_lL (ky_lR hG.2.2.2)))))))))))
    | 1, _ => (ky_lL (ky_lR (ky_lR (ky_lL (ky_lR (ky_lR (ky_lL (ky_lR (ky_lL (ky_lL (ky_lR hG.2.2.2)))))))))))
    | j + 2, h => absurd h (by omega)
  obtain ⟨adK, adV, hS, hA⟩ := vk_Sof (N := 1) (tm := fun _ => .string "WaistSand$BeachReader" 64) (len := [2]) (byt := [[117, 112]]) (A := ky_A G) (fun i hi => by rw [show i = 0 by omega]; decide) (fun i hi => (ky_lL (ky_lL (ky_lL (ky_lR (ky_lR (ky_lL (ky_lR (ky_lL (ky_lL (ky_lR hG.2.2.2))))))))))) (fun i hi => (ky_lL (ky_lR (ky_lL (ky_lL (ky_lR (ky_lR (ky_lL (ky_lR (ky_lL (ky_lL (ky_lR hG.2.2.2)))))))))))) (fun i hi => (ky_lR (ky_lR (ky_lL (ky_lL (ky_lR (ky_lR (ky_lL (ky_lR (ky_lL (ky_lL (ky_lR hG.2.2.2)))))))))))) (fun i hi => by rw [show i = 0 by omega]; exact (ky_lL (ky_lL (ky_lR (ky_lL (ky_lR (ky_lR (ky_lL (ky_lR (ky_lL (ky_lL (ky_lR hG.2.2.2)))))))))))) (fun i hi j hj => by rw [show i = 0 by omega] at hj ⊢; exact hel j hj) (fun i j hi hj hij => absurd (by omega) hij) (ky_noA G)
  refine ⟨adK 0, vk_R.of (hG.1 _ (List.mem_append_right _ (List.mem_append_right _ (List.mem_append_right _ (List.mem_append_right _ (List.mem_append_left _ (List.mem_of_getElem? (i := 36) rfl))))))) (hA 0 (by decide)), adV 0, ?_⟩
  exact hS.1 0 (by decide)
set_option maxRecDepth 100000 in
set_option maxHeartbeats 4000000 in
theorem sg_X0_70 {G : ky_GW} (hG : ky_OK G) : ∃ s, vk_R RX0 70 "down" s G.2.1 ∧ ky_Str G s [100, 111, 119, 110] := by
  have hel : ∀ j : Nat, j < 4 → (Cond.eq (.elem (.field (.string "WaistSand$BeachReader" 70) "java/lang/String" "value" "[B") (.int (Int32.ofNat j))) (.int (([100, 111, 119, 110] : List Int32).getD j 0))).before G.2.2.1 G.2.1 = true := fun j hj => match j, hj with
    | 0, _ => (ky_lR (ky_lR (ky_lL (ky_lR (ky_lR (ky_lR (ky_lL (ky_lR (ky_lL (ky_lL (ky_lR hG.2.2.2)))))))))))
    | 1, _ => (ky_lL (ky_lL (ky_lR (ky_lR (ky_lR (ky_lR (ky_lL (ky_lR (ky_lL (ky_lL (ky_lR hG.2.2.2)))))))))))
    | 2, _ => (ky_lR (ky_lL (ky_lR (ky_lR (ky_lR (ky_lR (ky_lL (ky_lR (ky_lL (ky_lL (ky_lR hG.2.2.2)))))))))))
    | 3, _ => (ky_lL (ky_lR (ky_lR (ky_lR (ky_lR (ky_lR (ky_lL (ky_lR (ky_lL (ky_lL (ky_lR hG.2.2.2)))))))))))
    | j + 4, h => absurd h (by omega)
  obtain ⟨adK, adV, hS, hA⟩ := vk_Sof (N := 1) (tm := fun _ => .string "WaistSand$BeachReader" 70) (len := [4]) (byt := [[100, 111, 119, 110]]) (A := ky_A G) (fun i hi => by rw [show i = 0 by omega]; decide) (fun i hi => (ky_lR (ky_lR (ky_lR (ky_lL (ky_lR (ky_lR (ky_lL (ky_lR (ky_lL (ky_lL (ky_lR hG.2.2.2)))))))))))) (fun i hi => (ky_lL (ky_lL (ky_lL (ky_lR (ky_lR (ky_lR (ky_lL (ky_lR (ky_lL (ky_lL (ky_lR hG.2.2.2)))))))))))) (fun i hi => (ky_lR (ky_lL (ky_lL (ky_lR (ky_lR (ky_lR (ky_lL (ky_lR (ky_lL (ky_lL (ky_lR hG.2.2.2)))))))))))) (fun i hi => by rw [show i = 0 by omega]; exact (ky_lL (ky_lR (ky_lL (ky_lR (ky_lR (ky_lR (ky_lL (ky_lR (ky_lL (ky_lL (ky_lR hG.2.2.2)))))))))))) (fun i hi j hj => by rw [show i = 0 by omega] at hj ⊢; exact hel j hj) (fun i j hi hj hij => absurd (by omega) hij) (ky_noA G)
  refine ⟨adK 0, vk_R.of (hG.1 _ (List.mem_append_right _ (List.mem_append_right _ (List.mem_append_right _ (List.mem_append_right _ (List.mem_append_left _ (List.mem_of_getElem? (i := 42) rfl))))))) (hA 0 (by decide)), adV 0, ?_⟩
  exact hS.1 0 (by decide)
set_option maxRecDepth 100000 in
set_option maxHeartbeats 4000000 in
theorem sg_X0_72 {G : ky_GW} (hG : ky_OK G) : ∃ s, vk_R RX0 72 "stirs" s G.2.1 ∧ ky_Str G s [115, 116, 105, 114, 115] := by
  have hel : ∀ j : Nat, j < 5 → (Cond.eq (.elem (.field (.string "WaistSand$BeachReader" 72) "java/lang/String" "value" "[B") (.int (Int32.ofNat j))) (.int (([115, 116, 105, 114, 115] : List Int32).getD j 0))).before G.2.2.1 G.2.1 = true := fun j hj => match j, hj with
    | 0, _ => (ky_lL (ky_lL (ky_lR (ky_lL (ky_lL (ky_lL (ky_lR (ky_lR (ky_lL (ky_lL (ky_lR hG.2.2.2)))))))))))
    | 1, _ => (ky_lR (ky_lL (ky_lR (ky_lL (ky_lL (ky_lL (ky_lR (ky_lR (ky_lL (ky_lL (ky_lR hG.2.2.2)))))))))))
    | 2, _ => (ky_lL (ky_lR (ky_lR (ky_lL (ky_lL (ky_lL (ky_lR (ky_lR (ky_lL (ky_lL (ky_lR hG.2.2.2)))))))))))
    | 3, _ => (ky_lR (ky_lR (ky_lR (ky_lL (ky_lL (ky_lL (ky_lR (ky_lR (ky_lL (ky_lL (ky_lR hG.2.2.2)))))))))))
    | 4, _ => (ky_lL (ky_lL (ky_lL (ky_lR (ky_lL (ky_lL (ky_lR (ky_lR (ky_lL (ky_lL (ky_lR hG.2.2.2)))))))))))
    | j + 5, h => absurd h (by omega)
  obtain ⟨adK, adV, hS, hA⟩ := vk_Sof (N := 1) (tm := fun _ => .string "WaistSand$BeachReader" 72) (len := [5]) (byt := [[115, 116, 105, 114, 115]]) (A := ky_A G) (fun i hi => by rw [show i = 0 by omega]; decide) (fun i hi => (ky_lR (ky_lR (ky_lR (ky_lR (ky_lR (ky_lR (ky_lL (ky_lR (ky_lL (ky_lL (ky_lR hG.2.2.2)))))))))))) (fun i hi => (ky_lL (ky_lL (ky_lL (ky_lL (ky_lL (ky_lR (ky_lR (ky_lL (ky_lL (ky_lR hG.2.2.2))))))))))) (fun i hi => (ky_lL (ky_lR (ky_lL (ky_lL (ky_lL (ky_lL (ky_lR (ky_lR (ky_lL (ky_lL (ky_lR hG.2.2.2)))))))))))) (fun i hi => by rw [show i = 0 by omega]; exact (ky_lR (ky_lR (ky_lL (ky_lL (ky_lL (ky_lL (ky_lR (ky_lR (ky_lL (ky_lL (ky_lR hG.2.2.2)))))))))))) (fun i hi j hj => by rw [show i = 0 by omega] at hj ⊢; exact hel j hj) (fun i j hi hj hij => absurd (by omega) hij) (ky_noA G)
  refine ⟨adK 0, vk_R.of (hG.1 _ (List.mem_append_right _ (List.mem_append_right _ (List.mem_append_right _ (List.mem_append_right _ (List.mem_append_left _ (List.mem_of_getElem? (i := 43) rfl))))))) (hA 0 (by decide)), adV 0, ?_⟩
  exact hS.1 0 (by decide)
set_option maxRecDepth 100000 in
set_option maxHeartbeats 4000000 in
theorem sg_X0_74 {G : ky_GW} (hG : ky_OK G) : ∃ s, vk_R RX0 74 "takes" s G.2.1 ∧ ky_Str G s [116, 97, 107, 101, 115] := by
  have hel : ∀ j : Nat, j < 5 → (Cond.eq (.elem (.field (.string "WaistSand$BeachReader" 74) "java/lang/String" "value" "[B") (.int (Int32.ofNat j))) (.int (([116, 97, 107, 101, 115] : List Int32).getD j 0))).before G.2.2.1 G.2.1 = true := fun j hj => match j, hj with
    | 0, _ => (ky_lR (ky_lL (ky_lR (ky_lR (ky_lL (ky_lL (ky_lR (ky_lR (ky_lL (ky_lL (ky_lR hG.2.2.2)))))))))))
    | 1, _ => (ky_lL (ky_lR (ky_lR (ky_lR (ky_lL (ky_lL (ky_lR (ky_lR (ky_lL (ky_lL (ky_lR hG.2.2.2)))))))))))
    | 2, _ => (ky_lR (ky_lR (ky_lR (ky_lR (ky_lL (ky_lL (ky_lR (ky_lR (ky_lL (ky_lL (ky_lR hG.2.2.2)))))))))))
    | 3, _ => (ky_lL (ky_lL (ky_lL (ky_lR (ky_lL (ky_lR (ky_lR (ky_lL (ky_lL (ky_lR hG.2.2.2))))))))))
    | 4, _ => (ky_lL (ky_lR (ky_lL (ky_lL (ky_lR (ky_lL (ky_lR (ky_lR (ky_lL (ky_lL (ky_lR hG.2.2.2)))))))))))
    | j + 5, h => absurd h (by omega)
  obtain ⟨adK, adV, hS, hA⟩ := vk_Sof (N := 1) (tm := fun _ => .string "WaistSand$BeachReader" 74) (len := [5]) (byt := [[116, 97, 107, 101, 115]]) (A := ky_A G) (fun i hi => by rw [show i = 0 by omega]; decide) (fun i hi => (ky_lR (ky_lL (ky_lL (ky_lR (ky_lL (ky_lL (ky_lR (ky_lR (ky_lL (ky_lL (ky_lR hG.2.2.2)))))))))))) (fun i hi => (ky_lL (ky_lR (ky_lL (ky_lR (ky_lL (ky_lL (ky_lR (ky_lR (ky_lL (ky_lL (ky_lR hG.2.2.2)))))))))))) (fun i hi => (ky_lR (ky_lR (ky_lL (ky_lR (ky_lL (ky_lL (ky_lR (ky_lR (ky_lL (ky_lL (ky_lR hG.2.2.2)))))))))))) (fun i hi => by rw [show i = 0 by omega]; exact (ky_lL (ky_lL (ky_lR (ky_lR (ky_lL (ky_lL (ky_lR (ky_lR (ky_lL (ky_lL (ky_lR hG.2.2.2)))))))))))) (fun i hi j hj => by rw [show i = 0 by omega] at hj ⊢; exact hel j hj) (fun i j hi hj hij => absurd (by omega) hij) (ky_noA G)
  refine ⟨adK 0, vk_R.of (hG.1 _ (List.mem_append_right _ (List.mem_append_right _ (List.mem_append_right _ (List.mem_append_right _ (List.mem_append_left _ (List.mem_of_getElem? (i := 44) rfl))))))) (hA 0 (by decide)), adV 0, ?_⟩
  exact hS.1 0 (by decide)
set_option maxRecDepth 100000 in
set_option maxHeartbeats 4000000 in
theorem sg_X0_79 {G : ky_GW} (hG : ky_OK G) : ∃ s, vk_R RX0 79 "at" s G.2.1 ∧ ky_Str G s [97, 116] := by
  have hel : ∀ j : Nat, j < 2 → (Cond.eq (.elem (.field (.string "WaistSand$BeachReader" 79) "java/lang/String" "value" "[B") (.int (Int32.ofNat j))) (.int (([97, 116] : List Int32).getD j 0))).before G.2.2.1 G.2.1 = true := fun j hj => match j, hj with
    | 0, _ => (ky_lR (ky_lR (ky_lR (ky_lL (ky_lR (ky_lL (ky_lR (ky_lR (ky_lL (ky_lL (ky_lR hG.2.2.2)))))))))))
    | 1, _ => (ky_lL (ky_lL (ky_lL (ky_lR (ky_lR (ky_lL (ky_lR (ky_lR (ky_lL (ky_lL (ky_lR hG.2.2.2)))))))))))
    | j + 2, h => absurd h (by omega)
  obtain ⟨adK, adV, hS, hA⟩ := vk_Sof (N := 1) (tm := fun _ => .string "WaistSand$BeachReader" 79) (len := [2]) (byt := [[97, 116]]) (A := ky_A G) (fun i hi => by rw [show i = 0 by omega]; decide) (fun i hi => (ky_lR (ky_lR (ky_lL (ky_lL (ky_lR (ky_lL (ky_lR (ky_lR (ky_lL (ky_lL (ky_lR hG.2.2.2)))))))))))) (fun i hi => (ky_lL (ky_lL (ky_lR (ky_lL (ky_lR (ky_lL (ky_lR (ky_lR (ky_lL (ky_lL (ky_lR hG.2.2.2)))))))))))) (fun i hi => (ky_lR (ky_lL (ky_lR (ky_lL (ky_lR (ky_lL (ky_lR (ky_lR (ky_lL (ky_lL (ky_lR hG.2.2.2)))))))))))) (fun i hi => by rw [show i = 0 by omega]; exact (ky_lL (ky_lR (ky_lR (ky_lL (ky_lR (ky_lL (ky_lR (ky_lR (ky_lL (ky_lL (ky_lR hG.2.2.2)))))))))))) (fun i hi j hj => by rw [show i = 0 by omega] at hj ⊢; exact hel j hj) (fun i j hi hj hij => absurd (by omega) hij) (ky_noA G)
  refine ⟨adK 0, vk_R.of (hG.1 _ (List.mem_append_right _ (List.mem_append_right _ (List.mem_append_right _ (List.mem_append_right _ (List.mem_append_left _ (List.mem_of_getElem? (i := 49) rfl))))))) (hA 0 (by decide)), adV 0, ?_⟩
  exact hS.1 0 (by decide)
set_option maxRecDepth 100000 in
set_option maxHeartbeats 4000000 in
theorem sg_X11_82 {G : ky_GW} (hG : ky_OK G) : ∃ s, vk_R RX11 82 "the text is wrong" s G.2.1 ∧ ky_Str G s [116, 104, 101, 32, 116, 101, 120, 116, 32, 105, 115, 32, 119, 114, 111, 110, 103] := by
  have hel : ∀ j : Nat, j < 17 → (Cond.eq (.elem (.field (.string "WaistSand" 82) "java/lang/String" "value" "[B") (.int (Int32.ofNat j))) (.int (([116, 104, 101, 32, 116, 101, 120, 116, 32, 105, 115, 32, 119, 114, 111, 110, 103] : List Int32).getD j 0))).before G.2.2.1 G.2.1 = true := fun j hj => match j, hj with
    | 0, _ => (ky_lR (ky_lL (ky_lR (ky_lR (ky_lR (ky_lL (ky_lR (ky_lR (ky_lL (ky_lL (ky_lR hG.2.2.2)))))))))))
    | 1, _ => (ky_lL (ky_lR (ky_lR (ky_lR (ky_lR (ky_lL (ky_lR (ky_lR (ky_lL (ky_lL (ky_lR hG.2.2.2)))))))))))
    | 2, _ => (ky_lR (ky_lR (ky_lR (ky_lR (ky_lR (ky_lL (ky_lR (ky_lR (ky_lL (ky_lL (ky_lR hG.2.2.2)))))))))))
    | 3, _ => (ky_lL (ky_lL (ky_lL (ky_lL (ky_lR (ky_lR (ky_lR (ky_lL (ky_lL (ky_lR hG.2.2.2))))))))))
    | 4, _ => (ky_lL (ky_lR (ky_lL (ky_lL (ky_lL (ky_lR (ky_lR (ky_lR (ky_lL (ky_lL (ky_lR hG.2.2.2)))))))))))
    | 5, _ => (ky_lR (ky_lR (ky_lL (ky_lL (ky_lL (ky_lR (ky_lR (ky_lR (ky_lL (ky_lL (ky_lR hG.2.2.2)))))))))))
    | 6, _ => (ky_lL (ky_lL (ky_lR (ky_lL (ky_lL (ky_lR (ky_lR (ky_lR (ky_lL (ky_lL (ky_lR hG.2.2.2)))))))))))
    | 7, _ => (ky_lR (ky_lL (ky_lR (ky_lL (ky_lL (ky_lR (ky_lR (ky_lR (ky_lL (ky_lL (ky_lR hG.2.2.2)))))))))))
    | 8, _ => (ky_lL (ky_lR (ky_lR (ky_lL (ky_lL (ky_lR (ky_lR (ky_lR (ky_lL (ky_lL (ky_lR hG.2.2.2)))))))))))
    | 9, _ => (ky_lR (ky_lR (ky_lR (ky_lL (ky_lL (ky_lR (ky_lR (ky_lR (ky_lL (ky_lL (ky_lR hG.2.2.2)))))))))))
    | 10, _ => (ky_lL (ky_lL (ky_lL (ky_lR (ky_lL (ky_lR (ky_lR (ky_lR (ky_lL (ky_lL (ky_lR hG.2.2.2)))))))))))
    | 11, _ => (ky_lR (ky_lL (ky_lL (ky_lR (ky_lL (ky_lR (ky_lR (ky_lR (ky_lL (ky_lL (ky_lR hG.2.2.2)))))))))))
    | 12, _ => (ky_lL (ky_lR (ky_lL (ky_lR (ky_lL (ky_lR (ky_lR (ky_lR (ky_lL (ky_lL (ky_lR hG.2.2.2)))))))))))
    | 13, _ => (ky_lR (ky_lR (ky_lL (ky_lR (ky_lL (ky_lR (ky_lR (ky_lR (ky_lL (ky_lL (ky_lR hG.2.2.2)))))))))))
    | 14, _ => (ky_lL (ky_lL (ky_lR (ky_lR (ky_lL (ky_lR (ky_lR (ky_lR (ky_lL (ky_lL (ky_lR hG.2.2.2)))))))))))
    | 15, _ => (ky_lR (ky_lL (ky_lR (ky_lR (ky_lL (ky_lR (ky_lR (ky_lR (ky_lL (ky_lL (ky_lR hG.2.2.2)))))))))))
    | 16, _ => (ky_lL (ky_lR (ky_lR (ky_lR (ky_lL (ky_lR (ky_lR (ky_lR (ky_lL (ky_lL (ky_lR hG.2.2.2)))))))))))
    | j + 17, h => absurd h (by omega)
  obtain ⟨adK, adV, hS, hA⟩ := vk_Sof (N := 1) (tm := fun _ => .string "WaistSand" 82) (len := [17]) (byt := [[116, 104, 101, 32, 116, 101, 120, 116, 32, 105, 115, 32, 119, 114, 111, 110, 103]]) (A := ky_A G) (fun i hi => by rw [show i = 0 by omega]; decide) (fun i hi => (ky_lR (ky_lL (ky_lL (ky_lR (ky_lR (ky_lL (ky_lR (ky_lR (ky_lL (ky_lL (ky_lR hG.2.2.2)))))))))))) (fun i hi => (ky_lL (ky_lR (ky_lL (ky_lR (ky_lR (ky_lL (ky_lR (ky_lR (ky_lL (ky_lL (ky_lR hG.2.2.2)))))))))))) (fun i hi => (ky_lR (ky_lR (ky_lL (ky_lR (ky_lR (ky_lL (ky_lR (ky_lR (ky_lL (ky_lL (ky_lR hG.2.2.2)))))))))))) (fun i hi => by rw [show i = 0 by omega]; exact (ky_lL (ky_lL (ky_lR (ky_lR (ky_lR (ky_lL (ky_lR (ky_lR (ky_lL (ky_lL (ky_lR hG.2.2.2)))))))))))) (fun i hi j hj => by rw [show i = 0 by omega] at hj ⊢; exact hel j hj) (fun i j hi hj hij => absurd (by omega) hij) (ky_noA G)
  refine ⟨adK 0, vk_R.of (hG.1 _ (List.mem_append_right _ (List.mem_append_right _ (List.mem_append_right _ (List.mem_append_right _ (List.mem_append_left _ (List.mem_of_getElem? (i := 101) rfl))))))) (hA 0 (by decide)), adV 0, ?_⟩
  exact hS.1 0 (by decide)
set_option maxRecDepth 100000 in
set_option maxHeartbeats 4000000 in
theorem sg_X11_92 {G : ky_GW} (hG : ky_OK G) : ∃ s, vk_R RX11 92 "there are 12 texts" s G.2.1 ∧ ky_Str G s [116, 104, 101, 114, 101, 32, 97, 114, 101, 32, 49, 50, 32, 116, 101, 120, 116, 115] := by
  have hel : ∀ j : Nat, j < 18 → (Cond.eq (.elem (.field (.string "WaistSand" 92) "java/lang/String" "value" "[B") (.int (Int32.ofNat j))) (.int (([116, 104, 101, 114, 101, 32, 97, 114, 101, 32, 49, 50, 32, 116, 101, 120, 116, 115] : List Int32).getD j 0))).before G.2.2.1 G.2.1 = true := fun j hj => match j, hj with
    | 0, _ => (ky_lL (ky_lL (ky_lR (ky_lL (ky_lR (ky_lR (ky_lR (ky_lR (ky_lL (ky_lL (ky_lR hG.2.2.2)))))))))))
    | 1, _ => (ky_lR (ky_lL (ky_lR (ky_lL (ky_lR (ky_lR (ky_lR (ky_lR (ky_lL (ky_lL (ky_lR hG.2.2.2)))))))))))
    | 2, _ => (ky_lL (ky_lR (ky_lR (ky_lL (ky_lR (ky_lR (ky_lR (ky_lR (ky_lL (ky_lL (ky_lR hG.2.2.2)))))))))))
    | 3, _ => (ky_lR (ky_lR (ky_lR (ky_lL (ky_lR (ky_lR (ky_lR (ky_lR (ky_lL (ky_lL (ky_lR hG.2.2.2)))))))))))
    | 4, _ => (ky_lL (ky_lL (ky_lL (ky_lR (ky_lR (ky_lR (ky_lR (ky_lR (ky_lL (ky_lL (ky_lR hG.2.2.2)))))))))))
    | 5, _ => (ky_lR (ky_lL (ky_lL (ky_lR (ky_lR (ky_lR (ky_lR (ky_lR (ky_lL (ky_lL (ky_lR hG.2.2.2)))))))))))
    | 6, _ => (ky_lL (ky_lR (ky_lL (ky_lR (ky_lR (ky_lR (ky_lR (ky_lR (ky_lL (ky_lL (ky_lR hG.2.2.2)))))))))))
    | 7, _ => (ky_lR (ky_lR (ky_lL (ky_lR (ky_lR (ky_lR (ky_lR (ky_lR (ky_lL (ky_lL (ky_lR hG.2.2.2)))))))))))
    | 8, _ => (ky_lL (ky_lL (ky_lR (ky_lR (ky_lR (ky_lR (ky_lR (ky_lR (ky_lL (ky_lL (ky_lR hG.2.2.2)))))))))))
    | 9, _ => (ky_lR (ky_lL (ky_lR (ky_lR (ky_lR (ky_lR (ky_lR (ky_lR (ky_lL (ky_lL (ky_lR hG.2.2.2)))))))))))
    | 10, _ => (ky_lL (ky_lR (ky_lR (ky_lR (ky_lR (ky_lR (ky_lR (ky_lR (ky_lL (ky_lL (ky_lR hG.2.2.2)))))))))))
    | 11, _ => (ky_lR (ky_lR (ky_lR (ky_lR (ky_lR (ky_lR (ky_lR (ky_lR (ky_lL (ky_lL (ky_lR hG.2.2.2)))))))))))
    | 12, _ => (ky_lL (ky_lL (ky_lL (ky_lL (ky_lL (ky_lL (ky_lL (ky_lR (ky_lL (ky_lR hG.2.2.2))))))))))
    | 13, _ => (ky_lL (ky_lR (ky_lL (ky_lL (ky_lL (ky_lL (ky_lL (ky_lL (ky_lR (ky_lL (ky_lR hG.2.2.2)))))))))))
    | 14, _ => (ky_lR (ky_lR (ky_lL (ky_lL (ky_lL (ky_lL (ky_lL (ky_lL (ky_lR (ky_lL (ky_lR hG.2.2.2)))))))))))
    | 15, _ => (ky_lL (ky_lL (ky_lR (ky_lL (ky_lL (ky_lL (ky_lL (ky_lL (ky_lR (ky_lL (ky_lR hG.2.2.2)))))))))))
    | 16, _ => (ky_lR (ky_lL (ky_lR (ky_lL (ky_lL (ky_lL (ky_lL (ky_lL (ky_lR (ky_lL (ky_lR hG.2.2.2)))))))))))
    | 17, _ => (ky_lL (ky_lR (ky_lR (ky_lL (ky_lL (ky_lL (ky_lL (ky_lL (ky_lR (ky_lL (ky_lR hG.2.2.2)))))))))))
    | j + 18, h => absurd h (by omega)
  obtain ⟨adK, adV, hS, hA⟩ := vk_Sof (N := 1) (tm := fun _ => .string "WaistSand" 92) (len := [18]) (byt := [[116, 104, 101, 114, 101, 32, 97, 114, 101, 32, 49, 50, 32, 116, 101, 120, 116, 115]]) (A := ky_A G) (fun i hi => by rw [show i = 0 by omega]; decide) (fun i hi => (ky_lR (ky_lR (ky_lR (ky_lR (ky_lL (ky_lR (ky_lR (ky_lR (ky_lL (ky_lL (ky_lR hG.2.2.2)))))))))))) (fun i hi => (ky_lL (ky_lL (ky_lL (ky_lR (ky_lR (ky_lR (ky_lR (ky_lL (ky_lL (ky_lR hG.2.2.2))))))))))) (fun i hi => (ky_lL (ky_lR (ky_lL (ky_lL (ky_lR (ky_lR (ky_lR (ky_lR (ky_lL (ky_lL (ky_lR hG.2.2.2)))))))))))) (fun i hi => by rw [show i = 0 by omega]; exact (ky_lR (ky_lR (ky_lL (ky_lL (ky_lR (ky_lR (ky_lR (ky_lR (ky_lL (ky_lL (ky_lR hG.2.2.2)))))))))))) (fun i hi j hj => by rw [show i = 0 by omega] at hj ⊢; exact hel j hj) (fun i j hi hj hij => absurd (by omega) hij) (ky_noA G)
  refine ⟨adK 0, vk_R.of (hG.1 _ (List.mem_append_right _ (List.mem_append_right _ (List.mem_append_right _ (List.mem_append_right _ (List.mem_append_left _ (List.mem_of_getElem? (i := 136) rfl))))))) (hA 0 (by decide)), adV 0, ?_⟩
  exact hS.1 0 (by decide)
set_option maxRecDepth 100000 in
set_option maxHeartbeats 4000000 in
theorem sg_X4_62 {G : ky_GW} (hG : ky_OK G) : ∃ s, vk_R RX4 62 "up down stir settle" s G.2.1 ∧ ky_Str G s [117, 112, 32, 100, 111, 119, 110, 32, 115, 116, 105, 114, 32, 115, 101, 116, 116, 108, 101] := by
  have hel : ∀ j : Nat, j < 19 → (Cond.eq (.elem (.field (.string "WaistSand$LawReader" 62) "java/lang/String" "value" "[B") (.int (Int32.ofNat j))) (.int (([117, 112, 32, 100, 111, 119, 110, 32, 115, 116, 105, 114, 32, 115, 101, 116, 116, 108, 101] : List Int32).getD j 0))).before G.2.2.1 G.2.1 = true := fun j hj => match j, hj with
    | 0, _ => (ky_lR (ky_lR (ky_lL (ky_lR (ky_lL (ky_lL (ky_lL (ky_lL (ky_lR (ky_lL (ky_lR hG.2.2.2)))))))))))
    | 1, _ => (ky_lL (ky_lL (ky_lR (ky_lR (ky_lL (ky_lL (ky_lL (ky_lL (ky_lR (ky_lL (ky_lR hG.2.2.2)))))))))))
    | 2, _ => (ky_lR (ky_lL (ky_lR (ky_lR (ky_lL (ky_lL (ky_lL (ky_lL (ky_lR (ky_lL (ky_lR hG.2.2.2)))))))))))
    | 3, _ => (ky_lL (ky_lR (ky_lR (ky_lR (ky_lL (ky_lL (ky_lL (ky_lL (ky_lR (ky_lL (ky_lR hG.2.2.2)))))))))))
    | 4, _ => (ky_lR (ky_lR (ky_lR (ky_lR (ky_lL (ky_lL (ky_lL (ky_lL (ky_lR (ky_lL (ky_lR hG.2.2.2)))))))))))
    | 5, _ => (ky_lL (ky_lL (ky_lL (ky_lR (ky_lL (ky_lL (ky_lL (ky_lR (ky_lL (ky_lR hG.2.2.2))))))))))
    | 6, _ => (ky_lL (ky_lR (ky_lL (ky_lL (ky_lR (ky_lL (ky_lL (ky_lL (ky_lR (ky_lL (ky_lR hG.2.2.2)))))))))))
    | 7, _ => (ky_lR (ky_lR (ky_lL (ky_lL (ky_lR (ky_lL (ky_lL (ky_lL (ky_lR (ky_lL (ky_lR hG.2.2.2)))))))))))
    | 8, _ => (ky_lL (ky_lL (ky_lR (ky_lL (ky_lR (ky_lL (ky_lL (ky_lL (ky_lR (ky_lL (ky_lR hG.2.2.2)))))))))))
    | 9, _ => (ky_lR (ky_lL (ky_lR (ky_lL (ky_lR (ky_lL (ky_lL (ky_lL (ky_lR (ky_lL (ky_lR hG.2.2.2)))))))))))
    | 10, _ => (ky_lL (ky_lR (ky_lR (ky_lL (ky_lR (ky_lL (ky_lL (ky_lL (ky_lR (ky_lL (ky_lR hG.2.2.2)))))))))))
    | 11, _ => (ky_lR (ky_lR (ky_lR (ky_lL (ky_lR (ky_lL (ky_lL (ky_lL (ky_lR (ky_lL (ky_lR hG.2.2.2)))))))))))
    | 12, _ => (ky_lL (ky_lL (ky_lL (ky_lR (ky_lR (ky_lL (ky_lL (ky_lL (ky_lR (ky_lL (ky_lR hG.2.2.2)))))))))))
    | 13, _ => (ky_lR (ky_lL (ky_lL (ky_lR (ky_lR (ky_lL (ky_lL (ky_lL (ky_lR (ky_lL (ky_lR hG.2.2.2)))))))))))
    | 14, _ => (ky_lL (ky_lR (ky_lL (ky_lR (ky_lR (ky_lL (ky_lL (ky_lL (ky_lR (ky_lL (ky_lR hG.2.2.2)))))))))))
    | 15, _ => (ky_lR (ky_lR (ky_lL (ky_lR (ky_lR (ky_lL (ky_lL (ky_lL (ky_lR (ky_lL (ky_lR hG.2.2.2)))))))))))
    | 16, _ => (ky_lL (ky_lL (ky_lR (ky_lR (ky_lR (ky_lL (ky_lL (ky_lL (ky_lR (ky_lL (ky_lR hG.2.2.2)))))))))))
    | 17, _ => (ky_lR (ky_lL (ky_lR (ky_lR (ky_lR (ky_lL (ky_lL (ky_lL (ky_lR (ky_lL (ky_lR hG.2.2.2)))))))))))
    | 18, _ => (ky_lL (ky_lR (ky_lR (ky_lR (ky_lR (ky_lL (ky_lL (ky_lL (ky_lR (ky_lL (ky_lR hG.2.2.2)))))))))))
    | j + 19, h => absurd h (by omega)
  obtain ⟨adK, adV, hS, hA⟩ := vk_Sof (N := 1) (tm := fun _ => .string "WaistSand$LawReader" 62) (len := [19]) (byt := [[117, 112, 32, 100, 111, 119, 110, 32, 115, 116, 105, 114, 32, 115, 101, 116, 116, 108, 101]]) (A := ky_A G) (fun i hi => by rw [show i = 0 by omega]; decide) (fun i hi => (ky_lR (ky_lR (ky_lR (ky_lL (ky_lL (ky_lL (ky_lL (ky_lL (ky_lR (ky_lL (ky_lR hG.2.2.2)))))))))))) (fun i hi => (ky_lL (ky_lL (ky_lL (ky_lR (ky_lL (ky_lL (ky_lL (ky_lL (ky_lR (ky_lL (ky_lR hG.2.2.2)))))))))))) (fun i hi => (ky_lR (ky_lL (ky_lL (ky_lR (ky_lL (ky_lL (ky_lL (ky_lL (ky_lR (ky_lL (ky_lR hG.2.2.2)))))))))))) (fun i hi => by rw [show i = 0 by omega]; exact (ky_lL (ky_lR (ky_lL (ky_lR (ky_lL (ky_lL (ky_lL (ky_lL (ky_lR (ky_lL (ky_lR hG.2.2.2)))))))))))) (fun i hi j hj => by rw [show i = 0 by omega] at hj ⊢; exact hel j hj) (fun i j hi hj hij => absurd (by omega) hij) (ky_noA G)
  refine ⟨adK 0, vk_R.of (hG.1 _ (List.mem_append_right _ (List.mem_append_right _ (List.mem_append_right _ (List.mem_append_right _ (List.mem_append_left _ (List.mem_of_getElem? (i := 189) rfl))))))) (hA 0 (by decide)), adV 0, ?_⟩
  exact hS.1 0 (by decide)
set_option maxRecDepth 100000 in
set_option maxHeartbeats 4000000 in
theorem sg_X4_75 {G : ky_GW} (hG : ky_OK G) : ∃ s, vk_R RX4 75 "if" s G.2.1 ∧ ky_Str G s [105, 102] := by
  have hel : ∀ j : Nat, j < 2 → (Cond.eq (.elem (.field (.string "WaistSand$LawReader" 75) "java/lang/String" "value" "[B") (.int (Int32.ofNat j))) (.int (([105, 102] : List Int32).getD j 0))).before G.2.2.1 G.2.1 = true := fun j hj => match j, hj with
    | 0, _ => (ky_lL (ky_lL (ky_lR (ky_lL (ky_lL (ky_lR (ky_lL (ky_lL (ky_lR (ky_lL (ky_lR hG.2.2.2)))))))))))
    | 1, _ => (ky_lR (ky_lL (ky_lR (ky_lL (ky_lL (ky_lR (ky_lL (ky_lL (ky_lR (ky_lL (ky_lR hG.2.2.2)))))))))))
    | j + 2, h => absurd h (by omega)
  obtain ⟨adK, adV, hS, hA⟩ := vk_Sof (N := 1) (tm := fun _ => .string "WaistSand$LawReader" 75) (len := [2]) (byt := [[105, 102]]) (A := ky_A G) (fun i hi => by rw [show i = 0 by omega]; decide) (fun i hi => (ky_lR (ky_lR (ky_lR (ky_lR (ky_lR (ky_lL (ky_lL (ky_lL (ky_lR (ky_lL (ky_lR hG.2.2.2)))))))))))) (fun i hi => (ky_lL (ky_lL (ky_lL (ky_lL (ky_lR (ky_lL (ky_lL (ky_lR (ky_lL (ky_lR hG.2.2.2))))))))))) (fun i hi => (ky_lL (ky_lR (ky_lL (ky_lL (ky_lL (ky_lR (ky_lL (ky_lL (ky_lR (ky_lL (ky_lR hG.2.2.2)))))))))))) (fun i hi => by rw [show i = 0 by omega]; exact (ky_lR (ky_lR (ky_lL (ky_lL (ky_lL (ky_lR (ky_lL (ky_lL (ky_lR (ky_lL (ky_lR hG.2.2.2)))))))))))) (fun i hi j hj => by rw [show i = 0 by omega] at hj ⊢; exact hel j hj) (fun i j hi hj hij => absurd (by omega) hij) (ky_noA G)
  refine ⟨adK 0, vk_R.of (hG.1 _ (List.mem_append_right _ (List.mem_append_right _ (List.mem_append_right _ (List.mem_append_right _ (List.mem_append_left _ (List.mem_of_getElem? (i := 192) rfl))))))) (hA 0 (by decide)), adV 0, ?_⟩
  exact hS.1 0 (by decide)
set_option maxRecDepth 100000 in
set_option maxHeartbeats 4000000 in
theorem sg_X4_99 {G : ky_GW} (hG : ky_OK G) : ∃ s, vk_R RX4 99 "not" s G.2.1 ∧ ky_Str G s [110, 111, 116] := by
  have hel : ∀ j : Nat, j < 3 → (Cond.eq (.elem (.field (.string "WaistSand$LawReader" 99) "java/lang/String" "value" "[B") (.int (Int32.ofNat j))) (.int (([110, 111, 116] : List Int32).getD j 0))).before G.2.2.1 G.2.1 = true := fun j hj => match j, hj with
    | 0, _ => (ky_lL (ky_lR (ky_lL (ky_lR (ky_lL (ky_lR (ky_lL (ky_lL (ky_lR (ky_lL (ky_lR hG.2.2.2)))))))))))
    | 1, _ => (ky_lR (ky_lR (ky_lL (ky_lR (ky_lL (ky_lR (ky_lL (ky_lL (ky_lR (ky_lL (ky_lR hG.2.2.2)))))))))))
    | 2, _ => (ky_lL (ky_lL (ky_lR (ky_lR (ky_lL (ky_lR (ky_lL (ky_lL (ky_lR (ky_lL (ky_lR hG.2.2.2)))))))))))
    | j + 3, h => absurd h (by omega)
  obtain ⟨adK, adV, hS, hA⟩ := vk_Sof (N := 1) (tm := fun _ => .string "WaistSand$LawReader" 99) (len := [3]) (byt := [[110, 111, 116]]) (A := ky_A G) (fun i hi => by rw [show i = 0 by omega]; decide) (fun i hi => (ky_lL (ky_lR (ky_lR (ky_lL (ky_lL (ky_lR (ky_lL (ky_lL (ky_lR (ky_lL (ky_lR hG.2.2.2)))))))))))) (fun i hi => (ky_lR (ky_lR (ky_lR (ky_lL (ky_lL (ky_lR (ky_lL (ky_lL (ky_lR (ky_lL (ky_lR hG.2.2.2)))))))))))) (fun i hi => (ky_lL (ky_lL (ky_lL (ky_lR (ky_lL (ky_lR (ky_lL (ky_lL (ky_lR (ky_lL (ky_lR hG.2.2.2)))))))))))) (fun i hi => by rw [show i = 0 by omega]; exact (ky_lR (ky_lL (ky_lL (ky_lR (ky_lL (ky_lR (ky_lL (ky_lL (ky_lR (ky_lL (ky_lR hG.2.2.2)))))))))))) (fun i hi j hj => by rw [show i = 0 by omega] at hj ⊢; exact hel j hj) (fun i j hi hj hij => absurd (by omega) hij) (ky_noA G)
  refine ⟨adK 0, vk_R.of (hG.1 _ (List.mem_append_right _ (List.mem_append_right _ (List.mem_append_right _ (List.mem_append_right _ (List.mem_append_left _ (List.mem_of_getElem? (i := 206) rfl))))))) (hA 0 (by decide)), adV 0, ?_⟩
  exact hS.1 0 (by decide)
set_option maxRecDepth 100000 in
set_option maxHeartbeats 4000000 in
theorem sg_X4_104 {G : ky_GW} (hG : ky_OK G) : ∃ s, vk_R RX4 104 "lying" s G.2.1 ∧ ky_Str G s [108, 121, 105, 110, 103] := by
  have hel : ∀ j : Nat, j < 5 → (Cond.eq (.elem (.field (.string "WaistSand$LawReader" 104) "java/lang/String" "value" "[B") (.int (Int32.ofNat j))) (.int (([108, 121, 105, 110, 103] : List Int32).getD j 0))).before G.2.2.1 G.2.1 = true := fun j hj => match j, hj with
    | 0, _ => (ky_lL (ky_lR (ky_lL (ky_lL (ky_lR (ky_lR (ky_lL (ky_lL (ky_lR (ky_lL (ky_lR hG.2.2.2)))))))))))
    | 1, _ => (ky_lR (ky_lR (ky_lL (ky_lL (ky_lR (ky_lR (ky_lL (ky_lL (ky_lR (ky_lL (ky_lR hG.2.2.2)))))))))))
    | 2, _ => (ky_lL (ky_lL (ky_lR (ky_lL (ky_lR (ky_lR (ky_lL (ky_lL (ky_lR (ky_lL (ky_lR hG.2.2.2)))))))))))
    | 3, _ => (ky_lR (ky_lL (ky_lR (ky_lL (ky_lR (ky_lR (ky_lL (ky_lL (ky_lR (ky_lL (ky_lR hG.2.2.2)))))))))))
    | 4, _ => (ky_lL (ky_lR (ky_lR (ky_lL (ky_lR (ky_lR (ky_lL (ky_lL (ky_lR (ky_lL (ky_lR hG.2.2.2)))))))))))
    | j + 5, h => absurd h (by omega)
  obtain ⟨adK, adV, hS, hA⟩ := vk_Sof (N := 1) (tm := fun _ => .string "WaistSand$LawReader" 104) (len := [5]) (byt := [[108, 121, 105, 110, 103]]) (A := ky_A G) (fun i hi => by rw [show i = 0 by omega]; decide) (fun i hi => (ky_lR (ky_lL (ky_lR (ky_lR (ky_lL (ky_lR (ky_lL (ky_lL (ky_lR (ky_lL (ky_lR hG.2.2.2)))))))))))) (fun i hi => (ky_lL (ky_lR (ky_lR (ky_lR (ky_lL (ky_lR (ky_lL (ky_lL (ky_lR (ky_lL (ky_lR hG.2.2.2)))))))))))) (fun i hi => (ky_lR (ky_lR (ky_lR (ky_lR (ky_lL (ky_lR (ky_lL (ky_lL (ky_lR (ky_lL (ky_lR hG.2.2.2)))))))))))) (fun i hi => by rw [show i = 0 by omega]; exact (ky_lL (ky_lL (ky_lL (ky_lR (ky_lR (ky_lL (ky_lL (ky_lR (ky_lL (ky_lR hG.2.2.2))))))))))) (fun i hi j hj => by rw [show i = 0 by omega] at hj ⊢; exact hel j hj) (fun i j hi hj hij => absurd (by omega) hij) (ky_noA G)
  refine ⟨adK 0, vk_R.of (hG.1 _ (List.mem_append_right _ (List.mem_append_right _ (List.mem_append_right _ (List.mem_append_right _ (List.mem_append_left _ (List.mem_of_getElem? (i := 213) rfl))))))) (hA 0 (by decide)), adV 0, ?_⟩
  exact hS.1 0 (by decide)
set_option maxRecDepth 100000 in
set_option maxHeartbeats 4000000 in
theorem sg_X4_116 {G : ky_GW} (hG : ky_OK G) : ∃ s, vk_R RX4 116 "move leg other thin calm water" s G.2.1 ∧ ky_Str G s [109, 111, 118, 101, 32, 108, 101, 103, 32, 111, 116, 104, 101, 114, 32, 116, 104, 105, 110, 32, 99, 97, 108, 109, 32, 119, 97, 116, 101, 114] := by
  have hel : ∀ j : Nat, j < 30 → (Cond.eq (.elem (.field (.string "WaistSand$LawReader" 116) "java/lang/String" "value" "[B") (.int (Int32.ofNat j))) (.int (([109, 111, 118, 101, 32, 108, 101, 103, 32, 111, 116, 104, 101, 114, 32, 116, 104, 105, 110, 32, 99, 97, 108, 109, 32, 119, 97, 116, 101, 114] : List Int32).getD j 0))).before G.2.2.1 G.2.1 = true := fun j hj => match j, hj with
    | 0, _ => (ky_lR (ky_lR (ky_lL (ky_lR (ky_lR (ky_lR (ky_lL (ky_lL (ky_lR (ky_lL (ky_lR hG.2.2.2)))))))))))
    | 1, _ => (ky_lL (ky_lL (ky_lR (ky_lR (ky_lR (ky_lR (ky_lL (ky_lL (ky_lR (ky_lL (ky_lR hG.2.2.2)))))))))))
    | 2, _ => (ky_lR (ky_lL (ky_lR (ky_lR (ky_lR (ky_lR (ky_lL (ky_lL (ky_lR (ky_lL (ky_lR hG.2.2.2)))))))))))
    | 3, _ => (ky_lL (ky_lR (ky_lR (ky_lR (ky_lR (ky_lR (ky_lL (ky_lL (ky_lR (ky_lL (ky_lR hG.2.2.2)))))))))))
    | 4, _ => (ky_lR (ky_lR (ky_lR (ky_lR (ky_lR (ky_lR (ky_lL (ky_lL (ky_lR (ky_lL (ky_lR hG.2.2.2)))))))))))
    | 5, _ => (ky_lL (ky_lL (ky_lL (ky_lL (ky_lL (ky_lR (ky_lL (ky_lR (ky_lL (ky_lR hG.2.2.2))))))))))
    | 6, _ => (ky_lL (ky_lR (ky_lL (ky_lL (ky_lL (ky_lL (ky_lR (ky_lL (ky_lR (ky_lL (ky_lR hG.2.2.2)))))))))))
    | 7, _ => (ky_lR (ky_lR (ky_lL (ky_lL (ky_lL (ky_lL (ky_lR (ky_lL (ky_lR (ky_lL (ky_lR hG.2.2.2)))))))))))
    | 8, _ => (ky_lL (ky_lL (ky_lR (ky_lL (ky_lL (ky_lL (ky_lR (ky_lL (ky_lR (ky_lL (ky_lR hG.2.2.2)))))))))))
    | 9, _ => (ky_lR (ky_lL (ky_lR (ky_lL (ky_lL (ky_lL (ky_lR (ky_lL (ky_lR (ky_lL (ky_lR hG.2.2.2)))))))))))
    | 10, _ => (ky_lL (ky_lR (ky_lR (ky_lL (ky_lL (ky_lL (ky_lR (ky_lL (ky_lR (ky_lL (ky_lR hG.2.2.2)))))))))))
    | 11, _ => (ky_lR (ky_lR (ky_lR (ky_lL (ky_lL (ky_lL (ky_lR (ky_lL (ky_lR (ky_lL (ky_lR hG.2.2.2)))))))))))
    | 12, _ => (ky_lL (ky_lL (ky_lL (ky_lR (ky_lL (ky_lL (ky_lR (ky_lL (ky_lR (ky_lL (ky_lR hG.2.2.2)))))))))))
    | 13, _ => (ky_lR (ky_lL (ky_lL (ky_lR (ky_lL (ky_lL (ky_lR (ky_lL (ky_lR (ky_lL (ky_lR hG.2.2.2)))))))))))
    | 14, _ => (ky_lL (ky_lR (ky_lL (ky_lR (ky_lL (ky_lL (ky_lR (ky_lL (ky_lR (ky_lL (ky_lR hG.2.2.2)))))))))))
    | 15, _ => (ky_lR (ky_lR (ky_lL (ky_lR (ky_lL (ky_lL (ky_lR (ky_lL (ky_lR (ky_lL (ky_lR hG.2.2.2)))))))))))
    | 16, _ => (ky_lL (ky_lL (ky_lR (ky_lR (ky_lL (ky_lL (ky_lR (ky_lL (ky_lR (ky_lL (ky_lR hG.2.2.2)))))))))))
    | 17, _ => (ky_lR (ky_lL (ky_lR (ky_lR (ky_lL (ky_lL (ky_lR (ky_lL (ky_lR (ky_lL (ky_lR hG.2.2.2)))))))))))
    | 18, _ => (ky_lL (ky_lR (ky_lR (ky_lR (ky_lL (ky_lL (ky_lR (ky_lL (ky_lR (ky_lL (ky_lR hG.2.2.2)))))))))))
    | 19, _ => (ky_lR (ky_lR (ky_lR (ky_lR (ky_lL (ky_lL (ky_lR (ky_lL (ky_lR (ky_lL (ky_lR hG.2.2.2)))))))))))
    | 20, _ => (ky_lL (ky_lL (ky_lL (ky_lR (ky_lL (ky_lR (ky_lL (ky_lR (ky_lL (ky_lR hG.2.2.2))))))))))
    | 21, _ => (ky_lL (ky_lR (ky_lL (ky_lL (ky_lR (ky_lL (ky_lR (ky_lL (ky_lR (ky_lL (ky_lR hG.2.2.2)))))))))))
    | 22, _ => (ky_lR (ky_lR (ky_lL (ky_lL (ky_lR (ky_lL (ky_lR (ky_lL (ky_lR (ky_lL (ky_lR hG.2.2.2)))))))))))
    | 23, _ => (ky_lL (ky_lL (ky_lR (ky_lL (ky_lR (ky_lL (ky_lR (ky_lL (ky_lR (ky_lL (ky_lR hG.2.2.2)))))))))))
    | 24, _ => (ky_lR (ky_lL (ky_lR (ky_lL (ky_lR (ky_lL (ky_lR (ky_lL (ky_lR (ky_lL (ky_lR hG.2.2.2)))))))))))
    | 25, _ => (ky_lL (ky_lR (ky_lR (ky_lL (ky_lR (ky_lL (ky_lR (ky_lL (ky_lR (ky_lL (ky_lR hG.2.2.2)))))))))))
    | 26, _ => (ky_lR (ky_lR (ky_lR (ky_lL (ky_lR (ky_lL (ky_lR (ky_lL (ky_lR (ky_lL (ky_lR hG.2.2.2)))))))))))
    | 27, _ => (ky_lL (ky_lL (ky_lL (ky_lR (ky_lR (ky_lL (ky_lR (ky_lL (ky_lR (ky_lL (ky_lR hG.2.2.2)))))))))))
    | 28, _ => (ky_lR (ky_lL (ky_lL (ky_lR (ky_lR (ky_lL (ky_lR (ky_lL (ky_lR (ky_lL (ky_lR hG.2.2.2)))))))))))
    | 29, _ => (ky_lL (ky_lR (ky_lL (ky_lR (ky_lR (ky_lL (ky_lR (ky_lL (ky_lR (ky_lL (ky_lR hG.2.2.2)))))))))))
    | j + 30, h => absurd h (by omega)
  obtain ⟨adK, adV, hS, hA⟩ := vk_Sof (N := 1) (tm := fun _ => .string "WaistSand$LawReader" 116) (len := [30]) (byt := [[109, 111, 118, 101, 32, 108, 101, 103, 32, 111, 116, 104, 101, 114, 32, 116, 104, 105, 110, 32, 99, 97, 108, 109, 32, 119, 97, 116, 101, 114]]) (A := ky_A G) (fun i hi => by rw [show i = 0 by omega]; decide) (fun i hi => (ky_lR (ky_lR (ky_lR (ky_lL (ky_lR (ky_lR (ky_lL (ky_lL (ky_lR (ky_lL (ky_lR hG.2.2.2)))))))))))) (fun i hi => (ky_lL (ky_lL (ky_lL (ky_lR (ky_lR (ky_lR (ky_lL (ky_lL (ky_lR (ky_lL (ky_lR hG.2.2.2)))))))))))) (fun i hi => (ky_lR (ky_lL (ky_lL (ky_lR (ky_lR (ky_lR (ky_lL (ky_lL (ky_lR (ky_lL (ky_lR hG.2.2.2)))))))))))) (fun i hi => by rw [show i = 0 by omega]; exact (ky_lL (ky_lR (ky_lL (ky_lR (ky_lR (ky_lR (ky_lL (ky_lL (ky_lR (ky_lL (ky_lR hG.2.2.2)))))))))))) (fun i hi j hj => by rw [show i = 0 by omega] at hj ⊢; exact hel j hj) (fun i j hi hj hij => absurd (by omega) hij) (ky_noA G)
  refine ⟨adK 0, vk_R.of (hG.1 _ (List.mem_append_right _ (List.mem_append_right _ (List.mem_append_right _ (List.mem_append_right _ (List.mem_append_left _ (List.mem_of_getElem? (i := 219) rfl))))))) (hA 0 (by decide)), adV 0, ?_⟩
  exact hS.1 0 (by decide)
set_option maxRecDepth 100000 in
set_option maxHeartbeats 4000000 in
theorem sg_X4_97 {G : ky_GW} (hG : ky_OK G) : ∃ s, vk_R RX4 97 "and" s G.2.1 ∧ ky_Str G s [97, 110, 100] := by
  have hel : ∀ j : Nat, j < 3 → (Cond.eq (.elem (.field (.string "WaistSand$LawReader" 97) "java/lang/String" "value" "[B") (.int (Int32.ofNat j))) (.int (([97, 110, 100] : List Int32).getD j 0))).before G.2.2.1 G.2.1 = true := fun j hj => match j, hj with
    | 0, _ => (ky_lR (ky_lR (ky_lR (ky_lR (ky_lR (ky_lL (ky_lR (ky_lL (ky_lR (ky_lL (ky_lR hG.2.2.2)))))))))))
    | 1, _ => (ky_lL (ky_lL (ky_lL (ky_lL (ky_lR (ky_lR (ky_lL (ky_lR (ky_lL (ky_lR hG.2.2.2))))))))))
    | 2, _ => (ky_lL (ky_lR (ky_lL (ky_lL (ky_lL (ky_lR (ky_lR (ky_lL (ky_lR (ky_lL (ky_lR hG.2.2.2)))))))))))
    | j + 3, h => absurd h (by omega)
  obtain ⟨adK, adV, hS, hA⟩ := vk_Sof (N := 1) (tm := fun _ => .string "WaistSand$LawReader" 97) (len := [3]) (byt := [[97, 110, 100]]) (A := ky_A G) (fun i hi => by rw [show i = 0 by omega]; decide) (fun i hi => (ky_lR (ky_lR (ky_lL (ky_lR (ky_lR (ky_lL (ky_lR (ky_lL (ky_lR (ky_lL (ky_lR hG.2.2.2)))))))))))) (fun i hi => (ky_lL (ky_lL (ky_lR (ky_lR (ky_lR (ky_lL (ky_lR (ky_lL (ky_lR (ky_lL (ky_lR hG.2.2.2)))))))))))) (fun i hi => (ky_lR (ky_lL (ky_lR (ky_lR (ky_lR (ky_lL (ky_lR (ky_lL (ky_lR (ky_lL (ky_lR hG.2.2.2)))))))))))) (fun i hi => by rw [show i = 0 by omega]; exact (ky_lL (ky_lR (ky_lR (ky_lR (ky_lR (ky_lL (ky_lR (ky_lL (ky_lR (ky_lL (ky_lR hG.2.2.2)))))))))))) (fun i hi j hj => by rw [show i = 0 by omega] at hj ⊢; exact hel j hj) (fun i j hi hj hij => absurd (by omega) hij) (ky_noA G)
  refine ⟨adK 0, vk_R.of (hG.1 _ (List.mem_append_right _ (List.mem_append_right _ (List.mem_append_right _ (List.mem_append_right _ (List.mem_append_left _ (List.mem_of_getElem? (i := 224) rfl))))))) (hA 0 (by decide)), adV 0, ?_⟩
  exact hS.1 0 (by decide)
set_option maxRecDepth 100000 in
set_option maxHeartbeats 4000000 in
theorem sg_X4_88 {G : ky_GW} (hG : ky_OK G) : ∃ s, vk_R RX4 88 "or" s G.2.1 ∧ ky_Str G s [111, 114] := by
  have hel : ∀ j : Nat, j < 2 → (Cond.eq (.elem (.field (.string "WaistSand$LawReader" 88) "java/lang/String" "value" "[B") (.int (Int32.ofNat j))) (.int (([111, 114] : List Int32).getD j 0))).before G.2.2.1 G.2.1 = true := fun j hj => match j, hj with
    | 0, _ => (ky_lR (ky_lR (ky_lR (ky_lL (ky_lL (ky_lR (ky_lR (ky_lL (ky_lR (ky_lL (ky_lR hG.2.2.2)))))))))))
    | 1, _ => (ky_lL (ky_lL (ky_lL (ky_lR (ky_lL (ky_lR (ky_lR (ky_lL (ky_lR (ky_lL (ky_lR hG.2.2.2)))))))))))
    | j + 2, h => absurd h (by omega)
  obtain ⟨adK, adV, hS, hA⟩ := vk_Sof (N := 1) (tm := fun _ => .string "WaistSand$LawReader" 88) (len := [2]) (byt := [[111, 114]]) (A := ky_A G) (fun i hi => by rw [show i = 0 by omega]; decide) (fun i hi => (ky_lR (ky_lR (ky_lL (ky_lL (ky_lL (ky_lR (ky_lR (ky_lL (ky_lR (ky_lL (ky_lR hG.2.2.2)))))))))))) (fun i hi => (ky_lL (ky_lL (ky_lR (ky_lL (ky_lL (ky_lR (ky_lR (ky_lL (ky_lR (ky_lL (ky_lR hG.2.2.2)))))))))))) (fun i hi => (ky_lR (ky_lL (ky_lR (ky_lL (ky_lL (ky_lR (ky_lR (ky_lL (ky_lR (ky_lL (ky_lR hG.2.2.2)))))))))))) (fun i hi => by rw [show i = 0 by omega]; exact (ky_lL (ky_lR (ky_lR (ky_lL (ky_lL (ky_lR (ky_lR (ky_lL (ky_lR (ky_lL (ky_lR hG.2.2.2)))))))))))) (fun i hi j hj => by rw [show i = 0 by omega] at hj ⊢; exact hel j hj) (fun i j hi hj hij => absurd (by omega) hij) (ky_noA G)
  refine ⟨adK 0, vk_R.of (hG.1 _ (List.mem_append_right _ (List.mem_append_right _ (List.mem_append_right _ (List.mem_append_right _ (List.mem_append_left _ (List.mem_of_getElem? (i := 225) rfl))))))) (hA 0 (by decide)), adV 0, ?_⟩
  exact hS.1 0 (by decide)
set_option maxRecDepth 100000 in
set_option maxHeartbeats 4000000 in
theorem sg_X11_130 {G : ky_GW} (hG : ky_OK G) : ∃ s, vk_R RX11 130 "no such move" s G.2.1 ∧ ky_Str G s [110, 111, 32, 115, 117, 99, 104, 32, 109, 111, 118, 101] := by
  have hel : ∀ j : Nat, j < 12 → (Cond.eq (.elem (.field (.string "WaistSand" 130) "java/lang/String" "value" "[B") (.int (Int32.ofNat j))) (.int (([110, 111, 32, 115, 117, 99, 104, 32, 109, 111, 118, 101] : List Int32).getD j 0))).before G.2.2.1 G.2.1 = true := fun j hj => match j, hj with
    | 0, _ => (ky_lR (ky_lL (ky_lR (ky_lR (ky_lL (ky_lR (ky_lR (ky_lL (ky_lR (ky_lL (ky_lR hG.2.2.2)))))))))))
    | 1, _ => (ky_lL (ky_lR (ky_lR (ky_lR (ky_lL (ky_lR (ky_lR (ky_lL (ky_lR (ky_lL (ky_lR hG.2.2.2)))))))))))
    | 2, _ => (ky_lR (ky_lR (ky_lR (ky_lR (ky_lL (ky_lR (ky_lR (ky_lL (ky_lR (ky_lL (ky_lR hG.2.2.2)))))))))))
    | 3, _ => (ky_lL (ky_lL (ky_lL (ky_lR (ky_lR (ky_lR (ky_lL (ky_lR (ky_lL (ky_lR hG.2.2.2))))))))))
    | 4, _ => (ky_lL (ky_lR (ky_lL (ky_lL (ky_lR (ky_lR (ky_lR (ky_lL (ky_lR (ky_lL (ky_lR hG.2.2.2)))))))))))
    | 5, _ => (ky_lR (ky_lR (ky_lL (ky_lL (ky_lR (ky_lR (ky_lR (ky_lL (ky_lR (ky_lL (ky_lR hG.2.2.2)))))))))))
    | 6, _ => (ky_lL (ky_lL (ky_lR (ky_lL (ky_lR (ky_lR (ky_lR (ky_lL (ky_lR (ky_lL (ky_lR hG.2.2.2)))))))))))
    | 7, _ => (ky_lR (ky_lL (ky_lR (ky_lL (ky_lR (ky_lR (ky_lR (ky_lL (ky_lR (ky_lL (ky_lR hG.2.2.2)))))))))))
    | 8, _ => (ky_lL (ky_lR (ky_lR (ky_lL (ky_lR (ky_lR (ky_lR (ky_lL (ky_lR (ky_lL (ky_lR hG.2.2.2)))))))))))
    | 9, _ => (ky_lR (ky_lR (ky_lR (ky_lL (ky_lR (ky_lR (ky_lR (ky_lL (ky_lR (ky_lL (ky_lR hG.2.2.2)))))))))))
    | 10, _ => (ky_lL (ky_lL (ky_lL (ky_lR (ky_lR (ky_lR (ky_lR (ky_lL (ky_lR (ky_lL (ky_lR hG.2.2.2)))))))))))
    | 11, _ => (ky_lR (ky_lL (ky_lL (ky_lR (ky_lR (ky_lR (ky_lR (ky_lL (ky_lR (ky_lL (ky_lR hG.2.2.2)))))))))))
    | j + 12, h => absurd h (by omega)
  obtain ⟨adK, adV, hS, hA⟩ := vk_Sof (N := 1) (tm := fun _ => .string "WaistSand" 130) (len := [12]) (byt := [[110, 111, 32, 115, 117, 99, 104, 32, 109, 111, 118, 101]]) (A := ky_A G) (fun i hi => by rw [show i = 0 by omega]; decide) (fun i hi => (ky_lR (ky_lL (ky_lL (ky_lR (ky_lL (ky_lR (ky_lR (ky_lL (ky_lR (ky_lL (ky_lR hG.2.2.2)))))))))))) (fun i hi => (ky_lL (ky_lR (ky_lL (ky_lR (ky_lL (ky_lR (ky_lR (ky_lL (ky_lR (ky_lL (ky_lR hG.2.2.2)))))))))))) (fun i hi => (ky_lR (ky_lR (ky_lL (ky_lR (ky_lL (ky_lR (ky_lR (ky_lL (ky_lR (ky_lL (ky_lR hG.2.2.2)))))))))))) (fun i hi => by rw [show i = 0 by omega]; exact (ky_lL (ky_lL (ky_lR (ky_lR (ky_lL (ky_lR (ky_lR (ky_lL (ky_lR (ky_lL (ky_lR hG.2.2.2)))))))))))) (fun i hi j hj => by rw [show i = 0 by omega] at hj ⊢; exact hel j hj) (fun i j hi hj hij => absurd (by omega) hij) (ky_noA G)
  refine ⟨adK 0, vk_R.of (hG.1 _ (List.mem_append_right _ (List.mem_append_right _ (List.mem_append_right _ (List.mem_append_right _ (List.mem_append_right _ (List.mem_append_left _ (List.mem_of_getElem? (i := 64) rfl)))))))) (hA 0 (by decide)), adV 0, ?_⟩
  exact hS.1 0 (by decide)
set_option maxRecDepth 100000 in
set_option maxHeartbeats 4000000 in
theorem sg_X11_135 {G : ky_GW} (hG : ky_OK G) : ∃ s, vk_R RX11 135 "no such what" s G.2.1 ∧ ky_Str G s [110, 111, 32, 115, 117, 99, 104, 32, 119, 104, 97, 116] := by
  have hel : ∀ j : Nat, j < 12 → (Cond.eq (.elem (.field (.string "WaistSand" 135) "java/lang/String" "value" "[B") (.int (Int32.ofNat j))) (.int (([110, 111, 32, 115, 117, 99, 104, 32, 119, 104, 97, 116] : List Int32).getD j 0))).before G.2.2.1 G.2.1 = true := fun j hj => match j, hj with
    | 0, _ => (ky_lL (ky_lR (ky_lR (ky_lR (ky_lR (ky_lR (ky_lR (ky_lL (ky_lR (ky_lL (ky_lR hG.2.2.2)))))))))))
    | 1, _ => (ky_lR (ky_lR (ky_lR (ky_lR (ky_lR (ky_lR (ky_lR (ky_lL (ky_lR (ky_lL (ky_lR hG.2.2.2)))))))))))
    | 2, _ => (ky_lL (ky_lL (ky_lL (ky_lL (ky_lL (ky_lL (ky_lR (ky_lR (ky_lL (ky_lR hG.2.2.2))))))))))
    | 3, _ => (ky_lL (ky_lR (ky_lL (ky_lL (ky_lL (ky_lL (ky_lL (ky_lR (ky_lR (ky_lL (ky_lR hG.2.2.2)))))))))))
    | 4, _ => (ky_lR (ky_lR (ky_lL (ky_lL (ky_lL (ky_lL (ky_lL (ky_lR (ky_lR (ky_lL (ky_lR hG.2.2.2)))))))))))
    | 5, _ => (ky_lL (ky_lL (ky_lR (ky_lL (ky_lL (ky_lL (ky_lL (ky_lR (ky_lR (ky_lL (ky_lR hG.2.2.2)))))))))))
    | 6, _ => (ky_lR (ky_lL (ky_lR (ky_lL (ky_lL (ky_lL (ky_lL (ky_lR (ky_lR (ky_lL (ky_lR hG.2.2.2)))))))))))
    | 7, _ => (ky_lL (ky_lR (ky_lR (ky_lL (ky_lL (ky_lL (ky_lL (ky_lR (ky_lR (ky_lL (ky_lR hG.2.2.2)))))))))))
    | 8, _ => (ky_lR (ky_lR (ky_lR (ky_lL (ky_lL (ky_lL (ky_lL (ky_lR (ky_lR (ky_lL (ky_lR hG.2.2.2)))))))))))
    | 9, _ => (ky_lL (ky_lL (ky_lL (ky_lR (ky_lL (ky_lL (ky_lL (ky_lR (ky_lR (ky_lL (ky_lR hG.2.2.2)))))))))))
    | 10, _ => (ky_lR (ky_lL (ky_lL (ky_lR (ky_lL (ky_lL (ky_lL (ky_lR (ky_lR (ky_lL (ky_lR hG.2.2.2)))))))))))
    | 11, _ => (ky_lL (ky_lR (ky_lL (ky_lR (ky_lL (ky_lL (ky_lL (ky_lR (ky_lR (ky_lL (ky_lR hG.2.2.2)))))))))))
    | j + 12, h => absurd h (by omega)
  obtain ⟨adK, adV, hS, hA⟩ := vk_Sof (N := 1) (tm := fun _ => .string "WaistSand" 135) (len := [12]) (byt := [[110, 111, 32, 115, 117, 99, 104, 32, 119, 104, 97, 116]]) (A := ky_A G) (fun i hi => by rw [show i = 0 by omega]; decide) (fun i hi => (ky_lL (ky_lR (ky_lL (ky_lR (ky_lR (ky_lR (ky_lR (ky_lL (ky_lR (ky_lL (ky_lR hG.2.2.2)))))))))))) (fun i hi => (ky_lR (ky_lR (ky_lL (ky_lR (ky_lR (ky_lR (ky_lR (ky_lL (ky_lR (ky_lL (ky_lR hG.2.2.2)))))))))))) (fun i hi => (ky_lL (ky_lL (ky_lR (ky_lR (ky_lR (ky_lR (ky_lR (ky_lL (ky_lR (ky_lL (ky_lR hG.2.2.2)))))))))))) (fun i hi => by rw [show i = 0 by omega]; exact (ky_lR (ky_lL (ky_lR (ky_lR (ky_lR (ky_lR (ky_lR (ky_lL (ky_lR (ky_lL (ky_lR hG.2.2.2)))))))))))) (fun i hi j hj => by rw [show i = 0 by omega] at hj ⊢; exact hel j hj) (fun i j hi hj hij => absurd (by omega) hij) (ky_noA G)
  refine ⟨adK 0, vk_R.of (hG.1 _ (List.mem_append_right _ (List.mem_append_right _ (List.mem_append_right _ (List.mem_append_right _ (List.mem_append_right _ (List.mem_append_left _ (List.mem_of_getElem? (i := 80) rfl)))))))) (hA 0 (by decide)), adV 0, ?_⟩
  exact hS.1 0 (by decide)
set_option maxRecDepth 100000 in
set_option maxHeartbeats 4000000 in
theorem sg_X11_149 {G : ky_GW} (hG : ky_OK G) : ∃ s, vk_R RX11 149 "no such cell" s G.2.1 ∧ ky_Str G s [110, 111, 32, 115, 117, 99, 104, 32, 99, 101, 108, 108] := by
  have hel : ∀ j : Nat, j < 12 → (Cond.eq (.elem (.field (.string "WaistSand" 149) "java/lang/String" "value" "[B") (.int (Int32.ofNat j))) (.int (([110, 111, 32, 115, 117, 99, 104, 32, 99, 101, 108, 108] : List Int32).getD j 0))).before G.2.2.1 G.2.1 = true := fun j hj => match j, hj with
    | 0, _ => (ky_lR (ky_lR (ky_lR (ky_lR (ky_lL (ky_lL (ky_lL (ky_lR (ky_lR (ky_lL (ky_lR hG.2.2.2)))))))))))
    | 1, _ => (ky_lL (ky_lL (ky_lL (ky_lR (ky_lL (ky_lL (ky_lR (ky_lR (ky_lL (ky_lR hG.2.2.2))))))))))
    | 2, _ => (ky_lL (ky_lR (ky_lL (ky_lL (ky_lR (ky_lL (ky_lL (ky_lR (ky_lR (ky_lL (ky_lR hG.2.2.2)))))))))))
    | 3, _ => (ky_lR (ky_lR (ky_lL (ky_lL (ky_lR (ky_lL (ky_lL (ky_lR (ky_lR (ky_lL (ky_lR hG.2.2.2)))))))))))
    | 4, _ => (ky_lL (ky_lL (ky_lR (ky_lL (ky_lR (ky_lL (ky_lL (ky_lR (ky_lR (ky_lL (ky_lR hG.2.2.2)))))))))))
    | 5, _ => (ky_lR (ky_lL (ky_lR (ky_lL (ky_lR (ky_lL (ky_lL (ky_lR (ky_lR (ky_lL (ky_lR hG.2.2.2)))))))))))
    | 6, _ => (ky_lL (ky_lR (ky_lR (ky_lL (ky_lR (ky_lL (ky_lL (ky_lR (ky_lR (ky_lL (ky_lR hG.2.2.2)))))))))))
    | 7, _ => (ky_lR (ky_lR (ky_lR (ky_lL (ky_lR (ky_lL (ky_lL (ky_lR (ky_lR (ky_lL (ky_lR hG.2.2.2)))))))))))
    | 8, _ => (ky_lL (ky_lL (ky_lL (ky_lR (ky_lR (ky_lL (ky_lL (ky_lR (ky_lR (ky_lL (ky_lR hG.2.2.2)))))))))))
    | 9, _ => (ky_lR (ky_lL (ky_lL (ky_lR (ky_lR (ky_lL (ky_lL (ky_lR (ky_lR (ky_lL (ky_lR hG.2.2.2)))))))))))
    | 10, _ => (ky_lL (ky_lR (ky_lL (ky_lR (ky_lR (ky_lL (ky_lL (ky_lR (ky_lR (ky_lL (ky_lR hG.2.2.2)))))))))))
    | 11, _ => (ky_lR (ky_lR (ky_lL (ky_lR (ky_lR (ky_lL (ky_lL (ky_lR (ky_lR (ky_lL (ky_lR hG.2.2.2)))))))))))
    | j + 12, h => absurd h (by omega)
  obtain ⟨adK, adV, hS, hA⟩ := vk_Sof (N := 1) (tm := fun _ => .string "WaistSand" 149) (len := [12]) (byt := [[110, 111, 32, 115, 117, 99, 104, 32, 99, 101, 108, 108]]) (A := ky_A G) (fun i hi => by rw [show i = 0 by omega]; decide) (fun i hi => (ky_lR (ky_lR (ky_lL (ky_lR (ky_lL (ky_lL (ky_lL (ky_lR (ky_lR (ky_lL (ky_lR hG.2.2.2)))))))))))) (fun i hi => (ky_lL (ky_lL (ky_lR (ky_lR (ky_lL (ky_lL (ky_lL (ky_lR (ky_lR (ky_lL (ky_lR hG.2.2.2)))))))))))) (fun i hi => (ky_lR (ky_lL (ky_lR (ky_lR (ky_lL (ky_lL (ky_lL (ky_lR (ky_lR (ky_lL (ky_lR hG.2.2.2)))))))))))) (fun i hi => by rw [show i = 0 by omega]; exact (ky_lL (ky_lR (ky_lR (ky_lR (ky_lL (ky_lL (ky_lL (ky_lR (ky_lR (ky_lL (ky_lR hG.2.2.2)))))))))))) (fun i hi j hj => by rw [show i = 0 by omega] at hj ⊢; exact hel j hj) (fun i j hi hj hij => absurd (by omega) hij) (ky_noA G)
  refine ⟨adK 0, vk_R.of (hG.1 _ (List.mem_append_right _ (List.mem_append_right _ (List.mem_append_right _ (List.mem_append_right _ (List.mem_append_right _ (List.mem_append_left _ (List.mem_of_getElem? (i := 105) rfl)))))))) (hA 0 (by decide)), adV 0, ?_⟩
  exact hS.1 0 (by decide)
set_option maxRecDepth 100000 in
set_option maxHeartbeats 4000000 in
theorem sg_X11_172 {G : ky_GW} (hG : ky_OK G) : ∃ s, vk_R RX11 172 "no such person" s G.2.1 ∧ ky_Str G s [110, 111, 32, 115, 117, 99, 104, 32, 112, 101, 114, 115, 111, 110] := by
  have hel : ∀ j : Nat, j < 14 → (Cond.eq (.elem (.field (.string "WaistSand" 172) "java/lang/String" "value" "[B") (.int (Int32.ofNat j))) (.int (([110, 111, 32, 115, 117, 99, 104, 32, 112, 101, 114, 115, 111, 110] : List Int32).getD j 0))).before G.2.2.1 G.2.1 = true := fun j hj => match j, hj with
    | 0, _ => (ky_lL (ky_lL (ky_lL (ky_lL (ky_lR (ky_lL (ky_lR (ky_lR (ky_lL (ky_lR hG.2.2.2))))))))))
    | 1, _ => (ky_lL (ky_lR (ky_lL (ky_lL (ky_lL (ky_lR (ky_lL (ky_lR (ky_lR (ky_lL (ky_lR hG.2.2.2)))))))))))
    | 2, _ => (ky_lR (ky_lR (ky_lL (ky_lL (ky_lL (ky_lR (ky_lL (ky_lR (ky_lR (ky_lL (ky_lR hG.2.2.2)))))))))))
    | 3, _ => (ky_lL (ky_lL (ky_lR (ky_lL (ky_lL (ky_lR (ky_lL (ky_lR (ky_lR (ky_lL (ky_lR hG.2.2.2)))))))))))
    | 4, _ => (ky_lR (ky_lL (ky_lR (ky_lL (ky_lL (ky_lR (ky_lL (ky_lR (ky_lR (ky_lL (ky_lR hG.2.2.2)))))))))))
    | 5, _ => (ky_lL (ky_lR (ky_lR (ky_lL (ky_lL (ky_lR (ky_lL (ky_lR (ky_lR (ky_lL (ky_lR hG.2.2.2)))))))))))
    | 6, _ => (ky_lR (ky_lR (ky_lR (ky_lL (ky_lL (ky_lR (ky_lL (ky_lR (ky_lR (ky_lL (ky_lR hG.2.2.2)))))))))))
    | 7, _ => (ky_lL (ky_lL (ky_lL (ky_lR (ky_lL (ky_lR (ky_lL (ky_lR (ky_lR (ky_lL (ky_lR hG.2.2.2)))))))))))
    | 8, _ => (ky_lR (ky_lL (ky_lL (ky_lR (ky_lL (ky_lR (ky_lL (ky_lR (ky_lR (ky_lL (ky_lR hG.2.2.2)))))))))))
    | 9, _ => (ky_lL (ky_lR (ky_lL (ky_lR (ky_lL (ky_lR (ky_lL (ky_lR (ky_lR (ky_lL (ky_lR hG.2.2.2)))))))))))
    | 10, _ => (ky_lR (ky_lR (ky_lL (ky_lR (ky_lL (ky_lR (ky_lL (ky_lR (ky_lR (ky_lL (ky_lR hG.2.2.2)))))))))))
    | 11, _ => (ky_lL (ky_lL (ky_lR (ky_lR (ky_lL (ky_lR (ky_lL (ky_lR (ky_lR (ky_lL (ky_lR hG.2.2.2)))))))))))
    | 12, _ => (ky_lR (ky_lL (ky_lR (ky_lR (ky_lL (ky_lR (ky_lL (ky_lR (ky_lR (ky_lL (ky_lR hG.2.2.2)))))))))))
    | 13, _ => (ky_lL (ky_lR (ky_lR (ky_lR (ky_lL (ky_lR (ky_lL (ky_lR (ky_lR (ky_lL (ky_lR hG.2.2.2)))))))))))
    | j + 14, h => absurd h (by omega)
  obtain ⟨adK, adV, hS, hA⟩ := vk_Sof (N := 1) (tm := fun _ => .string "WaistSand" 172) (len := [14]) (byt := [[110, 111, 32, 115, 117, 99, 104, 32, 112, 101, 114, 115, 111, 110]]) (A := ky_A G) (fun i hi => by rw [show i = 0 by omega]; decide) (fun i hi => (ky_lL (ky_lL (ky_lR (ky_lR (ky_lR (ky_lL (ky_lL (ky_lR (ky_lR (ky_lL (ky_lR hG.2.2.2)))))))))))) (fun i hi => (ky_lR (ky_lL (ky_lR (ky_lR (ky_lR (ky_lL (ky_lL (ky_lR (ky_lR (ky_lL (ky_lR hG.2.2.2)))))))))))) (fun i hi => (ky_lL (ky_lR (ky_lR (ky_lR (ky_lR (ky_lL (ky_lL (ky_lR (ky_lR (ky_lL (ky_lR hG.2.2.2)))))))))))) (fun i hi => by rw [show i = 0 by omega]; exact (ky_lR (ky_lR (ky_lR (ky_lR (ky_lR (ky_lL (ky_lL (ky_lR (ky_lR (ky_lL (ky_lR hG.2.2.2)))))))))))) (fun i hi j hj => by rw [show i = 0 by omega] at hj ⊢; exact hel j hj) (fun i j hi hj hij => absurd (by omega) hij) (ky_noA G)
  refine ⟨adK 0, vk_R.of (hG.1 _ (List.mem_append_right _ (List.mem_append_right _ (List.mem_append_right _ (List.mem_append_right _ (List.mem_append_right _ (List.mem_append_left _ (List.mem_of_getElem? (i := 124) rfl)))))))) (hA 0 (by decide)), adV 0, ?_⟩
  exact hS.1 0 (by decide)
set_option maxRecDepth 100000 in
set_option maxHeartbeats 4000000 in
theorem sg_X11_189 {G : ky_GW} (hG : ky_OK G) : ∃ s, vk_R RX11 189 "no such move or leg" s G.2.1 ∧ ky_Str G s [110, 111, 32, 115, 117, 99, 104, 32, 109, 111, 118, 101, 32, 111, 114, 32, 108, 101, 103] := by
  have hel : ∀ j : Nat, j < 19 → (Cond.eq (.elem (.field (.string "WaistSand" 189) "java/lang/String" "value" "[B") (.int (Int32.ofNat j))) (.int (([110, 111, 32, 115, 117, 99, 104, 32, 109, 111, 118, 101, 32, 111, 114, 32, 108, 101, 103] : List Int32).getD j 0))).before G.2.2.1 G.2.1 = true := fun j hj => match j, hj with
    | 0, _ => (ky_lL (ky_lL (ky_lR (ky_lL (ky_lR (ky_lR (ky_lL (ky_lR (ky_lR (ky_lL (ky_lR hG.2.2.2)))))))))))
    | 1, _ => (ky_lR (ky_lL (ky_lR (ky_lL (ky_lR (ky_lR (ky_lL (ky_lR (ky_lR (ky_lL (ky_lR hG.2.2.2)))))))))))
    | 2, _ => (ky_lL (ky_lR (ky_lR (ky_lL (ky_lR (ky_lR (ky_lL (ky_lR (ky_lR (ky_lL (ky_lR hG.2.2.2)))))))))))
    | 3, _ => (ky_lR (ky_lR (ky_lR (ky_lL (ky_lR (ky_lR (ky_lL (ky_lR (ky_lR (ky_lL (ky_lR hG.2.2.2)))))))))))
    | 4, _ => (ky_lL (ky_lL (ky_lL (ky_lR (ky_lR (ky_lR (ky_lL (ky_lR (ky_lR (ky_lL (ky_lR hG.2.2.2)))))))))))
    | 5, _ => (ky_lR (ky_lL (ky_lL (ky_lR (ky_lR (ky_lR (ky_lL (ky_lR (ky_lR (ky_lL (ky_lR hG.2.2.2)))))))))))
    | 6, _ => (ky_lL (ky_lR (ky_lL (ky_lR (ky_lR (ky_lR (ky_lL (ky_lR (ky_lR (ky_lL (ky_lR hG.2.2.2)))))))))))
    | 7, _ => (ky_lR (ky_lR (ky_lL (ky_lR (ky_lR (ky_lR (ky_lL (ky_lR (ky_lR (ky_lL (ky_lR hG.2.2.2)))))))))))
    | 8, _ => (ky_lL (ky_lL (ky_lR (ky_lR (ky_lR (ky_lR (ky_lL (ky_lR (ky_lR (ky_lL (ky_lR hG.2.2.2)))))))))))
    | 9, _ => (ky_lR (ky_lL (ky_lR (ky_lR (ky_lR (ky_lR (ky_lL (ky_lR (ky_lR (ky_lL (ky_lR hG.2.2.2)))))))))))
    | 10, _ => (ky_lL (ky_lR (ky_lR (ky_lR (ky_lR (ky_lR (ky_lL (ky_lR (ky_lR (ky_lL (ky_lR hG.2.2.2)))))))))))
    | 11, _ => (ky_lR (ky_lR (ky_lR (ky_lR (ky_lR (ky_lR (ky_lL (ky_lR (ky_lR (ky_lL (ky_lR hG.2.2.2)))))))))))
    | 12, _ => (ky_lL (ky_lL (ky_lL (ky_lL (ky_lL (ky_lR (ky_lR (ky_lR (ky_lL (ky_lR hG.2.2.2))))))))))
    | 13, _ => (ky_lL (ky_lR (ky_lL (ky_lL (ky_lL (ky_lL (ky_lR (ky_lR (ky_lR (ky_lL (ky_lR hG.2.2.2)))))))))))
    | 14, _ => (ky_lR (ky_lR (ky_lL (ky_lL (ky_lL (ky_lL (ky_lR (ky_lR (ky_lR (ky_lL (ky_lR hG.2.2.2)))))))))))
    | 15, _ => (ky_lL (ky_lL (ky_lR (ky_lL (ky_lL (ky_lL (ky_lR (ky_lR (ky_lR (ky_lL (ky_lR hG.2.2.2)))))))))))
    | 16, _ => (ky_lR (ky_lL (ky_lR (ky_lL (ky_lL (ky_lL (ky_lR (ky_lR (ky_lR (ky_lL (ky_lR hG.2.2.2)))))))))))
    | 17, _ => (ky_lL (ky_lR (ky_lR (ky_lL (ky_lL (ky_lL (ky_lR (ky_lR (ky_lR (ky_lL (ky_lR hG.2.2.2)))))))))))
    | 18, _ => (ky_lR (ky_lR (ky_lR (ky_lL (ky_lL (ky_lL (ky_lR (ky_lR (ky_lR (ky_lL (ky_lR hG.2.2.2)))))))))))
    | j + 19, h => absurd h (by omega)
  obtain ⟨adK, adV, hS, hA⟩ := vk_Sof (N := 1) (tm := fun _ => .string "WaistSand" 189) (len := [19]) (byt := [[110, 111, 32, 115, 117, 99, 104, 32, 109, 111, 118, 101, 32, 111, 114, 32, 108, 101, 103]]) (A := ky_A G) (fun i hi => by rw [show i = 0 by omega]; decide) (fun i hi => (ky_lR (ky_lR (ky_lR (ky_lR (ky_lL (ky_lR (ky_lL (ky_lR (ky_lR (ky_lL (ky_lR hG.2.2.2)))))))))))) (fun i hi => (ky_lL (ky_lL (ky_lL (ky_lR (ky_lR (ky_lL (ky_lR (ky_lR (ky_lL (ky_lR hG.2.2.2))))))))))) (fun i hi => (ky_lL (ky_lR (ky_lL (ky_lL (ky_lR (ky_lR (ky_lL (ky_lR (ky_lR (ky_lL (ky_lR hG.2.2.2)))))))))))) (fun i hi => by rw [show i = 0 by omega]; exact (ky_lR (ky_lR (ky_lL (ky_lL (ky_lR (ky_lR (ky_lL (ky_lR (ky_lR (ky_lL (ky_lR hG.2.2.2)))))))))))) (fun i hi j hj => by rw [show i = 0 by omega] at hj ⊢; exact hel j hj) (fun i j hi hj hij => absurd (by omega) hij) (ky_noA G)
  refine ⟨adK 0, vk_R.of (hG.1 _ (List.mem_append_right _ (List.mem_append_right _ (List.mem_append_right _ (List.mem_append_right _ (List.mem_append_right _ (List.mem_append_left _ (List.mem_of_getElem? (i := 161) rfl)))))))) (hA 0 (by decide)), adV 0, ?_⟩
  exact hS.1 0 (by decide)
set_option maxRecDepth 100000 in
set_option maxHeartbeats 4000000 in
theorem sg_X11_199 {G : ky_GW} (hG : ky_OK G) : ∃ s, vk_R RX11 199 "one is out, or drowned" s G.2.1 ∧ ky_Str G s [111, 110, 101, 32, 105, 115, 32, 111, 117, 116, 44, 32, 111, 114, 32, 100, 114, 111, 119, 110, 101, 100] := by
  have hel : ∀ j : Nat, j < 22 → (Cond.eq (.elem (.field (.string "WaistSand" 199) "java/lang/String" "value" "[B") (.int (Int32.ofNat j))) (.int (([111, 110, 101, 32, 105, 115, 32, 111, 117, 116, 44, 32, 111, 114, 32, 100, 114, 111, 119, 110, 101, 100] : List Int32).getD j 0))).before G.2.2.1 G.2.1 = true := fun j hj => match j, hj with
    | 0, _ => (ky_lL (ky_lL (ky_lR (ky_lR (ky_lL (ky_lL (ky_lR (ky_lR (ky_lR (ky_lL (ky_lR hG.2.2.2)))))))))))
    | 1, _ => (ky_lR (ky_lL (ky_lR (ky_lR (ky_lL (ky_lL (ky_lR (ky_lR (ky_lR (ky_lL (ky_lR hG.2.2.2)))))))))))
    | 2, _ => (ky_lL (ky_lR (ky_lR (ky_lR (ky_lL (ky_lL (ky_lR (ky_lR (ky_lR (ky_lL (ky_lR hG.2.2.2)))))))))))
    | 3, _ => (ky_lR (ky_lR (ky_lR (ky_lR (ky_lL (ky_lL (ky_lR (ky_lR (ky_lR (ky_lL (ky_lR hG.2.2.2)))))))))))
    | 4, _ => (ky_lL (ky_lL (ky_lL (ky_lR (ky_lL (ky_lR (ky_lR (ky_lR (ky_lL (ky_lR hG.2.2.2))))))))))
    | 5, _ => (ky_lL (ky_lR (ky_lL (ky_lL (ky_lR (ky_lL (ky_lR (ky_lR (ky_lR (ky_lL (ky_lR hG.2.2.2)))))))))))
    | 6, _ => (ky_lR (ky_lR (ky_lL (ky_lL (ky_lR (ky_lL (ky_lR (ky_lR (ky_lR (ky_lL (ky_lR hG.2.2.2)))))))))))
    | 7, _ => (ky_lL (ky_lL (ky_lR (ky_lL (ky_lR (ky_lL (ky_lR (ky_lR (ky_lR (ky_lL (ky_lR hG.2.2.2)))))))))))
    | 8, _ => (ky_lR (ky_lL (ky_lR (ky_lL (ky_lR (ky_lL (ky_lR (ky_lR (ky_lR (ky_lL (ky_lR hG.2.2.2)))))))))))
    | 9, _ => (ky_lL (ky_lR (ky_lR (ky_lL (ky_lR (ky_lL (ky_lR (ky_lR (ky_lR (ky_lL (ky_lR hG.2.2.2)))))))))))
    | 10, _ => (ky_lR (ky_lR (ky_lR (ky_lL (ky_lR (ky_lL (ky_lR (ky_lR (ky_lR (ky_lL (ky_lR hG.2.2.2)))))))))))
    | 11, _ => (ky_lL (ky_lL (ky_lL (ky_lR (ky_lR (ky_lL (ky_lR (ky_lR (ky_lR (ky_lL (ky_lR hG.2.2.2)))))))))))
    | 12, _ => (ky_lR (ky_lL (ky_lL (ky_lR (ky_lR (ky_lL (ky_lR (ky_lR (ky_lR (ky_lL (ky_lR hG.2.2.2)))))))))))
    | 13, _ => (ky_lL (ky_lR (ky_lL (ky_lR (ky_lR (ky_lL (ky_lR (ky_lR (ky_lR (ky_lL (ky_lR hG.2.2.2)))))))))))
    | 14, _ => (ky_lR (ky_lR (ky_lL (ky_lR (ky_lR (ky_lL (ky_lR (ky_lR (ky_lR (ky_lL (ky_lR hG.2.2.2)))))))))))
    | 15, _ => (ky_lL (ky_lL (ky_lR (ky_lR (ky_lR (ky_lL (ky_lR (ky_lR (ky_lR (ky_lL (ky_lR hG.2.2.2)))))))))))
    | 16, _ => (ky_lR (ky_lL (ky_lR (ky_lR (ky_lR (ky_lL (ky_lR (ky_lR (ky_lR (ky_lL (ky_lR hG.2.2.2)))))))))))
    | 17, _ => (ky_lL (ky_lR (ky_lR (ky_lR (ky_lR (ky_lL (ky_lR (ky_lR (ky_lR (ky_lL (ky_lR hG.2.2.2)))))))))))
    | 18, _ => (ky_lR (ky_lR (ky_lR (ky_lR (ky_lR (ky_lL (ky_lR (ky_lR (ky_lR (ky_lL (ky_lR hG.2.2.2)))))))))))
    | 19, _ => (ky_lL (ky_lL (ky_lL (ky_lL (ky_lR (ky_lR (ky_lR (ky_lR (ky_lL (ky_lR hG.2.2.2))))))))))
    | 20, _ => (ky_lL (ky_lR (ky_lL (ky_lL (ky_lL (ky_lR (ky_lR (ky_lR (ky_lR (ky_lL (ky_lR hG.2.2.2)))))))))))
    | 21, _ => (ky_lR (ky_lR (ky_lL (ky_lL (ky_lL (ky_lR (ky_lR (ky_lR (ky_lR (ky_lL (ky_lR hG.2.2.2)))))))))))
    | j + 22, h => absurd h (by omega)
  obtain ⟨adK, adV, hS, hA⟩ := vk_Sof (N := 1) (tm := fun _ => .string "WaistSand" 199) (len := [22]) (byt := [[111, 110, 101, 32, 105, 115, 32, 111, 117, 116, 44, 32, 111, 114, 32, 100, 114, 111, 119, 110, 101, 100]]) (A := ky_A G) (fun i hi => by rw [show i = 0 by omega]; decide) (fun i hi => (ky_lL (ky_lL (ky_lL (ky_lR (ky_lL (ky_lL (ky_lR (ky_lR (ky_lR (ky_lL (ky_lR hG.2.2.2)))))))))))) (fun i hi => (ky_lR (ky_lL (ky_lL (ky_lR (ky_lL (ky_lL (ky_lR (ky_lR (ky_lR (ky_lL (ky_lR hG.2.2.2)))))))))))) (fun i hi => (ky_lL (ky_lR (ky_lL (ky_lR (ky_lL (ky_lL (ky_lR (ky_lR (ky_lR (ky_lL (ky_lR hG.2.2.2)))))))))))) (fun i hi => by rw [show i = 0 by omega]; exact (ky_lR (ky_lR (ky_lL (ky_lR (ky_lL (ky_lL (ky_lR (ky_lR (ky_lR (ky_lL (ky_lR hG.2.2.2)))))))))))) (fun i hi j hj => by rw [show i = 0 by omega] at hj ⊢; exact hel j hj) (fun i j hi hj hij => absurd (by omega) hij) (ky_noA G)
  refine ⟨adK 0, vk_R.of (hG.1 _ (List.mem_append_right _ (List.mem_append_right _ (List.mem_append_right _ (List.mem_append_right _ (List.mem_append_right _ (List.mem_append_left _ (List.mem_of_getElem? (i := 176) rfl)))))))) (hA 0 (by decide)), adV 0, ?_⟩
  exact hS.1 0 (by decide)
set_option maxRecDepth 100000 in
set_option maxHeartbeats 4000000 in
theorem sg_X11_220 {G : ky_GW} (hG : ky_OK G) : ∃ s, vk_R RX11 220 "no such force" s G.2.1 ∧ ky_Str G s [110, 111, 32, 115, 117, 99, 104, 32, 102, 111, 114, 99, 101] := by
  have hel : ∀ j : Nat, j < 13 → (Cond.eq (.elem (.field (.string "WaistSand" 220) "java/lang/String" "value" "[B") (.int (Int32.ofNat j))) (.int (([110, 111, 32, 115, 117, 99, 104, 32, 102, 111, 114, 99, 101] : List Int32).getD j 0))).before G.2.2.1 G.2.1 = true := fun j hj => match j, hj with
    | 0, _ => (ky_lL (ky_lL (ky_lL (ky_lR (ky_lL (ky_lR (ky_lR (ky_lR (ky_lR (ky_lL (ky_lR hG.2.2.2)))))))))))
    | 1, _ => (ky_lR (ky_lL (ky_lL (ky_lR (ky_lL (ky_lR (ky_lR (ky_lR (ky_lR (ky_lL (ky_lR hG.2.2.2)))))))))))
    | 2, _ => (ky_lL (ky_lR (ky_lL (ky_lR (ky_lL (ky_lR (ky_lR (ky_lR (ky_lR (ky_lL (ky_lR hG.2.2.2)))))))))))
    | 3, _ => (ky_lR (ky_lR (ky_lL (ky_lR (ky_lL (ky_lR (ky_lR (ky_lR (ky_lR (ky_lL (ky_lR hG.2.2.2)))))))))))
    | 4, _ => (ky_lL (ky_lL (ky_lR (ky_lR (ky_lL (ky_lR (ky_lR (ky_lR (ky_lR (ky_lL (ky_lR hG.2.2.2)))))))))))
    | 5, _ => (ky_lR (ky_lL (ky_lR (ky_lR (ky_lL (ky_lR (ky_lR (ky_lR (ky_lR (ky_lL (ky_lR hG.2.2.2)))))))))))
    | 6, _ => (ky_lL (ky_lR (ky_lR (ky_lR (ky_lL (ky_lR (ky_lR (ky_lR (ky_lR (ky_lL (ky_lR hG.2.2.2)))))))))))
    | 7, _ => (ky_lR (ky_lR (ky_lR (ky_lR (ky_lL (ky_lR (ky_lR (ky_lR (ky_lR (ky_lL (ky_lR hG.2.2.2)))))))))))
    | 8, _ => (ky_lL (ky_lL (ky_lL (ky_lR (ky_lR (ky_lR (ky_lR (ky_lR (ky_lL (ky_lR hG.2.2.2))))))))))
    | 9, _ => (ky_lL (ky_lR (ky_lL (ky_lL (ky_lR (ky_lR (ky_lR (ky_lR (ky_lR (ky_lL (ky_lR hG.2.2.2)))))))))))
    | 10, _ => (ky_lR (ky_lR (ky_lL (ky_lL (ky_lR (ky_lR (ky_lR (ky_lR (ky_lR (ky_lL (ky_lR hG.2.2.2)))))))))))
    | 11, _ => (ky_lL (ky_lL (ky_lR (ky_lL (ky_lR (ky_lR (ky_lR (ky_lR (ky_lR (ky_lL (ky_lR hG.2.2.2)))))))))))
    | 12, _ => (ky_lR (ky_lL (ky_lR (ky_lL (ky_lR (ky_lR (ky_lR (ky_lR (ky_lR (ky_lL (ky_lR hG.2.2.2)))))))))))
    | j + 13, h => absurd h (by omega)
  obtain ⟨adK, adV, hS, hA⟩ := vk_Sof (N := 1) (tm := fun _ => .string "WaistSand" 220) (len := [13]) (byt := [[110, 111, 32, 115, 117, 99, 104, 32, 102, 111, 114, 99, 101]]) (A := ky_A G) (fun i hi => by rw [show i = 0 by omega]; decide) (fun i hi => (ky_lL (ky_lL (ky_lR (ky_lL (ky_lL (ky_lR (ky_lR (ky_lR (ky_lR (ky_lL (ky_lR hG.2.2.2)))))))))))) (fun i hi => (ky_lR (ky_lL (ky_lR (ky_lL (ky_lL (ky_lR (ky_lR (ky_lR (ky_lR (ky_lL (ky_lR hG.2.2.2)))))))))))) (fun i hi => (ky_lL (ky_lR (ky_lR (ky_lL (ky_lL (ky_lR (ky_lR (ky_lR (ky_lR (ky_lL (ky_lR hG.2.2.2)))))))))))) (fun i hi => by rw [show i = 0 by omega]; exact (ky_lR (ky_lR (ky_lR (ky_lL (ky_lL (ky_lR (ky_lR (ky_lR (ky_lR (ky_lL (ky_lR hG.2.2.2)))))))))))) (fun i hi j hj => by rw [show i = 0 by omega] at hj ⊢; exact hel j hj) (fun i j hi hj hij => absurd (by omega) hij) (ky_noA G)
  refine ⟨adK 0, vk_R.of (hG.1 _ (List.mem_append_right _ (List.mem_append_right _ (List.mem_append_right _ (List.mem_append_right _ (List.mem_append_right _ (List.mem_append_left _ (List.mem_of_getElem? (i := 233) rfl)))))))) (hA 0 (by decide)), adV 0, ?_⟩
  exact hS.1 0 (by decide)
set_option maxRecDepth 100000 in
set_option maxHeartbeats 4000000 in
theorem sg_X11_231 {G : ky_GW} (hG : ky_OK G) : ∃ s, vk_R RX11 231 "one is drowned" s G.2.1 ∧ ky_Str G s [111, 110, 101, 32, 105, 115, 32, 100, 114, 111, 119, 110, 101, 100] := by
  have hel : ∀ j : Nat, j < 14 → (Cond.eq (.elem (.field (.string "WaistSand" 231) "java/lang/String" "value" "[B") (.int (Int32.ofNat j))) (.int (([111, 110, 101, 32, 105, 115, 32, 100, 114, 111, 119, 110, 101, 100] : List Int32).getD j 0))).before G.2.2.1 G.2.1 = true := fun j hj => match j, hj with
    | 0, _ => (ky_lL (ky_lR (ky_lL (ky_lR (ky_lR (ky_lR (ky_lR (ky_lR (ky_lR (ky_lL (ky_lR hG.2.2.2)))))))))))
    | 1, _ => (ky_lR (ky_lR (ky_lL (ky_lR (ky_lR (ky_lR (ky_lR (ky_lR (ky_lR (ky_lL (ky_lR hG.2.2.2)))))))))))
    | 2, _ => (ky_lL (ky_lL (ky_lR (ky_lR (ky_lR (ky_lR (ky_lR (ky_lR (ky_lR (ky_lL (ky_lR hG.2.2.2)))))))))))
    | 3, _ => (ky_lR (ky_lL (ky_lR (ky_lR (ky_lR (ky_lR (ky_lR (ky_lR (ky_lR (ky_lL (ky_lR hG.2.2.2)))))))))))
    | 4, _ => (ky_lL (ky_lR (ky_lR (ky_lR (ky_lR (ky_lR (ky_lR (ky_lR (ky_lR (ky_lL (ky_lR hG.2.2.2)))))))))))
    | 5, _ => (ky_lR (ky_lR (ky_lR (ky_lR (ky_lR (ky_lR (ky_lR (ky_lR (ky_lR (ky_lL (ky_lR hG.2.2.2)))))))))))
    | 6, _ => (ky_lL (ky_lL (ky_lL (ky_lL (ky_lL (ky_lL (ky_lL (ky_lL (ky_lR (ky_lR hG.2.2.2))))))))))
    | 7, _ => (ky_lL (ky_lR (ky_lL (ky_lL (ky_lL (ky_lL (ky_lL (ky_lL (ky_lL (ky_lR (ky_lR hG.2.2.2)))))))))))
    | 8, _ => (ky_lR (ky_lR (ky_lL (ky_lL (ky_lL (ky_lL (ky_lL (ky_lL (ky_lL (ky_lR (ky_lR hG.2.2.2)))))))))))
    | 9, _ => (ky_lL (ky_lL (ky_lR (ky_lL (ky_lL (ky_lL (ky_lL (ky_lL (ky_lL (ky_lR (ky_lR hG.2.2.2)))))))))))
    | 10, _ => (ky_lR (ky_lL (ky_lR (ky_lL (ky_lL (ky_lL (ky_lL (ky_lL (ky_lL (ky_lR (ky_lR hG.2.2.2)))))))))))
    | 11, _ => (ky_lL (ky_lR (ky_lR (ky_lL (ky_lL (ky_lL (ky_lL (ky_lL (ky_lL (ky_lR (ky_lR hG.2.2.2)))))))))))
    | 12, _ => (ky_lR (ky_lR (ky_lR (ky_lL (ky_lL (ky_lL (ky_lL (ky_lL (ky_lL (ky_lR (ky_lR hG.2.2.2)))))))))))
    | 13, _ => (ky_lL (ky_lL (ky_lL (ky_lR (ky_lL (ky_lL (ky_lL (ky_lL (ky_lL (ky_lR (ky_lR hG.2.2.2)))))))))))
    | j + 14, h => absurd h (by omega)
  obtain ⟨adK, adV, hS, hA⟩ := vk_Sof (N := 1) (tm := fun _ => .string "WaistSand" 231) (len := [14]) (byt := [[111, 110, 101, 32, 105, 115, 32, 100, 114, 111, 119, 110, 101, 100]]) (A := ky_A G) (fun i hi => by rw [show i = 0 by omega]; decide) (fun i hi => (ky_lL (ky_lR (ky_lR (ky_lL (ky_lR (ky_lR (ky_lR (ky_lR (ky_lR (ky_lL (ky_lR hG.2.2.2)))))))))))) (fun i hi => (ky_lR (ky_lR (ky_lR (ky_lL (ky_lR (ky_lR (ky_lR (ky_lR (ky_lR (ky_lL (ky_lR hG.2.2.2)))))))))))) (fun i hi => (ky_lL (ky_lL (ky_lL (ky_lR (ky_lR (ky_lR (ky_lR (ky_lR (ky_lR (ky_lL (ky_lR hG.2.2.2)))))))))))) (fun i hi => by rw [show i = 0 by omega]; exact (ky_lR (ky_lL (ky_lL (ky_lR (ky_lR (ky_lR (ky_lR (ky_lR (ky_lR (ky_lL (ky_lR hG.2.2.2)))))))))))) (fun i hi j hj => by rw [show i = 0 by omega] at hj ⊢; exact hel j hj) (fun i j hi hj hij => absurd (by omega) hij) (ky_noA G)
  refine ⟨adK 0, vk_R.of (hG.1 _ (List.mem_append_right _ (List.mem_append_right _ (List.mem_append_right _ (List.mem_append_right _ (List.mem_append_right _ (List.mem_append_right _ (List.mem_append_left _ (List.mem_of_getElem? (i := 20) rfl))))))))) (hA 0 (by decide)), adV 0, ?_⟩
  exact hS.1 0 (by decide)
set_option maxRecDepth 100000 in
set_option maxHeartbeats 4000000 in
theorem sg_X11_245 {G : ky_GW} (hG : ky_OK G) : ∃ s, vk_R RX11 245 "no such person or cell" s G.2.1 ∧ ky_Str G s [110, 111, 32, 115, 117, 99, 104, 32, 112, 101, 114, 115, 111, 110, 32, 111, 114, 32, 99, 101, 108, 108] := by
  have hel : ∀ j : Nat, j < 22 → (Cond.eq (.elem (.field (.string "WaistSand" 245) "java/lang/String" "value" "[B") (.int (Int32.ofNat j))) (.int (([110, 111, 32, 115, 117, 99, 104, 32, 112, 101, 114, 115, 111, 110, 32, 111, 114, 32, 99, 101, 108, 108] : List Int32).getD j 0))).before G.2.2.1 G.2.1 = true := fun j hj => match j, hj with
    | 0, _ => (ky_lR (ky_lL (ky_lR (ky_lR (ky_lL (ky_lL (ky_lL (ky_lL (ky_lL (ky_lR (ky_lR hG.2.2.2)))))))))))
    | 1, _ => (ky_lL (ky_lR (ky_lR (ky_lR (ky_lL (ky_lL (ky_lL (ky_lL (ky_lL (ky_lR (ky_lR hG.2.2.2)))))))))))
    | 2, _ => (ky_lR (ky_lR (ky_lR (ky_lR (ky_lL (ky_lL (ky_lL (ky_lL (ky_lL (ky_lR (ky_lR hG.2.2.2)))))))))))
    | 3, _ => (ky_lL (ky_lL (ky_lL (ky_lR (ky_lL (ky_lL (ky_lL (ky_lL (ky_lR (ky_lR hG.2.2.2))))))))))
    | 4, _ => (ky_lL (ky_lR (ky_lL (ky_lL (ky_lR (ky_lL (ky_lL (ky_lL (ky_lL (ky_lR (ky_lR hG.2.2.2)))))))))))
    | 5, _ => (ky_lR (ky_lR (ky_lL (ky_lL (ky_lR (ky_lL (ky_lL (ky_lL (ky_lL (ky_lR (ky_lR hG.2.2.2)))))))))))
    | 6, _ => (ky_lL (ky_lL (ky_lR (ky_lL (ky_lR (ky_lL (ky_lL (ky_lL (ky_lL (ky_lR (ky_lR hG.2.2.2)))))))))))
    | 7, _ => (ky_lR (ky_lL (ky_lR (ky_lL (ky_lR (ky_lL (ky_lL (ky_lL (ky_lL (ky_lR (ky_lR hG.2.2.2)))))))))))
    | 8, _ => (ky_lL (ky_lR (ky_lR (ky_lL (ky_lR (ky_lL (ky_lL (ky_lL (ky_lL (ky_lR (ky_lR hG.2.2.2)))))))))))
    | 9, _ => (ky_lR (ky_lR (ky_lR (ky_lL (ky_lR (ky_lL (ky_lL (ky_lL (ky_lL (ky_lR (ky_lR hG.2.2.2)))))))))))
    | 10, _ => (ky_lL (ky_lL (ky_lL (ky_lR (ky_lR (ky_lL (ky_lL (ky_lL (ky_lL (ky_lR (ky_lR hG.2.2.2)))))))))))
    | 11, _ => (ky_lR (ky_lL (ky_lL (ky_lR (ky_lR (ky_lL (ky_lL (ky_lL (ky_lL (ky_lR (ky_lR hG.2.2.2)))))))))))
    | 12, _ => (ky_lL (ky_lR (ky_lL (ky_lR (ky_lR (ky_lL (ky_lL (ky_lL (ky_lL (ky_lR (ky_lR hG.2.2.2)))))))))))
    | 13, _ => (ky_lR (ky_lR (ky_lL (ky_lR (ky_lR (ky_lL (ky_lL (ky_lL (ky_lL (ky_lR (ky_lR hG.2.2.2)))))))))))
    | 14, _ => (ky_lL (ky_lL (ky_lR (ky_lR (ky_lR (ky_lL (ky_lL (ky_lL (ky_lL (ky_lR (ky_lR hG.2.2.2)))))))))))
    | 15, _ => (ky_lR (ky_lL (ky_lR (ky_lR (ky_lR (ky_lL (ky_lL (ky_lL (ky_lL (ky_lR (ky_lR hG.2.2.2)))))))))))
    | 16, _ => (ky_lL (ky_lR (ky_lR (ky_lR (ky_lR (ky_lL (ky_lL (ky_lL (ky_lL (ky_lR (ky_lR hG.2.2.2)))))))))))
    | 17, _ => (ky_lR (ky_lR (ky_lR (ky_lR (ky_lR (ky_lL (ky_lL (ky_lL (ky_lL (ky_lR (ky_lR hG.2.2.2)))))))))))
    | 18, _ => (ky_lL (ky_lL (ky_lL (ky_lL (ky_lR (ky_lL (ky_lL (ky_lL (ky_lR (ky_lR hG.2.2.2))))))))))
    | 19, _ => (ky_lL (ky_lR (ky_lL (ky_lL (ky_lL (ky_lR (ky_lL (ky_lL (ky_lL (ky_lR (ky_lR hG.2.2.2)))))))))))
    | 20, _ => (ky_lR (ky_lR (ky_lL (ky_lL (ky_lL (ky_lR (ky_lL (ky_lL (ky_lL (ky_lR (ky_lR hG.2.2.2)))))))))))
    | 21, _ => (ky_lL (ky_lL (ky_lR (ky_lL (ky_lL (ky_lR (ky_lL (ky_lL (ky_lL (ky_lR (ky_lR hG.2.2.2)))))))))))
    | j + 22, h => absurd h (by omega)
  obtain ⟨adK, adV, hS, hA⟩ := vk_Sof (N := 1) (tm := fun _ => .string "WaistSand" 245) (len := [22]) (byt := [[110, 111, 32, 115, 117, 99, 104, 32, 112, 101, 114, 115, 111, 110, 32, 111, 114, 32, 99, 101, 108, 108]]) (A := ky_A G) (fun i hi => by rw [show i = 0 by omega]; decide) (fun i hi => (ky_lR (ky_lL (ky_lL (ky_lR (ky_lL (ky_lL (ky_lL (ky_lL (ky_lL (ky_lR (ky_lR hG.2.2.2)))))))))))) (fun i hi => (ky_lL (ky_lR (ky_lL (ky_lR (ky_lL (ky_lL (ky_lL (ky_lL (ky_lL (ky_lR (ky_lR hG.2.2.2)))))))))))) (fun i hi => (ky_lR (ky_lR (ky_lL (ky_lR (ky_lL (ky_lL (ky_lL (ky_lL (ky_lL (ky_lR (ky_lR hG.2.2.2)))))))))))) (fun i hi => by rw [show i = 0 by omega]; exact (ky_lL (ky_lL (ky_lR (ky_lR (ky_lL (ky_lL (ky_lL (ky_lL (ky_lL (ky_lR (ky_lR hG.2.2.2)))))))))))) (fun i hi j hj => by rw [show i = 0 by omega] at hj ⊢; exact hel j hj) (fun i j hi hj hij => absurd (by omega) hij) (ky_noA G)
  refine ⟨adK 0, vk_R.of (hG.1 _ (List.mem_append_right _ (List.mem_append_right _ (List.mem_append_right _ (List.mem_append_right _ (List.mem_append_right _ (List.mem_append_right _ (List.mem_append_left _ (List.mem_of_getElem? (i := 39) rfl))))))))) (hA 0 (by decide)), adV 0, ?_⟩
  exact hS.1 0 (by decide)
set_option maxRecDepth 100000 in
set_option maxHeartbeats 4000000 in
theorem sg_X11_251 {G : ky_GW} (hG : ky_OK G) : ∃ s, vk_R RX11 251 "the cell is not beside the own one" s G.2.1 ∧ ky_Str G s [116, 104, 101, 32, 99, 101, 108, 108, 32, 105, 115, 32, 110, 111, 116, 32, 98, 101, 115, 105, 100, 101, 32, 116, 104, 101, 32, 111, 119, 110, 32, 111, 110, 101] := by
  have hel : ∀ j : Nat, j < 34 → (Cond.eq (.elem (.field (.string "WaistSand" 251) "java/lang/String" "value" "[B") (.int (Int32.ofNat j))) (.int (([116, 104, 101, 32, 99, 101, 108, 108, 32, 105, 115, 32, 110, 111, 116, 32, 98, 101, 115, 105, 100, 101, 32, 116, 104, 101, 32, 111, 119, 110, 32, 111, 110, 101] : List Int32).getD j 0))).before G.2.2.1 G.2.1 = true := fun j hj => match j, hj with
    | 0, _ => (ky_lR (ky_lL (ky_lL (ky_lR (ky_lL (ky_lR (ky_lL (ky_lL (ky_lL (ky_lR (ky_lR hG.2.2.2)))))))))))
    | 1, _ => (ky_lL (ky_lR (ky_lL (ky_lR (ky_lL (ky_lR (ky_lL (ky_lL (ky_lL (ky_lR (ky_lR hG.2.2.2)))))))))))
    | 2, _ => (ky_lR (ky_lR (ky_lL (ky_lR (ky_lL (ky_lR (ky_lL (ky_lL (ky_lL (ky_lR (ky_lR hG.2.2.2)))))))))))
    | 3, _ => (ky_lL (ky_lL (ky_lR (ky_lR (ky_lL (ky_lR (ky_lL (ky_lL (ky_lL (ky_lR (ky_lR hG.2.2.2)))))))))))
    | 4, _ => (ky_lR (ky_lL (ky_lR (ky_lR (ky_lL (ky_lR (ky_lL (ky_lL (ky_lL (ky_lR (ky_lR hG.2.2.2)))))))))))
    | 5, _ => (ky_lL (ky_lR (ky_lR (ky_lR (ky_lL (ky_lR (ky_lL (ky_lL (ky_lL (ky_lR (ky_lR hG.2.2.2)))))))))))
    | 6, _ => (ky_lR (ky_lR (ky_lR (ky_lR (ky_lL (ky_lR (ky_lL (ky_lL (ky_lL (ky_lR (ky_lR hG.2.2.2)))))))))))
    | 7, _ => (ky_lL (ky_lL (ky_lL (ky_lR (ky_lR (ky_lL (ky_lL (ky_lL (ky_lR (ky_lR hG.2.2.2))))))))))
    | 8, _ => (ky_lL (ky_lR (ky_lL (ky_lL (ky_lR (ky_lR (ky_lL (ky_lL (ky_lL (ky_lR (ky_lR hG.2.2.2)))))))))))
    | 9, _ => (ky_lR (ky_lR (ky_lL (ky_lL (ky_lR (ky_lR (ky_lL (ky_lL (ky_lL (ky_lR (ky_lR hG.2.2.2)))))))))))
    | 10, _ => (ky_lL (ky_lL (ky_lR (ky_lL (ky_lR (ky_lR (ky_lL (ky_lL (ky_lL (ky_lR (ky_lR hG.2.2.2)))))))))))
    | 11, _ => (ky_lR (ky_lL (ky_lR (ky_lL (ky_lR (ky_lR (ky_lL (ky_lL (ky_lL (ky_lR (ky_lR hG.2.2.2)))))))))))
    | 12, _ => (ky_lL (ky_lR (ky_lR (ky_lL (ky_lR (ky_lR (ky_lL (ky_lL (ky_lL (ky_lR (ky_lR hG.2.2.2)))))))))))
    | 13, _ => (ky_lR (ky_lR (ky_lR (ky_lL (ky_lR (ky_lR (ky_lL (ky_lL (ky_lL (ky_lR (ky_lR hG.2.2.2)))))))))))
    | 14, _ => (ky_lL (ky_lL (ky_lL (ky_lR (ky_lR (ky_lR (ky_lL (ky_lL (ky_lL (ky_lR (ky_lR hG.2.2.2)))))))))))
    | 15, _ => (ky_lR (ky_lL (ky_lL (ky_lR (ky_lR (ky_lR (ky_lL (ky_lL (ky_lL (ky_lR (ky_lR hG.2.2.2)))))))))))
    | 16, _ => (ky_lL (ky_lR (ky_lL (ky_lR (ky_lR (ky_lR (ky_lL (ky_lL (ky_lL (ky_lR (ky_lR hG.2.2.2)))))))))))
    | 17, _ => (ky_lR (ky_lR (ky_lL (ky_lR (ky_lR (ky_lR (ky_lL (ky_lL (ky_lL (ky_lR (ky_lR hG.2.2.2)))))))))))
    | 18, _ => (ky_lL (ky_lL (ky_lR (ky_lR (ky_lR (ky_lR (ky_lL (ky_lL (ky_lL (ky_lR (ky_lR hG.2.2.2)))))))))))
    | 19, _ => (ky_lR (ky_lL (ky_lR (ky_lR (ky_lR (ky_lR (ky_lL (ky_lL (ky_lL (ky_lR (ky_lR hG.2.2.2)))))))))))
    | 20, _ => (ky_lL (ky_lR (ky_lR (ky_lR (ky_lR (ky_lR (ky_lL (ky_lL (ky_lL (ky_lR (ky_lR hG.2.2.2)))))))))))
    | 21, _ => (ky_lR (ky_lR (ky_lR (ky_lR (ky_lR (ky_lR (ky_lL (ky_lL (ky_lL (ky_lR (ky_lR hG.2.2.2)))))))))))
    | 22, _ => (ky_lL (ky_lL (ky_lL (ky_lL (ky_lL (ky_lR (ky_lL (ky_lL (ky_lR (ky_lR hG.2.2.2))))))))))
    | 23, _ => (ky_lL (ky_lR (ky_lL (ky_lL (ky_lL (ky_lL (ky_lR (ky_lL (ky_lL (ky_lR (ky_lR hG.2.2.2)))))))))))
    | 24, _ => (ky_lR (ky_lR (ky_lL (ky_lL (ky_lL (ky_lL (ky_lR (ky_lL (ky_lL (ky_lR (ky_lR hG.2.2.2)))))))))))
    | 25, _ => (ky_lL (ky_lL (ky_lR (ky_lL (ky_lL (ky_lL (ky_lR (ky_lL (ky_lL (ky_lR (ky_lR hG.2.2.2)))))))))))
    | 26, _ => (ky_lR (ky_lL (ky_lR (ky_lL (ky_lL (ky_lL (ky_lR (ky_lL (ky_lL (ky_lR (ky_lR hG.2.2.2)))))))))))
    | 27, _ => (ky_lL (ky_lR (ky_lR (ky_lL (ky_lL (ky_lL (ky_lR (ky_lL (ky_lL (ky_lR (ky_lR hG.2.2.2)))))))))))
    | 28, _ => (ky_lR (ky_lR (ky_lR (ky_lL (ky_lL (ky_lL (ky_lR (ky_lL (ky_lL (ky_lR (ky_lR hG.2.2.2)))))))))))
    | 29, _ => (ky_lL (ky_lL (ky_lL (ky_lR (ky_lL (ky_lL (ky_lR (ky_lL (ky_lL (ky_lR (ky_lR hG.2.2.2)))))))))))
    | 30, _ => (ky_lR (ky_lL (ky_lL (ky_lR (ky_lL (ky_lL (ky_lR (ky_lL (ky_lL (ky_lR (ky_lR hG.2.2.2)))))))))))
    | 31, _ => (ky_lL (ky_lR (ky_lL (ky_lR (ky_lL (ky_lL (ky_lR (ky_lL (ky_lL (ky_lR (ky_lR hG.2.2.2)))))))))))
    | 32, _ => (ky_lR (ky_lR (ky_lL (ky_lR (ky_lL (ky_lL (ky_lR (ky_lL (ky_lL (ky_lR (ky_lR hG.2.2.2)))))))))))
    | 33, _ => (ky_lL (ky_lL (ky_lR (ky_lR (ky_lL (ky_lL (ky_lR (ky_lL (ky_lL (ky_lR (ky_lR hG.2.2.2)))))))))))
    | j + 34, h => absurd h (by omega)
  obtain ⟨adK, adV, hS, hA⟩ := vk_Sof (N := 1) (tm := fun _ => .string "WaistSand" 251) (len := [34]) (byt := [[116, 104, 101, 32, 99, 101, 108, 108, 32, 105, 115, 32, 110, 111, 116, 32, 98, 101, 115, 105, 100, 101, 32, 116, 104, 101, 32, 111, 119, 110, 32, 111, 110, 101]]) (A := ky_A G) (fun i hi => by rw [show i = 0 by omega]; decide) (fun i hi => (ky_lR (ky_lL (ky_lR (ky_lL (ky_lL (ky_lR (ky_lL (ky_lL (ky_lL (ky_lR (ky_lR hG.2.2.2)))))))))))) (fun i hi => (ky_lL (ky_lR (ky_lR (ky_lL (ky_lL (ky_lR (ky_lL (ky_lL (ky_lL (ky_lR (ky_lR hG.2.2.2)))))))))))) (fun i hi => (ky_lR (ky_lR (ky_lR (ky_lL (ky_lL (ky_lR (ky_lL (ky_lL (ky_lL (ky_lR (ky_lR hG.2.2.2)))))))))))) (fun i hi => by rw [show i = 0 by omega]; exact (ky_lL (ky_lL (ky_lL (ky_lR (ky_lL (ky_lR (ky_lL (ky_lL (ky_lL (ky_lR (ky_lR hG.2.2.2)))))))))))) (fun i hi j hj => by rw [show i = 0 by omega] at hj ⊢; exact hel j hj) (fun i j hi hj hij => absurd (by omega) hij) (ky_noA G)
  refine ⟨adK 0, vk_R.of (hG.1 _ (List.mem_append_right _ (List.mem_append_right _ (List.mem_append_right _ (List.mem_append_right _ (List.mem_append_right _ (List.mem_append_right _ (List.mem_append_left _ (List.mem_of_getElem? (i := 41) rfl))))))))) (hA 0 (by decide)), adV 0, ?_⟩
  exact hS.1 0 (by decide)
set_option maxRecDepth 100000 in
set_option maxHeartbeats 4000000 in
theorem sg_X11_256 {G : ky_GW} (hG : ky_OK G) : ∃ s, vk_R RX11 256 "there is no board" s G.2.1 ∧ ky_Str G s [116, 104, 101, 114, 101, 32, 105, 115, 32, 110, 111, 32, 98, 111, 97, 114, 100] := by
  have hel : ∀ j : Nat, j < 17 → (Cond.eq (.elem (.field (.string "WaistSand" 256) "java/lang/String" "value" "[B") (.int (Int32.ofNat j))) (.int (([116, 104, 101, 114, 101, 32, 105, 115, 32, 110, 111, 32, 98, 111, 97, 114, 100] : List Int32).getD j 0))).before G.2.2.1 G.2.1 = true := fun j hj => match j, hj with
    | 0, _ => (ky_lL (ky_lR (ky_lL (ky_lL (ky_lR (ky_lL (ky_lR (ky_lL (ky_lL (ky_lR (ky_lR hG.2.2.2)))))))))))
    | 1, _ => (ky_lR (ky_lR (ky_lL (ky_lL (ky_lR (ky_lL (ky_lR (ky_lL (ky_lL (ky_lR (ky_lR hG.2.2.2)))))))))))
    | 2, _ => (ky_lL (ky_lL (ky_lR (ky_lL (ky_lR (ky_lL (ky_lR (ky_lL (ky_lL (ky_lR (ky_lR hG.2.2.2)))))))))))
    | 3, _ => (ky_lR (ky_lL (ky_lR (ky_lL (ky_lR (ky_lL (ky_lR (ky_lL (ky_lL (ky_lR (ky_lR hG.2.2.2)))))))))))
    | 4, _ => (ky_lL (ky_lR (ky_lR (ky_lL (ky_lR (ky_lL (ky_lR (ky_lL (ky_lL (ky_lR (ky_lR hG.2.2.2)))))))))))
    | 5, _ => (ky_lR (ky_lR (ky_lR (ky_lL (ky_lR (ky_lL (ky_lR (ky_lL (ky_lL (ky_lR (ky_lR hG.2.2.2)))))))))))
    | 6, _ => (ky_lL (ky_lL (ky_lL (ky_lR (ky_lR (ky_lL (ky_lR (ky_lL (ky_lL (ky_lR (ky_lR hG.2.2.2)))))))))))
    | 7, _ => (ky_lR (ky_lL (ky_lL (ky_lR (ky_lR (ky_lL (ky_lR (ky_lL (ky_lL (ky_lR (ky_lR hG.2.2.2)))))))))))
    | 8, _ => (ky_lL (ky_lR (ky_lL (ky_lR (ky_lR (ky_lL (ky_lR (ky_lL (ky_lL (ky_lR (ky_lR hG.2.2.2)))))))))))
    | 9, _ => (ky_lR (ky_lR (ky_lL (ky_lR (ky_lR (ky_lL (ky_lR (ky_lL (ky_lL (ky_lR (ky_lR hG.2.2.2)))))))))))
    | 10, _ => (ky_lL (ky_lL (ky_lR (ky_lR (ky_lR (ky_lL (ky_lR (ky_lL (ky_lL (ky_lR (ky_lR hG.2.2.2)))))))))))
    | 11, _ => (ky_lR (ky_lL (ky_lR (ky_lR (ky_lR (ky_lL (ky_lR (ky_lL (ky_lL (ky_lR (ky_lR hG.2.2.2)))))))))))
    | 12, _ => (ky_lL (ky_lR (ky_lR (ky_lR (ky_lR (ky_lL (ky_lR (ky_lL (ky_lL (ky_lR (ky_lR hG.2.2.2)))))))))))
    | 13, _ => (ky_lR (ky_lR (ky_lR (ky_lR (ky_lR (ky_lL (ky_lR (ky_lL (ky_lL (ky_lR (ky_lR hG.2.2.2)))))))))))
    | 14, _ => (ky_lL (ky_lL (ky_lL (ky_lL (ky_lR (ky_lR (ky_lL (ky_lL (ky_lR (ky_lR hG.2.2.2))))))))))
    | 15, _ => (ky_lL (ky_lR (ky_lL (ky_lL (ky_lL (ky_lR (ky_lR (ky_lL (ky_lL (ky_lR (ky_lR hG.2.2.2)))))))))))
    | 16, _ => (ky_lR (ky_lR (ky_lL (ky_lL (ky_lL (ky_lR (ky_lR (ky_lL (ky_lL (ky_lR (ky_lR hG.2.2.2)))))))))))
    | j + 17, h => absurd h (by omega)
  obtain ⟨adK, adV, hS, hA⟩ := vk_Sof (N := 1) (tm := fun _ => .string "WaistSand" 256) (len := [17]) (byt := [[116, 104, 101, 114, 101, 32, 105, 115, 32, 110, 111, 32, 98, 111, 97, 114, 100]]) (A := ky_A G) (fun i hi => by rw [show i = 0 by omega]; decide) (fun i hi => (ky_lR (ky_lL (ky_lR (ky_lR (ky_lL (ky_lL (ky_lR (ky_lL (ky_lL (ky_lR (ky_lR hG.2.2.2)))))))))))) (fun i hi => (ky_lL (ky_lR (ky_lR (ky_lR (ky_lL (ky_lL (ky_lR (ky_lL (ky_lL (ky_lR (ky_lR hG.2.2.2)))))))))))) (fun i hi => (ky_lR (ky_lR (ky_lR (ky_lR (ky_lL (ky_lL (ky_lR (ky_lL (ky_lL (ky_lR (ky_lR hG.2.2.2)))))))))))) (fun i hi => by rw [show i = 0 by omega]; exact (ky_lL (ky_lL (ky_lL (ky_lR (ky_lL (ky_lR (ky_lL (ky_lL (ky_lR (ky_lR hG.2.2.2))))))))))) (fun i hi j hj => by rw [show i = 0 by omega] at hj ⊢; exact hel j hj) (fun i j hi hj hij => absurd (by omega) hij) (ky_noA G)
  refine ⟨adK 0, vk_R.of (hG.1 _ (List.mem_append_right _ (List.mem_append_right _ (List.mem_append_right _ (List.mem_append_right _ (List.mem_append_right _ (List.mem_append_right _ (List.mem_append_left _ (List.mem_of_getElem? (i := 49) rfl))))))))) (hA 0 (by decide)), adV 0, ?_⟩
  exact hS.1 0 (by decide)
set_option maxRecDepth 100000 in
set_option maxHeartbeats 4000000 in
theorem sg_X11_261 {G : ky_GW} (hG : ky_OK G) : ∃ s, vk_R RX11 261 "no such number of moves" s G.2.1 ∧ ky_Str G s [110, 111, 32, 115, 117, 99, 104, 32, 110, 117, 109, 98, 101, 114, 32, 111, 102, 32, 109, 111, 118, 101, 115] := by
  have hel : ∀ j : Nat, j < 23 → (Cond.eq (.elem (.field (.string "WaistSand" 261) "java/lang/String" "value" "[B") (.int (Int32.ofNat j))) (.int (([110, 111, 32, 115, 117, 99, 104, 32, 110, 117, 109, 98, 101, 114, 32, 111, 102, 32, 109, 111, 118, 101, 115] : List Int32).getD j 0))).before G.2.2.1 G.2.1 = true := fun j hj => match j, hj with
    | 0, _ => (ky_lL (ky_lL (ky_lL (ky_lR (ky_lL (ky_lR (ky_lR (ky_lL (ky_lL (ky_lR (ky_lR hG.2.2.2)))))))))))
    | 1, _ => (ky_lR (ky_lL (ky_lL (ky_lR (ky_lL (ky_lR (ky_lR (ky_lL (ky_lL (ky_lR (ky_lR hG.2.2.2)))))))))))
    | 2, _ => (ky_lL (ky_lR (ky_lL (ky_lR (ky_lL (ky_lR (ky_lR (ky_lL (ky_lL (ky_lR (ky_lR hG.2.2.2)))))))))))
    | 3, _ => (ky_lR (ky_lR (ky_lL (ky_lR (ky_lL (ky_lR (ky_lR (ky_lL (ky_lL (ky_lR (ky_lR hG.2.2.2)))))))))))
    | 4, _ => (ky_lL (ky_lL (ky_lR (ky_lR (ky_lL (ky_lR (ky_lR (ky_lL (ky_lL (ky_lR (ky_lR hG.2.2.2)))))))))))
    | 5, _ => (ky_lR (ky_lL (ky_lR (ky_lR (ky_lL (ky_lR (ky_lR (ky_lL (ky_lL (ky_lR (ky_lR hG.2.2.2)))))))))))
    | 6, _ => (ky_lL (ky_lR (ky_lR (ky_lR (ky_lL (ky_lR (ky_lR (ky_lL (ky_lL (ky_lR (ky_lR hG.2.2.2)))))))))))
    | 7, _ => (ky_lR (ky_lR (ky_lR (ky_lR (ky_lL (ky_lR (ky_lR (ky_lL (ky_lL (ky_lR (ky_lR hG.2.2.2)))))))))))
    | 8, _ => (ky_lL (ky_lL (ky_lL (ky_lR (ky_lR (ky_lR (ky_lL (ky_lL (ky_lR (ky_lR hG.2.2.2))))))))))
    | 9, _ => (ky_lL (ky_lR (ky_lL (ky_lL (ky_lR (ky_lR (ky_lR (ky_lL (ky_lL (ky_lR (ky_lR hG.2.2.2)))))))))))
    | 10, _ => (ky_lR (ky_lR (ky_lL (ky_lL (ky_lR (ky_lR (ky_lR (ky_lL (ky_lL (ky_lR (ky_lR hG.2.2.2)))))))))))
    | 11, _ => (ky_lL (ky_lL (ky_lR (ky_lL (ky_lR (ky_lR (ky_lR (ky_lL (ky_lL (ky_lR (ky_lR hG.2.2.2)))))))))))
    | 12, _ => (ky_lR (ky_lL (ky_lR (ky_lL (ky_lR (ky_lR (ky_lR (ky_lL (ky_lL (ky_lR (ky_lR hG.2.2.2)))))))))))
    | 13, _ => (ky_lL (ky_lR (ky_lR (ky_lL (ky_lR (ky_lR (ky_lR (ky_lL (ky_lL (ky_lR (ky_lR hG.2.2.2)))))))))))
    | 14, _ => (ky_lR (ky_lR (ky_lR (ky_lL (ky_lR (ky_lR (ky_lR (ky_lL (ky_lL (ky_lR (ky_lR hG.2.2.2)))))))))))
    | 15, _ => (ky_lL (ky_lL (ky_lL (ky_lR (ky_lR (ky_lR (ky_lR (ky_lL (ky_lL (ky_lR (ky_lR hG.2.2.2)))))))))))
    | 16, _ => (ky_lR (ky_lL (ky_lL (ky_lR (ky_lR (ky_lR (ky_lR (ky_lL (ky_lL (ky_lR (ky_lR hG.2.2.2)))))))))))
    | 17, _ => (ky_lL (ky_lR (ky_lL (ky_lR (ky_lR (ky_lR (ky_lR (ky_lL (ky_lL (ky_lR (ky_lR hG.2.2.2)))))))))))
    | 18, _ => (ky_lR (ky_lR (ky_lL (ky_lR (ky_lR (ky_lR (ky_lR (ky_lL (ky_lL (ky_lR (ky_lR hG.2.2.2)))))))))))
    | 19, _ => (ky_lL (ky_lL (ky_lR (ky_lR (ky_lR (ky_lR (ky_lR (ky_lL (ky_lL (ky_lR (ky_lR hG.2.2.2)))))))))))
    | 20, _ => (ky_lR (ky_lL (ky_lR (ky_lR (ky_lR (ky_lR (ky_lR (ky_lL (ky_lL (ky_lR (ky_lR hG.2.2.2)))))))))))
    | 21, _ => (ky_lL (ky_lR (ky_lR (ky_lR (ky_lR (ky_lR (ky_lR (ky_lL (ky_lL (ky_lR (ky_lR hG.2.2.2)))))))))))
    | 22, _ => (ky_lR (ky_lR (ky_lR (ky_lR (ky_lR (ky_lR (ky_lR (ky_lL (ky_lL (ky_lR (ky_lR hG.2.2.2)))))))))))
    | j + 23, h => absurd h (by omega)
  obtain ⟨adK, adV, hS, hA⟩ := vk_Sof (N := 1) (tm := fun _ => .string "WaistSand" 261) (len := [23]) (byt := [[110, 111, 32, 115, 117, 99, 104, 32, 110, 117, 109, 98, 101, 114, 32, 111, 102, 32, 109, 111, 118, 101, 115]]) (A := ky_A G) (fun i hi => by rw [show i = 0 by omega]; decide) (fun i hi => (ky_lL (ky_lL (ky_lR (ky_lL (ky_lL (ky_lR (ky_lR (ky_lL (ky_lL (ky_lR (ky_lR hG.2.2.2)))))))))))) (fun i hi => (ky_lR (ky_lL (ky_lR (ky_lL (ky_lL (ky_lR (ky_lR (ky_lL (ky_lL (ky_lR (ky_lR hG.2.2.2)))))))))))) (fun i hi => (ky_lL (ky_lR (ky_lR (ky_lL (ky_lL (ky_lR (ky_lR (ky_lL (ky_lL (ky_lR (ky_lR hG.2.2.2)))))))))))) (fun i hi => by rw [show i = 0 by omega]; exact (ky_lR (ky_lR (ky_lR (ky_lL (ky_lL (ky_lR (ky_lR (ky_lL (ky_lL (ky_lR (ky_lR hG.2.2.2)))))))))))) (fun i hi j hj => by rw [show i = 0 by omega] at hj ⊢; exact hel j hj) (fun i j hi hj hij => absurd (by omega) hij) (ky_noA G)
  refine ⟨adK 0, vk_R.of (hG.1 _ (List.mem_append_right _ (List.mem_append_right _ (List.mem_append_right _ (List.mem_append_right _ (List.mem_append_right _ (List.mem_append_right _ (List.mem_append_left _ (List.mem_of_getElem? (i := 61) rfl))))))))) (hA 0 (by decide)), adV 0, ?_⟩
  exact hS.1 0 (by decide)
set_option maxRecDepth 100000 in
set_option maxHeartbeats 4000000 in
theorem sg_X11_314 {G : ky_GW} (hG : ky_OK G) : ∃ s, vk_R RX11 314 "no such minutes or force" s G.2.1 ∧ ky_Str G s [110, 111, 32, 115, 117, 99, 104, 32, 109, 105, 110, 117, 116, 101, 115, 32, 111, 114, 32, 102, 111, 114, 99, 101] := by
  have hel : ∀ j : Nat, j < 24 → (Cond.eq (.elem (.field (.string "WaistSand" 314) "java/lang/String" "value" "[B") (.int (Int32.ofNat j))) (.int (([110, 111, 32, 115, 117, 99, 104, 32, 109, 105, 110, 117, 116, 101, 115, 32, 111, 114, 32, 102, 111, 114, 99, 101] : List Int32).getD j 0))).before G.2.2.1 G.2.1 = true := fun j hj => match j, hj with
    | 0, _ => (ky_lR (ky_lL (ky_lR (ky_lL (ky_lL (ky_lL (ky_lL (ky_lR (ky_lL (ky_lR (ky_lR hG.2.2.2)))))))))))
    | 1, _ => (ky_lL (ky_lR (ky_lR (ky_lL (ky_lL (ky_lL (ky_lL (ky_lR (ky_lL (ky_lR (ky_lR hG.2.2.2)))))))))))
    | 2, _ => (ky_lR (ky_lR (ky_lR (ky_lL (ky_lL (ky_lL (ky_lL (ky_lR (ky_lL (ky_lR (ky_lR hG.2.2.2)))))))))))
    | 3, _ => (ky_lL (ky_lL (ky_lL (ky_lR (ky_lL (ky_lL (ky_lL (ky_lR (ky_lL (ky_lR (ky_lR hG.2.2.2)))))))))))
    | 4, _ => (ky_lR (ky_lL (ky_lL (ky_lR (ky_lL (ky_lL (ky_lL (ky_lR (ky_lL (ky_lR (ky_lR hG.2.2.2)))))))))))
    | 5, _ => (ky_lL (ky_lR (ky_lL (ky_lR (ky_lL (ky_lL (ky_lL (ky_lR (ky_lL (ky_lR (ky_lR hG.2.2.2)))))))))))
    | 6, _ => (ky_lR (ky_lR (ky_lL (ky_lR (ky_lL (ky_lL (ky_lL (ky_lR (ky_lL (ky_lR (ky_lR hG.2.2.2)))))))))))
    | 7, _ => (ky_lL (ky_lL (ky_lR (ky_lR (ky_lL (ky_lL (ky_lL (ky_lR (ky_lL (ky_lR (ky_lR hG.2.2.2)))))))))))
    | 8, _ => (ky_lR (ky_lL (ky_lR (ky_lR (ky_lL (ky_lL (ky_lL (ky_lR (ky_lL (ky_lR (ky_lR hG.2.2.2)))))))))))
    | 9, _ => (ky_lL (ky_lR (ky_lR (ky_lR (ky_lL (ky_lL (ky_lL (ky_lR (ky_lL (ky_lR (ky_lR hG.2.2.2)))))))))))
    | 10, _ => (ky_lR (ky_lR (ky_lR (ky_lR (ky_lL (ky_lL (ky_lL (ky_lR (ky_lL (ky_lR (ky_lR hG.2.2.2)))))))))))
    | 11, _ => (ky_lL (ky_lL (ky_lL (ky_lR (ky_lL (ky_lL (ky_lR (ky_lL (ky_lR (ky_lR hG.2.2.2))))))))))
    | 12, _ => (ky_lL (ky_lR (ky_lL (ky_lL (ky_lR (ky_lL (ky_lL (ky_lR (ky_lL (ky_lR (ky_lR hG.2.2.2)))))))))))
    | 13, _ => (ky_lR (ky_lR (ky_lL (ky_lL (ky_lR (ky_lL (ky_lL (ky_lR (ky_lL (ky_lR (ky_lR hG.2.2.2)))))))))))
    | 14, _ => (ky_lL (ky_lL (ky_lR (ky_lL (ky_lR (ky_lL (ky_lL (ky_lR (ky_lL (ky_lR (ky_lR hG.2.2.2)))))))))))
    | 15, _ => (ky_lR (ky_lL (ky_lR (ky_lL (ky_lR (ky_lL (ky_lL (ky_lR (ky_lL (ky_lR (ky_lR hG.2.2.2)))))))))))
    | 16, _ => (ky_lL (ky_lR (ky_lR (ky_lL (ky_lR (ky_lL (ky_lL (ky_lR (ky_lL (ky_lR (ky_lR hG.2.2.2)))))))))))
    | 17, _ => (ky_lR (ky_lR (ky_lR (ky_lL (ky_lR (ky_lL (ky_lL (ky_lR (ky_lL (ky_lR (ky_lR hG.2.2.2)))))))))))
    | 18, _ => (ky_lL (ky_lL (ky_lL (ky_lR (ky_lR (ky_lL (ky_lL (ky_lR (ky_lL (ky_lR (ky_lR hG.2.2.2)))))))))))
    | 19, _ => (ky_lR (ky_lL (ky_lL (ky_lR (ky_lR (ky_lL (ky_lL (ky_lR (ky_lL (ky_lR (ky_lR hG.2.2.2)))))))))))
    | 20, _ => (ky_lL (ky_lR (ky_lL (ky_lR (ky_lR (ky_lL (ky_lL (ky_lR (ky_lL (ky_lR (ky_lR hG.2.2.2)))))))))))
    | 21, _ => (ky_lR (ky_lR (ky_lL (ky_lR (ky_lR (ky_lL (ky_lL (ky_lR (ky_lL (ky_lR (ky_lR hG.2.2.2)))))))))))
    | 22, _ => (ky_lL (ky_lL (ky_lR (ky_lR (ky_lR (ky_lL (ky_lL (ky_lR (ky_lL (ky_lR (ky_lR hG.2.2.2)))))))))))
    | 23, _ => (ky_lR (ky_lL (ky_lR (ky_lR (ky_lR (ky_lL (ky_lL (ky_lR (ky_lL (ky_lR (ky_lR hG.2.2.2)))))))))))
    | j + 24, h => absurd h (by omega)
  obtain ⟨adK, adV, hS, hA⟩ := vk_Sof (N := 1) (tm := fun _ => .string "WaistSand" 314) (len := [24]) (byt := [[110, 111, 32, 115, 117, 99, 104, 32, 109, 105, 110, 117, 116, 101, 115, 32, 111, 114, 32, 102, 111, 114, 99, 101]]) (A := ky_A G) (fun i hi => by rw [show i = 0 by omega]; decide) (fun i hi => (ky_lL (ky_lL (ky_lL (ky_lL (ky_lL (ky_lL (ky_lR (ky_lL (ky_lR (ky_lR hG.2.2.2))))))))))) (fun i hi => (ky_lL (ky_lR (ky_lL (ky_lL (ky_lL (ky_lL (ky_lL (ky_lR (ky_lL (ky_lR (ky_lR hG.2.2.2)))))))))))) (fun i hi => (ky_lR (ky_lR (ky_lL (ky_lL (ky_lL (ky_lL (ky_lL (ky_lR (ky_lL (ky_lR (ky_lR hG.2.2.2)))))))))))) (fun i hi => by rw [show i = 0 by omega]; exact (ky_lL (ky_lL (ky_lR (ky_lL (ky_lL (ky_lL (ky_lL (ky_lR (ky_lL (ky_lR (ky_lR hG.2.2.2)))))))))))) (fun i hi j hj => by rw [show i = 0 by omega] at hj ⊢; exact hel j hj) (fun i j hi hj hij => absurd (by omega) hij) (ky_noA G)
  refine ⟨adK 0, vk_R.of (hG.1 _ (List.mem_append_right _ (List.mem_append_right _ (List.mem_append_right _ (List.mem_append_right _ (List.mem_append_right _ (List.mem_append_right _ (List.mem_append_left _ (List.mem_of_getElem? (i := 102) rfl))))))))) (hA 0 (by decide)), adV 0, ?_⟩
  exact hS.1 0 (by decide)
set_option maxRecDepth 100000 in
set_option maxHeartbeats 4000000 in
theorem sg_X11_322 {G : ky_GW} (hG : ky_OK G) : ∃ s, vk_R RX11 322 "no such number of pulls" s G.2.1 ∧ ky_Str G s [110, 111, 32, 115, 117, 99, 104, 32, 110, 117, 109, 98, 101, 114, 32, 111, 102, 32, 112, 117, 108, 108, 115] := by
  have hel : ∀ j : Nat, j < 23 → (Cond.eq (.elem (.field (.string "WaistSand" 322) "java/lang/String" "value" "[B") (.int (Int32.ofNat j))) (.int (([110, 111, 32, 115, 117, 99, 104, 32, 110, 117, 109, 98, 101, 114, 32, 111, 102, 32, 112, 117, 108, 108, 115] : List Int32).getD j 0))).before G.2.2.1 G.2.1 = true := fun j hj => match j, hj with
    | 0, _ => (ky_lR (ky_lR (ky_lL (ky_lL (ky_lL (ky_lR (ky_lL (ky_lR (ky_lL (ky_lR (ky_lR hG.2.2.2)))))))))))
    | 1, _ => (ky_lL (ky_lL (ky_lR (ky_lL (ky_lL (ky_lR (ky_lL (ky_lR (ky_lL (ky_lR (ky_lR hG.2.2.2)))))))))))
    | 2, _ => (ky_lR (ky_lL (ky_lR (ky_lL (ky_lL (ky_lR (ky_lL (ky_lR (ky_lL (ky_lR (ky_lR hG.2.2.2)))))))))))
    | 3, _ => (ky_lL (ky_lR (ky_lR (ky_lL (ky_lL (ky_lR (ky_lL (ky_lR (ky_lL (ky_lR (ky_lR hG.2.2.2)))))))))))
    | 4, _ => (ky_lR (ky_lR (ky_lR (ky_lL (ky_lL (ky_lR (ky_lL (ky_lR (ky_lL (ky_lR (ky_lR hG.2.2.2)))))))))))
    | 5, _ => (ky_lL (ky_lL (ky_lL (ky_lR (ky_lL (ky_lR (ky_lL (ky_lR (ky_lL (ky_lR (ky_lR hG.2.2.2)))))))))))
    | 6, _ => (ky_lR (ky_lL (ky_lL (ky_lR (ky_lL (ky_lR (ky_lL (ky_lR (ky_lL (ky_lR (ky_lR hG.2.2.2)))))))))))
    | 7, _ => (ky_lL (ky_lR (ky_lL (ky_lR (ky_lL (ky_lR (ky_lL (ky_lR (ky_lL (ky_lR (ky_lR hG.2.2.2)))))))))))
    | 8, _ => (ky_lR (ky_lR (ky_lL (ky_lR (ky_lL (ky_lR (ky_lL (ky_lR (ky_lL (ky_lR (ky_lR hG.2.2.2)))))))))))
    | 9, _ => (ky_lL (ky_lL (ky_lR (ky_lR (ky_lL (ky_lR (ky_lL (ky_lR (ky_lL (ky_lR (ky_lR hG.2.2.2)))))))))))
    | 10, _ => (ky_lR (ky_lL (ky_lR (ky_lR (ky_lL (ky_lR (ky_lL (ky_lR (ky_lL (ky_lR (ky_lR hG.2.2.2)))))))))))
    | 11, _ => (ky_lL (ky_lR (ky_lR (ky_lR (ky_lL (ky_lR (ky_lL (ky_lR (ky_lL (ky_lR (ky_lR hG.2.2.2)))))))))))
    | 12, _ => (ky_lR (ky_lR (ky_lR (ky_lR (ky_lL (ky_lR (ky_lL (ky_lR (ky_lL (ky_lR (ky_lR hG.2.2.2)))))))))))
    | 13, _ => (ky_lL (ky_lL (ky_lL (ky_lR (ky_lR (ky_lL (ky_lR (ky_lL (ky_lR (ky_lR hG.2.2.2))))))))))
    | 14, _ => (ky_lL (ky_lR (ky_lL (ky_lL (ky_lR (ky_lR (ky_lL (ky_lR (ky_lL (ky_lR (ky_lR hG.2.2.2)))))))))))
    | 15, _ => (ky_lR (ky_lR (ky_lL (ky_lL (ky_lR (ky_lR (ky_lL (ky_lR (ky_lL (ky_lR (ky_lR hG.2.2.2)))))))))))
    | 16, _ => (ky_lL (ky_lL (ky_lR (ky_lL (ky_lR (ky_lR (ky_lL (ky_lR (ky_lL (ky_lR (ky_lR hG.2.2.2)))))))))))
    | 17, _ => (ky_lR (ky_lL (ky_lR (ky_lL (ky_lR (ky_lR (ky_lL (ky_lR (ky_lL (ky_lR (ky_lR hG.2.2.2)))))))))))
    | 18, _ => (ky_lL (ky_lR (ky_lR (ky_lL (ky_lR (ky_lR (ky_lL (ky_lR (ky_lL (ky_lR (ky_lR hG.2.2.2)))))))))))
    | 19, _ => (ky_lR (ky_lR (ky_lR (ky_lL (ky_lR (ky_lR (ky_lL (ky_lR (ky_lL (ky_lR (ky_lR hG.2.2.2)))))))))))
    | 20, _ => (ky_lL (ky_lL (ky_lL (ky_lR (ky_lR (ky_lR (ky_lL (ky_lR (ky_lL (ky_lR (ky_lR hG.2.2.2)))))))))))
    | 21, _ => (ky_lR (ky_lL (ky_lL (ky_lR (ky_lR (ky_lR (ky_lL (ky_lR (ky_lL (ky_lR (ky_lR hG.2.2.2)))))))))))
    | 22, _ => (ky_lL (ky_lR (ky_lL (ky_lR (ky_lR (ky_lR (ky_lL (ky_lR (ky_lL (ky_lR (ky_lR hG.2.2.2)))))))))))
    | j + 23, h => absurd h (by omega)
  obtain ⟨adK, adV, hS, hA⟩ := vk_Sof (N := 1) (tm := fun _ => .string "WaistSand" 322) (len := [23]) (byt := [[110, 111, 32, 115, 117, 99, 104, 32, 110, 117, 109, 98, 101, 114, 32, 111, 102, 32, 112, 117, 108, 108, 115]]) (A := ky_A G) (fun i hi => by rw [show i = 0 by omega]; decide) (fun i hi => (ky_lL (ky_lR (ky_lR (ky_lR (ky_lR (ky_lL (ky_lL (ky_lR (ky_lL (ky_lR (ky_lR hG.2.2.2)))))))))))) (fun i hi => (ky_lR (ky_lR (ky_lR (ky_lR (ky_lR (ky_lL (ky_lL (ky_lR (ky_lL (ky_lR (ky_lR hG.2.2.2)))))))))))) (fun i hi => (ky_lL (ky_lL (ky_lL (ky_lL (ky_lR (ky_lL (ky_lR (ky_lL (ky_lR (ky_lR hG.2.2.2))))))))))) (fun i hi => by rw [show i = 0 by omega]; exact (ky_lL (ky_lR (ky_lL (ky_lL (ky_lL (ky_lR (ky_lL (ky_lR (ky_lL (ky_lR (ky_lR hG.2.2.2)))))))))))) (fun i hi j hj => by rw [show i = 0 by omega] at hj ⊢; exact hel j hj) (fun i j hi hj hij => absurd (by omega) hij) (ky_noA G)
  refine ⟨adK 0, vk_R.of (hG.1 _ (List.mem_append_right _ (List.mem_append_right _ (List.mem_append_right _ (List.mem_append_right _ (List.mem_append_right _ (List.mem_append_right _ (List.mem_append_left _ (List.mem_of_getElem? (i := 126) rfl))))))))) (hA 0 (by decide)), adV 0, ?_⟩
  exact hS.1 0 (by decide)
set_option maxRecDepth 100000 in
set_option maxHeartbeats 4000000 in
theorem sg_X11_341 {G : ky_GW} (hG : ky_OK G) : ∃ s, vk_R RX11 341 "no such row or weight" s G.2.1 ∧ ky_Str G s [110, 111, 32, 115, 117, 99, 104, 32, 114, 111, 119, 32, 111, 114, 32, 119, 101, 105, 103, 104, 116] := by
  have hel : ∀ j : Nat, j < 21 → (Cond.eq (.elem (.field (.string "WaistSand" 341) "java/lang/String" "value" "[B") (.int (Int32.ofNat j))) (.int (([110, 111, 32, 115, 117, 99, 104, 32, 114, 111, 119, 32, 111, 114, 32, 119, 101, 105, 103, 104, 116] : List Int32).getD j 0))).before G.2.2.1 G.2.1 = true := fun j hj => match j, hj with
    | 0, _ => (ky_lR (ky_lR (ky_lR (ky_lR (ky_lR (ky_lR (ky_lL (ky_lR (ky_lL (ky_lR (ky_lR hG.2.2.2)))))))))))
    | 1, _ => (ky_lL (ky_lL (ky_lL (ky_lL (ky_lL (ky_lR (ky_lR (ky_lL (ky_lR (ky_lR hG.2.2.2))))))))))
    | 2, _ => (ky_lL (ky_lR (ky_lL (ky_lL (ky_lL (ky_lL (ky_lR (ky_lR (ky_lL (ky_lR (ky_lR hG.2.2.2)))))))))))
    | 3, _ => (ky_lR (ky_lR (ky_lL (ky_lL (ky_lL (ky_lL (ky_lR (ky_lR (ky_lL (ky_lR (ky_lR hG.2.2.2)))))))))))
    | 4, _ => (ky_lL (ky_lL (ky_lR (ky_lL (ky_lL (ky_lL (ky_lR (ky_lR (ky_lL (ky_lR (ky_lR hG.2.2.2)))))))))))
    | 5, _ => (ky_lR (ky_lL (ky_lR (ky_lL (ky_lL (ky_lL (ky_lR (ky_lR (ky_lL (ky_lR (ky_lR hG.2.2.2)))))))))))
    | 6, _ => (ky_lL (ky_lR (ky_lR (ky_lL (ky_lL (ky_lL (ky_lR (ky_lR (ky_lL (ky_lR (ky_lR hG.2.2.2)))))))))))
    | 7, _ => (ky_lR (ky_lR (ky_lR (ky_lL (ky_lL (ky_lL (ky_lR (ky_lR (ky_lL (ky_lR (ky_lR hG.2.2.2)))))))))))
    | 8, _ => (ky_lL (ky_lL (ky_lL (ky_lR (ky_lL (ky_lL (ky_lR (ky_lR (ky_lL (ky_lR (ky_lR hG.2.2.2)))))))))))
    | 9, _ => (ky_lR (ky_lL (ky_lL (ky_lR (ky_lL (ky_lL (ky_lR (ky_lR (ky_lL (ky_lR (ky_lR hG.2.2.2)))))))))))
    | 10, _ => (ky_lL (ky_lR (ky_lL (ky_lR (ky_lL (ky_lL (ky_lR (ky_lR (ky_lL (ky_lR (ky_lR hG.2.2.2)))))))))))
    | 11, _ => (ky_lR (ky_lR (ky_lL (ky_lR (ky_lL (ky_lL (ky_lR (ky_lR (ky_lL (ky_lR (ky_lR hG.2.2.2)))))))))))
    | 12, _ => (ky_lL (ky_lL (ky_lR (ky_lR (ky_lL (ky_lL (ky_lR (ky_lR (ky_lL (ky_lR (ky_lR hG.2.2.2)))))))))))
    | 13, _ => (ky_lR (ky_lL (ky_lR (ky_lR (ky_lL (ky_lL (ky_lR (ky_lR (ky_lL (ky_lR (ky_lR hG.2.2.2)))))))))))
    | 14, _ => (ky_lL (ky_lR (ky_lR (ky_lR (ky_lL (ky_lL (ky_lR (ky_lR (ky_lL (ky_lR (ky_lR hG.2.2.2)))))))))))
    | 15, _ => (ky_lR (ky_lR (ky_lR (ky_lR (ky_lL (ky_lL (ky_lR (ky_lR (ky_lL (ky_lR (ky_lR hG.2.2.2)))))))))))
    | 16, _ => (ky_lL (ky_lL (ky_lL (ky_lR (ky_lL (ky_lR (ky_lR (ky_lL (ky_lR (ky_lR hG.2.2.2))))))))))
    | 17, _ => (ky_lL (ky_lR (ky_lL (ky_lL (ky_lR (ky_lL (ky_lR (ky_lR (ky_lL (ky_lR (ky_lR hG.2.2.2)))))))))))
    | 18, _ => (ky_lR (ky_lR (ky_lL (ky_lL (ky_lR (ky_lL (ky_lR (ky_lR (ky_lL (ky_lR (ky_lR hG.2.2.2)))))))))))
    | 19, _ => (ky_lL (ky_lL (ky_lR (ky_lL (ky_lR (ky_lL (ky_lR (ky_lR (ky_lL (ky_lR (ky_lR hG.2.2.2)))))))))))
    | 20, _ => (ky_lR (ky_lL (ky_lR (ky_lL (ky_lR (ky_lL (ky_lR (ky_lR (ky_lL (ky_lR (ky_lR hG.2.2.2)))))))))))
    | j + 21, h => absurd h (by omega)
  obtain ⟨adK, adV, hS, hA⟩ := vk_Sof (N := 1) (tm := fun _ => .string "WaistSand" 341) (len := [21]) (byt := [[110, 111, 32, 115, 117, 99, 104, 32, 114, 111, 119, 32, 111, 114, 32, 119, 101, 105, 103, 104, 116]]) (A := ky_A G) (fun i hi => by rw [show i = 0 by omega]; decide) (fun i hi => (ky_lR (ky_lR (ky_lL (ky_lR (ky_lR (ky_lR (ky_lL (ky_lR (ky_lL (ky_lR (ky_lR hG.2.2.2)))))))))))) (fun i hi => (ky_lL (ky_lL (ky_lR (ky_lR (ky_lR (ky_lR (ky_lL (ky_lR (ky_lL (ky_lR (ky_lR hG.2.2.2)))))))))))) (fun i hi => (ky_lR (ky_lL (ky_lR (ky_lR (ky_lR (ky_lR (ky_lL (ky_lR (ky_lL (ky_lR (ky_lR hG.2.2.2)))))))))))) (fun i hi => by rw [show i = 0 by omega]; exact (ky_lL (ky_lR (ky_lR (ky_lR (ky_lR (ky_lR (ky_lL (ky_lR (ky_lL (ky_lR (ky_lR hG.2.2.2)))))))))))) (fun i hi j hj => by rw [show i = 0 by omega] at hj ⊢; exact hel j hj) (fun i j hi hj hij => absurd (by omega) hij) (ky_noA G)
  refine ⟨adK 0, vk_R.of (hG.1 _ (List.mem_append_right _ (List.mem_append_right _ (List.mem_append_right _ (List.mem_append_right _ (List.mem_append_right _ (List.mem_append_right _ (List.mem_append_left _ (List.mem_of_getElem? (i := 157) rfl))))))))) (hA 0 (by decide)), adV 0, ?_⟩
  exact hS.1 0 (by decide)
set_option maxRecDepth 100000 in
set_option maxHeartbeats 4000000 in
theorem sg_X11_346 {G : ky_GW} (hG : ky_OK G) : ∃ s, vk_R RX11 346 "no such weight" s G.2.1 ∧ ky_Str G s [110, 111, 32, 115, 117, 99, 104, 32, 119, 101, 105, 103, 104, 116] := by
  have hel : ∀ j : Nat, j < 14 → (Cond.eq (.elem (.field (.string "WaistSand" 346) "java/lang/String" "value" "[B") (.int (Int32.ofNat j))) (.int (([110, 111, 32, 115, 117, 99, 104, 32, 119, 101, 105, 103, 104, 116] : List Int32).getD j 0))).before G.2.2.1 G.2.1 = true := fun j hj => match j, hj with
    | 0, _ => (ky_lL (ky_lR (ky_lL (ky_lR (ky_lR (ky_lL (ky_lR (ky_lR (ky_lL (ky_lR (ky_lR hG.2.2.2)))))))))))
    | 1, _ => (ky_lR (ky_lR (ky_lL (ky_lR (ky_lR (ky_lL (ky_lR (ky_lR (ky_lL (ky_lR (ky_lR hG.2.2.2)))))))))))
    | 2, _ => (ky_lL (ky_lL (ky_lR (ky_lR (ky_lR (ky_lL (ky_lR (ky_lR (ky_lL (ky_lR (ky_lR hG.2.2.2)))))))))))
    | 3, _ => (ky_lR (ky_lL (ky_lR (ky_lR (ky_lR (ky_lL (ky_lR (ky_lR (ky_lL (ky_lR (ky_lR hG.2.2.2)))))))))))
    | 4, _ => (ky_lL (ky_lR (ky_lR (ky_lR (ky_lR (ky_lL (ky_lR (ky_lR (ky_lL (ky_lR (ky_lR hG.2.2.2)))))))))))
    | 5, _ => (ky_lR (ky_lR (ky_lR (ky_lR (ky_lR (ky_lL (ky_lR (ky_lR (ky_lL (ky_lR (ky_lR hG.2.2.2)))))))))))
    | 6, _ => (ky_lL (ky_lL (ky_lL (ky_lL (ky_lR (ky_lR (ky_lR (ky_lL (ky_lR (ky_lR hG.2.2.2))))))))))
    | 7, _ => (ky_lL (ky_lR (ky_lL (ky_lL (ky_lL (ky_lR (ky_lR (ky_lR (ky_lL (ky_lR (ky_lR hG.2.2.2)))))))))))
    | 8, _ => (ky_lR (ky_lR (ky_lL (ky_lL (ky_lL (ky_lR (ky_lR (ky_lR (ky_lL (ky_lR (ky_lR hG.2.2.2)))))))))))
    | 9, _ => (ky_lL (ky_lL (ky_lR (ky_lL (ky_lL (ky_lR (ky_lR (ky_lR (ky_lL (ky_lR (ky_lR hG.2.2.2)))))))))))
    | 10, _ => (ky_lR (ky_lL (ky_lR (ky_lL (ky_lL (ky_lR (ky_lR (ky_lR (ky_lL (ky_lR (ky_lR hG.2.2.2)))))))))))
    | 11, _ => (ky_lL (ky_lR (ky_lR (ky_lL (ky_lL (ky_lR (ky_lR (ky_lR (ky_lL (ky_lR (ky_lR hG.2.2.2)))))))))))
    | 12, _ => (ky_lR (ky_lR (ky_lR (ky_lL (ky_lL (ky_lR (ky_lR (ky_lR (ky_lL (ky_lR (ky_lR hG.2.2.2)))))))))))
    | 13, _ => (ky_lL (ky_lL (ky_lL (ky_lR (ky_lL (ky_lR (ky_lR (ky_lR (ky_lL (ky_lR (ky_lR hG.2.2.2)))))))))))
    | j + 14, h => absurd h (by omega)
  obtain ⟨adK, adV, hS, hA⟩ := vk_Sof (N := 1) (tm := fun _ => .string "WaistSand" 346) (len := [14]) (byt := [[110, 111, 32, 115, 117, 99, 104, 32, 119, 101, 105, 103, 104, 116]]) (A := ky_A G) (fun i hi => by rw [show i = 0 by omega]; decide) (fun i hi => (ky_lL (ky_lR (ky_lR (ky_lL (ky_lR (ky_lL (ky_lR (ky_lR (ky_lL (ky_lR (ky_lR hG.2.2.2)))))))))))) (fun i hi => (ky_lR (ky_lR (ky_lR (ky_lL (ky_lR (ky_lL (ky_lR (ky_lR (ky_lL (ky_lR (ky_lR hG.2.2.2)))))))))))) (fun i hi => (ky_lL (ky_lL (ky_lL (ky_lR (ky_lR (ky_lL (ky_lR (ky_lR (ky_lL (ky_lR (ky_lR hG.2.2.2)))))))))))) (fun i hi => by rw [show i = 0 by omega]; exact (ky_lR (ky_lL (ky_lL (ky_lR (ky_lR (ky_lL (ky_lR (ky_lR (ky_lL (ky_lR (ky_lR hG.2.2.2)))))))))))) (fun i hi j hj => by rw [show i = 0 by omega] at hj ⊢; exact hel j hj) (fun i j hi hj hij => absurd (by omega) hij) (ky_noA G)
  refine ⟨adK 0, vk_R.of (hG.1 _ (List.mem_append_right _ (List.mem_append_right _ (List.mem_append_right _ (List.mem_append_right _ (List.mem_append_right _ (List.mem_append_right _ (List.mem_append_left _ (List.mem_of_getElem? (i := 170) rfl))))))))) (hA 0 (by decide)), adV 0, ?_⟩
  exact hS.1 0 (by decide)
set_option maxRecDepth 100000 in
set_option maxHeartbeats 4000000 in
theorem sg_X11_358 {G : ky_GW} (hG : ky_OK G) : ∃ s, vk_R RX11 358 "so much is none" s G.2.1 ∧ ky_Str G s [115, 111, 32, 109, 117, 99, 104, 32, 105, 115, 32, 110, 111, 110, 101] := by
  have hel : ∀ j : Nat, j < 15 → (Cond.eq (.elem (.field (.string "WaistSand" 358) "java/lang/String" "value" "[B") (.int (Int32.ofNat j))) (.int (([115, 111, 32, 109, 117, 99, 104, 32, 105, 115, 32, 110, 111, 110, 101] : List Int32).getD j 0))).before G.2.2.1 G.2.1 = true := fun j hj => match j, hj with
    | 0, _ => (ky_lR (ky_lL (ky_lR (ky_lR (ky_lL (ky_lR (ky_lR (ky_lR (ky_lL (ky_lR (ky_lR hG.2.2.2)))))))))))
    | 1, _ => (ky_lL (ky_lR (ky_lR (ky_lR (ky_lL (ky_lR (ky_lR (ky_lR (ky_lL (ky_lR (ky_lR hG.2.2.2)))))))))))
    | 2, _ => (ky_lR (ky_lR (ky_lR (ky_lR (ky_lL (ky_lR (ky_lR (ky_lR (ky_lL (ky_lR (ky_lR hG.2.2.2)))))))))))
    | 3, _ => (ky_lL (ky_lL (ky_lL (ky_lR (ky_lR (ky_lR (ky_lR (ky_lL (ky_lR (ky_lR hG.2.2.2))))))))))
    | 4, _ => (ky_lL (ky_lR (ky_lL (ky_lL (ky_lR (ky_lR (ky_lR (ky_lR (ky_lL (ky_lR (ky_lR hG.2.2.2)))))))))))
    | 5, _ => (ky_lR (ky_lR (ky_lL (ky_lL (ky_lR (ky_lR (ky_lR (ky_lR (ky_lL (ky_lR (ky_lR hG.2.2.2)))))))))))
    | 6, _ => (ky_lL (ky_lL (ky_lR (ky_lL (ky_lR (ky_lR (ky_lR (ky_lR (ky_lL (ky_lR (ky_lR hG.2.2.2)))))))))))
    | 7, _ => (ky_lR (ky_lL (ky_lR (ky_lL (ky_lR (ky_lR (ky_lR (ky_lR (ky_lL (ky_lR (ky_lR hG.2.2.2)))))))))))
    | 8, _ => (ky_lL (ky_lR (ky_lR (ky_lL (ky_lR (ky_lR (ky_lR (ky_lR (ky_lL (ky_lR (ky_lR hG.2.2.2)))))))))))
    | 9, _ => (ky_lR (ky_lR (ky_lR (ky_lL (ky_lR (ky_lR (ky_lR (ky_lR (ky_lL (ky_lR (ky_lR hG.2.2.2)))))))))))
    | 10, _ => (ky_lL (ky_lL (ky_lL (ky_lR (ky_lR (ky_lR (ky_lR (ky_lR (ky_lL (ky_lR (ky_lR hG.2.2.2)))))))))))
    | 11, _ => (ky_lR (ky_lL (ky_lL (ky_lR (ky_lR (ky_lR (ky_lR (ky_lR (ky_lL (ky_lR (ky_lR hG.2.2.2)))))))))))
    | 12, _ => (ky_lL (ky_lR (ky_lL (ky_lR (ky_lR (ky_lR (ky_lR (ky_lR (ky_lL (ky_lR (ky_lR hG.2.2.2)))))))))))
    | 13, _ => (ky_lR (ky_lR (ky_lL (ky_lR (ky_lR (ky_lR (ky_lR (ky_lR (ky_lL (ky_lR (ky_lR hG.2.2.2)))))))))))
    | 14, _ => (ky_lL (ky_lL (ky_lR (ky_lR (ky_lR (ky_lR (ky_lR (ky_lR (ky_lL (ky_lR (ky_lR hG.2.2.2)))))))))))
    | j + 15, h => absurd h (by omega)
  obtain ⟨adK, adV, hS, hA⟩ := vk_Sof (N := 1) (tm := fun _ => .string "WaistSand" 358) (len := [15]) (byt := [[115, 111, 32, 109, 117, 99, 104, 32, 105, 115, 32, 110, 111, 110, 101]]) (A := ky_A G) (fun i hi => by rw [show i = 0 by omega]; decide) (fun i hi => (ky_lR (ky_lL (ky_lL (ky_lR (ky_lL (ky_lR (ky_lR (ky_lR (ky_lL (ky_lR (ky_lR hG.2.2.2)))))))))))) (fun i hi => (ky_lL (ky_lR (ky_lL (ky_lR (ky_lL (ky_lR (ky_lR (ky_lR (ky_lL (ky_lR (ky_lR hG.2.2.2)))))))))))) (fun i hi => (ky_lR (ky_lR (ky_lL (ky_lR (ky_lL (ky_lR (ky_lR (ky_lR (ky_lL (ky_lR (ky_lR hG.2.2.2)))))))))))) (fun i hi => by rw [show i = 0 by omega]; exact (ky_lL (ky_lL (ky_lR (ky_lR (ky_lL (ky_lR (ky_lR (ky_lR (ky_lL (ky_lR (ky_lR hG.2.2.2)))))))))))) (fun i hi j hj => by rw [show i = 0 by omega] at hj ⊢; exact hel j hj) (fun i j hi hj hij => absurd (by omega) hij) (ky_noA G)
  refine ⟨adK 0, vk_R.of (hG.1 _ (List.mem_append_right _ (List.mem_append_right _ (List.mem_append_right _ (List.mem_append_right _ (List.mem_append_right _ (List.mem_append_right _ (List.mem_append_left _ (List.mem_of_getElem? (i := 189) rfl))))))))) (hA 0 (by decide)), adV 0, ?_⟩
  exact hS.1 0 (by decide)
set_option maxRecDepth 100000 in
set_option maxHeartbeats 4000000 in
theorem sg_X11_390 {G : ky_GW} (hG : ky_OK G) : ∃ s, vk_R RX11 390 "no such leg" s G.2.1 ∧ ky_Str G s [110, 111, 32, 115, 117, 99, 104, 32, 108, 101, 103] := by
  have hel : ∀ j : Nat, j < 11 → (Cond.eq (.elem (.field (.string "WaistSand" 390) "java/lang/String" "value" "[B") (.int (Int32.ofNat j))) (.int (([110, 111, 32, 115, 117, 99, 104, 32, 108, 101, 103] : List Int32).getD j 0))).before G.2.2.1 G.2.1 = true := fun j hj => match j, hj with
    | 0, _ => (ky_lL (ky_lR (ky_lL (ky_lL (ky_lL (ky_lL (ky_lL (ky_lL (ky_lR (ky_lR (ky_lR hG.2.2.2)))))))))))
    | 1, _ => (ky_lR (ky_lR (ky_lL (ky_lL (ky_lL (ky_lL (ky_lL (ky_lL (ky_lR (ky_lR (ky_lR hG.2.2.2)))))))))))
    | 2, _ => (ky_lL (ky_lL (ky_lR (ky_lL (ky_lL (ky_lL (ky_lL (ky_lL (ky_lR (ky_lR (ky_lR hG.2.2.2)))))))))))
    | 3, _ => (ky_lR (ky_lL (ky_lR (ky_lL (ky_lL (ky_lL (ky_lL (ky_lL (ky_lR (ky_lR (ky_lR hG.2.2.2)))))))))))
    | 4, _ => (ky_lL (ky_lR (ky_lR (ky_lL (ky_lL (ky_lL (ky_lL (ky_lL (ky_lR (ky_lR (ky_lR hG.2.2.2)))))))))))
    | 5, _ => (ky_lR (ky_lR (ky_lR (ky_lL (ky_lL (ky_lL (ky_lL (ky_lL (ky_lR (ky_lR (ky_lR hG.2.2.2)))))))))))
    | 6, _ => (ky_lL (ky_lL (ky_lL (ky_lR (ky_lL (ky_lL (ky_lL (ky_lL (ky_lR (ky_lR (ky_lR hG.2.2.2)))))))))))
    | 7, _ => (ky_lR (ky_lL (ky_lL (ky_lR (ky_lL (ky_lL (ky_lL (ky_lL (ky_lR (ky_lR (ky_lR hG.2.2.2)))))))))))
    | 8, _ => (ky_lL (ky_lR (ky_lL (ky_lR (ky_lL (ky_lL (ky_lL (ky_lL (ky_lR (ky_lR (ky_lR hG.2.2.2)))))))))))
    | 9, _ => (ky_lR (ky_lR (ky_lL (ky_lR (ky_lL (ky_lL (ky_lL (ky_lL (ky_lR (ky_lR (ky_lR hG.2.2.2)))))))))))
    | 10, _ => (ky_lL (ky_lL (ky_lR (ky_lR (ky_lL (ky_lL (ky_lL (ky_lL (ky_lR (ky_lR (ky_lR hG.2.2.2)))))))))))
    | j + 11, h => absurd h (by omega)
  obtain ⟨adK, adV, hS, hA⟩ := vk_Sof (N := 1) (tm := fun _ => .string "WaistSand" 390) (len := [11]) (byt := [[110, 111, 32, 115, 117, 99, 104, 32, 108, 101, 103]]) (A := ky_A G) (fun i hi => by rw [show i = 0 by omega]; decide) (fun i hi => (ky_lR (ky_lL (ky_lR (ky_lR (ky_lR (ky_lR (ky_lR (ky_lR (ky_lL (ky_lR (ky_lR hG.2.2.2)))))))))))) (fun i hi => (ky_lL (ky_lR (ky_lR (ky_lR (ky_lR (ky_lR (ky_lR (ky_lR (ky_lL (ky_lR (ky_lR hG.2.2.2)))))))))))) (fun i hi => (ky_lR (ky_lR (ky_lR (ky_lR (ky_lR (ky_lR (ky_lR (ky_lR (ky_lL (ky_lR (ky_lR hG.2.2.2)))))))))))) (fun i hi => by rw [show i = 0 by omega]; exact (ky_lL (ky_lL (ky_lL (ky_lL (ky_lL (ky_lL (ky_lL (ky_lR (ky_lR (ky_lR hG.2.2.2))))))))))) (fun i hi j hj => by rw [show i = 0 by omega] at hj ⊢; exact hel j hj) (fun i j hi hj hij => absurd (by omega) hij) (ky_noA G)
  refine ⟨adK 0, vk_R.of (hG.1 _ (List.mem_append_right _ (List.mem_append_right _ (List.mem_append_right _ (List.mem_append_right _ (List.mem_append_right _ (List.mem_append_right _ (List.mem_append_left _ (List.mem_of_getElem? (i := 234) rfl))))))))) (hA 0 (by decide)), adV 0, ?_⟩
  exact hS.1 0 (by decide)
set_option maxRecDepth 100000 in
set_option maxHeartbeats 4000000 in
theorem sg_X12_133 {G : ky_GW} (hG : ky_OK G) : ∃ s, vk_R RX12 133 "legs" s G.2.1 ∧ ky_Str G s [108, 101, 103, 115] := by
  have hel : ∀ j : Nat, j < 4 → (Cond.eq (.elem (.field (.string "WaistSandModel" 133) "java/lang/String" "value" "[B") (.int (Int32.ofNat j))) (.int (([108, 101, 103, 115] : List Int32).getD j 0))).before G.2.2.1 G.2.1 = true := fun j hj => match j, hj with
    | 0, _ => (ky_lL (ky_lR (ky_lL (ky_lL (ky_lR (ky_lL (ky_lL (ky_lL (ky_lR (ky_lR (ky_lR hG.2.2.2)))))))))))
    | 1, _ => (ky_lR (ky_lR (ky_lL (ky_lL (ky_lR (ky_lL (ky_lL (ky_lL (ky_lR (ky_lR (ky_lR hG.2.2.2)))))))))))
    | 2, _ => (ky_lL (ky_lL (ky_lR (ky_lL (ky_lR (ky_lL (ky_lL (ky_lL (ky_lR (ky_lR (ky_lR hG.2.2.2)))))))))))
    | 3, _ => (ky_lR (ky_lL (ky_lR (ky_lL (ky_lR (ky_lL (ky_lL (ky_lL (ky_lR (ky_lR (ky_lR hG.2.2.2)))))))))))
    | j + 4, h => absurd h (by omega)
  obtain ⟨adK, adV, hS, hA⟩ := vk_Sof (N := 1) (tm := fun _ => .string "WaistSandModel" 133) (len := [4]) (byt := [[108, 101, 103, 115]]) (A := ky_A G) (fun i hi => by rw [show i = 0 by omega]; decide) (fun i hi => (ky_lR (ky_lL (ky_lR (ky_lR (ky_lL (ky_lL (ky_lL (ky_lL (ky_lR (ky_lR (ky_lR hG.2.2.2)))))))))))) (fun i hi => (ky_lL (ky_lR (ky_lR (ky_lR (ky_lL (ky_lL (ky_lL (ky_lL (ky_lR (ky_lR (ky_lR hG.2.2.2)))))))))))) (fun i hi => (ky_lR (ky_lR (ky_lR (ky_lR (ky_lL (ky_lL (ky_lL (ky_lL (ky_lR (ky_lR (ky_lR hG.2.2.2)))))))))))) (fun i hi => by rw [show i = 0 by omega]; exact (ky_lL (ky_lL (ky_lL (ky_lR (ky_lL (ky_lL (ky_lL (ky_lR (ky_lR (ky_lR hG.2.2.2))))))))))) (fun i hi j hj => by rw [show i = 0 by omega] at hj ⊢; exact hel j hj) (fun i j hi hj hij => absurd (by omega) hij) (ky_noA G)
  refine ⟨adK 0, vk_R.of (hG.1 _ (List.mem_append_right _ (List.mem_append_right _ (List.mem_append_right _ (List.mem_append_right _ (List.mem_append_right _ (List.mem_append_right _ (List.mem_append_right _ (List.mem_append_left _ (List.mem_of_getElem? (i := 158) rfl)))))))))) (hA 0 (by decide)), adV 0, ?_⟩
  exact hS.1 0 (by decide)
set_option maxRecDepth 100000 in
set_option maxHeartbeats 4000000 in
theorem sg_X12_135 {G : ky_GW} (hG : ky_OK G) : ∃ s, vk_R RX12 135 "thin" s G.2.1 ∧ ky_Str G s [116, 104, 105, 110] := by
  have hel : ∀ j : Nat, j < 4 → (Cond.eq (.elem (.field (.string "WaistSandModel" 135) "java/lang/String" "value" "[B") (.int (Int32.ofNat j))) (.int (([116, 104, 105, 110] : List Int32).getD j 0))).before G.2.2.1 G.2.1 = true := fun j hj => match j, hj with
    | 0, _ => (ky_lL (ky_lR (ky_lL (ky_lR (ky_lR (ky_lL (ky_lL (ky_lL (ky_lR (ky_lR (ky_lR hG.2.2.2)))))))))))
    | 1, _ => (ky_lR (ky_lR (ky_lL (ky_lR (ky_lR (ky_lL (ky_lL (ky_lL (ky_lR (ky_lR (ky_lR hG.2.2.2)))))))))))
    | 2, _ => (ky_lL (ky_lL (ky_lR (ky_lR (ky_lR (ky_lL (ky_lL (ky_lL (ky_lR (ky_lR (ky_lR hG.2.2.2)))))))))))
    | 3, _ => (ky_lR (ky_lL (ky_lR (ky_lR (ky_lR (ky_lL (ky_lL (ky_lL (ky_lR (ky_lR (ky_lR hG.2.2.2)))))))))))
    | j + 4, h => absurd h (by omega)
  obtain ⟨adK, adV, hS, hA⟩ := vk_Sof (N := 1) (tm := fun _ => .string "WaistSandModel" 135) (len := [4]) (byt := [[116, 104, 105, 110]]) (A := ky_A G) (fun i hi => by rw [show i = 0 by omega]; decide) (fun i hi => (ky_lL (ky_lR (ky_lR (ky_lL (ky_lR (ky_lL (ky_lL (ky_lL (ky_lR (ky_lR (ky_lR hG.2.2.2)))))))))))) (fun i hi => (ky_lR (ky_lR (ky_lR (ky_lL (ky_lR (ky_lL (ky_lL (ky_lL (ky_lR (ky_lR (ky_lR hG.2.2.2)))))))))))) (fun i hi => (ky_lL (ky_lL (ky_lL (ky_lR (ky_lR (ky_lL (ky_lL (ky_lL (ky_lR (ky_lR (ky_lR hG.2.2.2)))))))))))) (fun i hi => by rw [show i = 0 by omega]; exact (ky_lR (ky_lL (ky_lL (ky_lR (ky_lR (ky_lL (ky_lL (ky_lL (ky_lR (ky_lR (ky_lR hG.2.2.2)))))))))))) (fun i hi j hj => by rw [show i = 0 by omega] at hj ⊢; exact hel j hj) (fun i j hi hj hij => absurd (by omega) hij) (ky_noA G)
  refine ⟨adK 0, vk_R.of (hG.1 _ (List.mem_append_right _ (List.mem_append_right _ (List.mem_append_right _ (List.mem_append_right _ (List.mem_append_right _ (List.mem_append_right _ (List.mem_append_right _ (List.mem_append_left _ (List.mem_of_getElem? (i := 173) rfl)))))))))) (hA 0 (by decide)), adV 0, ?_⟩
  exact hS.1 0 (by decide)
set_option maxRecDepth 100000 in
set_option maxHeartbeats 4000000 in
theorem sg_X12_137 {G : ky_GW} (hG : ky_OK G) : ∃ s, vk_R RX12 137 "calm" s G.2.1 ∧ ky_Str G s [99, 97, 108, 109] := by
  have hel : ∀ j : Nat, j < 4 → (Cond.eq (.elem (.field (.string "WaistSandModel" 137) "java/lang/String" "value" "[B") (.int (Int32.ofNat j))) (.int (([99, 97, 108, 109] : List Int32).getD j 0))).before G.2.2.1 G.2.1 = true := fun j hj => match j, hj with
    | 0, _ => (ky_lR (ky_lR (ky_lL (ky_lL (ky_lL (ky_lR (ky_lL (ky_lL (ky_lR (ky_lR (ky_lR hG.2.2.2)))))))))))
    | 1, _ => (ky_lL (ky_lL (ky_lR (ky_lL (ky_lL (ky_lR (ky_lL (ky_lL (ky_lR (ky_lR (ky_lR hG.2.2.2)))))))))))
    | 2, _ => (ky_lR (ky_lL (ky_lR (ky_lL (ky_lL (ky_lR (ky_lL (ky_lL (ky_lR (ky_lR (ky_lR hG.2.2.2)))))))))))
    | 3, _ => (ky_lL (ky_lR (ky_lR (ky_lL (ky_lL (ky_lR (ky_lL (ky_lL (ky_lR (ky_lR (ky_lR hG.2.2.2)))))))))))
    | j + 4, h => absurd h (by omega)
  obtain ⟨adK, adV, hS, hA⟩ := vk_Sof (N := 1) (tm := fun _ => .string "WaistSandModel" 137) (len := [4]) (byt := [[99, 97, 108, 109]]) (A := ky_A G) (fun i hi => by rw [show i = 0 by omega]; decide) (fun i hi => (ky_lL (ky_lR (ky_lR (ky_lR (ky_lR (ky_lL (ky_lL (ky_lL (ky_lR (ky_lR (ky_lR hG.2.2.2)))))))))))) (fun i hi => (ky_lR (ky_lR (ky_lR (ky_lR (ky_lR (ky_lL (ky_lL (ky_lL (ky_lR (ky_lR (ky_lR hG.2.2.2)))))))))))) (fun i hi => (ky_lL (ky_lL (ky_lL (ky_lL (ky_lR (ky_lL (ky_lL (ky_lR (ky_lR (ky_lR hG.2.2.2))))))))))) (fun i hi => by rw [show i = 0 by omega]; exact (ky_lL (ky_lR (ky_lL (ky_lL (ky_lL (ky_lR (ky_lL (ky_lL (ky_lR (ky_lR (ky_lR hG.2.2.2)))))))))))) (fun i hi j hj => by rw [show i = 0 by omega] at hj ⊢; exact hel j hj) (fun i j hi hj hij => absurd (by omega) hij) (ky_noA G)
  refine ⟨adK 0, vk_R.of (hG.1 _ (List.mem_append_right _ (List.mem_append_right _ (List.mem_append_right _ (List.mem_append_right _ (List.mem_append_right _ (List.mem_append_right _ (List.mem_append_right _ (List.mem_append_left _ (List.mem_of_getElem? (i := 174) rfl)))))))))) (hA 0 (by decide)), adV 0, ?_⟩
  exact hS.1 0 (by decide)
set_option maxRecDepth 100000 in
set_option maxHeartbeats 4000000 in
theorem sg_X12_139 {G : ky_GW} (hG : ky_OK G) : ∃ s, vk_R RX12 139 "water" s G.2.1 ∧ ky_Str G s [119, 97, 116, 101, 114] := by
  have hel : ∀ j : Nat, j < 5 → (Cond.eq (.elem (.field (.string "WaistSandModel" 139) "java/lang/String" "value" "[B") (.int (Int32.ofNat j))) (.int (([119, 97, 116, 101, 114] : List Int32).getD j 0))).before G.2.2.1 G.2.1 = true := fun j hj => match j, hj with
    | 0, _ => (ky_lR (ky_lR (ky_lL (ky_lR (ky_lL (ky_lR (ky_lL (ky_lL (ky_lR (ky_lR (ky_lR hG.2.2.2)))))))))))
    | 1, _ => (ky_lL (ky_lL (ky_lR (ky_lR (ky_lL (ky_lR (ky_lL (ky_lL (ky_lR (ky_lR (ky_lR hG.2.2.2)))))))))))
    | 2, _ => (ky_lR (ky_lL (ky_lR (ky_lR (ky_lL (ky_lR (ky_lL (ky_lL (ky_lR (ky_lR (ky_lR hG.2.2.2)))))))))))
    | 3, _ => (ky_lL (ky_lR (ky_lR (ky_lR (ky_lL (ky_lR (ky_lL (ky_lL (ky_lR (ky_lR (ky_lR hG.2.2.2)))))))))))
    | 4, _ => (ky_lR (ky_lR (ky_lR (ky_lR (ky_lL (ky_lR (ky_lL (ky_lL (ky_lR (ky_lR (ky_lR hG.2.2.2)))))))))))
    | j + 5, h => absurd h (by omega)
  obtain ⟨adK, adV, hS, hA⟩ := vk_Sof (N := 1) (tm := fun _ => .string "WaistSandModel" 139) (len := [5]) (byt := [[119, 97, 116, 101, 114]]) (A := ky_A G) (fun i hi => by rw [show i = 0 by omega]; decide) (fun i hi => (ky_lR (ky_lR (ky_lR (ky_lL (ky_lL (ky_lR (ky_lL (ky_lL (ky_lR (ky_lR (ky_lR hG.2.2.2)))))))))))) (fun i hi => (ky_lL (ky_lL (ky_lL (ky_lR (ky_lL (ky_lR (ky_lL (ky_lL (ky_lR (ky_lR (ky_lR hG.2.2.2)))))))))))) (fun i hi => (ky_lR (ky_lL (ky_lL (ky_lR (ky_lL (ky_lR (ky_lL (ky_lL (ky_lR (ky_lR (ky_lR hG.2.2.2)))))))))))) (fun i hi => by rw [show i = 0 by omega]; exact (ky_lL (ky_lR (ky_lL (ky_lR (ky_lL (ky_lR (ky_lL (ky_lL (ky_lR (ky_lR (ky_lR hG.2.2.2)))))))))))) (fun i hi j hj => by rw [show i = 0 by omega] at hj ⊢; exact hel j hj) (fun i j hi hj hij => absurd (by omega) hij) (ky_noA G)
  refine ⟨adK 0, vk_R.of (hG.1 _ (List.mem_append_right _ (List.mem_append_right _ (List.mem_append_right _ (List.mem_append_right _ (List.mem_append_right _ (List.mem_append_right _ (List.mem_append_right _ (List.mem_append_left _ (List.mem_of_getElem? (i := 175) rfl)))))))))) (hA 0 (by decide)), adV 0, ?_⟩
  exact hS.1 0 (by decide)
set_option maxRecDepth 100000 in
set_option maxHeartbeats 4000000 in
theorem sg_X12_141 {G : ky_GW} (hG : ky_OK G) : ∃ s, vk_R RX12 141 "tide" s G.2.1 ∧ ky_Str G s [116, 105, 100, 101] := by
  have hel : ∀ j : Nat, j < 4 → (Cond.eq (.elem (.field (.string "WaistSandModel" 141) "java/lang/String" "value" "[B") (.int (Int32.ofNat j))) (.int (([116, 105, 100, 101] : List Int32).getD j 0))).before G.2.2.1 G.2.1 = true := fun j hj => match j, hj with
    | 0, _ => (ky_lR (ky_lL (ky_lR (ky_lL (ky_lR (ky_lR (ky_lL (ky_lL (ky_lR (ky_lR (ky_lR hG.2.2.2)))))))))))
    | 1, _ => (ky_lL (ky_lR (ky_lR (ky_lL (ky_lR (ky_lR (ky_lL (ky_lL (ky_lR (ky_lR (ky_lR hG.2.2.2)))))))))))
    | 2, _ => (ky_lR (ky_lR (ky_lR (ky_lL (ky_lR (ky_lR (ky_lL (ky_lL (ky_lR (ky_lR (ky_lR hG.2.2.2)))))))))))
    | 3, _ => (ky_lL (ky_lL (ky_lL (ky_lR (ky_lR (ky_lR (ky_lL (ky_lL (ky_lR (ky_lR (ky_lR hG.2.2.2)))))))))))
    | j + 4, h => absurd h (by omega)
  obtain ⟨adK, adV, hS, hA⟩ := vk_Sof (N := 1) (tm := fun _ => .string "WaistSandModel" 141) (len := [4]) (byt := [[116, 105, 100, 101]]) (A := ky_A G) (fun i hi => by rw [show i = 0 by omega]; decide) (fun i hi => (ky_lL (ky_lL (ky_lL (ky_lR (ky_lR (ky_lL (ky_lL (ky_lR (ky_lR (ky_lR hG.2.2.2))))))))))) (fun i hi => (ky_lL (ky_lR (ky_lL (ky_lL (ky_lR (ky_lR (ky_lL (ky_lL (ky_lR (ky_lR (ky_lR hG.2.2.2)))))))))))) (fun i hi => (ky_lR (ky_lR (ky_lL (ky_lL (ky_lR (ky_lR (ky_lL (ky_lL (ky_lR (ky_lR (ky_lR hG.2.2.2)))))))))))) (fun i hi => by rw [show i = 0 by omega]; exact (ky_lL (ky_lL (ky_lR (ky_lL (ky_lR (ky_lR (ky_lL (ky_lL (ky_lR (ky_lR (ky_lR hG.2.2.2)))))))))))) (fun i hi j hj => by rw [show i = 0 by omega] at hj ⊢; exact hel j hj) (fun i j hi hj hij => absurd (by omega) hij) (ky_noA G)
  refine ⟨adK 0, vk_R.of (hG.1 _ (List.mem_append_right _ (List.mem_append_right _ (List.mem_append_right _ (List.mem_append_right _ (List.mem_append_right _ (List.mem_append_right _ (List.mem_append_right _ (List.mem_append_left _ (List.mem_of_getElem? (i := 176) rfl)))))))))) (hA 0 (by decide)), adV 0, ?_⟩
  exact hS.1 0 (by decide)
set_option maxRecDepth 100000 in
set_option maxHeartbeats 4000000 in
theorem sg_X12_143 {G : ky_GW} (hG : ky_OK G) : ∃ s, vk_R RX12 143 "move" s G.2.1 ∧ ky_Str G s [109, 111, 118, 101] := by
  have hel : ∀ j : Nat, j < 4 → (Cond.eq (.elem (.field (.string "WaistSandModel" 143) "java/lang/String" "value" "[B") (.int (Int32.ofNat j))) (.int (([109, 111, 118, 101] : List Int32).getD j 0))).before G.2.2.1 G.2.1 = true := fun j hj => match j, hj with
    | 0, _ => (ky_lR (ky_lL (ky_lR (ky_lR (ky_lR (ky_lR (ky_lL (ky_lL (ky_lR (ky_lR (ky_lR hG.2.2.2)))))))))))
    | 1, _ => (ky_lL (ky_lR (ky_lR (ky_lR (ky_lR (ky_lR (ky_lL (ky_lL (ky_lR (ky_lR (ky_lR hG.2.2.2)))))))))))
    | 2, _ => (ky_lR (ky_lR (ky_lR (ky_lR (ky_lR (ky_lR (ky_lL (ky_lL (ky_lR (ky_lR (ky_lR hG.2.2.2)))))))))))
    | 3, _ => (ky_lL (ky_lL (ky_lL (ky_lL (ky_lL (ky_lR (ky_lL (ky_lR (ky_lR (ky_lR hG.2.2.2))))))))))
    | j + 4, h => absurd h (by omega)
  obtain ⟨adK, adV, hS, hA⟩ := vk_Sof (N := 1) (tm := fun _ => .string "WaistSandModel" 143) (len := [4]) (byt := [[109, 111, 118, 101]]) (A := ky_A G) (fun i hi => by rw [show i = 0 by omega]; decide) (fun i hi => (ky_lR (ky_lL (ky_lL (ky_lR (ky_lR (ky_lR (ky_lL (ky_lL (ky_lR (ky_lR (ky_lR hG.2.2.2)))))))))))) (fun i hi => (ky_lL (ky_lR (ky_lL (ky_lR (ky_lR (ky_lR (ky_lL (ky_lL (ky_lR (ky_lR (ky_lR hG.2.2.2)))))))))))) (fun i hi => (ky_lR (ky_lR (ky_lL (ky_lR (ky_lR (ky_lR (ky_lL (ky_lL (ky_lR (ky_lR (ky_lR hG.2.2.2)))))))))))) (fun i hi => by rw [show i = 0 by omega]; exact (ky_lL (ky_lL (ky_lR (ky_lR (ky_lR (ky_lR (ky_lL (ky_lL (ky_lR (ky_lR (ky_lR hG.2.2.2)))))))))))) (fun i hi j hj => by rw [show i = 0 by omega] at hj ⊢; exact hel j hj) (fun i j hi hj hij => absurd (by omega) hij) (ky_noA G)
  refine ⟨adK 0, vk_R.of (hG.1 _ (List.mem_append_right _ (List.mem_append_right _ (List.mem_append_right _ (List.mem_append_right _ (List.mem_append_right _ (List.mem_append_right _ (List.mem_append_right _ (List.mem_append_left _ (List.mem_of_getElem? (i := 177) rfl)))))))))) (hA 0 (by decide)), adV 0, ?_⟩
  exact hS.1 0 (by decide)
set_option maxRecDepth 100000 in
set_option maxHeartbeats 4000000 in
theorem sg_X12_113 {G : ky_GW} (hG : ky_OK G) : ∃ s, vk_R RX12 113 "up" s G.2.1 ∧ ky_Str G s [117, 112] := by
  have hel : ∀ j : Nat, j < 2 → (Cond.eq (.elem (.field (.string "WaistSandModel" 113) "java/lang/String" "value" "[B") (.int (Int32.ofNat j))) (.int (([117, 112] : List Int32).getD j 0))).before G.2.2.1 G.2.1 = true := fun j hj => match j, hj with
    | 0, _ => (ky_lL (ky_lR (ky_lR (ky_lL (ky_lL (ky_lL (ky_lR (ky_lL (ky_lR (ky_lR (ky_lR hG.2.2.2)))))))))))
    | 1, _ => (ky_lR (ky_lR (ky_lR (ky_lL (ky_lL (ky_lL (ky_lR (ky_lL (ky_lR (ky_lR (ky_lR hG.2.2.2)))))))))))
    | j + 2, h => absurd h (by omega)
  obtain ⟨adK, adV, hS, hA⟩ := vk_Sof (N := 1) (tm := fun _ => .string "WaistSandModel" 113) (len := [2]) (byt := [[117, 112]]) (A := ky_A G) (fun i hi => by rw [show i = 0 by omega]; decide) (fun i hi => (ky_lL (ky_lR (ky_lL (ky_lL (ky_lL (ky_lL (ky_lR (ky_lL (ky_lR (ky_lR (ky_lR hG.2.2.2)))))))))))) (fun i hi => (ky_lR (ky_lR (ky_lL (ky_lL (ky_lL (ky_lL (ky_lR (ky_lL (ky_lR (ky_lR (ky_lR hG.2.2.2)))))))))))) (fun i hi => (ky_lL (ky_lL (ky_lR (ky_lL (ky_lL (ky_lL (ky_lR (ky_lL (ky_lR (ky_lR (ky_lR hG.2.2.2)))))))))))) (fun i hi => by rw [show i = 0 by omega]; exact (ky_lR (ky_lL (ky_lR (ky_lL (ky_lL (ky_lL (ky_lR (ky_lL (ky_lR (ky_lR (ky_lR hG.2.2.2)))))))))))) (fun i hi j hj => by rw [show i = 0 by omega] at hj ⊢; exact hel j hj) (fun i j hi hj hij => absurd (by omega) hij) (ky_noA G)
  refine ⟨adK 0, vk_R.of (hG.1 _ (List.mem_append_right _ (List.mem_append_right _ (List.mem_append_right _ (List.mem_append_right _ (List.mem_append_right _ (List.mem_append_right _ (List.mem_append_right _ (List.mem_append_left _ (List.mem_of_getElem? (i := 182) rfl)))))))))) (hA 0 (by decide)), adV 0, ?_⟩
  exact hS.1 0 (by decide)
set_option maxRecDepth 100000 in
set_option maxHeartbeats 4000000 in
theorem sg_X12_119 {G : ky_GW} (hG : ky_OK G) : ∃ s, vk_R RX12 119 "down" s G.2.1 ∧ ky_Str G s [100, 111, 119, 110] := by
  have hel : ∀ j : Nat, j < 4 → (Cond.eq (.elem (.field (.string "WaistSandModel" 119) "java/lang/String" "value" "[B") (.int (Int32.ofNat j))) (.int (([100, 111, 119, 110] : List Int32).getD j 0))).before G.2.2.1 G.2.1 = true := fun j hj => match j, hj with
    | 0, _ => (ky_lR (ky_lL (ky_lR (ky_lR (ky_lL (ky_lL (ky_lR (ky_lL (ky_lR (ky_lR (ky_lR hG.2.2.2)))))))))))
    | 1, _ => (ky_lL (ky_lR (ky_lR (ky_lR (ky_lL (ky_lL (ky_lR (ky_lL (ky_lR (ky_lR (ky_lR hG.2.2.2)))))))))))
    | 2, _ => (ky_lR (ky_lR (ky_lR (ky_lR (ky_lL (ky_lL (ky_lR (ky_lL (ky_lR (ky_lR (ky_lR hG.2.2.2)))))))))))
    | 3, _ => (ky_lL (ky_lL (ky_lL (ky_lR (ky_lL (ky_lR (ky_lL (ky_lR (ky_lR (ky_lR hG.2.2.2))))))))))
    | j + 4, h => absurd h (by omega)
  obtain ⟨adK, adV, hS, hA⟩ := vk_Sof (N := 1) (tm := fun _ => .string "WaistSandModel" 119) (len := [4]) (byt := [[100, 111, 119, 110]]) (A := ky_A G) (fun i hi => by rw [show i = 0 by omega]; decide) (fun i hi => (ky_lR (ky_lL (ky_lL (ky_lR (ky_lL (ky_lL (ky_lR (ky_lL (ky_lR (ky_lR (ky_lR hG.2.2.2)))))))))))) (fun i hi => (ky_lL (ky_lR (ky_lL (ky_lR (ky_lL (ky_lL (ky_lR (ky_lL (ky_lR (ky_lR (ky_lR hG.2.2.2)))))))))))) (fun i hi => (ky_lR (ky_lR (ky_lL (ky_lR (ky_lL (ky_lL (ky_lR (ky_lL (ky_lR (ky_lR (ky_lR hG.2.2.2)))))))))))) (fun i hi => by rw [show i = 0 by omega]; exact (ky_lL (ky_lL (ky_lR (ky_lR (ky_lL (ky_lL (ky_lR (ky_lL (ky_lR (ky_lR (ky_lR hG.2.2.2)))))))))))) (fun i hi j hj => by rw [show i = 0 by omega] at hj ⊢; exact hel j hj) (fun i j hi hj hij => absurd (by omega) hij) (ky_noA G)
  refine ⟨adK 0, vk_R.of (hG.1 _ (List.mem_append_right _ (List.mem_append_right _ (List.mem_append_right _ (List.mem_append_right _ (List.mem_append_right _ (List.mem_append_right _ (List.mem_append_right _ (List.mem_append_left _ (List.mem_of_getElem? (i := 187) rfl)))))))))) (hA 0 (by decide)), adV 0, ?_⟩
  exact hS.1 0 (by decide)
set_option maxRecDepth 100000 in
set_option maxHeartbeats 4000000 in
theorem sg_X12_121 {G : ky_GW} (hG : ky_OK G) : ∃ s, vk_R RX12 121 "stirs" s G.2.1 ∧ ky_Str G s [115, 116, 105, 114, 115] := by
  have hel : ∀ j : Nat, j < 5 → (Cond.eq (.elem (.field (.string "WaistSandModel" 121) "java/lang/String" "value" "[B") (.int (Int32.ofNat j))) (.int (([115, 116, 105, 114, 115] : List Int32).getD j 0))).before G.2.2.1 G.2.1 = true := fun j hj => match j, hj with
    | 0, _ => (ky_lR (ky_lR (ky_lR (ky_lL (ky_lR (ky_lL (ky_lR (ky_lL (ky_lR (ky_lR (ky_lR hG.2.2.2)))))))))))
    | 1, _ => (ky_lL (ky_lL (ky_lL (ky_lR (ky_lR (ky_lL (ky_lR (ky_lL (ky_lR (ky_lR (ky_lR hG.2.2.2)))))))))))
    | 2, _ => (ky_lR (ky_lL (ky_lL (ky_lR (ky_lR (ky_lL (ky_lR (ky_lL (ky_lR (ky_lR (ky_lR hG.2.2.2)))))))))))
    | 3, _ => (ky_lL (ky_lR (ky_lL (ky_lR (ky_lR (ky_lL (ky_lR (ky_lL (ky_lR (ky_lR (ky_lR hG.2.2.2)))))))))))
    | 4, _ => (ky_lR (ky_lR (ky_lL (ky_lR (ky_lR (ky_lL (ky_lR (ky_lL (ky_lR (ky_lR (ky_lR hG.2.2.2)))))))))))
    | j + 5, h => absurd h (by omega)
  obtain ⟨adK, adV, hS, hA⟩ := vk_Sof (N := 1) (tm := fun _ => .string "WaistSandModel" 121) (len := [5]) (byt := [[115, 116, 105, 114, 115]]) (A := ky_A G) (fun i hi => by rw [show i = 0 by omega]; decide) (fun i hi => (ky_lR (ky_lR (ky_lL (ky_lL (ky_lR (ky_lL (ky_lR (ky_lL (ky_lR (ky_lR (ky_lR hG.2.2.2)))))))))))) (fun i hi => (ky_lL (ky_lL (ky_lR (ky_lL (ky_lR (ky_lL (ky_lR (ky_lL (ky_lR (ky_lR (ky_lR hG.2.2.2)))))))))))) (fun i hi => (ky_lR (ky_lL (ky_lR (ky_lL (ky_lR (ky_lL (ky_lR (ky_lL (ky_lR (ky_lR (ky_lR hG.2.2.2)))))))))))) (fun i hi => by rw [show i = 0 by omega]; exact (ky_lL (ky_lR (ky_lR (ky_lL (ky_lR (ky_lL (ky_lR (ky_lL (ky_lR (ky_lR (ky_lR hG.2.2.2)))))))))))) (fun i hi j hj => by rw [show i = 0 by omega] at hj ⊢; exact hel j hj) (fun i j hi hj hij => absurd (by omega) hij) (ky_noA G)
  refine ⟨adK 0, vk_R.of (hG.1 _ (List.mem_append_right _ (List.mem_append_right _ (List.mem_append_right _ (List.mem_append_right _ (List.mem_append_right _ (List.mem_append_right _ (List.mem_append_right _ (List.mem_append_left _ (List.mem_of_getElem? (i := 188) rfl)))))))))) (hA 0 (by decide)), adV 0, ?_⟩
  exact hS.1 0 (by decide)
set_option maxRecDepth 100000 in
set_option maxHeartbeats 4000000 in
theorem sg_X12_123 {G : ky_GW} (hG : ky_OK G) : ∃ s, vk_R RX12 123 "takes" s G.2.1 ∧ ky_Str G s [116, 97, 107, 101, 115] := by
  have hel : ∀ j : Nat, j < 5 → (Cond.eq (.elem (.field (.string "WaistSandModel" 123) "java/lang/String" "value" "[B") (.int (Int32.ofNat j))) (.int (([116, 97, 107, 101, 115] : List Int32).getD j 0))).before G.2.2.1 G.2.1 = true := fun j hj => match j, hj with
    | 0, _ => (ky_lL (ky_lR (ky_lL (ky_lL (ky_lL (ky_lR (ky_lR (ky_lL (ky_lR (ky_lR (ky_lR hG.2.2.2)))))))))))
    | 1, _ => (ky_lR (ky_lR (ky_lL (ky_lL (ky_lL (ky_lR (ky_lR (ky_lL (ky_lR (ky_lR (ky_lR hG.2.2.2)))))))))))
    | 2, _ => (ky_lL (ky_lL (ky_lR (ky_lL (ky_lL (ky_lR (ky_lR (ky_lL (ky_lR (ky_lR (ky_lR hG.2.2.2)))))))))))
    | 3, _ => (ky_lR (ky_lL (ky_lR (ky_lL (ky_lL (ky_lR (ky_lR (ky_lL (ky_lR (ky_lR (ky_lR hG.2.2.2)))))))))))
    | 4, _ => (ky_lL (ky_lR (ky_lR (ky_lL (ky_lL (ky_lR (ky_lR (ky_lL (ky_lR (ky_lR (ky_lR hG.2.2.2)))))))))))
    | j + 5, h => absurd h (by omega)
  obtain ⟨adK, adV, hS, hA⟩ := vk_Sof (N := 1) (tm := fun _ => .string "WaistSandModel" 123) (len := [5]) (byt := [[116, 97, 107, 101, 115]]) (A := ky_A G) (fun i hi => by rw [show i = 0 by omega]; decide) (fun i hi => (ky_lR (ky_lL (ky_lR (ky_lR (ky_lR (ky_lL (ky_lR (ky_lL (ky_lR (ky_lR (ky_lR hG.2.2.2)))))))))))) (fun i hi => (ky_lL (ky_lR (ky_lR (ky_lR (ky_lR (ky_lL (ky_lR (ky_lL (ky_lR (ky_lR (ky_lR hG.2.2.2)))))))))))) (fun i hi => (ky_lR (ky_lR (ky_lR (ky_lR (ky_lR (ky_lL (ky_lR (ky_lL (ky_lR (ky_lR (ky_lR hG.2.2.2)))))))))))) (fun i hi => by rw [show i = 0 by omega]; exact (ky_lL (ky_lL (ky_lL (ky_lL (ky_lR (ky_lR (ky_lL (ky_lR (ky_lR (ky_lR hG.2.2.2))))))))))) (fun i hi j hj => by rw [show i = 0 by omega] at hj ⊢; exact hel j hj) (fun i j hi hj hij => absurd (by omega) hij) (ky_noA G)
  refine ⟨adK 0, vk_R.of (hG.1 _ (List.mem_append_right _ (List.mem_append_right _ (List.mem_append_right _ (List.mem_append_right _ (List.mem_append_right _ (List.mem_append_right _ (List.mem_append_right _ (List.mem_append_left _ (List.mem_of_getElem? (i := 189) rfl)))))))))) (hA 0 (by decide)), adV 0, ?_⟩
  exact hS.1 0 (by decide)
set_option maxRecDepth 100000 in
set_option maxHeartbeats 4000000 in
theorem sg_X12_148 {G : ky_GW} (hG : ky_OK G) : ∃ s, vk_R RX12 148 "slip" s G.2.1 ∧ ky_Str G s [115, 108, 105, 112] := by
  have hel : ∀ j : Nat, j < 4 → (Cond.eq (.elem (.field (.string "WaistSandModel" 148) "java/lang/String" "value" "[B") (.int (Int32.ofNat j))) (.int (([115, 108, 105, 112] : List Int32).getD j 0))).before G.2.2.1 G.2.1 = true := fun j hj => match j, hj with
    | 0, _ => (ky_lL (ky_lL (ky_lR (ky_lR (ky_lL (ky_lR (ky_lR (ky_lL (ky_lR (ky_lR (ky_lR hG.2.2.2)))))))))))
    | 1, _ => (ky_lR (ky_lL (ky_lR (ky_lR (ky_lL (ky_lR (ky_lR (ky_lL (ky_lR (ky_lR (ky_lR hG.2.2.2)))))))))))
    | 2, _ => (ky_lL (ky_lR (ky_lR (ky_lR (ky_lL (ky_lR (ky_lR (ky_lL (ky_lR (ky_lR (ky_lR hG.2.2.2)))))))))))
    | 3, _ => (ky_lR (ky_lR (ky_lR (ky_lR (ky_lL (ky_lR (ky_lR (ky_lL (ky_lR (ky_lR (ky_lR hG.2.2.2)))))))))))
    | j + 4, h => absurd h (by omega)
  obtain ⟨adK, adV, hS, hA⟩ := vk_Sof (N := 1) (tm := fun _ => .string "WaistSandModel" 148) (len := [4]) (byt := [[115, 108, 105, 112]]) (A := ky_A G) (fun i hi => by rw [show i = 0 by omega]; decide) (fun i hi => (ky_lL (ky_lL (ky_lL (ky_lR (ky_lL (ky_lR (ky_lR (ky_lL (ky_lR (ky_lR (ky_lR hG.2.2.2)))))))))))) (fun i hi => (ky_lR (ky_lL (ky_lL (ky_lR (ky_lL (ky_lR (ky_lR (ky_lL (ky_lR (ky_lR (ky_lR hG.2.2.2)))))))))))) (fun i hi => (ky_lL (ky_lR (ky_lL (ky_lR (ky_lL (ky_lR (ky_lR (ky_lL (ky_lR (ky_lR (ky_lR hG.2.2.2)))))))))))) (fun i hi => by rw [show i = 0 by omega]; exact (ky_lR (ky_lR (ky_lL (ky_lR (ky_lL (ky_lR (ky_lR (ky_lL (ky_lR (ky_lR (ky_lR hG.2.2.2)))))))))))) (fun i hi j hj => by rw [show i = 0 by omega] at hj ⊢; exact hel j hj) (fun i j hi hj hij => absurd (by omega) hij) (ky_noA G)
  refine ⟨adK 0, vk_R.of (hG.1 _ (List.mem_append_right _ (List.mem_append_right _ (List.mem_append_right _ (List.mem_append_right _ (List.mem_append_right _ (List.mem_append_right _ (List.mem_append_right _ (List.mem_append_left _ (List.mem_of_getElem? (i := 190) rfl)))))))))) (hA 0 (by decide)), adV 0, ?_⟩
  exact hS.1 0 (by decide)
set_option maxRecDepth 100000 in
set_option maxHeartbeats 4000000 in
theorem sg_X12_150 {G : ky_GW} (hG : ky_OK G) : ∃ s, vk_R RX12 150 "bears" s G.2.1 ∧ ky_Str G s [98, 101, 97, 114, 115] := by
  have hel : ∀ j : Nat, j < 5 → (Cond.eq (.elem (.field (.string "WaistSandModel" 150) "java/lang/String" "value" "[B") (.int (Int32.ofNat j))) (.int (([98, 101, 97, 114, 115] : List Int32).getD j 0))).before G.2.2.1 G.2.1 = true := fun j hj => match j, hj with
    | 0, _ => (ky_lR (ky_lL (ky_lR (ky_lL (ky_lR (ky_lR (ky_lR (ky_lL (ky_lR (ky_lR (ky_lR hG.2.2.2)))))))))))
    | 1, _ => (ky_lL (ky_lR (ky_lR (ky_lL (ky_lR (ky_lR (ky_lR (ky_lL (ky_lR (ky_lR (ky_lR hG.2.2.2)))))))))))
    | 2, _ => (ky_lR (ky_lR (ky_lR (ky_lL (ky_lR (ky_lR (ky_lR (ky_lL (ky_lR (ky_lR (ky_lR hG.2.2.2)))))))))))
    | 3, _ => (ky_lL (ky_lL (ky_lL (ky_lR (ky_lR (ky_lR (ky_lR (ky_lL (ky_lR (ky_lR (ky_lR hG.2.2.2)))))))))))
    | 4, _ => (ky_lR (ky_lL (ky_lL (ky_lR (ky_lR (ky_lR (ky_lR (ky_lL (ky_lR (ky_lR (ky_lR hG.2.2.2)))))))))))
    | j + 5, h => absurd h (by omega)
  obtain ⟨adK, adV, hS, hA⟩ := vk_Sof (N := 1) (tm := fun _ => .string "WaistSandModel" 150) (len := [5]) (byt := [[98, 101, 97, 114, 115]]) (A := ky_A G) (fun i hi => by rw [show i = 0 by omega]; decide) (fun i hi => (ky_lL (ky_lL (ky_lL (ky_lR (ky_lR (ky_lR (ky_lL (ky_lR (ky_lR (ky_lR hG.2.2.2))))))))))) (fun i hi => (ky_lL (ky_lR (ky_lL (ky_lL (ky_lR (ky_lR (ky_lR (ky_lL (ky_lR (ky_lR (ky_lR hG.2.2.2)))))))))))) (fun i hi => (ky_lR (ky_lR (ky_lL (ky_lL (ky_lR (ky_lR (ky_lR (ky_lL (ky_lR (ky_lR (ky_lR hG.2.2.2)))))))))))) (fun i hi => by rw [show i = 0 by omega]; exact (ky_lL (ky_lL (ky_lR (ky_lL (ky_lR (ky_lR (ky_lR (ky_lL (ky_lR (ky_lR (ky_lR hG.2.2.2)))))))))))) (fun i hi j hj => by rw [show i = 0 by omega] at hj ⊢; exact hel j hj) (fun i j hi hj hij => absurd (by omega) hij) (ky_noA G)
  refine ⟨adK 0, vk_R.of (hG.1 _ (List.mem_append_right _ (List.mem_append_right _ (List.mem_append_right _ (List.mem_append_right _ (List.mem_append_right _ (List.mem_append_right _ (List.mem_append_right _ (List.mem_append_left _ (List.mem_of_getElem? (i := 191) rfl)))))))))) (hA 0 (by decide)), adV 0, ?_⟩
  exact hS.1 0 (by decide)
set_option maxRecDepth 100000 in
set_option maxHeartbeats 4000000 in
theorem sg_X12_155 {G : ky_GW} (hG : ky_OK G) : ∃ s, vk_R RX12 155 "heap" s G.2.1 ∧ ky_Str G s [104, 101, 97, 112] := by
  have hel : ∀ j : Nat, j < 4 → (Cond.eq (.elem (.field (.string "WaistSandModel" 155) "java/lang/String" "value" "[B") (.int (Int32.ofNat j))) (.int (([104, 101, 97, 112] : List Int32).getD j 0))).before G.2.2.1 G.2.1 = true := fun j hj => match j, hj with
    | 0, _ => (ky_lL (ky_lR (ky_lR (ky_lR (ky_lR (ky_lR (ky_lR (ky_lL (ky_lR (ky_lR (ky_lR hG.2.2.2)))))))))))
    | 1, _ => (ky_lR (ky_lR (ky_lR (ky_lR (ky_lR (ky_lR (ky_lR (ky_lL (ky_lR (ky_lR (ky_lR hG.2.2.2)))))))))))
    | 2, _ => (ky_lL (ky_lL (ky_lL (ky_lL (ky_lL (ky_lL (ky_lR (ky_lR (ky_lR (ky_lR hG.2.2.2))))))))))
    | 3, _ => (ky_lL (ky_lR (ky_lL (ky_lL (ky_lL (ky_lL (ky_lL (ky_lR (ky_lR (ky_lR (ky_lR hG.2.2.2)))))))))))
    | j + 4, h => absurd h (by omega)
  obtain ⟨adK, adV, hS, hA⟩ := vk_Sof (N := 1) (tm := fun _ => .string "WaistSandModel" 155) (len := [4]) (byt := [[104, 101, 97, 112]]) (A := ky_A G) (fun i hi => by rw [show i = 0 by omega]; decide) (fun i hi => (ky_lL (ky_lR (ky_lL (ky_lR (ky_lR (ky_lR (ky_lR (ky_lL (ky_lR (ky_lR (ky_lR hG.2.2.2)))))))))))) (fun i hi => (ky_lR (ky_lR (ky_lL (ky_lR (ky_lR (ky_lR (ky_lR (ky_lL (ky_lR (ky_lR (ky_lR hG.2.2.2)))))))))))) (fun i hi => (ky_lL (ky_lL (ky_lR (ky_lR (ky_lR (ky_lR (ky_lR (ky_lL (ky_lR (ky_lR (ky_lR hG.2.2.2)))))))))))) (fun i hi => by rw [show i = 0 by omega]; exact (ky_lR (ky_lL (ky_lR (ky_lR (ky_lR (ky_lR (ky_lR (ky_lL (ky_lR (ky_lR (ky_lR hG.2.2.2)))))))))))) (fun i hi j hj => by rw [show i = 0 by omega] at hj ⊢; exact hel j hj) (fun i j hi hj hij => absurd (by omega) hij) (ky_noA G)
  refine ⟨adK 0, vk_R.of (hG.1 _ (List.mem_append_right _ (List.mem_append_right _ (List.mem_append_right _ (List.mem_append_right _ (List.mem_append_right _ (List.mem_append_right _ (List.mem_append_right _ (List.mem_append_left _ (List.mem_of_getElem? (i := 200) rfl)))))))))) (hA 0 (by decide)), adV 0, ?_⟩
  exact hS.1 0 (by decide)
set_option maxRecDepth 100000 in
set_option maxHeartbeats 4000000 in
theorem sg_X12_161 {G : ky_GW} (hG : ky_OK G) : ∃ s, vk_R RX12 161 "shine" s G.2.1 ∧ ky_Str G s [115, 104, 105, 110, 101] := by
  have hel : ∀ j : Nat, j < 5 → (Cond.eq (.elem (.field (.string "WaistSandModel" 161) "java/lang/String" "value" "[B") (.int (Int32.ofNat j))) (.int (([115, 104, 105, 110, 101] : List Int32).getD j 0))).before G.2.2.1 G.2.1 = true := fun j hj => match j, hj with
    | 0, _ => (ky_lR (ky_lR (ky_lR (ky_lL (ky_lL (ky_lL (ky_lL (ky_lR (ky_lR (ky_lR (ky_lR hG.2.2.2)))))))))))
    | 1, _ => (ky_lL (ky_lL (ky_lL (ky_lR (ky_lL (ky_lL (ky_lL (ky_lR (ky_lR (ky_lR (ky_lR hG.2.2.2)))))))))))
    | 2, _ => (ky_lR (ky_lL (ky_lL (ky_lR (ky_lL (ky_lL (ky_lL (ky_lR (ky_lR (ky_lR (ky_lR hG.2.2.2)))))))))))
    | 3, _ => (ky_lL (ky_lR (ky_lL (ky_lR (ky_lL (ky_lL (ky_lL (ky_lR (ky_lR (ky_lR (ky_lR hG.2.2.2)))))))))))
    | 4, _ => (ky_lR (ky_lR (ky_lL (ky_lR (ky_lL (ky_lL (ky_lL (ky_lR (ky_lR (ky_lR (ky_lR hG.2.2.2)))))))))))
    | j + 5, h => absurd h (by omega)
  obtain ⟨adK, adV, hS, hA⟩ := vk_Sof (N := 1) (tm := fun _ => .string "WaistSandModel" 161) (len := [5]) (byt := [[115, 104, 105, 110, 101]]) (A := ky_A G) (fun i hi => by rw [show i = 0 by omega]; decide) (fun i hi => (ky_lR (ky_lR (ky_lL (ky_lL (ky_lL (ky_lL (ky_lL (ky_lR (ky_lR (ky_lR (ky_lR hG.2.2.2)))))))))))) (fun i hi => (ky_lL (ky_lL (ky_lR (ky_lL (ky_lL (ky_lL (ky_lL (ky_lR (ky_lR (ky_lR (ky_lR hG.2.2.2)))))))))))) (fun i hi => (ky_lR (ky_lL (ky_lR (ky_lL (ky_lL (ky_lL (ky_lL (ky_lR (ky_lR (ky_lR (ky_lR hG.2.2.2)))))))))))) (fun i hi => by rw [show i = 0 by omega]; exact (ky_lL (ky_lR (ky_lR (ky_lL (ky_lL (ky_lL (ky_lL (ky_lR (ky_lR (ky_lR (ky_lR hG.2.2.2)))))))))))) (fun i hi j hj => by rw [show i = 0 by omega] at hj ⊢; exact hel j hj) (fun i j hi hj hij => absurd (by omega) hij) (ky_noA G)
  refine ⟨adK 0, vk_R.of (hG.1 _ (List.mem_append_right _ (List.mem_append_right _ (List.mem_append_right _ (List.mem_append_right _ (List.mem_append_right _ (List.mem_append_right _ (List.mem_append_right _ (List.mem_append_left _ (List.mem_of_getElem? (i := 205) rfl)))))))))) (hA 0 (by decide)), adV 0, ?_⟩
  exact hS.1 0 (by decide)
set_option maxRecDepth 100000 in
set_option maxHeartbeats 4000000 in
theorem sg_X12_163 {G : ky_GW} (hG : ky_OK G) : ∃ s, vk_R RX12 163 "hole" s G.2.1 ∧ ky_Str G s [104, 111, 108, 101] := by
  have hel : ∀ j : Nat, j < 4 → (Cond.eq (.elem (.field (.string "WaistSandModel" 163) "java/lang/String" "value" "[B") (.int (Int32.ofNat j))) (.int (([104, 111, 108, 101] : List Int32).getD j 0))).before G.2.2.1 G.2.1 = true := fun j hj => match j, hj with
    | 0, _ => (ky_lL (ky_lL (ky_lL (ky_lR (ky_lL (ky_lL (ky_lR (ky_lR (ky_lR (ky_lR hG.2.2.2))))))))))
    | 1, _ => (ky_lL (ky_lR (ky_lL (ky_lL (ky_lR (ky_lL (ky_lL (ky_lR (ky_lR (ky_lR (ky_lR hG.2.2.2)))))))))))
    | 2, _ => (ky_lR (ky_lR (ky_lL (ky_lL (ky_lR (ky_lL (ky_lL (ky_lR (ky_lR (ky_lR (ky_lR hG.2.2.2)))))))))))
    | 3, _ => (ky_lL (ky_lL (ky_lR (ky_lL (ky_lR (ky_lL (ky_lL (ky_lR (ky_lR (ky_lR (ky_lR hG.2.2.2)))))))))))
    | j + 4, h => absurd h (by omega)
  obtain ⟨adK, adV, hS, hA⟩ := vk_Sof (N := 1) (tm := fun _ => .string "WaistSandModel" 163) (len := [4]) (byt := [[104, 111, 108, 101]]) (A := ky_A G) (fun i hi => by rw [show i = 0 by omega]; decide) (fun i hi => (ky_lL (ky_lL (ky_lR (ky_lR (ky_lL (ky_lL (ky_lL (ky_lR (ky_lR (ky_lR (ky_lR hG.2.2.2)))))))))))) (fun i hi => (ky_lR (ky_lL (ky_lR (ky_lR (ky_lL (ky_lL (ky_lL (ky_lR (ky_lR (ky_lR (ky_lR hG.2.2.2)))))))))))) (fun i hi => (ky_lL (ky_lR (ky_lR (ky_lR (ky_lL (ky_lL (ky_lL (ky_lR (ky_lR (ky_lR (ky_lR hG.2.2.2)))))))))))) (fun i hi => by rw [show i = 0 by omega]; exact (ky_lR (ky_lR (ky_lR (ky_lR (ky_lL (ky_lL (ky_lL (ky_lR (ky_lR (ky_lR (ky_lR hG.2.2.2)))))))))))) (fun i hi j hj => by rw [show i = 0 by omega] at hj ⊢; exact hel j hj) (fun i j hi hj hij => absurd (by omega) hij) (ky_noA G)
  refine ⟨adK 0, vk_R.of (hG.1 _ (List.mem_append_right _ (List.mem_append_right _ (List.mem_append_right _ (List.mem_append_right _ (List.mem_append_right _ (List.mem_append_right _ (List.mem_append_right _ (List.mem_append_left _ (List.mem_of_getElem? (i := 206) rfl)))))))))) (hA 0 (by decide)), adV 0, ?_⟩
  exact hS.1 0 (by decide)
set_option maxRecDepth 100000 in
set_option maxHeartbeats 4000000 in
theorem sg_X12_168 {G : ky_GW} (hG : ky_OK G) : ∃ s, vk_R RX12 168 "person" s G.2.1 ∧ ky_Str G s [112, 101, 114, 115, 111, 110] := by
  have hel : ∀ j : Nat, j < 6 → (Cond.eq (.elem (.field (.string "WaistSandModel" 168) "java/lang/String" "value" "[B") (.int (Int32.ofNat j))) (.int (([112, 101, 114, 115, 111, 110] : List Int32).getD j 0))).before G.2.2.1 G.2.1 = true := fun j hj => match j, hj with
    | 0, _ => (ky_lR (ky_lL (ky_lL (ky_lR (ky_lR (ky_lL (ky_lL (ky_lR (ky_lR (ky_lR (ky_lR hG.2.2.2)))))))))))
    | 1, _ => (ky_lL (ky_lR (ky_lL (ky_lR (ky_lR (ky_lL (ky_lL (ky_lR (ky_lR (ky_lR (ky_lR hG.2.2.2)))))))))))
    | 2, _ => (ky_lR (ky_lR (ky_lL (ky_lR (ky_lR (ky_lL (ky_lL (ky_lR (ky_lR (ky_lR (ky_lR hG.2.2.2)))))))))))
    | 3, _ => (ky_lL (ky_lL (ky_lR (ky_lR (ky_lR (ky_lL (ky_lL (ky_lR (ky_lR (ky_lR (ky_lR hG.2.2.2)))))))))))
    | 4, _ => (ky_lR (ky_lL (ky_lR (ky_lR (ky_lR (ky_lL (ky_lL (ky_lR (ky_lR (ky_lR (ky_lR hG.2.2.2)))))))))))
    | 5, _ => (ky_lL (ky_lR (ky_lR (ky_lR (ky_lR (ky_lL (ky_lL (ky_lR (ky_lR (ky_lR (ky_lR hG.2.2.2)))))))))))
    | j + 6, h => absurd h (by omega)
  obtain ⟨adK, adV, hS, hA⟩ := vk_Sof (N := 1) (tm := fun _ => .string "WaistSandModel" 168) (len := [6]) (byt := [[112, 101, 114, 115, 111, 110]]) (A := ky_A G) (fun i hi => by rw [show i = 0 by omega]; decide) (fun i hi => (ky_lR (ky_lL (ky_lR (ky_lL (ky_lR (ky_lL (ky_lL (ky_lR (ky_lR (ky_lR (ky_lR hG.2.2.2)))))))))))) (fun i hi => (ky_lL (ky_lR (ky_lR (ky_lL (ky_lR (ky_lL (ky_lL (ky_lR (ky_lR (ky_lR (ky_lR hG.2.2.2)))))))))))) (fun i hi => (ky_lR (ky_lR (ky_lR (ky_lL (ky_lR (ky_lL (ky_lL (ky_lR (ky_lR (ky_lR (ky_lR hG.2.2.2)))))))))))) (fun i hi => by rw [show i = 0 by omega]; exact (ky_lL (ky_lL (ky_lL (ky_lR (ky_lR (ky_lL (ky_lL (ky_lR (ky_lR (ky_lR (ky_lR hG.2.2.2)))))))))))) (fun i hi j hj => by rw [show i = 0 by omega] at hj ⊢; exact hel j hj) (fun i j hi hj hij => absurd (by omega) hij) (ky_noA G)
  refine ⟨adK 0, vk_R.of (hG.1 _ (List.mem_append_right _ (List.mem_append_right _ (List.mem_append_right _ (List.mem_append_right _ (List.mem_append_right _ (List.mem_append_right _ (List.mem_append_right _ (List.mem_append_left _ (List.mem_of_getElem? (i := 211) rfl)))))))))) (hA 0 (by decide)), adV 0, ?_⟩
  exact hS.1 0 (by decide)
set_option maxRecDepth 100000 in
set_option maxHeartbeats 4000000 in
theorem sg_X12_131 {G : ky_GW} (hG : ky_OK G) : ∃ s, vk_R RX12 131 "at" s G.2.1 ∧ ky_Str G s [97, 116] := by
  have hel : ∀ j : Nat, j < 2 → (Cond.eq (.elem (.field (.string "WaistSandModel" 131) "java/lang/String" "value" "[B") (.int (Int32.ofNat j))) (.int (([97, 116] : List Int32).getD j 0))).before G.2.2.1 G.2.1 = true := fun j hj => match j, hj with
    | 0, _ => (ky_lL (ky_lL (ky_lR (ky_lL (ky_lL (ky_lR (ky_lL (ky_lR (ky_lR (ky_lR (ky_lR hG.2.2.2)))))))))))
    | 1, _ => (ky_lR (ky_lL (ky_lR (ky_lL (ky_lL (ky_lR (ky_lL (ky_lR (ky_lR (ky_lR (ky_lR hG.2.2.2)))))))))))
    | j + 2, h => absurd h (by omega)
  obtain ⟨adK, adV, hS, hA⟩ := vk_Sof (N := 1) (tm := fun _ => .string "WaistSandModel" 131) (len := [2]) (byt := [[97, 116]]) (A := ky_A G) (fun i hi => by rw [show i = 0 by omega]; decide) (fun i hi => (ky_lR (ky_lR (ky_lR (ky_lR (ky_lR (ky_lL (ky_lL (ky_lR (ky_lR (ky_lR (ky_lR hG.2.2.2)))))))))))) (fun i hi => (ky_lL (ky_lL (ky_lL (ky_lL (ky_lR (ky_lL (ky_lR (ky_lR (ky_lR (ky_lR hG.2.2.2))))))))))) (fun i hi => (ky_lL (ky_lR (ky_lL (ky_lL (ky_lL (ky_lR (ky_lL (ky_lR (ky_lR (ky_lR (ky_lR hG.2.2.2)))))))))))) (fun i hi => by rw [show i = 0 by omega]; exact (ky_lR (ky_lR (ky_lL (ky_lL (ky_lL (ky_lR (ky_lL (ky_lR (ky_lR (ky_lR (ky_lR hG.2.2.2)))))))))))) (fun i hi j hj => by rw [show i = 0 by omega] at hj ⊢; exact hel j hj) (fun i j hi hj hij => absurd (by omega) hij) (ky_noA G)
  refine ⟨adK 0, vk_R.of (hG.1 _ (List.mem_append_right _ (List.mem_append_right _ (List.mem_append_right _ (List.mem_append_right _ (List.mem_append_right _ (List.mem_append_right _ (List.mem_append_right _ (List.mem_append_left _ (List.mem_of_getElem? (i := 220) rfl)))))))))) (hA 0 (by decide)), adV 0, ?_⟩
  exact hS.1 0 (by decide)
set_option maxRecDepth 100000 in
set_option maxHeartbeats 4000000 in
theorem sg_X12_173 {G : ky_GW} (hG : ky_OK G) : ∃ s, vk_R RX12 173 "boards" s G.2.1 ∧ ky_Str G s [98, 111, 97, 114, 100, 115] := by
  have hel : ∀ j : Nat, j < 6 → (Cond.eq (.elem (.field (.string "WaistSandModel" 173) "java/lang/String" "value" "[B") (.int (Int32.ofNat j))) (.int (([98, 111, 97, 114, 100, 115] : List Int32).getD j 0))).before G.2.2.1 G.2.1 = true := fun j hj => match j, hj with
    | 0, _ => (ky_lR (ky_lR (ky_lL (ky_lR (ky_lL (ky_lR (ky_lL (ky_lR (ky_lR (ky_lR (ky_lR hG.2.2.2)))))))))))
    | 1, _ => (ky_lL (ky_lL (ky_lR (ky_lR (ky_lL (ky_lR (ky_lL (ky_lR (ky_lR (ky_lR (ky_lR hG.2.2.2)))))))))))
    | 2, _ => (ky_lR (ky_lL (ky_lR (ky_lR (ky_lL (ky_lR (ky_lL (ky_lR (ky_lR (ky_lR (ky_lR hG.2.2.2)))))))))))
    | 3, _ => (ky_lL (ky_lR (ky_lR (ky_lR (ky_lL (ky_lR (ky_lL (ky_lR (ky_lR (ky_lR (ky_lR hG.2.2.2)))))))))))
    | 4, _ => (ky_lR (ky_lR (ky_lR (ky_lR (ky_lL (ky_lR (ky_lL (ky_lR (ky_lR (ky_lR (ky_lR hG.2.2.2)))))))))))
    | 5, _ => (ky_lL (ky_lL (ky_lL (ky_lR (ky_lR (ky_lL (ky_lR (ky_lR (ky_lR (ky_lR hG.2.2.2))))))))))
    | j + 6, h => absurd h (by omega)
  obtain ⟨adK, adV, hS, hA⟩ := vk_Sof (N := 1) (tm := fun _ => .string "WaistSandModel" 173) (len := [6]) (byt := [[98, 111, 97, 114, 100, 115]]) (A := ky_A G) (fun i hi => by rw [show i = 0 by omega]; decide) (fun i hi => (ky_lR (ky_lR (ky_lR (ky_lL (ky_lL (ky_lR (ky_lL (ky_lR (ky_lR (ky_lR (ky_lR hG.2.2.2)))))))))))) (fun i hi => (ky_lL (ky_lL (ky_lL (ky_lR (ky_lL (ky_lR (ky_lL (ky_lR (ky_lR (ky_lR (ky_lR hG.2.2.2)))))))))))) (fun i hi => (ky_lR (ky_lL (ky_lL (ky_lR (ky_lL (ky_lR (ky_lL (ky_lR (ky_lR (ky_lR (ky_lR hG.2.2.2)))))))))))) (fun i hi => by rw [show i = 0 by omega]; exact (ky_lL (ky_lR (ky_lL (ky_lR (ky_lL (ky_lR (ky_lL (ky_lR (ky_lR (ky_lR (ky_lR hG.2.2.2)))))))))))) (fun i hi j hj => by rw [show i = 0 by omega] at hj ⊢; exact hel j hj) (fun i j hi hj hij => absurd (by omega) hij) (ky_noA G)
  refine ⟨adK 0, vk_R.of (hG.1 _ (List.mem_append_right _ (List.mem_append_right _ (List.mem_append_right _ (List.mem_append_right _ (List.mem_append_right _ (List.mem_append_right _ (List.mem_append_right _ (List.mem_append_left _ (List.mem_of_getElem? (i := 221) rfl)))))))))) (hA 0 (by decide)), adV 0, ?_⟩
  exact hS.1 0 (by decide)
set_option maxRecDepth 100000 in
set_option maxHeartbeats 4000000 in
theorem sg_X12_218 {G : ky_GW} (hG : ky_OK G) : ∃ s, vk_R RX12 218 "stir" s G.2.1 ∧ ky_Str G s [115, 116, 105, 114] := by
  have hel : ∀ j : Nat, j < 4 → (Cond.eq (.elem (.field (.string "WaistSandModel" 218) "java/lang/String" "value" "[B") (.int (Int32.ofNat j))) (.int (([115, 116, 105, 114] : List Int32).getD j 0))).before G.2.2.1 G.2.1 = true := fun j hj => match j, hj with
    | 0, _ => (ky_lL (ky_lR (ky_lR (ky_lL (ky_lR (ky_lR (ky_lL (ky_lR (ky_lR (ky_lR (ky_lR hG.2.2.2)))))))))))
    | 1, _ => (ky_lR (ky_lR (ky_lR (ky_lL (ky_lR (ky_lR (ky_lL (ky_lR (ky_lR (ky_lR (ky_lR hG.2.2.2)))))))))))
    | 2, _ => (ky_lL (ky_lL (ky_lL (ky_lR (ky_lR (ky_lR (ky_lL (ky_lR (ky_lR (ky_lR (ky_lR hG.2.2.2)))))))))))
    | 3, _ => (ky_lR (ky_lL (ky_lL (ky_lR (ky_lR (ky_lR (ky_lL (ky_lR (ky_lR (ky_lR (ky_lR hG.2.2.2)))))))))))
    | j + 4, h => absurd h (by omega)
  obtain ⟨adK, adV, hS, hA⟩ := vk_Sof (N := 1) (tm := fun _ => .string "WaistSandModel" 218) (len := [4]) (byt := [[115, 116, 105, 114]]) (A := ky_A G) (fun i hi => by rw [show i = 0 by omega]; decide) (fun i hi => (ky_lL (ky_lR (ky_lL (ky_lL (ky_lR (ky_lR (ky_lL (ky_lR (ky_lR (ky_lR (ky_lR hG.2.2.2)))))))))))) (fun i hi => (ky_lR (ky_lR (ky_lL (ky_lL (ky_lR (ky_lR (ky_lL (ky_lR (ky_lR (ky_lR (ky_lR hG.2.2.2)))))))))))) (fun i hi => (ky_lL (ky_lL (ky_lR (ky_lL (ky_lR (ky_lR (ky_lL (ky_lR (ky_lR (ky_lR (ky_lR hG.2.2.2)))))))))))) (fun i hi => by rw [show i = 0 by omega]; exact (ky_lR (ky_lL (ky_lR (ky_lL (ky_lR (ky_lR (ky_lL (ky_lR (ky_lR (ky_lR (ky_lR hG.2.2.2)))))))))))) (fun i hi j hj => by rw [show i = 0 by omega] at hj ⊢; exact hel j hj) (fun i j hi hj hij => absurd (by omega) hij) (ky_noA G)
  refine ⟨adK 0, vk_R.of (hG.1 _ (List.mem_append_right _ (List.mem_append_right _ (List.mem_append_right _ (List.mem_append_right _ (List.mem_append_right _ (List.mem_append_right _ (List.mem_append_right _ (List.mem_append_left _ (List.mem_of_getElem? (i := 226) rfl)))))))))) (hA 0 (by decide)), adV 0, ?_⟩
  exact hS.1 0 (by decide)
set_option maxRecDepth 100000 in
set_option maxHeartbeats 4000000 in
theorem sg_X12_220 {G : ky_GW} (hG : ky_OK G) : ∃ s, vk_R RX12 220 "settle" s G.2.1 ∧ ky_Str G s [115, 101, 116, 116, 108, 101] := by
  have hel : ∀ j : Nat, j < 6 → (Cond.eq (.elem (.field (.string "WaistSandModel" 220) "java/lang/String" "value" "[B") (.int (Int32.ofNat j))) (.int (([115, 101, 116, 116, 108, 101] : List Int32).getD j 0))).before G.2.2.1 G.2.1 = true := fun j hj => match j, hj with
    | 0, _ => (ky_lL (ky_lR (ky_lR (ky_lR (ky_lR (ky_lR (ky_lL (ky_lR (ky_lR (ky_lR (ky_lR hG.2.2.2)))))))))))
    | 1, _ => (ky_lR (ky_lR (ky_lR (ky_lR (ky_lR (ky_lR (ky_lL (ky_lR (ky_lR (ky_lR (ky_lR hG.2.2.2)))))))))))
    | 2, _ => (ky_lL (ky_lL (ky_lL (ky_lL (ky_lL (ky_lR (ky_lR (ky_lR (ky_lR (ky_lR hG.2.2.2))))))))))
    | 3, _ => (ky_lL (ky_lR (ky_lL (ky_lL (ky_lL (ky_lL (ky_lR (ky_lR (ky_lR (ky_lR (ky_lR hG.2.2.2)))))))))))
    | 4, _ => (ky_lR (ky_lR (ky_lL (ky_lL (ky_lL (ky_lL (ky_lR (ky_lR (ky_lR (ky_lR (ky_lR hG.2.2.2)))))))))))
    | 5, _ => (ky_lL (ky_lL (ky_lR (ky_lL (ky_lL (ky_lL (ky_lR (ky_lR (ky_lR (ky_lR (ky_lR hG.2.2.2)))))))))))
    | j + 6, h => absurd h (by omega)
  obtain ⟨adK, adV, hS, hA⟩ := vk_Sof (N := 1) (tm := fun _ => .string "WaistSandModel" 220) (len := [6]) (byt := [[115, 101, 116, 116, 108, 101]]) (A := ky_A G) (fun i hi => by rw [show i = 0 by omega]; decide) (fun i hi => (ky_lL (ky_lR (ky_lL (ky_lR (ky_lR (ky_lR (ky_lL (ky_lR (ky_lR (ky_lR (ky_lR hG.2.2.2)))))))))))) (fun i hi => (ky_lR (ky_lR (ky_lL (ky_lR (ky_lR (ky_lR (ky_lL (ky_lR (ky_lR (ky_lR (ky_lR hG.2.2.2)))))))))))) (fun i hi => (ky_lL (ky_lL (ky_lR (ky_lR (ky_lR (ky_lR (ky_lL (ky_lR (ky_lR (ky_lR (ky_lR hG.2.2.2)))))))))))) (fun i hi => by rw [show i = 0 by omega]; exact (ky_lR (ky_lL (ky_lR (ky_lR (ky_lR (ky_lR (ky_lL (ky_lR (ky_lR (ky_lR (ky_lR hG.2.2.2)))))))))))) (fun i hi j hj => by rw [show i = 0 by omega] at hj ⊢; exact hel j hj) (fun i j hi hj hij => absurd (by omega) hij) (ky_noA G)
  refine ⟨adK 0, vk_R.of (hG.1 _ (List.mem_append_right _ (List.mem_append_right _ (List.mem_append_right _ (List.mem_append_right _ (List.mem_append_right _ (List.mem_append_right _ (List.mem_append_right _ (List.mem_append_left _ (List.mem_of_getElem? (i := 227) rfl)))))))))) (hA 0 (by decide)), adV 0, ?_⟩
  exact hS.1 0 (by decide)
set_option maxRecDepth 100000 in
set_option maxHeartbeats 4000000 in
theorem sg_X12_222 {G : ky_GW} (hG : ky_OK G) : ∃ s, vk_R RX12 222 "if" s G.2.1 ∧ ky_Str G s [105, 102] := by
  have hel : ∀ j : Nat, j < 2 → (Cond.eq (.elem (.field (.string "WaistSandModel" 222) "java/lang/String" "value" "[B") (.int (Int32.ofNat j))) (.int (([105, 102] : List Int32).getD j 0))).before G.2.2.1 G.2.1 = true := fun j hj => match j, hj with
    | 0, _ => (ky_lR (ky_lL (ky_lL (ky_lR (ky_lL (ky_lL (ky_lR (ky_lR (ky_lR (ky_lR (ky_lR hG.2.2.2)))))))))))
    | 1, _ => (ky_lL (ky_lR (ky_lL (ky_lR (ky_lL (ky_lL (ky_lR (ky_lR (ky_lR (ky_lR (ky_lR hG.2.2.2)))))))))))
    | j + 2, h => absurd h (by omega)
  obtain ⟨adK, adV, hS, hA⟩ := vk_Sof (N := 1) (tm := fun _ => .string "WaistSandModel" 222) (len := [2]) (byt := [[105, 102]]) (A := ky_A G) (fun i hi => by rw [show i = 0 by omega]; decide) (fun i hi => (ky_lR (ky_lL (ky_lR (ky_lL (ky_lL (ky_lL (ky_lR (ky_lR (ky_lR (ky_lR (ky_lR hG.2.2.2)))))))))))) (fun i hi => (ky_lL (ky_lR (ky_lR (ky_lL (ky_lL (ky_lL (ky_lR (ky_lR (ky_lR (ky_lR (ky_lR hG.2.2.2)))))))))))) (fun i hi => (ky_lR (ky_lR (ky_lR (ky_lL (ky_lL (ky_lL (ky_lR (ky_lR (ky_lR (ky_lR (ky_lR hG.2.2.2)))))))))))) (fun i hi => by rw [show i = 0 by omega]; exact (ky_lL (ky_lL (ky_lL (ky_lR (ky_lL (ky_lL (ky_lR (ky_lR (ky_lR (ky_lR (ky_lR hG.2.2.2)))))))))))) (fun i hi j hj => by rw [show i = 0 by omega] at hj ⊢; exact hel j hj) (fun i j hi hj hij => absurd (by omega) hij) (ky_noA G)
  refine ⟨adK 0, vk_R.of (hG.1 _ (List.mem_append_right _ (List.mem_append_right _ (List.mem_append_right _ (List.mem_append_right _ (List.mem_append_right _ (List.mem_append_right _ (List.mem_append_right _ (List.mem_append_left _ (List.mem_of_getElem? (i := 228) rfl)))))))))) (hA 0 (by decide)), adV 0, ?_⟩
  exact hS.1 0 (by decide)
set_option maxRecDepth 100000 in
set_option maxHeartbeats 4000000 in
theorem sg_X12_198 {G : ky_GW} (hG : ky_OK G) : ∃ s, vk_R RX12 198 "not" s G.2.1 ∧ ky_Str G s [110, 111, 116] := by
  have hel : ∀ j : Nat, j < 3 → (Cond.eq (.elem (.field (.string "WaistSandModel" 198) "java/lang/String" "value" "[B") (.int (Int32.ofNat j))) (.int (([110, 111, 116] : List Int32).getD j 0))).before G.2.2.1 G.2.1 = true := fun j hj => match j, hj with
    | 0, _ => (ky_lL (ky_lL (ky_lL (ky_lR (ky_lL (ky_lR (ky_lR (ky_lR (ky_lR (ky_lR hG.2.2.2))))))))))
    | 1, _ => (ky_lL (ky_lR (ky_lL (ky_lL (ky_lR (ky_lL (ky_lR (ky_lR (ky_lR (ky_lR (ky_lR hG.2.2.2)))))))))))
    | 2, _ => (ky_lR (ky_lR (ky_lL (ky_lL (ky_lR (ky_lL (ky_lR (ky_lR (ky_lR (ky_lR (ky_lR hG.2.2.2)))))))))))
    | j + 3, h => absurd h (by omega)
  obtain ⟨adK, adV, hS, hA⟩ := vk_Sof (N := 1) (tm := fun _ => .string "WaistSandModel" 198) (len := [3]) (byt := [[110, 111, 116]]) (A := ky_A G) (fun i hi => by rw [show i = 0 by omega]; decide) (fun i hi => (ky_lL (ky_lL (ky_lR (ky_lR (ky_lL (ky_lL (ky_lR (ky_lR (ky_lR (ky_lR (ky_lR hG.2.2.2)))))))))))) (fun i hi => (ky_lR (ky_lL (ky_lR (ky_lR (ky_lL (ky_lL (ky_lR (ky_lR (ky_lR (ky_lR (ky_lR hG.2.2.2)))))))))))) (fun i hi => (ky_lL (ky_lR (ky_lR (ky_lR (ky_lL (ky_lL (ky_lR (ky_lR (ky_lR (ky_lR (ky_lR hG.2.2.2)))))))))))) (fun i hi => by rw [show i = 0 by omega]; exact (ky_lR (ky_lR (ky_lR (ky_lR (ky_lL (ky_lL (ky_lR (ky_lR (ky_lR (ky_lR (ky_lR hG.2.2.2)))))))))))) (fun i hi j hj => by rw [show i = 0 by omega] at hj ⊢; exact hel j hj) (fun i j hi hj hij => absurd (by omega) hij) (ky_noA G)
  refine ⟨adK 0, vk_R.of (hG.1 _ (List.mem_append_right _ (List.mem_append_right _ (List.mem_append_right _ (List.mem_append_right _ (List.mem_append_right _ (List.mem_append_right _ (List.mem_append_right _ (List.mem_append_right _ (List.mem_append_left _ (List.mem_of_getElem? (i := 9) rfl))))))))))) (hA 0 (by decide)), adV 0, ?_⟩
  exact hS.1 0 (by decide)
set_option maxRecDepth 100000 in
set_option maxHeartbeats 4000000 in
theorem sg_X12_206 {G : ky_GW} (hG : ky_OK G) : ∃ s, vk_R RX12 206 "lying" s G.2.1 ∧ ky_Str G s [108, 121, 105, 110, 103] := by
  have hel : ∀ j : Nat, j < 5 → (Cond.eq (.elem (.field (.string "WaistSandModel" 206) "java/lang/String" "value" "[B") (.int (Int32.ofNat j))) (.int (([108, 121, 105, 110, 103] : List Int32).getD j 0))).before G.2.2.1 G.2.1 = true := fun j hj => match j, hj with
    | 0, _ => (ky_lR (ky_lL (ky_lL (ky_lR (ky_lR (ky_lL (ky_lR (ky_lR (ky_lR (ky_lR (ky_lR hG.2.2.2)))))))))))
    | 1, _ => (ky_lL (ky_lR (ky_lL (ky_lR (ky_lR (ky_lL (ky_lR (ky_lR (ky_lR (ky_lR (ky_lR hG.2.2.2)))))))))))
    | 2, _ => (ky_lR (ky_lR (ky_lL (ky_lR (ky_lR (ky_lL (ky_lR (ky_lR (ky_lR (ky_lR (ky_lR hG.2.2.2)))))))))))
    | 3, _ => (ky_lL (ky_lL (ky_lR (ky_lR (ky_lR (ky_lL (ky_lR (ky_lR (ky_lR (ky_lR (ky_lR hG.2.2.2)))))))))))
    | 4, _ => (ky_lR (ky_lL (ky_lR (ky_lR (ky_lR (ky_lL (ky_lR (ky_lR (ky_lR (ky_lR (ky_lR hG.2.2.2)))))))))))
    | j + 5, h => absurd h (by omega)
  obtain ⟨adK, adV, hS, hA⟩ := vk_Sof (N := 1) (tm := fun _ => .string "WaistSandModel" 206) (len := [5]) (byt := [[108, 121, 105, 110, 103]]) (A := ky_A G) (fun i hi => by rw [show i = 0 by omega]; decide) (fun i hi => (ky_lR (ky_lL (ky_lR (ky_lL (ky_lR (ky_lL (ky_lR (ky_lR (ky_lR (ky_lR (ky_lR hG.2.2.2)))))))))))) (fun i hi => (ky_lL (ky_lR (ky_lR (ky_lL (ky_lR (ky_lL (ky_lR (ky_lR (ky_lR (ky_lR (ky_lR hG.2.2.2)))))))))))) (fun i hi => (ky_lR (ky_lR (ky_lR (ky_lL (ky_lR (ky_lL (ky_lR (ky_lR (ky_lR (ky_lR (ky_lR hG.2.2.2)))))))))))) (fun i hi => by rw [show i = 0 by omega]; exact (ky_lL (ky_lL (ky_lL (ky_lR (ky_lR (ky_lL (ky_lR (ky_lR (ky_lR (ky_lR (ky_lR hG.2.2.2)))))))))))) (fun i hi j hj => by rw [show i = 0 by omega] at hj ⊢; exact hel j hj) (fun i j hi hj hij => absurd (by omega) hij) (ky_noA G)
  refine ⟨adK 0, vk_R.of (hG.1 _ (List.mem_append_right _ (List.mem_append_right _ (List.mem_append_right _ (List.mem_append_right _ (List.mem_append_right _ (List.mem_append_right _ (List.mem_append_right _ (List.mem_append_right _ (List.mem_append_left _ (List.mem_of_getElem? (i := 14) rfl))))))))))) (hA 0 (by decide)), adV 0, ?_⟩
  exact hS.1 0 (by decide)
set_option maxRecDepth 100000 in
set_option maxHeartbeats 4000000 in
theorem sg_X12_182 {G : ky_GW} (hG : ky_OK G) : ∃ s, vk_R RX12 182 "leg" s G.2.1 ∧ ky_Str G s [108, 101, 103] := by
  have hel : ∀ j : Nat, j < 3 → (Cond.eq (.elem (.field (.string "WaistSandModel" 182) "java/lang/String" "value" "[B") (.int (Int32.ofNat j))) (.int (([108, 101, 103] : List Int32).getD j 0))).before G.2.2.1 G.2.1 = true := fun j hj => match j, hj with
    | 0, _ => (ky_lL (ky_lL (ky_lR (ky_lL (ky_lL (ky_lR (ky_lR (ky_lR (ky_lR (ky_lR (ky_lR hG.2.2.2)))))))))))
    | 1, _ => (ky_lR (ky_lL (ky_lR (ky_lL (ky_lL (ky_lR (ky_lR (ky_lR (ky_lR (ky_lR (ky_lR hG.2.2.2)))))))))))
    | 2, _ => (ky_lL (ky_lR (ky_lR (ky_lL (ky_lL (ky_lR (ky_lR (ky_lR (ky_lR (ky_lR (ky_lR hG.2.2.2)))))))))))
    | j + 3, h => absurd h (by omega)
  obtain ⟨adK, adV, hS, hA⟩ := vk_Sof (N := 1) (tm := fun _ => .string "WaistSandModel" 182) (len := [3]) (byt := [[108, 101, 103]]) (A := ky_A G) (fun i hi => by rw [show i = 0 by omega]; decide) (fun i hi => (ky_lR (ky_lR (ky_lR (ky_lR (ky_lR (ky_lL (ky_lR (ky_lR (ky_lR (ky_lR (ky_lR hG.2.2.2)))))))))))) (fun i hi => (ky_lL (ky_lL (ky_lL (ky_lL (ky_lR (ky_lR (ky_lR (ky_lR (ky_lR (ky_lR hG.2.2.2))))))))))) (fun i hi => (ky_lL (ky_lR (ky_lL (ky_lL (ky_lL (ky_lR (ky_lR (ky_lR (ky_lR (ky_lR (ky_lR hG.2.2.2)))))))))))) (fun i hi => by rw [show i = 0 by omega]; exact (ky_lR (ky_lR (ky_lL (ky_lL (ky_lL (ky_lR (ky_lR (ky_lR (ky_lR (ky_lR (ky_lR hG.2.2.2)))))))))))) (fun i hi j hj => by rw [show i = 0 by omega] at hj ⊢; exact hel j hj) (fun i j hi hj hij => absurd (by omega) hij) (ky_noA G)
  refine ⟨adK 0, vk_R.of (hG.1 _ (List.mem_append_right _ (List.mem_append_right _ (List.mem_append_right _ (List.mem_append_right _ (List.mem_append_right _ (List.mem_append_right _ (List.mem_append_right _ (List.mem_append_right _ (List.mem_append_left _ (List.mem_of_getElem? (i := 23) rfl))))))))))) (hA 0 (by decide)), adV 0, ?_⟩
  exact hS.1 0 (by decide)
set_option maxRecDepth 100000 in
set_option maxHeartbeats 4000000 in
theorem sg_X12_184 {G : ky_GW} (hG : ky_OK G) : ∃ s, vk_R RX12 184 "other" s G.2.1 ∧ ky_Str G s [111, 116, 104, 101, 114] := by
  have hel : ∀ j : Nat, j < 5 → (Cond.eq (.elem (.field (.string "WaistSandModel" 184) "java/lang/String" "value" "[B") (.int (Int32.ofNat j))) (.int (([111, 116, 104, 101, 114] : List Int32).getD j 0))).before G.2.2.1 G.2.1 = true := fun j hj => match j, hj with
    | 0, _ => (ky_lR (ky_lR (ky_lL (ky_lR (ky_lL (ky_lR (ky_lR (ky_lR (ky_lR (ky_lR (ky_lR hG.2.2.2)))))))))))
    | 1, _ => (ky_lL (ky_lL (ky_lR (ky_lR (ky_lL (ky_lR (ky_lR (ky_lR (ky_lR (ky_lR (ky_lR hG.2.2.2)))))))))))
    | 2, _ => (ky_lR (ky_lL (ky_lR (ky_lR (ky_lL (ky_lR (ky_lR (ky_lR (ky_lR (ky_lR (ky_lR hG.2.2.2)))))))))))
    | 3, _ => (ky_lL (ky_lR (ky_lR (ky_lR (ky_lL (ky_lR (ky_lR (ky_lR (ky_lR (ky_lR (ky_lR hG.2.2.2)))))))))))
    | 4, _ => (ky_lR (ky_lR (ky_lR (ky_lR (ky_lL (ky_lR (ky_lR (ky_lR (ky_lR (ky_lR (ky_lR hG.2.2.2)))))))))))
    | j + 5, h => absurd h (by omega)
  obtain ⟨adK, adV, hS, hA⟩ := vk_Sof (N := 1) (tm := fun _ => .string "WaistSandModel" 184) (len := [5]) (byt := [[111, 116, 104, 101, 114]]) (A := ky_A G) (fun i hi => by rw [show i = 0 by omega]; decide) (fun i hi => (ky_lR (ky_lR (ky_lR (ky_lL (ky_lL (ky_lR (ky_lR (ky_lR (ky_lR (ky_lR (ky_lR hG.2.2.2)))))))))))) (fun i hi => (ky_lL (ky_lL (ky_lL (ky_lR (ky_lL (ky_lR (ky_lR (ky_lR (ky_lR (ky_lR (ky_lR hG.2.2.2)))))))))))) (fun i hi => (ky_lR (ky_lL (ky_lL (ky_lR (ky_lL (ky_lR (ky_lR (ky_lR (ky_lR (ky_lR (ky_lR hG.2.2.2)))))))))))) (fun i hi => by rw [show i = 0 by omega]; exact (ky_lL (ky_lR (ky_lL (ky_lR (ky_lL (ky_lR (ky_lR (ky_lR (ky_lR (ky_lR (ky_lR hG.2.2.2)))))))))))) (fun i hi j hj => by rw [show i = 0 by omega] at hj ⊢; exact hel j hj) (fun i j hi hj hij => absurd (by omega) hij) (ky_noA G)
  refine ⟨adK 0, vk_R.of (hG.1 _ (List.mem_append_right _ (List.mem_append_right _ (List.mem_append_right _ (List.mem_append_right _ (List.mem_append_right _ (List.mem_append_right _ (List.mem_append_right _ (List.mem_append_right _ (List.mem_append_left _ (List.mem_of_getElem? (i := 24) rfl))))))))))) (hA 0 (by decide)), adV 0, ?_⟩
  exact hS.1 0 (by decide)
set_option maxRecDepth 100000 in
set_option maxHeartbeats 4000000 in
theorem sg_X12_211 {G : ky_GW} (hG : ky_OK G) : ∃ s, vk_R RX12 211 "and" s G.2.1 ∧ ky_Str G s [97, 110, 100] := by
  have hel : ∀ j : Nat, j < 3 → (Cond.eq (.elem (.field (.string "WaistSandModel" 211) "java/lang/String" "value" "[B") (.int (Int32.ofNat j))) (.int (([97, 110, 100] : List Int32).getD j 0))).before G.2.2.1 G.2.1 = true := fun j hj => match j, hj with
    | 0, _ => (ky_lR (ky_lL (ky_lR (ky_lL (ky_lR (ky_lR (ky_lR (ky_lR (ky_lR (ky_lR (ky_lR hG.2.2.2)))))))))))
    | 1, _ => (ky_lL (ky_lR (ky_lR (ky_lL (ky_lR (ky_lR (ky_lR (ky_lR (ky_lR (ky_lR (ky_lR hG.2.2.2)))))))))))
    | 2, _ => (ky_lR (ky_lR (ky_lR (ky_lL (ky_lR (ky_lR (ky_lR (ky_lR (ky_lR (ky_lR (ky_lR hG.2.2.2)))))))))))
    | j + 3, h => absurd h (by omega)
  obtain ⟨adK, adV, hS, hA⟩ := vk_Sof (N := 1) (tm := fun _ => .string "WaistSandModel" 211) (len := [3]) (byt := [[97, 110, 100]]) (A := ky_A G) (fun i hi => by rw [show i = 0 by omega]; decide) (fun i hi => (ky_lL (ky_lL (ky_lL (ky_lR (ky_lR (ky_lR (ky_lR (ky_lR (ky_lR (ky_lR hG.2.2.2))))))))))) (fun i hi => (ky_lL (ky_lR (ky_lL (ky_lL (ky_lR (ky_lR (ky_lR (ky_lR (ky_lR (ky_lR (ky_lR hG.2.2.2)))))))))))) (fun i hi => (ky_lR (ky_lR (ky_lL (ky_lL (ky_lR (ky_lR (ky_lR (ky_lR (ky_lR (ky_lR (ky_lR hG.2.2.2)))))))))))) (fun i hi => by rw [show i = 0 by omega]; exact (ky_lL (ky_lL (ky_lR (ky_lL (ky_lR (ky_lR (ky_lR (ky_lR (ky_lR (ky_lR (ky_lR hG.2.2.2)))))))))))) (fun i hi j hj => by rw [show i = 0 by omega] at hj ⊢; exact hel j hj) (fun i j hi hj hij => absurd (by omega) hij) (ky_noA G)
  refine ⟨adK 0, vk_R.of (hG.1 _ (List.mem_append_right _ (List.mem_append_right _ (List.mem_append_right _ (List.mem_append_right _ (List.mem_append_right _ (List.mem_append_right _ (List.mem_append_right _ (List.mem_append_right _ (List.mem_append_left _ (List.mem_of_getElem? (i := 25) rfl))))))))))) (hA 0 (by decide)), adV 0, ?_⟩
  exact hS.1 0 (by decide)
set_option maxRecDepth 100000 in
set_option maxHeartbeats 4000000 in
theorem sg_X12_216 {G : ky_GW} (hG : ky_OK G) : ∃ s, vk_R RX12 216 "or" s G.2.1 ∧ ky_Str G s [111, 114] := by
  have hel : ∀ j : Nat, j < 2 → (Cond.eq (.elem (.field (.string "WaistSandModel" 216) "java/lang/String" "value" "[B") (.int (Int32.ofNat j))) (.int (([111, 114] : List Int32).getD j 0))).before G.2.2.1 G.2.1 = true := fun j hj => match j, hj with
    | 0, _ => (ky_lR (ky_lL (ky_lR (ky_lR (ky_lR (ky_lR (ky_lR (ky_lR (ky_lR (ky_lR (ky_lR hG.2.2.2)))))))))))
    | 1, _ => (ky_lL (ky_lR (ky_lR (ky_lR (ky_lR (ky_lR (ky_lR (ky_lR (ky_lR (ky_lR (ky_lR hG.2.2.2)))))))))))
    | j + 2, h => absurd h (by omega)
  obtain ⟨adK, adV, hS, hA⟩ := vk_Sof (N := 1) (tm := fun _ => .string "WaistSandModel" 216) (len := [2]) (byt := [[111, 114]]) (A := ky_A G) (fun i hi => by rw [show i = 0 by omega]; decide) (fun i hi => (ky_lR (ky_lL (ky_lL (ky_lR (ky_lR (ky_lR (ky_lR (ky_lR (ky_lR (ky_lR (ky_lR hG.2.2.2)))))))))))) (fun i hi => (ky_lL (ky_lR (ky_lL (ky_lR (ky_lR (ky_lR (ky_lR (ky_lR (ky_lR (ky_lR (ky_lR hG.2.2.2)))))))))))) (fun i hi => (ky_lR (ky_lR (ky_lL (ky_lR (ky_lR (ky_lR (ky_lR (ky_lR (ky_lR (ky_lR (ky_lR hG.2.2.2)))))))))))) (fun i hi => by rw [show i = 0 by omega]; exact (ky_lL (ky_lL (ky_lR (ky_lR (ky_lR (ky_lR (ky_lR (ky_lR (ky_lR (ky_lR (ky_lR hG.2.2.2)))))))))))) (fun i hi j hj => by rw [show i = 0 by omega] at hj ⊢; exact hel j hj) (fun i j hi hj hij => absurd (by omega) hij) (ky_noA G)
  refine ⟨adK 0, vk_R.of (hG.1 _ (List.mem_append_right _ (List.mem_append_right _ (List.mem_append_right _ (List.mem_append_right _ (List.mem_append_right _ (List.mem_append_right _ (List.mem_append_right _ (List.mem_append_right _ (List.mem_append_left _ (List.mem_of_getElem? (i := 26) rfl))))))))))) (hA 0 (by decide)), adV 0, ?_⟩
  exact hS.1 0 (by decide)
theorem sz_COMPACT_STRINGS {G : ky_GW} (hG : ky_OK G) : va_Z "java/lang/String" "COMPACT_STRINGS" "Z" (.int 1) (ky_A G) G.2.1 G.2.1.heap := va_Zof (hG.1 _ (by decide +kernel)) (hG.1 _ (by decide +kernel)) (va_eqt (ky_lR (ky_lR (ky_lL (ky_lL (ky_lL (ky_lL (ky_lL (ky_lL (ky_lL (ky_lL (ky_lR hG.2.2.2)))))))))))) (ky_noA G)
theorem sz_SIOOBE {G : ky_GW} (hG : ky_OK G) : va_Zq "jdk/internal/util/Preconditions" "SIOOBE_FORMATTER" "Ljava/util/function/BiFunction;" (ky_A G) G.2.1 G.2.1.heap := va_Zqof (hG.1 _ (by decide +kernel)) (hG.1 _ (by decide +kernel)) (ky_lL (ky_lL (ky_lR (ky_lL (ky_lL (ky_lL (ky_lL (ky_lL (ky_lL (ky_lL (ky_lR hG.2.2.2))))))))))) (ky_noA G)
