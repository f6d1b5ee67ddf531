/-! Cells, fields, links. -/
def jc_E : List (Nat × jxC) := []
def jc_T : List (Nat × jxC) := [(1, .inl (9, [.inr (some 2), .inl 0])), (2, .inr (.inl (0, 200))), (3, .inl (7, [.inr (some 1), .inr (some 4), .inr (some 5), .inr (some 6), .inr (some 7), .inr (some 8), .inl 0, .inl 0, .inl 0, .inl 0])), (4, .inr (.inl (0, 8))), (5, .inr (.inl (0, 16))), (6, .inr (.inl (0, 16))), (7, .inr (.inl (0, 16))), (8, .inr (.inl (0, 16)))]
def jc_P : List (Nat × jxC) := [(22, .inl (5, [.inr (some 23), .inr (some 24), .inr (some 25), .inr (some 26), .inr (some 27), .inr (some 28)])), (23, .inr (.inl (0, 322))), (24, .inr (.inl (0, 24))), (25, .inr (.inl (0, 14))), (26, .inr (.inl (0, 14202))), (27, .inr (.inl (0, 4225))), (28, .inr (.inl (0, 14202)))]
def jc_B1 : List (Nat × jxC) := [(9, .inl (0, [.inr (some 10), .inr (some 19), .inr (some 22), .inr (some 29), .inr (some 33), .inr (some 41), .inr (some 44), .inr (some 32), .inl 0, .inl 0])), (10, .inl (8, [.inr (some 11), .inr (some 12), .inr (some 13), .inr (some 14), .inr (some 15), .inr (some 16), .inr (some 17), .inr (some 18), .inl 0, .inl 0])), (11, .inr (.inl (0, 8))), (12, .inr (.inl (0, 13))), (13, .inr (.inl (0, 169))), (14, .inr (.inl (0, 14))), (15, .inr (.inl (0, 203))), (16, .inr (.inl (0, 13))), (17, .inr (.inl (0, 13))), (18, .inr (.inl (0, 13))), (19, .inl (1, [.inr (some 20), .inr (some 21), .inl 2, .inl 0, .inl 0])), (20, .inr (.inl (0, 161))), (21, .inr (.inl (0, 256)))]
def jc_B2 : List (Nat × jxC) := [(29, .inl (2, [.inr (some 30), .inr (some 31), .inl 0, .inl 0, .inl 0])), (30, .inr (.inl (0, 30))), (31, .inr (.inl (0, 3))), (32, .inr (.inl (4, 6))), (33, .inl (10, [.inr (some 22), .inr (some 10), .inr (some 38), .inr (some 34), .inr (some 35), .inr (some 36), .inr (some 37), .inl 0, .inl 0])), (34, .inr (.inl (0, 4224))), (35, .inr (.inl (0, 4224))), (36, .inr (.inl (0, 6))), (37, .inr (.inl (3, 677))), (38, .inl (3, [.inr (some 22), .inr (some 10), .inr (some 39), .inr (some 40), .inl 0])), (39, .inr (.inl (0, 203))), (40, .inr (.inl (0, 203))), (41, .inl (3, [.inr (some 22), .inr (some 10), .inr (some 42), .inr (some 43), .inl 0])), (42, .inr (.inl (0, 203))), (43, .inr (.inl (0, 203))), (44, .inl (4, [.inr (some 10), .inr (some 45), .inr (some 46), .inr (some 47), .inl 0, .inl 2])), (45, .inr (.inl (0, 2000))), (46, .inr (.inl (0, 4096))), (47, .inr (.inl (0, 96))), (48, .inl (6, [.inl 5, .inr (some 22), .inr (some 33), .inr (some 49), .inr (some 50), .inr (some 51), .inr (some 52), .inl 0, .inl 0, .inl 2])), (49, .inr (.inl (0, 16))), (50, .inr (.inl (3, 16))), (51, .inr (.inl (0, 96))), (52, .inr (.inl (0, 16))), (53, .inl (6, [.inl 5, .inr (some 22), .inr (some 33), .inr (some 54), .inr (some 55), .inr (some 56), .inr (some 57), .inl 0, .inl 0, .inl 2])), (54, .inr (.inl (0, 16))), (55, .inr (.inl (3, 16))), (56, .inr (.inl (0, 96))), (57, .inr (.inl (0, 16))), (58, .inl (6, [.inl 5, .inr (some 22), .inr (some 33), .inr (some 59), .inr (some 60), .inr (some 61), .inr (some 62), .inl 0, .inl 0, .inl 2])), (59, .inr (.inl (0, 16))), (60, .inr (.inl (3, 16))), (61, .inr (.inl (0, 96))), (62, .inr (.inl (0, 16))), (63, .inl (6, [.inl 5, .inr (some 22), .inr (some 33), .inr (some 64), .inr (some 65), .inr (some 66), .inr (some 67), .inl 0, .inl 0, .inl 2])), (64, .inr (.inl (0, 16))), (65, .inr (.inl (3, 16))), (66, .inr (.inl (0, 96))), (67, .inr (.inl (0, 16))), (68, .inl (6, [.inl 5, .inr (some 22), .inr (some 33), .inr (some 69), .inr (some 70), .inr (some 71), .inr (some 72), .inl 0, .inl 0, .inl 2])), (69, .inr (.inl (0, 16))), (70, .inr (.inl (3, 16))), (71, .inr (.inl (0, 96))), (72, .inr (.inl (0, 16))), (73, .inl (6, [.inl 5, .inr (some 22), .inr (some 33), .inr (some 74), .inr (some 75), .inr (some 76), .inr (some 77), .inl 0, .inl 0, .inl 2])), (74, .inr (.inl (0, 16))), (75, .inr (.inl (3, 16))), (76, .inr (.inl (0, 96))), (77, .inr (.inl (0, 16))), (1000, .inr (.inr jtab0)), (1001, .inr (.inr jtab1))]
def jc_C : List (Nat × jxC) := jc_P ++ (jc_T ++ (jc_B1 ++ jc_B2))
def jc_L0 : List (Nat × jxC) := (0, .inl (11, [.inr (some 1), .inr (some 3), .inr none, .inl 0])) :: jc_T
def jc_L1 : List (Nat × jxC) := (0, .inl (11, [.inr (some 1), .inr (some 3), .inr (some 9), .inl 0])) :: jc_C
def jc_M : List (Nat × jxC) := [(0, .inl (12, [.inr (some 1), .inl 0, .inl 0, .inl 0, .inl 0, .inr (some 2), .inl 0, .inl 0, .inr (some 3), .inr (some 4), .inr (some 5), .inl 0, .inl 0, .inl 2, .inr (some 6), .inr (some 7), .inr (some 8), .inl 0, .inr (some 9), .inr (some 10), .inr (some 11), .inr (some 12), .inr (some 13), .inr (some 14), .inl 0, .inr (some 15), .inr (some 16), .inr (some 17), .inr (some 18), .inr (some 19), .inr (some 20), .inr (some 21), .inl 0, .inr (some 22), .inr (some 23), .inr (some 24), .inr (some 25), .inl 0, .inr (some 26), .inr (some 27), .inl 0, .inr (some 28), .inr (some 29), .inl 0, .inl 1, .inr (some 30), .inr (some 31), .inr (some 32), .inr (some 33), .inr (some 34), .inr (some 35), .inr (some 36), .inr (some 37), .inr (some 38), .inr (some 39), .inr (some 40), .inr (some 41)])), (1, .inr (.inl (1, 200))), (2, .inr (.inl (1, 24))), (3, .inr (.inl (0, 8))), (4, .inr (.inl (2, 2197))), (5, .inr (.inl (2, 117))), (6, .inr (.inl (0, 8))), (7, .inr (.inl (2, 2197))), (8, .inr (.inl (2, 117))), (9, .inr (.inl (0, 832))), (10, .inr (.inl (0, 13))), (11, .inr (.inl (0, 161))), (12, .inr (.inl (2, 1024))), (13, .inr (.inl (0, 322))), (14, .inr (.inl (0, 24))), (15, .inr (.inl (2, 4600))), (16, .inr (.inl (0, 4600))), (17, .inr (.inl (0, 4600))), (18, .inr (.inl (0, 4600))), (19, .inr (.inl (0, 27600))), (20, .inr (.inl (0, 13))), (21, .inr (.inl (0, 512))), (22, .inr (.inl (0, 6))), (23, .inr (.inl (0, 18))), (24, .inr (.inl (0, 13))), (25, .inr (.inl (0, 390))), (26, .inr (.inl (0, 13))), (27, .inr (.inl (0, 39))), (28, .inr (.inl (0, 13))), (29, .inr (.inl (0, 13))), (30, .inr (.inl (2, 7))), (31, .inr (.inl (0, 7))), (32, .inr (.inl (0, 784))), (33, .inr (.inl (0, 784))), (34, .inr (.inl (0, 7))), (35, .inr (.inl (0, 7))), (36, .inr (.inl (0, 7))), (37, .inr (.inl (3, 16))), (38, .inr (.inl (0, 13))), (39, .inr (.inl (0, 2000))), (40, .inr (.inl (0, 2000))), (41, .inr (.inl (0, 16)))]
theorem jh_E {sh : List jxC} : jHas sh jc_E := fun _ h => absurd h List.not_mem_nil
theorem jh_L0T {sh : List jxC} (h : jHas sh jc_L0) : jHas sh jc_T := fun q hq => h q (List.mem_cons_of_mem _ hq)
theorem jh_L1C {sh : List jxC} (h : jHas sh jc_L1) : jHas sh jc_C := fun q hq => h q (List.mem_cons_of_mem _ hq)
theorem jh_CP {sh : List jxC} (h : jHas sh jc_C) : jHas sh jc_P := fun q hq => h q (List.mem_append_left _ hq)
theorem jh_CT {sh : List jxC} (h : jHas sh jc_C) : jHas sh jc_T := fun q hq => h q (List.mem_append_right _ (List.mem_append_left _ hq))
theorem jh_L1T {sh : List jxC} (h : jHas sh jc_L1) : jHas sh jc_T := jh_CT (jh_L1C h)
theorem jh_L1P {sh : List jxC} (h : jHas sh jc_L1) : jHas sh jc_P := jh_CP (jh_L1C h)
/-- a row's length, by its cell -/
def jalen (id : Nat) : Int := match jkf jc_C id with
  | some (.inr (.inl (_, n))) => (n : Int)
  | _ => 0
theorem jrc_Options {sh : List jxC} (hs : jHas sh jc_C) {q : Nat} (hq : q ∈ [38, 41]) : ∃ fks, sh[q]? = some (.inl (3, fks)) := by
  simp only [List.mem_cons, List.not_mem_nil, or_false] at hq
  rcases hq with rfl | rfl
  · exact ⟨_, (hs _ (jkf_in (l := jc_C) (idx := 38) rfl)).1⟩
  · exact ⟨_, (hs _ (jkf_in (l := jc_C) (idx := 41) rfl)).1⟩
theorem jrc_Quotient {sh : List jxC} (hs : jHas sh jc_C) {q : Nat} (hq : q ∈ [48, 53, 58, 63, 68, 73]) : ∃ fks, sh[q]? = some (.inl (6, fks)) := by
  simp only [List.mem_cons, List.not_mem_nil, or_false] at hq
  rcases hq with rfl | rfl | rfl | rfl | rfl | rfl
  · exact ⟨_, (hs _ (jkf_in (l := jc_C) (idx := 48) rfl)).1⟩
  · exact ⟨_, (hs _ (jkf_in (l := jc_C) (idx := 53) rfl)).1⟩
  · exact ⟨_, (hs _ (jkf_in (l := jc_C) (idx := 58) rfl)).1⟩
  · exact ⟨_, (hs _ (jkf_in (l := jc_C) (idx := 63) rfl)).1⟩
  · exact ⟨_, (hs _ (jkf_in (l := jc_C) (idx := 68) rfl)).1⟩
  · exact ⟨_, (hs _ (jkf_in (l := jc_C) (idx := 73) rfl)).1⟩
set_option maxRecDepth 100000 in
theorem jin_X0 : ∀ w ∈ u_ws RX0 TX0 10, w ∈ jTB := by
  intro w hw
  obtain ⟨k, hk, rfl⟩ := List.mem_map.mp hw
  have hk := List.mem_range.mp hk
  match k, hk with
  | 0, _ => exact (jTB_at 654 rfl rfl)
  | 1, _ => exact (jTB_at 656 rfl rfl)
  | 2, _ => exact (jTB_at 658 rfl rfl)
  | 3, _ => exact (jTB_at 660 rfl rfl)
  | 4, _ => exact (jTB_at 662 rfl rfl)
  | 5, _ => exact (jTB_at 664 rfl rfl)
  | 6, _ => exact (jTB_at 666 rfl rfl)
  | 7, _ => exact (jTB_at 668 rfl rfl)
  | 8, _ => exact (jTB_at 670 rfl rfl)
  | 9, _ => exact (jTB_at 672 rfl rfl)
  | k + 10, h => exact absurd h (by omega)
theorem jow_X0 : ∀ k, k < 10 → (TX0 k).1 = RX0 := by decide +kernel
set_option maxRecDepth 100000 in
theorem jin_X1 : ∀ w ∈ u_ws RX1 TX1 5, w ∈ jTB := by
  intro w hw
  obtain ⟨k, hk, rfl⟩ := List.mem_map.mp hw
  have hk := List.mem_range.mp hk
  match k, hk with
  | 0, _ => exact (jTB_at 409 rfl rfl)
  | 1, _ => exact (jTB_at 411 rfl rfl)
  | 2, _ => exact (jTB_at 413 rfl rfl)
  | 3, _ => exact (jTB_at 415 rfl rfl)
  | 4, _ => exact (jTB_at 417 rfl rfl)
  | k + 5, h => exact absurd h (by omega)
theorem jow_X1 : ∀ k, k < 5 → (TX1 k).1 = RX1 := by decide +kernel
set_option maxRecDepth 100000 in
theorem jin_X2 : ∀ w ∈ u_ws RX2 TX2 5, w ∈ jTB := by
  intro w hw
  obtain ⟨k, hk, rfl⟩ := List.mem_map.mp hw
  have hk := List.mem_range.mp hk
  match k, hk with
  | 0, _ => exact (jTB_at 499 rfl rfl)
  | 1, _ => exact (jTB_at 501 rfl rfl)
  | 2, _ => exact (jTB_at 503 rfl rfl)
  | 3, _ => exact (jTB_at 505 rfl rfl)
  | 4, _ => exact (jTB_at 507 rfl rfl)
  | k + 5, h => exact absurd h (by omega)
theorem jow_X2 : ∀ k, k < 5 → (TX2 k).1 = RX2 := by decide +kernel
set_option maxRecDepth 100000 in
theorem jin_X3 : ∀ w ∈ u_ws RX3 TX3 5, w ∈ jTB := by
  intro w hw
  obtain ⟨k, hk, rfl⟩ := List.mem_map.mp hw
  have hk := List.mem_range.mp hk
  match k, hk with
  | 0, _ => exact (jTB_at 531 rfl rfl)
  | 1, _ => exact (jTB_at 533 rfl rfl)
  | 2, _ => exact (jTB_at 535 rfl rfl)
  | 3, _ => exact (jTB_at 537 rfl rfl)
  | 4, _ => exact (jTB_at 539 rfl rfl)
  | k + 5, h => exact absurd h (by omega)
theorem jow_X3 : ∀ k, k < 5 → (TX3 k).1 = RX3 := by decide +kernel
set_option maxRecDepth 100000 in
theorem jin_X4 : ∀ w ∈ u_ws RX4 TX4 6, w ∈ jTB := by
  intro w hw
  obtain ⟨k, hk, rfl⟩ := List.mem_map.mp hw
  have hk := List.mem_range.mp hk
  match k, hk with
  | 0, _ => exact (jTB_at 585 rfl rfl)
  | 1, _ => exact (jTB_at 587 rfl rfl)
  | 2, _ => exact (jTB_at 589 rfl rfl)
  | 3, _ => exact (jTB_at 591 rfl rfl)
  | 4, _ => exact (jTB_at 593 rfl rfl)
  | 5, _ => exact (jTB_at 595 rfl rfl)
  | k + 6, h => exact absurd h (by omega)
theorem jow_X4 : ∀ k, k < 6 → (TX4 k).1 = RX4 := by decide +kernel
set_option maxRecDepth 100000 in
theorem jin_X5 : ∀ w ∈ u_ws RX5 TX5 6, w ∈ jTB := by
  intro w hw
  obtain ⟨k, hk, rfl⟩ := List.mem_map.mp hw
  have hk := List.mem_range.mp hk
  match k, hk with
  | 0, _ => exact (jTB_at 475 rfl rfl)
  | 1, _ => exact (jTB_at 477 rfl rfl)
  | 2, _ => exact (jTB_at 479 rfl rfl)
  | 3, _ => exact (jTB_at 481 rfl rfl)
  | 4, _ => exact (jTB_at 483 rfl rfl)
  | 5, _ => exact (jTB_at 485 rfl rfl)
  | k + 6, h => exact absurd h (by omega)
theorem jow_X5 : ∀ k, k < 6 → (TX5 k).1 = RX5 := by decide +kernel
set_option maxRecDepth 100000 in
theorem jin_X6 : ∀ w ∈ u_ws RX6 TX6 10, w ∈ jTB := by
  intro w hw
  obtain ⟨k, hk, rfl⟩ := List.mem_map.mp hw
  have hk := List.mem_range.mp hk
  match k, hk with
  | 0, _ => exact (jTB_at 617 rfl rfl)
  | 1, _ => exact (jTB_at 619 rfl rfl)
  | 2, _ => exact (jTB_at 621 rfl rfl)
  | 3, _ => exact (jTB_at 623 rfl rfl)
  | 4, _ => exact (jTB_at 625 rfl rfl)
  | 5, _ => exact (jTB_at 627 rfl rfl)
  | 6, _ => exact (jTB_at 629 rfl rfl)
  | 7, _ => exact (jTB_at 631 rfl rfl)
  | 8, _ => exact (jTB_at 633 rfl rfl)
  | 9, _ => exact (jTB_at 635 rfl rfl)
  | k + 10, h => exact absurd h (by omega)
theorem jow_X6 : ∀ k, k < 10 → (TX6 k).1 = RX6 := by decide +kernel
set_option maxRecDepth 100000 in
theorem jin_X7 : ∀ w ∈ u_ws RX7 TX7 10, w ∈ jTB := by
  intro w hw
  obtain ⟨k, hk, rfl⟩ := List.mem_map.mp hw
  have hk := List.mem_range.mp hk
  match k, hk with
  | 0, _ => exact (jTB_at 177 rfl rfl)
  | 1, _ => exact (jTB_at 179 rfl rfl)
  | 2, _ => exact (jTB_at 181 rfl rfl)
  | 3, _ => exact (jTB_at 183 rfl rfl)
  | 4, _ => exact (jTB_at 185 rfl rfl)
  | 5, _ => exact (jTB_at 187 rfl rfl)
  | 6, _ => exact (jTB_at 189 rfl rfl)
  | 7, _ => exact (jTB_at 191 rfl rfl)
  | 8, _ => exact (jTB_at 193 rfl rfl)
  | 9, _ => exact (jTB_at 195 rfl rfl)
  | k + 10, h => exact absurd h (by omega)
theorem jow_X7 : ∀ k, k < 10 → (TX7 k).1 = RX7 := by decide +kernel
set_option maxRecDepth 100000 in
theorem jin_X8 : ∀ w ∈ u_ws RX8 TX8 10, w ∈ jTB := by
  intro w hw
  obtain ⟨k, hk, rfl⟩ := List.mem_map.mp hw
  have hk := List.mem_range.mp hk
  match k, hk with
  | 0, _ => exact (jTB_at 376 rfl rfl)
  | 1, _ => exact (jTB_at 378 rfl rfl)
  | 2, _ => exact (jTB_at 380 rfl rfl)
  | 3, _ => exact (jTB_at 382 rfl rfl)
  | 4, _ => exact (jTB_at 384 rfl rfl)
  | 5, _ => exact (jTB_at 386 rfl rfl)
  | 6, _ => exact (jTB_at 388 rfl rfl)
  | 7, _ => exact (jTB_at 390 rfl rfl)
  | 8, _ => exact (jTB_at 392 rfl rfl)
  | 9, _ => exact (jTB_at 394 rfl rfl)
  | k + 10, h => exact absurd h (by omega)
theorem jow_X8 : ∀ k, k < 10 → (TX8 k).1 = RX8 := by decide +kernel
set_option maxRecDepth 100000 in
theorem jin_X9 : ∀ w ∈ u_ws RX9 TX9 2, w ∈ jTB := by
  intro w hw
  obtain ⟨k, hk, rfl⟩ := List.mem_map.mp hw
  have hk := List.mem_range.mp hk
  match k, hk with
  | 0, _ => exact (jTB_at 148 rfl rfl)
  | 1, _ => exact (jTB_at 150 rfl rfl)
  | k + 2, h => exact absurd h (by omega)
theorem jow_X9 : ∀ k, k < 2 → (TX9 k).1 = RX9 := by decide +kernel
set_option maxRecDepth 100000 in
theorem jin_X10 : ∀ w ∈ u_ws RX10 TX10 9, w ∈ jTB := by
  intro w hw
  obtain ⟨k, hk, rfl⟩ := List.mem_map.mp hw
  have hk := List.mem_range.mp hk
  match k, hk with
  | 0, _ => exact (jTB_at 552 rfl rfl)
  | 1, _ => exact (jTB_at 554 rfl rfl)
  | 2, _ => exact (jTB_at 556 rfl rfl)
  | 3, _ => exact (jTB_at 558 rfl rfl)
  | 4, _ => exact (jTB_at 560 rfl rfl)
  | 5, _ => exact (jTB_at 562 rfl rfl)
  | 6, _ => exact (jTB_at 564 rfl rfl)
  | 7, _ => exact (jTB_at 566 rfl rfl)
  | 8, _ => exact (jTB_at 568 rfl rfl)
  | k + 9, h => exact absurd h (by omega)
theorem jow_X10 : ∀ k, k < 9 → (TX10 k).1 = RX10 := by decide +kernel
set_option maxRecDepth 100000 in
theorem jin_X11 : ∀ w ∈ u_ws RX11 TX11 4, w ∈ jTB := by
  intro w hw
  obtain ⟨k, hk, rfl⟩ := List.mem_map.mp hw
  have hk := List.mem_range.mp hk
  match k, hk with
  | 0, _ => exact (jTB_at 202 rfl rfl)
  | 1, _ => exact (jTB_at 204 rfl rfl)
  | 2, _ => exact (jTB_at 206 rfl rfl)
  | 3, _ => exact (jTB_at 208 rfl rfl)
  | k + 4, h => exact absurd h (by omega)
theorem jow_X11 : ∀ k, k < 4 → (TX11 k).1 = RX11 := by decide +kernel
set_option maxRecDepth 100000 in
theorem jin_X12 : ∀ w ∈ u_ws RX12 TX12 57, w ∈ jTB := by
  intro w hw
  obtain ⟨k, hk, rfl⟩ := List.mem_map.mp hw
  have hk := List.mem_range.mp hk
  match k, hk with
  | 0, _ => exact (jTB_at 1398 rfl rfl)
  | 1, _ => exact (jTB_at 1400 rfl rfl)
  | 2, _ => exact (jTB_at 1402 rfl rfl)
  | 3, _ => exact (jTB_at 1404 rfl rfl)
  | 4, _ => exact (jTB_at 1406 rfl rfl)
  | 5, _ => exact (jTB_at 1408 rfl rfl)
  | 6, _ => exact (jTB_at 1410 rfl rfl)
  | 7, _ => exact (jTB_at 1412 rfl rfl)
  | 8, _ => exact (jTB_at 1414 rfl rfl)
  | 9, _ => exact (jTB_at 1416 rfl rfl)
  | 10, _ => exact (jTB_at 1418 rfl rfl)
  | 11, _ => exact (jTB_at 1420 rfl rfl)
  | 12, _ => exact (jTB_at 1422 rfl rfl)
  | 13, _ => exact (jTB_at 1424 rfl rfl)
  | 14, _ => exact (jTB_at 1426 rfl rfl)
  | 15, _ => exact (jTB_at 1428 rfl rfl)
  | 16, _ => exact (jTB_at 1430 rfl rfl)
  | 17, _ => exact (jTB_at 1432 rfl rfl)
  | 18, _ => exact (jTB_at 1434 rfl rfl)
  | 19, _ => exact (jTB_at 1436 rfl rfl)
  | 20, _ => exact (jTB_at 1438 rfl rfl)
  | 21, _ => exact (jTB_at 1440 rfl rfl)
  | 22, _ => exact (jTB_at 1442 rfl rfl)
  | 23, _ => exact (jTB_at 1444 rfl rfl)
  | 24, _ => exact (jTB_at 1446 rfl rfl)
  | 25, _ => exact (jTB_at 1448 rfl rfl)
  | 26, _ => exact (jTB_at 1450 rfl rfl)
  | 27, _ => exact (jTB_at 1452 rfl rfl)
  | 28, _ => exact (jTB_at 1454 rfl rfl)
  | 29, _ => exact (jTB_at 1456 rfl rfl)
  | 30, _ => exact (jTB_at 1458 rfl rfl)
  | 31, _ => exact (jTB_at 1460 rfl rfl)
  | 32, _ => exact (jTB_at 1462 rfl rfl)
  | 33, _ => exact (jTB_at 1464 rfl rfl)
  | 34, _ => exact (jTB_at 1466 rfl rfl)
  | 35, _ => exact (jTB_at 1468 rfl rfl)
  | 36, _ => exact (jTB_at 1470 rfl rfl)
  | 37, _ => exact (jTB_at 1472 rfl rfl)
  | 38, _ => exact (jTB_at 1474 rfl rfl)
  | 39, _ => exact (jTB_at 1476 rfl rfl)
  | 40, _ => exact (jTB_at 1478 rfl rfl)
  | 41, _ => exact (jTB_at 1480 rfl rfl)
  | 42, _ => exact (jTB_at 1482 rfl rfl)
  | 43, _ => exact (jTB_at 1484 rfl rfl)
  | 44, _ => exact (jTB_at 1486 rfl rfl)
  | 45, _ => exact (jTB_at 1488 rfl rfl)
  | 46, _ => exact (jTB_at 1490 rfl rfl)
  | 47, _ => exact (jTB_at 1492 rfl rfl)
  | 48, _ => exact (jTB_at 1494 rfl rfl)
  | 49, _ => exact (jTB_at 1496 rfl rfl)
  | 50, _ => exact (jTB_at 1498 rfl rfl)
  | 51, _ => exact (jTB_at 1500 rfl rfl)
  | 52, _ => exact (jTB_at 1502 rfl rfl)
  | 53, _ => exact (jTB_at 1504 rfl rfl)
  | 54, _ => exact (jTB_at 1506 rfl rfl)
  | 55, _ => exact (jTB_at 1508 rfl rfl)
  | 56, _ => exact (jTB_at 1510 rfl rfl)
  | k + 57, h => exact absurd h (by omega)
theorem jow_X12 : ∀ k, k < 57 → (TX12 k).1 = RX12 := by decide +kernel
