/-! ===== the cells that the constructors make (printed by wip/gen/graphp.py) ===== -/
def zgT : List (Nat × Nat × Nat) := [(0, 12, 0), (1, 10, 0), (2, 20, 20), (3, 20, 20), (4, 20, 20), (5, 20, 20), (6, 20, 20), (7, 20, 7), (8, 25, 6), (9, 20, 120), (10, 20, 120), (11, 20, 3), (12, 20, 40), (13, 24, 2), (14, 10, 0), (15, 20, 20), (16, 20, 20), (17, 20, 20), (18, 20, 20), (19, 20, 20), (20, 20, 7), (21, 25, 6), (22, 20, 120), (23, 20, 120), (24, 20, 3), (25, 20, 40), (26, 10, 0), (27, 20, 20), (28, 20, 20), (29, 20, 20), (30, 20, 20), (31, 20, 20), (32, 20, 7), (33, 25, 6), (34, 20, 120), (35, 20, 120), (36, 20, 3), (37, 20, 40), (38, 23, 2), (39, 20, 400), (40, 20, 3), (41, 20, 7), (42, 7, 0), (43, 20, 401), (44, 20, 401), (45, 20, 401), (46, 20, 12), (47, 20, 13), (48, 20, 412), (49, 11, 0), (50, 20, 7), (51, 21, 52), (52, 3, 0), (53, 20, 441), (54, 20, 3), (55, 20, 3), (56, 20, 3), (57, 20, 3), (58, 21, 4), (59, 21, 4), (60, 5, 0), (61, 20, 20), (62, 20, 120), (63, 20, 20), (64, 20, 21), (65, 20, 21), (66, 20, 231), (67, 21, 231), (68, 21, 121), (69, 20, 20), (70, 20, 20), (71, 1, 0), (72, 20, 60), (73, 2, 0), (74, 20, 20), (75, 20, 20), (76, 20, 400), (77, 20, 20), (78, 8, 0), (79, 20, 3), (80, 20, 12), (81, 20, 12), (82, 20, 3), (83, 20, 12), (84, 20, 1), (85, 20, 12), (86, 6, 0), (87, 21, 9), (88, 21, 9), (89, 9, 0), (90, 20, 3), (91, 13, 0), (92, 20, 7), (93, 20, 5201), (94, 20, 10402), (95, 23, 2), (96, 22, 76), (97, 22, 400), (98, 20, 5), (99, 20, 401), (100, 20, 401), (101, 20, 401), (102, 20, 7), (103, 20, 3), (104, 20, 3), (105, 20, 3), (106, 20, 3), (107, 21, 4), (108, 21, 4), (109, 20, 148176), (110, 21, 441), (111, 20, 80), (112, 20, 20), (113, 20, 400), (114, 20, 20), (115, 20, 20), (116, 20, 20), (117, 20, 40), (118, 20, 20), (119, 20, 3), (120, 20, 12), (121, 20, 12), (122, 20, 12), (123, 21, 12), (124, 21, 12), (125, 21, 12)]
def zgR : List (Nat × Nat × Nat) := [(0, 0, 1), (0, 1, 13), (0, 2, 38), (0, 3, 39), (0, 7, 40), (0, 8, 41), (0, 10, 42), (0, 11, 49), (0, 12, 52), (0, 13, 60), (0, 14, 71), (0, 15, 73), (0, 16, 78), (0, 17, 86), (0, 18, 89), (1, 0, 2), (1, 1, 3), (1, 2, 4), (1, 3, 5), (1, 4, 6), (1, 6, 7), (1, 7, 8), (1, 10, 9), (1, 11, 10), (1, 13, 11), (1, 14, 12), (14, 0, 15), (14, 1, 16), (14, 2, 17), (14, 3, 18), (14, 4, 19), (14, 6, 20), (14, 7, 21), (14, 10, 22), (14, 11, 23), (14, 13, 24), (14, 14, 25), (26, 0, 27), (26, 1, 28), (26, 2, 29), (26, 3, 30), (26, 4, 31), (26, 6, 32), (26, 7, 33), (26, 10, 34), (26, 11, 35), (26, 13, 36), (26, 14, 37), (42, 0, 43), (42, 1, 44), (42, 2, 45), (42, 6, 46), (42, 7, 47), (42, 8, 48), (49, 0, 1), (49, 1, 50), (49, 2, 51), (52, 0, 53), (52, 1, 54), (52, 2, 55), (52, 3, 56), (52, 4, 57), (52, 5, 58), (52, 6, 59), (60, 0, 1), (60, 1, 49), (60, 2, 52), (60, 6, 61), (60, 7, 62), (60, 8, 63), (60, 9, 64), (60, 10, 65), (60, 12, 67), (60, 13, 68), (60, 15, 69), (60, 16, 70), (71, 0, 60), (71, 1, 72), (73, 0, 1), (73, 1, 49), (73, 3, 74), (73, 4, 75), (73, 5, 76), (73, 6, 77), (78, 0, 1), (78, 1, 49), (78, 3, 79), (78, 5, 80), (78, 6, 81), (78, 7, 82), (78, 8, 83), (78, 10, 85), (86, 0, 87), (86, 1, 88), (89, 0, 1), (89, 1, 49), (89, 2, 90), (91, 2, 92), (91, 3, 93), (91, 4, 94), (91, 5, 95), (91, 6, 96), (91, 7, 97), (91, 8, 98), (91, 11, 99), (91, 12, 100), (91, 13, 101), (91, 21, 102), (91, 22, 103), (91, 23, 104), (91, 24, 105), (91, 25, 106), (91, 26, 107), (91, 27, 108), (91, 31, 109), (91, 32, 110), (91, 33, 111), (91, 38, 112), (91, 39, 113), (91, 40, 114), (91, 41, 115), (91, 42, 116), (91, 46, 117), (91, 47, 118), (91, 52, 119), (91, 53, 120), (91, 54, 121), (91, 55, 122), (91, 60, 123), (91, 61, 124), (91, 62, 125)]
abbrev zG (F : zFs) : Prop := (∀ q ∈ zgT, (F q.1).1 = q.2.1 ∧ (F q.1).2.1 = q.2.2) ∧ ∀ q ∈ zgR, (F q.1).2.2 q.2.1 = (q.2.2 : Int)
theorem zgT_lt : ∀ q ∈ zgT, q.1 < 126 := by decide +kernel
theorem zgR_lt : ∀ q ∈ zgR, q.1 < 126 := by decide +kernel
theorem zG_new {F : zFs} {n : Nat} {q : Nat × Nat × (Nat → Int)} (h : zG F) (hn : 126 ≤ n) : zG (znew F n q) := by
  refine ⟨fun r hr => ?_, fun r hr => ?_⟩
  · have := zgT_lt r hr
    rw [znew_ne (by omega)]; exact h.1 r hr
  · have := zgR_lt r hr
    rw [znew_ne (by omega)]; exact h.2 r hr
theorem gk_0 {F : zFs} (h : zG F) : (F 0).1 = 12 := (h.1 (0, 12, 0) (List.mem_of_getElem? (i := 0) rfl)).1
theorem gk_1 {F : zFs} (h : zG F) : (F 1).1 = 10 := (h.1 (1, 10, 0) (List.mem_of_getElem? (i := 1) rfl)).1
theorem gk_2 {F : zFs} (h : zG F) : (F 2).1 = 20 := (h.1 (2, 20, 20) (List.mem_of_getElem? (i := 2) rfl)).1
theorem gl_2 {F : zFs} (h : zG F) : (F 2).2.1 = 20 := (h.1 (2, 20, 20) (List.mem_of_getElem? (i := 2) rfl)).2
theorem gk_3 {F : zFs} (h : zG F) : (F 3).1 = 20 := (h.1 (3, 20, 20) (List.mem_of_getElem? (i := 3) rfl)).1
theorem gl_3 {F : zFs} (h : zG F) : (F 3).2.1 = 20 := (h.1 (3, 20, 20) (List.mem_of_getElem? (i := 3) rfl)).2
theorem gk_4 {F : zFs} (h : zG F) : (F 4).1 = 20 := (h.1 (4, 20, 20) (List.mem_of_getElem? (i := 4) rfl)).1
theorem gl_4 {F : zFs} (h : zG F) : (F 4).2.1 = 20 := (h.1 (4, 20, 20) (List.mem_of_getElem? (i := 4) rfl)).2
theorem gk_5 {F : zFs} (h : zG F) : (F 5).1 = 20 := (h.1 (5, 20, 20) (List.mem_of_getElem? (i := 5) rfl)).1
theorem gl_5 {F : zFs} (h : zG F) : (F 5).2.1 = 20 := (h.1 (5, 20, 20) (List.mem_of_getElem? (i := 5) rfl)).2
theorem gk_6 {F : zFs} (h : zG F) : (F 6).1 = 20 := (h.1 (6, 20, 20) (List.mem_of_getElem? (i := 6) rfl)).1
theorem gl_6 {F : zFs} (h : zG F) : (F 6).2.1 = 20 := (h.1 (6, 20, 20) (List.mem_of_getElem? (i := 6) rfl)).2
theorem gk_7 {F : zFs} (h : zG F) : (F 7).1 = 20 := (h.1 (7, 20, 7) (List.mem_of_getElem? (i := 7) rfl)).1
theorem gl_7 {F : zFs} (h : zG F) : (F 7).2.1 = 7 := (h.1 (7, 20, 7) (List.mem_of_getElem? (i := 7) rfl)).2
theorem gk_8 {F : zFs} (h : zG F) : (F 8).1 = 25 := (h.1 (8, 25, 6) (List.mem_of_getElem? (i := 8) rfl)).1
theorem gl_8 {F : zFs} (h : zG F) : (F 8).2.1 = 6 := (h.1 (8, 25, 6) (List.mem_of_getElem? (i := 8) rfl)).2
theorem gk_9 {F : zFs} (h : zG F) : (F 9).1 = 20 := (h.1 (9, 20, 120) (List.mem_of_getElem? (i := 9) rfl)).1
theorem gl_9 {F : zFs} (h : zG F) : (F 9).2.1 = 120 := (h.1 (9, 20, 120) (List.mem_of_getElem? (i := 9) rfl)).2
theorem gk_10 {F : zFs} (h : zG F) : (F 10).1 = 20 := (h.1 (10, 20, 120) (List.mem_of_getElem? (i := 10) rfl)).1
theorem gl_10 {F : zFs} (h : zG F) : (F 10).2.1 = 120 := (h.1 (10, 20, 120) (List.mem_of_getElem? (i := 10) rfl)).2
theorem gk_11 {F : zFs} (h : zG F) : (F 11).1 = 20 := (h.1 (11, 20, 3) (List.mem_of_getElem? (i := 11) rfl)).1
theorem gl_11 {F : zFs} (h : zG F) : (F 11).2.1 = 3 := (h.1 (11, 20, 3) (List.mem_of_getElem? (i := 11) rfl)).2
theorem gk_12 {F : zFs} (h : zG F) : (F 12).1 = 20 := (h.1 (12, 20, 40) (List.mem_of_getElem? (i := 12) rfl)).1
theorem gl_12 {F : zFs} (h : zG F) : (F 12).2.1 = 40 := (h.1 (12, 20, 40) (List.mem_of_getElem? (i := 12) rfl)).2
theorem gk_13 {F : zFs} (h : zG F) : (F 13).1 = 24 := (h.1 (13, 24, 2) (List.mem_of_getElem? (i := 13) rfl)).1
theorem gl_13 {F : zFs} (h : zG F) : (F 13).2.1 = 2 := (h.1 (13, 24, 2) (List.mem_of_getElem? (i := 13) rfl)).2
theorem gk_14 {F : zFs} (h : zG F) : (F 14).1 = 10 := (h.1 (14, 10, 0) (List.mem_of_getElem? (i := 14) rfl)).1
theorem gk_15 {F : zFs} (h : zG F) : (F 15).1 = 20 := (h.1 (15, 20, 20) (List.mem_of_getElem? (i := 15) rfl)).1
theorem gl_15 {F : zFs} (h : zG F) : (F 15).2.1 = 20 := (h.1 (15, 20, 20) (List.mem_of_getElem? (i := 15) rfl)).2
theorem gk_16 {F : zFs} (h : zG F) : (F 16).1 = 20 := (h.1 (16, 20, 20) (List.mem_of_getElem? (i := 16) rfl)).1
theorem gl_16 {F : zFs} (h : zG F) : (F 16).2.1 = 20 := (h.1 (16, 20, 20) (List.mem_of_getElem? (i := 16) rfl)).2
theorem gk_17 {F : zFs} (h : zG F) : (F 17).1 = 20 := (h.1 (17, 20, 20) (List.mem_of_getElem? (i := 17) rfl)).1
theorem gl_17 {F : zFs} (h : zG F) : (F 17).2.1 = 20 := (h.1 (17, 20, 20) (List.mem_of_getElem? (i := 17) rfl)).2
theorem gk_18 {F : zFs} (h : zG F) : (F 18).1 = 20 := (h.1 (18, 20, 20) (List.mem_of_getElem? (i := 18) rfl)).1
theorem gl_18 {F : zFs} (h : zG F) : (F 18).2.1 = 20 := (h.1 (18, 20, 20) (List.mem_of_getElem? (i := 18) rfl)).2
theorem gk_19 {F : zFs} (h : zG F) : (F 19).1 = 20 := (h.1 (19, 20, 20) (List.mem_of_getElem? (i := 19) rfl)).1
theorem gl_19 {F : zFs} (h : zG F) : (F 19).2.1 = 20 := (h.1 (19, 20, 20) (List.mem_of_getElem? (i := 19) rfl)).2
theorem gk_20 {F : zFs} (h : zG F) : (F 20).1 = 20 := (h.1 (20, 20, 7) (List.mem_of_getElem? (i := 20) rfl)).1
theorem gl_20 {F : zFs} (h : zG F) : (F 20).2.1 = 7 := (h.1 (20, 20, 7) (List.mem_of_getElem? (i := 20) rfl)).2
theorem gk_21 {F : zFs} (h : zG F) : (F 21).1 = 25 := (h.1 (21, 25, 6) (List.mem_of_getElem? (i := 21) rfl)).1
theorem gl_21 {F : zFs} (h : zG F) : (F 21).2.1 = 6 := (h.1 (21, 25, 6) (List.mem_of_getElem? (i := 21) rfl)).2
theorem gk_22 {F : zFs} (h : zG F) : (F 22).1 = 20 := (h.1 (22, 20, 120) (List.mem_of_getElem? (i := 22) rfl)).1
theorem gl_22 {F : zFs} (h : zG F) : (F 22).2.1 = 120 := (h.1 (22, 20, 120) (List.mem_of_getElem? (i := 22) rfl)).2
theorem gk_23 {F : zFs} (h : zG F) : (F 23).1 = 20 := (h.1 (23, 20, 120) (List.mem_of_getElem? (i := 23) rfl)).1
theorem gl_23 {F : zFs} (h : zG F) : (F 23).2.1 = 120 := (h.1 (23, 20, 120) (List.mem_of_getElem? (i := 23) rfl)).2
theorem gk_24 {F : zFs} (h : zG F) : (F 24).1 = 20 := (h.1 (24, 20, 3) (List.mem_of_getElem? (i := 24) rfl)).1
theorem gl_24 {F : zFs} (h : zG F) : (F 24).2.1 = 3 := (h.1 (24, 20, 3) (List.mem_of_getElem? (i := 24) rfl)).2
theorem gk_25 {F : zFs} (h : zG F) : (F 25).1 = 20 := (h.1 (25, 20, 40) (List.mem_of_getElem? (i := 25) rfl)).1
theorem gl_25 {F : zFs} (h : zG F) : (F 25).2.1 = 40 := (h.1 (25, 20, 40) (List.mem_of_getElem? (i := 25) rfl)).2
theorem gk_26 {F : zFs} (h : zG F) : (F 26).1 = 10 := (h.1 (26, 10, 0) (List.mem_of_getElem? (i := 26) rfl)).1
theorem gk_27 {F : zFs} (h : zG F) : (F 27).1 = 20 := (h.1 (27, 20, 20) (List.mem_of_getElem? (i := 27) rfl)).1
theorem gl_27 {F : zFs} (h : zG F) : (F 27).2.1 = 20 := (h.1 (27, 20, 20) (List.mem_of_getElem? (i := 27) rfl)).2
theorem gk_28 {F : zFs} (h : zG F) : (F 28).1 = 20 := (h.1 (28, 20, 20) (List.mem_of_getElem? (i := 28) rfl)).1
theorem gl_28 {F : zFs} (h : zG F) : (F 28).2.1 = 20 := (h.1 (28, 20, 20) (List.mem_of_getElem? (i := 28) rfl)).2
theorem gk_29 {F : zFs} (h : zG F) : (F 29).1 = 20 := (h.1 (29, 20, 20) (List.mem_of_getElem? (i := 29) rfl)).1
theorem gl_29 {F : zFs} (h : zG F) : (F 29).2.1 = 20 := (h.1 (29, 20, 20) (List.mem_of_getElem? (i := 29) rfl)).2
theorem gk_30 {F : zFs} (h : zG F) : (F 30).1 = 20 := (h.1 (30, 20, 20) (List.mem_of_getElem? (i := 30) rfl)).1
theorem gl_30 {F : zFs} (h : zG F) : (F 30).2.1 = 20 := (h.1 (30, 20, 20) (List.mem_of_getElem? (i := 30) rfl)).2
theorem gk_31 {F : zFs} (h : zG F) : (F 31).1 = 20 := (h.1 (31, 20, 20) (List.mem_of_getElem? (i := 31) rfl)).1
theorem gl_31 {F : zFs} (h : zG F) : (F 31).2.1 = 20 := (h.1 (31, 20, 20) (List.mem_of_getElem? (i := 31) rfl)).2
theorem gk_32 {F : zFs} (h : zG F) : (F 32).1 = 20 := (h.1 (32, 20, 7) (List.mem_of_getElem? (i := 32) rfl)).1
theorem gl_32 {F : zFs} (h : zG F) : (F 32).2.1 = 7 := (h.1 (32, 20, 7) (List.mem_of_getElem? (i := 32) rfl)).2
theorem gk_33 {F : zFs} (h : zG F) : (F 33).1 = 25 := (h.1 (33, 25, 6) (List.mem_of_getElem? (i := 33) rfl)).1
theorem gl_33 {F : zFs} (h : zG F) : (F 33).2.1 = 6 := (h.1 (33, 25, 6) (List.mem_of_getElem? (i := 33) rfl)).2
theorem gk_34 {F : zFs} (h : zG F) : (F 34).1 = 20 := (h.1 (34, 20, 120) (List.mem_of_getElem? (i := 34) rfl)).1
theorem gl_34 {F : zFs} (h : zG F) : (F 34).2.1 = 120 := (h.1 (34, 20, 120) (List.mem_of_getElem? (i := 34) rfl)).2
theorem gk_35 {F : zFs} (h : zG F) : (F 35).1 = 20 := (h.1 (35, 20, 120) (List.mem_of_getElem? (i := 35) rfl)).1
theorem gl_35 {F : zFs} (h : zG F) : (F 35).2.1 = 120 := (h.1 (35, 20, 120) (List.mem_of_getElem? (i := 35) rfl)).2
theorem gk_36 {F : zFs} (h : zG F) : (F 36).1 = 20 := (h.1 (36, 20, 3) (List.mem_of_getElem? (i := 36) rfl)).1
theorem gl_36 {F : zFs} (h : zG F) : (F 36).2.1 = 3 := (h.1 (36, 20, 3) (List.mem_of_getElem? (i := 36) rfl)).2
theorem gk_37 {F : zFs} (h : zG F) : (F 37).1 = 20 := (h.1 (37, 20, 40) (List.mem_of_getElem? (i := 37) rfl)).1
theorem gl_37 {F : zFs} (h : zG F) : (F 37).2.1 = 40 := (h.1 (37, 20, 40) (List.mem_of_getElem? (i := 37) rfl)).2
theorem gk_38 {F : zFs} (h : zG F) : (F 38).1 = 23 := (h.1 (38, 23, 2) (List.mem_of_getElem? (i := 38) rfl)).1
theorem gl_38 {F : zFs} (h : zG F) : (F 38).2.1 = 2 := (h.1 (38, 23, 2) (List.mem_of_getElem? (i := 38) rfl)).2
theorem gk_39 {F : zFs} (h : zG F) : (F 39).1 = 20 := (h.1 (39, 20, 400) (List.mem_of_getElem? (i := 39) rfl)).1
theorem gl_39 {F : zFs} (h : zG F) : (F 39).2.1 = 400 := (h.1 (39, 20, 400) (List.mem_of_getElem? (i := 39) rfl)).2
theorem gk_40 {F : zFs} (h : zG F) : (F 40).1 = 20 := (h.1 (40, 20, 3) (List.mem_of_getElem? (i := 40) rfl)).1
theorem gl_40 {F : zFs} (h : zG F) : (F 40).2.1 = 3 := (h.1 (40, 20, 3) (List.mem_of_getElem? (i := 40) rfl)).2
theorem gk_41 {F : zFs} (h : zG F) : (F 41).1 = 20 := (h.1 (41, 20, 7) (List.mem_of_getElem? (i := 41) rfl)).1
theorem gl_41 {F : zFs} (h : zG F) : (F 41).2.1 = 7 := (h.1 (41, 20, 7) (List.mem_of_getElem? (i := 41) rfl)).2
theorem gk_42 {F : zFs} (h : zG F) : (F 42).1 = 7 := (h.1 (42, 7, 0) (List.mem_of_getElem? (i := 42) rfl)).1
theorem gk_43 {F : zFs} (h : zG F) : (F 43).1 = 20 := (h.1 (43, 20, 401) (List.mem_of_getElem? (i := 43) rfl)).1
theorem gl_43 {F : zFs} (h : zG F) : (F 43).2.1 = 401 := (h.1 (43, 20, 401) (List.mem_of_getElem? (i := 43) rfl)).2
theorem gk_44 {F : zFs} (h : zG F) : (F 44).1 = 20 := (h.1 (44, 20, 401) (List.mem_of_getElem? (i := 44) rfl)).1
theorem gl_44 {F : zFs} (h : zG F) : (F 44).2.1 = 401 := (h.1 (44, 20, 401) (List.mem_of_getElem? (i := 44) rfl)).2
theorem gk_45 {F : zFs} (h : zG F) : (F 45).1 = 20 := (h.1 (45, 20, 401) (List.mem_of_getElem? (i := 45) rfl)).1
theorem gl_45 {F : zFs} (h : zG F) : (F 45).2.1 = 401 := (h.1 (45, 20, 401) (List.mem_of_getElem? (i := 45) rfl)).2
theorem gk_46 {F : zFs} (h : zG F) : (F 46).1 = 20 := (h.1 (46, 20, 12) (List.mem_of_getElem? (i := 46) rfl)).1
theorem gl_46 {F : zFs} (h : zG F) : (F 46).2.1 = 12 := (h.1 (46, 20, 12) (List.mem_of_getElem? (i := 46) rfl)).2
theorem gk_47 {F : zFs} (h : zG F) : (F 47).1 = 20 := (h.1 (47, 20, 13) (List.mem_of_getElem? (i := 47) rfl)).1
theorem gl_47 {F : zFs} (h : zG F) : (F 47).2.1 = 13 := (h.1 (47, 20, 13) (List.mem_of_getElem? (i := 47) rfl)).2
theorem gk_48 {F : zFs} (h : zG F) : (F 48).1 = 20 := (h.1 (48, 20, 412) (List.mem_of_getElem? (i := 48) rfl)).1
theorem gl_48 {F : zFs} (h : zG F) : (F 48).2.1 = 412 := (h.1 (48, 20, 412) (List.mem_of_getElem? (i := 48) rfl)).2
theorem gk_49 {F : zFs} (h : zG F) : (F 49).1 = 11 := (h.1 (49, 11, 0) (List.mem_of_getElem? (i := 49) rfl)).1
theorem gk_50 {F : zFs} (h : zG F) : (F 50).1 = 20 := (h.1 (50, 20, 7) (List.mem_of_getElem? (i := 50) rfl)).1
theorem gl_50 {F : zFs} (h : zG F) : (F 50).2.1 = 7 := (h.1 (50, 20, 7) (List.mem_of_getElem? (i := 50) rfl)).2
theorem gk_51 {F : zFs} (h : zG F) : (F 51).1 = 21 := (h.1 (51, 21, 52) (List.mem_of_getElem? (i := 51) rfl)).1
theorem gl_51 {F : zFs} (h : zG F) : (F 51).2.1 = 52 := (h.1 (51, 21, 52) (List.mem_of_getElem? (i := 51) rfl)).2
theorem gk_52 {F : zFs} (h : zG F) : (F 52).1 = 3 := (h.1 (52, 3, 0) (List.mem_of_getElem? (i := 52) rfl)).1
theorem gk_53 {F : zFs} (h : zG F) : (F 53).1 = 20 := (h.1 (53, 20, 441) (List.mem_of_getElem? (i := 53) rfl)).1
theorem gl_53 {F : zFs} (h : zG F) : (F 53).2.1 = 441 := (h.1 (53, 20, 441) (List.mem_of_getElem? (i := 53) rfl)).2
theorem gk_54 {F : zFs} (h : zG F) : (F 54).1 = 20 := (h.1 (54, 20, 3) (List.mem_of_getElem? (i := 54) rfl)).1
theorem gl_54 {F : zFs} (h : zG F) : (F 54).2.1 = 3 := (h.1 (54, 20, 3) (List.mem_of_getElem? (i := 54) rfl)).2
theorem gk_55 {F : zFs} (h : zG F) : (F 55).1 = 20 := (h.1 (55, 20, 3) (List.mem_of_getElem? (i := 55) rfl)).1
theorem gl_55 {F : zFs} (h : zG F) : (F 55).2.1 = 3 := (h.1 (55, 20, 3) (List.mem_of_getElem? (i := 55) rfl)).2
theorem gk_56 {F : zFs} (h : zG F) : (F 56).1 = 20 := (h.1 (56, 20, 3) (List.mem_of_getElem? (i := 56) rfl)).1
theorem gl_56 {F : zFs} (h : zG F) : (F 56).2.1 = 3 := (h.1 (56, 20, 3) (List.mem_of_getElem? (i := 56) rfl)).2
theorem gk_57 {F : zFs} (h : zG F) : (F 57).1 = 20 := (h.1 (57, 20, 3) (List.mem_of_getElem? (i := 57) rfl)).1
theorem gl_57 {F : zFs} (h : zG F) : (F 57).2.1 = 3 := (h.1 (57, 20, 3) (List.mem_of_getElem? (i := 57) rfl)).2
theorem gk_58 {F : zFs} (h : zG F) : (F 58).1 = 21 := (h.1 (58, 21, 4) (List.mem_of_getElem? (i := 58) rfl)).1
theorem gl_58 {F : zFs} (h : zG F) : (F 58).2.1 = 4 := (h.1 (58, 21, 4) (List.mem_of_getElem? (i := 58) rfl)).2
theorem gk_59 {F : zFs} (h : zG F) : (F 59).1 = 21 := (h.1 (59, 21, 4) (List.mem_of_getElem? (i := 59) rfl)).1
theorem gl_59 {F : zFs} (h : zG F) : (F 59).2.1 = 4 := (h.1 (59, 21, 4) (List.mem_of_getElem? (i := 59) rfl)).2
theorem gk_60 {F : zFs} (h : zG F) : (F 60).1 = 5 := (h.1 (60, 5, 0) (List.mem_of_getElem? (i := 60) rfl)).1
theorem gk_61 {F : zFs} (h : zG F) : (F 61).1 = 20 := (h.1 (61, 20, 20) (List.mem_of_getElem? (i := 61) rfl)).1
theorem gl_61 {F : zFs} (h : zG F) : (F 61).2.1 = 20 := (h.1 (61, 20, 20) (List.mem_of_getElem? (i := 61) rfl)).2
theorem gk_62 {F : zFs} (h : zG F) : (F 62).1 = 20 := (h.1 (62, 20, 120) (List.mem_of_getElem? (i := 62) rfl)).1
theorem gl_62 {F : zFs} (h : zG F) : (F 62).2.1 = 120 := (h.1 (62, 20, 120) (List.mem_of_getElem? (i := 62) rfl)).2
theorem gk_63 {F : zFs} (h : zG F) : (F 63).1 = 20 := (h.1 (63, 20, 20) (List.mem_of_getElem? (i := 63) rfl)).1
theorem gl_63 {F : zFs} (h : zG F) : (F 63).2.1 = 20 := (h.1 (63, 20, 20) (List.mem_of_getElem? (i := 63) rfl)).2
theorem gk_64 {F : zFs} (h : zG F) : (F 64).1 = 20 := (h.1 (64, 20, 21) (List.mem_of_getElem? (i := 64) rfl)).1
theorem gl_64 {F : zFs} (h : zG F) : (F 64).2.1 = 21 := (h.1 (64, 20, 21) (List.mem_of_getElem? (i := 64) rfl)).2
theorem gk_65 {F : zFs} (h : zG F) : (F 65).1 = 20 := (h.1 (65, 20, 21) (List.mem_of_getElem? (i := 65) rfl)).1
theorem gl_65 {F : zFs} (h : zG F) : (F 65).2.1 = 21 := (h.1 (65, 20, 21) (List.mem_of_getElem? (i := 65) rfl)).2
theorem gk_66 {F : zFs} (h : zG F) : (F 66).1 = 20 := (h.1 (66, 20, 231) (List.mem_of_getElem? (i := 66) rfl)).1
theorem gl_66 {F : zFs} (h : zG F) : (F 66).2.1 = 231 := (h.1 (66, 20, 231) (List.mem_of_getElem? (i := 66) rfl)).2
theorem gk_67 {F : zFs} (h : zG F) : (F 67).1 = 21 := (h.1 (67, 21, 231) (List.mem_of_getElem? (i := 67) rfl)).1
theorem gl_67 {F : zFs} (h : zG F) : (F 67).2.1 = 231 := (h.1 (67, 21, 231) (List.mem_of_getElem? (i := 67) rfl)).2
theorem gk_68 {F : zFs} (h : zG F) : (F 68).1 = 21 := (h.1 (68, 21, 121) (List.mem_of_getElem? (i := 68) rfl)).1
theorem gl_68 {F : zFs} (h : zG F) : (F 68).2.1 = 121 := (h.1 (68, 21, 121) (List.mem_of_getElem? (i := 68) rfl)).2
theorem gk_69 {F : zFs} (h : zG F) : (F 69).1 = 20 := (h.1 (69, 20, 20) (List.mem_of_getElem? (i := 69) rfl)).1
theorem gl_69 {F : zFs} (h : zG F) : (F 69).2.1 = 20 := (h.1 (69, 20, 20) (List.mem_of_getElem? (i := 69) rfl)).2
theorem gk_70 {F : zFs} (h : zG F) : (F 70).1 = 20 := (h.1 (70, 20, 20) (List.mem_of_getElem? (i := 70) rfl)).1
theorem gl_70 {F : zFs} (h : zG F) : (F 70).2.1 = 20 := (h.1 (70, 20, 20) (List.mem_of_getElem? (i := 70) rfl)).2
theorem gk_71 {F : zFs} (h : zG F) : (F 71).1 = 1 := (h.1 (71, 1, 0) (List.mem_of_getElem? (i := 71) rfl)).1
theorem gk_72 {F : zFs} (h : zG F) : (F 72).1 = 20 := (h.1 (72, 20, 60) (List.mem_of_getElem? (i := 72) rfl)).1
theorem gl_72 {F : zFs} (h : zG F) : (F 72).2.1 = 60 := (h.1 (72, 20, 60) (List.mem_of_getElem? (i := 72) rfl)).2
theorem gk_73 {F : zFs} (h : zG F) : (F 73).1 = 2 := (h.1 (73, 2, 0) (List.mem_of_getElem? (i := 73) rfl)).1
theorem gk_74 {F : zFs} (h : zG F) : (F 74).1 = 20 := (h.1 (74, 20, 20) (List.mem_of_getElem? (i := 74) rfl)).1
theorem gl_74 {F : zFs} (h : zG F) : (F 74).2.1 = 20 := (h.1 (74, 20, 20) (List.mem_of_getElem? (i := 74) rfl)).2
theorem gk_75 {F : zFs} (h : zG F) : (F 75).1 = 20 := (h.1 (75, 20, 20) (List.mem_of_getElem? (i := 75) rfl)).1
theorem gl_75 {F : zFs} (h : zG F) : (F 75).2.1 = 20 := (h.1 (75, 20, 20) (List.mem_of_getElem? (i := 75) rfl)).2
theorem gk_76 {F : zFs} (h : zG F) : (F 76).1 = 20 := (h.1 (76, 20, 400) (List.mem_of_getElem? (i := 76) rfl)).1
theorem gl_76 {F : zFs} (h : zG F) : (F 76).2.1 = 400 := (h.1 (76, 20, 400) (List.mem_of_getElem? (i := 76) rfl)).2
theorem gk_77 {F : zFs} (h : zG F) : (F 77).1 = 20 := (h.1 (77, 20, 20) (List.mem_of_getElem? (i := 77) rfl)).1
theorem gl_77 {F : zFs} (h : zG F) : (F 77).2.1 = 20 := (h.1 (77, 20, 20) (List.mem_of_getElem? (i := 77) rfl)).2
theorem gk_78 {F : zFs} (h : zG F) : (F 78).1 = 8 := (h.1 (78, 8, 0) (List.mem_of_getElem? (i := 78) rfl)).1
theorem gk_79 {F : zFs} (h : zG F) : (F 79).1 = 20 := (h.1 (79, 20, 3) (List.mem_of_getElem? (i := 79) rfl)).1
theorem gl_79 {F : zFs} (h : zG F) : (F 79).2.1 = 3 := (h.1 (79, 20, 3) (List.mem_of_getElem? (i := 79) rfl)).2
theorem gk_80 {F : zFs} (h : zG F) : (F 80).1 = 20 := (h.1 (80, 20, 12) (List.mem_of_getElem? (i := 80) rfl)).1
theorem gl_80 {F : zFs} (h : zG F) : (F 80).2.1 = 12 := (h.1 (80, 20, 12) (List.mem_of_getElem? (i := 80) rfl)).2
theorem gk_81 {F : zFs} (h : zG F) : (F 81).1 = 20 := (h.1 (81, 20, 12) (List.mem_of_getElem? (i := 81) rfl)).1
theorem gl_81 {F : zFs} (h : zG F) : (F 81).2.1 = 12 := (h.1 (81, 20, 12) (List.mem_of_getElem? (i := 81) rfl)).2
theorem gk_82 {F : zFs} (h : zG F) : (F 82).1 = 20 := (h.1 (82, 20, 3) (List.mem_of_getElem? (i := 82) rfl)).1
theorem gl_82 {F : zFs} (h : zG F) : (F 82).2.1 = 3 := (h.1 (82, 20, 3) (List.mem_of_getElem? (i := 82) rfl)).2
theorem gk_83 {F : zFs} (h : zG F) : (F 83).1 = 20 := (h.1 (83, 20, 12) (List.mem_of_getElem? (i := 83) rfl)).1
theorem gl_83 {F : zFs} (h : zG F) : (F 83).2.1 = 12 := (h.1 (83, 20, 12) (List.mem_of_getElem? (i := 83) rfl)).2
theorem gk_84 {F : zFs} (h : zG F) : (F 84).1 = 20 := (h.1 (84, 20, 1) (List.mem_of_getElem? (i := 84) rfl)).1
theorem gl_84 {F : zFs} (h : zG F) : (F 84).2.1 = 1 := (h.1 (84, 20, 1) (List.mem_of_getElem? (i := 84) rfl)).2
theorem gk_85 {F : zFs} (h : zG F) : (F 85).1 = 20 := (h.1 (85, 20, 12) (List.mem_of_getElem? (i := 85) rfl)).1
theorem gl_85 {F : zFs} (h : zG F) : (F 85).2.1 = 12 := (h.1 (85, 20, 12) (List.mem_of_getElem? (i := 85) rfl)).2
theorem gk_86 {F : zFs} (h : zG F) : (F 86).1 = 6 := (h.1 (86, 6, 0) (List.mem_of_getElem? (i := 86) rfl)).1
theorem gk_87 {F : zFs} (h : zG F) : (F 87).1 = 21 := (h.1 (87, 21, 9) (List.mem_of_getElem? (i := 87) rfl)).1
theorem gl_87 {F : zFs} (h : zG F) : (F 87).2.1 = 9 := (h.1 (87, 21, 9) (List.mem_of_getElem? (i := 87) rfl)).2
theorem gk_88 {F : zFs} (h : zG F) : (F 88).1 = 21 := (h.1 (88, 21, 9) (List.mem_of_getElem? (i := 88) rfl)).1
theorem gl_88 {F : zFs} (h : zG F) : (F 88).2.1 = 9 := (h.1 (88, 21, 9) (List.mem_of_getElem? (i := 88) rfl)).2
theorem gk_89 {F : zFs} (h : zG F) : (F 89).1 = 9 := (h.1 (89, 9, 0) (List.mem_of_getElem? (i := 89) rfl)).1
theorem gk_90 {F : zFs} (h : zG F) : (F 90).1 = 20 := (h.1 (90, 20, 3) (List.mem_of_getElem? (i := 90) rfl)).1
theorem gl_90 {F : zFs} (h : zG F) : (F 90).2.1 = 3 := (h.1 (90, 20, 3) (List.mem_of_getElem? (i := 90) rfl)).2
theorem gk_91 {F : zFs} (h : zG F) : (F 91).1 = 13 := (h.1 (91, 13, 0) (List.mem_of_getElem? (i := 91) rfl)).1
theorem gk_92 {F : zFs} (h : zG F) : (F 92).1 = 20 := (h.1 (92, 20, 7) (List.mem_of_getElem? (i := 92) rfl)).1
theorem gl_92 {F : zFs} (h : zG F) : (F 92).2.1 = 7 := (h.1 (92, 20, 7) (List.mem_of_getElem? (i := 92) rfl)).2
theorem gk_93 {F : zFs} (h : zG F) : (F 93).1 = 20 := (h.1 (93, 20, 5201) (List.mem_of_getElem? (i := 93) rfl)).1
theorem gl_93 {F : zFs} (h : zG F) : (F 93).2.1 = 5201 := (h.1 (93, 20, 5201) (List.mem_of_getElem? (i := 93) rfl)).2
theorem gk_94 {F : zFs} (h : zG F) : (F 94).1 = 20 := (h.1 (94, 20, 10402) (List.mem_of_getElem? (i := 94) rfl)).1
theorem gl_94 {F : zFs} (h : zG F) : (F 94).2.1 = 10402 := (h.1 (94, 20, 10402) (List.mem_of_getElem? (i := 94) rfl)).2
theorem gk_95 {F : zFs} (h : zG F) : (F 95).1 = 23 := (h.1 (95, 23, 2) (List.mem_of_getElem? (i := 95) rfl)).1
theorem gl_95 {F : zFs} (h : zG F) : (F 95).2.1 = 2 := (h.1 (95, 23, 2) (List.mem_of_getElem? (i := 95) rfl)).2
theorem gk_96 {F : zFs} (h : zG F) : (F 96).1 = 22 := (h.1 (96, 22, 76) (List.mem_of_getElem? (i := 96) rfl)).1
theorem gl_96 {F : zFs} (h : zG F) : (F 96).2.1 = 76 := (h.1 (96, 22, 76) (List.mem_of_getElem? (i := 96) rfl)).2
theorem gk_97 {F : zFs} (h : zG F) : (F 97).1 = 22 := (h.1 (97, 22, 400) (List.mem_of_getElem? (i := 97) rfl)).1
theorem gl_97 {F : zFs} (h : zG F) : (F 97).2.1 = 400 := (h.1 (97, 22, 400) (List.mem_of_getElem? (i := 97) rfl)).2
theorem gk_98 {F : zFs} (h : zG F) : (F 98).1 = 20 := (h.1 (98, 20, 5) (List.mem_of_getElem? (i := 98) rfl)).1
theorem gl_98 {F : zFs} (h : zG F) : (F 98).2.1 = 5 := (h.1 (98, 20, 5) (List.mem_of_getElem? (i := 98) rfl)).2
theorem gk_99 {F : zFs} (h : zG F) : (F 99).1 = 20 := (h.1 (99, 20, 401) (List.mem_of_getElem? (i := 99) rfl)).1
theorem gl_99 {F : zFs} (h : zG F) : (F 99).2.1 = 401 := (h.1 (99, 20, 401) (List.mem_of_getElem? (i := 99) rfl)).2
theorem gk_100 {F : zFs} (h : zG F) : (F 100).1 = 20 := (h.1 (100, 20, 401) (List.mem_of_getElem? (i := 100) rfl)).1
theorem gl_100 {F : zFs} (h : zG F) : (F 100).2.1 = 401 := (h.1 (100, 20, 401) (List.mem_of_getElem? (i := 100) rfl)).2
theorem gk_101 {F : zFs} (h : zG F) : (F 101).1 = 20 := (h.1 (101, 20, 401) (List.mem_of_getElem? (i := 101) rfl)).1
theorem gl_101 {F : zFs} (h : zG F) : (F 101).2.1 = 401 := (h.1 (101, 20, 401) (List.mem_of_getElem? (i := 101) rfl)).2
theorem gk_102 {F : zFs} (h : zG F) : (F 102).1 = 20 := (h.1 (102, 20, 7) (List.mem_of_getElem? (i := 102) rfl)).1
theorem gl_102 {F : zFs} (h : zG F) : (F 102).2.1 = 7 := (h.1 (102, 20, 7) (List.mem_of_getElem? (i := 102) rfl)).2
theorem gk_103 {F : zFs} (h : zG F) : (F 103).1 = 20 := (h.1 (103, 20, 3) (List.mem_of_getElem? (i := 103) rfl)).1
theorem gl_103 {F : zFs} (h : zG F) : (F 103).2.1 = 3 := (h.1 (103, 20, 3) (List.mem_of_getElem? (i := 103) rfl)).2
theorem gk_104 {F : zFs} (h : zG F) : (F 104).1 = 20 := (h.1 (104, 20, 3) (List.mem_of_getElem? (i := 104) rfl)).1
theorem gl_104 {F : zFs} (h : zG F) : (F 104).2.1 = 3 := (h.1 (104, 20, 3) (List.mem_of_getElem? (i := 104) rfl)).2
theorem gk_105 {F : zFs} (h : zG F) : (F 105).1 = 20 := (h.1 (105, 20, 3) (List.mem_of_getElem? (i := 105) rfl)).1
theorem gl_105 {F : zFs} (h : zG F) : (F 105).2.1 = 3 := (h.1 (105, 20, 3) (List.mem_of_getElem? (i := 105) rfl)).2
theorem gk_106 {F : zFs} (h : zG F) : (F 106).1 = 20 := (h.1 (106, 20, 3) (List.mem_of_getElem? (i := 106) rfl)).1
theorem gl_106 {F : zFs} (h : zG F) : (F 106).2.1 = 3 := (h.1 (106, 20, 3) (List.mem_of_getElem? (i := 106) rfl)).2
theorem gk_107 {F : zFs} (h : zG F) : (F 107).1 = 21 := (h.1 (107, 21, 4) (List.mem_of_getElem? (i := 107) rfl)).1
theorem gl_107 {F : zFs} (h : zG F) : (F 107).2.1 = 4 := (h.1 (107, 21, 4) (List.mem_of_getElem? (i := 107) rfl)).2
theorem gk_108 {F : zFs} (h : zG F) : (F 108).1 = 21 := (h.1 (108, 21, 4) (List.mem_of_getElem? (i := 108) rfl)).1
theorem gl_108 {F : zFs} (h : zG F) : (F 108).2.1 = 4 := (h.1 (108, 21, 4) (List.mem_of_getElem? (i := 108) rfl)).2
theorem gk_109 {F : zFs} (h : zG F) : (F 109).1 = 20 := (h.1 (109, 20, 148176) (List.mem_of_getElem? (i := 109) rfl)).1
theorem gl_109 {F : zFs} (h : zG F) : (F 109).2.1 = 148176 := (h.1 (109, 20, 148176) (List.mem_of_getElem? (i := 109) rfl)).2
theorem gk_110 {F : zFs} (h : zG F) : (F 110).1 = 21 := (h.1 (110, 21, 441) (List.mem_of_getElem? (i := 110) rfl)).1
theorem gl_110 {F : zFs} (h : zG F) : (F 110).2.1 = 441 := (h.1 (110, 21, 441) (List.mem_of_getElem? (i := 110) rfl)).2
theorem gk_111 {F : zFs} (h : zG F) : (F 111).1 = 20 := (h.1 (111, 20, 80) (List.mem_of_getElem? (i := 111) rfl)).1
theorem gl_111 {F : zFs} (h : zG F) : (F 111).2.1 = 80 := (h.1 (111, 20, 80) (List.mem_of_getElem? (i := 111) rfl)).2
theorem gk_112 {F : zFs} (h : zG F) : (F 112).1 = 20 := (h.1 (112, 20, 20) (List.mem_of_getElem? (i := 112) rfl)).1
theorem gl_112 {F : zFs} (h : zG F) : (F 112).2.1 = 20 := (h.1 (112, 20, 20) (List.mem_of_getElem? (i := 112) rfl)).2
theorem gk_113 {F : zFs} (h : zG F) : (F 113).1 = 20 := (h.1 (113, 20, 400) (List.mem_of_getElem? (i := 113) rfl)).1
theorem gl_113 {F : zFs} (h : zG F) : (F 113).2.1 = 400 := (h.1 (113, 20, 400) (List.mem_of_getElem? (i := 113) rfl)).2
theorem gk_114 {F : zFs} (h : zG F) : (F 114).1 = 20 := (h.1 (114, 20, 20) (List.mem_of_getElem? (i := 114) rfl)).1
theorem gl_114 {F : zFs} (h : zG F) : (F 114).2.1 = 20 := (h.1 (114, 20, 20) (List.mem_of_getElem? (i := 114) rfl)).2
theorem gk_115 {F : zFs} (h : zG F) : (F 115).1 = 20 := (h.1 (115, 20, 20) (List.mem_of_getElem? (i := 115) rfl)).1
theorem gl_115 {F : zFs} (h : zG F) : (F 115).2.1 = 20 := (h.1 (115, 20, 20) (List.mem_of_getElem? (i := 115) rfl)).2
theorem gk_116 {F : zFs} (h : zG F) : (F 116).1 = 20 := (h.1 (116, 20, 20) (List.mem_of_getElem? (i := 116) rfl)).1
theorem gl_116 {F : zFs} (h : zG F) : (F 116).2.1 = 20 := (h.1 (116, 20, 20) (List.mem_of_getElem? (i := 116) rfl)).2
theorem gk_117 {F : zFs} (h : zG F) : (F 117).1 = 20 := (h.1 (117, 20, 40) (List.mem_of_getElem? (i := 117) rfl)).1
theorem gl_117 {F : zFs} (h : zG F) : (F 117).2.1 = 40 := (h.1 (117, 20, 40) (List.mem_of_getElem? (i := 117) rfl)).2
theorem gk_118 {F : zFs} (h : zG F) : (F 118).1 = 20 := (h.1 (118, 20, 20) (List.mem_of_getElem? (i := 118) rfl)).1
theorem gl_118 {F : zFs} (h : zG F) : (F 118).2.1 = 20 := (h.1 (118, 20, 20) (List.mem_of_getElem? (i := 118) rfl)).2
theorem gk_119 {F : zFs} (h : zG F) : (F 119).1 = 20 := (h.1 (119, 20, 3) (List.mem_of_getElem? (i := 119) rfl)).1
theorem gl_119 {F : zFs} (h : zG F) : (F 119).2.1 = 3 := (h.1 (119, 20, 3) (List.mem_of_getElem? (i := 119) rfl)).2
theorem gk_120 {F : zFs} (h : zG F) : (F 120).1 = 20 := (h.1 (120, 20, 12) (List.mem_of_getElem? (i := 120) rfl)).1
theorem gl_120 {F : zFs} (h : zG F) : (F 120).2.1 = 12 := (h.1 (120, 20, 12) (List.mem_of_getElem? (i := 120) rfl)).2
theorem gk_121 {F : zFs} (h : zG F) : (F 121).1 = 20 := (h.1 (121, 20, 12) (List.mem_of_getElem? (i := 121) rfl)).1
theorem gl_121 {F : zFs} (h : zG F) : (F 121).2.1 = 12 := (h.1 (121, 20, 12) (List.mem_of_getElem? (i := 121) rfl)).2
theorem gk_122 {F : zFs} (h : zG F) : (F 122).1 = 20 := (h.1 (122, 20, 12) (List.mem_of_getElem? (i := 122) rfl)).1
theorem gl_122 {F : zFs} (h : zG F) : (F 122).2.1 = 12 := (h.1 (122, 20, 12) (List.mem_of_getElem? (i := 122) rfl)).2
theorem gk_123 {F : zFs} (h : zG F) : (F 123).1 = 21 := (h.1 (123, 21, 12) (List.mem_of_getElem? (i := 123) rfl)).1
theorem gl_123 {F : zFs} (h : zG F) : (F 123).2.1 = 12 := (h.1 (123, 21, 12) (List.mem_of_getElem? (i := 123) rfl)).2
theorem gk_124 {F : zFs} (h : zG F) : (F 124).1 = 21 := (h.1 (124, 21, 12) (List.mem_of_getElem? (i := 124) rfl)).1
theorem gl_124 {F : zFs} (h : zG F) : (F 124).2.1 = 12 := (h.1 (124, 21, 12) (List.mem_of_getElem? (i := 124) rfl)).2
theorem gk_125 {F : zFs} (h : zG F) : (F 125).1 = 21 := (h.1 (125, 21, 12) (List.mem_of_getElem? (i := 125) rfl)).1
theorem gl_125 {F : zFs} (h : zG F) : (F 125).2.1 = 12 := (h.1 (125, 21, 12) (List.mem_of_getElem? (i := 125) rfl)).2
theorem gf_0_0 {F : zFs} (h : zG F) : (F 0).2.2 0 = ((1 : Nat) : Int) := h.2 (0, 0, 1) (List.mem_of_getElem? (i := 0) rfl)
theorem gf_0_1 {F : zFs} (h : zG F) : (F 0).2.2 1 = ((13 : Nat) : Int) := h.2 (0, 1, 13) (List.mem_of_getElem? (i := 1) rfl)
theorem gf_0_2 {F : zFs} (h : zG F) : (F 0).2.2 2 = ((38 : Nat) : Int) := h.2 (0, 2, 38) (List.mem_of_getElem? (i := 2) rfl)
theorem gf_0_3 {F : zFs} (h : zG F) : (F 0).2.2 3 = ((39 : Nat) : Int) := h.2 (0, 3, 39) (List.mem_of_getElem? (i := 3) rfl)
theorem gf_0_7 {F : zFs} (h : zG F) : (F 0).2.2 7 = ((40 : Nat) : Int) := h.2 (0, 7, 40) (List.mem_of_getElem? (i := 4) rfl)
theorem gf_0_8 {F : zFs} (h : zG F) : (F 0).2.2 8 = ((41 : Nat) : Int) := h.2 (0, 8, 41) (List.mem_of_getElem? (i := 5) rfl)
theorem gf_0_10 {F : zFs} (h : zG F) : (F 0).2.2 10 = ((42 : Nat) : Int) := h.2 (0, 10, 42) (List.mem_of_getElem? (i := 6) rfl)
theorem gf_0_11 {F : zFs} (h : zG F) : (F 0).2.2 11 = ((49 : Nat) : Int) := h.2 (0, 11, 49) (List.mem_of_getElem? (i := 7) rfl)
theorem gf_0_12 {F : zFs} (h : zG F) : (F 0).2.2 12 = ((52 : Nat) : Int) := h.2 (0, 12, 52) (List.mem_of_getElem? (i := 8) rfl)
theorem gf_0_13 {F : zFs} (h : zG F) : (F 0).2.2 13 = ((60 : Nat) : Int) := h.2 (0, 13, 60) (List.mem_of_getElem? (i := 9) rfl)
theorem gf_0_14 {F : zFs} (h : zG F) : (F 0).2.2 14 = ((71 : Nat) : Int) := h.2 (0, 14, 71) (List.mem_of_getElem? (i := 10) rfl)
theorem gf_0_15 {F : zFs} (h : zG F) : (F 0).2.2 15 = ((73 : Nat) : Int) := h.2 (0, 15, 73) (List.mem_of_getElem? (i := 11) rfl)
theorem gf_0_16 {F : zFs} (h : zG F) : (F 0).2.2 16 = ((78 : Nat) : Int) := h.2 (0, 16, 78) (List.mem_of_getElem? (i := 12) rfl)
theorem gf_0_17 {F : zFs} (h : zG F) : (F 0).2.2 17 = ((86 : Nat) : Int) := h.2 (0, 17, 86) (List.mem_of_getElem? (i := 13) rfl)
theorem gf_0_18 {F : zFs} (h : zG F) : (F 0).2.2 18 = ((89 : Nat) : Int) := h.2 (0, 18, 89) (List.mem_of_getElem? (i := 14) rfl)
theorem gf_1_0 {F : zFs} (h : zG F) : (F 1).2.2 0 = ((2 : Nat) : Int) := h.2 (1, 0, 2) (List.mem_of_getElem? (i := 15) rfl)
theorem gf_1_1 {F : zFs} (h : zG F) : (F 1).2.2 1 = ((3 : Nat) : Int) := h.2 (1, 1, 3) (List.mem_of_getElem? (i := 16) rfl)
theorem gf_1_2 {F : zFs} (h : zG F) : (F 1).2.2 2 = ((4 : Nat) : Int) := h.2 (1, 2, 4) (List.mem_of_getElem? (i := 17) rfl)
theorem gf_1_3 {F : zFs} (h : zG F) : (F 1).2.2 3 = ((5 : Nat) : Int) := h.2 (1, 3, 5) (List.mem_of_getElem? (i := 18) rfl)
theorem gf_1_4 {F : zFs} (h : zG F) : (F 1).2.2 4 = ((6 : Nat) : Int) := h.2 (1, 4, 6) (List.mem_of_getElem? (i := 19) rfl)
theorem gf_1_6 {F : zFs} (h : zG F) : (F 1).2.2 6 = ((7 : Nat) : Int) := h.2 (1, 6, 7) (List.mem_of_getElem? (i := 20) rfl)
theorem gf_1_7 {F : zFs} (h : zG F) : (F 1).2.2 7 = ((8 : Nat) : Int) := h.2 (1, 7, 8) (List.mem_of_getElem? (i := 21) rfl)
theorem gf_1_10 {F : zFs} (h : zG F) : (F 1).2.2 10 = ((9 : Nat) : Int) := h.2 (1, 10, 9) (List.mem_of_getElem? (i := 22) rfl)
theorem gf_1_11 {F : zFs} (h : zG F) : (F 1).2.2 11 = ((10 : Nat) : Int) := h.2 (1, 11, 10) (List.mem_of_getElem? (i := 23) rfl)
theorem gf_1_13 {F : zFs} (h : zG F) : (F 1).2.2 13 = ((11 : Nat) : Int) := h.2 (1, 13, 11) (List.mem_of_getElem? (i := 24) rfl)
theorem gf_1_14 {F : zFs} (h : zG F) : (F 1).2.2 14 = ((12 : Nat) : Int) := h.2 (1, 14, 12) (List.mem_of_getElem? (i := 25) rfl)
theorem gf_14_0 {F : zFs} (h : zG F) : (F 14).2.2 0 = ((15 : Nat) : Int) := h.2 (14, 0, 15) (List.mem_of_getElem? (i := 26) rfl)
theorem gf_14_1 {F : zFs} (h : zG F) : (F 14).2.2 1 = ((16 : Nat) : Int) := h.2 (14, 1, 16) (List.mem_of_getElem? (i := 27) rfl)
theorem gf_14_2 {F : zFs} (h : zG F) : (F 14).2.2 2 = ((17 : Nat) : Int) := h.2 (14, 2, 17) (List.mem_of_getElem? (i := 28) rfl)
theorem gf_14_3 {F : zFs} (h : zG F) : (F 14).2.2 3 = ((18 : Nat) : Int) := h.2 (14, 3, 18) (List.mem_of_getElem? (i := 29) rfl)
theorem gf_14_4 {F : zFs} (h : zG F) : (F 14).2.2 4 = ((19 : Nat) : Int) := h.2 (14, 4, 19) (List.mem_of_getElem? (i := 30) rfl)
theorem gf_14_6 {F : zFs} (h : zG F) : (F 14).2.2 6 = ((20 : Nat) : Int) := h.2 (14, 6, 20) (List.mem_of_getElem? (i := 31) rfl)
theorem gf_14_7 {F : zFs} (h : zG F) : (F 14).2.2 7 = ((21 : Nat) : Int) := h.2 (14, 7, 21) (List.mem_of_getElem? (i := 32) rfl)
theorem gf_14_10 {F : zFs} (h : zG F) : (F 14).2.2 10 = ((22 : Nat) : Int) := h.2 (14, 10, 22) (List.mem_of_getElem? (i := 33) rfl)
theorem gf_14_11 {F : zFs} (h : zG F) : (F 14).2.2 11 = ((23 : Nat) : Int) := h.2 (14, 11, 23) (List.mem_of_getElem? (i := 34) rfl)
theorem gf_14_13 {F : zFs} (h : zG F) : (F 14).2.2 13 = ((24 : Nat) : Int) := h.2 (14, 13, 24) (List.mem_of_getElem? (i := 35) rfl)
theorem gf_14_14 {F : zFs} (h : zG F) : (F 14).2.2 14 = ((25 : Nat) : Int) := h.2 (14, 14, 25) (List.mem_of_getElem? (i := 36) rfl)
theorem gf_26_0 {F : zFs} (h : zG F) : (F 26).2.2 0 = ((27 : Nat) : Int) := h.2 (26, 0, 27) (List.mem_of_getElem? (i := 37) rfl)
theorem gf_26_1 {F : zFs} (h : zG F) : (F 26).2.2 1 = ((28 : Nat) : Int) := h.2 (26, 1, 28) (List.mem_of_getElem? (i := 38) rfl)
theorem gf_26_2 {F : zFs} (h : zG F) : (F 26).2.2 2 = ((29 : Nat) : Int) := h.2 (26, 2, 29) (List.mem_of_getElem? (i := 39) rfl)
theorem gf_26_3 {F : zFs} (h : zG F) : (F 26).2.2 3 = ((30 : Nat) : Int) := h.2 (26, 3, 30) (List.mem_of_getElem? (i := 40) rfl)
theorem gf_26_4 {F : zFs} (h : zG F) : (F 26).2.2 4 = ((31 : Nat) : Int) := h.2 (26, 4, 31) (List.mem_of_getElem? (i := 41) rfl)
theorem gf_26_6 {F : zFs} (h : zG F) : (F 26).2.2 6 = ((32 : Nat) : Int) := h.2 (26, 6, 32) (List.mem_of_getElem? (i := 42) rfl)
theorem gf_26_7 {F : zFs} (h : zG F) : (F 26).2.2 7 = ((33 : Nat) : Int) := h.2 (26, 7, 33) (List.mem_of_getElem? (i := 43) rfl)
theorem gf_26_10 {F : zFs} (h : zG F) : (F 26).2.2 10 = ((34 : Nat) : Int) := h.2 (26, 10, 34) (List.mem_of_getElem? (i := 44) rfl)
theorem gf_26_11 {F : zFs} (h : zG F) : (F 26).2.2 11 = ((35 : Nat) : Int) := h.2 (26, 11, 35) (List.mem_of_getElem? (i := 45) rfl)
theorem gf_26_13 {F : zFs} (h : zG F) : (F 26).2.2 13 = ((36 : Nat) : Int) := h.2 (26, 13, 36) (List.mem_of_getElem? (i := 46) rfl)
theorem gf_26_14 {F : zFs} (h : zG F) : (F 26).2.2 14 = ((37 : Nat) : Int) := h.2 (26, 14, 37) (List.mem_of_getElem? (i := 47) rfl)
theorem gf_42_0 {F : zFs} (h : zG F) : (F 42).2.2 0 = ((43 : Nat) : Int) := h.2 (42, 0, 43) (List.mem_of_getElem? (i := 48) rfl)
theorem gf_42_1 {F : zFs} (h : zG F) : (F 42).2.2 1 = ((44 : Nat) : Int) := h.2 (42, 1, 44) (List.mem_of_getElem? (i := 49) rfl)
theorem gf_42_2 {F : zFs} (h : zG F) : (F 42).2.2 2 = ((45 : Nat) : Int) := h.2 (42, 2, 45) (List.mem_of_getElem? (i := 50) rfl)
theorem gf_42_6 {F : zFs} (h : zG F) : (F 42).2.2 6 = ((46 : Nat) : Int) := h.2 (42, 6, 46) (List.mem_of_getElem? (i := 51) rfl)
theorem gf_42_7 {F : zFs} (h : zG F) : (F 42).2.2 7 = ((47 : Nat) : Int) := h.2 (42, 7, 47) (List.mem_of_getElem? (i := 52) rfl)
theorem gf_42_8 {F : zFs} (h : zG F) : (F 42).2.2 8 = ((48 : Nat) : Int) := h.2 (42, 8, 48) (List.mem_of_getElem? (i := 53) rfl)
theorem gf_49_0 {F : zFs} (h : zG F) : (F 49).2.2 0 = ((1 : Nat) : Int) := h.2 (49, 0, 1) (List.mem_of_getElem? (i := 54) rfl)
theorem gf_49_1 {F : zFs} (h : zG F) : (F 49).2.2 1 = ((50 : Nat) : Int) := h.2 (49, 1, 50) (List.mem_of_getElem? (i := 55) rfl)
theorem gf_49_2 {F : zFs} (h : zG F) : (F 49).2.2 2 = ((51 : Nat) : Int) := h.2 (49, 2, 51) (List.mem_of_getElem? (i := 56) rfl)
theorem gf_52_0 {F : zFs} (h : zG F) : (F 52).2.2 0 = ((53 : Nat) : Int) := h.2 (52, 0, 53) (List.mem_of_getElem? (i := 57) rfl)
theorem gf_52_1 {F : zFs} (h : zG F) : (F 52).2.2 1 = ((54 : Nat) : Int) := h.2 (52, 1, 54) (List.mem_of_getElem? (i := 58) rfl)
theorem gf_52_2 {F : zFs} (h : zG F) : (F 52).2.2 2 = ((55 : Nat) : Int) := h.2 (52, 2, 55) (List.mem_of_getElem? (i := 59) rfl)
theorem gf_52_3 {F : zFs} (h : zG F) : (F 52).2.2 3 = ((56 : Nat) : Int) := h.2 (52, 3, 56) (List.mem_of_getElem? (i := 60) rfl)
theorem gf_52_4 {F : zFs} (h : zG F) : (F 52).2.2 4 = ((57 : Nat) : Int) := h.2 (52, 4, 57) (List.mem_of_getElem? (i := 61) rfl)
theorem gf_52_5 {F : zFs} (h : zG F) : (F 52).2.2 5 = ((58 : Nat) : Int) := h.2 (52, 5, 58) (List.mem_of_getElem? (i := 62) rfl)
theorem gf_52_6 {F : zFs} (h : zG F) : (F 52).2.2 6 = ((59 : Nat) : Int) := h.2 (52, 6, 59) (List.mem_of_getElem? (i := 63) rfl)
theorem gf_60_0 {F : zFs} (h : zG F) : (F 60).2.2 0 = ((1 : Nat) : Int) := h.2 (60, 0, 1) (List.mem_of_getElem? (i := 64) rfl)
theorem gf_60_1 {F : zFs} (h : zG F) : (F 60).2.2 1 = ((49 : Nat) : Int) := h.2 (60, 1, 49) (List.mem_of_getElem? (i := 65) rfl)
theorem gf_60_2 {F : zFs} (h : zG F) : (F 60).2.2 2 = ((52 : Nat) : Int) := h.2 (60, 2, 52) (List.mem_of_getElem? (i := 66) rfl)
theorem gf_60_6 {F : zFs} (h : zG F) : (F 60).2.2 6 = ((61 : Nat) : Int) := h.2 (60, 6, 61) (List.mem_of_getElem? (i := 67) rfl)
theorem gf_60_7 {F : zFs} (h : zG F) : (F 60).2.2 7 = ((62 : Nat) : Int) := h.2 (60, 7, 62) (List.mem_of_getElem? (i := 68) rfl)
theorem gf_60_8 {F : zFs} (h : zG F) : (F 60).2.2 8 = ((63 : Nat) : Int) := h.2 (60, 8, 63) (List.mem_of_getElem? (i := 69) rfl)
theorem gf_60_9 {F : zFs} (h : zG F) : (F 60).2.2 9 = ((64 : Nat) : Int) := h.2 (60, 9, 64) (List.mem_of_getElem? (i := 70) rfl)
theorem gf_60_10 {F : zFs} (h : zG F) : (F 60).2.2 10 = ((65 : Nat) : Int) := h.2 (60, 10, 65) (List.mem_of_getElem? (i := 71) rfl)
theorem gf_60_12 {F : zFs} (h : zG F) : (F 60).2.2 12 = ((67 : Nat) : Int) := h.2 (60, 12, 67) (List.mem_of_getElem? (i := 72) rfl)
theorem gf_60_13 {F : zFs} (h : zG F) : (F 60).2.2 13 = ((68 : Nat) : Int) := h.2 (60, 13, 68) (List.mem_of_getElem? (i := 73) rfl)
theorem gf_60_15 {F : zFs} (h : zG F) : (F 60).2.2 15 = ((69 : Nat) : Int) := h.2 (60, 15, 69) (List.mem_of_getElem? (i := 74) rfl)
theorem gf_60_16 {F : zFs} (h : zG F) : (F 60).2.2 16 = ((70 : Nat) : Int) := h.2 (60, 16, 70) (List.mem_of_getElem? (i := 75) rfl)
theorem gf_71_0 {F : zFs} (h : zG F) : (F 71).2.2 0 = ((60 : Nat) : Int) := h.2 (71, 0, 60) (List.mem_of_getElem? (i := 76) rfl)
theorem gf_71_1 {F : zFs} (h : zG F) : (F 71).2.2 1 = ((72 : Nat) : Int) := h.2 (71, 1, 72) (List.mem_of_getElem? (i := 77) rfl)
theorem gf_73_0 {F : zFs} (h : zG F) : (F 73).2.2 0 = ((1 : Nat) : Int) := h.2 (73, 0, 1) (List.mem_of_getElem? (i := 78) rfl)
theorem gf_73_1 {F : zFs} (h : zG F) : (F 73).2.2 1 = ((49 : Nat) : Int) := h.2 (73, 1, 49) (List.mem_of_getElem? (i := 79) rfl)
theorem gf_73_3 {F : zFs} (h : zG F) : (F 73).2.2 3 = ((74 : Nat) : Int) := h.2 (73, 3, 74) (List.mem_of_getElem? (i := 80) rfl)
theorem gf_73_4 {F : zFs} (h : zG F) : (F 73).2.2 4 = ((75 : Nat) : Int) := h.2 (73, 4, 75) (List.mem_of_getElem? (i := 81) rfl)
theorem gf_73_5 {F : zFs} (h : zG F) : (F 73).2.2 5 = ((76 : Nat) : Int) := h.2 (73, 5, 76) (List.mem_of_getElem? (i := 82) rfl)
theorem gf_73_6 {F : zFs} (h : zG F) : (F 73).2.2 6 = ((77 : Nat) : Int) := h.2 (73, 6, 77) (List.mem_of_getElem? (i := 83) rfl)
theorem gf_78_0 {F : zFs} (h : zG F) : (F 78).2.2 0 = ((1 : Nat) : Int) := h.2 (78, 0, 1) (List.mem_of_getElem? (i := 84) rfl)
theorem gf_78_1 {F : zFs} (h : zG F) : (F 78).2.2 1 = ((49 : Nat) : Int) := h.2 (78, 1, 49) (List.mem_of_getElem? (i := 85) rfl)
theorem gf_78_3 {F : zFs} (h : zG F) : (F 78).2.2 3 = ((79 : Nat) : Int) := h.2 (78, 3, 79) (List.mem_of_getElem? (i := 86) rfl)
theorem gf_78_5 {F : zFs} (h : zG F) : (F 78).2.2 5 = ((80 : Nat) : Int) := h.2 (78, 5, 80) (List.mem_of_getElem? (i := 87) rfl)
theorem gf_78_6 {F : zFs} (h : zG F) : (F 78).2.2 6 = ((81 : Nat) : Int) := h.2 (78, 6, 81) (List.mem_of_getElem? (i := 88) rfl)
theorem gf_78_7 {F : zFs} (h : zG F) : (F 78).2.2 7 = ((82 : Nat) : Int) := h.2 (78, 7, 82) (List.mem_of_getElem? (i := 89) rfl)
theorem gf_78_8 {F : zFs} (h : zG F) : (F 78).2.2 8 = ((83 : Nat) : Int) := h.2 (78, 8, 83) (List.mem_of_getElem? (i := 90) rfl)
theorem gf_78_10 {F : zFs} (h : zG F) : (F 78).2.2 10 = ((85 : Nat) : Int) := h.2 (78, 10, 85) (List.mem_of_getElem? (i := 91) rfl)
theorem gf_86_0 {F : zFs} (h : zG F) : (F 86).2.2 0 = ((87 : Nat) : Int) := h.2 (86, 0, 87) (List.mem_of_getElem? (i := 92) rfl)
theorem gf_86_1 {F : zFs} (h : zG F) : (F 86).2.2 1 = ((88 : Nat) : Int) := h.2 (86, 1, 88) (List.mem_of_getElem? (i := 93) rfl)
theorem gf_89_0 {F : zFs} (h : zG F) : (F 89).2.2 0 = ((1 : Nat) : Int) := h.2 (89, 0, 1) (List.mem_of_getElem? (i := 94) rfl)
theorem gf_89_1 {F : zFs} (h : zG F) : (F 89).2.2 1 = ((49 : Nat) : Int) := h.2 (89, 1, 49) (List.mem_of_getElem? (i := 95) rfl)
theorem gf_89_2 {F : zFs} (h : zG F) : (F 89).2.2 2 = ((90 : Nat) : Int) := h.2 (89, 2, 90) (List.mem_of_getElem? (i := 96) rfl)
theorem gf_91_2 {F : zFs} (h : zG F) : (F 91).2.2 2 = ((92 : Nat) : Int) := h.2 (91, 2, 92) (List.mem_of_getElem? (i := 97) rfl)
theorem gf_91_3 {F : zFs} (h : zG F) : (F 91).2.2 3 = ((93 : Nat) : Int) := h.2 (91, 3, 93) (List.mem_of_getElem? (i := 98) rfl)
theorem gf_91_4 {F : zFs} (h : zG F) : (F 91).2.2 4 = ((94 : Nat) : Int) := h.2 (91, 4, 94) (List.mem_of_getElem? (i := 99) rfl)
theorem gf_91_5 {F : zFs} (h : zG F) : (F 91).2.2 5 = ((95 : Nat) : Int) := h.2 (91, 5, 95) (List.mem_of_getElem? (i := 100) rfl)
theorem gf_91_6 {F : zFs} (h : zG F) : (F 91).2.2 6 = ((96 : Nat) : Int) := h.2 (91, 6, 96) (List.mem_of_getElem? (i := 101) rfl)
theorem gf_91_7 {F : zFs} (h : zG F) : (F 91).2.2 7 = ((97 : Nat) : Int) := h.2 (91, 7, 97) (List.mem_of_getElem? (i := 102) rfl)
theorem gf_91_8 {F : zFs} (h : zG F) : (F 91).2.2 8 = ((98 : Nat) : Int) := h.2 (91, 8, 98) (List.mem_of_getElem? (i := 103) rfl)
theorem gf_91_11 {F : zFs} (h : zG F) : (F 91).2.2 11 = ((99 : Nat) : Int) := h.2 (91, 11, 99) (List.mem_of_getElem? (i := 104) rfl)
theorem gf_91_12 {F : zFs} (h : zG F) : (F 91).2.2 12 = ((100 : Nat) : Int) := h.2 (91, 12, 100) (List.mem_of_getElem? (i := 105) rfl)
theorem gf_91_13 {F : zFs} (h : zG F) : (F 91).2.2 13 = ((101 : Nat) : Int) := h.2 (91, 13, 101) (List.mem_of_getElem? (i := 106) rfl)
theorem gf_91_21 {F : zFs} (h : zG F) : (F 91).2.2 21 = ((102 : Nat) : Int) := h.2 (91, 21, 102) (List.mem_of_getElem? (i := 107) rfl)
theorem gf_91_22 {F : zFs} (h : zG F) : (F 91).2.2 22 = ((103 : Nat) : Int) := h.2 (91, 22, 103) (List.mem_of_getElem? (i := 108) rfl)
theorem gf_91_23 {F : zFs} (h : zG F) : (F 91).2.2 23 = ((104 : Nat) : Int) := h.2 (91, 23, 104) (List.mem_of_getElem? (i := 109) rfl)
theorem gf_91_24 {F : zFs} (h : zG F) : (F 91).2.2 24 = ((105 : Nat) : Int) := h.2 (91, 24, 105) (List.mem_of_getElem? (i := 110) rfl)
theorem gf_91_25 {F : zFs} (h : zG F) : (F 91).2.2 25 = ((106 : Nat) : Int) := h.2 (91, 25, 106) (List.mem_of_getElem? (i := 111) rfl)
theorem gf_91_26 {F : zFs} (h : zG F) : (F 91).2.2 26 = ((107 : Nat) : Int) := h.2 (91, 26, 107) (List.mem_of_getElem? (i := 112) rfl)
theorem gf_91_27 {F : zFs} (h : zG F) : (F 91).2.2 27 = ((108 : Nat) : Int) := h.2 (91, 27, 108) (List.mem_of_getElem? (i := 113) rfl)
theorem gf_91_31 {F : zFs} (h : zG F) : (F 91).2.2 31 = ((109 : Nat) : Int) := h.2 (91, 31, 109) (List.mem_of_getElem? (i := 114) rfl)
theorem gf_91_32 {F : zFs} (h : zG F) : (F 91).2.2 32 = ((110 : Nat) : Int) := h.2 (91, 32, 110) (List.mem_of_getElem? (i := 115) rfl)
theorem gf_91_33 {F : zFs} (h : zG F) : (F 91).2.2 33 = ((111 : Nat) : Int) := h.2 (91, 33, 111) (List.mem_of_getElem? (i := 116) rfl)
theorem gf_91_38 {F : zFs} (h : zG F) : (F 91).2.2 38 = ((112 : Nat) : Int) := h.2 (91, 38, 112) (List.mem_of_getElem? (i := 117) rfl)
theorem gf_91_39 {F : zFs} (h : zG F) : (F 91).2.2 39 = ((113 : Nat) : Int) := h.2 (91, 39, 113) (List.mem_of_getElem? (i := 118) rfl)
theorem gf_91_40 {F : zFs} (h : zG F) : (F 91).2.2 40 = ((114 : Nat) : Int) := h.2 (91, 40, 114) (List.mem_of_getElem? (i := 119) rfl)
theorem gf_91_41 {F : zFs} (h : zG F) : (F 91).2.2 41 = ((115 : Nat) : Int) := h.2 (91, 41, 115) (List.mem_of_getElem? (i := 120) rfl)
theorem gf_91_42 {F : zFs} (h : zG F) : (F 91).2.2 42 = ((116 : Nat) : Int) := h.2 (91, 42, 116) (List.mem_of_getElem? (i := 121) rfl)
theorem gf_91_46 {F : zFs} (h : zG F) : (F 91).2.2 46 = ((117 : Nat) : Int) := h.2 (91, 46, 117) (List.mem_of_getElem? (i := 122) rfl)
theorem gf_91_47 {F : zFs} (h : zG F) : (F 91).2.2 47 = ((118 : Nat) : Int) := h.2 (91, 47, 118) (List.mem_of_getElem? (i := 123) rfl)
theorem gf_91_52 {F : zFs} (h : zG F) : (F 91).2.2 52 = ((119 : Nat) : Int) := h.2 (91, 52, 119) (List.mem_of_getElem? (i := 124) rfl)
theorem gf_91_53 {F : zFs} (h : zG F) : (F 91).2.2 53 = ((120 : Nat) : Int) := h.2 (91, 53, 120) (List.mem_of_getElem? (i := 125) rfl)
theorem gf_91_54 {F : zFs} (h : zG F) : (F 91).2.2 54 = ((121 : Nat) : Int) := h.2 (91, 54, 121) (List.mem_of_getElem? (i := 126) rfl)
theorem gf_91_55 {F : zFs} (h : zG F) : (F 91).2.2 55 = ((122 : Nat) : Int) := h.2 (91, 55, 122) (List.mem_of_getElem? (i := 127) rfl)
theorem gf_91_60 {F : zFs} (h : zG F) : (F 91).2.2 60 = ((123 : Nat) : Int) := h.2 (91, 60, 123) (List.mem_of_getElem? (i := 128) rfl)
theorem gf_91_61 {F : zFs} (h : zG F) : (F 91).2.2 61 = ((124 : Nat) : Int) := h.2 (91, 61, 124) (List.mem_of_getElem? (i := 129) rfl)
theorem gf_91_62 {F : zFs} (h : zG F) : (F 91).2.2 62 = ((125 : Nat) : Int) := h.2 (91, 62, 125) (List.mem_of_getElem? (i := 130) rfl)
theorem gl_in {F : zFs} {a L : Nat} {j : Int} (e : (F a).2.1 = L) (h : 0 ≤ j ∧ j < (L : Int)) : 0 ≤ j ∧ j < ((F a).2.1 : Int) := by rw [e]; exact h
theorem zgv {F : zFs} {D : zDa} {c k a b : Nat} (hf : (ztb c k).2.2.2 = true) (ht : (∃ u, zty c k = .array u) ∨ ∃ u, zty c k = .object u) (h : (F a).2.2 k = (b : Int)) : zdec (zty c k) (zfv F D a c k) = zR b := zdec_ref (by unfold zfv; rw [if_pos hf]; exact h) ht
theorem zq_cat (z : Int) : zcat (zq z) = 1 := rfl
def zTLf (k : Nat) : Int := zTL.getD k 0
def zTMf (k : Nat) : Int := zTM.getD k 0
def zTFf (k : Nat) : Int := zTF.getD k 0
theorem pk_ncz (a : Int) : zretok (some .char) (some (zI (zi2c a))) := by
  show narrow .char (.int (Int32.ofInt (zi2c a))) = .int (Int32.ofInt (zi2c a))
  unfold zi2c; rw [Int32.ofInt_toInt]; exact pk_nc _
theorem zretok_c {z : Int} (h : 0 ≤ z ∧ z ≤ 65535) : zretok (some .char) (some (zI z)) := by
  obtain ⟨q, rfl⟩ := Int.eq_ofNat_of_zero_le h.1
  show narrow .char (.int (Int32.ofInt (q : Int))) = .int (Int32.ofInt (q : Int))
  rw [Int32.ofInt_eq_ofNat]; exact (pk_charN (q := q) (by omega)).1
section ZK
variable {α : Type} {l : Launch} {E : zE} {d : Nat} {Y : zY} {pc : Nat} {ls : zLs} {st : List zV} {F : zFs} {D : zDa} {n sl : Nat} {cv : α → zRes} {x : Option α}
theorem gt0 {k j a : Nat} {v : zV} (hi : decode Y.2.1 pc = .ok (.getfield j, 3)) (hw : Cond.fieldLink Y.1.cls j (TX0 k).1 (TX0 k).2.1 (TX0 k).2.2.1 ∈ zgood) (hk : k < 7) (ha : (F a).1 = 1) (hv : zdec (tyX0 k) (zfv F D a 0 k) = v) (kk : zO l E d Y (pc + 3) ls (v :: st) (F, D, n, sl) cv x) : zO l E d Y pc ls (zR a :: st) (F, D, n, sl) cv x := zO_get (c := 0) (C := RX0) hi hw rfl inX0 hk (by decide) ha hv kk
theorem pt0 {k j a : Nat} {v : zV} {z : Int} (hi : decode Y.2.1 pc = .ok (.putfield j, 3)) (hw : Cond.fieldLink Y.1.cls j (TX0 k).1 (TX0 k).2.1 (TX0 k).2.2.1 ∈ zgood) (hk : k < 7) (hf : (TX0 k).2.2.2 = false) (ha : (F a).1 = 1) (hv : v = zdec (tyX0 k) z) (hz : zfok (tyX0 k) z) (kk : zO l E d Y (pc + 3) ls st (F, zwr D a k z, n, sl) cv x) : zO l E d Y pc ls (v :: zR a :: st) (F, D, n, sl) cv x := zO_put (c := 0) (C := RX0) hi hw rfl inX0 tyX0_ok nmX0 hk (by decide) hf ha hv hz kk
theorem ptI0 {k j a : Nat} {z : Int} (hi : decode Y.2.1 pc = .ok (.putfield j, 3)) (hw : Cond.fieldLink Y.1.cls j (TX0 k).1 (TX0 k).2.1 (TX0 k).2.2.1 ∈ zgood) (hk : k < 7) (hf : (TX0 k).2.2.2 = false) (ha : (F a).1 = 1) (ht : tyX0 k = .int) (kk : zO l E d Y (pc + 3) ls st (F, zwr D a k z, n, sl) cv x) : zO l E d Y pc ls (zI z :: zR a :: st) (F, D, n, sl) cv x := by
  by_cases hz : -2147483648 ≤ z ∧ z ≤ 2147483647
  · exact pt0 hi hw hk hf ha (by rw [ht]; rfl) (by rw [ht]; exact hz) kk
  · intro r hr
    obtain ⟨hm, -⟩ := kk r hr
    exact ⟨hm, fun hok => absurd hok.hd hz⟩
theorem ptJ0 {k j a : Nat} {z : Int} (hi : decode Y.2.1 pc = .ok (.putfield j, 3)) (hw : Cond.fieldLink Y.1.cls j (TX0 k).1 (TX0 k).2.1 (TX0 k).2.2.1 ∈ zgood) (hk : k < 7) (hf : (TX0 k).2.2.2 = false) (ha : (F a).1 = 1) (ht : tyX0 k = .long) (kk : zO l E d Y (pc + 3) ls st (F, zwr D a k z, n, sl) cv x) : zO l E d Y pc ls (zL z :: zR a :: st) (F, D, n, sl) cv x := by
  by_cases hz : -9223372036854775808 ≤ z ∧ z ≤ 9223372036854775807
  · exact pt0 hi hw hk hf ha (by rw [ht]; rfl) (by rw [ht]; exact hz) kk
  · intro r hr
    obtain ⟨hm, -⟩ := kk r hr
    exact ⟨hm, fun hok => absurd hok.hd hz⟩
theorem gt1 {k j a : Nat} {v : zV} (hi : decode Y.2.1 pc = .ok (.getfield j, 3)) (hw : Cond.fieldLink Y.1.cls j (TX1 k).1 (TX1 k).2.1 (TX1 k).2.2.1 ∈ zgood) (hk : k < 10) (ha : (F a).1 = 2) (hv : zdec (tyX1 k) (zfv F D a 1 k) = v) (kk : zO l E d Y (pc + 3) ls (v :: st) (F, D, n, sl) cv x) : zO l E d Y pc ls (zR a :: st) (F, D, n, sl) cv x := zO_get (c := 1) (C := RX1) hi hw rfl inX1 hk (by decide) ha hv kk
theorem pt1 {k j a : Nat} {v : zV} {z : Int} (hi : decode Y.2.1 pc = .ok (.putfield j, 3)) (hw : Cond.fieldLink Y.1.cls j (TX1 k).1 (TX1 k).2.1 (TX1 k).2.2.1 ∈ zgood) (hk : k < 10) (hf : (TX1 k).2.2.2 = false) (ha : (F a).1 = 2) (hv : v = zdec (tyX1 k) z) (hz : zfok (tyX1 k) z) (kk : zO l E d Y (pc + 3) ls st (F, zwr D a k z, n, sl) cv x) : zO l E d Y pc ls (v :: zR a :: st) (F, D, n, sl) cv x := zO_put (c := 1) (C := RX1) hi hw rfl inX1 tyX1_ok nmX1 hk (by decide) hf ha hv hz kk
theorem ptI1 {k j a : Nat} {z : Int} (hi : decode Y.2.1 pc = .ok (.putfield j, 3)) (hw : Cond.fieldLink Y.1.cls j (TX1 k).1 (TX1 k).2.1 (TX1 k).2.2.1 ∈ zgood) (hk : k < 10) (hf : (TX1 k).2.2.2 = false) (ha : (F a).1 = 2) (ht : tyX1 k = .int) (kk : zO l E d Y (pc + 3) ls st (F, zwr D a k z, n, sl) cv x) : zO l E d Y pc ls (zI z :: zR a :: st) (F, D, n, sl) cv x := by
  by_cases hz : -2147483648 ≤ z ∧ z ≤ 2147483647
  · exact pt1 hi hw hk hf ha (by rw [ht]; rfl) (by rw [ht]; exact hz) kk
  · intro r hr
    obtain ⟨hm, -⟩ := kk r hr
    exact ⟨hm, fun hok => absurd hok.hd hz⟩
theorem ptJ1 {k j a : Nat} {z : Int} (hi : decode Y.2.1 pc = .ok (.putfield j, 3)) (hw : Cond.fieldLink Y.1.cls j (TX1 k).1 (TX1 k).2.1 (TX1 k).2.2.1 ∈ zgood) (hk : k < 10) (hf : (TX1 k).2.2.2 = false) (ha : (F a).1 = 2) (ht : tyX1 k = .long) (kk : zO l E d Y (pc + 3) ls st (F, zwr D a k z, n, sl) cv x) : zO l E d Y pc ls (zL z :: zR a :: st) (F, D, n, sl) cv x := by
  by_cases hz : -9223372036854775808 ≤ z ∧ z ≤ 9223372036854775807
  · exact pt1 hi hw hk hf ha (by rw [ht]; rfl) (by rw [ht]; exact hz) kk
  · intro r hr
    obtain ⟨hm, -⟩ := kk r hr
    exact ⟨hm, fun hok => absurd hok.hd hz⟩
theorem gt2 {k j a : Nat} {v : zV} (hi : decode Y.2.1 pc = .ok (.getfield j, 3)) (hw : Cond.fieldLink Y.1.cls j (TX2 k).1 (TX2 k).2.1 (TX2 k).2.2.1 ∈ zgood) (hk : k < 8) (ha : (F a).1 = 3) (hv : zdec (tyX2 k) (zfv F D a 2 k) = v) (kk : zO l E d Y (pc + 3) ls (v :: st) (F, D, n, sl) cv x) : zO l E d Y pc ls (zR a :: st) (F, D, n, sl) cv x := zO_get (c := 2) (C := RX2) hi hw rfl inX2 hk (by decide) ha hv kk
theorem pt2 {k j a : Nat} {v : zV} {z : Int} (hi : decode Y.2.1 pc = .ok (.putfield j, 3)) (hw : Cond.fieldLink Y.1.cls j (TX2 k).1 (TX2 k).2.1 (TX2 k).2.2.1 ∈ zgood) (hk : k < 8) (hf : (TX2 k).2.2.2 = false) (ha : (F a).1 = 3) (hv : v = zdec (tyX2 k) z) (hz : zfok (tyX2 k) z) (kk : zO l E d Y (pc + 3) ls st (F, zwr D a k z, n, sl) cv x) : zO l E d Y pc ls (v :: zR a :: st) (F, D, n, sl) cv x := zO_put (c := 2) (C := RX2) hi hw rfl inX2 tyX2_ok nmX2 hk (by decide) hf ha hv hz kk
theorem ptI2 {k j a : Nat} {z : Int} (hi : decode Y.2.1 pc = .ok (.putfield j, 3)) (hw : Cond.fieldLink Y.1.cls j (TX2 k).1 (TX2 k).2.1 (TX2 k).2.2.1 ∈ zgood) (hk : k < 8) (hf : (TX2 k).2.2.2 = false) (ha : (F a).1 = 3) (ht : tyX2 k = .int) (kk : zO l E d Y (pc + 3) ls st (F, zwr D a k z, n, sl) cv x) : zO l E d Y pc ls (zI z :: zR a :: st) (F, D, n, sl) cv x := by
  by_cases hz : -2147483648 ≤ z ∧ z ≤ 2147483647
  · exact pt2 hi hw hk hf ha (by rw [ht]; rfl) (by rw [ht]; exact hz) kk
  · intro r hr
    obtain ⟨hm, -⟩ := kk r hr
    exact ⟨hm, fun hok => absurd hok.hd hz⟩
theorem ptJ2 {k j a : Nat} {z : Int} (hi : decode Y.2.1 pc = .ok (.putfield j, 3)) (hw : Cond.fieldLink Y.1.cls j (TX2 k).1 (TX2 k).2.1 (TX2 k).2.2.1 ∈ zgood) (hk : k < 8) (hf : (TX2 k).2.2.2 = false) (ha : (F a).1 = 3) (ht : tyX2 k = .long) (kk : zO l E d Y (pc + 3) ls st (F, zwr D a k z, n, sl) cv x) : zO l E d Y pc ls (zL z :: zR a :: st) (F, D, n, sl) cv x := by
  by_cases hz : -9223372036854775808 ≤ z ∧ z ≤ 9223372036854775807
  · exact pt2 hi hw hk hf ha (by rw [ht]; rfl) (by rw [ht]; exact hz) kk
  · intro r hr
    obtain ⟨hm, -⟩ := kk r hr
    exact ⟨hm, fun hok => absurd hok.hd hz⟩
theorem gt3 {k j a : Nat} {v : zV} (hi : decode Y.2.1 pc = .ok (.getfield j, 3)) (hw : Cond.fieldLink Y.1.cls j (TX3 k).1 (TX3 k).2.1 (TX3 k).2.2.1 ∈ zgood) (hk : k < 4) (ha : (F a).1 = 4) (hv : zdec (tyX3 k) (zfv F D a 3 k) = v) (kk : zO l E d Y (pc + 3) ls (v :: st) (F, D, n, sl) cv x) : zO l E d Y pc ls (zR a :: st) (F, D, n, sl) cv x := zO_get (c := 3) (C := RX3) hi hw rfl inX3 hk (by decide) ha hv kk
theorem pt3 {k j a : Nat} {v : zV} {z : Int} (hi : decode Y.2.1 pc = .ok (.putfield j, 3)) (hw : Cond.fieldLink Y.1.cls j (TX3 k).1 (TX3 k).2.1 (TX3 k).2.2.1 ∈ zgood) (hk : k < 4) (hf : (TX3 k).2.2.2 = false) (ha : (F a).1 = 4) (hv : v = zdec (tyX3 k) z) (hz : zfok (tyX3 k) z) (kk : zO l E d Y (pc + 3) ls st (F, zwr D a k z, n, sl) cv x) : zO l E d Y pc ls (v :: zR a :: st) (F, D, n, sl) cv x := zO_put (c := 3) (C := RX3) hi hw rfl inX3 tyX3_ok nmX3 hk (by decide) hf ha hv hz kk
theorem ptI3 {k j a : Nat} {z : Int} (hi : decode Y.2.1 pc = .ok (.putfield j, 3)) (hw : Cond.fieldLink Y.1.cls j (TX3 k).1 (TX3 k).2.1 (TX3 k).2.2.1 ∈ zgood) (hk : k < 4) (hf : (TX3 k).2.2.2 = false) (ha : (F a).1 = 4) (ht : tyX3 k = .int) (kk : zO l E d Y (pc + 3) ls st (F, zwr D a k z, n, sl) cv x) : zO l E d Y pc ls (zI z :: zR a :: st) (F, D, n, sl) cv x := by
  by_cases hz : -2147483648 ≤ z ∧ z ≤ 2147483647
  · exact pt3 hi hw hk hf ha (by rw [ht]; rfl) (by rw [ht]; exact hz) kk
  · intro r hr
    obtain ⟨hm, -⟩ := kk r hr
    exact ⟨hm, fun hok => absurd hok.hd hz⟩
theorem ptJ3 {k j a : Nat} {z : Int} (hi : decode Y.2.1 pc = .ok (.putfield j, 3)) (hw : Cond.fieldLink Y.1.cls j (TX3 k).1 (TX3 k).2.1 (TX3 k).2.2.1 ∈ zgood) (hk : k < 4) (hf : (TX3 k).2.2.2 = false) (ha : (F a).1 = 4) (ht : tyX3 k = .long) (kk : zO l E d Y (pc + 3) ls st (F, zwr D a k z, n, sl) cv x) : zO l E d Y pc ls (zL z :: zR a :: st) (F, D, n, sl) cv x := by
  by_cases hz : -9223372036854775808 ≤ z ∧ z ≤ 9223372036854775807
  · exact pt3 hi hw hk hf ha (by rw [ht]; rfl) (by rw [ht]; exact hz) kk
  · intro r hr
    obtain ⟨hm, -⟩ := kk r hr
    exact ⟨hm, fun hok => absurd hok.hd hz⟩
theorem nw3 {j : Nat} (hi : decode Y.2.1 pc = .ok (.new j, 3)) (hw : Cond.classLink Y.1.cls j "ExamSlips$Paper" ∈ zgood) (hn9 : n < 900000) (k : zO l E d Y (pc + 3) ls (zR n :: st) (znew F n (4, 0, zdf 3), zrow D n (zdf 3), n + 1, sl + 4) cv x) : zO l E d Y pc ls st (F, D, n, sl) cv x := zO_newo (c := 3) (C := RX3) hi hw wT_X3 wN_X3 rfl inX3 tyX3_ok (by decide) (by intro k hk; have h9 : k < 4 := hk; rcases (show k = 0 ∨ k = 1 ∨ k = 2 ∨ k = 3 by omega) with rfl | rfl | rfl | rfl <;> simp [zty, tyX3]) hn9 k
theorem gt4 {k j a : Nat} {v : zV} (hi : decode Y.2.1 pc = .ok (.getfield j, 3)) (hw : Cond.fieldLink Y.1.cls j (TX4 k).1 (TX4 k).2.1 (TX4 k).2.2.1 ∈ zgood) (hk : k < 20) (ha : (F a).1 = 5) (hv : zdec (tyX4 k) (zfv F D a 4 k) = v) (kk : zO l E d Y (pc + 3) ls (v :: st) (F, D, n, sl) cv x) : zO l E d Y pc ls (zR a :: st) (F, D, n, sl) cv x := zO_get (c := 4) (C := RX4) hi hw rfl inX4 hk (by decide) ha hv kk
theorem pt4 {k j a : Nat} {v : zV} {z : Int} (hi : decode Y.2.1 pc = .ok (.putfield j, 3)) (hw : Cond.fieldLink Y.1.cls j (TX4 k).1 (TX4 k).2.1 (TX4 k).2.2.1 ∈ zgood) (hk : k < 20) (hf : (TX4 k).2.2.2 = false) (ha : (F a).1 = 5) (hv : v = zdec (tyX4 k) z) (hz : zfok (tyX4 k) z) (kk : zO l E d Y (pc + 3) ls st (F, zwr D a k z, n, sl) cv x) : zO l E d Y pc ls (v :: zR a :: st) (F, D, n, sl) cv x := zO_put (c := 4) (C := RX4) hi hw rfl inX4 tyX4_ok nmX4 hk (by decide) hf ha hv hz kk
theorem ptI4 {k j a : Nat} {z : Int} (hi : decode Y.2.1 pc = .ok (.putfield j, 3)) (hw : Cond.fieldLink Y.1.cls j (TX4 k).1 (TX4 k).2.1 (TX4 k).2.2.1 ∈ zgood) (hk : k < 20) (hf : (TX4 k).2.2.2 = false) (ha : (F a).1 = 5) (ht : tyX4 k = .int) (kk : zO l E d Y (pc + 3) ls st (F, zwr D a k z, n, sl) cv x) : zO l E d Y pc ls (zI z :: zR a :: st) (F, D, n, sl) cv x := by
  by_cases hz : -2147483648 ≤ z ∧ z ≤ 2147483647
  · exact pt4 hi hw hk hf ha (by rw [ht]; rfl) (by rw [ht]; exact hz) kk
  · intro r hr
    obtain ⟨hm, -⟩ := kk r hr
    exact ⟨hm, fun hok => absurd hok.hd hz⟩
theorem ptJ4 {k j a : Nat} {z : Int} (hi : decode Y.2.1 pc = .ok (.putfield j, 3)) (hw : Cond.fieldLink Y.1.cls j (TX4 k).1 (TX4 k).2.1 (TX4 k).2.2.1 ∈ zgood) (hk : k < 20) (hf : (TX4 k).2.2.2 = false) (ha : (F a).1 = 5) (ht : tyX4 k = .long) (kk : zO l E d Y (pc + 3) ls st (F, zwr D a k z, n, sl) cv x) : zO l E d Y pc ls (zL z :: zR a :: st) (F, D, n, sl) cv x := by
  by_cases hz : -9223372036854775808 ≤ z ∧ z ≤ 9223372036854775807
  · exact pt4 hi hw hk hf ha (by rw [ht]; rfl) (by rw [ht]; exact hz) kk
  · intro r hr
    obtain ⟨hm, -⟩ := kk r hr
    exact ⟨hm, fun hok => absurd hok.hd hz⟩
theorem gt5 {k j a : Nat} {v : zV} (hi : decode Y.2.1 pc = .ok (.getfield j, 3)) (hw : Cond.fieldLink Y.1.cls j (TX5 k).1 (TX5 k).2.1 (TX5 k).2.2.1 ∈ zgood) (hk : k < 2) (ha : (F a).1 = 6) (hv : zdec (tyX5 k) (zfv F D a 5 k) = v) (kk : zO l E d Y (pc + 3) ls (v :: st) (F, D, n, sl) cv x) : zO l E d Y pc ls (zR a :: st) (F, D, n, sl) cv x := zO_get (c := 5) (C := RX5) hi hw rfl inX5 hk (by decide) ha hv kk
theorem pt5 {k j a : Nat} {v : zV} {z : Int} (hi : decode Y.2.1 pc = .ok (.putfield j, 3)) (hw : Cond.fieldLink Y.1.cls j (TX5 k).1 (TX5 k).2.1 (TX5 k).2.2.1 ∈ zgood) (hk : k < 2) (hf : (TX5 k).2.2.2 = false) (ha : (F a).1 = 6) (hv : v = zdec (tyX5 k) z) (hz : zfok (tyX5 k) z) (kk : zO l E d Y (pc + 3) ls st (F, zwr D a k z, n, sl) cv x) : zO l E d Y pc ls (v :: zR a :: st) (F, D, n, sl) cv x := zO_put (c := 5) (C := RX5) hi hw rfl inX5 tyX5_ok nmX5 hk (by decide) hf ha hv hz kk
theorem ptI5 {k j a : Nat} {z : Int} (hi : decode Y.2.1 pc = .ok (.putfield j, 3)) (hw : Cond.fieldLink Y.1.cls j (TX5 k).1 (TX5 k).2.1 (TX5 k).2.2.1 ∈ zgood) (hk : k < 2) (hf : (TX5 k).2.2.2 = false) (ha : (F a).1 = 6) (ht : tyX5 k = .int) (kk : zO l E d Y (pc + 3) ls st (F, zwr D a k z, n, sl) cv x) : zO l E d Y pc ls (zI z :: zR a :: st) (F, D, n, sl) cv x := by
  by_cases hz : -2147483648 ≤ z ∧ z ≤ 2147483647
  · exact pt5 hi hw hk hf ha (by rw [ht]; rfl) (by rw [ht]; exact hz) kk
  · intro r hr
    obtain ⟨hm, -⟩ := kk r hr
    exact ⟨hm, fun hok => absurd hok.hd hz⟩
theorem ptJ5 {k j a : Nat} {z : Int} (hi : decode Y.2.1 pc = .ok (.putfield j, 3)) (hw : Cond.fieldLink Y.1.cls j (TX5 k).1 (TX5 k).2.1 (TX5 k).2.2.1 ∈ zgood) (hk : k < 2) (hf : (TX5 k).2.2.2 = false) (ha : (F a).1 = 6) (ht : tyX5 k = .long) (kk : zO l E d Y (pc + 3) ls st (F, zwr D a k z, n, sl) cv x) : zO l E d Y pc ls (zL z :: zR a :: st) (F, D, n, sl) cv x := by
  by_cases hz : -9223372036854775808 ≤ z ∧ z ≤ 9223372036854775807
  · exact pt5 hi hw hk hf ha (by rw [ht]; rfl) (by rw [ht]; exact hz) kk
  · intro r hr
    obtain ⟨hm, -⟩ := kk r hr
    exact ⟨hm, fun hok => absurd hok.hd hz⟩
theorem gt6 {k j a : Nat} {v : zV} (hi : decode Y.2.1 pc = .ok (.getfield j, 3)) (hw : Cond.fieldLink Y.1.cls j (TX6 k).1 (TX6 k).2.1 (TX6 k).2.2.1 ∈ zgood) (hk : k < 11) (ha : (F a).1 = 7) (hv : zdec (tyX6 k) (zfv F D a 6 k) = v) (kk : zO l E d Y (pc + 3) ls (v :: st) (F, D, n, sl) cv x) : zO l E d Y pc ls (zR a :: st) (F, D, n, sl) cv x := zO_get (c := 6) (C := RX6) hi hw rfl inX6 hk (by decide) ha hv kk
theorem pt6 {k j a : Nat} {v : zV} {z : Int} (hi : decode Y.2.1 pc = .ok (.putfield j, 3)) (hw : Cond.fieldLink Y.1.cls j (TX6 k).1 (TX6 k).2.1 (TX6 k).2.2.1 ∈ zgood) (hk : k < 11) (hf : (TX6 k).2.2.2 = false) (ha : (F a).1 = 7) (hv : v = zdec (tyX6 k) z) (hz : zfok (tyX6 k) z) (kk : zO l E d Y (pc + 3) ls st (F, zwr D a k z, n, sl) cv x) : zO l E d Y pc ls (v :: zR a :: st) (F, D, n, sl) cv x := zO_put (c := 6) (C := RX6) hi hw rfl inX6 tyX6_ok nmX6 hk (by decide) hf ha hv hz kk
theorem ptI6 {k j a : Nat} {z : Int} (hi : decode Y.2.1 pc = .ok (.putfield j, 3)) (hw : Cond.fieldLink Y.1.cls j (TX6 k).1 (TX6 k).2.1 (TX6 k).2.2.1 ∈ zgood) (hk : k < 11) (hf : (TX6 k).2.2.2 = false) (ha : (F a).1 = 7) (ht : tyX6 k = .int) (kk : zO l E d Y (pc + 3) ls st (F, zwr D a k z, n, sl) cv x) : zO l E d Y pc ls (zI z :: zR a :: st) (F, D, n, sl) cv x := by
  by_cases hz : -2147483648 ≤ z ∧ z ≤ 2147483647
  · exact pt6 hi hw hk hf ha (by rw [ht]; rfl) (by rw [ht]; exact hz) kk
  · intro r hr
    obtain ⟨hm, -⟩ := kk r hr
    exact ⟨hm, fun hok => absurd hok.hd hz⟩
theorem ptJ6 {k j a : Nat} {z : Int} (hi : decode Y.2.1 pc = .ok (.putfield j, 3)) (hw : Cond.fieldLink Y.1.cls j (TX6 k).1 (TX6 k).2.1 (TX6 k).2.2.1 ∈ zgood) (hk : k < 11) (hf : (TX6 k).2.2.2 = false) (ha : (F a).1 = 7) (ht : tyX6 k = .long) (kk : zO l E d Y (pc + 3) ls st (F, zwr D a k z, n, sl) cv x) : zO l E d Y pc ls (zL z :: zR a :: st) (F, D, n, sl) cv x := by
  by_cases hz : -9223372036854775808 ≤ z ∧ z ≤ 9223372036854775807
  · exact pt6 hi hw hk hf ha (by rw [ht]; rfl) (by rw [ht]; exact hz) kk
  · intro r hr
    obtain ⟨hm, -⟩ := kk r hr
    exact ⟨hm, fun hok => absurd hok.hd hz⟩
theorem gt7 {k j a : Nat} {v : zV} (hi : decode Y.2.1 pc = .ok (.getfield j, 3)) (hw : Cond.fieldLink Y.1.cls j (TX7 k).1 (TX7 k).2.1 (TX7 k).2.2.1 ∈ zgood) (hk : k < 12) (ha : (F a).1 = 8) (hv : zdec (tyX7 k) (zfv F D a 7 k) = v) (kk : zO l E d Y (pc + 3) ls (v :: st) (F, D, n, sl) cv x) : zO l E d Y pc ls (zR a :: st) (F, D, n, sl) cv x := zO_get (c := 7) (C := RX7) hi hw rfl inX7 hk (by decide) ha hv kk
theorem pt7 {k j a : Nat} {v : zV} {z : Int} (hi : decode Y.2.1 pc = .ok (.putfield j, 3)) (hw : Cond.fieldLink Y.1.cls j (TX7 k).1 (TX7 k).2.1 (TX7 k).2.2.1 ∈ zgood) (hk : k < 12) (hf : (TX7 k).2.2.2 = false) (ha : (F a).1 = 8) (hv : v = zdec (tyX7 k) z) (hz : zfok (tyX7 k) z) (kk : zO l E d Y (pc + 3) ls st (F, zwr D a k z, n, sl) cv x) : zO l E d Y pc ls (v :: zR a :: st) (F, D, n, sl) cv x := zO_put (c := 7) (C := RX7) hi hw rfl inX7 tyX7_ok nmX7 hk (by decide) hf ha hv hz kk
theorem ptI7 {k j a : Nat} {z : Int} (hi : decode Y.2.1 pc = .ok (.putfield j, 3)) (hw : Cond.fieldLink Y.1.cls j (TX7 k).1 (TX7 k).2.1 (TX7 k).2.2.1 ∈ zgood) (hk : k < 12) (hf : (TX7 k).2.2.2 = false) (ha : (F a).1 = 8) (ht : tyX7 k = .int) (kk : zO l E d Y (pc + 3) ls st (F, zwr D a k z, n, sl) cv x) : zO l E d Y pc ls (zI z :: zR a :: st) (F, D, n, sl) cv x := by
  by_cases hz : -2147483648 ≤ z ∧ z ≤ 2147483647
  · exact pt7 hi hw hk hf ha (by rw [ht]; rfl) (by rw [ht]; exact hz) kk
  · intro r hr
    obtain ⟨hm, -⟩ := kk r hr
    exact ⟨hm, fun hok => absurd hok.hd hz⟩
theorem ptJ7 {k j a : Nat} {z : Int} (hi : decode Y.2.1 pc = .ok (.putfield j, 3)) (hw : Cond.fieldLink Y.1.cls j (TX7 k).1 (TX7 k).2.1 (TX7 k).2.2.1 ∈ zgood) (hk : k < 12) (hf : (TX7 k).2.2.2 = false) (ha : (F a).1 = 8) (ht : tyX7 k = .long) (kk : zO l E d Y (pc + 3) ls st (F, zwr D a k z, n, sl) cv x) : zO l E d Y pc ls (zL z :: zR a :: st) (F, D, n, sl) cv x := by
  by_cases hz : -9223372036854775808 ≤ z ∧ z ≤ 9223372036854775807
  · exact pt7 hi hw hk hf ha (by rw [ht]; rfl) (by rw [ht]; exact hz) kk
  · intro r hr
    obtain ⟨hm, -⟩ := kk r hr
    exact ⟨hm, fun hok => absurd hok.hd hz⟩
theorem gt8 {k j a : Nat} {v : zV} (hi : decode Y.2.1 pc = .ok (.getfield j, 3)) (hw : Cond.fieldLink Y.1.cls j (TX8 k).1 (TX8 k).2.1 (TX8 k).2.2.1 ∈ zgood) (hk : k < 9) (ha : (F a).1 = 9) (hv : zdec (tyX8 k) (zfv F D a 8 k) = v) (kk : zO l E d Y (pc + 3) ls (v :: st) (F, D, n, sl) cv x) : zO l E d Y pc ls (zR a :: st) (F, D, n, sl) cv x := zO_get (c := 8) (C := RX8) hi hw rfl inX8 hk (by decide) ha hv kk
theorem pt8 {k j a : Nat} {v : zV} {z : Int} (hi : decode Y.2.1 pc = .ok (.putfield j, 3)) (hw : Cond.fieldLink Y.1.cls j (TX8 k).1 (TX8 k).2.1 (TX8 k).2.2.1 ∈ zgood) (hk : k < 9) (hf : (TX8 k).2.2.2 = false) (ha : (F a).1 = 9) (hv : v = zdec (tyX8 k) z) (hz : zfok (tyX8 k) z) (kk : zO l E d Y (pc + 3) ls st (F, zwr D a k z, n, sl) cv x) : zO l E d Y pc ls (v :: zR a :: st) (F, D, n, sl) cv x := zO_put (c := 8) (C := RX8) hi hw rfl inX8 tyX8_ok nmX8 hk (by decide) hf ha hv hz kk
theorem ptI8 {k j a : Nat} {z : Int} (hi : decode Y.2.1 pc = .ok (.putfield j, 3)) (hw : Cond.fieldLink Y.1.cls j (TX8 k).1 (TX8 k).2.1 (TX8 k).2.2.1 ∈ zgood) (hk : k < 9) (hf : (TX8 k).2.2.2 = false) (ha : (F a).1 = 9) (ht : tyX8 k = .int) (kk : zO l E d Y (pc + 3) ls st (F, zwr D a k z, n, sl) cv x) : zO l E d Y pc ls (zI z :: zR a :: st) (F, D, n, sl) cv x := by
  by_cases hz : -2147483648 ≤ z ∧ z ≤ 2147483647
  · exact pt8 hi hw hk hf ha (by rw [ht]; rfl) (by rw [ht]; exact hz) kk
  · intro r hr
    obtain ⟨hm, -⟩ := kk r hr
    exact ⟨hm, fun hok => absurd hok.hd hz⟩
theorem ptJ8 {k j a : Nat} {z : Int} (hi : decode Y.2.1 pc = .ok (.putfield j, 3)) (hw : Cond.fieldLink Y.1.cls j (TX8 k).1 (TX8 k).2.1 (TX8 k).2.2.1 ∈ zgood) (hk : k < 9) (hf : (TX8 k).2.2.2 = false) (ha : (F a).1 = 9) (ht : tyX8 k = .long) (kk : zO l E d Y (pc + 3) ls st (F, zwr D a k z, n, sl) cv x) : zO l E d Y pc ls (zL z :: zR a :: st) (F, D, n, sl) cv x := by
  by_cases hz : -9223372036854775808 ≤ z ∧ z ≤ 9223372036854775807
  · exact pt8 hi hw hk hf ha (by rw [ht]; rfl) (by rw [ht]; exact hz) kk
  · intro r hr
    obtain ⟨hm, -⟩ := kk r hr
    exact ⟨hm, fun hok => absurd hok.hd hz⟩
theorem gt9 {k j a : Nat} {v : zV} (hi : decode Y.2.1 pc = .ok (.getfield j, 3)) (hw : Cond.fieldLink Y.1.cls j (TX9 k).1 (TX9 k).2.1 (TX9 k).2.2.1 ∈ zgood) (hk : k < 18) (ha : (F a).1 = 10) (hv : zdec (tyX9 k) (zfv F D a 9 k) = v) (kk : zO l E d Y (pc + 3) ls (v :: st) (F, D, n, sl) cv x) : zO l E d Y pc ls (zR a :: st) (F, D, n, sl) cv x := zO_get (c := 9) (C := RX9) hi hw rfl inX9 hk (by decide) ha hv kk
theorem pt9 {k j a : Nat} {v : zV} {z : Int} (hi : decode Y.2.1 pc = .ok (.putfield j, 3)) (hw : Cond.fieldLink Y.1.cls j (TX9 k).1 (TX9 k).2.1 (TX9 k).2.2.1 ∈ zgood) (hk : k < 18) (hf : (TX9 k).2.2.2 = false) (ha : (F a).1 = 10) (hv : v = zdec (tyX9 k) z) (hz : zfok (tyX9 k) z) (kk : zO l E d Y (pc + 3) ls st (F, zwr D a k z, n, sl) cv x) : zO l E d Y pc ls (v :: zR a :: st) (F, D, n, sl) cv x := zO_put (c := 9) (C := RX9) hi hw rfl inX9 tyX9_ok nmX9 hk (by decide) hf ha hv hz kk
theorem ptI9 {k j a : Nat} {z : Int} (hi : decode Y.2.1 pc = .ok (.putfield j, 3)) (hw : Cond.fieldLink Y.1.cls j (TX9 k).1 (TX9 k).2.1 (TX9 k).2.2.1 ∈ zgood) (hk : k < 18) (hf : (TX9 k).2.2.2 = false) (ha : (F a).1 = 10) (ht : tyX9 k = .int) (kk : zO l E d Y (pc + 3) ls st (F, zwr D a k z, n, sl) cv x) : zO l E d Y pc ls (zI z :: zR a :: st) (F, D, n, sl) cv x := by
  by_cases hz : -2147483648 ≤ z ∧ z ≤ 2147483647
  · exact pt9 hi hw hk hf ha (by rw [ht]; rfl) (by rw [ht]; exact hz) kk
  · intro r hr
    obtain ⟨hm, -⟩ := kk r hr
    exact ⟨hm, fun hok => absurd hok.hd hz⟩
theorem ptJ9 {k j a : Nat} {z : Int} (hi : decode Y.2.1 pc = .ok (.putfield j, 3)) (hw : Cond.fieldLink Y.1.cls j (TX9 k).1 (TX9 k).2.1 (TX9 k).2.2.1 ∈ zgood) (hk : k < 18) (hf : (TX9 k).2.2.2 = false) (ha : (F a).1 = 10) (ht : tyX9 k = .long) (kk : zO l E d Y (pc + 3) ls st (F, zwr D a k z, n, sl) cv x) : zO l E d Y pc ls (zL z :: zR a :: st) (F, D, n, sl) cv x := by
  by_cases hz : -9223372036854775808 ≤ z ∧ z ≤ 9223372036854775807
  · exact pt9 hi hw hk hf ha (by rw [ht]; rfl) (by rw [ht]; exact hz) kk
  · intro r hr
    obtain ⟨hm, -⟩ := kk r hr
    exact ⟨hm, fun hok => absurd hok.hd hz⟩
theorem gt10 {k j a : Nat} {v : zV} (hi : decode Y.2.1 pc = .ok (.getfield j, 3)) (hw : Cond.fieldLink Y.1.cls j (TX10 k).1 (TX10 k).2.1 (TX10 k).2.2.1 ∈ zgood) (hk : k < 4) (ha : (F a).1 = 11) (hv : zdec (tyX10 k) (zfv F D a 10 k) = v) (kk : zO l E d Y (pc + 3) ls (v :: st) (F, D, n, sl) cv x) : zO l E d Y pc ls (zR a :: st) (F, D, n, sl) cv x := zO_get (c := 10) (C := RX10) hi hw rfl inX10 hk (by decide) ha hv kk
theorem pt10 {k j a : Nat} {v : zV} {z : Int} (hi : decode Y.2.1 pc = .ok (.putfield j, 3)) (hw : Cond.fieldLink Y.1.cls j (TX10 k).1 (TX10 k).2.1 (TX10 k).2.2.1 ∈ zgood) (hk : k < 4) (hf : (TX10 k).2.2.2 = false) (ha : (F a).1 = 11) (hv : v = zdec (tyX10 k) z) (hz : zfok (tyX10 k) z) (kk : zO l E d Y (pc + 3) ls st (F, zwr D a k z, n, sl) cv x) : zO l E d Y pc ls (v :: zR a :: st) (F, D, n, sl) cv x := zO_put (c := 10) (C := RX10) hi hw rfl inX10 tyX10_ok nmX10 hk (by decide) hf ha hv hz kk
theorem ptI10 {k j a : Nat} {z : Int} (hi : decode Y.2.1 pc = .ok (.putfield j, 3)) (hw : Cond.fieldLink Y.1.cls j (TX10 k).1 (TX10 k).2.1 (TX10 k).2.2.1 ∈ zgood) (hk : k < 4) (hf : (TX10 k).2.2.2 = false) (ha : (F a).1 = 11) (ht : tyX10 k = .int) (kk : zO l E d Y (pc + 3) ls st (F, zwr D a k z, n, sl) cv x) : zO l E d Y pc ls (zI z :: zR a :: st) (F, D, n, sl) cv x := by
  by_cases hz : -2147483648 ≤ z ∧ z ≤ 2147483647
  · exact pt10 hi hw hk hf ha (by rw [ht]; rfl) (by rw [ht]; exact hz) kk
  · intro r hr
    obtain ⟨hm, -⟩ := kk r hr
    exact ⟨hm, fun hok => absurd hok.hd hz⟩
theorem ptJ10 {k j a : Nat} {z : Int} (hi : decode Y.2.1 pc = .ok (.putfield j, 3)) (hw : Cond.fieldLink Y.1.cls j (TX10 k).1 (TX10 k).2.1 (TX10 k).2.2.1 ∈ zgood) (hk : k < 4) (hf : (TX10 k).2.2.2 = false) (ha : (F a).1 = 11) (ht : tyX10 k = .long) (kk : zO l E d Y (pc + 3) ls st (F, zwr D a k z, n, sl) cv x) : zO l E d Y pc ls (zL z :: zR a :: st) (F, D, n, sl) cv x := by
  by_cases hz : -9223372036854775808 ≤ z ∧ z ≤ 9223372036854775807
  · exact pt10 hi hw hk hf ha (by rw [ht]; rfl) (by rw [ht]; exact hz) kk
  · intro r hr
    obtain ⟨hm, -⟩ := kk r hr
    exact ⟨hm, fun hok => absurd hok.hd hz⟩
theorem gt11 {k j a : Nat} {v : zV} (hi : decode Y.2.1 pc = .ok (.getfield j, 3)) (hw : Cond.fieldLink Y.1.cls j (TX11 k).1 (TX11 k).2.1 (TX11 k).2.2.1 ∈ zgood) (hk : k < 19) (ha : (F a).1 = 12) (hv : zdec (tyX11 k) (zfv F D a 11 k) = v) (kk : zO l E d Y (pc + 3) ls (v :: st) (F, D, n, sl) cv x) : zO l E d Y pc ls (zR a :: st) (F, D, n, sl) cv x := zO_get (c := 11) (C := RX11) hi hw rfl inX11 hk (by decide) ha hv kk
theorem pt11 {k j a : Nat} {v : zV} {z : Int} (hi : decode Y.2.1 pc = .ok (.putfield j, 3)) (hw : Cond.fieldLink Y.1.cls j (TX11 k).1 (TX11 k).2.1 (TX11 k).2.2.1 ∈ zgood) (hk : k < 19) (hf : (TX11 k).2.2.2 = false) (ha : (F a).1 = 12) (hv : v = zdec (tyX11 k) z) (hz : zfok (tyX11 k) z) (kk : zO l E d Y (pc + 3) ls st (F, zwr D a k z, n, sl) cv x) : zO l E d Y pc ls (v :: zR a :: st) (F, D, n, sl) cv x := zO_put (c := 11) (C := RX11) hi hw rfl inX11 tyX11_ok nmX11 hk (by decide) hf ha hv hz kk
theorem ptI11 {k j a : Nat} {z : Int} (hi : decode Y.2.1 pc = .ok (.putfield j, 3)) (hw : Cond.fieldLink Y.1.cls j (TX11 k).1 (TX11 k).2.1 (TX11 k).2.2.1 ∈ zgood) (hk : k < 19) (hf : (TX11 k).2.2.2 = false) (ha : (F a).1 = 12) (ht : tyX11 k = .int) (kk : zO l E d Y (pc + 3) ls st (F, zwr D a k z, n, sl) cv x) : zO l E d Y pc ls (zI z :: zR a :: st) (F, D, n, sl) cv x := by
  by_cases hz : -2147483648 ≤ z ∧ z ≤ 2147483647
  · exact pt11 hi hw hk hf ha (by rw [ht]; rfl) (by rw [ht]; exact hz) kk
  · intro r hr
    obtain ⟨hm, -⟩ := kk r hr
    exact ⟨hm, fun hok => absurd hok.hd hz⟩
theorem ptJ11 {k j a : Nat} {z : Int} (hi : decode Y.2.1 pc = .ok (.putfield j, 3)) (hw : Cond.fieldLink Y.1.cls j (TX11 k).1 (TX11 k).2.1 (TX11 k).2.2.1 ∈ zgood) (hk : k < 19) (hf : (TX11 k).2.2.2 = false) (ha : (F a).1 = 12) (ht : tyX11 k = .long) (kk : zO l E d Y (pc + 3) ls st (F, zwr D a k z, n, sl) cv x) : zO l E d Y pc ls (zL z :: zR a :: st) (F, D, n, sl) cv x := by
  by_cases hz : -9223372036854775808 ≤ z ∧ z ≤ 9223372036854775807
  · exact pt11 hi hw hk hf ha (by rw [ht]; rfl) (by rw [ht]; exact hz) kk
  · intro r hr
    obtain ⟨hm, -⟩ := kk r hr
    exact ⟨hm, fun hok => absurd hok.hd hz⟩
theorem gt12 {k j a : Nat} {v : zV} (hi : decode Y.2.1 pc = .ok (.getfield j, 3)) (hw : Cond.fieldLink Y.1.cls j (TX12 k).1 (TX12 k).2.1 (TX12 k).2.2.1 ∈ zgood) (hk : k < 70) (ha : (F a).1 = 13) (hv : zdec (tyX12 k) (zfv F D a 12 k) = v) (kk : zO l E d Y (pc + 3) ls (v :: st) (F, D, n, sl) cv x) : zO l E d Y pc ls (zR a :: st) (F, D, n, sl) cv x := zO_get (c := 12) (C := RX12) hi hw rfl inX12 hk (by decide) ha hv kk
theorem pt12 {k j a : Nat} {v : zV} {z : Int} (hi : decode Y.2.1 pc = .ok (.putfield j, 3)) (hw : Cond.fieldLink Y.1.cls j (TX12 k).1 (TX12 k).2.1 (TX12 k).2.2.1 ∈ zgood) (hk : k < 70) (hf : (TX12 k).2.2.2 = false) (ha : (F a).1 = 13) (hv : v = zdec (tyX12 k) z) (hz : zfok (tyX12 k) z) (kk : zO l E d Y (pc + 3) ls st (F, zwr D a k z, n, sl) cv x) : zO l E d Y pc ls (v :: zR a :: st) (F, D, n, sl) cv x := zO_put (c := 12) (C := RX12) hi hw rfl inX12 tyX12_ok nmX12 hk (by decide) hf ha hv hz kk
theorem ptI12 {k j a : Nat} {z : Int} (hi : decode Y.2.1 pc = .ok (.putfield j, 3)) (hw : Cond.fieldLink Y.1.cls j (TX12 k).1 (TX12 k).2.1 (TX12 k).2.2.1 ∈ zgood) (hk : k < 70) (hf : (TX12 k).2.2.2 = false) (ha : (F a).1 = 13) (ht : tyX12 k = .int) (kk : zO l E d Y (pc + 3) ls st (F, zwr D a k z, n, sl) cv x) : zO l E d Y pc ls (zI z :: zR a :: st) (F, D, n, sl) cv x := by
  by_cases hz : -2147483648 ≤ z ∧ z ≤ 2147483647
  · exact pt12 hi hw hk hf ha (by rw [ht]; rfl) (by rw [ht]; exact hz) kk
  · intro r hr
    obtain ⟨hm, -⟩ := kk r hr
    exact ⟨hm, fun hok => absurd hok.hd hz⟩
theorem ptJ12 {k j a : Nat} {z : Int} (hi : decode Y.2.1 pc = .ok (.putfield j, 3)) (hw : Cond.fieldLink Y.1.cls j (TX12 k).1 (TX12 k).2.1 (TX12 k).2.2.1 ∈ zgood) (hk : k < 70) (hf : (TX12 k).2.2.2 = false) (ha : (F a).1 = 13) (ht : tyX12 k = .long) (kk : zO l E d Y (pc + 3) ls st (F, zwr D a k z, n, sl) cv x) : zO l E d Y pc ls (zL z :: zR a :: st) (F, D, n, sl) cv x := by
  by_cases hz : -9223372036854775808 ≤ z ∧ z ≤ 9223372036854775807
  · exact pt12 hi hw hk hf ha (by rw [ht]; rfl) (by rw [ht]; exact hz) kk
  · intro r hr
    obtain ⟨hm, -⟩ := kk r hr
    exact ⟨hm, fun hok => absurd hok.hd hz⟩
end ZK
