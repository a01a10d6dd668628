/-! CODE TABLES, and that each row is the machine's (written by wip/whole/gen.py) -/
/-- InclusionProverModel.lineWith.(III)I -/
def cd_185 : List (Nat × ll_O) := [
  (0, .inl (lo_push 1 (.int 0))),
  (1, .inl (lo_istore 3 4)),
  (3, .inl (lo_iload 5 4)),
  (5, .inl (lo_aload 6 0)),
  (6, .inl (lo_getf 9 11 0)),
  (9, .inl (lo_iload 10 1)),
  (10, .inl (lo_push 13 (.int 186))),
  (13, .inl (lo_bin 14 (fun x y => x + y))),
  (14, .inl (lo_ald 15 0)),
  (15, .inl (lo_cmp 64 18 (fun x y => decide (y ≤ x)))),
  (18, .inl (lo_aload 19 0)),
  (19, .inl (lo_getf 22 11 0)),
  (22, .inl (lo_iload 23 1)),
  (23, .inl (lo_push 26 (.int 187))),
  (26, .inl (lo_bin 27 (fun x y => x + y))),
  (27, .inl (lo_iload 29 4)),
  (29, .inl (lo_bin 30 (fun x y => x + y))),
  (30, .inl (lo_ald 31 0)),
  (31, .inl (lo_iload 32 2)),
  (32, .inl (lo_cmp 58 35 (fun x y => decide (¬ x = y)))),
  (35, .inl (lo_aload 36 0)),
  (36, .inl (lo_getf 39 11 0)),
  (39, .inl (lo_iload 40 1)),
  (40, .inl (lo_push 43 (.int 487))),
  (43, .inl (lo_bin 44 (fun x y => x + y))),
  (44, .inl (lo_iload 46 4)),
  (46, .inl (lo_bin 47 (fun x y => x + y))),
  (47, .inl (lo_ald 48 0)),
  (48, .inl (lo_iload 49 3)),
  (49, .inl (lo_push 50 (.int (-1)))),
  (50, .inl (lo_bin 51 (fun x y => x ^^^ y))),
  (51, .inl (lo_bin 52 (fun x y => x &&& y))),
  (52, .inl (lo_if 58 55 (fun x => decide (¬ x = 0)))),
  (55, .inl (lo_iload 57 4)),
  (57, .inr (.inr 1)),
  (58, .inl (lo_iinc 61 4 1)),
  (61, .inl (lo_goto 3)),
  (64, .inl (lo_push 65 (.int (-1)))),
  (65, .inr (.inr 1))]
theorem k_185_0 (L : Nat) (xs : Nat → Int32) : ll_OK1 cX11_lineWith RX11 (some .int) false ll_mN ll_mR ll_mK ll_cnt L xs false 0 (.inl (lo_push 1 (.int 0))) := lk_iconst (n := 0) (by decide +kernel) (by decide)
theorem k_185_1 (L : Nat) (xs : Nat → Int32) : ll_OK1 cX11_lineWith RX11 (some .int) false ll_mN ll_mR ll_mK ll_cnt L xs false 1 (.inl (lo_istore 3 4)) := lk_istore (by decide +kernel)
theorem k_185_3 (L : Nat) (xs : Nat → Int32) : ll_OK1 cX11_lineWith RX11 (some .int) false ll_mN ll_mR ll_mK ll_cnt L xs false 3 (.inl (lo_iload 5 4)) := lk_iload (by decide +kernel)
theorem k_185_5 (L : Nat) (xs : Nat → Int32) : ll_OK1 cX11_lineWith RX11 (some .int) false ll_mN ll_mR ll_mK ll_cnt L xs false 5 (.inl (lo_aload 6 0)) := lk_aload_n (k := 0) (by decide +kernel) rfl
theorem k_185_6 (L : Nat) (xs : Nat → Int32) : ll_OK1 cX11_lineWith RX11 (some .int) false ll_mN ll_mR ll_mK ll_cnt L xs false 6 (.inl (lo_getf 9 11 0)) := lk_getf (ix := 8) (ci := 11) (k := 0) (C := RX11) (T := TX11) (N := 46) (by decide +kernel) rfl in_11 (by decide) tb_606
theorem k_185_9 (L : Nat) (xs : Nat → Int32) : ll_OK1 cX11_lineWith RX11 (some .int) false ll_mN ll_mR ll_mK ll_cnt L xs false 9 (.inl (lo_iload 10 1)) := lk_iload_n (k := 1) (by decide +kernel) rfl
theorem k_185_10 (L : Nat) (xs : Nat → Int32) : ll_OK1 cX11_lineWith RX11 (some .int) false ll_mN ll_mR ll_mK ll_cnt L xs false 10 (.inl (lo_push 13 (.int 186))) := lk_sipush (n := 186) (by decide +kernel) (by decide)
theorem k_185_13 (L : Nat) (xs : Nat → Int32) : ll_OK1 cX11_lineWith RX11 (some .int) false ll_mN ll_mR ll_mK ll_cnt L xs false 13 (.inl (lo_bin 14 (fun x y => x + y))) := lk_iadd (by decide +kernel)
theorem k_185_14 (L : Nat) (xs : Nat → Int32) : ll_OK1 cX11_lineWith RX11 (some .int) false ll_mN ll_mR ll_mK ll_cnt L xs false 14 (.inl (lo_ald 15 0)) := lk_iald (by decide +kernel)
theorem k_185_15 (L : Nat) (xs : Nat → Int32) : ll_OK1 cX11_lineWith RX11 (some .int) false ll_mN ll_mR ll_mK ll_cnt L xs false 15 (.inl (lo_cmp 64 18 (fun x y => decide (y ≤ x)))) := lk_icmp_ge (off := 49) (by decide +kernel) rfl
theorem k_185_18 (L : Nat) (xs : Nat → Int32) : ll_OK1 cX11_lineWith RX11 (some .int) false ll_mN ll_mR ll_mK ll_cnt L xs false 18 (.inl (lo_aload 19 0)) := lk_aload_n (k := 0) (by decide +kernel) rfl
theorem k_185_19 (L : Nat) (xs : Nat → Int32) : ll_OK1 cX11_lineWith RX11 (some .int) false ll_mN ll_mR ll_mK ll_cnt L xs false 19 (.inl (lo_getf 22 11 0)) := lk_getf (ix := 8) (ci := 11) (k := 0) (C := RX11) (T := TX11) (N := 46) (by decide +kernel) rfl in_11 (by decide) tb_606
theorem k_185_22 (L : Nat) (xs : Nat → Int32) : ll_OK1 cX11_lineWith RX11 (some .int) false ll_mN ll_mR ll_mK ll_cnt L xs false 22 (.inl (lo_iload 23 1)) := lk_iload_n (k := 1) (by decide +kernel) rfl
theorem k_185_23 (L : Nat) (xs : Nat → Int32) : ll_OK1 cX11_lineWith RX11 (some .int) false ll_mN ll_mR ll_mK ll_cnt L xs false 23 (.inl (lo_push 26 (.int 187))) := lk_sipush (n := 187) (by decide +kernel) (by decide)
theorem k_185_26 (L : Nat) (xs : Nat → Int32) : ll_OK1 cX11_lineWith RX11 (some .int) false ll_mN ll_mR ll_mK ll_cnt L xs false 26 (.inl (lo_bin 27 (fun x y => x + y))) := lk_iadd (by decide +kernel)
theorem k_185_27 (L : Nat) (xs : Nat → Int32) : ll_OK1 cX11_lineWith RX11 (some .int) false ll_mN ll_mR ll_mK ll_cnt L xs false 27 (.inl (lo_iload 29 4)) := lk_iload (by decide +kernel)
theorem k_185_29 (L : Nat) (xs : Nat → Int32) : ll_OK1 cX11_lineWith RX11 (some .int) false ll_mN ll_mR ll_mK ll_cnt L xs false 29 (.inl (lo_bin 30 (fun x y => x + y))) := lk_iadd (by decide +kernel)
theorem k_185_30 (L : Nat) (xs : Nat → Int32) : ll_OK1 cX11_lineWith RX11 (some .int) false ll_mN ll_mR ll_mK ll_cnt L xs false 30 (.inl (lo_ald 31 0)) := lk_iald (by decide +kernel)
theorem k_185_31 (L : Nat) (xs : Nat → Int32) : ll_OK1 cX11_lineWith RX11 (some .int) false ll_mN ll_mR ll_mK ll_cnt L xs false 31 (.inl (lo_iload 32 2)) := lk_iload_n (k := 2) (by decide +kernel) rfl
theorem k_185_32 (L : Nat) (xs : Nat → Int32) : ll_OK1 cX11_lineWith RX11 (some .int) false ll_mN ll_mR ll_mK ll_cnt L xs false 32 (.inl (lo_cmp 58 35 (fun x y => decide (¬ x = y)))) := lk_icmp_ne (off := 26) (by decide +kernel) rfl
theorem k_185_35 (L : Nat) (xs : Nat → Int32) : ll_OK1 cX11_lineWith RX11 (some .int) false ll_mN ll_mR ll_mK ll_cnt L xs false 35 (.inl (lo_aload 36 0)) := lk_aload_n (k := 0) (by decide +kernel) rfl
theorem k_185_36 (L : Nat) (xs : Nat → Int32) : ll_OK1 cX11_lineWith RX11 (some .int) false ll_mN ll_mR ll_mK ll_cnt L xs false 36 (.inl (lo_getf 39 11 0)) := lk_getf (ix := 8) (ci := 11) (k := 0) (C := RX11) (T := TX11) (N := 46) (by decide +kernel) rfl in_11 (by decide) tb_606
theorem k_185_39 (L : Nat) (xs : Nat → Int32) : ll_OK1 cX11_lineWith RX11 (some .int) false ll_mN ll_mR ll_mK ll_cnt L xs false 39 (.inl (lo_iload 40 1)) := lk_iload_n (k := 1) (by decide +kernel) rfl
theorem k_185_40 (L : Nat) (xs : Nat → Int32) : ll_OK1 cX11_lineWith RX11 (some .int) false ll_mN ll_mR ll_mK ll_cnt L xs false 40 (.inl (lo_push 43 (.int 487))) := lk_sipush (n := 487) (by decide +kernel) (by decide)
theorem k_185_43 (L : Nat) (xs : Nat → Int32) : ll_OK1 cX11_lineWith RX11 (some .int) false ll_mN ll_mR ll_mK ll_cnt L xs false 43 (.inl (lo_bin 44 (fun x y => x + y))) := lk_iadd (by decide +kernel)
theorem k_185_44 (L : Nat) (xs : Nat → Int32) : ll_OK1 cX11_lineWith RX11 (some .int) false ll_mN ll_mR ll_mK ll_cnt L xs false 44 (.inl (lo_iload 46 4)) := lk_iload (by decide +kernel)
theorem k_185_46 (L : Nat) (xs : Nat → Int32) : ll_OK1 cX11_lineWith RX11 (some .int) false ll_mN ll_mR ll_mK ll_cnt L xs false 46 (.inl (lo_bin 47 (fun x y => x + y))) := lk_iadd (by decide +kernel)
theorem k_185_47 (L : Nat) (xs : Nat → Int32) : ll_OK1 cX11_lineWith RX11 (some .int) false ll_mN ll_mR ll_mK ll_cnt L xs false 47 (.inl (lo_ald 48 0)) := lk_iald (by decide +kernel)
theorem k_185_48 (L : Nat) (xs : Nat → Int32) : ll_OK1 cX11_lineWith RX11 (some .int) false ll_mN ll_mR ll_mK ll_cnt L xs false 48 (.inl (lo_iload 49 3)) := lk_iload_n (k := 3) (by decide +kernel) rfl
theorem k_185_49 (L : Nat) (xs : Nat → Int32) : ll_OK1 cX11_lineWith RX11 (some .int) false ll_mN ll_mR ll_mK ll_cnt L xs false 49 (.inl (lo_push 50 (.int (-1)))) := lk_iconst (n := (-1)) (by decide +kernel) (by decide)
theorem k_185_50 (L : Nat) (xs : Nat → Int32) : ll_OK1 cX11_lineWith RX11 (some .int) false ll_mN ll_mR ll_mK ll_cnt L xs false 50 (.inl (lo_bin 51 (fun x y => x ^^^ y))) := lk_ixor (by decide +kernel)
theorem k_185_51 (L : Nat) (xs : Nat → Int32) : ll_OK1 cX11_lineWith RX11 (some .int) false ll_mN ll_mR ll_mK ll_cnt L xs false 51 (.inl (lo_bin 52 (fun x y => x &&& y))) := lk_iand (by decide +kernel)
theorem k_185_52 (L : Nat) (xs : Nat → Int32) : ll_OK1 cX11_lineWith RX11 (some .int) false ll_mN ll_mR ll_mK ll_cnt L xs false 52 (.inl (lo_if 58 55 (fun x => decide (¬ x = 0)))) := lk_if_ne (off := 6) (by decide +kernel) rfl
theorem k_185_55 (L : Nat) (xs : Nat → Int32) : ll_OK1 cX11_lineWith RX11 (some .int) false ll_mN ll_mR ll_mK ll_cnt L xs false 55 (.inl (lo_iload 57 4)) := lk_iload (by decide +kernel)
theorem k_185_57 (L : Nat) (xs : Nat → Int32) : ll_OK1 cX11_lineWith RX11 (some .int) false ll_mN ll_mR ll_mK ll_cnt L xs false 57 (.inr (.inr 1)) := ⟨(fun h => by cases h), (fun _ => ⟨(by decide +kernel), rfl⟩), fun h => by cases h⟩
theorem k_185_58 (L : Nat) (xs : Nat → Int32) : ll_OK1 cX11_lineWith RX11 (some .int) false ll_mN ll_mR ll_mK ll_cnt L xs false 58 (.inl (lo_iinc 61 4 1)) := lk_iinc (n := 1) (by decide +kernel) (by decide)
theorem k_185_61 (L : Nat) (xs : Nat → Int32) : ll_OK1 cX11_lineWith RX11 (some .int) false ll_mN ll_mR ll_mK ll_cnt L xs false 61 (.inl (lo_goto 3)) := lk_goto (off := (-58)) (by decide +kernel) rfl
theorem k_185_64 (L : Nat) (xs : Nat → Int32) : ll_OK1 cX11_lineWith RX11 (some .int) false ll_mN ll_mR ll_mK ll_cnt L xs false 64 (.inl (lo_push 65 (.int (-1)))) := lk_iconst (n := (-1)) (by decide +kernel) (by decide)
theorem k_185_65 (L : Nat) (xs : Nat → Int32) : ll_OK1 cX11_lineWith RX11 (some .int) false ll_mN ll_mR ll_mK ll_cnt L xs false 65 (.inr (.inr 1)) := ⟨(fun h => by cases h), (fun _ => ⟨(by decide +kernel), rfl⟩), fun h => by cases h⟩
theorem ok_185 (L : Nat) (xs : Nat → Int32) : ∀ q ∈ cd_185, ll_OK1 cX11_lineWith RX11 (some .int) false ll_mN ll_mR ll_mK ll_cnt L xs false q.1 q.2 :=
  List.forall_mem_cons.mpr ⟨k_185_0 L xs, List.forall_mem_cons.mpr ⟨k_185_1 L xs, List.forall_mem_cons.mpr ⟨k_185_3 L xs, List.forall_mem_cons.mpr ⟨k_185_5 L xs, List.forall_mem_cons.mpr ⟨k_185_6 L xs, List.forall_mem_cons.mpr ⟨k_185_9 L xs, List.forall_mem_cons.mpr ⟨k_185_10 L xs, List.forall_mem_cons.mpr ⟨k_185_13 L xs, List.forall_mem_cons.mpr ⟨k_185_14 L xs, List.forall_mem_cons.mpr ⟨k_185_15 L xs, List.forall_mem_cons.mpr ⟨k_185_18 L xs, List.forall_mem_cons.mpr ⟨k_185_19 L xs, List.forall_mem_cons.mpr ⟨k_185_22 L xs, List.forall_mem_cons.mpr ⟨k_185_23 L xs, List.forall_mem_cons.mpr ⟨k_185_26 L xs, List.forall_mem_cons.mpr ⟨k_185_27 L xs, List.forall_mem_cons.mpr ⟨k_185_29 L xs, List.forall_mem_cons.mpr ⟨k_185_30 L xs, List.forall_mem_cons.mpr ⟨k_185_31 L xs, List.forall_mem_cons.mpr ⟨k_185_32 L xs, List.forall_mem_cons.mpr ⟨k_185_35 L xs, List.forall_mem_cons.mpr ⟨k_185_36 L xs, List.forall_mem_cons.mpr ⟨k_185_39 L xs, List.forall_mem_cons.mpr ⟨k_185_40 L xs, List.forall_mem_cons.mpr ⟨k_185_43 L xs, List.forall_mem_cons.mpr ⟨k_185_44 L xs, List.forall_mem_cons.mpr ⟨k_185_46 L xs, List.forall_mem_cons.mpr ⟨k_185_47 L xs, List.forall_mem_cons.mpr ⟨k_185_48 L xs, List.forall_mem_cons.mpr ⟨k_185_49 L xs, List.forall_mem_cons.mpr ⟨k_185_50 L xs, List.forall_mem_cons.mpr ⟨k_185_51 L xs, List.forall_mem_cons.mpr ⟨k_185_52 L xs, List.forall_mem_cons.mpr ⟨k_185_55 L xs, List.forall_mem_cons.mpr ⟨k_185_57 L xs, List.forall_mem_cons.mpr ⟨k_185_58 L xs, List.forall_mem_cons.mpr ⟨k_185_61 L xs, List.forall_mem_cons.mpr ⟨k_185_64 L xs, List.forall_mem_cons.mpr ⟨k_185_65 L xs, fun _ h => absurd h List.not_mem_nil⟩⟩⟩⟩⟩⟩⟩⟩⟩⟩⟩⟩⟩⟩⟩⟩⟩⟩⟩⟩⟩⟩⟩⟩⟩⟩⟩⟩⟩⟩⟩⟩⟩⟩⟩⟩⟩⟩⟩
/-- InclusionProverModel.newLine.(IIIII)V -/
def cd_186 : List (Nat × ll_O) := [
  (0, .inl (lo_aload 1 0)),
  (1, .inl (lo_getf 4 11 0)),
  (4, .inl (lo_iload 5 1)),
  (5, .inl (lo_push 8 (.int 186))),
  (8, .inl (lo_bin 9 (fun x y => x + y))),
  (9, .inl (lo_ald 10 0)),
  (10, .inl (lo_istore 12 6)),
  (12, .inl (lo_aload 13 0)),
  (13, .inl (lo_getf 16 11 0)),
  (16, .inl (lo_iload 17 1)),
  (17, .inl (lo_push 20 (.int 187))),
  (20, .inl (lo_bin 21 (fun x y => x + y))),
  (21, .inl (lo_iload 23 6)),
  (23, .inl (lo_bin 24 (fun x y => x + y))),
  (24, .inl (lo_iload 25 2)),
  (25, .inl (lo_ast 26 0)),
  (26, .inl (lo_aload 27 0)),
  (27, .inl (lo_getf 30 11 0)),
  (30, .inl (lo_iload 31 1)),
  (31, .inl (lo_push 34 (.int 487))),
  (34, .inl (lo_bin 35 (fun x y => x + y))),
  (35, .inl (lo_iload 37 6)),
  (37, .inl (lo_bin 38 (fun x y => x + y))),
  (38, .inl (lo_iload 39 3)),
  (39, .inl (lo_ast 40 0)),
  (40, .inl (lo_aload 41 0)),
  (41, .inl (lo_getf 44 11 0)),
  (44, .inl (lo_iload 45 1)),
  (45, .inl (lo_push 48 (.int 787))),
  (48, .inl (lo_bin 49 (fun x y => x + y))),
  (49, .inl (lo_iload 51 6)),
  (51, .inl (lo_bin 52 (fun x y => x + y))),
  (52, .inl (lo_push 53 (.int (-1)))),
  (53, .inl (lo_ast 54 0)),
  (54, .inl (lo_aload 55 0)),
  (55, .inl (lo_getf 58 11 0)),
  (58, .inl (lo_iload 59 1)),
  (59, .inl (lo_push 62 (.int 1087))),
  (62, .inl (lo_bin 63 (fun x y => x + y))),
  (63, .inl (lo_iload 65 6)),
  (65, .inl (lo_bin 66 (fun x y => x + y))),
  (66, .inl (lo_push 67 (.int 0))),
  (67, .inl (lo_ast 68 0)),
  (68, .inl (lo_aload 69 0)),
  (69, .inl (lo_getf 72 11 39)),
  (72, .inl (lo_iload 74 6)),
  (74, .inl (lo_iload 76 4)),
  (76, .inl (lo_ast 77 0)),
  (77, .inl (lo_aload 78 0)),
  (78, .inl (lo_getf 81 11 40)),
  (81, .inl (lo_iload 83 6)),
  (83, .inl (lo_iload 85 5)),
  (85, .inl (lo_ast 86 0)),
  (86, .inl (lo_aload 87 0)),
  (87, .inl (lo_getf 90 11 41)),
  (90, .inl (lo_iload 92 6)),
  (92, .inl (lo_iload 94 4)),
  (94, .inl (lo_push 95 (.int (-1)))),
  (95, .inl (lo_cmp 102 98 (fun x y => decide (¬ x = y)))),
  (98, .inl (lo_push 99 (.int 0))),
  (99, .inl (lo_goto 111)),
  (102, .inl (lo_aload 103 0)),
  (103, .inl (lo_getf 106 11 41)),
  (106, .inl (lo_iload 108 4)),
  (108, .inl (lo_ald 109 0)),
  (109, .inl (lo_push 110 (.int 1))),
  (110, .inl (lo_bin 111 (fun x y => x + y))),
  (111, .inl (lo_ast 112 0)),
  (112, .inl (lo_aload 113 0)),
  (113, .inl (lo_getf 116 11 0)),
  (116, .inl (lo_iload 117 1)),
  (117, .inl (lo_push 120 (.int 10387))),
  (120, .inl (lo_bin 121 (fun x y => x + y))),
  (121, .inl (lo_aload 122 0)),
  (122, .inl (lo_getf 125 11 41)),
  (125, .inl (lo_iload 127 6)),
  (127, .inl (lo_ald 128 0)),
  (128, .inl (lo_aload 129 0)),
  (129, .inl (lo_getf 132 11 0)),
  (132, .inl (lo_iload 133 1)),
  (133, .inl (lo_push 136 (.int 10387))),
  (136, .inl (lo_bin 137 (fun x y => x + y))),
  (137, .inl (lo_ald 138 0)),
  (138, .inl (lo_cmp 151 141 (fun x y => decide (x ≤ y)))),
  (141, .inl (lo_aload 142 0)),
  (142, .inl (lo_getf 145 11 41)),
  (145, .inl (lo_iload 147 6)),
  (147, .inl (lo_ald 148 0)),
  (148, .inl (lo_goto 161)),
  (151, .inl (lo_aload 152 0)),
  (152, .inl (lo_getf 155 11 0)),
  (155, .inl (lo_iload 156 1)),
  (156, .inl (lo_push 159 (.int 10387))),
  (159, .inl (lo_bin 160 (fun x y => x + y))),
  (160, .inl (lo_ald 161 0)),
  (161, .inl (lo_ast 162 0)),
  (162, .inl (lo_aload 163 0)),
  (163, .inl (lo_getf 166 11 0)),
  (166, .inl (lo_iload 167 1)),
  (167, .inl (lo_push 170 (.int 186))),
  (170, .inl (lo_bin 171 (fun x y => x + y))),
  (171, .inl (lo_dup2 172)),
  (172, .inl (lo_ald 173 0)),
  (173, .inl (lo_push 174 (.int 1))),
  (174, .inl (lo_bin 175 (fun x y => x + y))),
  (175, .inl (lo_ast 176 0)),
  (176, .inr (.inr 0))]
theorem k_186_0 (L : Nat) (xs : Nat → Int32) : ll_OK1 cX11_newLine RX11 none false ll_mN ll_mR ll_mK ll_cnt L xs false 0 (.inl (lo_aload 1 0)) := lk_aload_n (k := 0) (by decide +kernel) rfl
theorem k_186_1 (L : Nat) (xs : Nat → Int32) : ll_OK1 cX11_newLine RX11 none false ll_mN ll_mR ll_mK ll_cnt L xs false 1 (.inl (lo_getf 4 11 0)) := lk_getf (ix := 8) (ci := 11) (k := 0) (C := RX11) (T := TX11) (N := 46) (by decide +kernel) rfl in_11 (by decide) tb_606
theorem k_186_4 (L : Nat) (xs : Nat → Int32) : ll_OK1 cX11_newLine RX11 none false ll_mN ll_mR ll_mK ll_cnt L xs false 4 (.inl (lo_iload 5 1)) := lk_iload_n (k := 1) (by decide +kernel) rfl
theorem k_186_5 (L : Nat) (xs : Nat → Int32) : ll_OK1 cX11_newLine RX11 none false ll_mN ll_mR ll_mK ll_cnt L xs false 5 (.inl (lo_push 8 (.int 186))) := lk_sipush (n := 186) (by decide +kernel) (by decide)
theorem k_186_8 (L : Nat) (xs : Nat → Int32) : ll_OK1 cX11_newLine RX11 none false ll_mN ll_mR ll_mK ll_cnt L xs false 8 (.inl (lo_bin 9 (fun x y => x + y))) := lk_iadd (by decide +kernel)
theorem k_186_9 (L : Nat) (xs : Nat → Int32) : ll_OK1 cX11_newLine RX11 none false ll_mN ll_mR ll_mK ll_cnt L xs false 9 (.inl (lo_ald 10 0)) := lk_iald (by decide +kernel)
theorem k_186_10 (L : Nat) (xs : Nat → Int32) : ll_OK1 cX11_newLine RX11 none false ll_mN ll_mR ll_mK ll_cnt L xs false 10 (.inl (lo_istore 12 6)) := lk_istore (by decide +kernel)
theorem k_186_12 (L : Nat) (xs : Nat → Int32) : ll_OK1 cX11_newLine RX11 none false ll_mN ll_mR ll_mK ll_cnt L xs false 12 (.inl (lo_aload 13 0)) := lk_aload_n (k := 0) (by decide +kernel) rfl
theorem k_186_13 (L : Nat) (xs : Nat → Int32) : ll_OK1 cX11_newLine RX11 none false ll_mN ll_mR ll_mK ll_cnt L xs false 13 (.inl (lo_getf 16 11 0)) := lk_getf (ix := 8) (ci := 11) (k := 0) (C := RX11) (T := TX11) (N := 46) (by decide +kernel) rfl in_11 (by decide) tb_606
theorem k_186_16 (L : Nat) (xs : Nat → Int32) : ll_OK1 cX11_newLine RX11 none false ll_mN ll_mR ll_mK ll_cnt L xs false 16 (.inl (lo_iload 17 1)) := lk_iload_n (k := 1) (by decide +kernel) rfl
theorem k_186_17 (L : Nat) (xs : Nat → Int32) : ll_OK1 cX11_newLine RX11 none false ll_mN ll_mR ll_mK ll_cnt L xs false 17 (.inl (lo_push 20 (.int 187))) := lk_sipush (n := 187) (by decide +kernel) (by decide)
theorem k_186_20 (L : Nat) (xs : Nat → Int32) : ll_OK1 cX11_newLine RX11 none false ll_mN ll_mR ll_mK ll_cnt L xs false 20 (.inl (lo_bin 21 (fun x y => x + y))) := lk_iadd (by decide +kernel)
theorem k_186_21 (L : Nat) (xs : Nat → Int32) : ll_OK1 cX11_newLine RX11 none false ll_mN ll_mR ll_mK ll_cnt L xs false 21 (.inl (lo_iload 23 6)) := lk_iload (by decide +kernel)
theorem k_186_23 (L : Nat) (xs : Nat → Int32) : ll_OK1 cX11_newLine RX11 none false ll_mN ll_mR ll_mK ll_cnt L xs false 23 (.inl (lo_bin 24 (fun x y => x + y))) := lk_iadd (by decide +kernel)
theorem k_186_24 (L : Nat) (xs : Nat → Int32) : ll_OK1 cX11_newLine RX11 none false ll_mN ll_mR ll_mK ll_cnt L xs false 24 (.inl (lo_iload 25 2)) := lk_iload_n (k := 2) (by decide +kernel) rfl
theorem k_186_25 (L : Nat) (xs : Nat → Int32) : ll_OK1 cX11_newLine RX11 none false ll_mN ll_mR ll_mK ll_cnt L xs false 25 (.inl (lo_ast 26 0)) := lk_iast (by decide +kernel)
theorem k_186_26 (L : Nat) (xs : Nat → Int32) : ll_OK1 cX11_newLine RX11 none false ll_mN ll_mR ll_mK ll_cnt L xs false 26 (.inl (lo_aload 27 0)) := lk_aload_n (k := 0) (by decide +kernel) rfl
theorem k_186_27 (L : Nat) (xs : Nat → Int32) : ll_OK1 cX11_newLine RX11 none false ll_mN ll_mR ll_mK ll_cnt L xs false 27 (.inl (lo_getf 30 11 0)) := lk_getf (ix := 8) (ci := 11) (k := 0) (C := RX11) (T := TX11) (N := 46) (by decide +kernel) rfl in_11 (by decide) tb_606
theorem k_186_30 (L : Nat) (xs : Nat → Int32) : ll_OK1 cX11_newLine RX11 none false ll_mN ll_mR ll_mK ll_cnt L xs false 30 (.inl (lo_iload 31 1)) := lk_iload_n (k := 1) (by decide +kernel) rfl
theorem k_186_31 (L : Nat) (xs : Nat → Int32) : ll_OK1 cX11_newLine RX11 none false ll_mN ll_mR ll_mK ll_cnt L xs false 31 (.inl (lo_push 34 (.int 487))) := lk_sipush (n := 487) (by decide +kernel) (by decide)
theorem k_186_34 (L : Nat) (xs : Nat → Int32) : ll_OK1 cX11_newLine RX11 none false ll_mN ll_mR ll_mK ll_cnt L xs false 34 (.inl (lo_bin 35 (fun x y => x + y))) := lk_iadd (by decide +kernel)
theorem k_186_35 (L : Nat) (xs : Nat → Int32) : ll_OK1 cX11_newLine RX11 none false ll_mN ll_mR ll_mK ll_cnt L xs false 35 (.inl (lo_iload 37 6)) := lk_iload (by decide +kernel)
theorem k_186_37 (L : Nat) (xs : Nat → Int32) : ll_OK1 cX11_newLine RX11 none false ll_mN ll_mR ll_mK ll_cnt L xs false 37 (.inl (lo_bin 38 (fun x y => x + y))) := lk_iadd (by decide +kernel)
theorem k_186_38 (L : Nat) (xs : Nat → Int32) : ll_OK1 cX11_newLine RX11 none false ll_mN ll_mR ll_mK ll_cnt L xs false 38 (.inl (lo_iload 39 3)) := lk_iload_n (k := 3) (by decide +kernel) rfl
theorem k_186_39 (L : Nat) (xs : Nat → Int32) : ll_OK1 cX11_newLine RX11 none false ll_mN ll_mR ll_mK ll_cnt L xs false 39 (.inl (lo_ast 40 0)) := lk_iast (by decide +kernel)
theorem k_186_40 (L : Nat) (xs : Nat → Int32) : ll_OK1 cX11_newLine RX11 none false ll_mN ll_mR ll_mK ll_cnt L xs false 40 (.inl (lo_aload 41 0)) := lk_aload_n (k := 0) (by decide +kernel) rfl
theorem k_186_41 (L : Nat) (xs : Nat → Int32) : ll_OK1 cX11_newLine RX11 none false ll_mN ll_mR ll_mK ll_cnt L xs false 41 (.inl (lo_getf 44 11 0)) := lk_getf (ix := 8) (ci := 11) (k := 0) (C := RX11) (T := TX11) (N := 46) (by decide +kernel) rfl in_11 (by decide) tb_606
theorem k_186_44 (L : Nat) (xs : Nat → Int32) : ll_OK1 cX11_newLine RX11 none false ll_mN ll_mR ll_mK ll_cnt L xs false 44 (.inl (lo_iload 45 1)) := lk_iload_n (k := 1) (by decide +kernel) rfl
theorem k_186_45 (L : Nat) (xs : Nat → Int32) : ll_OK1 cX11_newLine RX11 none false ll_mN ll_mR ll_mK ll_cnt L xs false 45 (.inl (lo_push 48 (.int 787))) := lk_sipush (n := 787) (by decide +kernel) (by decide)
theorem k_186_48 (L : Nat) (xs : Nat → Int32) : ll_OK1 cX11_newLine RX11 none false ll_mN ll_mR ll_mK ll_cnt L xs false 48 (.inl (lo_bin 49 (fun x y => x + y))) := lk_iadd (by decide +kernel)
theorem k_186_49 (L : Nat) (xs : Nat → Int32) : ll_OK1 cX11_newLine RX11 none false ll_mN ll_mR ll_mK ll_cnt L xs false 49 (.inl (lo_iload 51 6)) := lk_iload (by decide +kernel)
theorem k_186_51 (L : Nat) (xs : Nat → Int32) : ll_OK1 cX11_newLine RX11 none false ll_mN ll_mR ll_mK ll_cnt L xs false 51 (.inl (lo_bin 52 (fun x y => x + y))) := lk_iadd (by decide +kernel)
theorem k_186_52 (L : Nat) (xs : Nat → Int32) : ll_OK1 cX11_newLine RX11 none false ll_mN ll_mR ll_mK ll_cnt L xs false 52 (.inl (lo_push 53 (.int (-1)))) := lk_iconst (n := (-1)) (by decide +kernel) (by decide)
theorem k_186_53 (L : Nat) (xs : Nat → Int32) : ll_OK1 cX11_newLine RX11 none false ll_mN ll_mR ll_mK ll_cnt L xs false 53 (.inl (lo_ast 54 0)) := lk_iast (by decide +kernel)
theorem k_186_54 (L : Nat) (xs : Nat → Int32) : ll_OK1 cX11_newLine RX11 none false ll_mN ll_mR ll_mK ll_cnt L xs false 54 (.inl (lo_aload 55 0)) := lk_aload_n (k := 0) (by decide +kernel) rfl
theorem k_186_55 (L : Nat) (xs : Nat → Int32) : ll_OK1 cX11_newLine RX11 none false ll_mN ll_mR ll_mK ll_cnt L xs false 55 (.inl (lo_getf 58 11 0)) := lk_getf (ix := 8) (ci := 11) (k := 0) (C := RX11) (T := TX11) (N := 46) (by decide +kernel) rfl in_11 (by decide) tb_606
theorem k_186_58 (L : Nat) (xs : Nat → Int32) : ll_OK1 cX11_newLine RX11 none false ll_mN ll_mR ll_mK ll_cnt L xs false 58 (.inl (lo_iload 59 1)) := lk_iload_n (k := 1) (by decide +kernel) rfl
theorem k_186_59 (L : Nat) (xs : Nat → Int32) : ll_OK1 cX11_newLine RX11 none false ll_mN ll_mR ll_mK ll_cnt L xs false 59 (.inl (lo_push 62 (.int 1087))) := lk_sipush (n := 1087) (by decide +kernel) (by decide)
theorem k_186_62 (L : Nat) (xs : Nat → Int32) : ll_OK1 cX11_newLine RX11 none false ll_mN ll_mR ll_mK ll_cnt L xs false 62 (.inl (lo_bin 63 (fun x y => x + y))) := lk_iadd (by decide +kernel)
theorem k_186_63 (L : Nat) (xs : Nat → Int32) : ll_OK1 cX11_newLine RX11 none false ll_mN ll_mR ll_mK ll_cnt L xs false 63 (.inl (lo_iload 65 6)) := lk_iload (by decide +kernel)
theorem k_186_65 (L : Nat) (xs : Nat → Int32) : ll_OK1 cX11_newLine RX11 none false ll_mN ll_mR ll_mK ll_cnt L xs false 65 (.inl (lo_bin 66 (fun x y => x + y))) := lk_iadd (by decide +kernel)
theorem k_186_66 (L : Nat) (xs : Nat → Int32) : ll_OK1 cX11_newLine RX11 none false ll_mN ll_mR ll_mK ll_cnt L xs false 66 (.inl (lo_push 67 (.int 0))) := lk_iconst (n := 0) (by decide +kernel) (by decide)
theorem k_186_67 (L : Nat) (xs : Nat → Int32) : ll_OK1 cX11_newLine RX11 none false ll_mN ll_mR ll_mK ll_cnt L xs false 67 (.inl (lo_ast 68 0)) := lk_iast (by decide +kernel)
theorem k_186_68 (L : Nat) (xs : Nat → Int32) : ll_OK1 cX11_newLine RX11 none false ll_mN ll_mR ll_mK ll_cnt L xs false 68 (.inl (lo_aload 69 0)) := lk_aload_n (k := 0) (by decide +kernel) rfl
theorem k_186_69 (L : Nat) (xs : Nat → Int32) : ll_OK1 cX11_newLine RX11 none false ll_mN ll_mR ll_mK ll_cnt L xs false 69 (.inl (lo_getf 72 11 39)) := lk_getf (ix := 101) (ci := 11) (k := 39) (C := RX11) (T := TX11) (N := 46) (by decide +kernel) rfl in_11 (by decide) tb_636
theorem k_186_72 (L : Nat) (xs : Nat → Int32) : ll_OK1 cX11_newLine RX11 none false ll_mN ll_mR ll_mK ll_cnt L xs false 72 (.inl (lo_iload 74 6)) := lk_iload (by decide +kernel)
theorem k_186_74 (L : Nat) (xs : Nat → Int32) : ll_OK1 cX11_newLine RX11 none false ll_mN ll_mR ll_mK ll_cnt L xs false 74 (.inl (lo_iload 76 4)) := lk_iload (by decide +kernel)
theorem k_186_76 (L : Nat) (xs : Nat → Int32) : ll_OK1 cX11_newLine RX11 none false ll_mN ll_mR ll_mK ll_cnt L xs false 76 (.inl (lo_ast 77 0)) := lk_iast (by decide +kernel)
theorem k_186_77 (L : Nat) (xs : Nat → Int32) : ll_OK1 cX11_newLine RX11 none false ll_mN ll_mR ll_mK ll_cnt L xs false 77 (.inl (lo_aload 78 0)) := lk_aload_n (k := 0) (by decide +kernel) rfl
theorem k_186_78 (L : Nat) (xs : Nat → Int32) : ll_OK1 cX11_newLine RX11 none false ll_mN ll_mR ll_mK ll_cnt L xs false 78 (.inl (lo_getf 81 11 40)) := lk_getf (ix := 104) (ci := 11) (k := 40) (C := RX11) (T := TX11) (N := 46) (by decide +kernel) rfl in_11 (by decide) tb_637
theorem k_186_81 (L : Nat) (xs : Nat → Int32) : ll_OK1 cX11_newLine RX11 none false ll_mN ll_mR ll_mK ll_cnt L xs false 81 (.inl (lo_iload 83 6)) := lk_iload (by decide +kernel)
theorem k_186_83 (L : Nat) (xs : Nat → Int32) : ll_OK1 cX11_newLine RX11 none false ll_mN ll_mR ll_mK ll_cnt L xs false 83 (.inl (lo_iload 85 5)) := lk_iload (by decide +kernel)
theorem k_186_85 (L : Nat) (xs : Nat → Int32) : ll_OK1 cX11_newLine RX11 none false ll_mN ll_mR ll_mK ll_cnt L xs false 85 (.inl (lo_ast 86 0)) := lk_iast (by decide +kernel)
theorem k_186_86 (L : Nat) (xs : Nat → Int32) : ll_OK1 cX11_newLine RX11 none false ll_mN ll_mR ll_mK ll_cnt L xs false 86 (.inl (lo_aload 87 0)) := lk_aload_n (k := 0) (by decide +kernel) rfl
theorem k_186_87 (L : Nat) (xs : Nat → Int32) : ll_OK1 cX11_newLine RX11 none false ll_mN ll_mR ll_mK ll_cnt L xs false 87 (.inl (lo_getf 90 11 41)) := lk_getf (ix := 107) (ci := 11) (k := 41) (C := RX11) (T := TX11) (N := 46) (by decide +kernel) rfl in_11 (by decide) tb_638
theorem k_186_90 (L : Nat) (xs : Nat → Int32) : ll_OK1 cX11_newLine RX11 none false ll_mN ll_mR ll_mK ll_cnt L xs false 90 (.inl (lo_iload 92 6)) := lk_iload (by decide +kernel)
theorem k_186_92 (L : Nat) (xs : Nat → Int32) : ll_OK1 cX11_newLine RX11 none false ll_mN ll_mR ll_mK ll_cnt L xs false 92 (.inl (lo_iload 94 4)) := lk_iload (by decide +kernel)
theorem k_186_94 (L : Nat) (xs : Nat → Int32) : ll_OK1 cX11_newLine RX11 none false ll_mN ll_mR ll_mK ll_cnt L xs false 94 (.inl (lo_push 95 (.int (-1)))) := lk_iconst (n := (-1)) (by decide +kernel) (by decide)
theorem k_186_95 (L : Nat) (xs : Nat → Int32) : ll_OK1 cX11_newLine RX11 none false ll_mN ll_mR ll_mK ll_cnt L xs false 95 (.inl (lo_cmp 102 98 (fun x y => decide (¬ x = y)))) := lk_icmp_ne (off := 7) (by decide +kernel) rfl
theorem k_186_98 (L : Nat) (xs : Nat → Int32) : ll_OK1 cX11_newLine RX11 none false ll_mN ll_mR ll_mK ll_cnt L xs false 98 (.inl (lo_push 99 (.int 0))) := lk_iconst (n := 0) (by decide +kernel) (by decide)
theorem k_186_99 (L : Nat) (xs : Nat → Int32) : ll_OK1 cX11_newLine RX11 none false ll_mN ll_mR ll_mK ll_cnt L xs false 99 (.inl (lo_goto 111)) := lk_goto (off := 12) (by decide +kernel) rfl
theorem k_186_102 (L : Nat) (xs : Nat → Int32) : ll_OK1 cX11_newLine RX11 none false ll_mN ll_mR ll_mK ll_cnt L xs false 102 (.inl (lo_aload 103 0)) := lk_aload_n (k := 0) (by decide +kernel) rfl
theorem k_186_103 (L : Nat) (xs : Nat → Int32) : ll_OK1 cX11_newLine RX11 none false ll_mN ll_mR ll_mK ll_cnt L xs false 103 (.inl (lo_getf 106 11 41)) := lk_getf (ix := 107) (ci := 11) (k := 41) (C := RX11) (T := TX11) (N := 46) (by decide +kernel) rfl in_11 (by decide) tb_638
theorem k_186_106 (L : Nat) (xs : Nat → Int32) : ll_OK1 cX11_newLine RX11 none false ll_mN ll_mR ll_mK ll_cnt L xs false 106 (.inl (lo_iload 108 4)) := lk_iload (by decide +kernel)
theorem k_186_108 (L : Nat) (xs : Nat → Int32) : ll_OK1 cX11_newLine RX11 none false ll_mN ll_mR ll_mK ll_cnt L xs false 108 (.inl (lo_ald 109 0)) := lk_iald (by decide +kernel)
theorem k_186_109 (L : Nat) (xs : Nat → Int32) : ll_OK1 cX11_newLine RX11 none false ll_mN ll_mR ll_mK ll_cnt L xs false 109 (.inl (lo_push 110 (.int 1))) := lk_iconst (n := 1) (by decide +kernel) (by decide)
theorem k_186_110 (L : Nat) (xs : Nat → Int32) : ll_OK1 cX11_newLine RX11 none false ll_mN ll_mR ll_mK ll_cnt L xs false 110 (.inl (lo_bin 111 (fun x y => x + y))) := lk_iadd (by decide +kernel)
theorem k_186_111 (L : Nat) (xs : Nat → Int32) : ll_OK1 cX11_newLine RX11 none false ll_mN ll_mR ll_mK ll_cnt L xs false 111 (.inl (lo_ast 112 0)) := lk_iast (by decide +kernel)
theorem k_186_112 (L : Nat) (xs : Nat → Int32) : ll_OK1 cX11_newLine RX11 none false ll_mN ll_mR ll_mK ll_cnt L xs false 112 (.inl (lo_aload 113 0)) := lk_aload_n (k := 0) (by decide +kernel) rfl
theorem k_186_113 (L : Nat) (xs : Nat → Int32) : ll_OK1 cX11_newLine RX11 none false ll_mN ll_mR ll_mK ll_cnt L xs false 113 (.inl (lo_getf 116 11 0)) := lk_getf (ix := 8) (ci := 11) (k := 0) (C := RX11) (T := TX11) (N := 46) (by decide +kernel) rfl in_11 (by decide) tb_606
theorem k_186_116 (L : Nat) (xs : Nat → Int32) : ll_OK1 cX11_newLine RX11 none false ll_mN ll_mR ll_mK ll_cnt L xs false 116 (.inl (lo_iload 117 1)) := lk_iload_n (k := 1) (by decide +kernel) rfl
theorem k_186_117 (L : Nat) (xs : Nat → Int32) : ll_OK1 cX11_newLine RX11 none false ll_mN ll_mR ll_mK ll_cnt L xs false 117 (.inl (lo_push 120 (.int 10387))) := lk_sipush (n := 10387) (by decide +kernel) (by decide)
theorem k_186_120 (L : Nat) (xs : Nat → Int32) : ll_OK1 cX11_newLine RX11 none false ll_mN ll_mR ll_mK ll_cnt L xs false 120 (.inl (lo_bin 121 (fun x y => x + y))) := lk_iadd (by decide +kernel)
theorem k_186_121 (L : Nat) (xs : Nat → Int32) : ll_OK1 cX11_newLine RX11 none false ll_mN ll_mR ll_mK ll_cnt L xs false 121 (.inl (lo_aload 122 0)) := lk_aload_n (k := 0) (by decide +kernel) rfl
theorem k_186_122 (L : Nat) (xs : Nat → Int32) : ll_OK1 cX11_newLine RX11 none false ll_mN ll_mR ll_mK ll_cnt L xs false 122 (.inl (lo_getf 125 11 41)) := lk_getf (ix := 107) (ci := 11) (k := 41) (C := RX11) (T := TX11) (N := 46) (by decide +kernel) rfl in_11 (by decide) tb_638
theorem k_186_125 (L : Nat) (xs : Nat → Int32) : ll_OK1 cX11_newLine RX11 none false ll_mN ll_mR ll_mK ll_cnt L xs false 125 (.inl (lo_iload 127 6)) := lk_iload (by decide +kernel)
theorem k_186_127 (L : Nat) (xs : Nat → Int32) : ll_OK1 cX11_newLine RX11 none false ll_mN ll_mR ll_mK ll_cnt L xs false 127 (.inl (lo_ald 128 0)) := lk_iald (by decide +kernel)
theorem k_186_128 (L : Nat) (xs : Nat → Int32) : ll_OK1 cX11_newLine RX11 none false ll_mN ll_mR ll_mK ll_cnt L xs false 128 (.inl (lo_aload 129 0)) := lk_aload_n (k := 0) (by decide +kernel) rfl
theorem k_186_129 (L : Nat) (xs : Nat → Int32) : ll_OK1 cX11_newLine RX11 none false ll_mN ll_mR ll_mK ll_cnt L xs false 129 (.inl (lo_getf 132 11 0)) := lk_getf (ix := 8) (ci := 11) (k := 0) (C := RX11) (T := TX11) (N := 46) (by decide +kernel) rfl in_11 (by decide) tb_606
theorem k_186_132 (L : Nat) (xs : Nat → Int32) : ll_OK1 cX11_newLine RX11 none false ll_mN ll_mR ll_mK ll_cnt L xs false 132 (.inl (lo_iload 133 1)) := lk_iload_n (k := 1) (by decide +kernel) rfl
theorem k_186_133 (L : Nat) (xs : Nat → Int32) : ll_OK1 cX11_newLine RX11 none false ll_mN ll_mR ll_mK ll_cnt L xs false 133 (.inl (lo_push 136 (.int 10387))) := lk_sipush (n := 10387) (by decide +kernel) (by decide)
theorem k_186_136 (L : Nat) (xs : Nat → Int32) : ll_OK1 cX11_newLine RX11 none false ll_mN ll_mR ll_mK ll_cnt L xs false 136 (.inl (lo_bin 137 (fun x y => x + y))) := lk_iadd (by decide +kernel)
theorem k_186_137 (L : Nat) (xs : Nat → Int32) : ll_OK1 cX11_newLine RX11 none false ll_mN ll_mR ll_mK ll_cnt L xs false 137 (.inl (lo_ald 138 0)) := lk_iald (by decide +kernel)
theorem k_186_138 (L : Nat) (xs : Nat → Int32) : ll_OK1 cX11_newLine RX11 none false ll_mN ll_mR ll_mK ll_cnt L xs false 138 (.inl (lo_cmp 151 141 (fun x y => decide (x ≤ y)))) := lk_icmp_le (off := 13) (by decide +kernel) rfl
theorem k_186_141 (L : Nat) (xs : Nat → Int32) : ll_OK1 cX11_newLine RX11 none false ll_mN ll_mR ll_mK ll_cnt L xs false 141 (.inl (lo_aload 142 0)) := lk_aload_n (k := 0) (by decide +kernel) rfl
theorem k_186_142 (L : Nat) (xs : Nat → Int32) : ll_OK1 cX11_newLine RX11 none false ll_mN ll_mR ll_mK ll_cnt L xs false 142 (.inl (lo_getf 145 11 41)) := lk_getf (ix := 107) (ci := 11) (k := 41) (C := RX11) (T := TX11) (N := 46) (by decide +kernel) rfl in_11 (by decide) tb_638
theorem k_186_145 (L : Nat) (xs : Nat → Int32) : ll_OK1 cX11_newLine RX11 none false ll_mN ll_mR ll_mK ll_cnt L xs false 145 (.inl (lo_iload 147 6)) := lk_iload (by decide +kernel)
theorem k_186_147 (L : Nat) (xs : Nat → Int32) : ll_OK1 cX11_newLine RX11 none false ll_mN ll_mR ll_mK ll_cnt L xs false 147 (.inl (lo_ald 148 0)) := lk_iald (by decide +kernel)
theorem k_186_148 (L : Nat) (xs : Nat → Int32) : ll_OK1 cX11_newLine RX11 none false ll_mN ll_mR ll_mK ll_cnt L xs false 148 (.inl (lo_goto 161)) := lk_goto (off := 13) (by decide +kernel) rfl
theorem k_186_151 (L : Nat) (xs : Nat → Int32) : ll_OK1 cX11_newLine RX11 none false ll_mN ll_mR ll_mK ll_cnt L xs false 151 (.inl (lo_aload 152 0)) := lk_aload_n (k := 0) (by decide +kernel) rfl
theorem k_186_152 (L : Nat) (xs : Nat → Int32) : ll_OK1 cX11_newLine RX11 none false ll_mN ll_mR ll_mK ll_cnt L xs false 152 (.inl (lo_getf 155 11 0)) := lk_getf (ix := 8) (ci := 11) (k := 0) (C := RX11) (T := TX11) (N := 46) (by decide +kernel) rfl in_11 (by decide) tb_606
theorem k_186_155 (L : Nat) (xs : Nat → Int32) : ll_OK1 cX11_newLine RX11 none false ll_mN ll_mR ll_mK ll_cnt L xs false 155 (.inl (lo_iload 156 1)) := lk_iload_n (k := 1) (by decide +kernel) rfl
theorem k_186_156 (L : Nat) (xs : Nat → Int32) : ll_OK1 cX11_newLine RX11 none false ll_mN ll_mR ll_mK ll_cnt L xs false 156 (.inl (lo_push 159 (.int 10387))) := lk_sipush (n := 10387) (by decide +kernel) (by decide)
theorem k_186_159 (L : Nat) (xs : Nat → Int32) : ll_OK1 cX11_newLine RX11 none false ll_mN ll_mR ll_mK ll_cnt L xs false 159 (.inl (lo_bin 160 (fun x y => x + y))) := lk_iadd (by decide +kernel)
theorem k_186_160 (L : Nat) (xs : Nat → Int32) : ll_OK1 cX11_newLine RX11 none false ll_mN ll_mR ll_mK ll_cnt L xs false 160 (.inl (lo_ald 161 0)) := lk_iald (by decide +kernel)
theorem k_186_161 (L : Nat) (xs : Nat → Int32) : ll_OK1 cX11_newLine RX11 none false ll_mN ll_mR ll_mK ll_cnt L xs false 161 (.inl (lo_ast 162 0)) := lk_iast (by decide +kernel)
theorem k_186_162 (L : Nat) (xs : Nat → Int32) : ll_OK1 cX11_newLine RX11 none false ll_mN ll_mR ll_mK ll_cnt L xs false 162 (.inl (lo_aload 163 0)) := lk_aload_n (k := 0) (by decide +kernel) rfl
theorem k_186_163 (L : Nat) (xs : Nat → Int32) : ll_OK1 cX11_newLine RX11 none false ll_mN ll_mR ll_mK ll_cnt L xs false 163 (.inl (lo_getf 166 11 0)) := lk_getf (ix := 8) (ci := 11) (k := 0) (C := RX11) (T := TX11) (N := 46) (by decide +kernel) rfl in_11 (by decide) tb_606
theorem k_186_166 (L : Nat) (xs : Nat → Int32) : ll_OK1 cX11_newLine RX11 none false ll_mN ll_mR ll_mK ll_cnt L xs false 166 (.inl (lo_iload 167 1)) := lk_iload_n (k := 1) (by decide +kernel) rfl
theorem k_186_167 (L : Nat) (xs : Nat → Int32) : ll_OK1 cX11_newLine RX11 none false ll_mN ll_mR ll_mK ll_cnt L xs false 167 (.inl (lo_push 170 (.int 186))) := lk_sipush (n := 186) (by decide +kernel) (by decide)
theorem k_186_170 (L : Nat) (xs : Nat → Int32) : ll_OK1 cX11_newLine RX11 none false ll_mN ll_mR ll_mK ll_cnt L xs false 170 (.inl (lo_bin 171 (fun x y => x + y))) := lk_iadd (by decide +kernel)
theorem k_186_171 (L : Nat) (xs : Nat → Int32) : ll_OK1 cX11_newLine RX11 none false ll_mN ll_mR ll_mK ll_cnt L xs false 171 (.inl (lo_dup2 172)) := lk_dup2 (by decide +kernel)
theorem k_186_172 (L : Nat) (xs : Nat → Int32) : ll_OK1 cX11_newLine RX11 none false ll_mN ll_mR ll_mK ll_cnt L xs false 172 (.inl (lo_ald 173 0)) := lk_iald (by decide +kernel)
theorem k_186_173 (L : Nat) (xs : Nat → Int32) : ll_OK1 cX11_newLine RX11 none false ll_mN ll_mR ll_mK ll_cnt L xs false 173 (.inl (lo_push 174 (.int 1))) := lk_iconst (n := 1) (by decide +kernel) (by decide)
theorem k_186_174 (L : Nat) (xs : Nat → Int32) : ll_OK1 cX11_newLine RX11 none false ll_mN ll_mR ll_mK ll_cnt L xs false 174 (.inl (lo_bin 175 (fun x y => x + y))) := lk_iadd (by decide +kernel)
theorem k_186_175 (L : Nat) (xs : Nat → Int32) : ll_OK1 cX11_newLine RX11 none false ll_mN ll_mR ll_mK ll_cnt L xs false 175 (.inl (lo_ast 176 0)) := lk_iast (by decide +kernel)
theorem k_186_176 (L : Nat) (xs : Nat → Int32) : ll_OK1 cX11_newLine RX11 none false ll_mN ll_mR ll_mK ll_cnt L xs false 176 (.inr (.inr 0)) := ⟨fun _ => ⟨(by decide +kernel), rfl⟩, (fun h => by cases h), fun h => by cases h⟩
theorem ok_186 (L : Nat) (xs : Nat → Int32) : ∀ q ∈ cd_186, ll_OK1 cX11_newLine RX11 none false ll_mN ll_mR ll_mK ll_cnt L xs false q.1 q.2 :=
  List.forall_mem_cons.mpr ⟨k_186_0 L xs, List.forall_mem_cons.mpr ⟨k_186_1 L xs, List.forall_mem_cons.mpr ⟨k_186_4 L xs, List.forall_mem_cons.mpr ⟨k_186_5 L xs, List.forall_mem_cons.mpr ⟨k_186_8 L xs, List.forall_mem_cons.mpr ⟨k_186_9 L xs, List.forall_mem_cons.mpr ⟨k_186_10 L xs, List.forall_mem_cons.mpr ⟨k_186_12 L xs, List.forall_mem_cons.mpr ⟨k_186_13 L xs, List.forall_mem_cons.mpr ⟨k_186_16 L xs, List.forall_mem_cons.mpr ⟨k_186_17 L xs, List.forall_mem_cons.mpr ⟨k_186_20 L xs, List.forall_mem_cons.mpr ⟨k_186_21 L xs, List.forall_mem_cons.mpr ⟨k_186_23 L xs, List.forall_mem_cons.mpr ⟨k_186_24 L xs, List.forall_mem_cons.mpr ⟨k_186_25 L xs, List.forall_mem_cons.mpr ⟨k_186_26 L xs, List.forall_mem_cons.mpr ⟨k_186_27 L xs, List.forall_mem_cons.mpr ⟨k_186_30 L xs, List.forall_mem_cons.mpr ⟨k_186_31 L xs, List.forall_mem_cons.mpr ⟨k_186_34 L xs, List.forall_mem_cons.mpr ⟨k_186_35 L xs, List.forall_mem_cons.mpr ⟨k_186_37 L xs, List.forall_mem_cons.mpr ⟨k_186_38 L xs, List.forall_mem_cons.mpr ⟨k_186_39 L xs, List.forall_mem_cons.mpr ⟨k_186_40 L xs, List.forall_mem_cons.mpr ⟨k_186_41 L xs, List.forall_mem_cons.mpr ⟨k_186_44 L xs, List.forall_mem_cons.mpr ⟨k_186_45 L xs, List.forall_mem_cons.mpr ⟨k_186_48 L xs, List.forall_mem_cons.mpr ⟨k_186_49 L xs, List.forall_mem_cons.mpr ⟨k_186_51 L xs, List.forall_mem_cons.mpr ⟨k_186_52 L xs, List.forall_mem_cons.mpr ⟨k_186_53 L xs, List.forall_mem_cons.mpr ⟨k_186_54 L xs, List.forall_mem_cons.mpr ⟨k_186_55 L xs, List.forall_mem_cons.mpr ⟨k_186_58 L xs, List.forall_mem_cons.mpr ⟨k_186_59 L xs, List.forall_mem_cons.mpr ⟨k_186_62 L xs, List.forall_mem_cons.mpr ⟨k_186_63 L xs, List.forall_mem_cons.mpr ⟨k_186_65 L xs, List.forall_mem_cons.mpr ⟨k_186_66 L xs, List.forall_mem_cons.mpr ⟨k_186_67 L xs, List.forall_mem_cons.mpr ⟨k_186_68 L xs, List.forall_mem_cons.mpr ⟨k_186_69 L xs, List.forall_mem_cons.mpr ⟨k_186_72 L xs, List.forall_mem_cons.mpr ⟨k_186_74 L xs, List.forall_mem_cons.mpr ⟨k_186_76 L xs, List.forall_mem_cons.mpr ⟨k_186_77 L xs, List.forall_mem_cons.mpr ⟨k_186_78 L xs, List.forall_mem_cons.mpr ⟨k_186_81 L xs, List.forall_mem_cons.mpr ⟨k_186_83 L xs, List.forall_mem_cons.mpr ⟨k_186_85 L xs, List.forall_mem_cons.mpr ⟨k_186_86 L xs, List.forall_mem_cons.mpr ⟨k_186_87 L xs, List.forall_mem_cons.mpr ⟨k_186_90 L xs, List.forall_mem_cons.mpr ⟨k_186_92 L xs, List.forall_mem_cons.mpr ⟨k_186_94 L xs, List.forall_mem_cons.mpr ⟨k_186_95 L xs, List.forall_mem_cons.mpr ⟨k_186_98 L xs, List.forall_mem_cons.mpr ⟨k_186_99 L xs, List.forall_mem_cons.mpr ⟨k_186_102 L xs, List.forall_mem_cons.mpr ⟨k_186_103 L xs, List.forall_mem_cons.mpr ⟨k_186_106 L xs, List.forall_mem_cons.mpr ⟨k_186_108 L xs, List.forall_mem_cons.mpr ⟨k_186_109 L xs, List.forall_mem_cons.mpr ⟨k_186_110 L xs, List.forall_mem_cons.mpr ⟨k_186_111 L xs, List.forall_mem_cons.mpr ⟨k_186_112 L xs, List.forall_mem_cons.mpr ⟨k_186_113 L xs, List.forall_mem_cons.mpr ⟨k_186_116 L xs, List.forall_mem_cons.mpr ⟨k_186_117 L xs, List.forall_mem_cons.mpr ⟨k_186_120 L xs, List.forall_mem_cons.mpr ⟨k_186_121 L xs, List.forall_mem_cons.mpr ⟨k_186_122 L xs, List.forall_mem_cons.mpr ⟨k_186_125 L xs, List.forall_mem_cons.mpr ⟨k_186_127 L xs, List.forall_mem_cons.mpr ⟨k_186_128 L xs, List.forall_mem_cons.mpr ⟨k_186_129 L xs, List.forall_mem_cons.mpr ⟨k_186_132 L xs, List.forall_mem_cons.mpr ⟨k_186_133 L xs, List.forall_mem_cons.mpr ⟨k_186_136 L xs, List.forall_mem_cons.mpr ⟨k_186_137 L xs, List.forall_mem_cons.mpr ⟨k_186_138 L xs, List.forall_mem_cons.mpr ⟨k_186_141 L xs, List.forall_mem_cons.mpr ⟨k_186_142 L xs, List.forall_mem_cons.mpr ⟨k_186_145 L xs, List.forall_mem_cons.mpr ⟨k_186_147 L xs, List.forall_mem_cons.mpr ⟨k_186_148 L xs, List.forall_mem_cons.mpr ⟨k_186_151 L xs, List.forall_mem_cons.mpr ⟨k_186_152 L xs, List.forall_mem_cons.mpr ⟨k_186_155 L xs, List.forall_mem_cons.mpr ⟨k_186_156 L xs, List.forall_mem_cons.mpr ⟨k_186_159 L xs, List.forall_mem_cons.mpr ⟨k_186_160 L xs, List.forall_mem_cons.mpr ⟨k_186_161 L xs, List.forall_mem_cons.mpr ⟨k_186_162 L xs, List.forall_mem_cons.mpr ⟨k_186_163 L xs, List.forall_mem_cons.mpr ⟨k_186_166 L xs, List.forall_mem_cons.mpr ⟨k_186_167 L xs, List.forall_mem_cons.mpr ⟨k_186_170 L xs, List.forall_mem_cons.mpr ⟨k_186_171 L xs, List.forall_mem_cons.mpr ⟨k_186_172 L xs, List.forall_mem_cons.mpr ⟨k_186_173 L xs, List.forall_mem_cons.mpr ⟨k_186_174 L xs, List.forall_mem_cons.mpr ⟨k_186_175 L xs, List.forall_mem_cons.mpr ⟨k_186_176 L xs, fun _ h => absurd h List.not_mem_nil⟩⟩⟩⟩⟩⟩⟩⟩⟩⟩⟩⟩⟩⟩⟩⟩⟩⟩⟩⟩⟩⟩⟩⟩⟩⟩⟩⟩⟩⟩⟩⟩⟩⟩⟩⟩⟩⟩⟩⟩⟩⟩⟩⟩⟩⟩⟩⟩⟩⟩⟩⟩⟩⟩⟩⟩⟩⟩⟩⟩⟩⟩⟩⟩⟩⟩⟩⟩⟩⟩⟩⟩⟩⟩⟩⟩⟩⟩⟩⟩⟩⟩⟩⟩⟩⟩⟩⟩⟩⟩⟩⟩⟩⟩⟩⟩⟩⟩⟩⟩⟩⟩⟩⟩⟩⟩⟩
/-- InclusionProverModel.steps.(II)Z -/
def cd_187 : List (Nat × ll_O) := [
  (0, .inl (lo_aload 1 0)),
  (1, .inl (lo_getf 4 11 0)),
  (4, .inl (lo_iload 5 1)),
  (5, .inl (lo_push 8 (.int 487))),
  (8, .inl (lo_bin 9 (fun x y => x + y))),
  (9, .inl (lo_iload 10 2)),
  (10, .inl (lo_bin 11 (fun x y => x + y))),
  (11, .inl (lo_ald 12 0)),
  (12, .inl (lo_istore 13 3)),
  (13, .inl (lo_push 14 (.int 0))),
  (14, .inl (lo_istore 16 4)),
  (16, .inl (lo_push 17 (.int 0))),
  (17, .inl (lo_istore 19 5)),
  (19, .inl (lo_iload 21 5)),
  (21, .inl (lo_push 22 (.int 3))),
  (22, .inl (lo_cmp 184 25 (fun x y => decide (y ≤ x)))),
  (25, .inl (lo_aload 26 0)),
  (26, .inl (lo_push 27 (.int 1))),
  (27, .inl (lo_iload 28 3)),
  (28, .inl (lo_iload 30 5)),
  (30, .inr (.inl (183, 4, 33))),
  (33, .inl (lo_istore 35 6)),
  (35, .inl (lo_push 36 (.int 3))),
  (36, .inl (lo_aload 37 0)),
  (37, .inl (lo_getf 40 11 0)),
  (40, .inl (lo_iload 41 1)),
  (41, .inl (lo_push 44 (.int 187))),
  (44, .inl (lo_bin 45 (fun x y => x + y))),
  (45, .inl (lo_iload 46 2)),
  (46, .inl (lo_bin 47 (fun x y => x + y))),
  (47, .inl (lo_ald 48 0)),
  (48, .inl (lo_bin 49 (fun x y => x * y))),
  (49, .inl (lo_iload 51 5)),
  (51, .inl (lo_bin 52 (fun x y => x + y))),
  (52, .inl (lo_istore 54 7)),
  (54, .inl (lo_push 55 (.int 0))),
  (55, .inl (lo_istore 57 8)),
  (57, .inl (lo_iload 59 8)),
  (59, .inl (lo_aload 60 0)),
  (60, .inl (lo_getf 63 11 38)),
  (63, .inl (lo_iload 65 7)),
  (65, .inl (lo_ald 66 0)),
  (66, .inl (lo_cmp 178 69 (fun x y => decide (y ≤ x)))),
  (69, .inl (lo_aload 70 0)),
  (70, .inl (lo_getf 73 11 37)),
  (73, .inl (lo_push 75 (.int 31))),
  (75, .inl (lo_iload 77 7)),
  (77, .inl (lo_bin 78 (fun x y => x * y))),
  (78, .inl (lo_iload 80 8)),
  (80, .inl (lo_bin 81 (fun x y => x + y))),
  (81, .inl (lo_ald 82 0)),
  (82, .inl (lo_istore 84 9)),
  (84, .inl (lo_aload 85 0)),
  (85, .inl (lo_iload 86 1)),
  (86, .inl (lo_iload 88 9)),
  (88, .inl (lo_iload 90 6)),
  (90, .inr (.inl (185, 4, 93))),
  (93, .inl (lo_istore 95 10)),
  (95, .inl (lo_iload 97 10)),
  (97, .inl (lo_push 98 (.int (-1)))),
  (98, .inl (lo_cmp 119 101 (fun x y => decide (¬ x = y)))),
  (101, .inl (lo_aload 102 0)),
  (102, .inl (lo_getf 105 11 0)),
  (105, .inl (lo_iload 106 1)),
  (106, .inl (lo_push 109 (.int 186))),
  (109, .inl (lo_bin 110 (fun x y => x + y))),
  (110, .inl (lo_ald 111 0)),
  (111, .inl (lo_push 114 (.int 300))),
  (114, .inl (lo_cmp 119 117 (fun x y => decide (¬ x = y)))),
  (117, .inl (lo_push 118 (.int 0))),
  (118, .inr (.inr 2)),
  (119, .inl (lo_iload 121 10)),
  (121, .inl (lo_push 122 (.int (-1)))),
  (122, .inl (lo_cmp 149 125 (fun x y => decide (¬ x = y)))),
  (125, .inl (lo_aload 126 0)),
  (126, .inl (lo_getf 129 11 0)),
  (129, .inl (lo_iload 130 1)),
  (130, .inl (lo_push 133 (.int 186))),
  (133, .inl (lo_bin 134 (fun x y => x + y))),
  (134, .inl (lo_ald 135 0)),
  (135, .inl (lo_istore 137 10)),
  (137, .inl (lo_aload 138 0)),
  (138, .inl (lo_iload 139 1)),
  (139, .inl (lo_iload 141 9)),
  (141, .inl (lo_iload 143 6)),
  (143, .inl (lo_iload 144 2)),
  (144, .inl (lo_iload 146 5)),
  (146, .inr (.inl (186, 6, 149))),
  (149, .inl (lo_aload 150 0)),
  (150, .inl (lo_getf 153 11 0)),
  (153, .inl (lo_iload 154 1)),
  (154, .inl (lo_push 157 (.int 1387))),
  (157, .inl (lo_bin 158 (fun x y => x + y))),
  (158, .inl (lo_push 160 (.int 30))),
  (160, .inl (lo_iload 161 2)),
  (161, .inl (lo_bin 162 (fun x y => x * y))),
  (162, .inl (lo_bin 163 (fun x y => x + y))),
  (163, .inl (lo_iload 165 4)),
  (165, .inl (lo_bin 166 (fun x y => x + y))),
  (166, .inl (lo_iload 168 10)),
  (168, .inl (lo_ast 169 0)),
  (169, .inl (lo_iinc 172 4 1)),
  (172, .inl (lo_iinc 175 8 1)),
  (175, .inl (lo_goto 57)),
  (178, .inl (lo_iinc 181 5 1)),
  (181, .inl (lo_goto 19)),
  (184, .inl (lo_aload 185 0)),
  (185, .inl (lo_getf 188 11 0)),
  (188, .inl (lo_iload 189 1)),
  (189, .inl (lo_push 192 (.int 787))),
  (192, .inl (lo_bin 193 (fun x y => x + y))),
  (193, .inl (lo_iload 194 2)),
  (194, .inl (lo_bin 195 (fun x y => x + y))),
  (195, .inl (lo_push 196 (.int 1))),
  (196, .inl (lo_ast 197 0)),
  (197, .inl (lo_aload 198 0)),
  (198, .inl (lo_getf 201 11 0)),
  (201, .inl (lo_iload 202 1)),
  (202, .inl (lo_push 205 (.int 1087))),
  (205, .inl (lo_bin 206 (fun x y => x + y))),
  (206, .inl (lo_iload 207 2)),
  (207, .inl (lo_bin 208 (fun x y => x + y))),
  (208, .inl (lo_iload 210 4)),
  (210, .inl (lo_ast 211 0)),
  (211, .inl (lo_push 212 (.int 1))),
  (212, .inr (.inr 2))]
theorem k_187_0 (L : Nat) (xs : Nat → Int32) : ll_OK1 cX11_steps RX11 (some .boolean) false ll_mN ll_mR ll_mK ll_cnt L xs false 0 (.inl (lo_aload 1 0)) := lk_aload_n (k := 0) (by decide +kernel) rfl
theorem k_187_1 (L : Nat) (xs : Nat → Int32) : ll_OK1 cX11_steps RX11 (some .boolean) false ll_mN ll_mR ll_mK ll_cnt L xs false 1 (.inl (lo_getf 4 11 0)) := lk_getf (ix := 8) (ci := 11) (k := 0) (C := RX11) (T := TX11) (N := 46) (by decide +kernel) rfl in_11 (by decide) tb_606
theorem k_187_4 (L : Nat) (xs : Nat → Int32) : ll_OK1 cX11_steps RX11 (some .boolean) false ll_mN ll_mR ll_mK ll_cnt L xs false 4 (.inl (lo_iload 5 1)) := lk_iload_n (k := 1) (by decide +kernel) rfl
theorem k_187_5 (L : Nat) (xs : Nat → Int32) : ll_OK1 cX11_steps RX11 (some .boolean) false ll_mN ll_mR ll_mK ll_cnt L xs false 5 (.inl (lo_push 8 (.int 487))) := lk_sipush (n := 487) (by decide +kernel) (by decide)
theorem k_187_8 (L : Nat) (xs : Nat → Int32) : ll_OK1 cX11_steps RX11 (some .boolean) false ll_mN ll_mR ll_mK ll_cnt L xs false 8 (.inl (lo_bin 9 (fun x y => x + y))) := lk_iadd (by decide +kernel)
theorem k_187_9 (L : Nat) (xs : Nat → Int32) : ll_OK1 cX11_steps RX11 (some .boolean) false ll_mN ll_mR ll_mK ll_cnt L xs false 9 (.inl (lo_iload 10 2)) := lk_iload_n (k := 2) (by decide +kernel) rfl
theorem k_187_10 (L : Nat) (xs : Nat → Int32) : ll_OK1 cX11_steps RX11 (some .boolean) false ll_mN ll_mR ll_mK ll_cnt L xs false 10 (.inl (lo_bin 11 (fun x y => x + y))) := lk_iadd (by decide +kernel)
theorem k_187_11 (L : Nat) (xs : Nat → Int32) : ll_OK1 cX11_steps RX11 (some .boolean) false ll_mN ll_mR ll_mK ll_cnt L xs false 11 (.inl (lo_ald 12 0)) := lk_iald (by decide +kernel)
theorem k_187_12 (L : Nat) (xs : Nat → Int32) : ll_OK1 cX11_steps RX11 (some .boolean) false ll_mN ll_mR ll_mK ll_cnt L xs false 12 (.inl (lo_istore 13 3)) := lk_istore_n (k := 3) (by decide +kernel) rfl
theorem k_187_13 (L : Nat) (xs : Nat → Int32) : ll_OK1 cX11_steps RX11 (some .boolean) false ll_mN ll_mR ll_mK ll_cnt L xs false 13 (.inl (lo_push 14 (.int 0))) := lk_iconst (n := 0) (by decide +kernel) (by decide)
theorem k_187_14 (L : Nat) (xs : Nat → Int32) : ll_OK1 cX11_steps RX11 (some .boolean) false ll_mN ll_mR ll_mK ll_cnt L xs false 14 (.inl (lo_istore 16 4)) := lk_istore (by decide +kernel)
theorem k_187_16 (L : Nat) (xs : Nat → Int32) : ll_OK1 cX11_steps RX11 (some .boolean) false ll_mN ll_mR ll_mK ll_cnt L xs false 16 (.inl (lo_push 17 (.int 0))) := lk_iconst (n := 0) (by decide +kernel) (by decide)
theorem k_187_17 (L : Nat) (xs : Nat → Int32) : ll_OK1 cX11_steps RX11 (some .boolean) false ll_mN ll_mR ll_mK ll_cnt L xs false 17 (.inl (lo_istore 19 5)) := lk_istore (by decide +kernel)
theorem k_187_19 (L : Nat) (xs : Nat → Int32) : ll_OK1 cX11_steps RX11 (some .boolean) false ll_mN ll_mR ll_mK ll_cnt L xs false 19 (.inl (lo_iload 21 5)) := lk_iload (by decide +kernel)
theorem k_187_21 (L : Nat) (xs : Nat → Int32) : ll_OK1 cX11_steps RX11 (some .boolean) false ll_mN ll_mR ll_mK ll_cnt L xs false 21 (.inl (lo_push 22 (.int 3))) := lk_iconst (n := 3) (by decide +kernel) (by decide)
theorem k_187_22 (L : Nat) (xs : Nat → Int32) : ll_OK1 cX11_steps RX11 (some .boolean) false ll_mN ll_mR ll_mK ll_cnt L xs false 22 (.inl (lo_cmp 184 25 (fun x y => decide (y ≤ x)))) := lk_icmp_ge (off := 162) (by decide +kernel) rfl
theorem k_187_25 (L : Nat) (xs : Nat → Int32) : ll_OK1 cX11_steps RX11 (some .boolean) false ll_mN ll_mR ll_mK ll_cnt L xs false 25 (.inl (lo_aload 26 0)) := lk_aload_n (k := 0) (by decide +kernel) rfl
theorem k_187_26 (L : Nat) (xs : Nat → Int32) : ll_OK1 cX11_steps RX11 (some .boolean) false ll_mN ll_mR ll_mK ll_cnt L xs false 26 (.inl (lo_push 27 (.int 1))) := lk_iconst (n := 1) (by decide +kernel) (by decide)
theorem k_187_27 (L : Nat) (xs : Nat → Int32) : ll_OK1 cX11_steps RX11 (some .boolean) false ll_mN ll_mR ll_mK ll_cnt L xs false 27 (.inl (lo_iload 28 3)) := lk_iload_n (k := 3) (by decide +kernel) rfl
theorem k_187_28 (L : Nat) (xs : Nat → Int32) : ll_OK1 cX11_steps RX11 (some .boolean) false ll_mN ll_mR ll_mK ll_cnt L xs false 28 (.inl (lo_iload 30 5)) := lk_iload (by decide +kernel)
theorem k_187_30 (L : Nat) (xs : Nat → Int32) : ll_OK1 cX11_steps RX11 (some .boolean) false ll_mN ll_mR ll_mK ll_cnt L xs false 30 (.inr (.inl (183, 4, 33))) := ⟨rfl, by decide, by rw [mN_183, mK_183, mR_183]; exact lj_v 238 3 11 (RX11, TX11, 46) (by decide +kernel) tb_735 tb_736 tb_737 rfl rfl rfl rfl (by decide +kernel)⟩
theorem k_187_33 (L : Nat) (xs : Nat → Int32) : ll_OK1 cX11_steps RX11 (some .boolean) false ll_mN ll_mR ll_mK ll_cnt L xs false 33 (.inl (lo_istore 35 6)) := lk_istore (by decide +kernel)
theorem k_187_35 (L : Nat) (xs : Nat → Int32) : ll_OK1 cX11_steps RX11 (some .boolean) false ll_mN ll_mR ll_mK ll_cnt L xs false 35 (.inl (lo_push 36 (.int 3))) := lk_iconst (n := 3) (by decide +kernel) (by decide)
theorem k_187_36 (L : Nat) (xs : Nat → Int32) : ll_OK1 cX11_steps RX11 (some .boolean) false ll_mN ll_mR ll_mK ll_cnt L xs false 36 (.inl (lo_aload 37 0)) := lk_aload_n (k := 0) (by decide +kernel) rfl
theorem k_187_37 (L : Nat) (xs : Nat → Int32) : ll_OK1 cX11_steps RX11 (some .boolean) false ll_mN ll_mR ll_mK ll_cnt L xs false 37 (.inl (lo_getf 40 11 0)) := lk_getf (ix := 8) (ci := 11) (k := 0) (C := RX11) (T := TX11) (N := 46) (by decide +kernel) rfl in_11 (by decide) tb_606
theorem k_187_40 (L : Nat) (xs : Nat → Int32) : ll_OK1 cX11_steps RX11 (some .boolean) false ll_mN ll_mR ll_mK ll_cnt L xs false 40 (.inl (lo_iload 41 1)) := lk_iload_n (k := 1) (by decide +kernel) rfl
theorem k_187_41 (L : Nat) (xs : Nat → Int32) : ll_OK1 cX11_steps RX11 (some .boolean) false ll_mN ll_mR ll_mK ll_cnt L xs false 41 (.inl (lo_push 44 (.int 187))) := lk_sipush (n := 187) (by decide +kernel) (by decide)
theorem k_187_44 (L : Nat) (xs : Nat → Int32) : ll_OK1 cX11_steps RX11 (some .boolean) false ll_mN ll_mR ll_mK ll_cnt L xs false 44 (.inl (lo_bin 45 (fun x y => x + y))) := lk_iadd (by decide +kernel)
theorem k_187_45 (L : Nat) (xs : Nat → Int32) : ll_OK1 cX11_steps RX11 (some .boolean) false ll_mN ll_mR ll_mK ll_cnt L xs false 45 (.inl (lo_iload 46 2)) := lk_iload_n (k := 2) (by decide +kernel) rfl
theorem k_187_46 (L : Nat) (xs : Nat → Int32) : ll_OK1 cX11_steps RX11 (some .boolean) false ll_mN ll_mR ll_mK ll_cnt L xs false 46 (.inl (lo_bin 47 (fun x y => x + y))) := lk_iadd (by decide +kernel)
theorem k_187_47 (L : Nat) (xs : Nat → Int32) : ll_OK1 cX11_steps RX11 (some .boolean) false ll_mN ll_mR ll_mK ll_cnt L xs false 47 (.inl (lo_ald 48 0)) := lk_iald (by decide +kernel)
theorem k_187_48 (L : Nat) (xs : Nat → Int32) : ll_OK1 cX11_steps RX11 (some .boolean) false ll_mN ll_mR ll_mK ll_cnt L xs false 48 (.inl (lo_bin 49 (fun x y => x * y))) := lk_imul (by decide +kernel)
theorem k_187_49 (L : Nat) (xs : Nat → Int32) : ll_OK1 cX11_steps RX11 (some .boolean) false ll_mN ll_mR ll_mK ll_cnt L xs false 49 (.inl (lo_iload 51 5)) := lk_iload (by decide +kernel)
theorem k_187_51 (L : Nat) (xs : Nat → Int32) : ll_OK1 cX11_steps RX11 (some .boolean) false ll_mN ll_mR ll_mK ll_cnt L xs false 51 (.inl (lo_bin 52 (fun x y => x + y))) := lk_iadd (by decide +kernel)
theorem k_187_52 (L : Nat) (xs : Nat → Int32) : ll_OK1 cX11_steps RX11 (some .boolean) false ll_mN ll_mR ll_mK ll_cnt L xs false 52 (.inl (lo_istore 54 7)) := lk_istore (by decide +kernel)
theorem k_187_54 (L : Nat) (xs : Nat → Int32) : ll_OK1 cX11_steps RX11 (some .boolean) false ll_mN ll_mR ll_mK ll_cnt L xs false 54 (.inl (lo_push 55 (.int 0))) := lk_iconst (n := 0) (by decide +kernel) (by decide)
theorem k_187_55 (L : Nat) (xs : Nat → Int32) : ll_OK1 cX11_steps RX11 (some .boolean) false ll_mN ll_mR ll_mK ll_cnt L xs false 55 (.inl (lo_istore 57 8)) := lk_istore (by decide +kernel)
theorem k_187_57 (L : Nat) (xs : Nat → Int32) : ll_OK1 cX11_steps RX11 (some .boolean) false ll_mN ll_mR ll_mK ll_cnt L xs false 57 (.inl (lo_iload 59 8)) := lk_iload (by decide +kernel)
theorem k_187_59 (L : Nat) (xs : Nat → Int32) : ll_OK1 cX11_steps RX11 (some .boolean) false ll_mN ll_mR ll_mK ll_cnt L xs false 59 (.inl (lo_aload 60 0)) := lk_aload_n (k := 0) (by decide +kernel) rfl
theorem k_187_60 (L : Nat) (xs : Nat → Int32) : ll_OK1 cX11_steps RX11 (some .boolean) false ll_mN ll_mR ll_mK ll_cnt L xs false 60 (.inl (lo_getf 63 11 38)) := lk_getf (ix := 98) (ci := 11) (k := 38) (C := RX11) (T := TX11) (N := 46) (by decide +kernel) rfl in_11 (by decide) tb_635
theorem k_187_63 (L : Nat) (xs : Nat → Int32) : ll_OK1 cX11_steps RX11 (some .boolean) false ll_mN ll_mR ll_mK ll_cnt L xs false 63 (.inl (lo_iload 65 7)) := lk_iload (by decide +kernel)
theorem k_187_65 (L : Nat) (xs : Nat → Int32) : ll_OK1 cX11_steps RX11 (some .boolean) false ll_mN ll_mR ll_mK ll_cnt L xs false 65 (.inl (lo_ald 66 0)) := lk_iald (by decide +kernel)
theorem k_187_66 (L : Nat) (xs : Nat → Int32) : ll_OK1 cX11_steps RX11 (some .boolean) false ll_mN ll_mR ll_mK ll_cnt L xs false 66 (.inl (lo_cmp 178 69 (fun x y => decide (y ≤ x)))) := lk_icmp_ge (off := 112) (by decide +kernel) rfl
theorem k_187_69 (L : Nat) (xs : Nat → Int32) : ll_OK1 cX11_steps RX11 (some .boolean) false ll_mN ll_mR ll_mK ll_cnt L xs false 69 (.inl (lo_aload 70 0)) := lk_aload_n (k := 0) (by decide +kernel) rfl
theorem k_187_70 (L : Nat) (xs : Nat → Int32) : ll_OK1 cX11_steps RX11 (some .boolean) false ll_mN ll_mR ll_mK ll_cnt L xs false 70 (.inl (lo_getf 73 11 37)) := lk_getf (ix := 95) (ci := 11) (k := 37) (C := RX11) (T := TX11) (N := 46) (by decide +kernel) rfl in_11 (by decide) tb_634
theorem k_187_73 (L : Nat) (xs : Nat → Int32) : ll_OK1 cX11_steps RX11 (some .boolean) false ll_mN ll_mR ll_mK ll_cnt L xs false 73 (.inl (lo_push 75 (.int 31))) := lk_bipush (n := 31) (by decide +kernel) (by decide)
theorem k_187_75 (L : Nat) (xs : Nat → Int32) : ll_OK1 cX11_steps RX11 (some .boolean) false ll_mN ll_mR ll_mK ll_cnt L xs false 75 (.inl (lo_iload 77 7)) := lk_iload (by decide +kernel)
theorem k_187_77 (L : Nat) (xs : Nat → Int32) : ll_OK1 cX11_steps RX11 (some .boolean) false ll_mN ll_mR ll_mK ll_cnt L xs false 77 (.inl (lo_bin 78 (fun x y => x * y))) := lk_imul (by decide +kernel)
theorem k_187_78 (L : Nat) (xs : Nat → Int32) : ll_OK1 cX11_steps RX11 (some .boolean) false ll_mN ll_mR ll_mK ll_cnt L xs false 78 (.inl (lo_iload 80 8)) := lk_iload (by decide +kernel)
theorem k_187_80 (L : Nat) (xs : Nat → Int32) : ll_OK1 cX11_steps RX11 (some .boolean) false ll_mN ll_mR ll_mK ll_cnt L xs false 80 (.inl (lo_bin 81 (fun x y => x + y))) := lk_iadd (by decide +kernel)
theorem k_187_81 (L : Nat) (xs : Nat → Int32) : ll_OK1 cX11_steps RX11 (some .boolean) false ll_mN ll_mR ll_mK ll_cnt L xs false 81 (.inl (lo_ald 82 0)) := lk_iald (by decide +kernel)
theorem k_187_82 (L : Nat) (xs : Nat → Int32) : ll_OK1 cX11_steps RX11 (some .boolean) false ll_mN ll_mR ll_mK ll_cnt L xs false 82 (.inl (lo_istore 84 9)) := lk_istore (by decide +kernel)
theorem k_187_84 (L : Nat) (xs : Nat → Int32) : ll_OK1 cX11_steps RX11 (some .boolean) false ll_mN ll_mR ll_mK ll_cnt L xs false 84 (.inl (lo_aload 85 0)) := lk_aload_n (k := 0) (by decide +kernel) rfl
theorem k_187_85 (L : Nat) (xs : Nat → Int32) : ll_OK1 cX11_steps RX11 (some .boolean) false ll_mN ll_mR ll_mK ll_cnt L xs false 85 (.inl (lo_iload 86 1)) := lk_iload_n (k := 1) (by decide +kernel) rfl
theorem k_187_86 (L : Nat) (xs : Nat → Int32) : ll_OK1 cX11_steps RX11 (some .boolean) false ll_mN ll_mR ll_mK ll_cnt L xs false 86 (.inl (lo_iload 88 9)) := lk_iload (by decide +kernel)
theorem k_187_88 (L : Nat) (xs : Nat → Int32) : ll_OK1 cX11_steps RX11 (some .boolean) false ll_mN ll_mR ll_mK ll_cnt L xs false 88 (.inl (lo_iload 90 6)) := lk_iload (by decide +kernel)
theorem k_187_90 (L : Nat) (xs : Nat → Int32) : ll_OK1 cX11_steps RX11 (some .boolean) false ll_mN ll_mR ll_mK ll_cnt L xs false 90 (.inr (.inl (185, 4, 93))) := ⟨rfl, by decide, by rw [mN_185, mK_185, mR_185]; exact lj_v 241 3 11 (RX11, TX11, 46) (by decide +kernel) tb_738 tb_739 tb_740 rfl rfl rfl rfl (by decide +kernel)⟩
theorem k_187_93 (L : Nat) (xs : Nat → Int32) : ll_OK1 cX11_steps RX11 (some .boolean) false ll_mN ll_mR ll_mK ll_cnt L xs false 93 (.inl (lo_istore 95 10)) := lk_istore (by decide +kernel)
theorem k_187_95 (L : Nat) (xs : Nat → Int32) : ll_OK1 cX11_steps RX11 (some .boolean) false ll_mN ll_mR ll_mK ll_cnt L xs false 95 (.inl (lo_iload 97 10)) := lk_iload (by decide +kernel)
theorem k_187_97 (L : Nat) (xs : Nat → Int32) : ll_OK1 cX11_steps RX11 (some .boolean) false ll_mN ll_mR ll_mK ll_cnt L xs false 97 (.inl (lo_push 98 (.int (-1)))) := lk_iconst (n := (-1)) (by decide +kernel) (by decide)
theorem k_187_98 (L : Nat) (xs : Nat → Int32) : ll_OK1 cX11_steps RX11 (some .boolean) false ll_mN ll_mR ll_mK ll_cnt L xs false 98 (.inl (lo_cmp 119 101 (fun x y => decide (¬ x = y)))) := lk_icmp_ne (off := 21) (by decide +kernel) rfl
theorem k_187_101 (L : Nat) (xs : Nat → Int32) : ll_OK1 cX11_steps RX11 (some .boolean) false ll_mN ll_mR ll_mK ll_cnt L xs false 101 (.inl (lo_aload 102 0)) := lk_aload_n (k := 0) (by decide +kernel) rfl
theorem k_187_102 (L : Nat) (xs : Nat → Int32) : ll_OK1 cX11_steps RX11 (some .boolean) false ll_mN ll_mR ll_mK ll_cnt L xs false 102 (.inl (lo_getf 105 11 0)) := lk_getf (ix := 8) (ci := 11) (k := 0) (C := RX11) (T := TX11) (N := 46) (by decide +kernel) rfl in_11 (by decide) tb_606
theorem k_187_105 (L : Nat) (xs : Nat → Int32) : ll_OK1 cX11_steps RX11 (some .boolean) false ll_mN ll_mR ll_mK ll_cnt L xs false 105 (.inl (lo_iload 106 1)) := lk_iload_n (k := 1) (by decide +kernel) rfl
theorem k_187_106 (L : Nat) (xs : Nat → Int32) : ll_OK1 cX11_steps RX11 (some .boolean) false ll_mN ll_mR ll_mK ll_cnt L xs false 106 (.inl (lo_push 109 (.int 186))) := lk_sipush (n := 186) (by decide +kernel) (by decide)
theorem k_187_109 (L : Nat) (xs : Nat → Int32) : ll_OK1 cX11_steps RX11 (some .boolean) false ll_mN ll_mR ll_mK ll_cnt L xs false 109 (.inl (lo_bin 110 (fun x y => x + y))) := lk_iadd (by decide +kernel)
theorem k_187_110 (L : Nat) (xs : Nat → Int32) : ll_OK1 cX11_steps RX11 (some .boolean) false ll_mN ll_mR ll_mK ll_cnt L xs false 110 (.inl (lo_ald 111 0)) := lk_iald (by decide +kernel)
theorem k_187_111 (L : Nat) (xs : Nat → Int32) : ll_OK1 cX11_steps RX11 (some .boolean) false ll_mN ll_mR ll_mK ll_cnt L xs false 111 (.inl (lo_push 114 (.int 300))) := lk_sipush (n := 300) (by decide +kernel) (by decide)
theorem k_187_114 (L : Nat) (xs : Nat → Int32) : ll_OK1 cX11_steps RX11 (some .boolean) false ll_mN ll_mR ll_mK ll_cnt L xs false 114 (.inl (lo_cmp 119 117 (fun x y => decide (¬ x = y)))) := lk_icmp_ne (off := 5) (by decide +kernel) rfl
theorem k_187_117 (L : Nat) (xs : Nat → Int32) : ll_OK1 cX11_steps RX11 (some .boolean) false ll_mN ll_mR ll_mK ll_cnt L xs false 117 (.inl (lo_push 118 (.int 0))) := lk_iconst (n := 0) (by decide +kernel) (by decide)
theorem k_187_118 (L : Nat) (xs : Nat → Int32) : ll_OK1 cX11_steps RX11 (some .boolean) false ll_mN ll_mR ll_mK ll_cnt L xs false 118 (.inr (.inr 2)) := ⟨(fun h => by cases h), (fun h => by cases h), fun _ => ⟨(by decide +kernel), rfl⟩⟩
theorem k_187_119 (L : Nat) (xs : Nat → Int32) : ll_OK1 cX11_steps RX11 (some .boolean) false ll_mN ll_mR ll_mK ll_cnt L xs false 119 (.inl (lo_iload 121 10)) := lk_iload (by decide +kernel)
theorem k_187_121 (L : Nat) (xs : Nat → Int32) : ll_OK1 cX11_steps RX11 (some .boolean) false ll_mN ll_mR ll_mK ll_cnt L xs false 121 (.inl (lo_push 122 (.int (-1)))) := lk_iconst (n := (-1)) (by decide +kernel) (by decide)
theorem k_187_122 (L : Nat) (xs : Nat → Int32) : ll_OK1 cX11_steps RX11 (some .boolean) false ll_mN ll_mR ll_mK ll_cnt L xs false 122 (.inl (lo_cmp 149 125 (fun x y => decide (¬ x = y)))) := lk_icmp_ne (off := 27) (by decide +kernel) rfl
theorem k_187_125 (L : Nat) (xs : Nat → Int32) : ll_OK1 cX11_steps RX11 (some .boolean) false ll_mN ll_mR ll_mK ll_cnt L xs false 125 (.inl (lo_aload 126 0)) := lk_aload_n (k := 0) (by decide +kernel) rfl
theorem k_187_126 (L : Nat) (xs : Nat → Int32) : ll_OK1 cX11_steps RX11 (some .boolean) false ll_mN ll_mR ll_mK ll_cnt L xs false 126 (.inl (lo_getf 129 11 0)) := lk_getf (ix := 8) (ci := 11) (k := 0) (C := RX11) (T := TX11) (N := 46) (by decide +kernel) rfl in_11 (by decide) tb_606
theorem k_187_129 (L : Nat) (xs : Nat → Int32) : ll_OK1 cX11_steps RX11 (some .boolean) false ll_mN ll_mR ll_mK ll_cnt L xs false 129 (.inl (lo_iload 130 1)) := lk_iload_n (k := 1) (by decide +kernel) rfl
theorem k_187_130 (L : Nat) (xs : Nat → Int32) : ll_OK1 cX11_steps RX11 (some .boolean) false ll_mN ll_mR ll_mK ll_cnt L xs false 130 (.inl (lo_push 133 (.int 186))) := lk_sipush (n := 186) (by decide +kernel) (by decide)
theorem k_187_133 (L : Nat) (xs : Nat → Int32) : ll_OK1 cX11_steps RX11 (some .boolean) false ll_mN ll_mR ll_mK ll_cnt L xs false 133 (.inl (lo_bin 134 (fun x y => x + y))) := lk_iadd (by decide +kernel)
theorem k_187_134 (L : Nat) (xs : Nat → Int32) : ll_OK1 cX11_steps RX11 (some .boolean) false ll_mN ll_mR ll_mK ll_cnt L xs false 134 (.inl (lo_ald 135 0)) := lk_iald (by decide +kernel)
theorem k_187_135 (L : Nat) (xs : Nat → Int32) : ll_OK1 cX11_steps RX11 (some .boolean) false ll_mN ll_mR ll_mK ll_cnt L xs false 135 (.inl (lo_istore 137 10)) := lk_istore (by decide +kernel)
theorem k_187_137 (L : Nat) (xs : Nat → Int32) : ll_OK1 cX11_steps RX11 (some .boolean) false ll_mN ll_mR ll_mK ll_cnt L xs false 137 (.inl (lo_aload 138 0)) := lk_aload_n (k := 0) (by decide +kernel) rfl
theorem k_187_138 (L : Nat) (xs : Nat → Int32) : ll_OK1 cX11_steps RX11 (some .boolean) false ll_mN ll_mR ll_mK ll_cnt L xs false 138 (.inl (lo_iload 139 1)) := lk_iload_n (k := 1) (by decide +kernel) rfl
theorem k_187_139 (L : Nat) (xs : Nat → Int32) : ll_OK1 cX11_steps RX11 (some .boolean) false ll_mN ll_mR ll_mK ll_cnt L xs false 139 (.inl (lo_iload 141 9)) := lk_iload (by decide +kernel)
theorem k_187_141 (L : Nat) (xs : Nat → Int32) : ll_OK1 cX11_steps RX11 (some .boolean) false ll_mN ll_mR ll_mK ll_cnt L xs false 141 (.inl (lo_iload 143 6)) := lk_iload (by decide +kernel)
theorem k_187_143 (L : Nat) (xs : Nat → Int32) : ll_OK1 cX11_steps RX11 (some .boolean) false ll_mN ll_mR ll_mK ll_cnt L xs false 143 (.inl (lo_iload 144 2)) := lk_iload_n (k := 2) (by decide +kernel) rfl
theorem k_187_144 (L : Nat) (xs : Nat → Int32) : ll_OK1 cX11_steps RX11 (some .boolean) false ll_mN ll_mR ll_mK ll_cnt L xs false 144 (.inl (lo_iload 146 5)) := lk_iload (by decide +kernel)
theorem k_187_146 (L : Nat) (xs : Nat → Int32) : ll_OK1 cX11_steps RX11 (some .boolean) false ll_mN ll_mR ll_mK ll_cnt L xs false 146 (.inr (.inl (186, 6, 149))) := ⟨rfl, by decide, by rw [mN_186, mK_186, mR_186]; exact lj_v 244 5 11 (RX11, TX11, 46) (by decide +kernel) tb_741 tb_742 tb_743 rfl rfl rfl rfl (by decide +kernel)⟩
theorem k_187_149 (L : Nat) (xs : Nat → Int32) : ll_OK1 cX11_steps RX11 (some .boolean) false ll_mN ll_mR ll_mK ll_cnt L xs false 149 (.inl (lo_aload 150 0)) := lk_aload_n (k := 0) (by decide +kernel) rfl
theorem k_187_150 (L : Nat) (xs : Nat → Int32) : ll_OK1 cX11_steps RX11 (some .boolean) false ll_mN ll_mR ll_mK ll_cnt L xs false 150 (.inl (lo_getf 153 11 0)) := lk_getf (ix := 8) (ci := 11) (k := 0) (C := RX11) (T := TX11) (N := 46) (by decide +kernel) rfl in_11 (by decide) tb_606
theorem k_187_153 (L : Nat) (xs : Nat → Int32) : ll_OK1 cX11_steps RX11 (some .boolean) false ll_mN ll_mR ll_mK ll_cnt L xs false 153 (.inl (lo_iload 154 1)) := lk_iload_n (k := 1) (by decide +kernel) rfl
theorem k_187_154 (L : Nat) (xs : Nat → Int32) : ll_OK1 cX11_steps RX11 (some .boolean) false ll_mN ll_mR ll_mK ll_cnt L xs false 154 (.inl (lo_push 157 (.int 1387))) := lk_sipush (n := 1387) (by decide +kernel) (by decide)
theorem k_187_157 (L : Nat) (xs : Nat → Int32) : ll_OK1 cX11_steps RX11 (some .boolean) false ll_mN ll_mR ll_mK ll_cnt L xs false 157 (.inl (lo_bin 158 (fun x y => x + y))) := lk_iadd (by decide +kernel)
theorem k_187_158 (L : Nat) (xs : Nat → Int32) : ll_OK1 cX11_steps RX11 (some .boolean) false ll_mN ll_mR ll_mK ll_cnt L xs false 158 (.inl (lo_push 160 (.int 30))) := lk_bipush (n := 30) (by decide +kernel) (by decide)
theorem k_187_160 (L : Nat) (xs : Nat → Int32) : ll_OK1 cX11_steps RX11 (some .boolean) false ll_mN ll_mR ll_mK ll_cnt L xs false 160 (.inl (lo_iload 161 2)) := lk_iload_n (k := 2) (by decide +kernel) rfl
theorem k_187_161 (L : Nat) (xs : Nat → Int32) : ll_OK1 cX11_steps RX11 (some .boolean) false ll_mN ll_mR ll_mK ll_cnt L xs false 161 (.inl (lo_bin 162 (fun x y => x * y))) := lk_imul (by decide +kernel)
theorem k_187_162 (L : Nat) (xs : Nat → Int32) : ll_OK1 cX11_steps RX11 (some .boolean) false ll_mN ll_mR ll_mK ll_cnt L xs false 162 (.inl (lo_bin 163 (fun x y => x + y))) := lk_iadd (by decide +kernel)
theorem k_187_163 (L : Nat) (xs : Nat → Int32) : ll_OK1 cX11_steps RX11 (some .boolean) false ll_mN ll_mR ll_mK ll_cnt L xs false 163 (.inl (lo_iload 165 4)) := lk_iload (by decide +kernel)
theorem k_187_165 (L : Nat) (xs : Nat → Int32) : ll_OK1 cX11_steps RX11 (some .boolean) false ll_mN ll_mR ll_mK ll_cnt L xs false 165 (.inl (lo_bin 166 (fun x y => x + y))) := lk_iadd (by decide +kernel)
theorem k_187_166 (L : Nat) (xs : Nat → Int32) : ll_OK1 cX11_steps RX11 (some .boolean) false ll_mN ll_mR ll_mK ll_cnt L xs false 166 (.inl (lo_iload 168 10)) := lk_iload (by decide +kernel)
theorem k_187_168 (L : Nat) (xs : Nat → Int32) : ll_OK1 cX11_steps RX11 (some .boolean) false ll_mN ll_mR ll_mK ll_cnt L xs false 168 (.inl (lo_ast 169 0)) := lk_iast (by decide +kernel)
theorem k_187_169 (L : Nat) (xs : Nat → Int32) : ll_OK1 cX11_steps RX11 (some .boolean) false ll_mN ll_mR ll_mK ll_cnt L xs false 169 (.inl (lo_iinc 172 4 1)) := lk_iinc (n := 1) (by decide +kernel) (by decide)
theorem k_187_172 (L : Nat) (xs : Nat → Int32) : ll_OK1 cX11_steps RX11 (some .boolean) false ll_mN ll_mR ll_mK ll_cnt L xs false 172 (.inl (lo_iinc 175 8 1)) := lk_iinc (n := 1) (by decide +kernel) (by decide)
theorem k_187_175 (L : Nat) (xs : Nat → Int32) : ll_OK1 cX11_steps RX11 (some .boolean) false ll_mN ll_mR ll_mK ll_cnt L xs false 175 (.inl (lo_goto 57)) := lk_goto (off := (-118)) (by decide +kernel) rfl
theorem k_187_178 (L : Nat) (xs : Nat → Int32) : ll_OK1 cX11_steps RX11 (some .boolean) false ll_mN ll_mR ll_mK ll_cnt L xs false 178 (.inl (lo_iinc 181 5 1)) := lk_iinc (n := 1) (by decide +kernel) (by decide)
theorem k_187_181 (L : Nat) (xs : Nat → Int32) : ll_OK1 cX11_steps RX11 (some .boolean) false ll_mN ll_mR ll_mK ll_cnt L xs false 181 (.inl (lo_goto 19)) := lk_goto (off := (-162)) (by decide +kernel) rfl
theorem k_187_184 (L : Nat) (xs : Nat → Int32) : ll_OK1 cX11_steps RX11 (some .boolean) false ll_mN ll_mR ll_mK ll_cnt L xs false 184 (.inl (lo_aload 185 0)) := lk_aload_n (k := 0) (by decide +kernel) rfl
theorem k_187_185 (L : Nat) (xs : Nat → Int32) : ll_OK1 cX11_steps RX11 (some .boolean) false ll_mN ll_mR ll_mK ll_cnt L xs false 185 (.inl (lo_getf 188 11 0)) := lk_getf (ix := 8) (ci := 11) (k := 0) (C := RX11) (T := TX11) (N := 46) (by decide +kernel) rfl in_11 (by decide) tb_606
theorem k_187_188 (L : Nat) (xs : Nat → Int32) : ll_OK1 cX11_steps RX11 (some .boolean) false ll_mN ll_mR ll_mK ll_cnt L xs false 188 (.inl (lo_iload 189 1)) := lk_iload_n (k := 1) (by decide +kernel) rfl
theorem k_187_189 (L : Nat) (xs : Nat → Int32) : ll_OK1 cX11_steps RX11 (some .boolean) false ll_mN ll_mR ll_mK ll_cnt L xs false 189 (.inl (lo_push 192 (.int 787))) := lk_sipush (n := 787) (by decide +kernel) (by decide)
theorem k_187_192 (L : Nat) (xs : Nat → Int32) : ll_OK1 cX11_steps RX11 (some .boolean) false ll_mN ll_mR ll_mK ll_cnt L xs false 192 (.inl (lo_bin 193 (fun x y => x + y))) := lk_iadd (by decide +kernel)
theorem k_187_193 (L : Nat) (xs : Nat → Int32) : ll_OK1 cX11_steps RX11 (some .boolean) false ll_mN ll_mR ll_mK ll_cnt L xs false 193 (.inl (lo_iload 194 2)) := lk_iload_n (k := 2) (by decide +kernel) rfl
theorem k_187_194 (L : Nat) (xs : Nat → Int32) : ll_OK1 cX11_steps RX11 (some .boolean) false ll_mN ll_mR ll_mK ll_cnt L xs false 194 (.inl (lo_bin 195 (fun x y => x + y))) := lk_iadd (by decide +kernel)
theorem k_187_195 (L : Nat) (xs : Nat → Int32) : ll_OK1 cX11_steps RX11 (some .boolean) false ll_mN ll_mR ll_mK ll_cnt L xs false 195 (.inl (lo_push 196 (.int 1))) := lk_iconst (n := 1) (by decide +kernel) (by decide)
theorem k_187_196 (L : Nat) (xs : Nat → Int32) : ll_OK1 cX11_steps RX11 (some .boolean) false ll_mN ll_mR ll_mK ll_cnt L xs false 196 (.inl (lo_ast 197 0)) := lk_iast (by decide +kernel)
theorem k_187_197 (L : Nat) (xs : Nat → Int32) : ll_OK1 cX11_steps RX11 (some .boolean) false ll_mN ll_mR ll_mK ll_cnt L xs false 197 (.inl (lo_aload 198 0)) := lk_aload_n (k := 0) (by decide +kernel) rfl
theorem k_187_198 (L : Nat) (xs : Nat → Int32) : ll_OK1 cX11_steps RX11 (some .boolean) false ll_mN ll_mR ll_mK ll_cnt L xs false 198 (.inl (lo_getf 201 11 0)) := lk_getf (ix := 8) (ci := 11) (k := 0) (C := RX11) (T := TX11) (N := 46) (by decide +kernel) rfl in_11 (by decide) tb_606
theorem k_187_201 (L : Nat) (xs : Nat → Int32) : ll_OK1 cX11_steps RX11 (some .boolean) false ll_mN ll_mR ll_mK ll_cnt L xs false 201 (.inl (lo_iload 202 1)) := lk_iload_n (k := 1) (by decide +kernel) rfl
theorem k_187_202 (L : Nat) (xs : Nat → Int32) : ll_OK1 cX11_steps RX11 (some .boolean) false ll_mN ll_mR ll_mK ll_cnt L xs false 202 (.inl (lo_push 205 (.int 1087))) := lk_sipush (n := 1087) (by decide +kernel) (by decide)
theorem k_187_205 (L : Nat) (xs : Nat → Int32) : ll_OK1 cX11_steps RX11 (some .boolean) false ll_mN ll_mR ll_mK ll_cnt L xs false 205 (.inl (lo_bin 206 (fun x y => x + y))) := lk_iadd (by decide +kernel)
theorem k_187_206 (L : Nat) (xs : Nat → Int32) : ll_OK1 cX11_steps RX11 (some .boolean) false ll_mN ll_mR ll_mK ll_cnt L xs false 206 (.inl (lo_iload 207 2)) := lk_iload_n (k := 2) (by decide +kernel) rfl
theorem k_187_207 (L : Nat) (xs : Nat → Int32) : ll_OK1 cX11_steps RX11 (some .boolean) false ll_mN ll_mR ll_mK ll_cnt L xs false 207 (.inl (lo_bin 208 (fun x y => x + y))) := lk_iadd (by decide +kernel)
theorem k_187_208 (L : Nat) (xs : Nat → Int32) : ll_OK1 cX11_steps RX11 (some .boolean) false ll_mN ll_mR ll_mK ll_cnt L xs false 208 (.inl (lo_iload 210 4)) := lk_iload (by decide +kernel)
theorem k_187_210 (L : Nat) (xs : Nat → Int32) : ll_OK1 cX11_steps RX11 (some .boolean) false ll_mN ll_mR ll_mK ll_cnt L xs false 210 (.inl (lo_ast 211 0)) := lk_iast (by decide +kernel)
theorem k_187_211 (L : Nat) (xs : Nat → Int32) : ll_OK1 cX11_steps RX11 (some .boolean) false ll_mN ll_mR ll_mK ll_cnt L xs false 211 (.inl (lo_push 212 (.int 1))) := lk_iconst (n := 1) (by decide +kernel) (by decide)
theorem k_187_212 (L : Nat) (xs : Nat → Int32) : ll_OK1 cX11_steps RX11 (some .boolean) false ll_mN ll_mR ll_mK ll_cnt L xs false 212 (.inr (.inr 2)) := ⟨(fun h => by cases h), (fun h => by cases h), fun _ => ⟨(by decide +kernel), rfl⟩⟩
theorem ok_187 (L : Nat) (xs : Nat → Int32) : ∀ q ∈ cd_187, ll_OK1 cX11_steps RX11 (some .boolean) false ll_mN ll_mR ll_mK ll_cnt L xs false q.1 q.2 :=
  List.forall_mem_cons.mpr ⟨k_187_0 L xs, List.forall_mem_cons.mpr ⟨k_187_1 L xs, List.forall_mem_cons.mpr ⟨k_187_4 L xs, List.forall_mem_cons.mpr ⟨k_187_5 L xs, List.forall_mem_cons.mpr ⟨k_187_8 L xs, List.forall_mem_cons.mpr ⟨k_187_9 L xs, List.forall_mem_cons.mpr ⟨k_187_10 L xs, List.forall_mem_cons.mpr ⟨k_187_11 L xs, List.forall_mem_cons.mpr ⟨k_187_12 L xs, List.forall_mem_cons.mpr ⟨k_187_13 L xs, List.forall_mem_cons.mpr ⟨k_187_14 L xs, List.forall_mem_cons.mpr ⟨k_187_16 L xs, List.forall_mem_cons.mpr ⟨k_187_17 L xs, List.forall_mem_cons.mpr ⟨k_187_19 L xs, List.forall_mem_cons.mpr ⟨k_187_21 L xs, List.forall_mem_cons.mpr ⟨k_187_22 L xs, List.forall_mem_cons.mpr ⟨k_187_25 L xs, List.forall_mem_cons.mpr ⟨k_187_26 L xs, List.forall_mem_cons.mpr ⟨k_187_27 L xs, List.forall_mem_cons.mpr ⟨k_187_28 L xs, List.forall_mem_cons.mpr ⟨k_187_30 L xs, List.forall_mem_cons.mpr ⟨k_187_33 L xs, List.forall_mem_cons.mpr ⟨k_187_35 L xs, List.forall_mem_cons.mpr ⟨k_187_36 L xs, List.forall_mem_cons.mpr ⟨k_187_37 L xs, List.forall_mem_cons.mpr ⟨k_187_40 L xs, List.forall_mem_cons.mpr ⟨k_187_41 L xs, List.forall_mem_cons.mpr ⟨k_187_44 L xs, List.forall_mem_cons.mpr ⟨k_187_45 L xs, List.forall_mem_cons.mpr ⟨k_187_46 L xs, List.forall_mem_cons.mpr ⟨k_187_47 L xs, List.forall_mem_cons.mpr ⟨k_187_48 L xs, List.forall_mem_cons.mpr ⟨k_187_49 L xs, List.forall_mem_cons.mpr ⟨k_187_51 L xs, List.forall_mem_cons.mpr ⟨k_187_52 L xs, List.forall_mem_cons.mpr ⟨k_187_54 L xs, List.forall_mem_cons.mpr ⟨k_187_55 L xs, List.forall_mem_cons.mpr ⟨k_187_57 L xs, List.forall_mem_cons.mpr ⟨k_187_59 L xs, List.forall_mem_cons.mpr ⟨k_187_60 L xs, List.forall_mem_cons.mpr ⟨k_187_63 L xs, List.forall_mem_cons.mpr ⟨k_187_65 L xs, List.forall_mem_cons.mpr ⟨k_187_66 L xs, List.forall_mem_cons.mpr ⟨k_187_69 L xs, List.forall_mem_cons.mpr ⟨k_187_70 L xs, List.forall_mem_cons.mpr ⟨k_187_73 L xs, List.forall_mem_cons.mpr ⟨k_187_75 L xs, List.forall_mem_cons.mpr ⟨k_187_77 L xs, List.forall_mem_cons.mpr ⟨k_187_78 L xs, List.forall_mem_cons.mpr ⟨k_187_80 L xs, List.forall_mem_cons.mpr ⟨k_187_81 L xs, List.forall_mem_cons.mpr ⟨k_187_82 L xs, List.forall_mem_cons.mpr ⟨k_187_84 L xs, List.forall_mem_cons.mpr ⟨k_187_85 L xs, List.forall_mem_cons.mpr ⟨k_187_86 L xs, List.forall_mem_cons.mpr ⟨k_187_88 L xs, List.forall_mem_cons.mpr ⟨k_187_90 L xs, List.forall_mem_cons.mpr ⟨k_187_93 L xs, List.forall_mem_cons.mpr ⟨k_187_95 L xs, List.forall_mem_cons.mpr ⟨k_187_97 L xs, List.forall_mem_cons.mpr ⟨k_187_98 L xs, List.forall_mem_cons.mpr ⟨k_187_101 L xs, List.forall_mem_cons.mpr ⟨k_187_102 L xs, List.forall_mem_cons.mpr ⟨k_187_105 L xs, List.forall_mem_cons.mpr ⟨k_187_106 L xs, List.forall_mem_cons.mpr ⟨k_187_109 L xs, List.forall_mem_cons.mpr ⟨k_187_110 L xs, List.forall_mem_cons.mpr ⟨k_187_111 L xs, List.forall_mem_cons.mpr ⟨k_187_114 L xs, List.forall_mem_cons.mpr ⟨k_187_117 L xs, List.forall_mem_cons.mpr ⟨k_187_118 L xs, List.forall_mem_cons.mpr ⟨k_187_119 L xs, List.forall_mem_cons.mpr ⟨k_187_121 L xs, List.forall_mem_cons.mpr ⟨k_187_122 L xs, List.forall_mem_cons.mpr ⟨k_187_125 L xs, List.forall_mem_cons.mpr ⟨k_187_126 L xs, List.forall_mem_cons.mpr ⟨k_187_129 L xs, List.forall_mem_cons.mpr ⟨k_187_130 L xs, List.forall_mem_cons.mpr ⟨k_187_133 L xs, List.forall_mem_cons.mpr ⟨k_187_134 L xs, List.forall_mem_cons.mpr ⟨k_187_135 L xs, List.forall_mem_cons.mpr ⟨k_187_137 L xs, List.forall_mem_cons.mpr ⟨k_187_138 L xs, List.forall_mem_cons.mpr ⟨k_187_139 L xs, List.forall_mem_cons.mpr ⟨k_187_141 L xs, List.forall_mem_cons.mpr ⟨k_187_143 L xs, List.forall_mem_cons.mpr ⟨k_187_144 L xs, List.forall_mem_cons.mpr ⟨k_187_146 L xs, List.forall_mem_cons.mpr ⟨k_187_149 L xs, List.forall_mem_cons.mpr ⟨k_187_150 L xs, List.forall_mem_cons.mpr ⟨k_187_153 L xs, List.forall_mem_cons.mpr ⟨k_187_154 L xs, List.forall_mem_cons.mpr ⟨k_187_157 L xs, List.forall_mem_cons.mpr ⟨k_187_158 L xs, List.forall_mem_cons.mpr ⟨k_187_160 L xs, List.forall_mem_cons.mpr ⟨k_187_161 L xs, List.forall_mem_cons.mpr ⟨k_187_162 L xs, List.forall_mem_cons.mpr ⟨k_187_163 L xs, List.forall_mem_cons.mpr ⟨k_187_165 L xs, List.forall_mem_cons.mpr ⟨k_187_166 L xs, List.forall_mem_cons.mpr ⟨k_187_168 L xs, List.forall_mem_cons.mpr ⟨k_187_169 L xs, List.forall_mem_cons.mpr ⟨k_187_172 L xs, List.forall_mem_cons.mpr ⟨k_187_175 L xs, List.forall_mem_cons.mpr ⟨k_187_178 L xs, List.forall_mem_cons.mpr ⟨k_187_181 L xs, List.forall_mem_cons.mpr ⟨k_187_184 L xs, List.forall_mem_cons.mpr ⟨k_187_185 L xs, List.forall_mem_cons.mpr ⟨k_187_188 L xs, List.forall_mem_cons.mpr ⟨k_187_189 L xs, List.forall_mem_cons.mpr ⟨k_187_192 L xs, List.forall_mem_cons.mpr ⟨k_187_193 L xs, List.forall_mem_cons.mpr ⟨k_187_194 L xs, List.forall_mem_cons.mpr ⟨k_187_195 L xs, List.forall_mem_cons.mpr ⟨k_187_196 L xs, List.forall_mem_cons.mpr ⟨k_187_197 L xs, List.forall_mem_cons.mpr ⟨k_187_198 L xs, List.forall_mem_cons.mpr ⟨k_187_201 L xs, List.forall_mem_cons.mpr ⟨k_187_202 L xs, List.forall_mem_cons.mpr ⟨k_187_205 L xs, List.forall_mem_cons.mpr ⟨k_187_206 L xs, List.forall_mem_cons.mpr ⟨k_187_207 L xs, List.forall_mem_cons.mpr ⟨k_187_208 L xs, List.forall_mem_cons.mpr ⟨k_187_210 L xs, List.forall_mem_cons.mpr ⟨k_187_211 L xs, List.forall_mem_cons.mpr ⟨k_187_212 L xs, fun _ h => absurd h List.not_mem_nil⟩⟩⟩⟩⟩⟩⟩⟩⟩⟩⟩⟩⟩⟩⟩⟩⟩⟩⟩⟩⟩⟩⟩⟩⟩⟩⟩⟩⟩⟩⟩⟩⟩⟩⟩⟩⟩⟩⟩⟩⟩⟩⟩⟩⟩⟩⟩⟩⟩⟩⟩⟩⟩⟩⟩⟩⟩⟩⟩⟩⟩⟩⟩⟩⟩⟩⟩⟩⟩⟩⟩⟩⟩⟩⟩⟩⟩⟩⟩⟩⟩⟩⟩⟩⟩⟩⟩⟩⟩⟩⟩⟩⟩⟩⟩⟩⟩⟩⟩⟩⟩⟩⟩⟩⟩⟩⟩⟩⟩⟩⟩⟩⟩⟩⟩⟩⟩⟩⟩⟩⟩⟩⟩⟩⟩⟩
/-- InclusionProverModel.tellsWord.(II)V -/
def cd_188 : List (Nat × ll_O) := [
  (0, .inl (lo_aload 1 0)),
  (1, .inl (lo_getf 4 11 41)),
  (4, .inl (lo_iload 5 2)),
  (5, .inl (lo_ald 6 0)),
  (6, .inl (lo_istore 7 3)),
  (7, .inl (lo_aload 8 0)),
  (8, .inl (lo_getf 11 11 0)),
  (11, .inl (lo_iload 12 1)),
  (12, .inl (lo_push 15 (.int 10388))),
  (15, .inl (lo_bin 16 (fun x y => x + y))),
  (16, .inl (lo_iload 17 3)),
  (17, .inl (lo_ast 18 0)),
  (18, .inl (lo_iload 19 2)),
  (19, .inl (lo_istore 21 4)),
  (21, .inl (lo_iload 22 3)),
  (22, .inl (lo_istore 24 5)),
  (24, .inl (lo_iload 26 5)),
  (26, .inl (lo_if 66 29 (fun x => decide (x ≤ 0)))),
  (29, .inl (lo_aload 30 0)),
  (30, .inl (lo_getf 33 11 0)),
  (33, .inl (lo_iload 34 1)),
  (34, .inl (lo_push 37 (.int 10388))),
  (37, .inl (lo_bin 38 (fun x y => x + y))),
  (38, .inl (lo_iload 40 5)),
  (40, .inl (lo_bin 41 (fun x y => x + y))),
  (41, .inl (lo_aload 42 0)),
  (42, .inl (lo_getf 45 11 40)),
  (45, .inl (lo_iload 47 4)),
  (47, .inl (lo_ald 48 0)),
  (48, .inl (lo_push 49 (.int 1))),
  (49, .inl (lo_bin 50 (fun x y => x + y))),
  (50, .inl (lo_ast 51 0)),
  (51, .inl (lo_aload 52 0)),
  (52, .inl (lo_getf 55 11 39)),
  (55, .inl (lo_iload 57 4)),
  (57, .inl (lo_ald 58 0)),
  (58, .inl (lo_istore 60 4)),
  (60, .inl (lo_iinc 63 5 (-1))),
  (63, .inl (lo_goto 24)),
  (66, .inr (.inr 0))]
theorem k_188_0 (L : Nat) (xs : Nat → Int32) : ll_OK1 cX11_tellsWord RX11 none false ll_mN ll_mR ll_mK ll_cnt L xs false 0 (.inl (lo_aload 1 0)) := lk_aload_n (k := 0) (by decide +kernel) rfl
theorem k_188_1 (L : Nat) (xs : Nat → Int32) : ll_OK1 cX11_tellsWord RX11 none false ll_mN ll_mR ll_mK ll_cnt L xs false 1 (.inl (lo_getf 4 11 41)) := lk_getf (ix := 107) (ci := 11) (k := 41) (C := RX11) (T := TX11) (N := 46) (by decide +kernel) rfl in_11 (by decide) tb_638
theorem k_188_4 (L : Nat) (xs : Nat → Int32) : ll_OK1 cX11_tellsWord RX11 none false ll_mN ll_mR ll_mK ll_cnt L xs false 4 (.inl (lo_iload 5 2)) := lk_iload_n (k := 2) (by decide +kernel) rfl
theorem k_188_5 (L : Nat) (xs : Nat → Int32) : ll_OK1 cX11_tellsWord RX11 none false ll_mN ll_mR ll_mK ll_cnt L xs false 5 (.inl (lo_ald 6 0)) := lk_iald (by decide +kernel)
theorem k_188_6 (L : Nat) (xs : Nat → Int32) : ll_OK1 cX11_tellsWord RX11 none false ll_mN ll_mR ll_mK ll_cnt L xs false 6 (.inl (lo_istore 7 3)) := lk_istore_n (k := 3) (by decide +kernel) rfl
theorem k_188_7 (L : Nat) (xs : Nat → Int32) : ll_OK1 cX11_tellsWord RX11 none false ll_mN ll_mR ll_mK ll_cnt L xs false 7 (.inl (lo_aload 8 0)) := lk_aload_n (k := 0) (by decide +kernel) rfl
theorem k_188_8 (L : Nat) (xs : Nat → Int32) : ll_OK1 cX11_tellsWord RX11 none false ll_mN ll_mR ll_mK ll_cnt L xs false 8 (.inl (lo_getf 11 11 0)) := lk_getf (ix := 8) (ci := 11) (k := 0) (C := RX11) (T := TX11) (N := 46) (by decide +kernel) rfl in_11 (by decide) tb_606
theorem k_188_11 (L : Nat) (xs : Nat → Int32) : ll_OK1 cX11_tellsWord RX11 none false ll_mN ll_mR ll_mK ll_cnt L xs false 11 (.inl (lo_iload 12 1)) := lk_iload_n (k := 1) (by decide +kernel) rfl
theorem k_188_12 (L : Nat) (xs : Nat → Int32) : ll_OK1 cX11_tellsWord RX11 none false ll_mN ll_mR ll_mK ll_cnt L xs false 12 (.inl (lo_push 15 (.int 10388))) := lk_sipush (n := 10388) (by decide +kernel) (by decide)
theorem k_188_15 (L : Nat) (xs : Nat → Int32) : ll_OK1 cX11_tellsWord RX11 none false ll_mN ll_mR ll_mK ll_cnt L xs false 15 (.inl (lo_bin 16 (fun x y => x + y))) := lk_iadd (by decide +kernel)
theorem k_188_16 (L : Nat) (xs : Nat → Int32) : ll_OK1 cX11_tellsWord RX11 none false ll_mN ll_mR ll_mK ll_cnt L xs false 16 (.inl (lo_iload 17 3)) := lk_iload_n (k := 3) (by decide +kernel) rfl
theorem k_188_17 (L : Nat) (xs : Nat → Int32) : ll_OK1 cX11_tellsWord RX11 none false ll_mN ll_mR ll_mK ll_cnt L xs false 17 (.inl (lo_ast 18 0)) := lk_iast (by decide +kernel)
theorem k_188_18 (L : Nat) (xs : Nat → Int32) : ll_OK1 cX11_tellsWord RX11 none false ll_mN ll_mR ll_mK ll_cnt L xs false 18 (.inl (lo_iload 19 2)) := lk_iload_n (k := 2) (by decide +kernel) rfl
theorem k_188_19 (L : Nat) (xs : Nat → Int32) : ll_OK1 cX11_tellsWord RX11 none false ll_mN ll_mR ll_mK ll_cnt L xs false 19 (.inl (lo_istore 21 4)) := lk_istore (by decide +kernel)
theorem k_188_21 (L : Nat) (xs : Nat → Int32) : ll_OK1 cX11_tellsWord RX11 none false ll_mN ll_mR ll_mK ll_cnt L xs false 21 (.inl (lo_iload 22 3)) := lk_iload_n (k := 3) (by decide +kernel) rfl
theorem k_188_22 (L : Nat) (xs : Nat → Int32) : ll_OK1 cX11_tellsWord RX11 none false ll_mN ll_mR ll_mK ll_cnt L xs false 22 (.inl (lo_istore 24 5)) := lk_istore (by decide +kernel)
theorem k_188_24 (L : Nat) (xs : Nat → Int32) : ll_OK1 cX11_tellsWord RX11 none false ll_mN ll_mR ll_mK ll_cnt L xs false 24 (.inl (lo_iload 26 5)) := lk_iload (by decide +kernel)
theorem k_188_26 (L : Nat) (xs : Nat → Int32) : ll_OK1 cX11_tellsWord RX11 none false ll_mN ll_mR ll_mK ll_cnt L xs false 26 (.inl (lo_if 66 29 (fun x => decide (x ≤ 0)))) := lk_if_le (off := 40) (by decide +kernel) rfl
theorem k_188_29 (L : Nat) (xs : Nat → Int32) : ll_OK1 cX11_tellsWord RX11 none false ll_mN ll_mR ll_mK ll_cnt L xs false 29 (.inl (lo_aload 30 0)) := lk_aload_n (k := 0) (by decide +kernel) rfl
theorem k_188_30 (L : Nat) (xs : Nat → Int32) : ll_OK1 cX11_tellsWord RX11 none false ll_mN ll_mR ll_mK ll_cnt L xs false 30 (.inl (lo_getf 33 11 0)) := lk_getf (ix := 8) (ci := 11) (k := 0) (C := RX11) (T := TX11) (N := 46) (by decide +kernel) rfl in_11 (by decide) tb_606
theorem k_188_33 (L : Nat) (xs : Nat → Int32) : ll_OK1 cX11_tellsWord RX11 none false ll_mN ll_mR ll_mK ll_cnt L xs false 33 (.inl (lo_iload 34 1)) := lk_iload_n (k := 1) (by decide +kernel) rfl
theorem k_188_34 (L : Nat) (xs : Nat → Int32) : ll_OK1 cX11_tellsWord RX11 none false ll_mN ll_mR ll_mK ll_cnt L xs false 34 (.inl (lo_push 37 (.int 10388))) := lk_sipush (n := 10388) (by decide +kernel) (by decide)
theorem k_188_37 (L : Nat) (xs : Nat → Int32) : ll_OK1 cX11_tellsWord RX11 none false ll_mN ll_mR ll_mK ll_cnt L xs false 37 (.inl (lo_bin 38 (fun x y => x + y))) := lk_iadd (by decide +kernel)
theorem k_188_38 (L : Nat) (xs : Nat → Int32) : ll_OK1 cX11_tellsWord RX11 none false ll_mN ll_mR ll_mK ll_cnt L xs false 38 (.inl (lo_iload 40 5)) := lk_iload (by decide +kernel)
theorem k_188_40 (L : Nat) (xs : Nat → Int32) : ll_OK1 cX11_tellsWord RX11 none false ll_mN ll_mR ll_mK ll_cnt L xs false 40 (.inl (lo_bin 41 (fun x y => x + y))) := lk_iadd (by decide +kernel)
theorem k_188_41 (L : Nat) (xs : Nat → Int32) : ll_OK1 cX11_tellsWord RX11 none false ll_mN ll_mR ll_mK ll_cnt L xs false 41 (.inl (lo_aload 42 0)) := lk_aload_n (k := 0) (by decide +kernel) rfl
theorem k_188_42 (L : Nat) (xs : Nat → Int32) : ll_OK1 cX11_tellsWord RX11 none false ll_mN ll_mR ll_mK ll_cnt L xs false 42 (.inl (lo_getf 45 11 40)) := lk_getf (ix := 104) (ci := 11) (k := 40) (C := RX11) (T := TX11) (N := 46) (by decide +kernel) rfl in_11 (by decide) tb_637
theorem k_188_45 (L : Nat) (xs : Nat → Int32) : ll_OK1 cX11_tellsWord RX11 none false ll_mN ll_mR ll_mK ll_cnt L xs false 45 (.inl (lo_iload 47 4)) := lk_iload (by decide +kernel)
theorem k_188_47 (L : Nat) (xs : Nat → Int32) : ll_OK1 cX11_tellsWord RX11 none false ll_mN ll_mR ll_mK ll_cnt L xs false 47 (.inl (lo_ald 48 0)) := lk_iald (by decide +kernel)
theorem k_188_48 (L : Nat) (xs : Nat → Int32) : ll_OK1 cX11_tellsWord RX11 none false ll_mN ll_mR ll_mK ll_cnt L xs false 48 (.inl (lo_push 49 (.int 1))) := lk_iconst (n := 1) (by decide +kernel) (by decide)
theorem k_188_49 (L : Nat) (xs : Nat → Int32) : ll_OK1 cX11_tellsWord RX11 none false ll_mN ll_mR ll_mK ll_cnt L xs false 49 (.inl (lo_bin 50 (fun x y => x + y))) := lk_iadd (by decide +kernel)
theorem k_188_50 (L : Nat) (xs : Nat → Int32) : ll_OK1 cX11_tellsWord RX11 none false ll_mN ll_mR ll_mK ll_cnt L xs false 50 (.inl (lo_ast 51 0)) := lk_iast (by decide +kernel)
theorem k_188_51 (L : Nat) (xs : Nat → Int32) : ll_OK1 cX11_tellsWord RX11 none false ll_mN ll_mR ll_mK ll_cnt L xs false 51 (.inl (lo_aload 52 0)) := lk_aload_n (k := 0) (by decide +kernel) rfl
theorem k_188_52 (L : Nat) (xs : Nat → Int32) : ll_OK1 cX11_tellsWord RX11 none false ll_mN ll_mR ll_mK ll_cnt L xs false 52 (.inl (lo_getf 55 11 39)) := lk_getf (ix := 101) (ci := 11) (k := 39) (C := RX11) (T := TX11) (N := 46) (by decide +kernel) rfl in_11 (by decide) tb_636
theorem k_188_55 (L : Nat) (xs : Nat → Int32) : ll_OK1 cX11_tellsWord RX11 none false ll_mN ll_mR ll_mK ll_cnt L xs false 55 (.inl (lo_iload 57 4)) := lk_iload (by decide +kernel)
theorem k_188_57 (L : Nat) (xs : Nat → Int32) : ll_OK1 cX11_tellsWord RX11 none false ll_mN ll_mR ll_mK ll_cnt L xs false 57 (.inl (lo_ald 58 0)) := lk_iald (by decide +kernel)
theorem k_188_58 (L : Nat) (xs : Nat → Int32) : ll_OK1 cX11_tellsWord RX11 none false ll_mN ll_mR ll_mK ll_cnt L xs false 58 (.inl (lo_istore 60 4)) := lk_istore (by decide +kernel)
theorem k_188_60 (L : Nat) (xs : Nat → Int32) : ll_OK1 cX11_tellsWord RX11 none false ll_mN ll_mR ll_mK ll_cnt L xs false 60 (.inl (lo_iinc 63 5 (-1))) := lk_iinc (n := (-1)) (by decide +kernel) (by decide)
theorem k_188_63 (L : Nat) (xs : Nat → Int32) : ll_OK1 cX11_tellsWord RX11 none false ll_mN ll_mR ll_mK ll_cnt L xs false 63 (.inl (lo_goto 24)) := lk_goto (off := (-39)) (by decide +kernel) rfl
theorem k_188_66 (L : Nat) (xs : Nat → Int32) : ll_OK1 cX11_tellsWord RX11 none false ll_mN ll_mR ll_mK ll_cnt L xs false 66 (.inr (.inr 0)) := ⟨fun _ => ⟨(by decide +kernel), rfl⟩, (fun h => by cases h), fun h => by cases h⟩
theorem ok_188 (L : Nat) (xs : Nat → Int32) : ∀ q ∈ cd_188, ll_OK1 cX11_tellsWord RX11 none false ll_mN ll_mR ll_mK ll_cnt L xs false q.1 q.2 :=
  List.forall_mem_cons.mpr ⟨k_188_0 L xs, List.forall_mem_cons.mpr ⟨k_188_1 L xs, List.forall_mem_cons.mpr ⟨k_188_4 L xs, List.forall_mem_cons.mpr ⟨k_188_5 L xs, List.forall_mem_cons.mpr ⟨k_188_6 L xs, List.forall_mem_cons.mpr ⟨k_188_7 L xs, List.forall_mem_cons.mpr ⟨k_188_8 L xs, List.forall_mem_cons.mpr ⟨k_188_11 L xs, List.forall_mem_cons.mpr ⟨k_188_12 L xs, List.forall_mem_cons.mpr ⟨k_188_15 L xs, List.forall_mem_cons.mpr ⟨k_188_16 L xs, List.forall_mem_cons.mpr ⟨k_188_17 L xs, List.forall_mem_cons.mpr ⟨k_188_18 L xs, List.forall_mem_cons.mpr ⟨k_188_19 L xs, List.forall_mem_cons.mpr ⟨k_188_21 L xs, List.forall_mem_cons.mpr ⟨k_188_22 L xs, List.forall_mem_cons.mpr ⟨k_188_24 L xs, List.forall_mem_cons.mpr ⟨k_188_26 L xs, List.forall_mem_cons.mpr ⟨k_188_29 L xs, List.forall_mem_cons.mpr ⟨k_188_30 L xs, List.forall_mem_cons.mpr ⟨k_188_33 L xs, List.forall_mem_cons.mpr ⟨k_188_34 L xs, List.forall_mem_cons.mpr ⟨k_188_37 L xs, List.forall_mem_cons.mpr ⟨k_188_38 L xs, List.forall_mem_cons.mpr ⟨k_188_40 L xs, List.forall_mem_cons.mpr ⟨k_188_41 L xs, List.forall_mem_cons.mpr ⟨k_188_42 L xs, List.forall_mem_cons.mpr ⟨k_188_45 L xs, List.forall_mem_cons.mpr ⟨k_188_47 L xs, List.forall_mem_cons.mpr ⟨k_188_48 L xs, List.forall_mem_cons.mpr ⟨k_188_49 L xs, List.forall_mem_cons.mpr ⟨k_188_50 L xs, List.forall_mem_cons.mpr ⟨k_188_51 L xs, List.forall_mem_cons.mpr ⟨k_188_52 L xs, List.forall_mem_cons.mpr ⟨k_188_55 L xs, List.forall_mem_cons.mpr ⟨k_188_57 L xs, List.forall_mem_cons.mpr ⟨k_188_58 L xs, List.forall_mem_cons.mpr ⟨k_188_60 L xs, List.forall_mem_cons.mpr ⟨k_188_63 L xs, List.forall_mem_cons.mpr ⟨k_188_66 L xs, fun _ h => absurd h List.not_mem_nil⟩⟩⟩⟩⟩⟩⟩⟩⟩⟩⟩⟩⟩⟩⟩⟩⟩⟩⟩⟩⟩⟩⟩⟩⟩⟩⟩⟩⟩⟩⟩⟩⟩⟩⟩⟩⟩⟩⟩⟩
/-- InclusionProverModel.searches.(I)I -/
def cd_189 : List (Nat × ll_O) := [
  (0, .inl (lo_aload 1 0)),
  (1, .inl (lo_getf 4 11 0)),
  (4, .inl (lo_iload 5 1)),
  (5, .inl (lo_push 8 (.int 186))),
  (8, .inl (lo_bin 9 (fun x y => x + y))),
  (9, .inl (lo_push 10 (.int 0))),
  (10, .inl (lo_ast 11 0)),
  (11, .inl (lo_aload 12 0)),
  (12, .inl (lo_getf 15 11 0)),
  (15, .inl (lo_iload 16 1)),
  (16, .inl (lo_push 19 (.int 10387))),
  (19, .inl (lo_bin 20 (fun x y => x + y))),
  (20, .inl (lo_push 21 (.int 0))),
  (21, .inl (lo_ast 22 0)),
  (22, .inl (lo_aload 23 0)),
  (23, .inl (lo_getf 26 11 0)),
  (26, .inl (lo_iload 27 1)),
  (27, .inl (lo_push 30 (.int 10388))),
  (30, .inl (lo_bin 31 (fun x y => x + y))),
  (31, .inl (lo_push 32 (.int (-1)))),
  (32, .inl (lo_ast 33 0)),
  (33, .inl (lo_aload 34 0)),
  (34, .inl (lo_iload 35 1)),
  (35, .inl (lo_push 36 (.int 0))),
  (36, .inl (lo_push 37 (.int 1))),
  (37, .inl (lo_push 38 (.int (-1)))),
  (38, .inl (lo_push 39 (.int 0))),
  (39, .inr (.inl (186, 6, 42))),
  (42, .inl (lo_push 43 (.int 0))),
  (43, .inl (lo_istore 44 2)),
  (44, .inl (lo_iload 45 2)),
  (45, .inl (lo_aload 46 0)),
  (46, .inl (lo_getf 49 11 0)),
  (49, .inl (lo_iload 50 1)),
  (50, .inl (lo_push 53 (.int 186))),
  (53, .inl (lo_bin 54 (fun x y => x + y))),
  (54, .inl (lo_ald 55 0)),
  (55, .inl (lo_cmp 155 58 (fun x y => decide (y ≤ x)))),
  (58, .inl (lo_aload 59 0)),
  (59, .inl (lo_getf 62 11 0)),
  (62, .inl (lo_iload 63 1)),
  (63, .inl (lo_push 66 (.int 187))),
  (66, .inl (lo_bin 67 (fun x y => x + y))),
  (67, .inl (lo_iload 68 2)),
  (68, .inl (lo_bin 69 (fun x y => x + y))),
  (69, .inl (lo_ald 70 0)),
  (70, .inl (lo_istore 71 3)),
  (71, .inl (lo_aload 72 0)),
  (72, .inl (lo_getf 75 11 0)),
  (75, .inl (lo_iload 76 1)),
  (76, .inl (lo_push 79 (.int 487))),
  (79, .inl (lo_bin 80 (fun x y => x + y))),
  (80, .inl (lo_iload 81 2)),
  (81, .inl (lo_bin 82 (fun x y => x + y))),
  (82, .inl (lo_ald 83 0)),
  (83, .inl (lo_istore 85 4)),
  (85, .inl (lo_aload 86 0)),
  (86, .inl (lo_iload 87 3)),
  (87, .inl (lo_iload 89 4)),
  (89, .inr (.inl (184, 3, 92))),
  (92, .inl (lo_if 111 95 (fun x => decide (x = 0)))),
  (95, .inl (lo_aload 96 0)),
  (96, .inl (lo_getf 99 11 0)),
  (99, .inl (lo_iload 100 1)),
  (100, .inl (lo_push 103 (.int 787))),
  (103, .inl (lo_bin 104 (fun x y => x + y))),
  (104, .inl (lo_iload 105 2)),
  (105, .inl (lo_bin 106 (fun x y => x + y))),
  (106, .inl (lo_push 107 (.int 0))),
  (107, .inl (lo_ast 108 0)),
  (108, .inl (lo_goto 149)),
  (111, .inl (lo_aload 112 0)),
  (112, .inl (lo_push 113 (.int 0))),
  (113, .inl (lo_iload 114 3)),
  (114, .inr (.inl (181, 3, 117))),
  (117, .inl (lo_if 138 120 (fun x => decide (x = 0)))),
  (120, .inl (lo_aload 121 0)),
  (121, .inl (lo_push 122 (.int 1))),
  (122, .inl (lo_iload 124 4)),
  (124, .inr (.inl (182, 3, 127))),
  (127, .inl (lo_if 138 130 (fun x => decide (¬ x = 0)))),
  (130, .inl (lo_aload 131 0)),
  (131, .inl (lo_iload 132 1)),
  (132, .inl (lo_iload 133 2)),
  (133, .inr (.inl (188, 3, 136))),
  (136, .inl (lo_push 137 (.int 1))),
  (137, .inr (.inr 1)),
  (138, .inl (lo_aload 139 0)),
  (139, .inl (lo_iload 140 1)),
  (140, .inl (lo_iload 141 2)),
  (141, .inr (.inl (187, 3, 144))),
  (144, .inl (lo_if 149 147 (fun x => decide (¬ x = 0)))),
  (147, .inl (lo_push 148 (.int 2))),
  (148, .inr (.inr 1)),
  (149, .inl (lo_iinc 152 2 1)),
  (152, .inl (lo_goto 44)),
  (155, .inl (lo_push 156 (.int 0))),
  (156, .inr (.inr 1))]
theorem k_189_0 (L : Nat) (xs : Nat → Int32) : ll_OK1 cX11_searches RX11 (some .int) false ll_mN ll_mR ll_mK ll_cnt L xs false 0 (.inl (lo_aload 1 0)) := lk_aload_n (k := 0) (by decide +kernel) rfl
theorem k_189_1 (L : Nat) (xs : Nat → Int32) : ll_OK1 cX11_searches RX11 (some .int) false ll_mN ll_mR ll_mK ll_cnt L xs false 1 (.inl (lo_getf 4 11 0)) := lk_getf (ix := 8) (ci := 11) (k := 0) (C := RX11) (T := TX11) (N := 46) (by decide +kernel) rfl in_11 (by decide) tb_606
theorem k_189_4 (L : Nat) (xs : Nat → Int32) : ll_OK1 cX11_searches RX11 (some .int) false ll_mN ll_mR ll_mK ll_cnt L xs false 4 (.inl (lo_iload 5 1)) := lk_iload_n (k := 1) (by decide +kernel) rfl
theorem k_189_5 (L : Nat) (xs : Nat → Int32) : ll_OK1 cX11_searches RX11 (some .int) false ll_mN ll_mR ll_mK ll_cnt L xs false 5 (.inl (lo_push 8 (.int 186))) := lk_sipush (n := 186) (by decide +kernel) (by decide)
theorem k_189_8 (L : Nat) (xs : Nat → Int32) : ll_OK1 cX11_searches RX11 (some .int) false ll_mN ll_mR ll_mK ll_cnt L xs false 8 (.inl (lo_bin 9 (fun x y => x + y))) := lk_iadd (by decide +kernel)
theorem k_189_9 (L : Nat) (xs : Nat → Int32) : ll_OK1 cX11_searches RX11 (some .int) false ll_mN ll_mR ll_mK ll_cnt L xs false 9 (.inl (lo_push 10 (.int 0))) := lk_iconst (n := 0) (by decide +kernel) (by decide)
theorem k_189_10 (L : Nat) (xs : Nat → Int32) : ll_OK1 cX11_searches RX11 (some .int) false ll_mN ll_mR ll_mK ll_cnt L xs false 10 (.inl (lo_ast 11 0)) := lk_iast (by decide +kernel)
theorem k_189_11 (L : Nat) (xs : Nat → Int32) : ll_OK1 cX11_searches RX11 (some .int) false ll_mN ll_mR ll_mK ll_cnt L xs false 11 (.inl (lo_aload 12 0)) := lk_aload_n (k := 0) (by decide +kernel) rfl
theorem k_189_12 (L : Nat) (xs : Nat → Int32) : ll_OK1 cX11_searches RX11 (some .int) false ll_mN ll_mR ll_mK ll_cnt L xs false 12 (.inl (lo_getf 15 11 0)) := lk_getf (ix := 8) (ci := 11) (k := 0) (C := RX11) (T := TX11) (N := 46) (by decide +kernel) rfl in_11 (by decide) tb_606
theorem k_189_15 (L : Nat) (xs : Nat → Int32) : ll_OK1 cX11_searches RX11 (some .int) false ll_mN ll_mR ll_mK ll_cnt L xs false 15 (.inl (lo_iload 16 1)) := lk_iload_n (k := 1) (by decide +kernel) rfl
theorem k_189_16 (L : Nat) (xs : Nat → Int32) : ll_OK1 cX11_searches RX11 (some .int) false ll_mN ll_mR ll_mK ll_cnt L xs false 16 (.inl (lo_push 19 (.int 10387))) := lk_sipush (n := 10387) (by decide +kernel) (by decide)
theorem k_189_19 (L : Nat) (xs : Nat → Int32) : ll_OK1 cX11_searches RX11 (some .int) false ll_mN ll_mR ll_mK ll_cnt L xs false 19 (.inl (lo_bin 20 (fun x y => x + y))) := lk_iadd (by decide +kernel)
theorem k_189_20 (L : Nat) (xs : Nat → Int32) : ll_OK1 cX11_searches RX11 (some .int) false ll_mN ll_mR ll_mK ll_cnt L xs false 20 (.inl (lo_push 21 (.int 0))) := lk_iconst (n := 0) (by decide +kernel) (by decide)
theorem k_189_21 (L : Nat) (xs : Nat → Int32) : ll_OK1 cX11_searches RX11 (some .int) false ll_mN ll_mR ll_mK ll_cnt L xs false 21 (.inl (lo_ast 22 0)) := lk_iast (by decide +kernel)
theorem k_189_22 (L : Nat) (xs : Nat → Int32) : ll_OK1 cX11_searches RX11 (some .int) false ll_mN ll_mR ll_mK ll_cnt L xs false 22 (.inl (lo_aload 23 0)) := lk_aload_n (k := 0) (by decide +kernel) rfl
theorem k_189_23 (L : Nat) (xs : Nat → Int32) : ll_OK1 cX11_searches RX11 (some .int) false ll_mN ll_mR ll_mK ll_cnt L xs false 23 (.inl (lo_getf 26 11 0)) := lk_getf (ix := 8) (ci := 11) (k := 0) (C := RX11) (T := TX11) (N := 46) (by decide +kernel) rfl in_11 (by decide) tb_606
theorem k_189_26 (L : Nat) (xs : Nat → Int32) : ll_OK1 cX11_searches RX11 (some .int) false ll_mN ll_mR ll_mK ll_cnt L xs false 26 (.inl (lo_iload 27 1)) := lk_iload_n (k := 1) (by decide +kernel) rfl
theorem k_189_27 (L : Nat) (xs : Nat → Int32) : ll_OK1 cX11_searches RX11 (some .int) false ll_mN ll_mR ll_mK ll_cnt L xs false 27 (.inl (lo_push 30 (.int 10388))) := lk_sipush (n := 10388) (by decide +kernel) (by decide)
theorem k_189_30 (L : Nat) (xs : Nat → Int32) : ll_OK1 cX11_searches RX11 (some .int) false ll_mN ll_mR ll_mK ll_cnt L xs false 30 (.inl (lo_bin 31 (fun x y => x + y))) := lk_iadd (by decide +kernel)
theorem k_189_31 (L : Nat) (xs : Nat → Int32) : ll_OK1 cX11_searches RX11 (some .int) false ll_mN ll_mR ll_mK ll_cnt L xs false 31 (.inl (lo_push 32 (.int (-1)))) := lk_iconst (n := (-1)) (by decide +kernel) (by decide)
theorem k_189_32 (L : Nat) (xs : Nat → Int32) : ll_OK1 cX11_searches RX11 (some .int) false ll_mN ll_mR ll_mK ll_cnt L xs false 32 (.inl (lo_ast 33 0)) := lk_iast (by decide +kernel)
theorem k_189_33 (L : Nat) (xs : Nat → Int32) : ll_OK1 cX11_searches RX11 (some .int) false ll_mN ll_mR ll_mK ll_cnt L xs false 33 (.inl (lo_aload 34 0)) := lk_aload_n (k := 0) (by decide +kernel) rfl
theorem k_189_34 (L : Nat) (xs : Nat → Int32) : ll_OK1 cX11_searches RX11 (some .int) false ll_mN ll_mR ll_mK ll_cnt L xs false 34 (.inl (lo_iload 35 1)) := lk_iload_n (k := 1) (by decide +kernel) rfl
theorem k_189_35 (L : Nat) (xs : Nat → Int32) : ll_OK1 cX11_searches RX11 (some .int) false ll_mN ll_mR ll_mK ll_cnt L xs false 35 (.inl (lo_push 36 (.int 0))) := lk_iconst (n := 0) (by decide +kernel) (by decide)
theorem k_189_36 (L : Nat) (xs : Nat → Int32) : ll_OK1 cX11_searches RX11 (some .int) false ll_mN ll_mR ll_mK ll_cnt L xs false 36 (.inl (lo_push 37 (.int 1))) := lk_iconst (n := 1) (by decide +kernel) (by decide)
theorem k_189_37 (L : Nat) (xs : Nat → Int32) : ll_OK1 cX11_searches RX11 (some .int) false ll_mN ll_mR ll_mK ll_cnt L xs false 37 (.inl (lo_push 38 (.int (-1)))) := lk_iconst (n := (-1)) (by decide +kernel) (by decide)
theorem k_189_38 (L : Nat) (xs : Nat → Int32) : ll_OK1 cX11_searches RX11 (some .int) false ll_mN ll_mR ll_mK ll_cnt L xs false 38 (.inl (lo_push 39 (.int 0))) := lk_iconst (n := 0) (by decide +kernel) (by decide)
theorem k_189_39 (L : Nat) (xs : Nat → Int32) : ll_OK1 cX11_searches RX11 (some .int) false ll_mN ll_mR ll_mK ll_cnt L xs false 39 (.inr (.inl (186, 6, 42))) := ⟨rfl, by decide, by rw [mN_186, mK_186, mR_186]; exact lj_v 244 5 11 (RX11, TX11, 46) (by decide +kernel) tb_741 tb_742 tb_743 rfl rfl rfl rfl (by decide +kernel)⟩
theorem k_189_42 (L : Nat) (xs : Nat → Int32) : ll_OK1 cX11_searches RX11 (some .int) false ll_mN ll_mR ll_mK ll_cnt L xs false 42 (.inl (lo_push 43 (.int 0))) := lk_iconst (n := 0) (by decide +kernel) (by decide)
theorem k_189_43 (L : Nat) (xs : Nat → Int32) : ll_OK1 cX11_searches RX11 (some .int) false ll_mN ll_mR ll_mK ll_cnt L xs false 43 (.inl (lo_istore 44 2)) := lk_istore_n (k := 2) (by decide +kernel) rfl
theorem k_189_44 (L : Nat) (xs : Nat → Int32) : ll_OK1 cX11_searches RX11 (some .int) false ll_mN ll_mR ll_mK ll_cnt L xs false 44 (.inl (lo_iload 45 2)) := lk_iload_n (k := 2) (by decide +kernel) rfl
theorem k_189_45 (L : Nat) (xs : Nat → Int32) : ll_OK1 cX11_searches RX11 (some .int) false ll_mN ll_mR ll_mK ll_cnt L xs false 45 (.inl (lo_aload 46 0)) := lk_aload_n (k := 0) (by decide +kernel) rfl
theorem k_189_46 (L : Nat) (xs : Nat → Int32) : ll_OK1 cX11_searches RX11 (some .int) false ll_mN ll_mR ll_mK ll_cnt L xs false 46 (.inl (lo_getf 49 11 0)) := lk_getf (ix := 8) (ci := 11) (k := 0) (C := RX11) (T := TX11) (N := 46) (by decide +kernel) rfl in_11 (by decide) tb_606
theorem k_189_49 (L : Nat) (xs : Nat → Int32) : ll_OK1 cX11_searches RX11 (some .int) false ll_mN ll_mR ll_mK ll_cnt L xs false 49 (.inl (lo_iload 50 1)) := lk_iload_n (k := 1) (by decide +kernel) rfl
theorem k_189_50 (L : Nat) (xs : Nat → Int32) : ll_OK1 cX11_searches RX11 (some .int) false ll_mN ll_mR ll_mK ll_cnt L xs false 50 (.inl (lo_push 53 (.int 186))) := lk_sipush (n := 186) (by decide +kernel) (by decide)
theorem k_189_53 (L : Nat) (xs : Nat → Int32) : ll_OK1 cX11_searches RX11 (some .int) false ll_mN ll_mR ll_mK ll_cnt L xs false 53 (.inl (lo_bin 54 (fun x y => x + y))) := lk_iadd (by decide +kernel)
theorem k_189_54 (L : Nat) (xs : Nat → Int32) : ll_OK1 cX11_searches RX11 (some .int) false ll_mN ll_mR ll_mK ll_cnt L xs false 54 (.inl (lo_ald 55 0)) := lk_iald (by decide +kernel)
theorem k_189_55 (L : Nat) (xs : Nat → Int32) : ll_OK1 cX11_searches RX11 (some .int) false ll_mN ll_mR ll_mK ll_cnt L xs false 55 (.inl (lo_cmp 155 58 (fun x y => decide (y ≤ x)))) := lk_icmp_ge (off := 100) (by decide +kernel) rfl
theorem k_189_58 (L : Nat) (xs : Nat → Int32) : ll_OK1 cX11_searches RX11 (some .int) false ll_mN ll_mR ll_mK ll_cnt L xs false 58 (.inl (lo_aload 59 0)) := lk_aload_n (k := 0) (by decide +kernel) rfl
theorem k_189_59 (L : Nat) (xs : Nat → Int32) : ll_OK1 cX11_searches RX11 (some .int) false ll_mN ll_mR ll_mK ll_cnt L xs false 59 (.inl (lo_getf 62 11 0)) := lk_getf (ix := 8) (ci := 11) (k := 0) (C := RX11) (T := TX11) (N := 46) (by decide +kernel) rfl in_11 (by decide) tb_606
theorem k_189_62 (L : Nat) (xs : Nat → Int32) : ll_OK1 cX11_searches RX11 (some .int) false ll_mN ll_mR ll_mK ll_cnt L xs false 62 (.inl (lo_iload 63 1)) := lk_iload_n (k := 1) (by decide +kernel) rfl
theorem k_189_63 (L : Nat) (xs : Nat → Int32) : ll_OK1 cX11_searches RX11 (some .int) false ll_mN ll_mR ll_mK ll_cnt L xs false 63 (.inl (lo_push 66 (.int 187))) := lk_sipush (n := 187) (by decide +kernel) (by decide)
theorem k_189_66 (L : Nat) (xs : Nat → Int32) : ll_OK1 cX11_searches RX11 (some .int) false ll_mN ll_mR ll_mK ll_cnt L xs false 66 (.inl (lo_bin 67 (fun x y => x + y))) := lk_iadd (by decide +kernel)
theorem k_189_67 (L : Nat) (xs : Nat → Int32) : ll_OK1 cX11_searches RX11 (some .int) false ll_mN ll_mR ll_mK ll_cnt L xs false 67 (.inl (lo_iload 68 2)) := lk_iload_n (k := 2) (by decide +kernel) rfl
theorem k_189_68 (L : Nat) (xs : Nat → Int32) : ll_OK1 cX11_searches RX11 (some .int) false ll_mN ll_mR ll_mK ll_cnt L xs false 68 (.inl (lo_bin 69 (fun x y => x + y))) := lk_iadd (by decide +kernel)
theorem k_189_69 (L : Nat) (xs : Nat → Int32) : ll_OK1 cX11_searches RX11 (some .int) false ll_mN ll_mR ll_mK ll_cnt L xs false 69 (.inl (lo_ald 70 0)) := lk_iald (by decide +kernel)
theorem k_189_70 (L : Nat) (xs : Nat → Int32) : ll_OK1 cX11_searches RX11 (some .int) false ll_mN ll_mR ll_mK ll_cnt L xs false 70 (.inl (lo_istore 71 3)) := lk_istore_n (k := 3) (by decide +kernel) rfl
theorem k_189_71 (L : Nat) (xs : Nat → Int32) : ll_OK1 cX11_searches RX11 (some .int) false ll_mN ll_mR ll_mK ll_cnt L xs false 71 (.inl (lo_aload 72 0)) := lk_aload_n (k := 0) (by decide +kernel) rfl
theorem k_189_72 (L : Nat) (xs : Nat → Int32) : ll_OK1 cX11_searches RX11 (some .int) false ll_mN ll_mR ll_mK ll_cnt L xs false 72 (.inl (lo_getf 75 11 0)) := lk_getf (ix := 8) (ci := 11) (k := 0) (C := RX11) (T := TX11) (N := 46) (by decide +kernel) rfl in_11 (by decide) tb_606
theorem k_189_75 (L : Nat) (xs : Nat → Int32) : ll_OK1 cX11_searches RX11 (some .int) false ll_mN ll_mR ll_mK ll_cnt L xs false 75 (.inl (lo_iload 76 1)) := lk_iload_n (k := 1) (by decide +kernel) rfl
theorem k_189_76 (L : Nat) (xs : Nat → Int32) : ll_OK1 cX11_searches RX11 (some .int) false ll_mN ll_mR ll_mK ll_cnt L xs false 76 (.inl (lo_push 79 (.int 487))) := lk_sipush (n := 487) (by decide +kernel) (by decide)
theorem k_189_79 (L : Nat) (xs : Nat → Int32) : ll_OK1 cX11_searches RX11 (some .int) false ll_mN ll_mR ll_mK ll_cnt L xs false 79 (.inl (lo_bin 80 (fun x y => x + y))) := lk_iadd (by decide +kernel)
theorem k_189_80 (L : Nat) (xs : Nat → Int32) : ll_OK1 cX11_searches RX11 (some .int) false ll_mN ll_mR ll_mK ll_cnt L xs false 80 (.inl (lo_iload 81 2)) := lk_iload_n (k := 2) (by decide +kernel) rfl
theorem k_189_81 (L : Nat) (xs : Nat → Int32) : ll_OK1 cX11_searches RX11 (some .int) false ll_mN ll_mR ll_mK ll_cnt L xs false 81 (.inl (lo_bin 82 (fun x y => x + y))) := lk_iadd (by decide +kernel)
theorem k_189_82 (L : Nat) (xs : Nat → Int32) : ll_OK1 cX11_searches RX11 (some .int) false ll_mN ll_mR ll_mK ll_cnt L xs false 82 (.inl (lo_ald 83 0)) := lk_iald (by decide +kernel)
theorem k_189_83 (L : Nat) (xs : Nat → Int32) : ll_OK1 cX11_searches RX11 (some .int) false ll_mN ll_mR ll_mK ll_cnt L xs false 83 (.inl (lo_istore 85 4)) := lk_istore (by decide +kernel)
theorem k_189_85 (L : Nat) (xs : Nat → Int32) : ll_OK1 cX11_searches RX11 (some .int) false ll_mN ll_mR ll_mK ll_cnt L xs false 85 (.inl (lo_aload 86 0)) := lk_aload_n (k := 0) (by decide +kernel) rfl
theorem k_189_86 (L : Nat) (xs : Nat → Int32) : ll_OK1 cX11_searches RX11 (some .int) false ll_mN ll_mR ll_mK ll_cnt L xs false 86 (.inl (lo_iload 87 3)) := lk_iload_n (k := 3) (by decide +kernel) rfl
theorem k_189_87 (L : Nat) (xs : Nat → Int32) : ll_OK1 cX11_searches RX11 (some .int) false ll_mN ll_mR ll_mK ll_cnt L xs false 87 (.inl (lo_iload 89 4)) := lk_iload (by decide +kernel)
theorem k_189_89 (L : Nat) (xs : Nat → Int32) : ll_OK1 cX11_searches RX11 (some .int) false ll_mN ll_mR ll_mK ll_cnt L xs false 89 (.inr (.inl (184, 3, 92))) := ⟨rfl, by decide, by rw [mN_184, mK_184, mR_184]; exact lj_v 248 2 11 (RX11, TX11, 46) (by decide +kernel) tb_744 tb_745 tb_746 rfl rfl rfl rfl (by decide +kernel)⟩
theorem k_189_92 (L : Nat) (xs : Nat → Int32) : ll_OK1 cX11_searches RX11 (some .int) false ll_mN ll_mR ll_mK ll_cnt L xs false 92 (.inl (lo_if 111 95 (fun x => decide (x = 0)))) := lk_if_eq (off := 19) (by decide +kernel) rfl
theorem k_189_95 (L : Nat) (xs : Nat → Int32) : ll_OK1 cX11_searches RX11 (some .int) false ll_mN ll_mR ll_mK ll_cnt L xs false 95 (.inl (lo_aload 96 0)) := lk_aload_n (k := 0) (by decide +kernel) rfl
theorem k_189_96 (L : Nat) (xs : Nat → Int32) : ll_OK1 cX11_searches RX11 (some .int) false ll_mN ll_mR ll_mK ll_cnt L xs false 96 (.inl (lo_getf 99 11 0)) := lk_getf (ix := 8) (ci := 11) (k := 0) (C := RX11) (T := TX11) (N := 46) (by decide +kernel) rfl in_11 (by decide) tb_606
theorem k_189_99 (L : Nat) (xs : Nat → Int32) : ll_OK1 cX11_searches RX11 (some .int) false ll_mN ll_mR ll_mK ll_cnt L xs false 99 (.inl (lo_iload 100 1)) := lk_iload_n (k := 1) (by decide +kernel) rfl
theorem k_189_100 (L : Nat) (xs : Nat → Int32) : ll_OK1 cX11_searches RX11 (some .int) false ll_mN ll_mR ll_mK ll_cnt L xs false 100 (.inl (lo_push 103 (.int 787))) := lk_sipush (n := 787) (by decide +kernel) (by decide)
theorem k_189_103 (L : Nat) (xs : Nat → Int32) : ll_OK1 cX11_searches RX11 (some .int) false ll_mN ll_mR ll_mK ll_cnt L xs false 103 (.inl (lo_bin 104 (fun x y => x + y))) := lk_iadd (by decide +kernel)
theorem k_189_104 (L : Nat) (xs : Nat → Int32) : ll_OK1 cX11_searches RX11 (some .int) false ll_mN ll_mR ll_mK ll_cnt L xs false 104 (.inl (lo_iload 105 2)) := lk_iload_n (k := 2) (by decide +kernel) rfl
theorem k_189_105 (L : Nat) (xs : Nat → Int32) : ll_OK1 cX11_searches RX11 (some .int) false ll_mN ll_mR ll_mK ll_cnt L xs false 105 (.inl (lo_bin 106 (fun x y => x + y))) := lk_iadd (by decide +kernel)
theorem k_189_106 (L : Nat) (xs : Nat → Int32) : ll_OK1 cX11_searches RX11 (some .int) false ll_mN ll_mR ll_mK ll_cnt L xs false 106 (.inl (lo_push 107 (.int 0))) := lk_iconst (n := 0) (by decide +kernel) (by decide)
theorem k_189_107 (L : Nat) (xs : Nat → Int32) : ll_OK1 cX11_searches RX11 (some .int) false ll_mN ll_mR ll_mK ll_cnt L xs false 107 (.inl (lo_ast 108 0)) := lk_iast (by decide +kernel)
theorem k_189_108 (L : Nat) (xs : Nat → Int32) : ll_OK1 cX11_searches RX11 (some .int) false ll_mN ll_mR ll_mK ll_cnt L xs false 108 (.inl (lo_goto 149)) := lk_goto (off := 41) (by decide +kernel) rfl
theorem k_189_111 (L : Nat) (xs : Nat → Int32) : ll_OK1 cX11_searches RX11 (some .int) false ll_mN ll_mR ll_mK ll_cnt L xs false 111 (.inl (lo_aload 112 0)) := lk_aload_n (k := 0) (by decide +kernel) rfl
theorem k_189_112 (L : Nat) (xs : Nat → Int32) : ll_OK1 cX11_searches RX11 (some .int) false ll_mN ll_mR ll_mK ll_cnt L xs false 112 (.inl (lo_push 113 (.int 0))) := lk_iconst (n := 0) (by decide +kernel) (by decide)
theorem k_189_113 (L : Nat) (xs : Nat → Int32) : ll_OK1 cX11_searches RX11 (some .int) false ll_mN ll_mR ll_mK ll_cnt L xs false 113 (.inl (lo_iload 114 3)) := lk_iload_n (k := 3) (by decide +kernel) rfl
theorem k_189_114 (L : Nat) (xs : Nat → Int32) : ll_OK1 cX11_searches RX11 (some .int) false ll_mN ll_mR ll_mK ll_cnt L xs false 114 (.inr (.inl (181, 3, 117))) := ⟨rfl, by decide, by rw [mN_181, mK_181, mR_181]; exact lj_v 234 2 11 (RX11, TX11, 46) (by decide +kernel) tb_732 tb_733 tb_734 rfl rfl rfl rfl (by decide +kernel)⟩
theorem k_189_117 (L : Nat) (xs : Nat → Int32) : ll_OK1 cX11_searches RX11 (some .int) false ll_mN ll_mR ll_mK ll_cnt L xs false 117 (.inl (lo_if 138 120 (fun x => decide (x = 0)))) := lk_if_eq (off := 21) (by decide +kernel) rfl
theorem k_189_120 (L : Nat) (xs : Nat → Int32) : ll_OK1 cX11_searches RX11 (some .int) false ll_mN ll_mR ll_mK ll_cnt L xs false 120 (.inl (lo_aload 121 0)) := lk_aload_n (k := 0) (by decide +kernel) rfl
theorem k_189_121 (L : Nat) (xs : Nat → Int32) : ll_OK1 cX11_searches RX11 (some .int) false ll_mN ll_mR ll_mK ll_cnt L xs false 121 (.inl (lo_push 122 (.int 1))) := lk_iconst (n := 1) (by decide +kernel) (by decide)
theorem k_189_122 (L : Nat) (xs : Nat → Int32) : ll_OK1 cX11_searches RX11 (some .int) false ll_mN ll_mR ll_mK ll_cnt L xs false 122 (.inl (lo_iload 124 4)) := lk_iload (by decide +kernel)
theorem k_189_124 (L : Nat) (xs : Nat → Int32) : ll_OK1 cX11_searches RX11 (some .int) false ll_mN ll_mR ll_mK ll_cnt L xs false 124 (.inr (.inl (182, 3, 127))) := ⟨rfl, by decide, by rw [mN_182, mK_182, mR_182]; exact lj_v 251 2 11 (RX11, TX11, 46) (by decide +kernel) tb_747 tb_748 tb_749 rfl rfl rfl rfl (by decide +kernel)⟩
theorem k_189_127 (L : Nat) (xs : Nat → Int32) : ll_OK1 cX11_searches RX11 (some .int) false ll_mN ll_mR ll_mK ll_cnt L xs false 127 (.inl (lo_if 138 130 (fun x => decide (¬ x = 0)))) := lk_if_ne (off := 11) (by decide +kernel) rfl
theorem k_189_130 (L : Nat) (xs : Nat → Int32) : ll_OK1 cX11_searches RX11 (some .int) false ll_mN ll_mR ll_mK ll_cnt L xs false 130 (.inl (lo_aload 131 0)) := lk_aload_n (k := 0) (by decide +kernel) rfl
theorem k_189_131 (L : Nat) (xs : Nat → Int32) : ll_OK1 cX11_searches RX11 (some .int) false ll_mN ll_mR ll_mK ll_cnt L xs false 131 (.inl (lo_iload 132 1)) := lk_iload_n (k := 1) (by decide +kernel) rfl
theorem k_189_132 (L : Nat) (xs : Nat → Int32) : ll_OK1 cX11_searches RX11 (some .int) false ll_mN ll_mR ll_mK ll_cnt L xs false 132 (.inl (lo_iload 133 2)) := lk_iload_n (k := 2) (by decide +kernel) rfl
theorem k_189_133 (L : Nat) (xs : Nat → Int32) : ll_OK1 cX11_searches RX11 (some .int) false ll_mN ll_mR ll_mK ll_cnt L xs false 133 (.inr (.inl (188, 3, 136))) := ⟨rfl, by decide, by rw [mN_188, mK_188, mR_188]; exact lj_v 254 2 11 (RX11, TX11, 46) (by decide +kernel) tb_750 tb_751 tb_752 rfl rfl rfl rfl (by decide +kernel)⟩
theorem k_189_136 (L : Nat) (xs : Nat → Int32) : ll_OK1 cX11_searches RX11 (some .int) false ll_mN ll_mR ll_mK ll_cnt L xs false 136 (.inl (lo_push 137 (.int 1))) := lk_iconst (n := 1) (by decide +kernel) (by decide)
theorem k_189_137 (L : Nat) (xs : Nat → Int32) : ll_OK1 cX11_searches RX11 (some .int) false ll_mN ll_mR ll_mK ll_cnt L xs false 137 (.inr (.inr 1)) := ⟨(fun h => by cases h), (fun _ => ⟨(by decide +kernel), rfl⟩), fun h => by cases h⟩
theorem k_189_138 (L : Nat) (xs : Nat → Int32) : ll_OK1 cX11_searches RX11 (some .int) false ll_mN ll_mR ll_mK ll_cnt L xs false 138 (.inl (lo_aload 139 0)) := lk_aload_n (k := 0) (by decide +kernel) rfl
theorem k_189_139 (L : Nat) (xs : Nat → Int32) : ll_OK1 cX11_searches RX11 (some .int) false ll_mN ll_mR ll_mK ll_cnt L xs false 139 (.inl (lo_iload 140 1)) := lk_iload_n (k := 1) (by decide +kernel) rfl
theorem k_189_140 (L : Nat) (xs : Nat → Int32) : ll_OK1 cX11_searches RX11 (some .int) false ll_mN ll_mR ll_mK ll_cnt L xs false 140 (.inl (lo_iload 141 2)) := lk_iload_n (k := 2) (by decide +kernel) rfl
theorem k_189_141 (L : Nat) (xs : Nat → Int32) : ll_OK1 cX11_searches RX11 (some .int) false ll_mN ll_mR ll_mK ll_cnt L xs false 141 (.inr (.inl (187, 3, 144))) := ⟨rfl, by decide, by rw [mN_187, mK_187, mR_187]; exact lj_v 257 2 11 (RX11, TX11, 46) (by decide +kernel) tb_753 tb_754 tb_755 rfl rfl rfl rfl (by decide +kernel)⟩
theorem k_189_144 (L : Nat) (xs : Nat → Int32) : ll_OK1 cX11_searches RX11 (some .int) false ll_mN ll_mR ll_mK ll_cnt L xs false 144 (.inl (lo_if 149 147 (fun x => decide (¬ x = 0)))) := lk_if_ne (off := 5) (by decide +kernel) rfl
theorem k_189_147 (L : Nat) (xs : Nat → Int32) : ll_OK1 cX11_searches RX11 (some .int) false ll_mN ll_mR ll_mK ll_cnt L xs false 147 (.inl (lo_push 148 (.int 2))) := lk_iconst (n := 2) (by decide +kernel) (by decide)
theorem k_189_148 (L : Nat) (xs : Nat → Int32) : ll_OK1 cX11_searches RX11 (some .int) false ll_mN ll_mR ll_mK ll_cnt L xs false 148 (.inr (.inr 1)) := ⟨(fun h => by cases h), (fun _ => ⟨(by decide +kernel), rfl⟩), fun h => by cases h⟩
theorem k_189_149 (L : Nat) (xs : Nat → Int32) : ll_OK1 cX11_searches RX11 (some .int) false ll_mN ll_mR ll_mK ll_cnt L xs false 149 (.inl (lo_iinc 152 2 1)) := lk_iinc (n := 1) (by decide +kernel) (by decide)
theorem k_189_152 (L : Nat) (xs : Nat → Int32) : ll_OK1 cX11_searches RX11 (some .int) false ll_mN ll_mR ll_mK ll_cnt L xs false 152 (.inl (lo_goto 44)) := lk_goto (off := (-108)) (by decide +kernel) rfl
theorem k_189_155 (L : Nat) (xs : Nat → Int32) : ll_OK1 cX11_searches RX11 (some .int) false ll_mN ll_mR ll_mK ll_cnt L xs false 155 (.inl (lo_push 156 (.int 0))) := lk_iconst (n := 0) (by decide +kernel) (by decide)
theorem k_189_156 (L : Nat) (xs : Nat → Int32) : ll_OK1 cX11_searches RX11 (some .int) false ll_mN ll_mR ll_mK ll_cnt L xs false 156 (.inr (.inr 1)) := ⟨(fun h => by cases h), (fun _ => ⟨(by decide +kernel), rfl⟩), fun h => by cases h⟩
theorem ok_189 (L : Nat) (xs : Nat → Int32) : ∀ q ∈ cd_189, ll_OK1 cX11_searches RX11 (some .int) false ll_mN ll_mR ll_mK ll_cnt L xs false q.1 q.2 :=
  List.forall_mem_cons.mpr ⟨k_189_0 L xs, List.forall_mem_cons.mpr ⟨k_189_1 L xs, List.forall_mem_cons.mpr ⟨k_189_4 L xs, List.forall_mem_cons.mpr ⟨k_189_5 L xs, List.forall_mem_cons.mpr ⟨k_189_8 L xs, List.forall_mem_cons.mpr ⟨k_189_9 L xs, List.forall_mem_cons.mpr ⟨k_189_10 L xs, List.forall_mem_cons.mpr ⟨k_189_11 L xs, List.forall_mem_cons.mpr ⟨k_189_12 L xs, List.forall_mem_cons.mpr ⟨k_189_15 L xs, List.forall_mem_cons.mpr ⟨k_189_16 L xs, List.forall_mem_cons.mpr ⟨k_189_19 L xs, List.forall_mem_cons.mpr ⟨k_189_20 L xs, List.forall_mem_cons.mpr ⟨k_189_21 L xs, List.forall_mem_cons.mpr ⟨k_189_22 L xs, List.forall_mem_cons.mpr ⟨k_189_23 L xs, List.forall_mem_cons.mpr ⟨k_189_26 L xs, List.forall_mem_cons.mpr ⟨k_189_27 L xs, List.forall_mem_cons.mpr ⟨k_189_30 L xs, List.forall_mem_cons.mpr ⟨k_189_31 L xs, List.forall_mem_cons.mpr ⟨k_189_32 L xs, List.forall_mem_cons.mpr ⟨k_189_33 L xs, List.forall_mem_cons.mpr ⟨k_189_34 L xs, List.forall_mem_cons.mpr ⟨k_189_35 L xs, List.forall_mem_cons.mpr ⟨k_189_36 L xs, List.forall_mem_cons.mpr ⟨k_189_37 L xs, List.forall_mem_cons.mpr ⟨k_189_38 L xs, List.forall_mem_cons.mpr ⟨k_189_39 L xs, List.forall_mem_cons.mpr ⟨k_189_42 L xs, List.forall_mem_cons.mpr ⟨k_189_43 L xs, List.forall_mem_cons.mpr ⟨k_189_44 L xs, List.forall_mem_cons.mpr ⟨k_189_45 L xs, List.forall_mem_cons.mpr ⟨k_189_46 L xs, List.forall_mem_cons.mpr ⟨k_189_49 L xs, List.forall_mem_cons.mpr ⟨k_189_50 L xs, List.forall_mem_cons.mpr ⟨k_189_53 L xs, List.forall_mem_cons.mpr ⟨k_189_54 L xs, List.forall_mem_cons.mpr ⟨k_189_55 L xs, List.forall_mem_cons.mpr ⟨k_189_58 L xs, List.forall_mem_cons.mpr ⟨k_189_59 L xs, List.forall_mem_cons.mpr ⟨k_189_62 L xs, List.forall_mem_cons.mpr ⟨k_189_63 L xs, List.forall_mem_cons.mpr ⟨k_189_66 L xs, List.forall_mem_cons.mpr ⟨k_189_67 L xs, List.forall_mem_cons.mpr ⟨k_189_68 L xs, List.forall_mem_cons.mpr ⟨k_189_69 L xs, List.forall_mem_cons.mpr ⟨k_189_70 L xs, List.forall_mem_cons.mpr ⟨k_189_71 L xs, List.forall_mem_cons.mpr ⟨k_189_72 L xs, List.forall_mem_cons.mpr ⟨k_189_75 L xs, List.forall_mem_cons.mpr ⟨k_189_76 L xs, List.forall_mem_cons.mpr ⟨k_189_79 L xs, List.forall_mem_cons.mpr ⟨k_189_80 L xs, List.forall_mem_cons.mpr ⟨k_189_81 L xs, List.forall_mem_cons.mpr ⟨k_189_82 L xs, List.forall_mem_cons.mpr ⟨k_189_83 L xs, List.forall_mem_cons.mpr ⟨k_189_85 L xs, List.forall_mem_cons.mpr ⟨k_189_86 L xs, List.forall_mem_cons.mpr ⟨k_189_87 L xs, List.forall_mem_cons.mpr ⟨k_189_89 L xs, List.forall_mem_cons.mpr ⟨k_189_92 L xs, List.forall_mem_cons.mpr ⟨k_189_95 L xs, List.forall_mem_cons.mpr ⟨k_189_96 L xs, List.forall_mem_cons.mpr ⟨k_189_99 L xs, List.forall_mem_cons.mpr ⟨k_189_100 L xs, List.forall_mem_cons.mpr ⟨k_189_103 L xs, List.forall_mem_cons.mpr ⟨k_189_104 L xs, List.forall_mem_cons.mpr ⟨k_189_105 L xs, List.forall_mem_cons.mpr ⟨k_189_106 L xs, List.forall_mem_cons.mpr ⟨k_189_107 L xs, List.forall_mem_cons.mpr ⟨k_189_108 L xs, List.forall_mem_cons.mpr ⟨k_189_111 L xs, List.forall_mem_cons.mpr ⟨k_189_112 L xs, List.forall_mem_cons.mpr ⟨k_189_113 L xs, List.forall_mem_cons.mpr ⟨k_189_114 L xs, List.forall_mem_cons.mpr ⟨k_189_117 L xs, List.forall_mem_cons.mpr ⟨k_189_120 L xs, List.forall_mem_cons.mpr ⟨k_189_121 L xs, List.forall_mem_cons.mpr ⟨k_189_122 L xs, List.forall_mem_cons.mpr ⟨k_189_124 L xs, List.forall_mem_cons.mpr ⟨k_189_127 L xs, List.forall_mem_cons.mpr ⟨k_189_130 L xs, List.forall_mem_cons.mpr ⟨k_189_131 L xs, List.forall_mem_cons.mpr ⟨k_189_132 L xs, List.forall_mem_cons.mpr ⟨k_189_133 L xs, List.forall_mem_cons.mpr ⟨k_189_136 L xs, List.forall_mem_cons.mpr ⟨k_189_137 L xs, List.forall_mem_cons.mpr ⟨k_189_138 L xs, List.forall_mem_cons.mpr ⟨k_189_139 L xs, List.forall_mem_cons.mpr ⟨k_189_140 L xs, List.forall_mem_cons.mpr ⟨k_189_141 L xs, List.forall_mem_cons.mpr ⟨k_189_144 L xs, List.forall_mem_cons.mpr ⟨k_189_147 L xs, List.forall_mem_cons.mpr ⟨k_189_148 L xs, List.forall_mem_cons.mpr ⟨k_189_149 L xs, List.forall_mem_cons.mpr ⟨k_189_152 L xs, List.forall_mem_cons.mpr ⟨k_189_155 L xs, List.forall_mem_cons.mpr ⟨k_189_156 L xs, fun _ h => absurd h List.not_mem_nil⟩⟩⟩⟩⟩⟩⟩⟩⟩⟩⟩⟩⟩⟩⟩⟩⟩⟩⟩⟩⟩⟩⟩⟩⟩⟩⟩⟩⟩⟩⟩⟩⟩⟩⟩⟩⟩⟩⟩⟩⟩⟩⟩⟩⟩⟩⟩⟩⟩⟩⟩⟩⟩⟩⟩⟩⟩⟩⟩⟩⟩⟩⟩⟩⟩⟩⟩⟩⟩⟩⟩⟩⟩⟩⟩⟩⟩⟩⟩⟩⟩⟩⟩⟩⟩⟩⟩⟩⟩⟩⟩⟩⟩⟩⟩⟩⟩⟩
/-- InclusionProverModel.forgets.(I)V -/
def cd_190 : List (Nat × ll_O) := [
  (0, .inl (lo_aload 1 0)),
  (1, .inl (lo_getf 4 11 0)),
  (4, .inl (lo_iload 5 1)),
  (5, .inl (lo_push 8 (.int 186))),
  (8, .inl (lo_bin 9 (fun x y => x + y))),
  (9, .inl (lo_push 10 (.int 0))),
  (10, .inl (lo_ast 11 0)),
  (11, .inl (lo_aload 12 0)),
  (12, .inl (lo_getf 15 11 0)),
  (15, .inl (lo_iload 16 1)),
  (16, .inl (lo_push 19 (.int 10387))),
  (19, .inl (lo_bin 20 (fun x y => x + y))),
  (20, .inl (lo_push 21 (.int 0))),
  (21, .inl (lo_ast 22 0)),
  (22, .inl (lo_aload 23 0)),
  (23, .inl (lo_getf 26 11 0)),
  (26, .inl (lo_iload 27 1)),
  (27, .inl (lo_push 30 (.int 10388))),
  (30, .inl (lo_bin 31 (fun x y => x + y))),
  (31, .inl (lo_push 32 (.int (-1)))),
  (32, .inl (lo_ast 33 0)),
  (33, .inr (.inr 0))]
theorem k_190_0 (L : Nat) (xs : Nat → Int32) : ll_OK1 cX11_forgets RX11 none false ll_mN ll_mR ll_mK ll_cnt L xs false 0 (.inl (lo_aload 1 0)) := lk_aload_n (k := 0) (by decide +kernel) rfl
theorem k_190_1 (L : Nat) (xs : Nat → Int32) : ll_OK1 cX11_forgets RX11 none false ll_mN ll_mR ll_mK ll_cnt L xs false 1 (.inl (lo_getf 4 11 0)) := lk_getf (ix := 8) (ci := 11) (k := 0) (C := RX11) (T := TX11) (N := 46) (by decide +kernel) rfl in_11 (by decide) tb_606
theorem k_190_4 (L : Nat) (xs : Nat → Int32) : ll_OK1 cX11_forgets RX11 none false ll_mN ll_mR ll_mK ll_cnt L xs false 4 (.inl (lo_iload 5 1)) := lk_iload_n (k := 1) (by decide +kernel) rfl
theorem k_190_5 (L : Nat) (xs : Nat → Int32) : ll_OK1 cX11_forgets RX11 none false ll_mN ll_mR ll_mK ll_cnt L xs false 5 (.inl (lo_push 8 (.int 186))) := lk_sipush (n := 186) (by decide +kernel) (by decide)
theorem k_190_8 (L : Nat) (xs : Nat → Int32) : ll_OK1 cX11_forgets RX11 none false ll_mN ll_mR ll_mK ll_cnt L xs false 8 (.inl (lo_bin 9 (fun x y => x + y))) := lk_iadd (by decide +kernel)
theorem k_190_9 (L : Nat) (xs : Nat → Int32) : ll_OK1 cX11_forgets RX11 none false ll_mN ll_mR ll_mK ll_cnt L xs false 9 (.inl (lo_push 10 (.int 0))) := lk_iconst (n := 0) (by decide +kernel) (by decide)
theorem k_190_10 (L : Nat) (xs : Nat → Int32) : ll_OK1 cX11_forgets RX11 none false ll_mN ll_mR ll_mK ll_cnt L xs false 10 (.inl (lo_ast 11 0)) := lk_iast (by decide +kernel)
theorem k_190_11 (L : Nat) (xs : Nat → Int32) : ll_OK1 cX11_forgets RX11 none false ll_mN ll_mR ll_mK ll_cnt L xs false 11 (.inl (lo_aload 12 0)) := lk_aload_n (k := 0) (by decide +kernel) rfl
theorem k_190_12 (L : Nat) (xs : Nat → Int32) : ll_OK1 cX11_forgets RX11 none false ll_mN ll_mR ll_mK ll_cnt L xs false 12 (.inl (lo_getf 15 11 0)) := lk_getf (ix := 8) (ci := 11) (k := 0) (C := RX11) (T := TX11) (N := 46) (by decide +kernel) rfl in_11 (by decide) tb_606
theorem k_190_15 (L : Nat) (xs : Nat → Int32) : ll_OK1 cX11_forgets RX11 none false ll_mN ll_mR ll_mK ll_cnt L xs false 15 (.inl (lo_iload 16 1)) := lk_iload_n (k := 1) (by decide +kernel) rfl
theorem k_190_16 (L : Nat) (xs : Nat → Int32) : ll_OK1 cX11_forgets RX11 none false ll_mN ll_mR ll_mK ll_cnt L xs false 16 (.inl (lo_push 19 (.int 10387))) := lk_sipush (n := 10387) (by decide +kernel) (by decide)
theorem k_190_19 (L : Nat) (xs : Nat → Int32) : ll_OK1 cX11_forgets RX11 none false ll_mN ll_mR ll_mK ll_cnt L xs false 19 (.inl (lo_bin 20 (fun x y => x + y))) := lk_iadd (by decide +kernel)
theorem k_190_20 (L : Nat) (xs : Nat → Int32) : ll_OK1 cX11_forgets RX11 none false ll_mN ll_mR ll_mK ll_cnt L xs false 20 (.inl (lo_push 21 (.int 0))) := lk_iconst (n := 0) (by decide +kernel) (by decide)
theorem k_190_21 (L : Nat) (xs : Nat → Int32) : ll_OK1 cX11_forgets RX11 none false ll_mN ll_mR ll_mK ll_cnt L xs false 21 (.inl (lo_ast 22 0)) := lk_iast (by decide +kernel)
theorem k_190_22 (L : Nat) (xs : Nat → Int32) : ll_OK1 cX11_forgets RX11 none false ll_mN ll_mR ll_mK ll_cnt L xs false 22 (.inl (lo_aload 23 0)) := lk_aload_n (k := 0) (by decide +kernel) rfl
theorem k_190_23 (L : Nat) (xs : Nat → Int32) : ll_OK1 cX11_forgets RX11 none false ll_mN ll_mR ll_mK ll_cnt L xs false 23 (.inl (lo_getf 26 11 0)) := lk_getf (ix := 8) (ci := 11) (k := 0) (C := RX11) (T := TX11) (N := 46) (by decide +kernel) rfl in_11 (by decide) tb_606
theorem k_190_26 (L : Nat) (xs : Nat → Int32) : ll_OK1 cX11_forgets RX11 none false ll_mN ll_mR ll_mK ll_cnt L xs false 26 (.inl (lo_iload 27 1)) := lk_iload_n (k := 1) (by decide +kernel) rfl
theorem k_190_27 (L : Nat) (xs : Nat → Int32) : ll_OK1 cX11_forgets RX11 none false ll_mN ll_mR ll_mK ll_cnt L xs false 27 (.inl (lo_push 30 (.int 10388))) := lk_sipush (n := 10388) (by decide +kernel) (by decide)
theorem k_190_30 (L : Nat) (xs : Nat → Int32) : ll_OK1 cX11_forgets RX11 none false ll_mN ll_mR ll_mK ll_cnt L xs false 30 (.inl (lo_bin 31 (fun x y => x + y))) := lk_iadd (by decide +kernel)
theorem k_190_31 (L : Nat) (xs : Nat → Int32) : ll_OK1 cX11_forgets RX11 none false ll_mN ll_mR ll_mK ll_cnt L xs false 31 (.inl (lo_push 32 (.int (-1)))) := lk_iconst (n := (-1)) (by decide +kernel) (by decide)
theorem k_190_32 (L : Nat) (xs : Nat → Int32) : ll_OK1 cX11_forgets RX11 none false ll_mN ll_mR ll_mK ll_cnt L xs false 32 (.inl (lo_ast 33 0)) := lk_iast (by decide +kernel)
theorem k_190_33 (L : Nat) (xs : Nat → Int32) : ll_OK1 cX11_forgets RX11 none false ll_mN ll_mR ll_mK ll_cnt L xs false 33 (.inr (.inr 0)) := ⟨fun _ => ⟨(by decide +kernel), rfl⟩, (fun h => by cases h), fun h => by cases h⟩
theorem ok_190 (L : Nat) (xs : Nat → Int32) : ∀ q ∈ cd_190, ll_OK1 cX11_forgets RX11 none false ll_mN ll_mR ll_mK ll_cnt L xs false q.1 q.2 :=
  List.forall_mem_cons.mpr ⟨k_190_0 L xs, List.forall_mem_cons.mpr ⟨k_190_1 L xs, List.forall_mem_cons.mpr ⟨k_190_4 L xs, List.forall_mem_cons.mpr ⟨k_190_5 L xs, List.forall_mem_cons.mpr ⟨k_190_8 L xs, List.forall_mem_cons.mpr ⟨k_190_9 L xs, List.forall_mem_cons.mpr ⟨k_190_10 L xs, List.forall_mem_cons.mpr ⟨k_190_11 L xs, List.forall_mem_cons.mpr ⟨k_190_12 L xs, List.forall_mem_cons.mpr ⟨k_190_15 L xs, List.forall_mem_cons.mpr ⟨k_190_16 L xs, List.forall_mem_cons.mpr ⟨k_190_19 L xs, List.forall_mem_cons.mpr ⟨k_190_20 L xs, List.forall_mem_cons.mpr ⟨k_190_21 L xs, List.forall_mem_cons.mpr ⟨k_190_22 L xs, List.forall_mem_cons.mpr ⟨k_190_23 L xs, List.forall_mem_cons.mpr ⟨k_190_26 L xs, List.forall_mem_cons.mpr ⟨k_190_27 L xs, List.forall_mem_cons.mpr ⟨k_190_30 L xs, List.forall_mem_cons.mpr ⟨k_190_31 L xs, List.forall_mem_cons.mpr ⟨k_190_32 L xs, List.forall_mem_cons.mpr ⟨k_190_33 L xs, fun _ h => absurd h List.not_mem_nil⟩⟩⟩⟩⟩⟩⟩⟩⟩⟩⟩⟩⟩⟩⟩⟩⟩⟩⟩⟩⟩⟩
/-- InclusionProverModel.prove.()I -/
def cd_191 : List (Nat × ll_O) := [
  (0, .inl (lo_aload 1 0)),
  (1, .inl (lo_push 2 (.int 0))),
  (2, .inl (lo_push 4 (.int 31))),
  (4, .inr (.inl (180, 3, 7))),
  (7, .inl (lo_aload 8 0)),
  (8, .inl (lo_push 9 (.int 0))),
  (9, .inr (.inl (189, 2, 12))),
  (12, .inr (.inr 1))]
theorem k_191_0 (L : Nat) (xs : Nat → Int32) : ll_OK1 cX11_prove RX11 (some .int) false ll_mN ll_mR ll_mK ll_cnt L xs false 0 (.inl (lo_aload 1 0)) := lk_aload_n (k := 0) (by decide +kernel) rfl
theorem k_191_1 (L : Nat) (xs : Nat → Int32) : ll_OK1 cX11_prove RX11 (some .int) false ll_mN ll_mR ll_mK ll_cnt L xs false 1 (.inl (lo_push 2 (.int 0))) := lk_iconst (n := 0) (by decide +kernel) (by decide)
theorem k_191_2 (L : Nat) (xs : Nat → Int32) : ll_OK1 cX11_prove RX11 (some .int) false ll_mN ll_mR ll_mK ll_cnt L xs false 2 (.inl (lo_push 4 (.int 31))) := lk_bipush (n := 31) (by decide +kernel) (by decide)
theorem k_191_4 (L : Nat) (xs : Nat → Int32) : ll_OK1 cX11_prove RX11 (some .int) false ll_mN ll_mR ll_mK ll_cnt L xs false 4 (.inr (.inl (180, 3, 7))) := ⟨rfl, by decide, by rw [mN_180, mK_180, mR_180]; exact lj_v 260 2 11 (RX11, TX11, 46) (by decide +kernel) tb_756 tb_757 tb_758 rfl rfl rfl rfl (by decide +kernel)⟩
theorem k_191_7 (L : Nat) (xs : Nat → Int32) : ll_OK1 cX11_prove RX11 (some .int) false ll_mN ll_mR ll_mK ll_cnt L xs false 7 (.inl (lo_aload 8 0)) := lk_aload_n (k := 0) (by decide +kernel) rfl
theorem k_191_8 (L : Nat) (xs : Nat → Int32) : ll_OK1 cX11_prove RX11 (some .int) false ll_mN ll_mR ll_mK ll_cnt L xs false 8 (.inl (lo_push 9 (.int 0))) := lk_iconst (n := 0) (by decide +kernel) (by decide)
theorem k_191_9 (L : Nat) (xs : Nat → Int32) : ll_OK1 cX11_prove RX11 (some .int) false ll_mN ll_mR ll_mK ll_cnt L xs false 9 (.inr (.inl (189, 2, 12))) := ⟨rfl, by decide, by rw [mN_189, mK_189, mR_189]; exact lj_v 263 1 11 (RX11, TX11, 46) (by decide +kernel) tb_759 tb_760 tb_761 rfl rfl rfl rfl (by decide +kernel)⟩
theorem k_191_12 (L : Nat) (xs : Nat → Int32) : ll_OK1 cX11_prove RX11 (some .int) false ll_mN ll_mR ll_mK ll_cnt L xs false 12 (.inr (.inr 1)) := ⟨(fun h => by cases h), (fun _ => ⟨(by decide +kernel), rfl⟩), fun h => by cases h⟩
theorem ok_191 (L : Nat) (xs : Nat → Int32) : ∀ q ∈ cd_191, ll_OK1 cX11_prove RX11 (some .int) false ll_mN ll_mR ll_mK ll_cnt L xs false q.1 q.2 :=
  List.forall_mem_cons.mpr ⟨k_191_0 L xs, List.forall_mem_cons.mpr ⟨k_191_1 L xs, List.forall_mem_cons.mpr ⟨k_191_2 L xs, List.forall_mem_cons.mpr ⟨k_191_4 L xs, List.forall_mem_cons.mpr ⟨k_191_7 L xs, List.forall_mem_cons.mpr ⟨k_191_8 L xs, List.forall_mem_cons.mpr ⟨k_191_9 L xs, List.forall_mem_cons.mpr ⟨k_191_12 L xs, fun _ h => absurd h List.not_mem_nil⟩⟩⟩⟩⟩⟩⟩⟩
/-- InclusionProverModel.tried.(II)I -/
def cd_192 : List (Nat × ll_O) := [
  (0, .inl (lo_aload 1 0)),
  (1, .inl (lo_iload 2 1)),
  (2, .inl (lo_iload 3 2)),
  (3, .inr (.inl (180, 3, 6))),
  (6, .inl (lo_aload 7 0)),
  (7, .inl (lo_push 10 (.int 10689))),
  (10, .inr (.inl (189, 2, 13))),
  (13, .inr (.inr 1))]
theorem k_192_0 (L : Nat) (xs : Nat → Int32) : ll_OK1 cX11_tried RX11 (some .int) false ll_mN ll_mR ll_mK ll_cnt L xs false 0 (.inl (lo_aload 1 0)) := lk_aload_n (k := 0) (by decide +kernel) rfl
theorem k_192_1 (L : Nat) (xs : Nat → Int32) : ll_OK1 cX11_tried RX11 (some .int) false ll_mN ll_mR ll_mK ll_cnt L xs false 1 (.inl (lo_iload 2 1)) := lk_iload_n (k := 1) (by decide +kernel) rfl
theorem k_192_2 (L : Nat) (xs : Nat → Int32) : ll_OK1 cX11_tried RX11 (some .int) false ll_mN ll_mR ll_mK ll_cnt L xs false 2 (.inl (lo_iload 3 2)) := lk_iload_n (k := 2) (by decide +kernel) rfl
theorem k_192_3 (L : Nat) (xs : Nat → Int32) : ll_OK1 cX11_tried RX11 (some .int) false ll_mN ll_mR ll_mK ll_cnt L xs false 3 (.inr (.inl (180, 3, 6))) := ⟨rfl, by decide, by rw [mN_180, mK_180, mR_180]; exact lj_v 260 2 11 (RX11, TX11, 46) (by decide +kernel) tb_756 tb_757 tb_758 rfl rfl rfl rfl (by decide +kernel)⟩
theorem k_192_6 (L : Nat) (xs : Nat → Int32) : ll_OK1 cX11_tried RX11 (some .int) false ll_mN ll_mR ll_mK ll_cnt L xs false 6 (.inl (lo_aload 7 0)) := lk_aload_n (k := 0) (by decide +kernel) rfl
theorem k_192_7 (L : Nat) (xs : Nat → Int32) : ll_OK1 cX11_tried RX11 (some .int) false ll_mN ll_mR ll_mK ll_cnt L xs false 7 (.inl (lo_push 10 (.int 10689))) := lk_sipush (n := 10689) (by decide +kernel) (by decide)
theorem k_192_10 (L : Nat) (xs : Nat → Int32) : ll_OK1 cX11_tried RX11 (some .int) false ll_mN ll_mR ll_mK ll_cnt L xs false 10 (.inr (.inl (189, 2, 13))) := ⟨rfl, by decide, by rw [mN_189, mK_189, mR_189]; exact lj_v 263 1 11 (RX11, TX11, 46) (by decide +kernel) tb_759 tb_760 tb_761 rfl rfl rfl rfl (by decide +kernel)⟩
theorem k_192_13 (L : Nat) (xs : Nat → Int32) : ll_OK1 cX11_tried RX11 (some .int) false ll_mN ll_mR ll_mK ll_cnt L xs false 13 (.inr (.inr 1)) := ⟨(fun h => by cases h), (fun _ => ⟨(by decide +kernel), rfl⟩), fun h => by cases h⟩
theorem ok_192 (L : Nat) (xs : Nat → Int32) : ∀ q ∈ cd_192, ll_OK1 cX11_tried RX11 (some .int) false ll_mN ll_mR ll_mK ll_cnt L xs false q.1 q.2 :=
  List.forall_mem_cons.mpr ⟨k_192_0 L xs, List.forall_mem_cons.mpr ⟨k_192_1 L xs, List.forall_mem_cons.mpr ⟨k_192_2 L xs, List.forall_mem_cons.mpr ⟨k_192_3 L xs, List.forall_mem_cons.mpr ⟨k_192_6 L xs, List.forall_mem_cons.mpr ⟨k_192_7 L xs, List.forall_mem_cons.mpr ⟨k_192_10 L xs, List.forall_mem_cons.mpr ⟨k_192_13 L xs, fun _ h => absurd h List.not_mem_nil⟩⟩⟩⟩⟩⟩⟩⟩
/-- InclusionProverModel.same.()I -/
def cd_193 : List (Nat × ll_O) := [
  (0, .inl (lo_aload 1 0)),
  (1, .inl (lo_push 2 (.int 0))),
  (2, .inl (lo_push 4 (.int 31))),
  (4, .inr (.inl (192, 3, 7))),
  (7, .inl (lo_istore 8 1)),
  (8, .inl (lo_iload 9 1)),
  (9, .inl (lo_push 10 (.int 1))),
  (10, .inl (lo_cmp 17 13 (fun x y => decide (¬ x = y)))),
  (13, .inl (lo_push 14 (.int 1))),
  (14, .inl (lo_goto 24)),
  (17, .inl (lo_aload 18 0)),
  (18, .inl (lo_push 20 (.int 31))),
  (20, .inl (lo_push 21 (.int 0))),
  (21, .inr (.inl (192, 3, 24))),
  (24, .inl (lo_istore 25 2)),
  (25, .inl (lo_iload 26 1)),
  (26, .inl (lo_push 27 (.int 1))),
  (27, .inl (lo_cmp 35 30 (fun x y => decide (x = y)))),
  (30, .inl (lo_iload 31 2)),
  (31, .inl (lo_push 32 (.int 1))),
  (32, .inl (lo_cmp 39 35 (fun x y => decide (¬ x = y)))),
  (35, .inl (lo_push 36 (.int 0))),
  (36, .inl (lo_goto 52)),
  (39, .inl (lo_iload 40 1)),
  (40, .inl (lo_if 51 43 (fun x => decide (¬ x = 0)))),
  (43, .inl (lo_iload 44 2)),
  (44, .inl (lo_if 51 47 (fun x => decide (¬ x = 0)))),
  (47, .inl (lo_push 48 (.int 1))),
  (48, .inl (lo_goto 52)),
  (51, .inl (lo_push 52 (.int 2))),
  (52, .inr (.inr 1))]
theorem k_193_0 (L : Nat) (xs : Nat → Int32) : ll_OK1 cX11_same RX11 (some .int) false ll_mN ll_mR ll_mK ll_cnt L xs false 0 (.inl (lo_aload 1 0)) := lk_aload_n (k := 0) (by decide +kernel) rfl
theorem k_193_1 (L : Nat) (xs : Nat → Int32) : ll_OK1 cX11_same RX11 (some .int) false ll_mN ll_mR ll_mK ll_cnt L xs false 1 (.inl (lo_push 2 (.int 0))) := lk_iconst (n := 0) (by decide +kernel) (by decide)
theorem k_193_2 (L : Nat) (xs : Nat → Int32) : ll_OK1 cX11_same RX11 (some .int) false ll_mN ll_mR ll_mK ll_cnt L xs false 2 (.inl (lo_push 4 (.int 31))) := lk_bipush (n := 31) (by decide +kernel) (by decide)
theorem k_193_4 (L : Nat) (xs : Nat → Int32) : ll_OK1 cX11_same RX11 (some .int) false ll_mN ll_mR ll_mK ll_cnt L xs false 4 (.inr (.inl (192, 3, 7))) := ⟨rfl, by decide, by rw [mN_192, mK_192, mR_192]; exact lj_v 266 2 11 (RX11, TX11, 46) (by decide +kernel) tb_762 tb_763 tb_764 rfl rfl rfl rfl (by decide +kernel)⟩
theorem k_193_7 (L : Nat) (xs : Nat → Int32) : ll_OK1 cX11_same RX11 (some .int) false ll_mN ll_mR ll_mK ll_cnt L xs false 7 (.inl (lo_istore 8 1)) := lk_istore_n (k := 1) (by decide +kernel) rfl
theorem k_193_8 (L : Nat) (xs : Nat → Int32) : ll_OK1 cX11_same RX11 (some .int) false ll_mN ll_mR ll_mK ll_cnt L xs false 8 (.inl (lo_iload 9 1)) := lk_iload_n (k := 1) (by decide +kernel) rfl
theorem k_193_9 (L : Nat) (xs : Nat → Int32) : ll_OK1 cX11_same RX11 (some .int) false ll_mN ll_mR ll_mK ll_cnt L xs false 9 (.inl (lo_push 10 (.int 1))) := lk_iconst (n := 1) (by decide +kernel) (by decide)
theorem k_193_10 (L : Nat) (xs : Nat → Int32) : ll_OK1 cX11_same RX11 (some .int) false ll_mN ll_mR ll_mK ll_cnt L xs false 10 (.inl (lo_cmp 17 13 (fun x y => decide (¬ x = y)))) := lk_icmp_ne (off := 7) (by decide +kernel) rfl
theorem k_193_13 (L : Nat) (xs : Nat → Int32) : ll_OK1 cX11_same RX11 (some .int) false ll_mN ll_mR ll_mK ll_cnt L xs false 13 (.inl (lo_push 14 (.int 1))) := lk_iconst (n := 1) (by decide +kernel) (by decide)
theorem k_193_14 (L : Nat) (xs : Nat → Int32) : ll_OK1 cX11_same RX11 (some .int) false ll_mN ll_mR ll_mK ll_cnt L xs false 14 (.inl (lo_goto 24)) := lk_goto (off := 10) (by decide +kernel) rfl
theorem k_193_17 (L : Nat) (xs : Nat → Int32) : ll_OK1 cX11_same RX11 (some .int) false ll_mN ll_mR ll_mK ll_cnt L xs false 17 (.inl (lo_aload 18 0)) := lk_aload_n (k := 0) (by decide +kernel) rfl
theorem k_193_18 (L : Nat) (xs : Nat → Int32) : ll_OK1 cX11_same RX11 (some .int) false ll_mN ll_mR ll_mK ll_cnt L xs false 18 (.inl (lo_push 20 (.int 31))) := lk_bipush (n := 31) (by decide +kernel) (by decide)
theorem k_193_20 (L : Nat) (xs : Nat → Int32) : ll_OK1 cX11_same RX11 (some .int) false ll_mN ll_mR ll_mK ll_cnt L xs false 20 (.inl (lo_push 21 (.int 0))) := lk_iconst (n := 0) (by decide +kernel) (by decide)
theorem k_193_21 (L : Nat) (xs : Nat → Int32) : ll_OK1 cX11_same RX11 (some .int) false ll_mN ll_mR ll_mK ll_cnt L xs false 21 (.inr (.inl (192, 3, 24))) := ⟨rfl, by decide, by rw [mN_192, mK_192, mR_192]; exact lj_v 266 2 11 (RX11, TX11, 46) (by decide +kernel) tb_762 tb_763 tb_764 rfl rfl rfl rfl (by decide +kernel)⟩
theorem k_193_24 (L : Nat) (xs : Nat → Int32) : ll_OK1 cX11_same RX11 (some .int) false ll_mN ll_mR ll_mK ll_cnt L xs false 24 (.inl (lo_istore 25 2)) := lk_istore_n (k := 2) (by decide +kernel) rfl
theorem k_193_25 (L : Nat) (xs : Nat → Int32) : ll_OK1 cX11_same RX11 (some .int) false ll_mN ll_mR ll_mK ll_cnt L xs false 25 (.inl (lo_iload 26 1)) := lk_iload_n (k := 1) (by decide +kernel) rfl
theorem k_193_26 (L : Nat) (xs : Nat → Int32) : ll_OK1 cX11_same RX11 (some .int) false ll_mN ll_mR ll_mK ll_cnt L xs false 26 (.inl (lo_push 27 (.int 1))) := lk_iconst (n := 1) (by decide +kernel) (by decide)
theorem k_193_27 (L : Nat) (xs : Nat → Int32) : ll_OK1 cX11_same RX11 (some .int) false ll_mN ll_mR ll_mK ll_cnt L xs false 27 (.inl (lo_cmp 35 30 (fun x y => decide (x = y)))) := lk_icmp_eq (off := 8) (by decide +kernel) rfl
theorem k_193_30 (L : Nat) (xs : Nat → Int32) : ll_OK1 cX11_same RX11 (some .int) false ll_mN ll_mR ll_mK ll_cnt L xs false 30 (.inl (lo_iload 31 2)) := lk_iload_n (k := 2) (by decide +kernel) rfl
theorem k_193_31 (L : Nat) (xs : Nat → Int32) : ll_OK1 cX11_same RX11 (some .int) false ll_mN ll_mR ll_mK ll_cnt L xs false 31 (.inl (lo_push 32 (.int 1))) := lk_iconst (n := 1) (by decide +kernel) (by decide)
theorem k_193_32 (L : Nat) (xs : Nat → Int32) : ll_OK1 cX11_same RX11 (some .int) false ll_mN ll_mR ll_mK ll_cnt L xs false 32 (.inl (lo_cmp 39 35 (fun x y => decide (¬ x = y)))) := lk_icmp_ne (off := 7) (by decide +kernel) rfl
theorem k_193_35 (L : Nat) (xs : Nat → Int32) : ll_OK1 cX11_same RX11 (some .int) false ll_mN ll_mR ll_mK ll_cnt L xs false 35 (.inl (lo_push 36 (.int 0))) := lk_iconst (n := 0) (by decide +kernel) (by decide)
theorem k_193_36 (L : Nat) (xs : Nat → Int32) : ll_OK1 cX11_same RX11 (some .int) false ll_mN ll_mR ll_mK ll_cnt L xs false 36 (.inl (lo_goto 52)) := lk_goto (off := 16) (by decide +kernel) rfl
theorem k_193_39 (L : Nat) (xs : Nat → Int32) : ll_OK1 cX11_same RX11 (some .int) false ll_mN ll_mR ll_mK ll_cnt L xs false 39 (.inl (lo_iload 40 1)) := lk_iload_n (k := 1) (by decide +kernel) rfl
theorem k_193_40 (L : Nat) (xs : Nat → Int32) : ll_OK1 cX11_same RX11 (some .int) false ll_mN ll_mR ll_mK ll_cnt L xs false 40 (.inl (lo_if 51 43 (fun x => decide (¬ x = 0)))) := lk_if_ne (off := 11) (by decide +kernel) rfl
theorem k_193_43 (L : Nat) (xs : Nat → Int32) : ll_OK1 cX11_same RX11 (some .int) false ll_mN ll_mR ll_mK ll_cnt L xs false 43 (.inl (lo_iload 44 2)) := lk_iload_n (k := 2) (by decide +kernel) rfl
theorem k_193_44 (L : Nat) (xs : Nat → Int32) : ll_OK1 cX11_same RX11 (some .int) false ll_mN ll_mR ll_mK ll_cnt L xs false 44 (.inl (lo_if 51 47 (fun x => decide (¬ x = 0)))) := lk_if_ne (off := 7) (by decide +kernel) rfl
theorem k_193_47 (L : Nat) (xs : Nat → Int32) : ll_OK1 cX11_same RX11 (some .int) false ll_mN ll_mR ll_mK ll_cnt L xs false 47 (.inl (lo_push 48 (.int 1))) := lk_iconst (n := 1) (by decide +kernel) (by decide)
theorem k_193_48 (L : Nat) (xs : Nat → Int32) : ll_OK1 cX11_same RX11 (some .int) false ll_mN ll_mR ll_mK ll_cnt L xs false 48 (.inl (lo_goto 52)) := lk_goto (off := 4) (by decide +kernel) rfl
theorem k_193_51 (L : Nat) (xs : Nat → Int32) : ll_OK1 cX11_same RX11 (some .int) false ll_mN ll_mR ll_mK ll_cnt L xs false 51 (.inl (lo_push 52 (.int 2))) := lk_iconst (n := 2) (by decide +kernel) (by decide)
theorem k_193_52 (L : Nat) (xs : Nat → Int32) : ll_OK1 cX11_same RX11 (some .int) false ll_mN ll_mR ll_mK ll_cnt L xs false 52 (.inr (.inr 1)) := ⟨(fun h => by cases h), (fun _ => ⟨(by decide +kernel), rfl⟩), fun h => by cases h⟩
theorem ok_193 (L : Nat) (xs : Nat → Int32) : ∀ q ∈ cd_193, ll_OK1 cX11_same RX11 (some .int) false ll_mN ll_mR ll_mK ll_cnt L xs false q.1 q.2 :=
  List.forall_mem_cons.mpr ⟨k_193_0 L xs, List.forall_mem_cons.mpr ⟨k_193_1 L xs, List.forall_mem_cons.mpr ⟨k_193_2 L xs, List.forall_mem_cons.mpr ⟨k_193_4 L xs, List.forall_mem_cons.mpr ⟨k_193_7 L xs, List.forall_mem_cons.mpr ⟨k_193_8 L xs, List.forall_mem_cons.mpr ⟨k_193_9 L xs, List.forall_mem_cons.mpr ⟨k_193_10 L xs, List.forall_mem_cons.mpr ⟨k_193_13 L xs, List.forall_mem_cons.mpr ⟨k_193_14 L xs, List.forall_mem_cons.mpr ⟨k_193_17 L xs, List.forall_mem_cons.mpr ⟨k_193_18 L xs, List.forall_mem_cons.mpr ⟨k_193_20 L xs, List.forall_mem_cons.mpr ⟨k_193_21 L xs, List.forall_mem_cons.mpr ⟨k_193_24 L xs, List.forall_mem_cons.mpr ⟨k_193_25 L xs, List.forall_mem_cons.mpr ⟨k_193_26 L xs, List.forall_mem_cons.mpr ⟨k_193_27 L xs, List.forall_mem_cons.mpr ⟨k_193_30 L xs, List.forall_mem_cons.mpr ⟨k_193_31 L xs, List.forall_mem_cons.mpr ⟨k_193_32 L xs, List.forall_mem_cons.mpr ⟨k_193_35 L xs, List.forall_mem_cons.mpr ⟨k_193_36 L xs, List.forall_mem_cons.mpr ⟨k_193_39 L xs, List.forall_mem_cons.mpr ⟨k_193_40 L xs, List.forall_mem_cons.mpr ⟨k_193_43 L xs, List.forall_mem_cons.mpr ⟨k_193_44 L xs, List.forall_mem_cons.mpr ⟨k_193_47 L xs, List.forall_mem_cons.mpr ⟨k_193_48 L xs, List.forall_mem_cons.mpr ⟨k_193_51 L xs, List.forall_mem_cons.mpr ⟨k_193_52 L xs, fun _ h => absurd h List.not_mem_nil⟩⟩⟩⟩⟩⟩⟩⟩⟩⟩⟩⟩⟩⟩⟩⟩⟩⟩⟩⟩⟩⟩⟩⟩⟩⟩⟩⟩⟩⟩⟩
/-- InclusionProverModel.isSlot.(I)Z -/
def cd_194 : List (Nat × ll_O) := [
  (0, .inl (lo_iload 1 0)),
  (1, .inl (lo_push 2 (.int 0))),
  (2, .inl (lo_push 3 (.int 3))),
  (3, .inr (.inl (151, 3, 6))),
  (6, .inr (.inr 2))]
theorem k_194_0 (L : Nat) (xs : Nat → Int32) : ll_OK1 cX11_isSlot RX11 (some .boolean) false ll_mN ll_mR ll_mK ll_cnt L xs false 0 (.inl (lo_iload 1 0)) := lk_iload_n (k := 0) (by decide +kernel) rfl
theorem k_194_1 (L : Nat) (xs : Nat → Int32) : ll_OK1 cX11_isSlot RX11 (some .boolean) false ll_mN ll_mR ll_mK ll_cnt L xs false 1 (.inl (lo_push 2 (.int 0))) := lk_iconst (n := 0) (by decide +kernel) (by decide)
theorem k_194_2 (L : Nat) (xs : Nat → Int32) : ll_OK1 cX11_isSlot RX11 (some .boolean) false ll_mN ll_mR ll_mK ll_cnt L xs false 2 (.inl (lo_push 3 (.int 3))) := lk_iconst (n := 3) (by decide +kernel) (by decide)
theorem k_194_3 (L : Nat) (xs : Nat → Int32) : ll_OK1 cX11_isSlot RX11 (some .boolean) false ll_mN ll_mR ll_mK ll_cnt L xs false 3 (.inr (.inl (151, 3, 6))) := ⟨rfl, by decide, by rw [mN_151, mK_151, mR_151]; exact lj_s 163 (by decide +kernel) tb_673 tb_674 (by decide +kernel)⟩
theorem k_194_6 (L : Nat) (xs : Nat → Int32) : ll_OK1 cX11_isSlot RX11 (some .boolean) false ll_mN ll_mR ll_mK ll_cnt L xs false 6 (.inr (.inr 2)) := ⟨(fun h => by cases h), (fun h => by cases h), fun _ => ⟨(by decide +kernel), rfl⟩⟩
theorem ok_194 (L : Nat) (xs : Nat → Int32) : ∀ q ∈ cd_194, ll_OK1 cX11_isSlot RX11 (some .boolean) false ll_mN ll_mR ll_mK ll_cnt L xs false q.1 q.2 :=
  List.forall_mem_cons.mpr ⟨k_194_0 L xs, List.forall_mem_cons.mpr ⟨k_194_1 L xs, List.forall_mem_cons.mpr ⟨k_194_2 L xs, List.forall_mem_cons.mpr ⟨k_194_3 L xs, List.forall_mem_cons.mpr ⟨k_194_6 L xs, fun _ h => absurd h List.not_mem_nil⟩⟩⟩⟩⟩
/-- InclusionProverModel.between.(II)I -/
def cd_195 : List (Nat × ll_O) := [
  (0, .inl (lo_iload 1 1)),
  (1, .inr (.inl (194, 1, 4))),
  (4, .inl (lo_if 35 7 (fun x => decide (x = 0)))),
  (7, .inl (lo_iload 8 2)),
  (8, .inr (.inl (194, 1, 11))),
  (11, .inl (lo_if 35 14 (fun x => decide (x = 0)))),
  (14, .inl (lo_aload 15 0)),
  (15, .inl (lo_push 17 (.int 62))),
  (17, .inl (lo_push 19 (.int 31))),
  (19, .inl (lo_iload 20 1)),
  (20, .inl (lo_bin 21 (fun x y => x * y))),
  (21, .inl (lo_bin 22 (fun x y => x + y))),
  (22, .inl (lo_push 24 (.int 62))),
  (24, .inl (lo_push 26 (.int 31))),
  (26, .inl (lo_iload 27 2)),
  (27, .inl (lo_bin 28 (fun x y => x * y))),
  (28, .inl (lo_bin 29 (fun x y => x + y))),
  (29, .inr (.inl (192, 3, 32))),
  (32, .inl (lo_goto 36)),
  (35, .inl (lo_push 36 (.int (-1)))),
  (36, .inr (.inr 1))]
theorem k_195_0 (L : Nat) (xs : Nat → Int32) : ll_OK1 cX11_between RX11 (some .int) false ll_mN ll_mR ll_mK ll_cnt L xs false 0 (.inl (lo_iload 1 1)) := lk_iload_n (k := 1) (by decide +kernel) rfl
theorem k_195_1 (L : Nat) (xs : Nat → Int32) : ll_OK1 cX11_between RX11 (some .int) false ll_mN ll_mR ll_mK ll_cnt L xs false 1 (.inr (.inl (194, 1, 4))) := ⟨rfl, by decide, by rw [mN_194, mK_194, mR_194]; exact lj_s 269 (by decide +kernel) tb_765 tb_766 (by decide +kernel)⟩
theorem k_195_4 (L : Nat) (xs : Nat → Int32) : ll_OK1 cX11_between RX11 (some .int) false ll_mN ll_mR ll_mK ll_cnt L xs false 4 (.inl (lo_if 35 7 (fun x => decide (x = 0)))) := lk_if_eq (off := 31) (by decide +kernel) rfl
theorem k_195_7 (L : Nat) (xs : Nat → Int32) : ll_OK1 cX11_between RX11 (some .int) false ll_mN ll_mR ll_mK ll_cnt L xs false 7 (.inl (lo_iload 8 2)) := lk_iload_n (k := 2) (by decide +kernel) rfl
theorem k_195_8 (L : Nat) (xs : Nat → Int32) : ll_OK1 cX11_between RX11 (some .int) false ll_mN ll_mR ll_mK ll_cnt L xs false 8 (.inr (.inl (194, 1, 11))) := ⟨rfl, by decide, by rw [mN_194, mK_194, mR_194]; exact lj_s 269 (by decide +kernel) tb_765 tb_766 (by decide +kernel)⟩
theorem k_195_11 (L : Nat) (xs : Nat → Int32) : ll_OK1 cX11_between RX11 (some .int) false ll_mN ll_mR ll_mK ll_cnt L xs false 11 (.inl (lo_if 35 14 (fun x => decide (x = 0)))) := lk_if_eq (off := 24) (by decide +kernel) rfl
theorem k_195_14 (L : Nat) (xs : Nat → Int32) : ll_OK1 cX11_between RX11 (some .int) false ll_mN ll_mR ll_mK ll_cnt L xs false 14 (.inl (lo_aload 15 0)) := lk_aload_n (k := 0) (by decide +kernel) rfl
theorem k_195_15 (L : Nat) (xs : Nat → Int32) : ll_OK1 cX11_between RX11 (some .int) false ll_mN ll_mR ll_mK ll_cnt L xs false 15 (.inl (lo_push 17 (.int 62))) := lk_bipush (n := 62) (by decide +kernel) (by decide)
theorem k_195_17 (L : Nat) (xs : Nat → Int32) : ll_OK1 cX11_between RX11 (some .int) false ll_mN ll_mR ll_mK ll_cnt L xs false 17 (.inl (lo_push 19 (.int 31))) := lk_bipush (n := 31) (by decide +kernel) (by decide)
theorem k_195_19 (L : Nat) (xs : Nat → Int32) : ll_OK1 cX11_between RX11 (some .int) false ll_mN ll_mR ll_mK ll_cnt L xs false 19 (.inl (lo_iload 20 1)) := lk_iload_n (k := 1) (by decide +kernel) rfl
theorem k_195_20 (L : Nat) (xs : Nat → Int32) : ll_OK1 cX11_between RX11 (some .int) false ll_mN ll_mR ll_mK ll_cnt L xs false 20 (.inl (lo_bin 21 (fun x y => x * y))) := lk_imul (by decide +kernel)
theorem k_195_21 (L : Nat) (xs : Nat → Int32) : ll_OK1 cX11_between RX11 (some .int) false ll_mN ll_mR ll_mK ll_cnt L xs false 21 (.inl (lo_bin 22 (fun x y => x + y))) := lk_iadd (by decide +kernel)
theorem k_195_22 (L : Nat) (xs : Nat → Int32) : ll_OK1 cX11_between RX11 (some .int) false ll_mN ll_mR ll_mK ll_cnt L xs false 22 (.inl (lo_push 24 (.int 62))) := lk_bipush (n := 62) (by decide +kernel) (by decide)
theorem k_195_24 (L : Nat) (xs : Nat → Int32) : ll_OK1 cX11_between RX11 (some .int) false ll_mN ll_mR ll_mK ll_cnt L xs false 24 (.inl (lo_push 26 (.int 31))) := lk_bipush (n := 31) (by decide +kernel) (by decide)
theorem k_195_26 (L : Nat) (xs : Nat → Int32) : ll_OK1 cX11_between RX11 (some .int) false ll_mN ll_mR ll_mK ll_cnt L xs false 26 (.inl (lo_iload 27 2)) := lk_iload_n (k := 2) (by decide +kernel) rfl
theorem k_195_27 (L : Nat) (xs : Nat → Int32) : ll_OK1 cX11_between RX11 (some .int) false ll_mN ll_mR ll_mK ll_cnt L xs false 27 (.inl (lo_bin 28 (fun x y => x * y))) := lk_imul (by decide +kernel)
theorem k_195_28 (L : Nat) (xs : Nat → Int32) : ll_OK1 cX11_between RX11 (some .int) false ll_mN ll_mR ll_mK ll_cnt L xs false 28 (.inl (lo_bin 29 (fun x y => x + y))) := lk_iadd (by decide +kernel)
theorem k_195_29 (L : Nat) (xs : Nat → Int32) : ll_OK1 cX11_between RX11 (some .int) false ll_mN ll_mR ll_mK ll_cnt L xs false 29 (.inr (.inl (192, 3, 32))) := ⟨rfl, by decide, by rw [mN_192, mK_192, mR_192]; exact lj_v 266 2 11 (RX11, TX11, 46) (by decide +kernel) tb_762 tb_763 tb_764 rfl rfl rfl rfl (by decide +kernel)⟩
theorem k_195_32 (L : Nat) (xs : Nat → Int32) : ll_OK1 cX11_between RX11 (some .int) false ll_mN ll_mR ll_mK ll_cnt L xs false 32 (.inl (lo_goto 36)) := lk_goto (off := 4) (by decide +kernel) rfl
theorem k_195_35 (L : Nat) (xs : Nat → Int32) : ll_OK1 cX11_between RX11 (some .int) false ll_mN ll_mR ll_mK ll_cnt L xs false 35 (.inl (lo_push 36 (.int (-1)))) := lk_iconst (n := (-1)) (by decide +kernel) (by decide)
theorem k_195_36 (L : Nat) (xs : Nat → Int32) : ll_OK1 cX11_between RX11 (some .int) false ll_mN ll_mR ll_mK ll_cnt L xs false 36 (.inr (.inr 1)) := ⟨(fun h => by cases h), (fun _ => ⟨(by decide +kernel), rfl⟩), fun h => by cases h⟩
theorem ok_195 (L : Nat) (xs : Nat → Int32) : ∀ q ∈ cd_195, ll_OK1 cX11_between RX11 (some .int) false ll_mN ll_mR ll_mK ll_cnt L xs false q.1 q.2 :=
  List.forall_mem_cons.mpr ⟨k_195_0 L xs, List.forall_mem_cons.mpr ⟨k_195_1 L xs, List.forall_mem_cons.mpr ⟨k_195_4 L xs, List.forall_mem_cons.mpr ⟨k_195_7 L xs, List.forall_mem_cons.mpr ⟨k_195_8 L xs, List.forall_mem_cons.mpr ⟨k_195_11 L xs, List.forall_mem_cons.mpr ⟨k_195_14 L xs, List.forall_mem_cons.mpr ⟨k_195_15 L xs, List.forall_mem_cons.mpr ⟨k_195_17 L xs, List.forall_mem_cons.mpr ⟨k_195_19 L xs, List.forall_mem_cons.mpr ⟨k_195_20 L xs, List.forall_mem_cons.mpr ⟨k_195_21 L xs, List.forall_mem_cons.mpr ⟨k_195_22 L xs, List.forall_mem_cons.mpr ⟨k_195_24 L xs, List.forall_mem_cons.mpr ⟨k_195_26 L xs, List.forall_mem_cons.mpr ⟨k_195_27 L xs, List.forall_mem_cons.mpr ⟨k_195_28 L xs, List.forall_mem_cons.mpr ⟨k_195_29 L xs, List.forall_mem_cons.mpr ⟨k_195_32 L xs, List.forall_mem_cons.mpr ⟨k_195_35 L xs, List.forall_mem_cons.mpr ⟨k_195_36 L xs, fun _ h => absurd h List.not_mem_nil⟩⟩⟩⟩⟩⟩⟩⟩⟩⟩⟩⟩⟩⟩⟩⟩⟩⟩⟩⟩⟩
/-- InclusionProverModel.apart.(I)I -/
def cd_196 : List (Nat × ll_O) := [
  (0, .inl (lo_aload 1 0)),
  (1, .inl (lo_getf 4 11 0)),
  (4, .inl (lo_push 7 (.int 10388))),
  (7, .inl (lo_ald 8 0)),
  (8, .inl (lo_push 9 (.int (-1)))),
  (9, .inl (lo_cmp 14 12 (fun x y => decide (¬ x = y)))),
  (12, .inl (lo_push 13 (.int (-1)))),
  (13, .inr (.inr 1)),
  (14, .inl (lo_iload 15 1)),
  (15, .inl (lo_if 29 18 (fun x => decide (¬ x = 0)))),
  (18, .inl (lo_aload 19 0)),
  (19, .inl (lo_getf 22 11 0)),
  (22, .inl (lo_push 25 (.int 10388))),
  (25, .inl (lo_ald 26 0)),
  (26, .inl (lo_goto 63)),
  (29, .inl (lo_iload 30 1)),
  (30, .inl (lo_push 31 (.int 1))),
  (31, .inl (lo_bin 32 (fun x y => x - y))),
  (32, .inl (lo_push 33 (.int 0))),
  (33, .inl (lo_aload 34 0)),
  (34, .inl (lo_getf 37 11 0)),
  (37, .inl (lo_push 40 (.int 10388))),
  (40, .inl (lo_ald 41 0)),
  (41, .inl (lo_push 42 (.int 1))),
  (42, .inl (lo_bin 43 (fun x y => x - y))),
  (43, .inr (.inl (151, 3, 46))),
  (46, .inl (lo_if 62 49 (fun x => decide (x = 0)))),
  (49, .inl (lo_aload 50 0)),
  (50, .inl (lo_getf 53 11 0)),
  (53, .inl (lo_push 56 (.int 10388))),
  (56, .inl (lo_iload 57 1)),
  (57, .inl (lo_bin 58 (fun x y => x + y))),
  (58, .inl (lo_ald 59 0)),
  (59, .inl (lo_goto 63)),
  (62, .inl (lo_push 63 (.int (-1)))),
  (63, .inr (.inr 1))]
theorem k_196_0 (L : Nat) (xs : Nat → Int32) : ll_OK1 cX11_apart RX11 (some .int) false ll_mN ll_mR ll_mK ll_cnt L xs false 0 (.inl (lo_aload 1 0)) := lk_aload_n (k := 0) (by decide +kernel) rfl
theorem k_196_1 (L : Nat) (xs : Nat → Int32) : ll_OK1 cX11_apart RX11 (some .int) false ll_mN ll_mR ll_mK ll_cnt L xs false 1 (.inl (lo_getf 4 11 0)) := lk_getf (ix := 8) (ci := 11) (k := 0) (C := RX11) (T := TX11) (N := 46) (by decide +kernel) rfl in_11 (by decide) tb_606
theorem k_196_4 (L : Nat) (xs : Nat → Int32) : ll_OK1 cX11_apart RX11 (some .int) false ll_mN ll_mR ll_mK ll_cnt L xs false 4 (.inl (lo_push 7 (.int 10388))) := lk_sipush (n := 10388) (by decide +kernel) (by decide)
theorem k_196_7 (L : Nat) (xs : Nat → Int32) : ll_OK1 cX11_apart RX11 (some .int) false ll_mN ll_mR ll_mK ll_cnt L xs false 7 (.inl (lo_ald 8 0)) := lk_iald (by decide +kernel)
theorem k_196_8 (L : Nat) (xs : Nat → Int32) : ll_OK1 cX11_apart RX11 (some .int) false ll_mN ll_mR ll_mK ll_cnt L xs false 8 (.inl (lo_push 9 (.int (-1)))) := lk_iconst (n := (-1)) (by decide +kernel) (by decide)
theorem k_196_9 (L : Nat) (xs : Nat → Int32) : ll_OK1 cX11_apart RX11 (some .int) false ll_mN ll_mR ll_mK ll_cnt L xs false 9 (.inl (lo_cmp 14 12 (fun x y => decide (¬ x = y)))) := lk_icmp_ne (off := 5) (by decide +kernel) rfl
theorem k_196_12 (L : Nat) (xs : Nat → Int32) : ll_OK1 cX11_apart RX11 (some .int) false ll_mN ll_mR ll_mK ll_cnt L xs false 12 (.inl (lo_push 13 (.int (-1)))) := lk_iconst (n := (-1)) (by decide +kernel) (by decide)
theorem k_196_13 (L : Nat) (xs : Nat → Int32) : ll_OK1 cX11_apart RX11 (some .int) false ll_mN ll_mR ll_mK ll_cnt L xs false 13 (.inr (.inr 1)) := ⟨(fun h => by cases h), (fun _ => ⟨(by decide +kernel), rfl⟩), fun h => by cases h⟩
theorem k_196_14 (L : Nat) (xs : Nat → Int32) : ll_OK1 cX11_apart RX11 (some .int) false ll_mN ll_mR ll_mK ll_cnt L xs false 14 (.inl (lo_iload 15 1)) := lk_iload_n (k := 1) (by decide +kernel) rfl
theorem k_196_15 (L : Nat) (xs : Nat → Int32) : ll_OK1 cX11_apart RX11 (some .int) false ll_mN ll_mR ll_mK ll_cnt L xs false 15 (.inl (lo_if 29 18 (fun x => decide (¬ x = 0)))) := lk_if_ne (off := 14) (by decide +kernel) rfl
theorem k_196_18 (L : Nat) (xs : Nat → Int32) : ll_OK1 cX11_apart RX11 (some .int) false ll_mN ll_mR ll_mK ll_cnt L xs false 18 (.inl (lo_aload 19 0)) := lk_aload_n (k := 0) (by decide +kernel) rfl
theorem k_196_19 (L : Nat) (xs : Nat → Int32) : ll_OK1 cX11_apart RX11 (some .int) false ll_mN ll_mR ll_mK ll_cnt L xs false 19 (.inl (lo_getf 22 11 0)) := lk_getf (ix := 8) (ci := 11) (k := 0) (C := RX11) (T := TX11) (N := 46) (by decide +kernel) rfl in_11 (by decide) tb_606
theorem k_196_22 (L : Nat) (xs : Nat → Int32) : ll_OK1 cX11_apart RX11 (some .int) false ll_mN ll_mR ll_mK ll_cnt L xs false 22 (.inl (lo_push 25 (.int 10388))) := lk_sipush (n := 10388) (by decide +kernel) (by decide)
theorem k_196_25 (L : Nat) (xs : Nat → Int32) : ll_OK1 cX11_apart RX11 (some .int) false ll_mN ll_mR ll_mK ll_cnt L xs false 25 (.inl (lo_ald 26 0)) := lk_iald (by decide +kernel)
theorem k_196_26 (L : Nat) (xs : Nat → Int32) : ll_OK1 cX11_apart RX11 (some .int) false ll_mN ll_mR ll_mK ll_cnt L xs false 26 (.inl (lo_goto 63)) := lk_goto (off := 37) (by decide +kernel) rfl
theorem k_196_29 (L : Nat) (xs : Nat → Int32) : ll_OK1 cX11_apart RX11 (some .int) false ll_mN ll_mR ll_mK ll_cnt L xs false 29 (.inl (lo_iload 30 1)) := lk_iload_n (k := 1) (by decide +kernel) rfl
theorem k_196_30 (L : Nat) (xs : Nat → Int32) : ll_OK1 cX11_apart RX11 (some .int) false ll_mN ll_mR ll_mK ll_cnt L xs false 30 (.inl (lo_push 31 (.int 1))) := lk_iconst (n := 1) (by decide +kernel) (by decide)
theorem k_196_31 (L : Nat) (xs : Nat → Int32) : ll_OK1 cX11_apart RX11 (some .int) false ll_mN ll_mR ll_mK ll_cnt L xs false 31 (.inl (lo_bin 32 (fun x y => x - y))) := lk_isub (by decide +kernel)
theorem k_196_32 (L : Nat) (xs : Nat → Int32) : ll_OK1 cX11_apart RX11 (some .int) false ll_mN ll_mR ll_mK ll_cnt L xs false 32 (.inl (lo_push 33 (.int 0))) := lk_iconst (n := 0) (by decide +kernel) (by decide)
theorem k_196_33 (L : Nat) (xs : Nat → Int32) : ll_OK1 cX11_apart RX11 (some .int) false ll_mN ll_mR ll_mK ll_cnt L xs false 33 (.inl (lo_aload 34 0)) := lk_aload_n (k := 0) (by decide +kernel) rfl
theorem k_196_34 (L : Nat) (xs : Nat → Int32) : ll_OK1 cX11_apart RX11 (some .int) false ll_mN ll_mR ll_mK ll_cnt L xs false 34 (.inl (lo_getf 37 11 0)) := lk_getf (ix := 8) (ci := 11) (k := 0) (C := RX11) (T := TX11) (N := 46) (by decide +kernel) rfl in_11 (by decide) tb_606
theorem k_196_37 (L : Nat) (xs : Nat → Int32) : ll_OK1 cX11_apart RX11 (some .int) false ll_mN ll_mR ll_mK ll_cnt L xs false 37 (.inl (lo_push 40 (.int 10388))) := lk_sipush (n := 10388) (by decide +kernel) (by decide)
theorem k_196_40 (L : Nat) (xs : Nat → Int32) : ll_OK1 cX11_apart RX11 (some .int) false ll_mN ll_mR ll_mK ll_cnt L xs false 40 (.inl (lo_ald 41 0)) := lk_iald (by decide +kernel)
theorem k_196_41 (L : Nat) (xs : Nat → Int32) : ll_OK1 cX11_apart RX11 (some .int) false ll_mN ll_mR ll_mK ll_cnt L xs false 41 (.inl (lo_push 42 (.int 1))) := lk_iconst (n := 1) (by decide +kernel) (by decide)
theorem k_196_42 (L : Nat) (xs : Nat → Int32) : ll_OK1 cX11_apart RX11 (some .int) false ll_mN ll_mR ll_mK ll_cnt L xs false 42 (.inl (lo_bin 43 (fun x y => x - y))) := lk_isub (by decide +kernel)
theorem k_196_43 (L : Nat) (xs : Nat → Int32) : ll_OK1 cX11_apart RX11 (some .int) false ll_mN ll_mR ll_mK ll_cnt L xs false 43 (.inr (.inl (151, 3, 46))) := ⟨rfl, by decide, by rw [mN_151, mK_151, mR_151]; exact lj_s 163 (by decide +kernel) tb_673 tb_674 (by decide +kernel)⟩
theorem k_196_46 (L : Nat) (xs : Nat → Int32) : ll_OK1 cX11_apart RX11 (some .int) false ll_mN ll_mR ll_mK ll_cnt L xs false 46 (.inl (lo_if 62 49 (fun x => decide (x = 0)))) := lk_if_eq (off := 16) (by decide +kernel) rfl
theorem k_196_49 (L : Nat) (xs : Nat → Int32) : ll_OK1 cX11_apart RX11 (some .int) false ll_mN ll_mR ll_mK ll_cnt L xs false 49 (.inl (lo_aload 50 0)) := lk_aload_n (k := 0) (by decide +kernel) rfl
theorem k_196_50 (L : Nat) (xs : Nat → Int32) : ll_OK1 cX11_apart RX11 (some .int) false ll_mN ll_mR ll_mK ll_cnt L xs false 50 (.inl (lo_getf 53 11 0)) := lk_getf (ix := 8) (ci := 11) (k := 0) (C := RX11) (T := TX11) (N := 46) (by decide +kernel) rfl in_11 (by decide) tb_606
theorem k_196_53 (L : Nat) (xs : Nat → Int32) : ll_OK1 cX11_apart RX11 (some .int) false ll_mN ll_mR ll_mK ll_cnt L xs false 53 (.inl (lo_push 56 (.int 10388))) := lk_sipush (n := 10388) (by decide +kernel) (by decide)
theorem k_196_56 (L : Nat) (xs : Nat → Int32) : ll_OK1 cX11_apart RX11 (some .int) false ll_mN ll_mR ll_mK ll_cnt L xs false 56 (.inl (lo_iload 57 1)) := lk_iload_n (k := 1) (by decide +kernel) rfl
theorem k_196_57 (L : Nat) (xs : Nat → Int32) : ll_OK1 cX11_apart RX11 (some .int) false ll_mN ll_mR ll_mK ll_cnt L xs false 57 (.inl (lo_bin 58 (fun x y => x + y))) := lk_iadd (by decide +kernel)
theorem k_196_58 (L : Nat) (xs : Nat → Int32) : ll_OK1 cX11_apart RX11 (some .int) false ll_mN ll_mR ll_mK ll_cnt L xs false 58 (.inl (lo_ald 59 0)) := lk_iald (by decide +kernel)
theorem k_196_59 (L : Nat) (xs : Nat → Int32) : ll_OK1 cX11_apart RX11 (some .int) false ll_mN ll_mR ll_mK ll_cnt L xs false 59 (.inl (lo_goto 63)) := lk_goto (off := 4) (by decide +kernel) rfl
theorem k_196_62 (L : Nat) (xs : Nat → Int32) : ll_OK1 cX11_apart RX11 (some .int) false ll_mN ll_mR ll_mK ll_cnt L xs false 62 (.inl (lo_push 63 (.int (-1)))) := lk_iconst (n := (-1)) (by decide +kernel) (by decide)
theorem k_196_63 (L : Nat) (xs : Nat → Int32) : ll_OK1 cX11_apart RX11 (some .int) false ll_mN ll_mR ll_mK ll_cnt L xs false 63 (.inr (.inr 1)) := ⟨(fun h => by cases h), (fun _ => ⟨(by decide +kernel), rfl⟩), fun h => by cases h⟩
theorem ok_196 (L : Nat) (xs : Nat → Int32) : ∀ q ∈ cd_196, ll_OK1 cX11_apart RX11 (some .int) false ll_mN ll_mR ll_mK ll_cnt L xs false q.1 q.2 :=
  List.forall_mem_cons.mpr ⟨k_196_0 L xs, List.forall_mem_cons.mpr ⟨k_196_1 L xs, List.forall_mem_cons.mpr ⟨k_196_4 L xs, List.forall_mem_cons.mpr ⟨k_196_7 L xs, List.forall_mem_cons.mpr ⟨k_196_8 L xs, List.forall_mem_cons.mpr ⟨k_196_9 L xs, List.forall_mem_cons.mpr ⟨k_196_12 L xs, List.forall_mem_cons.mpr ⟨k_196_13 L xs, List.forall_mem_cons.mpr ⟨k_196_14 L xs, List.forall_mem_cons.mpr ⟨k_196_15 L xs, List.forall_mem_cons.mpr ⟨k_196_18 L xs, List.forall_mem_cons.mpr ⟨k_196_19 L xs, List.forall_mem_cons.mpr ⟨k_196_22 L xs, List.forall_mem_cons.mpr ⟨k_196_25 L xs, List.forall_mem_cons.mpr ⟨k_196_26 L xs, List.forall_mem_cons.mpr ⟨k_196_29 L xs, List.forall_mem_cons.mpr ⟨k_196_30 L xs, List.forall_mem_cons.mpr ⟨k_196_31 L xs, List.forall_mem_cons.mpr ⟨k_196_32 L xs, List.forall_mem_cons.mpr ⟨k_196_33 L xs, List.forall_mem_cons.mpr ⟨k_196_34 L xs, List.forall_mem_cons.mpr ⟨k_196_37 L xs, List.forall_mem_cons.mpr ⟨k_196_40 L xs, List.forall_mem_cons.mpr ⟨k_196_41 L xs, List.forall_mem_cons.mpr ⟨k_196_42 L xs, List.forall_mem_cons.mpr ⟨k_196_43 L xs, List.forall_mem_cons.mpr ⟨k_196_46 L xs, List.forall_mem_cons.mpr ⟨k_196_49 L xs, List.forall_mem_cons.mpr ⟨k_196_50 L xs, List.forall_mem_cons.mpr ⟨k_196_53 L xs, List.forall_mem_cons.mpr ⟨k_196_56 L xs, List.forall_mem_cons.mpr ⟨k_196_57 L xs, List.forall_mem_cons.mpr ⟨k_196_58 L xs, List.forall_mem_cons.mpr ⟨k_196_59 L xs, List.forall_mem_cons.mpr ⟨k_196_62 L xs, List.forall_mem_cons.mpr ⟨k_196_63 L xs, fun _ h => absurd h List.not_mem_nil⟩⟩⟩⟩⟩⟩⟩⟩⟩⟩⟩⟩⟩⟩⟩⟩⟩⟩⟩⟩⟩⟩⟩⟩⟩⟩⟩⟩⟩⟩⟩⟩⟩⟩⟩⟩
/-- InclusionProverModel.line.(II)I -/
def cd_197 : List (Nat × ll_O) := [
  (0, .inl (lo_iload 1 1)),
  (1, .inl (lo_push 2 (.int 0))),
  (2, .inl (lo_aload 3 0)),
  (3, .inl (lo_getf 6 11 0)),
  (6, .inl (lo_push 9 (.int 186))),
  (9, .inl (lo_ald 10 0)),
  (10, .inl (lo_push 11 (.int 1))),
  (11, .inl (lo_bin 12 (fun x y => x - y))),
  (12, .inr (.inl (151, 3, 15))),
  (15, .inl (lo_if 21 18 (fun x => decide (¬ x = 0)))),
  (18, .inl (lo_push 20 (.int (-2)))),
  (20, .inr (.inr 1)),
  (21, .inl (lo_iload 22 2)),
  (22, .inl (lo_tab 0 [52, 63, 74, 85] 96)),
  (52, .inl (lo_aload 53 0)),
  (53, .inl (lo_getf 56 11 0)),
  (56, .inl (lo_push 59 (.int 187))),
  (59, .inl (lo_iload 60 1)),
  (60, .inl (lo_bin 61 (fun x y => x + y))),
  (61, .inl (lo_ald 62 0)),
  (62, .inr (.inr 1)),
  (63, .inl (lo_aload 64 0)),
  (64, .inl (lo_getf 67 11 0)),
  (67, .inl (lo_push 70 (.int 487))),
  (70, .inl (lo_iload 71 1)),
  (71, .inl (lo_bin 72 (fun x y => x + y))),
  (72, .inl (lo_ald 73 0)),
  (73, .inr (.inr 1)),
  (74, .inl (lo_aload 75 0)),
  (75, .inl (lo_getf 78 11 0)),
  (78, .inl (lo_push 81 (.int 787))),
  (81, .inl (lo_iload 82 1)),
  (82, .inl (lo_bin 83 (fun x y => x + y))),
  (83, .inl (lo_ald 84 0)),
  (84, .inr (.inr 1)),
  (85, .inl (lo_aload 86 0)),
  (86, .inl (lo_getf 89 11 0)),
  (89, .inl (lo_push 92 (.int 1087))),
  (92, .inl (lo_iload 93 1)),
  (93, .inl (lo_bin 94 (fun x y => x + y))),
  (94, .inl (lo_ald 95 0)),
  (95, .inr (.inr 1)),
  (96, .inl (lo_iload 97 2)),
  (97, .inl (lo_push 99 (.int 10))),
  (99, .inl (lo_bin 100 (fun x y => x - y))),
  (100, .inl (lo_push 101 (.int 0))),
  (101, .inl (lo_aload 102 0)),
  (102, .inl (lo_getf 105 11 0)),
  (105, .inl (lo_push 108 (.int 1087))),
  (108, .inl (lo_iload 109 1)),
  (109, .inl (lo_bin 110 (fun x y => x + y))),
  (110, .inl (lo_ald 111 0)),
  (111, .inl (lo_push 112 (.int 1))),
  (112, .inl (lo_bin 113 (fun x y => x - y))),
  (113, .inr (.inl (151, 3, 116))),
  (116, .inl (lo_if 140 119 (fun x => decide (x = 0)))),
  (119, .inl (lo_aload 120 0)),
  (120, .inl (lo_getf 123 11 0)),
  (123, .inl (lo_push 126 (.int 1387))),
  (126, .inl (lo_push 128 (.int 30))),
  (128, .inl (lo_iload 129 1)),
  (129, .inl (lo_bin 130 (fun x y => x * y))),
  (130, .inl (lo_bin 131 (fun x y => x + y))),
  (131, .inl (lo_iload 132 2)),
  (132, .inl (lo_bin 133 (fun x y => x + y))),
  (133, .inl (lo_push 135 (.int 10))),
  (135, .inl (lo_bin 136 (fun x y => x - y))),
  (136, .inl (lo_ald 137 0)),
  (137, .inl (lo_goto 142)),
  (140, .inl (lo_push 142 (.int (-2)))),
  (142, .inr (.inr 1))]
theorem k_197_0 (L : Nat) (xs : Nat → Int32) : ll_OK1 cX11_line RX11 (some .int) false ll_mN ll_mR ll_mK ll_cnt L xs false 0 (.inl (lo_iload 1 1)) := lk_iload_n (k := 1) (by decide +kernel) rfl
theorem k_197_1 (L : Nat) (xs : Nat → Int32) : ll_OK1 cX11_line RX11 (some .int) false ll_mN ll_mR ll_mK ll_cnt L xs false 1 (.inl (lo_push 2 (.int 0))) := lk_iconst (n := 0) (by decide +kernel) (by decide)
theorem k_197_2 (L : Nat) (xs : Nat → Int32) : ll_OK1 cX11_line RX11 (some .int) false ll_mN ll_mR ll_mK ll_cnt L xs false 2 (.inl (lo_aload 3 0)) := lk_aload_n (k := 0) (by decide +kernel) rfl
theorem k_197_3 (L : Nat) (xs : Nat → Int32) : ll_OK1 cX11_line RX11 (some .int) false ll_mN ll_mR ll_mK ll_cnt L xs false 3 (.inl (lo_getf 6 11 0)) := lk_getf (ix := 8) (ci := 11) (k := 0) (C := RX11) (T := TX11) (N := 46) (by decide +kernel) rfl in_11 (by decide) tb_606
theorem k_197_6 (L : Nat) (xs : Nat → Int32) : ll_OK1 cX11_line RX11 (some .int) false ll_mN ll_mR ll_mK ll_cnt L xs false 6 (.inl (lo_push 9 (.int 186))) := lk_sipush (n := 186) (by decide +kernel) (by decide)
theorem k_197_9 (L : Nat) (xs : Nat → Int32) : ll_OK1 cX11_line RX11 (some .int) false ll_mN ll_mR ll_mK ll_cnt L xs false 9 (.inl (lo_ald 10 0)) := lk_iald (by decide +kernel)
theorem k_197_10 (L : Nat) (xs : Nat → Int32) : ll_OK1 cX11_line RX11 (some .int) false ll_mN ll_mR ll_mK ll_cnt L xs false 10 (.inl (lo_push 11 (.int 1))) := lk_iconst (n := 1) (by decide +kernel) (by decide)
theorem k_197_11 (L : Nat) (xs : Nat → Int32) : ll_OK1 cX11_line RX11 (some .int) false ll_mN ll_mR ll_mK ll_cnt L xs false 11 (.inl (lo_bin 12 (fun x y => x - y))) := lk_isub (by decide +kernel)
theorem k_197_12 (L : Nat) (xs : Nat → Int32) : ll_OK1 cX11_line RX11 (some .int) false ll_mN ll_mR ll_mK ll_cnt L xs false 12 (.inr (.inl (151, 3, 15))) := ⟨rfl, by decide, by rw [mN_151, mK_151, mR_151]; exact lj_s 163 (by decide +kernel) tb_673 tb_674 (by decide +kernel)⟩
theorem k_197_15 (L : Nat) (xs : Nat → Int32) : ll_OK1 cX11_line RX11 (some .int) false ll_mN ll_mR ll_mK ll_cnt L xs false 15 (.inl (lo_if 21 18 (fun x => decide (¬ x = 0)))) := lk_if_ne (off := 6) (by decide +kernel) rfl
theorem k_197_18 (L : Nat) (xs : Nat → Int32) : ll_OK1 cX11_line RX11 (some .int) false ll_mN ll_mR ll_mK ll_cnt L xs false 18 (.inl (lo_push 20 (.int (-2)))) := lk_bipush (n := (-2)) (by decide +kernel) (by decide)
theorem k_197_20 (L : Nat) (xs : Nat → Int32) : ll_OK1 cX11_line RX11 (some .int) false ll_mN ll_mR ll_mK ll_cnt L xs false 20 (.inr (.inr 1)) := ⟨(fun h => by cases h), (fun _ => ⟨(by decide +kernel), rfl⟩), fun h => by cases h⟩
theorem k_197_21 (L : Nat) (xs : Nat → Int32) : ll_OK1 cX11_line RX11 (some .int) false ll_mN ll_mR ll_mK ll_cnt L xs false 21 (.inl (lo_iload 22 2)) := lk_iload_n (k := 2) (by decide +kernel) rfl
theorem k_197_22 (L : Nat) (xs : Nat → Int32) : ll_OK1 cX11_line RX11 (some .int) false ll_mN ll_mR ll_mK ll_cnt L xs false 22 (.inl (lo_tab 0 [52, 63, 74, 85] 96)) := lk_tab (d0 := 74) (hi := 3) (offs := #[30, 41, 52, 63]) (len := 30) (by decide +kernel) rfl rfl rfl
theorem k_197_52 (L : Nat) (xs : Nat → Int32) : ll_OK1 cX11_line RX11 (some .int) false ll_mN ll_mR ll_mK ll_cnt L xs false 52 (.inl (lo_aload 53 0)) := lk_aload_n (k := 0) (by decide +kernel) rfl
theorem k_197_53 (L : Nat) (xs : Nat → Int32) : ll_OK1 cX11_line RX11 (some .int) false ll_mN ll_mR ll_mK ll_cnt L xs false 53 (.inl (lo_getf 56 11 0)) := lk_getf (ix := 8) (ci := 11) (k := 0) (C := RX11) (T := TX11) (N := 46) (by decide +kernel) rfl in_11 (by decide) tb_606
theorem k_197_56 (L : Nat) (xs : Nat → Int32) : ll_OK1 cX11_line RX11 (some .int) false ll_mN ll_mR ll_mK ll_cnt L xs false 56 (.inl (lo_push 59 (.int 187))) := lk_sipush (n := 187) (by decide +kernel) (by decide)
theorem k_197_59 (L : Nat) (xs : Nat → Int32) : ll_OK1 cX11_line RX11 (some .int) false ll_mN ll_mR ll_mK ll_cnt L xs false 59 (.inl (lo_iload 60 1)) := lk_iload_n (k := 1) (by decide +kernel) rfl
theorem k_197_60 (L : Nat) (xs : Nat → Int32) : ll_OK1 cX11_line RX11 (some .int) false ll_mN ll_mR ll_mK ll_cnt L xs false 60 (.inl (lo_bin 61 (fun x y => x + y))) := lk_iadd (by decide +kernel)
theorem k_197_61 (L : Nat) (xs : Nat → Int32) : ll_OK1 cX11_line RX11 (some .int) false ll_mN ll_mR ll_mK ll_cnt L xs false 61 (.inl (lo_ald 62 0)) := lk_iald (by decide +kernel)
theorem k_197_62 (L : Nat) (xs : Nat → Int32) : ll_OK1 cX11_line RX11 (some .int) false ll_mN ll_mR ll_mK ll_cnt L xs false 62 (.inr (.inr 1)) := ⟨(fun h => by cases h), (fun _ => ⟨(by decide +kernel), rfl⟩), fun h => by cases h⟩
theorem k_197_63 (L : Nat) (xs : Nat → Int32) : ll_OK1 cX11_line RX11 (some .int) false ll_mN ll_mR ll_mK ll_cnt L xs false 63 (.inl (lo_aload 64 0)) := lk_aload_n (k := 0) (by decide +kernel) rfl
theorem k_197_64 (L : Nat) (xs : Nat → Int32) : ll_OK1 cX11_line RX11 (some .int) false ll_mN ll_mR ll_mK ll_cnt L xs false 64 (.inl (lo_getf 67 11 0)) := lk_getf (ix := 8) (ci := 11) (k := 0) (C := RX11) (T := TX11) (N := 46) (by decide +kernel) rfl in_11 (by decide) tb_606
theorem k_197_67 (L : Nat) (xs : Nat → Int32) : ll_OK1 cX11_line RX11 (some .int) false ll_mN ll_mR ll_mK ll_cnt L xs false 67 (.inl (lo_push 70 (.int 487))) := lk_sipush (n := 487) (by decide +kernel) (by decide)
theorem k_197_70 (L : Nat) (xs : Nat → Int32) : ll_OK1 cX11_line RX11 (some .int) false ll_mN ll_mR ll_mK ll_cnt L xs false 70 (.inl (lo_iload 71 1)) := lk_iload_n (k := 1) (by decide +kernel) rfl
theorem k_197_71 (L : Nat) (xs : Nat → Int32) : ll_OK1 cX11_line RX11 (some .int) false ll_mN ll_mR ll_mK ll_cnt L xs false 71 (.inl (lo_bin 72 (fun x y => x + y))) := lk_iadd (by decide +kernel)
theorem k_197_72 (L : Nat) (xs : Nat → Int32) : ll_OK1 cX11_line RX11 (some .int) false ll_mN ll_mR ll_mK ll_cnt L xs false 72 (.inl (lo_ald 73 0)) := lk_iald (by decide +kernel)
theorem k_197_73 (L : Nat) (xs : Nat → Int32) : ll_OK1 cX11_line RX11 (some .int) false ll_mN ll_mR ll_mK ll_cnt L xs false 73 (.inr (.inr 1)) := ⟨(fun h => by cases h), (fun _ => ⟨(by decide +kernel), rfl⟩), fun h => by cases h⟩
theorem k_197_74 (L : Nat) (xs : Nat → Int32) : ll_OK1 cX11_line RX11 (some .int) false ll_mN ll_mR ll_mK ll_cnt L xs false 74 (.inl (lo_aload 75 0)) := lk_aload_n (k := 0) (by decide +kernel) rfl
theorem k_197_75 (L : Nat) (xs : Nat → Int32) : ll_OK1 cX11_line RX11 (some .int) false ll_mN ll_mR ll_mK ll_cnt L xs false 75 (.inl (lo_getf 78 11 0)) := lk_getf (ix := 8) (ci := 11) (k := 0) (C := RX11) (T := TX11) (N := 46) (by decide +kernel) rfl in_11 (by decide) tb_606
theorem k_197_78 (L : Nat) (xs : Nat → Int32) : ll_OK1 cX11_line RX11 (some .int) false ll_mN ll_mR ll_mK ll_cnt L xs false 78 (.inl (lo_push 81 (.int 787))) := lk_sipush (n := 787) (by decide +kernel) (by decide)
theorem k_197_81 (L : Nat) (xs : Nat → Int32) : ll_OK1 cX11_line RX11 (some .int) false ll_mN ll_mR ll_mK ll_cnt L xs false 81 (.inl (lo_iload 82 1)) := lk_iload_n (k := 1) (by decide +kernel) rfl
theorem k_197_82 (L : Nat) (xs : Nat → Int32) : ll_OK1 cX11_line RX11 (some .int) false ll_mN ll_mR ll_mK ll_cnt L xs false 82 (.inl (lo_bin 83 (fun x y => x + y))) := lk_iadd (by decide +kernel)
theorem k_197_83 (L : Nat) (xs : Nat → Int32) : ll_OK1 cX11_line RX11 (some .int) false ll_mN ll_mR ll_mK ll_cnt L xs false 83 (.inl (lo_ald 84 0)) := lk_iald (by decide +kernel)
theorem k_197_84 (L : Nat) (xs : Nat → Int32) : ll_OK1 cX11_line RX11 (some .int) false ll_mN ll_mR ll_mK ll_cnt L xs false 84 (.inr (.inr 1)) := ⟨(fun h => by cases h), (fun _ => ⟨(by decide +kernel), rfl⟩), fun h => by cases h⟩
theorem k_197_85 (L : Nat) (xs : Nat → Int32) : ll_OK1 cX11_line RX11 (some .int) false ll_mN ll_mR ll_mK ll_cnt L xs false 85 (.inl (lo_aload 86 0)) := lk_aload_n (k := 0) (by decide +kernel) rfl
theorem k_197_86 (L : Nat) (xs : Nat → Int32) : ll_OK1 cX11_line RX11 (some .int) false ll_mN ll_mR ll_mK ll_cnt L xs false 86 (.inl (lo_getf 89 11 0)) := lk_getf (ix := 8) (ci := 11) (k := 0) (C := RX11) (T := TX11) (N := 46) (by decide +kernel) rfl in_11 (by decide) tb_606
theorem k_197_89 (L : Nat) (xs : Nat → Int32) : ll_OK1 cX11_line RX11 (some .int) false ll_mN ll_mR ll_mK ll_cnt L xs false 89 (.inl (lo_push 92 (.int 1087))) := lk_sipush (n := 1087) (by decide +kernel) (by decide)
theorem k_197_92 (L : Nat) (xs : Nat → Int32) : ll_OK1 cX11_line RX11 (some .int) false ll_mN ll_mR ll_mK ll_cnt L xs false 92 (.inl (lo_iload 93 1)) := lk_iload_n (k := 1) (by decide +kernel) rfl
theorem k_197_93 (L : Nat) (xs : Nat → Int32) : ll_OK1 cX11_line RX11 (some .int) false ll_mN ll_mR ll_mK ll_cnt L xs false 93 (.inl (lo_bin 94 (fun x y => x + y))) := lk_iadd (by decide +kernel)
theorem k_197_94 (L : Nat) (xs : Nat → Int32) : ll_OK1 cX11_line RX11 (some .int) false ll_mN ll_mR ll_mK ll_cnt L xs false 94 (.inl (lo_ald 95 0)) := lk_iald (by decide +kernel)
theorem k_197_95 (L : Nat) (xs : Nat → Int32) : ll_OK1 cX11_line RX11 (some .int) false ll_mN ll_mR ll_mK ll_cnt L xs false 95 (.inr (.inr 1)) := ⟨(fun h => by cases h), (fun _ => ⟨(by decide +kernel), rfl⟩), fun h => by cases h⟩
theorem k_197_96 (L : Nat) (xs : Nat → Int32) : ll_OK1 cX11_line RX11 (some .int) false ll_mN ll_mR ll_mK ll_cnt L xs false 96 (.inl (lo_iload 97 2)) := lk_iload_n (k := 2) (by decide +kernel) rfl
theorem k_197_97 (L : Nat) (xs : Nat → Int32) : ll_OK1 cX11_line RX11 (some .int) false ll_mN ll_mR ll_mK ll_cnt L xs false 97 (.inl (lo_push 99 (.int 10))) := lk_bipush (n := 10) (by decide +kernel) (by decide)
theorem k_197_99 (L : Nat) (xs : Nat → Int32) : ll_OK1 cX11_line RX11 (some .int) false ll_mN ll_mR ll_mK ll_cnt L xs false 99 (.inl (lo_bin 100 (fun x y => x - y))) := lk_isub (by decide +kernel)
theorem k_197_100 (L : Nat) (xs : Nat → Int32) : ll_OK1 cX11_line RX11 (some .int) false ll_mN ll_mR ll_mK ll_cnt L xs false 100 (.inl (lo_push 101 (.int 0))) := lk_iconst (n := 0) (by decide +kernel) (by decide)
theorem k_197_101 (L : Nat) (xs : Nat → Int32) : ll_OK1 cX11_line RX11 (some .int) false ll_mN ll_mR ll_mK ll_cnt L xs false 101 (.inl (lo_aload 102 0)) := lk_aload_n (k := 0) (by decide +kernel) rfl
theorem k_197_102 (L : Nat) (xs : Nat → Int32) : ll_OK1 cX11_line RX11 (some .int) false ll_mN ll_mR ll_mK ll_cnt L xs false 102 (.inl (lo_getf 105 11 0)) := lk_getf (ix := 8) (ci := 11) (k := 0) (C := RX11) (T := TX11) (N := 46) (by decide +kernel) rfl in_11 (by decide) tb_606
theorem k_197_105 (L : Nat) (xs : Nat → Int32) : ll_OK1 cX11_line RX11 (some .int) false ll_mN ll_mR ll_mK ll_cnt L xs false 105 (.inl (lo_push 108 (.int 1087))) := lk_sipush (n := 1087) (by decide +kernel) (by decide)
theorem k_197_108 (L : Nat) (xs : Nat → Int32) : ll_OK1 cX11_line RX11 (some .int) false ll_mN ll_mR ll_mK ll_cnt L xs false 108 (.inl (lo_iload 109 1)) := lk_iload_n (k := 1) (by decide +kernel) rfl
theorem k_197_109 (L : Nat) (xs : Nat → Int32) : ll_OK1 cX11_line RX11 (some .int) false ll_mN ll_mR ll_mK ll_cnt L xs false 109 (.inl (lo_bin 110 (fun x y => x + y))) := lk_iadd (by decide +kernel)
theorem k_197_110 (L : Nat) (xs : Nat → Int32) : ll_OK1 cX11_line RX11 (some .int) false ll_mN ll_mR ll_mK ll_cnt L xs false 110 (.inl (lo_ald 111 0)) := lk_iald (by decide +kernel)
theorem k_197_111 (L : Nat) (xs : Nat → Int32) : ll_OK1 cX11_line RX11 (some .int) false ll_mN ll_mR ll_mK ll_cnt L xs false 111 (.inl (lo_push 112 (.int 1))) := lk_iconst (n := 1) (by decide +kernel) (by decide)
theorem k_197_112 (L : Nat) (xs : Nat → Int32) : ll_OK1 cX11_line RX11 (some .int) false ll_mN ll_mR ll_mK ll_cnt L xs false 112 (.inl (lo_bin 113 (fun x y => x - y))) := lk_isub (by decide +kernel)
theorem k_197_113 (L : Nat) (xs : Nat → Int32) : ll_OK1 cX11_line RX11 (some .int) false ll_mN ll_mR ll_mK ll_cnt L xs false 113 (.inr (.inl (151, 3, 116))) := ⟨rfl, by decide, by rw [mN_151, mK_151, mR_151]; exact lj_s 163 (by decide +kernel) tb_673 tb_674 (by decide +kernel)⟩
theorem k_197_116 (L : Nat) (xs : Nat → Int32) : ll_OK1 cX11_line RX11 (some .int) false ll_mN ll_mR ll_mK ll_cnt L xs false 116 (.inl (lo_if 140 119 (fun x => decide (x = 0)))) := lk_if_eq (off := 24) (by decide +kernel) rfl
theorem k_197_119 (L : Nat) (xs : Nat → Int32) : ll_OK1 cX11_line RX11 (some .int) false ll_mN ll_mR ll_mK ll_cnt L xs false 119 (.inl (lo_aload 120 0)) := lk_aload_n (k := 0) (by decide +kernel) rfl
theorem k_197_120 (L : Nat) (xs : Nat → Int32) : ll_OK1 cX11_line RX11 (some .int) false ll_mN ll_mR ll_mK ll_cnt L xs false 120 (.inl (lo_getf 123 11 0)) := lk_getf (ix := 8) (ci := 11) (k := 0) (C := RX11) (T := TX11) (N := 46) (by decide +kernel) rfl in_11 (by decide) tb_606
theorem k_197_123 (L : Nat) (xs : Nat → Int32) : ll_OK1 cX11_line RX11 (some .int) false ll_mN ll_mR ll_mK ll_cnt L xs false 123 (.inl (lo_push 126 (.int 1387))) := lk_sipush (n := 1387) (by decide +kernel) (by decide)
theorem k_197_126 (L : Nat) (xs : Nat → Int32) : ll_OK1 cX11_line RX11 (some .int) false ll_mN ll_mR ll_mK ll_cnt L xs false 126 (.inl (lo_push 128 (.int 30))) := lk_bipush (n := 30) (by decide +kernel) (by decide)
theorem k_197_128 (L : Nat) (xs : Nat → Int32) : ll_OK1 cX11_line RX11 (some .int) false ll_mN ll_mR ll_mK ll_cnt L xs false 128 (.inl (lo_iload 129 1)) := lk_iload_n (k := 1) (by decide +kernel) rfl
theorem k_197_129 (L : Nat) (xs : Nat → Int32) : ll_OK1 cX11_line RX11 (some .int) false ll_mN ll_mR ll_mK ll_cnt L xs false 129 (.inl (lo_bin 130 (fun x y => x * y))) := lk_imul (by decide +kernel)
theorem k_197_130 (L : Nat) (xs : Nat → Int32) : ll_OK1 cX11_line RX11 (some .int) false ll_mN ll_mR ll_mK ll_cnt L xs false 130 (.inl (lo_bin 131 (fun x y => x + y))) := lk_iadd (by decide +kernel)
theorem k_197_131 (L : Nat) (xs : Nat → Int32) : ll_OK1 cX11_line RX11 (some .int) false ll_mN ll_mR ll_mK ll_cnt L xs false 131 (.inl (lo_iload 132 2)) := lk_iload_n (k := 2) (by decide +kernel) rfl
theorem k_197_132 (L : Nat) (xs : Nat → Int32) : ll_OK1 cX11_line RX11 (some .int) false ll_mN ll_mR ll_mK ll_cnt L xs false 132 (.inl (lo_bin 133 (fun x y => x + y))) := lk_iadd (by decide +kernel)
theorem k_197_133 (L : Nat) (xs : Nat → Int32) : ll_OK1 cX11_line RX11 (some .int) false ll_mN ll_mR ll_mK ll_cnt L xs false 133 (.inl (lo_push 135 (.int 10))) := lk_bipush (n := 10) (by decide +kernel) (by decide)
theorem k_197_135 (L : Nat) (xs : Nat → Int32) : ll_OK1 cX11_line RX11 (some .int) false ll_mN ll_mR ll_mK ll_cnt L xs false 135 (.inl (lo_bin 136 (fun x y => x - y))) := lk_isub (by decide +kernel)
theorem k_197_136 (L : Nat) (xs : Nat → Int32) : ll_OK1 cX11_line RX11 (some .int) false ll_mN ll_mR ll_mK ll_cnt L xs false 136 (.inl (lo_ald 137 0)) := lk_iald (by decide +kernel)
theorem k_197_137 (L : Nat) (xs : Nat → Int32) : ll_OK1 cX11_line RX11 (some .int) false ll_mN ll_mR ll_mK ll_cnt L xs false 137 (.inl (lo_goto 142)) := lk_goto (off := 5) (by decide +kernel) rfl
theorem k_197_140 (L : Nat) (xs : Nat → Int32) : ll_OK1 cX11_line RX11 (some .int) false ll_mN ll_mR ll_mK ll_cnt L xs false 140 (.inl (lo_push 142 (.int (-2)))) := lk_bipush (n := (-2)) (by decide +kernel) (by decide)
theorem k_197_142 (L : Nat) (xs : Nat → Int32) : ll_OK1 cX11_line RX11 (some .int) false ll_mN ll_mR ll_mK ll_cnt L xs false 142 (.inr (.inr 1)) := ⟨(fun h => by cases h), (fun _ => ⟨(by decide +kernel), rfl⟩), fun h => by cases h⟩
theorem ok_197 (L : Nat) (xs : Nat → Int32) : ∀ q ∈ cd_197, ll_OK1 cX11_line RX11 (some .int) false ll_mN ll_mR ll_mK ll_cnt L xs false q.1 q.2 :=
  List.forall_mem_cons.mpr ⟨k_197_0 L xs, List.forall_mem_cons.mpr ⟨k_197_1 L xs, List.forall_mem_cons.mpr ⟨k_197_2 L xs, List.forall_mem_cons.mpr ⟨k_197_3 L xs, List.forall_mem_cons.mpr ⟨k_197_6 L xs, List.forall_mem_cons.mpr ⟨k_197_9 L xs, List.forall_mem_cons.mpr ⟨k_197_10 L xs, List.forall_mem_cons.mpr ⟨k_197_11 L xs, List.forall_mem_cons.mpr ⟨k_197_12 L xs, List.forall_mem_cons.mpr ⟨k_197_15 L xs, List.forall_mem_cons.mpr ⟨k_197_18 L xs, List.forall_mem_cons.mpr ⟨k_197_20 L xs, List.forall_mem_cons.mpr ⟨k_197_21 L xs, List.forall_mem_cons.mpr ⟨k_197_22 L xs, List.forall_mem_cons.mpr ⟨k_197_52 L xs, List.forall_mem_cons.mpr ⟨k_197_53 L xs, List.forall_mem_cons.mpr ⟨k_197_56 L xs, List.forall_mem_cons.mpr ⟨k_197_59 L xs, List.forall_mem_cons.mpr ⟨k_197_60 L xs, List.forall_mem_cons.mpr ⟨k_197_61 L xs, List.forall_mem_cons.mpr ⟨k_197_62 L xs, List.forall_mem_cons.mpr ⟨k_197_63 L xs, List.forall_mem_cons.mpr ⟨k_197_64 L xs, List.forall_mem_cons.mpr ⟨k_197_67 L xs, List.forall_mem_cons.mpr ⟨k_197_70 L xs, List.forall_mem_cons.mpr ⟨k_197_71 L xs, List.forall_mem_cons.mpr ⟨k_197_72 L xs, List.forall_mem_cons.mpr ⟨k_197_73 L xs, List.forall_mem_cons.mpr ⟨k_197_74 L xs, List.forall_mem_cons.mpr ⟨k_197_75 L xs, List.forall_mem_cons.mpr ⟨k_197_78 L xs, List.forall_mem_cons.mpr ⟨k_197_81 L xs, List.forall_mem_cons.mpr ⟨k_197_82 L xs, List.forall_mem_cons.mpr ⟨k_197_83 L xs, List.forall_mem_cons.mpr ⟨k_197_84 L xs, List.forall_mem_cons.mpr ⟨k_197_85 L xs, List.forall_mem_cons.mpr ⟨k_197_86 L xs, List.forall_mem_cons.mpr ⟨k_197_89 L xs, List.forall_mem_cons.mpr ⟨k_197_92 L xs, List.forall_mem_cons.mpr ⟨k_197_93 L xs, List.forall_mem_cons.mpr ⟨k_197_94 L xs, List.forall_mem_cons.mpr ⟨k_197_95 L xs, List.forall_mem_cons.mpr ⟨k_197_96 L xs, List.forall_mem_cons.mpr ⟨k_197_97 L xs, List.forall_mem_cons.mpr ⟨k_197_99 L xs, List.forall_mem_cons.mpr ⟨k_197_100 L xs, List.forall_mem_cons.mpr ⟨k_197_101 L xs, List.forall_mem_cons.mpr ⟨k_197_102 L xs, List.forall_mem_cons.mpr ⟨k_197_105 L xs, List.forall_mem_cons.mpr ⟨k_197_108 L xs, List.forall_mem_cons.mpr ⟨k_197_109 L xs, List.forall_mem_cons.mpr ⟨k_197_110 L xs, List.forall_mem_cons.mpr ⟨k_197_111 L xs, List.forall_mem_cons.mpr ⟨k_197_112 L xs, List.forall_mem_cons.mpr ⟨k_197_113 L xs, List.forall_mem_cons.mpr ⟨k_197_116 L xs, List.forall_mem_cons.mpr ⟨k_197_119 L xs, List.forall_mem_cons.mpr ⟨k_197_120 L xs, List.forall_mem_cons.mpr ⟨k_197_123 L xs, List.forall_mem_cons.mpr ⟨k_197_126 L xs, List.forall_mem_cons.mpr ⟨k_197_128 L xs, List.forall_mem_cons.mpr ⟨k_197_129 L xs, List.forall_mem_cons.mpr ⟨k_197_130 L xs, List.forall_mem_cons.mpr ⟨k_197_131 L xs, List.forall_mem_cons.mpr ⟨k_197_132 L xs, List.forall_mem_cons.mpr ⟨k_197_133 L xs, List.forall_mem_cons.mpr ⟨k_197_135 L xs, List.forall_mem_cons.mpr ⟨k_197_136 L xs, List.forall_mem_cons.mpr ⟨k_197_137 L xs, List.forall_mem_cons.mpr ⟨k_197_140 L xs, List.forall_mem_cons.mpr ⟨k_197_142 L xs, fun _ h => absurd h List.not_mem_nil⟩⟩⟩⟩⟩⟩⟩⟩⟩⟩⟩⟩⟩⟩⟩⟩⟩⟩⟩⟩⟩⟩⟩⟩⟩⟩⟩⟩⟩⟩⟩⟩⟩⟩⟩⟩⟩⟩⟩⟩⟩⟩⟩⟩⟩⟩⟩⟩⟩⟩⟩⟩⟩⟩⟩⟩⟩⟩⟩⟩⟩⟩⟩⟩⟩⟩⟩⟩⟩⟩⟩
/-- InclusionProverModel.placeOf.(II)I -/
def cd_198 : List (Nat × ll_O) := [
  (0, .inl (lo_iload 1 1)),
  (1, .inl (lo_if 12 4 (fun x => decide (¬ x = 0)))),
  (4, .inl (lo_push 7 (.int 187))),
  (7, .inl (lo_iload 8 0)),
  (8, .inl (lo_bin 9 (fun x y => x + y))),
  (9, .inl (lo_goto 51)),
  (12, .inl (lo_iload 13 1)),
  (13, .inl (lo_push 14 (.int 1))),
  (14, .inl (lo_cmp 25 17 (fun x y => decide (¬ x = y)))),
  (17, .inl (lo_push 20 (.int 487))),
  (20, .inl (lo_iload 21 0)),
  (21, .inl (lo_bin 22 (fun x y => x + y))),
  (22, .inl (lo_goto 51)),
  (25, .inl (lo_iload 26 1)),
  (26, .inl (lo_push 27 (.int 2))),
  (27, .inl (lo_cmp 38 30 (fun x y => decide (¬ x = y)))),
  (30, .inl (lo_push 33 (.int 787))),
  (33, .inl (lo_iload 34 0)),
  (34, .inl (lo_bin 35 (fun x y => x + y))),
  (35, .inl (lo_goto 51)),
  (38, .inl (lo_push 41 (.int 1387))),
  (41, .inl (lo_push 43 (.int 30))),
  (43, .inl (lo_iload 44 0)),
  (44, .inl (lo_bin 45 (fun x y => x * y))),
  (45, .inl (lo_bin 46 (fun x y => x + y))),
  (46, .inl (lo_iload 47 1)),
  (47, .inl (lo_bin 48 (fun x y => x + y))),
  (48, .inl (lo_push 50 (.int 10))),
  (50, .inl (lo_bin 51 (fun x y => x - y))),
  (51, .inr (.inr 1))]
theorem k_198_0 (L : Nat) (xs : Nat → Int32) : ll_OK1 cX11_placeOf RX11 (some .int) false ll_mN ll_mR ll_mK ll_cnt L xs false 0 (.inl (lo_iload 1 1)) := lk_iload_n (k := 1) (by decide +kernel) rfl
theorem k_198_1 (L : Nat) (xs : Nat → Int32) : ll_OK1 cX11_placeOf RX11 (some .int) false ll_mN ll_mR ll_mK ll_cnt L xs false 1 (.inl (lo_if 12 4 (fun x => decide (¬ x = 0)))) := lk_if_ne (off := 11) (by decide +kernel) rfl
theorem k_198_4 (L : Nat) (xs : Nat → Int32) : ll_OK1 cX11_placeOf RX11 (some .int) false ll_mN ll_mR ll_mK ll_cnt L xs false 4 (.inl (lo_push 7 (.int 187))) := lk_sipush (n := 187) (by decide +kernel) (by decide)
theorem k_198_7 (L : Nat) (xs : Nat → Int32) : ll_OK1 cX11_placeOf RX11 (some .int) false ll_mN ll_mR ll_mK ll_cnt L xs false 7 (.inl (lo_iload 8 0)) := lk_iload_n (k := 0) (by decide +kernel) rfl
theorem k_198_8 (L : Nat) (xs : Nat → Int32) : ll_OK1 cX11_placeOf RX11 (some .int) false ll_mN ll_mR ll_mK ll_cnt L xs false 8 (.inl (lo_bin 9 (fun x y => x + y))) := lk_iadd (by decide +kernel)
theorem k_198_9 (L : Nat) (xs : Nat → Int32) : ll_OK1 cX11_placeOf RX11 (some .int) false ll_mN ll_mR ll_mK ll_cnt L xs false 9 (.inl (lo_goto 51)) := lk_goto (off := 42) (by decide +kernel) rfl
theorem k_198_12 (L : Nat) (xs : Nat → Int32) : ll_OK1 cX11_placeOf RX11 (some .int) false ll_mN ll_mR ll_mK ll_cnt L xs false 12 (.inl (lo_iload 13 1)) := lk_iload_n (k := 1) (by decide +kernel) rfl
theorem k_198_13 (L : Nat) (xs : Nat → Int32) : ll_OK1 cX11_placeOf RX11 (some .int) false ll_mN ll_mR ll_mK ll_cnt L xs false 13 (.inl (lo_push 14 (.int 1))) := lk_iconst (n := 1) (by decide +kernel) (by decide)
theorem k_198_14 (L : Nat) (xs : Nat → Int32) : ll_OK1 cX11_placeOf RX11 (some .int) false ll_mN ll_mR ll_mK ll_cnt L xs false 14 (.inl (lo_cmp 25 17 (fun x y => decide (¬ x = y)))) := lk_icmp_ne (off := 11) (by decide +kernel) rfl
theorem k_198_17 (L : Nat) (xs : Nat → Int32) : ll_OK1 cX11_placeOf RX11 (some .int) false ll_mN ll_mR ll_mK ll_cnt L xs false 17 (.inl (lo_push 20 (.int 487))) := lk_sipush (n := 487) (by decide +kernel) (by decide)
theorem k_198_20 (L : Nat) (xs : Nat → Int32) : ll_OK1 cX11_placeOf RX11 (some .int) false ll_mN ll_mR ll_mK ll_cnt L xs false 20 (.inl (lo_iload 21 0)) := lk_iload_n (k := 0) (by decide +kernel) rfl
theorem k_198_21 (L : Nat) (xs : Nat → Int32) : ll_OK1 cX11_placeOf RX11 (some .int) false ll_mN ll_mR ll_mK ll_cnt L xs false 21 (.inl (lo_bin 22 (fun x y => x + y))) := lk_iadd (by decide +kernel)
theorem k_198_22 (L : Nat) (xs : Nat → Int32) : ll_OK1 cX11_placeOf RX11 (some .int) false ll_mN ll_mR ll_mK ll_cnt L xs false 22 (.inl (lo_goto 51)) := lk_goto (off := 29) (by decide +kernel) rfl
theorem k_198_25 (L : Nat) (xs : Nat → Int32) : ll_OK1 cX11_placeOf RX11 (some .int) false ll_mN ll_mR ll_mK ll_cnt L xs false 25 (.inl (lo_iload 26 1)) := lk_iload_n (k := 1) (by decide +kernel) rfl
theorem k_198_26 (L : Nat) (xs : Nat → Int32) : ll_OK1 cX11_placeOf RX11 (some .int) false ll_mN ll_mR ll_mK ll_cnt L xs false 26 (.inl (lo_push 27 (.int 2))) := lk_iconst (n := 2) (by decide +kernel) (by decide)
theorem k_198_27 (L : Nat) (xs : Nat → Int32) : ll_OK1 cX11_placeOf RX11 (some .int) false ll_mN ll_mR ll_mK ll_cnt L xs false 27 (.inl (lo_cmp 38 30 (fun x y => decide (¬ x = y)))) := lk_icmp_ne (off := 11) (by decide +kernel) rfl
theorem k_198_30 (L : Nat) (xs : Nat → Int32) : ll_OK1 cX11_placeOf RX11 (some .int) false ll_mN ll_mR ll_mK ll_cnt L xs false 30 (.inl (lo_push 33 (.int 787))) := lk_sipush (n := 787) (by decide +kernel) (by decide)
theorem k_198_33 (L : Nat) (xs : Nat → Int32) : ll_OK1 cX11_placeOf RX11 (some .int) false ll_mN ll_mR ll_mK ll_cnt L xs false 33 (.inl (lo_iload 34 0)) := lk_iload_n (k := 0) (by decide +kernel) rfl
theorem k_198_34 (L : Nat) (xs : Nat → Int32) : ll_OK1 cX11_placeOf RX11 (some .int) false ll_mN ll_mR ll_mK ll_cnt L xs false 34 (.inl (lo_bin 35 (fun x y => x + y))) := lk_iadd (by decide +kernel)
theorem k_198_35 (L : Nat) (xs : Nat → Int32) : ll_OK1 cX11_placeOf RX11 (some .int) false ll_mN ll_mR ll_mK ll_cnt L xs false 35 (.inl (lo_goto 51)) := lk_goto (off := 16) (by decide +kernel) rfl
theorem k_198_38 (L : Nat) (xs : Nat → Int32) : ll_OK1 cX11_placeOf RX11 (some .int) false ll_mN ll_mR ll_mK ll_cnt L xs false 38 (.inl (lo_push 41 (.int 1387))) := lk_sipush (n := 1387) (by decide +kernel) (by decide)
theorem k_198_41 (L : Nat) (xs : Nat → Int32) : ll_OK1 cX11_placeOf RX11 (some .int) false ll_mN ll_mR ll_mK ll_cnt L xs false 41 (.inl (lo_push 43 (.int 30))) := lk_bipush (n := 30) (by decide +kernel) (by decide)
theorem k_198_43 (L : Nat) (xs : Nat → Int32) : ll_OK1 cX11_placeOf RX11 (some .int) false ll_mN ll_mR ll_mK ll_cnt L xs false 43 (.inl (lo_iload 44 0)) := lk_iload_n (k := 0) (by decide +kernel) rfl
theorem k_198_44 (L : Nat) (xs : Nat → Int32) : ll_OK1 cX11_placeOf RX11 (some .int) false ll_mN ll_mR ll_mK ll_cnt L xs false 44 (.inl (lo_bin 45 (fun x y => x * y))) := lk_imul (by decide +kernel)
theorem k_198_45 (L : Nat) (xs : Nat → Int32) : ll_OK1 cX11_placeOf RX11 (some .int) false ll_mN ll_mR ll_mK ll_cnt L xs false 45 (.inl (lo_bin 46 (fun x y => x + y))) := lk_iadd (by decide +kernel)
theorem k_198_46 (L : Nat) (xs : Nat → Int32) : ll_OK1 cX11_placeOf RX11 (some .int) false ll_mN ll_mR ll_mK ll_cnt L xs false 46 (.inl (lo_iload 47 1)) := lk_iload_n (k := 1) (by decide +kernel) rfl
theorem k_198_47 (L : Nat) (xs : Nat → Int32) : ll_OK1 cX11_placeOf RX11 (some .int) false ll_mN ll_mR ll_mK ll_cnt L xs false 47 (.inl (lo_bin 48 (fun x y => x + y))) := lk_iadd (by decide +kernel)
theorem k_198_48 (L : Nat) (xs : Nat → Int32) : ll_OK1 cX11_placeOf RX11 (some .int) false ll_mN ll_mR ll_mK ll_cnt L xs false 48 (.inl (lo_push 50 (.int 10))) := lk_bipush (n := 10) (by decide +kernel) (by decide)
theorem k_198_50 (L : Nat) (xs : Nat → Int32) : ll_OK1 cX11_placeOf RX11 (some .int) false ll_mN ll_mR ll_mK ll_cnt L xs false 50 (.inl (lo_bin 51 (fun x y => x - y))) := lk_isub (by decide +kernel)
theorem k_198_51 (L : Nat) (xs : Nat → Int32) : ll_OK1 cX11_placeOf RX11 (some .int) false ll_mN ll_mR ll_mK ll_cnt L xs false 51 (.inr (.inr 1)) := ⟨(fun h => by cases h), (fun _ => ⟨(by decide +kernel), rfl⟩), fun h => by cases h⟩
theorem ok_198 (L : Nat) (xs : Nat → Int32) : ∀ q ∈ cd_198, ll_OK1 cX11_placeOf RX11 (some .int) false ll_mN ll_mR ll_mK ll_cnt L xs false q.1 q.2 :=
  List.forall_mem_cons.mpr ⟨k_198_0 L xs, List.forall_mem_cons.mpr ⟨k_198_1 L xs, List.forall_mem_cons.mpr ⟨k_198_4 L xs, List.forall_mem_cons.mpr ⟨k_198_7 L xs, List.forall_mem_cons.mpr ⟨k_198_8 L xs, List.forall_mem_cons.mpr ⟨k_198_9 L xs, List.forall_mem_cons.mpr ⟨k_198_12 L xs, List.forall_mem_cons.mpr ⟨k_198_13 L xs, List.forall_mem_cons.mpr ⟨k_198_14 L xs, List.forall_mem_cons.mpr ⟨k_198_17 L xs, List.forall_mem_cons.mpr ⟨k_198_20 L xs, List.forall_mem_cons.mpr ⟨k_198_21 L xs, List.forall_mem_cons.mpr ⟨k_198_22 L xs, List.forall_mem_cons.mpr ⟨k_198_25 L xs, List.forall_mem_cons.mpr ⟨k_198_26 L xs, List.forall_mem_cons.mpr ⟨k_198_27 L xs, List.forall_mem_cons.mpr ⟨k_198_30 L xs, List.forall_mem_cons.mpr ⟨k_198_33 L xs, List.forall_mem_cons.mpr ⟨k_198_34 L xs, List.forall_mem_cons.mpr ⟨k_198_35 L xs, List.forall_mem_cons.mpr ⟨k_198_38 L xs, List.forall_mem_cons.mpr ⟨k_198_41 L xs, List.forall_mem_cons.mpr ⟨k_198_43 L xs, List.forall_mem_cons.mpr ⟨k_198_44 L xs, List.forall_mem_cons.mpr ⟨k_198_45 L xs, List.forall_mem_cons.mpr ⟨k_198_46 L xs, List.forall_mem_cons.mpr ⟨k_198_47 L xs, List.forall_mem_cons.mpr ⟨k_198_48 L xs, List.forall_mem_cons.mpr ⟨k_198_50 L xs, List.forall_mem_cons.mpr ⟨k_198_51 L xs, fun _ h => absurd h List.not_mem_nil⟩⟩⟩⟩⟩⟩⟩⟩⟩⟩⟩⟩⟩⟩⟩⟩⟩⟩⟩⟩⟩⟩⟩⟩⟩⟩⟩⟩⟩⟩
/-- InclusionProverModel.alter.(III)I -/
def cd_199 : List (Nat × ll_O) := [
  (0, .inl (lo_iload 1 1)),
  (1, .inl (lo_push 2 (.int 0))),
  (2, .inl (lo_aload 3 0)),
  (3, .inl (lo_getf 6 11 0)),
  (6, .inl (lo_push 9 (.int 186))),
  (9, .inl (lo_ald 10 0)),
  (10, .inl (lo_push 11 (.int 1))),
  (11, .inl (lo_bin 12 (fun x y => x - y))),
  (12, .inr (.inl (151, 3, 15))),
  (15, .inl (lo_if 50 18 (fun x => decide (x = 0)))),
  (18, .inl (lo_iload 19 2)),
  (19, .inl (lo_push 20 (.int 0))),
  (20, .inl (lo_push 21 (.int 2))),
  (21, .inr (.inl (151, 3, 24))),
  (24, .inl (lo_if 53 27 (fun x => decide (¬ x = 0)))),
  (27, .inl (lo_iload 28 2)),
  (28, .inl (lo_push 30 (.int 10))),
  (30, .inl (lo_bin 31 (fun x y => x - y))),
  (31, .inl (lo_push 32 (.int 0))),
  (32, .inl (lo_aload 33 0)),
  (33, .inl (lo_getf 36 11 0)),
  (36, .inl (lo_push 39 (.int 1087))),
  (39, .inl (lo_iload 40 1)),
  (40, .inl (lo_bin 41 (fun x y => x + y))),
  (41, .inl (lo_ald 42 0)),
  (42, .inl (lo_push 43 (.int 1))),
  (43, .inl (lo_bin 44 (fun x y => x - y))),
  (44, .inr (.inl (151, 3, 47))),
  (47, .inl (lo_if 53 50 (fun x => decide (¬ x = 0)))),
  (50, .inl (lo_push 52 (.int (-2)))),
  (52, .inr (.inr 1)),
  (53, .inl (lo_iload 54 1)),
  (54, .inl (lo_iload 55 2)),
  (55, .inr (.inl (198, 2, 58))),
  (58, .inl (lo_istore 60 4)),
  (60, .inl (lo_aload 61 0)),
  (61, .inl (lo_getf 64 11 0)),
  (64, .inl (lo_iload 66 4)),
  (66, .inl (lo_ald 67 0)),
  (67, .inl (lo_istore 69 5)),
  (69, .inl (lo_aload 70 0)),
  (70, .inl (lo_getf 73 11 0)),
  (73, .inl (lo_iload 75 4)),
  (75, .inl (lo_iload 76 3)),
  (76, .inl (lo_ast 77 0)),
  (77, .inl (lo_iload 79 5)),
  (79, .inr (.inr 1))]
theorem k_199_0 (L : Nat) (xs : Nat → Int32) : ll_OK1 cX11_alter RX11 (some .int) false ll_mN ll_mR ll_mK ll_cnt L xs false 0 (.inl (lo_iload 1 1)) := lk_iload_n (k := 1) (by decide +kernel) rfl
theorem k_199_1 (L : Nat) (xs : Nat → Int32) : ll_OK1 cX11_alter RX11 (some .int) false ll_mN ll_mR ll_mK ll_cnt L xs false 1 (.inl (lo_push 2 (.int 0))) := lk_iconst (n := 0) (by decide +kernel) (by decide)
theorem k_199_2 (L : Nat) (xs : Nat → Int32) : ll_OK1 cX11_alter RX11 (some .int) false ll_mN ll_mR ll_mK ll_cnt L xs false 2 (.inl (lo_aload 3 0)) := lk_aload_n (k := 0) (by decide +kernel) rfl
theorem k_199_3 (L : Nat) (xs : Nat → Int32) : ll_OK1 cX11_alter RX11 (some .int) false ll_mN ll_mR ll_mK ll_cnt L xs false 3 (.inl (lo_getf 6 11 0)) := lk_getf (ix := 8) (ci := 11) (k := 0) (C := RX11) (T := TX11) (N := 46) (by decide +kernel) rfl in_11 (by decide) tb_606
theorem k_199_6 (L : Nat) (xs : Nat → Int32) : ll_OK1 cX11_alter RX11 (some .int) false ll_mN ll_mR ll_mK ll_cnt L xs false 6 (.inl (lo_push 9 (.int 186))) := lk_sipush (n := 186) (by decide +kernel) (by decide)
theorem k_199_9 (L : Nat) (xs : Nat → Int32) : ll_OK1 cX11_alter RX11 (some .int) false ll_mN ll_mR ll_mK ll_cnt L xs false 9 (.inl (lo_ald 10 0)) := lk_iald (by decide +kernel)
theorem k_199_10 (L : Nat) (xs : Nat → Int32) : ll_OK1 cX11_alter RX11 (some .int) false ll_mN ll_mR ll_mK ll_cnt L xs false 10 (.inl (lo_push 11 (.int 1))) := lk_iconst (n := 1) (by decide +kernel) (by decide)
theorem k_199_11 (L : Nat) (xs : Nat → Int32) : ll_OK1 cX11_alter RX11 (some .int) false ll_mN ll_mR ll_mK ll_cnt L xs false 11 (.inl (lo_bin 12 (fun x y => x - y))) := lk_isub (by decide +kernel)
theorem k_199_12 (L : Nat) (xs : Nat → Int32) : ll_OK1 cX11_alter RX11 (some .int) false ll_mN ll_mR ll_mK ll_cnt L xs false 12 (.inr (.inl (151, 3, 15))) := ⟨rfl, by decide, by rw [mN_151, mK_151, mR_151]; exact lj_s 163 (by decide +kernel) tb_673 tb_674 (by decide +kernel)⟩
theorem k_199_15 (L : Nat) (xs : Nat → Int32) : ll_OK1 cX11_alter RX11 (some .int) false ll_mN ll_mR ll_mK ll_cnt L xs false 15 (.inl (lo_if 50 18 (fun x => decide (x = 0)))) := lk_if_eq (off := 35) (by decide +kernel) rfl
theorem k_199_18 (L : Nat) (xs : Nat → Int32) : ll_OK1 cX11_alter RX11 (some .int) false ll_mN ll_mR ll_mK ll_cnt L xs false 18 (.inl (lo_iload 19 2)) := lk_iload_n (k := 2) (by decide +kernel) rfl
theorem k_199_19 (L : Nat) (xs : Nat → Int32) : ll_OK1 cX11_alter RX11 (some .int) false ll_mN ll_mR ll_mK ll_cnt L xs false 19 (.inl (lo_push 20 (.int 0))) := lk_iconst (n := 0) (by decide +kernel) (by decide)
theorem k_199_20 (L : Nat) (xs : Nat → Int32) : ll_OK1 cX11_alter RX11 (some .int) false ll_mN ll_mR ll_mK ll_cnt L xs false 20 (.inl (lo_push 21 (.int 2))) := lk_iconst (n := 2) (by decide +kernel) (by decide)
theorem k_199_21 (L : Nat) (xs : Nat → Int32) : ll_OK1 cX11_alter RX11 (some .int) false ll_mN ll_mR ll_mK ll_cnt L xs false 21 (.inr (.inl (151, 3, 24))) := ⟨rfl, by decide, by rw [mN_151, mK_151, mR_151]; exact lj_s 163 (by decide +kernel) tb_673 tb_674 (by decide +kernel)⟩
theorem k_199_24 (L : Nat) (xs : Nat → Int32) : ll_OK1 cX11_alter RX11 (some .int) false ll_mN ll_mR ll_mK ll_cnt L xs false 24 (.inl (lo_if 53 27 (fun x => decide (¬ x = 0)))) := lk_if_ne (off := 29) (by decide +kernel) rfl
theorem k_199_27 (L : Nat) (xs : Nat → Int32) : ll_OK1 cX11_alter RX11 (some .int) false ll_mN ll_mR ll_mK ll_cnt L xs false 27 (.inl (lo_iload 28 2)) := lk_iload_n (k := 2) (by decide +kernel) rfl
theorem k_199_28 (L : Nat) (xs : Nat → Int32) : ll_OK1 cX11_alter RX11 (some .int) false ll_mN ll_mR ll_mK ll_cnt L xs false 28 (.inl (lo_push 30 (.int 10))) := lk_bipush (n := 10) (by decide +kernel) (by decide)
theorem k_199_30 (L : Nat) (xs : Nat → Int32) : ll_OK1 cX11_alter RX11 (some .int) false ll_mN ll_mR ll_mK ll_cnt L xs false 30 (.inl (lo_bin 31 (fun x y => x - y))) := lk_isub (by decide +kernel)
theorem k_199_31 (L : Nat) (xs : Nat → Int32) : ll_OK1 cX11_alter RX11 (some .int) false ll_mN ll_mR ll_mK ll_cnt L xs false 31 (.inl (lo_push 32 (.int 0))) := lk_iconst (n := 0) (by decide +kernel) (by decide)
theorem k_199_32 (L : Nat) (xs : Nat → Int32) : ll_OK1 cX11_alter RX11 (some .int) false ll_mN ll_mR ll_mK ll_cnt L xs false 32 (.inl (lo_aload 33 0)) := lk_aload_n (k := 0) (by decide +kernel) rfl
theorem k_199_33 (L : Nat) (xs : Nat → Int32) : ll_OK1 cX11_alter RX11 (some .int) false ll_mN ll_mR ll_mK ll_cnt L xs false 33 (.inl (lo_getf 36 11 0)) := lk_getf (ix := 8) (ci := 11) (k := 0) (C := RX11) (T := TX11) (N := 46) (by decide +kernel) rfl in_11 (by decide) tb_606
theorem k_199_36 (L : Nat) (xs : Nat → Int32) : ll_OK1 cX11_alter RX11 (some .int) false ll_mN ll_mR ll_mK ll_cnt L xs false 36 (.inl (lo_push 39 (.int 1087))) := lk_sipush (n := 1087) (by decide +kernel) (by decide)
theorem k_199_39 (L : Nat) (xs : Nat → Int32) : ll_OK1 cX11_alter RX11 (some .int) false ll_mN ll_mR ll_mK ll_cnt L xs false 39 (.inl (lo_iload 40 1)) := lk_iload_n (k := 1) (by decide +kernel) rfl
theorem k_199_40 (L : Nat) (xs : Nat → Int32) : ll_OK1 cX11_alter RX11 (some .int) false ll_mN ll_mR ll_mK ll_cnt L xs false 40 (.inl (lo_bin 41 (fun x y => x + y))) := lk_iadd (by decide +kernel)
theorem k_199_41 (L : Nat) (xs : Nat → Int32) : ll_OK1 cX11_alter RX11 (some .int) false ll_mN ll_mR ll_mK ll_cnt L xs false 41 (.inl (lo_ald 42 0)) := lk_iald (by decide +kernel)
theorem k_199_42 (L : Nat) (xs : Nat → Int32) : ll_OK1 cX11_alter RX11 (some .int) false ll_mN ll_mR ll_mK ll_cnt L xs false 42 (.inl (lo_push 43 (.int 1))) := lk_iconst (n := 1) (by decide +kernel) (by decide)
theorem k_199_43 (L : Nat) (xs : Nat → Int32) : ll_OK1 cX11_alter RX11 (some .int) false ll_mN ll_mR ll_mK ll_cnt L xs false 43 (.inl (lo_bin 44 (fun x y => x - y))) := lk_isub (by decide +kernel)
theorem k_199_44 (L : Nat) (xs : Nat → Int32) : ll_OK1 cX11_alter RX11 (some .int) false ll_mN ll_mR ll_mK ll_cnt L xs false 44 (.inr (.inl (151, 3, 47))) := ⟨rfl, by decide, by rw [mN_151, mK_151, mR_151]; exact lj_s 163 (by decide +kernel) tb_673 tb_674 (by decide +kernel)⟩
theorem k_199_47 (L : Nat) (xs : Nat → Int32) : ll_OK1 cX11_alter RX11 (some .int) false ll_mN ll_mR ll_mK ll_cnt L xs false 47 (.inl (lo_if 53 50 (fun x => decide (¬ x = 0)))) := lk_if_ne (off := 6) (by decide +kernel) rfl
theorem k_199_50 (L : Nat) (xs : Nat → Int32) : ll_OK1 cX11_alter RX11 (some .int) false ll_mN ll_mR ll_mK ll_cnt L xs false 50 (.inl (lo_push 52 (.int (-2)))) := lk_bipush (n := (-2)) (by decide +kernel) (by decide)
theorem k_199_52 (L : Nat) (xs : Nat → Int32) : ll_OK1 cX11_alter RX11 (some .int) false ll_mN ll_mR ll_mK ll_cnt L xs false 52 (.inr (.inr 1)) := ⟨(fun h => by cases h), (fun _ => ⟨(by decide +kernel), rfl⟩), fun h => by cases h⟩
theorem k_199_53 (L : Nat) (xs : Nat → Int32) : ll_OK1 cX11_alter RX11 (some .int) false ll_mN ll_mR ll_mK ll_cnt L xs false 53 (.inl (lo_iload 54 1)) := lk_iload_n (k := 1) (by decide +kernel) rfl
theorem k_199_54 (L : Nat) (xs : Nat → Int32) : ll_OK1 cX11_alter RX11 (some .int) false ll_mN ll_mR ll_mK ll_cnt L xs false 54 (.inl (lo_iload 55 2)) := lk_iload_n (k := 2) (by decide +kernel) rfl
theorem k_199_55 (L : Nat) (xs : Nat → Int32) : ll_OK1 cX11_alter RX11 (some .int) false ll_mN ll_mR ll_mK ll_cnt L xs false 55 (.inr (.inl (198, 2, 58))) := ⟨rfl, by decide, by rw [mN_198, mK_198, mR_198]; exact lj_s 273 (by decide +kernel) tb_767 tb_768 (by decide +kernel)⟩
theorem k_199_58 (L : Nat) (xs : Nat → Int32) : ll_OK1 cX11_alter RX11 (some .int) false ll_mN ll_mR ll_mK ll_cnt L xs false 58 (.inl (lo_istore 60 4)) := lk_istore (by decide +kernel)
theorem k_199_60 (L : Nat) (xs : Nat → Int32) : ll_OK1 cX11_alter RX11 (some .int) false ll_mN ll_mR ll_mK ll_cnt L xs false 60 (.inl (lo_aload 61 0)) := lk_aload_n (k := 0) (by decide +kernel) rfl
theorem k_199_61 (L : Nat) (xs : Nat → Int32) : ll_OK1 cX11_alter RX11 (some .int) false ll_mN ll_mR ll_mK ll_cnt L xs false 61 (.inl (lo_getf 64 11 0)) := lk_getf (ix := 8) (ci := 11) (k := 0) (C := RX11) (T := TX11) (N := 46) (by decide +kernel) rfl in_11 (by decide) tb_606
theorem k_199_64 (L : Nat) (xs : Nat → Int32) : ll_OK1 cX11_alter RX11 (some .int) false ll_mN ll_mR ll_mK ll_cnt L xs false 64 (.inl (lo_iload 66 4)) := lk_iload (by decide +kernel)
theorem k_199_66 (L : Nat) (xs : Nat → Int32) : ll_OK1 cX11_alter RX11 (some .int) false ll_mN ll_mR ll_mK ll_cnt L xs false 66 (.inl (lo_ald 67 0)) := lk_iald (by decide +kernel)
theorem k_199_67 (L : Nat) (xs : Nat → Int32) : ll_OK1 cX11_alter RX11 (some .int) false ll_mN ll_mR ll_mK ll_cnt L xs false 67 (.inl (lo_istore 69 5)) := lk_istore (by decide +kernel)
theorem k_199_69 (L : Nat) (xs : Nat → Int32) : ll_OK1 cX11_alter RX11 (some .int) false ll_mN ll_mR ll_mK ll_cnt L xs false 69 (.inl (lo_aload 70 0)) := lk_aload_n (k := 0) (by decide +kernel) rfl
theorem k_199_70 (L : Nat) (xs : Nat → Int32) : ll_OK1 cX11_alter RX11 (some .int) false ll_mN ll_mR ll_mK ll_cnt L xs false 70 (.inl (lo_getf 73 11 0)) := lk_getf (ix := 8) (ci := 11) (k := 0) (C := RX11) (T := TX11) (N := 46) (by decide +kernel) rfl in_11 (by decide) tb_606
theorem k_199_73 (L : Nat) (xs : Nat → Int32) : ll_OK1 cX11_alter RX11 (some .int) false ll_mN ll_mR ll_mK ll_cnt L xs false 73 (.inl (lo_iload 75 4)) := lk_iload (by decide +kernel)
theorem k_199_75 (L : Nat) (xs : Nat → Int32) : ll_OK1 cX11_alter RX11 (some .int) false ll_mN ll_mR ll_mK ll_cnt L xs false 75 (.inl (lo_iload 76 3)) := lk_iload_n (k := 3) (by decide +kernel) rfl
theorem k_199_76 (L : Nat) (xs : Nat → Int32) : ll_OK1 cX11_alter RX11 (some .int) false ll_mN ll_mR ll_mK ll_cnt L xs false 76 (.inl (lo_ast 77 0)) := lk_iast (by decide +kernel)
theorem k_199_77 (L : Nat) (xs : Nat → Int32) : ll_OK1 cX11_alter RX11 (some .int) false ll_mN ll_mR ll_mK ll_cnt L xs false 77 (.inl (lo_iload 79 5)) := lk_iload (by decide +kernel)
theorem k_199_79 (L : Nat) (xs : Nat → Int32) : ll_OK1 cX11_alter RX11 (some .int) false ll_mN ll_mR ll_mK ll_cnt L xs false 79 (.inr (.inr 1)) := ⟨(fun h => by cases h), (fun _ => ⟨(by decide +kernel), rfl⟩), fun h => by cases h⟩
theorem ok_199 (L : Nat) (xs : Nat → Int32) : ∀ q ∈ cd_199, ll_OK1 cX11_alter RX11 (some .int) false ll_mN ll_mR ll_mK ll_cnt L xs false q.1 q.2 :=
  List.forall_mem_cons.mpr ⟨k_199_0 L xs, List.forall_mem_cons.mpr ⟨k_199_1 L xs, List.forall_mem_cons.mpr ⟨k_199_2 L xs, List.forall_mem_cons.mpr ⟨k_199_3 L xs, List.forall_mem_cons.mpr ⟨k_199_6 L xs, List.forall_mem_cons.mpr ⟨k_199_9 L xs, List.forall_mem_cons.mpr ⟨k_199_10 L xs, List.forall_mem_cons.mpr ⟨k_199_11 L xs, List.forall_mem_cons.mpr ⟨k_199_12 L xs, List.forall_mem_cons.mpr ⟨k_199_15 L xs, List.forall_mem_cons.mpr ⟨k_199_18 L xs, List.forall_mem_cons.mpr ⟨k_199_19 L xs, List.forall_mem_cons.mpr ⟨k_199_20 L xs, List.forall_mem_cons.mpr ⟨k_199_21 L xs, List.forall_mem_cons.mpr ⟨k_199_24 L xs, List.forall_mem_cons.mpr ⟨k_199_27 L xs, List.forall_mem_cons.mpr ⟨k_199_28 L xs, List.forall_mem_cons.mpr ⟨k_199_30 L xs, List.forall_mem_cons.mpr ⟨k_199_31 L xs, List.forall_mem_cons.mpr ⟨k_199_32 L xs, List.forall_mem_cons.mpr ⟨k_199_33 L xs, List.forall_mem_cons.mpr ⟨k_199_36 L xs, List.forall_mem_cons.mpr ⟨k_199_39 L xs, List.forall_mem_cons.mpr ⟨k_199_40 L xs, List.forall_mem_cons.mpr ⟨k_199_41 L xs, List.forall_mem_cons.mpr ⟨k_199_42 L xs, List.forall_mem_cons.mpr ⟨k_199_43 L xs, List.forall_mem_cons.mpr ⟨k_199_44 L xs, List.forall_mem_cons.mpr ⟨k_199_47 L xs, List.forall_mem_cons.mpr ⟨k_199_50 L xs, List.forall_mem_cons.mpr ⟨k_199_52 L xs, List.forall_mem_cons.mpr ⟨k_199_53 L xs, List.forall_mem_cons.mpr ⟨k_199_54 L xs, List.forall_mem_cons.mpr ⟨k_199_55 L xs, List.forall_mem_cons.mpr ⟨k_199_58 L xs, List.forall_mem_cons.mpr ⟨k_199_60 L xs, List.forall_mem_cons.mpr ⟨k_199_61 L xs, List.forall_mem_cons.mpr ⟨k_199_64 L xs, List.forall_mem_cons.mpr ⟨k_199_66 L xs, List.forall_mem_cons.mpr ⟨k_199_67 L xs, List.forall_mem_cons.mpr ⟨k_199_69 L xs, List.forall_mem_cons.mpr ⟨k_199_70 L xs, List.forall_mem_cons.mpr ⟨k_199_73 L xs, List.forall_mem_cons.mpr ⟨k_199_75 L xs, List.forall_mem_cons.mpr ⟨k_199_76 L xs, List.forall_mem_cons.mpr ⟨k_199_77 L xs, List.forall_mem_cons.mpr ⟨k_199_79 L xs, fun _ h => absurd h List.not_mem_nil⟩⟩⟩⟩⟩⟩⟩⟩⟩⟩⟩⟩⟩⟩⟩⟩⟩⟩⟩⟩⟩⟩⟩⟩⟩⟩⟩⟩⟩⟩⟩⟩⟩⟩⟩⟩⟩⟩⟩⟩⟩⟩⟩⟩⟩⟩⟩
/-- InclusionProverModel.cut.()I -/
def cd_200 : List (Nat × ll_O) := [
  (0, .inl (lo_aload 1 0)),
  (1, .inl (lo_getf 4 11 0)),
  (4, .inl (lo_push 7 (.int 186))),
  (7, .inl (lo_ald 8 0)),
  (8, .inl (lo_if 13 11 (fun x => decide (¬ x = 0)))),
  (11, .inl (lo_push 12 (.int (-1)))),
  (12, .inr (.inr 1)),
  (13, .inl (lo_aload 14 0)),
  (14, .inl (lo_getf 17 11 0)),
  (17, .inl (lo_push 20 (.int 186))),
  (20, .inl (lo_dup2 21)),
  (21, .inl (lo_ald 22 0)),
  (22, .inl (lo_push 23 (.int 1))),
  (23, .inl (lo_bin 24 (fun x y => x - y))),
  (24, .inl (lo_ast 25 0)),
  (25, .inl (lo_aload 26 0)),
  (26, .inl (lo_getf 29 11 0)),
  (29, .inl (lo_push 32 (.int 186))),
  (32, .inl (lo_ald 33 0)),
  (33, .inr (.inr 1))]
theorem k_200_0 (L : Nat) (xs : Nat → Int32) : ll_OK1 cX11_cut RX11 (some .int) false ll_mN ll_mR ll_mK ll_cnt L xs false 0 (.inl (lo_aload 1 0)) := lk_aload_n (k := 0) (by decide +kernel) rfl
theorem k_200_1 (L : Nat) (xs : Nat → Int32) : ll_OK1 cX11_cut RX11 (some .int) false ll_mN ll_mR ll_mK ll_cnt L xs false 1 (.inl (lo_getf 4 11 0)) := lk_getf (ix := 8) (ci := 11) (k := 0) (C := RX11) (T := TX11) (N := 46) (by decide +kernel) rfl in_11 (by decide) tb_606
theorem k_200_4 (L : Nat) (xs : Nat → Int32) : ll_OK1 cX11_cut RX11 (some .int) false ll_mN ll_mR ll_mK ll_cnt L xs false 4 (.inl (lo_push 7 (.int 186))) := lk_sipush (n := 186) (by decide +kernel) (by decide)
theorem k_200_7 (L : Nat) (xs : Nat → Int32) : ll_OK1 cX11_cut RX11 (some .int) false ll_mN ll_mR ll_mK ll_cnt L xs false 7 (.inl (lo_ald 8 0)) := lk_iald (by decide +kernel)
theorem k_200_8 (L : Nat) (xs : Nat → Int32) : ll_OK1 cX11_cut RX11 (some .int) false ll_mN ll_mR ll_mK ll_cnt L xs false 8 (.inl (lo_if 13 11 (fun x => decide (¬ x = 0)))) := lk_if_ne (off := 5) (by decide +kernel) rfl
theorem k_200_11 (L : Nat) (xs : Nat → Int32) : ll_OK1 cX11_cut RX11 (some .int) false ll_mN ll_mR ll_mK ll_cnt L xs false 11 (.inl (lo_push 12 (.int (-1)))) := lk_iconst (n := (-1)) (by decide +kernel) (by decide)
theorem k_200_12 (L : Nat) (xs : Nat → Int32) : ll_OK1 cX11_cut RX11 (some .int) false ll_mN ll_mR ll_mK ll_cnt L xs false 12 (.inr (.inr 1)) := ⟨(fun h => by cases h), (fun _ => ⟨(by decide +kernel), rfl⟩), fun h => by cases h⟩
theorem k_200_13 (L : Nat) (xs : Nat → Int32) : ll_OK1 cX11_cut RX11 (some .int) false ll_mN ll_mR ll_mK ll_cnt L xs false 13 (.inl (lo_aload 14 0)) := lk_aload_n (k := 0) (by decide +kernel) rfl
theorem k_200_14 (L : Nat) (xs : Nat → Int32) : ll_OK1 cX11_cut RX11 (some .int) false ll_mN ll_mR ll_mK ll_cnt L xs false 14 (.inl (lo_getf 17 11 0)) := lk_getf (ix := 8) (ci := 11) (k := 0) (C := RX11) (T := TX11) (N := 46) (by decide +kernel) rfl in_11 (by decide) tb_606
theorem k_200_17 (L : Nat) (xs : Nat → Int32) : ll_OK1 cX11_cut RX11 (some .int) false ll_mN ll_mR ll_mK ll_cnt L xs false 17 (.inl (lo_push 20 (.int 186))) := lk_sipush (n := 186) (by decide +kernel) (by decide)
theorem k_200_20 (L : Nat) (xs : Nat → Int32) : ll_OK1 cX11_cut RX11 (some .int) false ll_mN ll_mR ll_mK ll_cnt L xs false 20 (.inl (lo_dup2 21)) := lk_dup2 (by decide +kernel)
theorem k_200_21 (L : Nat) (xs : Nat → Int32) : ll_OK1 cX11_cut RX11 (some .int) false ll_mN ll_mR ll_mK ll_cnt L xs false 21 (.inl (lo_ald 22 0)) := lk_iald (by decide +kernel)
theorem k_200_22 (L : Nat) (xs : Nat → Int32) : ll_OK1 cX11_cut RX11 (some .int) false ll_mN ll_mR ll_mK ll_cnt L xs false 22 (.inl (lo_push 23 (.int 1))) := lk_iconst (n := 1) (by decide +kernel) (by decide)
theorem k_200_23 (L : Nat) (xs : Nat → Int32) : ll_OK1 cX11_cut RX11 (some .int) false ll_mN ll_mR ll_mK ll_cnt L xs false 23 (.inl (lo_bin 24 (fun x y => x - y))) := lk_isub (by decide +kernel)
theorem k_200_24 (L : Nat) (xs : Nat → Int32) : ll_OK1 cX11_cut RX11 (some .int) false ll_mN ll_mR ll_mK ll_cnt L xs false 24 (.inl (lo_ast 25 0)) := lk_iast (by decide +kernel)
theorem k_200_25 (L : Nat) (xs : Nat → Int32) : ll_OK1 cX11_cut RX11 (some .int) false ll_mN ll_mR ll_mK ll_cnt L xs false 25 (.inl (lo_aload 26 0)) := lk_aload_n (k := 0) (by decide +kernel) rfl
theorem k_200_26 (L : Nat) (xs : Nat → Int32) : ll_OK1 cX11_cut RX11 (some .int) false ll_mN ll_mR ll_mK ll_cnt L xs false 26 (.inl (lo_getf 29 11 0)) := lk_getf (ix := 8) (ci := 11) (k := 0) (C := RX11) (T := TX11) (N := 46) (by decide +kernel) rfl in_11 (by decide) tb_606
theorem k_200_29 (L : Nat) (xs : Nat → Int32) : ll_OK1 cX11_cut RX11 (some .int) false ll_mN ll_mR ll_mK ll_cnt L xs false 29 (.inl (lo_push 32 (.int 186))) := lk_sipush (n := 186) (by decide +kernel) (by decide)
theorem k_200_32 (L : Nat) (xs : Nat → Int32) : ll_OK1 cX11_cut RX11 (some .int) false ll_mN ll_mR ll_mK ll_cnt L xs false 32 (.inl (lo_ald 33 0)) := lk_iald (by decide +kernel)
theorem k_200_33 (L : Nat) (xs : Nat → Int32) : ll_OK1 cX11_cut RX11 (some .int) false ll_mN ll_mR ll_mK ll_cnt L xs false 33 (.inr (.inr 1)) := ⟨(fun h => by cases h), (fun _ => ⟨(by decide +kernel), rfl⟩), fun h => by cases h⟩
theorem ok_200 (L : Nat) (xs : Nat → Int32) : ∀ q ∈ cd_200, ll_OK1 cX11_cut RX11 (some .int) false ll_mN ll_mR ll_mK ll_cnt L xs false q.1 q.2 :=
  List.forall_mem_cons.mpr ⟨k_200_0 L xs, List.forall_mem_cons.mpr ⟨k_200_1 L xs, List.forall_mem_cons.mpr ⟨k_200_4 L xs, List.forall_mem_cons.mpr ⟨k_200_7 L xs, List.forall_mem_cons.mpr ⟨k_200_8 L xs, List.forall_mem_cons.mpr ⟨k_200_11 L xs, List.forall_mem_cons.mpr ⟨k_200_12 L xs, List.forall_mem_cons.mpr ⟨k_200_13 L xs, List.forall_mem_cons.mpr ⟨k_200_14 L xs, List.forall_mem_cons.mpr ⟨k_200_17 L xs, List.forall_mem_cons.mpr ⟨k_200_20 L xs, List.forall_mem_cons.mpr ⟨k_200_21 L xs, List.forall_mem_cons.mpr ⟨k_200_22 L xs, List.forall_mem_cons.mpr ⟨k_200_23 L xs, List.forall_mem_cons.mpr ⟨k_200_24 L xs, List.forall_mem_cons.mpr ⟨k_200_25 L xs, List.forall_mem_cons.mpr ⟨k_200_26 L xs, List.forall_mem_cons.mpr ⟨k_200_29 L xs, List.forall_mem_cons.mpr ⟨k_200_32 L xs, List.forall_mem_cons.mpr ⟨k_200_33 L xs, fun _ h => absurd h List.not_mem_nil⟩⟩⟩⟩⟩⟩⟩⟩⟩⟩⟩⟩⟩⟩⟩⟩⟩⟩⟩⟩
/-- InclusionProverModel.isTold.(I)Z -/
def cd_201 : List (Nat × ll_O) := [
  (0, .inl (lo_push 1 (.int 0))),
  (1, .inl (lo_istore 2 2)),
  (2, .inl (lo_iload 3 2)),
  (3, .inl (lo_aload 4 0)),
  (4, .inl (lo_getf 7 11 0)),
  (7, .inl (lo_push 10 (.int 186))),
  (10, .inl (lo_ald 11 0)),
  (11, .inl (lo_cmp 63 14 (fun x y => decide (y ≤ x)))),
  (14, .inl (lo_push 15 (.int 0))),
  (15, .inl (lo_istore 16 3)),
  (16, .inl (lo_iload 17 3)),
  (17, .inl (lo_aload 18 0)),
  (18, .inl (lo_getf 21 11 0)),
  (21, .inl (lo_push 24 (.int 1087))),
  (24, .inl (lo_iload 25 2)),
  (25, .inl (lo_bin 26 (fun x y => x + y))),
  (26, .inl (lo_ald 27 0)),
  (27, .inl (lo_cmp 57 30 (fun x y => decide (y ≤ x)))),
  (30, .inl (lo_aload 31 0)),
  (31, .inl (lo_getf 34 11 0)),
  (34, .inl (lo_push 37 (.int 1387))),
  (37, .inl (lo_push 39 (.int 30))),
  (39, .inl (lo_iload 40 2)),
  (40, .inl (lo_bin 41 (fun x y => x * y))),
  (41, .inl (lo_bin 42 (fun x y => x + y))),
  (42, .inl (lo_iload 43 3)),
  (43, .inl (lo_bin 44 (fun x y => x + y))),
  (44, .inl (lo_ald 45 0)),
  (45, .inl (lo_iload 46 1)),
  (46, .inl (lo_cmp 51 49 (fun x y => decide (¬ x = y)))),
  (49, .inl (lo_push 50 (.int 1))),
  (50, .inr (.inr 2)),
  (51, .inl (lo_iinc 54 3 1)),
  (54, .inl (lo_goto 16)),
  (57, .inl (lo_iinc 60 2 1)),
  (60, .inl (lo_goto 2)),
  (63, .inl (lo_push 64 (.int 0))),
  (64, .inr (.inr 2))]
theorem k_201_0 (L : Nat) (xs : Nat → Int32) : ll_OK1 cX11_isTold RX11 (some .boolean) false ll_mN ll_mR ll_mK ll_cnt L xs false 0 (.inl (lo_push 1 (.int 0))) := lk_iconst (n := 0) (by decide +kernel) (by decide)
theorem k_201_1 (L : Nat) (xs : Nat → Int32) : ll_OK1 cX11_isTold RX11 (some .boolean) false ll_mN ll_mR ll_mK ll_cnt L xs false 1 (.inl (lo_istore 2 2)) := lk_istore_n (k := 2) (by decide +kernel) rfl
theorem k_201_2 (L : Nat) (xs : Nat → Int32) : ll_OK1 cX11_isTold RX11 (some .boolean) false ll_mN ll_mR ll_mK ll_cnt L xs false 2 (.inl (lo_iload 3 2)) := lk_iload_n (k := 2) (by decide +kernel) rfl
theorem k_201_3 (L : Nat) (xs : Nat → Int32) : ll_OK1 cX11_isTold RX11 (some .boolean) false ll_mN ll_mR ll_mK ll_cnt L xs false 3 (.inl (lo_aload 4 0)) := lk_aload_n (k := 0) (by decide +kernel) rfl
theorem k_201_4 (L : Nat) (xs : Nat → Int32) : ll_OK1 cX11_isTold RX11 (some .boolean) false ll_mN ll_mR ll_mK ll_cnt L xs false 4 (.inl (lo_getf 7 11 0)) := lk_getf (ix := 8) (ci := 11) (k := 0) (C := RX11) (T := TX11) (N := 46) (by decide +kernel) rfl in_11 (by decide) tb_606
theorem k_201_7 (L : Nat) (xs : Nat → Int32) : ll_OK1 cX11_isTold RX11 (some .boolean) false ll_mN ll_mR ll_mK ll_cnt L xs false 7 (.inl (lo_push 10 (.int 186))) := lk_sipush (n := 186) (by decide +kernel) (by decide)
theorem k_201_10 (L : Nat) (xs : Nat → Int32) : ll_OK1 cX11_isTold RX11 (some .boolean) false ll_mN ll_mR ll_mK ll_cnt L xs false 10 (.inl (lo_ald 11 0)) := lk_iald (by decide +kernel)
theorem k_201_11 (L : Nat) (xs : Nat → Int32) : ll_OK1 cX11_isTold RX11 (some .boolean) false ll_mN ll_mR ll_mK ll_cnt L xs false 11 (.inl (lo_cmp 63 14 (fun x y => decide (y ≤ x)))) := lk_icmp_ge (off := 52) (by decide +kernel) rfl
theorem k_201_14 (L : Nat) (xs : Nat → Int32) : ll_OK1 cX11_isTold RX11 (some .boolean) false ll_mN ll_mR ll_mK ll_cnt L xs false 14 (.inl (lo_push 15 (.int 0))) := lk_iconst (n := 0) (by decide +kernel) (by decide)
theorem k_201_15 (L : Nat) (xs : Nat → Int32) : ll_OK1 cX11_isTold RX11 (some .boolean) false ll_mN ll_mR ll_mK ll_cnt L xs false 15 (.inl (lo_istore 16 3)) := lk_istore_n (k := 3) (by decide +kernel) rfl
theorem k_201_16 (L : Nat) (xs : Nat → Int32) : ll_OK1 cX11_isTold RX11 (some .boolean) false ll_mN ll_mR ll_mK ll_cnt L xs false 16 (.inl (lo_iload 17 3)) := lk_iload_n (k := 3) (by decide +kernel) rfl
theorem k_201_17 (L : Nat) (xs : Nat → Int32) : ll_OK1 cX11_isTold RX11 (some .boolean) false ll_mN ll_mR ll_mK ll_cnt L xs false 17 (.inl (lo_aload 18 0)) := lk_aload_n (k := 0) (by decide +kernel) rfl
theorem k_201_18 (L : Nat) (xs : Nat → Int32) : ll_OK1 cX11_isTold RX11 (some .boolean) false ll_mN ll_mR ll_mK ll_cnt L xs false 18 (.inl (lo_getf 21 11 0)) := lk_getf (ix := 8) (ci := 11) (k := 0) (C := RX11) (T := TX11) (N := 46) (by decide +kernel) rfl in_11 (by decide) tb_606
theorem k_201_21 (L : Nat) (xs : Nat → Int32) : ll_OK1 cX11_isTold RX11 (some .boolean) false ll_mN ll_mR ll_mK ll_cnt L xs false 21 (.inl (lo_push 24 (.int 1087))) := lk_sipush (n := 1087) (by decide +kernel) (by decide)
theorem k_201_24 (L : Nat) (xs : Nat → Int32) : ll_OK1 cX11_isTold RX11 (some .boolean) false ll_mN ll_mR ll_mK ll_cnt L xs false 24 (.inl (lo_iload 25 2)) := lk_iload_n (k := 2) (by decide +kernel) rfl
theorem k_201_25 (L : Nat) (xs : Nat → Int32) : ll_OK1 cX11_isTold RX11 (some .boolean) false ll_mN ll_mR ll_mK ll_cnt L xs false 25 (.inl (lo_bin 26 (fun x y => x + y))) := lk_iadd (by decide +kernel)
theorem k_201_26 (L : Nat) (xs : Nat → Int32) : ll_OK1 cX11_isTold RX11 (some .boolean) false ll_mN ll_mR ll_mK ll_cnt L xs false 26 (.inl (lo_ald 27 0)) := lk_iald (by decide +kernel)
theorem k_201_27 (L : Nat) (xs : Nat → Int32) : ll_OK1 cX11_isTold RX11 (some .boolean) false ll_mN ll_mR ll_mK ll_cnt L xs false 27 (.inl (lo_cmp 57 30 (fun x y => decide (y ≤ x)))) := lk_icmp_ge (off := 30) (by decide +kernel) rfl
theorem k_201_30 (L : Nat) (xs : Nat → Int32) : ll_OK1 cX11_isTold RX11 (some .boolean) false ll_mN ll_mR ll_mK ll_cnt L xs false 30 (.inl (lo_aload 31 0)) := lk_aload_n (k := 0) (by decide +kernel) rfl
theorem k_201_31 (L : Nat) (xs : Nat → Int32) : ll_OK1 cX11_isTold RX11 (some .boolean) false ll_mN ll_mR ll_mK ll_cnt L xs false 31 (.inl (lo_getf 34 11 0)) := lk_getf (ix := 8) (ci := 11) (k := 0) (C := RX11) (T := TX11) (N := 46) (by decide +kernel) rfl in_11 (by decide) tb_606
theorem k_201_34 (L : Nat) (xs : Nat → Int32) : ll_OK1 cX11_isTold RX11 (some .boolean) false ll_mN ll_mR ll_mK ll_cnt L xs false 34 (.inl (lo_push 37 (.int 1387))) := lk_sipush (n := 1387) (by decide +kernel) (by decide)
theorem k_201_37 (L : Nat) (xs : Nat → Int32) : ll_OK1 cX11_isTold RX11 (some .boolean) false ll_mN ll_mR ll_mK ll_cnt L xs false 37 (.inl (lo_push 39 (.int 30))) := lk_bipush (n := 30) (by decide +kernel) (by decide)
theorem k_201_39 (L : Nat) (xs : Nat → Int32) : ll_OK1 cX11_isTold RX11 (some .boolean) false ll_mN ll_mR ll_mK ll_cnt L xs false 39 (.inl (lo_iload 40 2)) := lk_iload_n (k := 2) (by decide +kernel) rfl
theorem k_201_40 (L : Nat) (xs : Nat → Int32) : ll_OK1 cX11_isTold RX11 (some .boolean) false ll_mN ll_mR ll_mK ll_cnt L xs false 40 (.inl (lo_bin 41 (fun x y => x * y))) := lk_imul (by decide +kernel)
theorem k_201_41 (L : Nat) (xs : Nat → Int32) : ll_OK1 cX11_isTold RX11 (some .boolean) false ll_mN ll_mR ll_mK ll_cnt L xs false 41 (.inl (lo_bin 42 (fun x y => x + y))) := lk_iadd (by decide +kernel)
theorem k_201_42 (L : Nat) (xs : Nat → Int32) : ll_OK1 cX11_isTold RX11 (some .boolean) false ll_mN ll_mR ll_mK ll_cnt L xs false 42 (.inl (lo_iload 43 3)) := lk_iload_n (k := 3) (by decide +kernel) rfl
theorem k_201_43 (L : Nat) (xs : Nat → Int32) : ll_OK1 cX11_isTold RX11 (some .boolean) false ll_mN ll_mR ll_mK ll_cnt L xs false 43 (.inl (lo_bin 44 (fun x y => x + y))) := lk_iadd (by decide +kernel)
theorem k_201_44 (L : Nat) (xs : Nat → Int32) : ll_OK1 cX11_isTold RX11 (some .boolean) false ll_mN ll_mR ll_mK ll_cnt L xs false 44 (.inl (lo_ald 45 0)) := lk_iald (by decide +kernel)
theorem k_201_45 (L : Nat) (xs : Nat → Int32) : ll_OK1 cX11_isTold RX11 (some .boolean) false ll_mN ll_mR ll_mK ll_cnt L xs false 45 (.inl (lo_iload 46 1)) := lk_iload_n (k := 1) (by decide +kernel) rfl
theorem k_201_46 (L : Nat) (xs : Nat → Int32) : ll_OK1 cX11_isTold RX11 (some .boolean) false ll_mN ll_mR ll_mK ll_cnt L xs false 46 (.inl (lo_cmp 51 49 (fun x y => decide (¬ x = y)))) := lk_icmp_ne (off := 5) (by decide +kernel) rfl
theorem k_201_49 (L : Nat) (xs : Nat → Int32) : ll_OK1 cX11_isTold RX11 (some .boolean) false ll_mN ll_mR ll_mK ll_cnt L xs false 49 (.inl (lo_push 50 (.int 1))) := lk_iconst (n := 1) (by decide +kernel) (by decide)
theorem k_201_50 (L : Nat) (xs : Nat → Int32) : ll_OK1 cX11_isTold RX11 (some .boolean) false ll_mN ll_mR ll_mK ll_cnt L xs false 50 (.inr (.inr 2)) := ⟨(fun h => by cases h), (fun h => by cases h), fun _ => ⟨(by decide +kernel), rfl⟩⟩
theorem k_201_51 (L : Nat) (xs : Nat → Int32) : ll_OK1 cX11_isTold RX11 (some .boolean) false ll_mN ll_mR ll_mK ll_cnt L xs false 51 (.inl (lo_iinc 54 3 1)) := lk_iinc (n := 1) (by decide +kernel) (by decide)
theorem k_201_54 (L : Nat) (xs : Nat → Int32) : ll_OK1 cX11_isTold RX11 (some .boolean) false ll_mN ll_mR ll_mK ll_cnt L xs false 54 (.inl (lo_goto 16)) := lk_goto (off := (-38)) (by decide +kernel) rfl
theorem k_201_57 (L : Nat) (xs : Nat → Int32) : ll_OK1 cX11_isTold RX11 (some .boolean) false ll_mN ll_mR ll_mK ll_cnt L xs false 57 (.inl (lo_iinc 60 2 1)) := lk_iinc (n := 1) (by decide +kernel) (by decide)
theorem k_201_60 (L : Nat) (xs : Nat → Int32) : ll_OK1 cX11_isTold RX11 (some .boolean) false ll_mN ll_mR ll_mK ll_cnt L xs false 60 (.inl (lo_goto 2)) := lk_goto (off := (-58)) (by decide +kernel) rfl
theorem k_201_63 (L : Nat) (xs : Nat → Int32) : ll_OK1 cX11_isTold RX11 (some .boolean) false ll_mN ll_mR ll_mK ll_cnt L xs false 63 (.inl (lo_push 64 (.int 0))) := lk_iconst (n := 0) (by decide +kernel) (by decide)
theorem k_201_64 (L : Nat) (xs : Nat → Int32) : ll_OK1 cX11_isTold RX11 (some .boolean) false ll_mN ll_mR ll_mK ll_cnt L xs false 64 (.inr (.inr 2)) := ⟨(fun h => by cases h), (fun h => by cases h), fun _ => ⟨(by decide +kernel), rfl⟩⟩
theorem ok_201 (L : Nat) (xs : Nat → Int32) : ∀ q ∈ cd_201, ll_OK1 cX11_isTold RX11 (some .boolean) false ll_mN ll_mR ll_mK ll_cnt L xs false q.1 q.2 :=
  List.forall_mem_cons.mpr ⟨k_201_0 L xs, List.forall_mem_cons.mpr ⟨k_201_1 L xs, List.forall_mem_cons.mpr ⟨k_201_2 L xs, List.forall_mem_cons.mpr ⟨k_201_3 L xs, List.forall_mem_cons.mpr ⟨k_201_4 L xs, List.forall_mem_cons.mpr ⟨k_201_7 L xs, List.forall_mem_cons.mpr ⟨k_201_10 L xs, List.forall_mem_cons.mpr ⟨k_201_11 L xs, List.forall_mem_cons.mpr ⟨k_201_14 L xs, List.forall_mem_cons.mpr ⟨k_201_15 L xs, List.forall_mem_cons.mpr ⟨k_201_16 L xs, List.forall_mem_cons.mpr ⟨k_201_17 L xs, List.forall_mem_cons.mpr ⟨k_201_18 L xs, List.forall_mem_cons.mpr ⟨k_201_21 L xs, List.forall_mem_cons.mpr ⟨k_201_24 L xs, List.forall_mem_cons.mpr ⟨k_201_25 L xs, List.forall_mem_cons.mpr ⟨k_201_26 L xs, List.forall_mem_cons.mpr ⟨k_201_27 L xs, List.forall_mem_cons.mpr ⟨k_201_30 L xs, List.forall_mem_cons.mpr ⟨k_201_31 L xs, List.forall_mem_cons.mpr ⟨k_201_34 L xs, List.forall_mem_cons.mpr ⟨k_201_37 L xs, List.forall_mem_cons.mpr ⟨k_201_39 L xs, List.forall_mem_cons.mpr ⟨k_201_40 L xs, List.forall_mem_cons.mpr ⟨k_201_41 L xs, List.forall_mem_cons.mpr ⟨k_201_42 L xs, List.forall_mem_cons.mpr ⟨k_201_43 L xs, List.forall_mem_cons.mpr ⟨k_201_44 L xs, List.forall_mem_cons.mpr ⟨k_201_45 L xs, List.forall_mem_cons.mpr ⟨k_201_46 L xs, List.forall_mem_cons.mpr ⟨k_201_49 L xs, List.forall_mem_cons.mpr ⟨k_201_50 L xs, List.forall_mem_cons.mpr ⟨k_201_51 L xs, List.forall_mem_cons.mpr ⟨k_201_54 L xs, List.forall_mem_cons.mpr ⟨k_201_57 L xs, List.forall_mem_cons.mpr ⟨k_201_60 L xs, List.forall_mem_cons.mpr ⟨k_201_63 L xs, List.forall_mem_cons.mpr ⟨k_201_64 L xs, fun _ h => absurd h List.not_mem_nil⟩⟩⟩⟩⟩⟩⟩⟩⟩⟩⟩⟩⟩⟩⟩⟩⟩⟩⟩⟩⟩⟩⟩⟩⟩⟩⟩⟩⟩⟩⟩⟩⟩⟩⟩⟩⟩⟩
/-- InclusionProverModel.count.(I)I -/
def cd_202 : List (Nat × ll_O) := [
  (0, .inl (lo_push 1 (.int 0))),
  (1, .inl (lo_istore 2 2)),
  (2, .inl (lo_push 3 (.int 0))),
  (3, .inl (lo_istore 4 3)),
  (4, .inl (lo_iload 5 3)),
  (5, .inl (lo_aload 6 0)),
  (6, .inl (lo_getf 9 11 0)),
  (9, .inl (lo_push 12 (.int 186))),
  (12, .inl (lo_ald 13 0)),
  (13, .inl (lo_cmp 94 16 (fun x y => decide (y ≤ x)))),
  (16, .inl (lo_iload 17 1)),
  (17, .inl (lo_push 18 (.int 1))),
  (18, .inl (lo_push 19 (.int 5))),
  (19, .inr (.inl (151, 3, 22))),
  (22, .inl (lo_if 94 25 (fun x => decide (x = 0)))),
  (25, .inl (lo_iload 26 2)),
  (26, .inl (lo_iload 27 1)),
  (27, .inl (lo_push 28 (.int 3))),
  (28, .inl (lo_cmp 44 31 (fun x y => decide (¬ x = y)))),
  (31, .inl (lo_aload 32 0)),
  (32, .inl (lo_getf 35 11 0)),
  (35, .inl (lo_push 38 (.int 1087))),
  (38, .inl (lo_iload 39 3)),
  (39, .inl (lo_bin 40 (fun x y => x + y))),
  (40, .inl (lo_ald 41 0)),
  (41, .inl (lo_goto 86)),
  (44, .inl (lo_iload 45 1)),
  (45, .inl (lo_push 46 (.int 5))),
  (46, .inl (lo_cmp 65 49 (fun x y => decide (¬ x = y)))),
  (49, .inl (lo_aload 50 0)),
  (50, .inl (lo_iload 51 3)),
  (51, .inr (.inl (201, 2, 54))),
  (54, .inl (lo_if 61 57 (fun x => decide (x = 0)))),
  (57, .inl (lo_push 58 (.int 0))),
  (58, .inl (lo_goto 86)),
  (61, .inl (lo_push 62 (.int 1))),
  (62, .inl (lo_goto 86)),
  (65, .inl (lo_aload 66 0)),
  (66, .inl (lo_getf 69 11 0)),
  (69, .inl (lo_push 72 (.int 787))),
  (72, .inl (lo_iload 73 3)),
  (73, .inl (lo_bin 74 (fun x y => x + y))),
  (74, .inl (lo_ald 75 0)),
  (75, .inl (lo_iload 76 1)),
  (76, .inl (lo_push 77 (.int 1))),
  (77, .inl (lo_bin 78 (fun x y => x - y))),
  (78, .inl (lo_cmp 85 81 (fun x y => decide (¬ x = y)))),
  (81, .inl (lo_push 82 (.int 1))),
  (82, .inl (lo_goto 86)),
  (85, .inl (lo_push 86 (.int 0))),
  (86, .inl (lo_bin 87 (fun x y => x + y))),
  (87, .inl (lo_istore 88 2)),
  (88, .inl (lo_iinc 91 3 1)),
  (91, .inl (lo_goto 4)),
  (94, .inl (lo_iload 95 1)),
  (95, .inl (lo_if 107 98 (fun x => decide (¬ x = 0)))),
  (98, .inl (lo_aload 99 0)),
  (99, .inl (lo_getf 102 11 0)),
  (102, .inl (lo_push 105 (.int 186))),
  (105, .inl (lo_ald 106 0)),
  (106, .inr (.inr 1)),
  (107, .inl (lo_iload 108 1)),
  (108, .inl (lo_push 109 (.int 4))),
  (109, .inl (lo_cmp 121 112 (fun x y => decide (¬ x = y)))),
  (112, .inl (lo_aload 113 0)),
  (113, .inl (lo_getf 116 11 0)),
  (116, .inl (lo_push 119 (.int 10387))),
  (119, .inl (lo_ald 120 0)),
  (120, .inr (.inr 1)),
  (121, .inl (lo_iload 122 1)),
  (122, .inl (lo_push 124 (.int 6))),
  (124, .inl (lo_cmp 134 127 (fun x y => decide (¬ x = y)))),
  (127, .inl (lo_aload 128 0)),
  (128, .inl (lo_getf 131 11 3)),
  (131, .inl (lo_goto 148)),
  (134, .inl (lo_iload 135 1)),
  (135, .inl (lo_push 136 (.int 1))),
  (136, .inl (lo_push 137 (.int 5))),
  (137, .inr (.inl (151, 3, 140))),
  (140, .inl (lo_if 147 143 (fun x => decide (x = 0)))),
  (143, .inl (lo_iload 144 2)),
  (144, .inl (lo_goto 148)),
  (147, .inl (lo_push 148 (.int (-1)))),
  (148, .inr (.inr 1))]
theorem k_202_0 (L : Nat) (xs : Nat → Int32) : ll_OK1 cX11_count RX11 (some .int) false ll_mN ll_mR ll_mK ll_cnt L xs false 0 (.inl (lo_push 1 (.int 0))) := lk_iconst (n := 0) (by decide +kernel) (by decide)
theorem k_202_1 (L : Nat) (xs : Nat → Int32) : ll_OK1 cX11_count RX11 (some .int) false ll_mN ll_mR ll_mK ll_cnt L xs false 1 (.inl (lo_istore 2 2)) := lk_istore_n (k := 2) (by decide +kernel) rfl
theorem k_202_2 (L : Nat) (xs : Nat → Int32) : ll_OK1 cX11_count RX11 (some .int) false ll_mN ll_mR ll_mK ll_cnt L xs false 2 (.inl (lo_push 3 (.int 0))) := lk_iconst (n := 0) (by decide +kernel) (by decide)
theorem k_202_3 (L : Nat) (xs : Nat → Int32) : ll_OK1 cX11_count RX11 (some .int) false ll_mN ll_mR ll_mK ll_cnt L xs false 3 (.inl (lo_istore 4 3)) := lk_istore_n (k := 3) (by decide +kernel) rfl
theorem k_202_4 (L : Nat) (xs : Nat → Int32) : ll_OK1 cX11_count RX11 (some .int) false ll_mN ll_mR ll_mK ll_cnt L xs false 4 (.inl (lo_iload 5 3)) := lk_iload_n (k := 3) (by decide +kernel) rfl
theorem k_202_5 (L : Nat) (xs : Nat → Int32) : ll_OK1 cX11_count RX11 (some .int) false ll_mN ll_mR ll_mK ll_cnt L xs false 5 (.inl (lo_aload 6 0)) := lk_aload_n (k := 0) (by decide +kernel) rfl
theorem k_202_6 (L : Nat) (xs : Nat → Int32) : ll_OK1 cX11_count RX11 (some .int) false ll_mN ll_mR ll_mK ll_cnt L xs false 6 (.inl (lo_getf 9 11 0)) := lk_getf (ix := 8) (ci := 11) (k := 0) (C := RX11) (T := TX11) (N := 46) (by decide +kernel) rfl in_11 (by decide) tb_606
theorem k_202_9 (L : Nat) (xs : Nat → Int32) : ll_OK1 cX11_count RX11 (some .int) false ll_mN ll_mR ll_mK ll_cnt L xs false 9 (.inl (lo_push 12 (.int 186))) := lk_sipush (n := 186) (by decide +kernel) (by decide)
theorem k_202_12 (L : Nat) (xs : Nat → Int32) : ll_OK1 cX11_count RX11 (some .int) false ll_mN ll_mR ll_mK ll_cnt L xs false 12 (.inl (lo_ald 13 0)) := lk_iald (by decide +kernel)
theorem k_202_13 (L : Nat) (xs : Nat → Int32) : ll_OK1 cX11_count RX11 (some .int) false ll_mN ll_mR ll_mK ll_cnt L xs false 13 (.inl (lo_cmp 94 16 (fun x y => decide (y ≤ x)))) := lk_icmp_ge (off := 81) (by decide +kernel) rfl
theorem k_202_16 (L : Nat) (xs : Nat → Int32) : ll_OK1 cX11_count RX11 (some .int) false ll_mN ll_mR ll_mK ll_cnt L xs false 16 (.inl (lo_iload 17 1)) := lk_iload_n (k := 1) (by decide +kernel) rfl
theorem k_202_17 (L : Nat) (xs : Nat → Int32) : ll_OK1 cX11_count RX11 (some .int) false ll_mN ll_mR ll_mK ll_cnt L xs false 17 (.inl (lo_push 18 (.int 1))) := lk_iconst (n := 1) (by decide +kernel) (by decide)
theorem k_202_18 (L : Nat) (xs : Nat → Int32) : ll_OK1 cX11_count RX11 (some .int) false ll_mN ll_mR ll_mK ll_cnt L xs false 18 (.inl (lo_push 19 (.int 5))) := lk_iconst (n := 5) (by decide +kernel) (by decide)
theorem k_202_19 (L : Nat) (xs : Nat → Int32) : ll_OK1 cX11_count RX11 (some .int) false ll_mN ll_mR ll_mK ll_cnt L xs false 19 (.inr (.inl (151, 3, 22))) := ⟨rfl, by decide, by rw [mN_151, mK_151, mR_151]; exact lj_s 163 (by decide +kernel) tb_673 tb_674 (by decide +kernel)⟩
theorem k_202_22 (L : Nat) (xs : Nat → Int32) : ll_OK1 cX11_count RX11 (some .int) false ll_mN ll_mR ll_mK ll_cnt L xs false 22 (.inl (lo_if 94 25 (fun x => decide (x = 0)))) := lk_if_eq (off := 72) (by decide +kernel) rfl
theorem k_202_25 (L : Nat) (xs : Nat → Int32) : ll_OK1 cX11_count RX11 (some .int) false ll_mN ll_mR ll_mK ll_cnt L xs false 25 (.inl (lo_iload 26 2)) := lk_iload_n (k := 2) (by decide +kernel) rfl
theorem k_202_26 (L : Nat) (xs : Nat → Int32) : ll_OK1 cX11_count RX11 (some .int) false ll_mN ll_mR ll_mK ll_cnt L xs false 26 (.inl (lo_iload 27 1)) := lk_iload_n (k := 1) (by decide +kernel) rfl
theorem k_202_27 (L : Nat) (xs : Nat → Int32) : ll_OK1 cX11_count RX11 (some .int) false ll_mN ll_mR ll_mK ll_cnt L xs false 27 (.inl (lo_push 28 (.int 3))) := lk_iconst (n := 3) (by decide +kernel) (by decide)
theorem k_202_28 (L : Nat) (xs : Nat → Int32) : ll_OK1 cX11_count RX11 (some .int) false ll_mN ll_mR ll_mK ll_cnt L xs false 28 (.inl (lo_cmp 44 31 (fun x y => decide (¬ x = y)))) := lk_icmp_ne (off := 16) (by decide +kernel) rfl
theorem k_202_31 (L : Nat) (xs : Nat → Int32) : ll_OK1 cX11_count RX11 (some .int) false ll_mN ll_mR ll_mK ll_cnt L xs false 31 (.inl (lo_aload 32 0)) := lk_aload_n (k := 0) (by decide +kernel) rfl
theorem k_202_32 (L : Nat) (xs : Nat → Int32) : ll_OK1 cX11_count RX11 (some .int) false ll_mN ll_mR ll_mK ll_cnt L xs false 32 (.inl (lo_getf 35 11 0)) := lk_getf (ix := 8) (ci := 11) (k := 0) (C := RX11) (T := TX11) (N := 46) (by decide +kernel) rfl in_11 (by decide) tb_606
theorem k_202_35 (L : Nat) (xs : Nat → Int32) : ll_OK1 cX11_count RX11 (some .int) false ll_mN ll_mR ll_mK ll_cnt L xs false 35 (.inl (lo_push 38 (.int 1087))) := lk_sipush (n := 1087) (by decide +kernel) (by decide)
theorem k_202_38 (L : Nat) (xs : Nat → Int32) : ll_OK1 cX11_count RX11 (some .int) false ll_mN ll_mR ll_mK ll_cnt L xs false 38 (.inl (lo_iload 39 3)) := lk_iload_n (k := 3) (by decide +kernel) rfl
theorem k_202_39 (L : Nat) (xs : Nat → Int32) : ll_OK1 cX11_count RX11 (some .int) false ll_mN ll_mR ll_mK ll_cnt L xs false 39 (.inl (lo_bin 40 (fun x y => x + y))) := lk_iadd (by decide +kernel)
theorem k_202_40 (L : Nat) (xs : Nat → Int32) : ll_OK1 cX11_count RX11 (some .int) false ll_mN ll_mR ll_mK ll_cnt L xs false 40 (.inl (lo_ald 41 0)) := lk_iald (by decide +kernel)
theorem k_202_41 (L : Nat) (xs : Nat → Int32) : ll_OK1 cX11_count RX11 (some .int) false ll_mN ll_mR ll_mK ll_cnt L xs false 41 (.inl (lo_goto 86)) := lk_goto (off := 45) (by decide +kernel) rfl
theorem k_202_44 (L : Nat) (xs : Nat → Int32) : ll_OK1 cX11_count RX11 (some .int) false ll_mN ll_mR ll_mK ll_cnt L xs false 44 (.inl (lo_iload 45 1)) := lk_iload_n (k := 1) (by decide +kernel) rfl
theorem k_202_45 (L : Nat) (xs : Nat → Int32) : ll_OK1 cX11_count RX11 (some .int) false ll_mN ll_mR ll_mK ll_cnt L xs false 45 (.inl (lo_push 46 (.int 5))) := lk_iconst (n := 5) (by decide +kernel) (by decide)
theorem k_202_46 (L : Nat) (xs : Nat → Int32) : ll_OK1 cX11_count RX11 (some .int) false ll_mN ll_mR ll_mK ll_cnt L xs false 46 (.inl (lo_cmp 65 49 (fun x y => decide (¬ x = y)))) := lk_icmp_ne (off := 19) (by decide +kernel) rfl
theorem k_202_49 (L : Nat) (xs : Nat → Int32) : ll_OK1 cX11_count RX11 (some .int) false ll_mN ll_mR ll_mK ll_cnt L xs false 49 (.inl (lo_aload 50 0)) := lk_aload_n (k := 0) (by decide +kernel) rfl
theorem k_202_50 (L : Nat) (xs : Nat → Int32) : ll_OK1 cX11_count RX11 (some .int) false ll_mN ll_mR ll_mK ll_cnt L xs false 50 (.inl (lo_iload 51 3)) := lk_iload_n (k := 3) (by decide +kernel) rfl
theorem k_202_51 (L : Nat) (xs : Nat → Int32) : ll_OK1 cX11_count RX11 (some .int) false ll_mN ll_mR ll_mK ll_cnt L xs false 51 (.inr (.inl (201, 2, 54))) := ⟨rfl, by decide, by rw [mN_201, mK_201, mR_201]; exact lj_v 276 1 11 (RX11, TX11, 46) (by decide +kernel) tb_769 tb_770 tb_771 rfl rfl rfl rfl (by decide +kernel)⟩
theorem k_202_54 (L : Nat) (xs : Nat → Int32) : ll_OK1 cX11_count RX11 (some .int) false ll_mN ll_mR ll_mK ll_cnt L xs false 54 (.inl (lo_if 61 57 (fun x => decide (x = 0)))) := lk_if_eq (off := 7) (by decide +kernel) rfl
theorem k_202_57 (L : Nat) (xs : Nat → Int32) : ll_OK1 cX11_count RX11 (some .int) false ll_mN ll_mR ll_mK ll_cnt L xs false 57 (.inl (lo_push 58 (.int 0))) := lk_iconst (n := 0) (by decide +kernel) (by decide)
theorem k_202_58 (L : Nat) (xs : Nat → Int32) : ll_OK1 cX11_count RX11 (some .int) false ll_mN ll_mR ll_mK ll_cnt L xs false 58 (.inl (lo_goto 86)) := lk_goto (off := 28) (by decide +kernel) rfl
theorem k_202_61 (L : Nat) (xs : Nat → Int32) : ll_OK1 cX11_count RX11 (some .int) false ll_mN ll_mR ll_mK ll_cnt L xs false 61 (.inl (lo_push 62 (.int 1))) := lk_iconst (n := 1) (by decide +kernel) (by decide)
theorem k_202_62 (L : Nat) (xs : Nat → Int32) : ll_OK1 cX11_count RX11 (some .int) false ll_mN ll_mR ll_mK ll_cnt L xs false 62 (.inl (lo_goto 86)) := lk_goto (off := 24) (by decide +kernel) rfl
theorem k_202_65 (L : Nat) (xs : Nat → Int32) : ll_OK1 cX11_count RX11 (some .int) false ll_mN ll_mR ll_mK ll_cnt L xs false 65 (.inl (lo_aload 66 0)) := lk_aload_n (k := 0) (by decide +kernel) rfl
theorem k_202_66 (L : Nat) (xs : Nat → Int32) : ll_OK1 cX11_count RX11 (some .int) false ll_mN ll_mR ll_mK ll_cnt L xs false 66 (.inl (lo_getf 69 11 0)) := lk_getf (ix := 8) (ci := 11) (k := 0) (C := RX11) (T := TX11) (N := 46) (by decide +kernel) rfl in_11 (by decide) tb_606
theorem k_202_69 (L : Nat) (xs : Nat → Int32) : ll_OK1 cX11_count RX11 (some .int) false ll_mN ll_mR ll_mK ll_cnt L xs false 69 (.inl (lo_push 72 (.int 787))) := lk_sipush (n := 787) (by decide +kernel) (by decide)
theorem k_202_72 (L : Nat) (xs : Nat → Int32) : ll_OK1 cX11_count RX11 (some .int) false ll_mN ll_mR ll_mK ll_cnt L xs false 72 (.inl (lo_iload 73 3)) := lk_iload_n (k := 3) (by decide +kernel) rfl
theorem k_202_73 (L : Nat) (xs : Nat → Int32) : ll_OK1 cX11_count RX11 (some .int) false ll_mN ll_mR ll_mK ll_cnt L xs false 73 (.inl (lo_bin 74 (fun x y => x + y))) := lk_iadd (by decide +kernel)
theorem k_202_74 (L : Nat) (xs : Nat → Int32) : ll_OK1 cX11_count RX11 (some .int) false ll_mN ll_mR ll_mK ll_cnt L xs false 74 (.inl (lo_ald 75 0)) := lk_iald (by decide +kernel)
theorem k_202_75 (L : Nat) (xs : Nat → Int32) : ll_OK1 cX11_count RX11 (some .int) false ll_mN ll_mR ll_mK ll_cnt L xs false 75 (.inl (lo_iload 76 1)) := lk_iload_n (k := 1) (by decide +kernel) rfl
theorem k_202_76 (L : Nat) (xs : Nat → Int32) : ll_OK1 cX11_count RX11 (some .int) false ll_mN ll_mR ll_mK ll_cnt L xs false 76 (.inl (lo_push 77 (.int 1))) := lk_iconst (n := 1) (by decide +kernel) (by decide)
theorem k_202_77 (L : Nat) (xs : Nat → Int32) : ll_OK1 cX11_count RX11 (some .int) false ll_mN ll_mR ll_mK ll_cnt L xs false 77 (.inl (lo_bin 78 (fun x y => x - y))) := lk_isub (by decide +kernel)
theorem k_202_78 (L : Nat) (xs : Nat → Int32) : ll_OK1 cX11_count RX11 (some .int) false ll_mN ll_mR ll_mK ll_cnt L xs false 78 (.inl (lo_cmp 85 81 (fun x y => decide (¬ x = y)))) := lk_icmp_ne (off := 7) (by decide +kernel) rfl
theorem k_202_81 (L : Nat) (xs : Nat → Int32) : ll_OK1 cX11_count RX11 (some .int) false ll_mN ll_mR ll_mK ll_cnt L xs false 81 (.inl (lo_push 82 (.int 1))) := lk_iconst (n := 1) (by decide +kernel) (by decide)
theorem k_202_82 (L : Nat) (xs : Nat → Int32) : ll_OK1 cX11_count RX11 (some .int) false ll_mN ll_mR ll_mK ll_cnt L xs false 82 (.inl (lo_goto 86)) := lk_goto (off := 4) (by decide +kernel) rfl
theorem k_202_85 (L : Nat) (xs : Nat → Int32) : ll_OK1 cX11_count RX11 (some .int) false ll_mN ll_mR ll_mK ll_cnt L xs false 85 (.inl (lo_push 86 (.int 0))) := lk_iconst (n := 0) (by decide +kernel) (by decide)
theorem k_202_86 (L : Nat) (xs : Nat → Int32) : ll_OK1 cX11_count RX11 (some .int) false ll_mN ll_mR ll_mK ll_cnt L xs false 86 (.inl (lo_bin 87 (fun x y => x + y))) := lk_iadd (by decide +kernel)
theorem k_202_87 (L : Nat) (xs : Nat → Int32) : ll_OK1 cX11_count RX11 (some .int) false ll_mN ll_mR ll_mK ll_cnt L xs false 87 (.inl (lo_istore 88 2)) := lk_istore_n (k := 2) (by decide +kernel) rfl
theorem k_202_88 (L : Nat) (xs : Nat → Int32) : ll_OK1 cX11_count RX11 (some .int) false ll_mN ll_mR ll_mK ll_cnt L xs false 88 (.inl (lo_iinc 91 3 1)) := lk_iinc (n := 1) (by decide +kernel) (by decide)
theorem k_202_91 (L : Nat) (xs : Nat → Int32) : ll_OK1 cX11_count RX11 (some .int) false ll_mN ll_mR ll_mK ll_cnt L xs false 91 (.inl (lo_goto 4)) := lk_goto (off := (-87)) (by decide +kernel) rfl
theorem k_202_94 (L : Nat) (xs : Nat → Int32) : ll_OK1 cX11_count RX11 (some .int) false ll_mN ll_mR ll_mK ll_cnt L xs false 94 (.inl (lo_iload 95 1)) := lk_iload_n (k := 1) (by decide +kernel) rfl
theorem k_202_95 (L : Nat) (xs : Nat → Int32) : ll_OK1 cX11_count RX11 (some .int) false ll_mN ll_mR ll_mK ll_cnt L xs false 95 (.inl (lo_if 107 98 (fun x => decide (¬ x = 0)))) := lk_if_ne (off := 12) (by decide +kernel) rfl
theorem k_202_98 (L : Nat) (xs : Nat → Int32) : ll_OK1 cX11_count RX11 (some .int) false ll_mN ll_mR ll_mK ll_cnt L xs false 98 (.inl (lo_aload 99 0)) := lk_aload_n (k := 0) (by decide +kernel) rfl
theorem k_202_99 (L : Nat) (xs : Nat → Int32) : ll_OK1 cX11_count RX11 (some .int) false ll_mN ll_mR ll_mK ll_cnt L xs false 99 (.inl (lo_getf 102 11 0)) := lk_getf (ix := 8) (ci := 11) (k := 0) (C := RX11) (T := TX11) (N := 46) (by decide +kernel) rfl in_11 (by decide) tb_606
theorem k_202_102 (L : Nat) (xs : Nat → Int32) : ll_OK1 cX11_count RX11 (some .int) false ll_mN ll_mR ll_mK ll_cnt L xs false 102 (.inl (lo_push 105 (.int 186))) := lk_sipush (n := 186) (by decide +kernel) (by decide)
theorem k_202_105 (L : Nat) (xs : Nat → Int32) : ll_OK1 cX11_count RX11 (some .int) false ll_mN ll_mR ll_mK ll_cnt L xs false 105 (.inl (lo_ald 106 0)) := lk_iald (by decide +kernel)
theorem k_202_106 (L : Nat) (xs : Nat → Int32) : ll_OK1 cX11_count RX11 (some .int) false ll_mN ll_mR ll_mK ll_cnt L xs false 106 (.inr (.inr 1)) := ⟨(fun h => by cases h), (fun _ => ⟨(by decide +kernel), rfl⟩), fun h => by cases h⟩
theorem k_202_107 (L : Nat) (xs : Nat → Int32) : ll_OK1 cX11_count RX11 (some .int) false ll_mN ll_mR ll_mK ll_cnt L xs false 107 (.inl (lo_iload 108 1)) := lk_iload_n (k := 1) (by decide +kernel) rfl
theorem k_202_108 (L : Nat) (xs : Nat → Int32) : ll_OK1 cX11_count RX11 (some .int) false ll_mN ll_mR ll_mK ll_cnt L xs false 108 (.inl (lo_push 109 (.int 4))) := lk_iconst (n := 4) (by decide +kernel) (by decide)
theorem k_202_109 (L : Nat) (xs : Nat → Int32) : ll_OK1 cX11_count RX11 (some .int) false ll_mN ll_mR ll_mK ll_cnt L xs false 109 (.inl (lo_cmp 121 112 (fun x y => decide (¬ x = y)))) := lk_icmp_ne (off := 12) (by decide +kernel) rfl
theorem k_202_112 (L : Nat) (xs : Nat → Int32) : ll_OK1 cX11_count RX11 (some .int) false ll_mN ll_mR ll_mK ll_cnt L xs false 112 (.inl (lo_aload 113 0)) := lk_aload_n (k := 0) (by decide +kernel) rfl
theorem k_202_113 (L : Nat) (xs : Nat → Int32) : ll_OK1 cX11_count RX11 (some .int) false ll_mN ll_mR ll_mK ll_cnt L xs false 113 (.inl (lo_getf 116 11 0)) := lk_getf (ix := 8) (ci := 11) (k := 0) (C := RX11) (T := TX11) (N := 46) (by decide +kernel) rfl in_11 (by decide) tb_606
theorem k_202_116 (L : Nat) (xs : Nat → Int32) : ll_OK1 cX11_count RX11 (some .int) false ll_mN ll_mR ll_mK ll_cnt L xs false 116 (.inl (lo_push 119 (.int 10387))) := lk_sipush (n := 10387) (by decide +kernel) (by decide)
theorem k_202_119 (L : Nat) (xs : Nat → Int32) : ll_OK1 cX11_count RX11 (some .int) false ll_mN ll_mR ll_mK ll_cnt L xs false 119 (.inl (lo_ald 120 0)) := lk_iald (by decide +kernel)
theorem k_202_120 (L : Nat) (xs : Nat → Int32) : ll_OK1 cX11_count RX11 (some .int) false ll_mN ll_mR ll_mK ll_cnt L xs false 120 (.inr (.inr 1)) := ⟨(fun h => by cases h), (fun _ => ⟨(by decide +kernel), rfl⟩), fun h => by cases h⟩
theorem k_202_121 (L : Nat) (xs : Nat → Int32) : ll_OK1 cX11_count RX11 (some .int) false ll_mN ll_mR ll_mK ll_cnt L xs false 121 (.inl (lo_iload 122 1)) := lk_iload_n (k := 1) (by decide +kernel) rfl
theorem k_202_122 (L : Nat) (xs : Nat → Int32) : ll_OK1 cX11_count RX11 (some .int) false ll_mN ll_mR ll_mK ll_cnt L xs false 122 (.inl (lo_push 124 (.int 6))) := lk_bipush (n := 6) (by decide +kernel) (by decide)
theorem k_202_124 (L : Nat) (xs : Nat → Int32) : ll_OK1 cX11_count RX11 (some .int) false ll_mN ll_mR ll_mK ll_cnt L xs false 124 (.inl (lo_cmp 134 127 (fun x y => decide (¬ x = y)))) := lk_icmp_ne (off := 10) (by decide +kernel) rfl
theorem k_202_127 (L : Nat) (xs : Nat → Int32) : ll_OK1 cX11_count RX11 (some .int) false ll_mN ll_mR ll_mK ll_cnt L xs false 127 (.inl (lo_aload 128 0)) := lk_aload_n (k := 0) (by decide +kernel) rfl
theorem k_202_128 (L : Nat) (xs : Nat → Int32) : ll_OK1 cX11_count RX11 (some .int) false ll_mN ll_mR ll_mK ll_cnt L xs false 128 (.inl (lo_getf 131 11 3)) := lk_getf (ix := 279) (ci := 11) (k := 3) (C := RX11) (T := TX11) (N := 46) (by decide +kernel) rfl in_11 (by decide) tb_772
theorem k_202_131 (L : Nat) (xs : Nat → Int32) : ll_OK1 cX11_count RX11 (some .int) false ll_mN ll_mR ll_mK ll_cnt L xs false 131 (.inl (lo_goto 148)) := lk_goto (off := 17) (by decide +kernel) rfl
theorem k_202_134 (L : Nat) (xs : Nat → Int32) : ll_OK1 cX11_count RX11 (some .int) false ll_mN ll_mR ll_mK ll_cnt L xs false 134 (.inl (lo_iload 135 1)) := lk_iload_n (k := 1) (by decide +kernel) rfl
theorem k_202_135 (L : Nat) (xs : Nat → Int32) : ll_OK1 cX11_count RX11 (some .int) false ll_mN ll_mR ll_mK ll_cnt L xs false 135 (.inl (lo_push 136 (.int 1))) := lk_iconst (n := 1) (by decide +kernel) (by decide)
theorem k_202_136 (L : Nat) (xs : Nat → Int32) : ll_OK1 cX11_count RX11 (some .int) false ll_mN ll_mR ll_mK ll_cnt L xs false 136 (.inl (lo_push 137 (.int 5))) := lk_iconst (n := 5) (by decide +kernel) (by decide)
theorem k_202_137 (L : Nat) (xs : Nat → Int32) : ll_OK1 cX11_count RX11 (some .int) false ll_mN ll_mR ll_mK ll_cnt L xs false 137 (.inr (.inl (151, 3, 140))) := ⟨rfl, by decide, by rw [mN_151, mK_151, mR_151]; exact lj_s 163 (by decide +kernel) tb_673 tb_674 (by decide +kernel)⟩
theorem k_202_140 (L : Nat) (xs : Nat → Int32) : ll_OK1 cX11_count RX11 (some .int) false ll_mN ll_mR ll_mK ll_cnt L xs false 140 (.inl (lo_if 147 143 (fun x => decide (x = 0)))) := lk_if_eq (off := 7) (by decide +kernel) rfl
theorem k_202_143 (L : Nat) (xs : Nat → Int32) : ll_OK1 cX11_count RX11 (some .int) false ll_mN ll_mR ll_mK ll_cnt L xs false 143 (.inl (lo_iload 144 2)) := lk_iload_n (k := 2) (by decide +kernel) rfl
theorem k_202_144 (L : Nat) (xs : Nat → Int32) : ll_OK1 cX11_count RX11 (some .int) false ll_mN ll_mR ll_mK ll_cnt L xs false 144 (.inl (lo_goto 148)) := lk_goto (off := 4) (by decide +kernel) rfl
theorem k_202_147 (L : Nat) (xs : Nat → Int32) : ll_OK1 cX11_count RX11 (some .int) false ll_mN ll_mR ll_mK ll_cnt L xs false 147 (.inl (lo_push 148 (.int (-1)))) := lk_iconst (n := (-1)) (by decide +kernel) (by decide)
theorem k_202_148 (L : Nat) (xs : Nat → Int32) : ll_OK1 cX11_count RX11 (some .int) false ll_mN ll_mR ll_mK ll_cnt L xs false 148 (.inr (.inr 1)) := ⟨(fun h => by cases h), (fun _ => ⟨(by decide +kernel), rfl⟩), fun h => by cases h⟩
theorem ok_202 (L : Nat) (xs : Nat → Int32) : ∀ q ∈ cd_202, ll_OK1 cX11_count RX11 (some .int) false ll_mN ll_mR ll_mK ll_cnt L xs false q.1 q.2 :=
  List.forall_mem_cons.mpr ⟨k_202_0 L xs, List.forall_mem_cons.mpr ⟨k_202_1 L xs, List.forall_mem_cons.mpr ⟨k_202_2 L xs, List.forall_mem_cons.mpr ⟨k_202_3 L xs, List.forall_mem_cons.mpr ⟨k_202_4 L xs, List.forall_mem_cons.mpr ⟨k_202_5 L xs, List.forall_mem_cons.mpr ⟨k_202_6 L xs, List.forall_mem_cons.mpr ⟨k_202_9 L xs, List.forall_mem_cons.mpr ⟨k_202_12 L xs, List.forall_mem_cons.mpr ⟨k_202_13 L xs, List.forall_mem_cons.mpr ⟨k_202_16 L xs, List.forall_mem_cons.mpr ⟨k_202_17 L xs, List.forall_mem_cons.mpr ⟨k_202_18 L xs, List.forall_mem_cons.mpr ⟨k_202_19 L xs, List.forall_mem_cons.mpr ⟨k_202_22 L xs, List.forall_mem_cons.mpr ⟨k_202_25 L xs, List.forall_mem_cons.mpr ⟨k_202_26 L xs, List.forall_mem_cons.mpr ⟨k_202_27 L xs, List.forall_mem_cons.mpr ⟨k_202_28 L xs, List.forall_mem_cons.mpr ⟨k_202_31 L xs, List.forall_mem_cons.mpr ⟨k_202_32 L xs, List.forall_mem_cons.mpr ⟨k_202_35 L xs, List.forall_mem_cons.mpr ⟨k_202_38 L xs, List.forall_mem_cons.mpr ⟨k_202_39 L xs, List.forall_mem_cons.mpr ⟨k_202_40 L xs, List.forall_mem_cons.mpr ⟨k_202_41 L xs, List.forall_mem_cons.mpr ⟨k_202_44 L xs, List.forall_mem_cons.mpr ⟨k_202_45 L xs, List.forall_mem_cons.mpr ⟨k_202_46 L xs, List.forall_mem_cons.mpr ⟨k_202_49 L xs, List.forall_mem_cons.mpr ⟨k_202_50 L xs, List.forall_mem_cons.mpr ⟨k_202_51 L xs, List.forall_mem_cons.mpr ⟨k_202_54 L xs, List.forall_mem_cons.mpr ⟨k_202_57 L xs, List.forall_mem_cons.mpr ⟨k_202_58 L xs, List.forall_mem_cons.mpr ⟨k_202_61 L xs, List.forall_mem_cons.mpr ⟨k_202_62 L xs, List.forall_mem_cons.mpr ⟨k_202_65 L xs, List.forall_mem_cons.mpr ⟨k_202_66 L xs, List.forall_mem_cons.mpr ⟨k_202_69 L xs, List.forall_mem_cons.mpr ⟨k_202_72 L xs, List.forall_mem_cons.mpr ⟨k_202_73 L xs, List.forall_mem_cons.mpr ⟨k_202_74 L xs, List.forall_mem_cons.mpr ⟨k_202_75 L xs, List.forall_mem_cons.mpr ⟨k_202_76 L xs, List.forall_mem_cons.mpr ⟨k_202_77 L xs, List.forall_mem_cons.mpr ⟨k_202_78 L xs, List.forall_mem_cons.mpr ⟨k_202_81 L xs, List.forall_mem_cons.mpr ⟨k_202_82 L xs, List.forall_mem_cons.mpr ⟨k_202_85 L xs, List.forall_mem_cons.mpr ⟨k_202_86 L xs, List.forall_mem_cons.mpr ⟨k_202_87 L xs, List.forall_mem_cons.mpr ⟨k_202_88 L xs, List.forall_mem_cons.mpr ⟨k_202_91 L xs, List.forall_mem_cons.mpr ⟨k_202_94 L xs, List.forall_mem_cons.mpr ⟨k_202_95 L xs, List.forall_mem_cons.mpr ⟨k_202_98 L xs, List.forall_mem_cons.mpr ⟨k_202_99 L xs, List.forall_mem_cons.mpr ⟨k_202_102 L xs, List.forall_mem_cons.mpr ⟨k_202_105 L xs, List.forall_mem_cons.mpr ⟨k_202_106 L xs, List.forall_mem_cons.mpr ⟨k_202_107 L xs, List.forall_mem_cons.mpr ⟨k_202_108 L xs, List.forall_mem_cons.mpr ⟨k_202_109 L xs, List.forall_mem_cons.mpr ⟨k_202_112 L xs, List.forall_mem_cons.mpr ⟨k_202_113 L xs, List.forall_mem_cons.mpr ⟨k_202_116 L xs, List.forall_mem_cons.mpr ⟨k_202_119 L xs, List.forall_mem_cons.mpr ⟨k_202_120 L xs, List.forall_mem_cons.mpr ⟨k_202_121 L xs, List.forall_mem_cons.mpr ⟨k_202_122 L xs, List.forall_mem_cons.mpr ⟨k_202_124 L xs, List.forall_mem_cons.mpr ⟨k_202_127 L xs, List.forall_mem_cons.mpr ⟨k_202_128 L xs, List.forall_mem_cons.mpr ⟨k_202_131 L xs, List.forall_mem_cons.mpr ⟨k_202_134 L xs, List.forall_mem_cons.mpr ⟨k_202_135 L xs, List.forall_mem_cons.mpr ⟨k_202_136 L xs, List.forall_mem_cons.mpr ⟨k_202_137 L xs, List.forall_mem_cons.mpr ⟨k_202_140 L xs, List.forall_mem_cons.mpr ⟨k_202_143 L xs, List.forall_mem_cons.mpr ⟨k_202_144 L xs, List.forall_mem_cons.mpr ⟨k_202_147 L xs, List.forall_mem_cons.mpr ⟨k_202_148 L xs, fun _ h => absurd h List.not_mem_nil⟩⟩⟩⟩⟩⟩⟩⟩⟩⟩⟩⟩⟩⟩⟩⟩⟩⟩⟩⟩⟩⟩⟩⟩⟩⟩⟩⟩⟩⟩⟩⟩⟩⟩⟩⟩⟩⟩⟩⟩⟩⟩⟩⟩⟩⟩⟩⟩⟩⟩⟩⟩⟩⟩⟩⟩⟩⟩⟩⟩⟩⟩⟩⟩⟩⟩⟩⟩⟩⟩⟩⟩⟩⟩⟩⟩⟩⟩⟩⟩⟩⟩⟩⟩
/-- InclusionProverModel.hasPremise.(III)Z -/
def cd_203 : List (Nat × ll_O) := [
  (0, .inl (lo_push 1 (.int 0))),
  (1, .inl (lo_istore 3 4)),
  (3, .inl (lo_iload 5 4)),
  (5, .inl (lo_aload 6 0)),
  (6, .inl (lo_getf 9 11 0)),
  (9, .inl (lo_push 12 (.int 1087))),
  (12, .inl (lo_iload 13 1)),
  (13, .inl (lo_bin 14 (fun x y => x + y))),
  (14, .inl (lo_ald 15 0)),
  (15, .inl (lo_cmp 77 18 (fun x y => decide (y ≤ x)))),
  (18, .inl (lo_aload 19 0)),
  (19, .inl (lo_getf 22 11 0)),
  (22, .inl (lo_push 25 (.int 1387))),
  (25, .inl (lo_push 27 (.int 30))),
  (27, .inl (lo_iload 28 1)),
  (28, .inl (lo_bin 29 (fun x y => x * y))),
  (29, .inl (lo_bin 30 (fun x y => x + y))),
  (30, .inl (lo_iload 32 4)),
  (32, .inl (lo_bin 33 (fun x y => x + y))),
  (33, .inl (lo_ald 34 0)),
  (34, .inl (lo_istore 36 5)),
  (36, .inl (lo_aload 37 0)),
  (37, .inl (lo_getf 40 11 0)),
  (40, .inl (lo_push 43 (.int 187))),
  (43, .inl (lo_iload 45 5)),
  (45, .inl (lo_bin 46 (fun x y => x + y))),
  (46, .inl (lo_ald 47 0)),
  (47, .inl (lo_iload 48 2)),
  (48, .inl (lo_cmp 71 51 (fun x y => decide (¬ x = y)))),
  (51, .inl (lo_aload 52 0)),
  (52, .inl (lo_getf 55 11 0)),
  (55, .inl (lo_push 58 (.int 487))),
  (58, .inl (lo_iload 60 5)),
  (60, .inl (lo_bin 61 (fun x y => x + y))),
  (61, .inl (lo_ald 62 0)),
  (62, .inl (lo_iload 63 3)),
  (63, .inl (lo_push 64 (.int (-1)))),
  (64, .inl (lo_bin 65 (fun x y => x ^^^ y))),
  (65, .inl (lo_bin 66 (fun x y => x &&& y))),
  (66, .inl (lo_if 71 69 (fun x => decide (¬ x = 0)))),
  (69, .inl (lo_push 70 (.int 1))),
  (70, .inr (.inr 2)),
  (71, .inl (lo_iinc 74 4 1)),
  (74, .inl (lo_goto 3)),
  (77, .inl (lo_push 78 (.int 0))),
  (78, .inr (.inr 2))]
theorem k_203_0 (L : Nat) (xs : Nat → Int32) : ll_OK1 cX11_hasPremise RX11 (some .boolean) false ll_mN ll_mR ll_mK ll_cnt L xs false 0 (.inl (lo_push 1 (.int 0))) := lk_iconst (n := 0) (by decide +kernel) (by decide)
theorem k_203_1 (L : Nat) (xs : Nat → Int32) : ll_OK1 cX11_hasPremise RX11 (some .boolean) false ll_mN ll_mR ll_mK ll_cnt L xs false 1 (.inl (lo_istore 3 4)) := lk_istore (by decide +kernel)
theorem k_203_3 (L : Nat) (xs : Nat → Int32) : ll_OK1 cX11_hasPremise RX11 (some .boolean) false ll_mN ll_mR ll_mK ll_cnt L xs false 3 (.inl (lo_iload 5 4)) := lk_iload (by decide +kernel)
theorem k_203_5 (L : Nat) (xs : Nat → Int32) : ll_OK1 cX11_hasPremise RX11 (some .boolean) false ll_mN ll_mR ll_mK ll_cnt L xs false 5 (.inl (lo_aload 6 0)) := lk_aload_n (k := 0) (by decide +kernel) rfl
theorem k_203_6 (L : Nat) (xs : Nat → Int32) : ll_OK1 cX11_hasPremise RX11 (some .boolean) false ll_mN ll_mR ll_mK ll_cnt L xs false 6 (.inl (lo_getf 9 11 0)) := lk_getf (ix := 8) (ci := 11) (k := 0) (C := RX11) (T := TX11) (N := 46) (by decide +kernel) rfl in_11 (by decide) tb_606
theorem k_203_9 (L : Nat) (xs : Nat → Int32) : ll_OK1 cX11_hasPremise RX11 (some .boolean) false ll_mN ll_mR ll_mK ll_cnt L xs false 9 (.inl (lo_push 12 (.int 1087))) := lk_sipush (n := 1087) (by decide +kernel) (by decide)
theorem k_203_12 (L : Nat) (xs : Nat → Int32) : ll_OK1 cX11_hasPremise RX11 (some .boolean) false ll_mN ll_mR ll_mK ll_cnt L xs false 12 (.inl (lo_iload 13 1)) := lk_iload_n (k := 1) (by decide +kernel) rfl
theorem k_203_13 (L : Nat) (xs : Nat → Int32) : ll_OK1 cX11_hasPremise RX11 (some .boolean) false ll_mN ll_mR ll_mK ll_cnt L xs false 13 (.inl (lo_bin 14 (fun x y => x + y))) := lk_iadd (by decide +kernel)
theorem k_203_14 (L : Nat) (xs : Nat → Int32) : ll_OK1 cX11_hasPremise RX11 (some .boolean) false ll_mN ll_mR ll_mK ll_cnt L xs false 14 (.inl (lo_ald 15 0)) := lk_iald (by decide +kernel)
theorem k_203_15 (L : Nat) (xs : Nat → Int32) : ll_OK1 cX11_hasPremise RX11 (some .boolean) false ll_mN ll_mR ll_mK ll_cnt L xs false 15 (.inl (lo_cmp 77 18 (fun x y => decide (y ≤ x)))) := lk_icmp_ge (off := 62) (by decide +kernel) rfl
theorem k_203_18 (L : Nat) (xs : Nat → Int32) : ll_OK1 cX11_hasPremise RX11 (some .boolean) false ll_mN ll_mR ll_mK ll_cnt L xs false 18 (.inl (lo_aload 19 0)) := lk_aload_n (k := 0) (by decide +kernel) rfl
theorem k_203_19 (L : Nat) (xs : Nat → Int32) : ll_OK1 cX11_hasPremise RX11 (some .boolean) false ll_mN ll_mR ll_mK ll_cnt L xs false 19 (.inl (lo_getf 22 11 0)) := lk_getf (ix := 8) (ci := 11) (k := 0) (C := RX11) (T := TX11) (N := 46) (by decide +kernel) rfl in_11 (by decide) tb_606
theorem k_203_22 (L : Nat) (xs : Nat → Int32) : ll_OK1 cX11_hasPremise RX11 (some .boolean) false ll_mN ll_mR ll_mK ll_cnt L xs false 22 (.inl (lo_push 25 (.int 1387))) := lk_sipush (n := 1387) (by decide +kernel) (by decide)
theorem k_203_25 (L : Nat) (xs : Nat → Int32) : ll_OK1 cX11_hasPremise RX11 (some .boolean) false ll_mN ll_mR ll_mK ll_cnt L xs false 25 (.inl (lo_push 27 (.int 30))) := lk_bipush (n := 30) (by decide +kernel) (by decide)
theorem k_203_27 (L : Nat) (xs : Nat → Int32) : ll_OK1 cX11_hasPremise RX11 (some .boolean) false ll_mN ll_mR ll_mK ll_cnt L xs false 27 (.inl (lo_iload 28 1)) := lk_iload_n (k := 1) (by decide +kernel) rfl
theorem k_203_28 (L : Nat) (xs : Nat → Int32) : ll_OK1 cX11_hasPremise RX11 (some .boolean) false ll_mN ll_mR ll_mK ll_cnt L xs false 28 (.inl (lo_bin 29 (fun x y => x * y))) := lk_imul (by decide +kernel)
theorem k_203_29 (L : Nat) (xs : Nat → Int32) : ll_OK1 cX11_hasPremise RX11 (some .boolean) false ll_mN ll_mR ll_mK ll_cnt L xs false 29 (.inl (lo_bin 30 (fun x y => x + y))) := lk_iadd (by decide +kernel)
theorem k_203_30 (L : Nat) (xs : Nat → Int32) : ll_OK1 cX11_hasPremise RX11 (some .boolean) false ll_mN ll_mR ll_mK ll_cnt L xs false 30 (.inl (lo_iload 32 4)) := lk_iload (by decide +kernel)
theorem k_203_32 (L : Nat) (xs : Nat → Int32) : ll_OK1 cX11_hasPremise RX11 (some .boolean) false ll_mN ll_mR ll_mK ll_cnt L xs false 32 (.inl (lo_bin 33 (fun x y => x + y))) := lk_iadd (by decide +kernel)
theorem k_203_33 (L : Nat) (xs : Nat → Int32) : ll_OK1 cX11_hasPremise RX11 (some .boolean) false ll_mN ll_mR ll_mK ll_cnt L xs false 33 (.inl (lo_ald 34 0)) := lk_iald (by decide +kernel)
theorem k_203_34 (L : Nat) (xs : Nat → Int32) : ll_OK1 cX11_hasPremise RX11 (some .boolean) false ll_mN ll_mR ll_mK ll_cnt L xs false 34 (.inl (lo_istore 36 5)) := lk_istore (by decide +kernel)
theorem k_203_36 (L : Nat) (xs : Nat → Int32) : ll_OK1 cX11_hasPremise RX11 (some .boolean) false ll_mN ll_mR ll_mK ll_cnt L xs false 36 (.inl (lo_aload 37 0)) := lk_aload_n (k := 0) (by decide +kernel) rfl
theorem k_203_37 (L : Nat) (xs : Nat → Int32) : ll_OK1 cX11_hasPremise RX11 (some .boolean) false ll_mN ll_mR ll_mK ll_cnt L xs false 37 (.inl (lo_getf 40 11 0)) := lk_getf (ix := 8) (ci := 11) (k := 0) (C := RX11) (T := TX11) (N := 46) (by decide +kernel) rfl in_11 (by decide) tb_606
theorem k_203_40 (L : Nat) (xs : Nat → Int32) : ll_OK1 cX11_hasPremise RX11 (some .boolean) false ll_mN ll_mR ll_mK ll_cnt L xs false 40 (.inl (lo_push 43 (.int 187))) := lk_sipush (n := 187) (by decide +kernel) (by decide)
theorem k_203_43 (L : Nat) (xs : Nat → Int32) : ll_OK1 cX11_hasPremise RX11 (some .boolean) false ll_mN ll_mR ll_mK ll_cnt L xs false 43 (.inl (lo_iload 45 5)) := lk_iload (by decide +kernel)
theorem k_203_45 (L : Nat) (xs : Nat → Int32) : ll_OK1 cX11_hasPremise RX11 (some .boolean) false ll_mN ll_mR ll_mK ll_cnt L xs false 45 (.inl (lo_bin 46 (fun x y => x + y))) := lk_iadd (by decide +kernel)
theorem k_203_46 (L : Nat) (xs : Nat → Int32) : ll_OK1 cX11_hasPremise RX11 (some .boolean) false ll_mN ll_mR ll_mK ll_cnt L xs false 46 (.inl (lo_ald 47 0)) := lk_iald (by decide +kernel)
theorem k_203_47 (L : Nat) (xs : Nat → Int32) : ll_OK1 cX11_hasPremise RX11 (some .boolean) false ll_mN ll_mR ll_mK ll_cnt L xs false 47 (.inl (lo_iload 48 2)) := lk_iload_n (k := 2) (by decide +kernel) rfl
theorem k_203_48 (L : Nat) (xs : Nat → Int32) : ll_OK1 cX11_hasPremise RX11 (some .boolean) false ll_mN ll_mR ll_mK ll_cnt L xs false 48 (.inl (lo_cmp 71 51 (fun x y => decide (¬ x = y)))) := lk_icmp_ne (off := 23) (by decide +kernel) rfl
theorem k_203_51 (L : Nat) (xs : Nat → Int32) : ll_OK1 cX11_hasPremise RX11 (some .boolean) false ll_mN ll_mR ll_mK ll_cnt L xs false 51 (.inl (lo_aload 52 0)) := lk_aload_n (k := 0) (by decide +kernel) rfl
theorem k_203_52 (L : Nat) (xs : Nat → Int32) : ll_OK1 cX11_hasPremise RX11 (some .boolean) false ll_mN ll_mR ll_mK ll_cnt L xs false 52 (.inl (lo_getf 55 11 0)) := lk_getf (ix := 8) (ci := 11) (k := 0) (C := RX11) (T := TX11) (N := 46) (by decide +kernel) rfl in_11 (by decide) tb_606
theorem k_203_55 (L : Nat) (xs : Nat → Int32) : ll_OK1 cX11_hasPremise RX11 (some .boolean) false ll_mN ll_mR ll_mK ll_cnt L xs false 55 (.inl (lo_push 58 (.int 487))) := lk_sipush (n := 487) (by decide +kernel) (by decide)
theorem k_203_58 (L : Nat) (xs : Nat → Int32) : ll_OK1 cX11_hasPremise RX11 (some .boolean) false ll_mN ll_mR ll_mK ll_cnt L xs false 58 (.inl (lo_iload 60 5)) := lk_iload (by decide +kernel)
theorem k_203_60 (L : Nat) (xs : Nat → Int32) : ll_OK1 cX11_hasPremise RX11 (some .boolean) false ll_mN ll_mR ll_mK ll_cnt L xs false 60 (.inl (lo_bin 61 (fun x y => x + y))) := lk_iadd (by decide +kernel)
theorem k_203_61 (L : Nat) (xs : Nat → Int32) : ll_OK1 cX11_hasPremise RX11 (some .boolean) false ll_mN ll_mR ll_mK ll_cnt L xs false 61 (.inl (lo_ald 62 0)) := lk_iald (by decide +kernel)
theorem k_203_62 (L : Nat) (xs : Nat → Int32) : ll_OK1 cX11_hasPremise RX11 (some .boolean) false ll_mN ll_mR ll_mK ll_cnt L xs false 62 (.inl (lo_iload 63 3)) := lk_iload_n (k := 3) (by decide +kernel) rfl
theorem k_203_63 (L : Nat) (xs : Nat → Int32) : ll_OK1 cX11_hasPremise RX11 (some .boolean) false ll_mN ll_mR ll_mK ll_cnt L xs false 63 (.inl (lo_push 64 (.int (-1)))) := lk_iconst (n := (-1)) (by decide +kernel) (by decide)
theorem k_203_64 (L : Nat) (xs : Nat → Int32) : ll_OK1 cX11_hasPremise RX11 (some .boolean) false ll_mN ll_mR ll_mK ll_cnt L xs false 64 (.inl (lo_bin 65 (fun x y => x ^^^ y))) := lk_ixor (by decide +kernel)
theorem k_203_65 (L : Nat) (xs : Nat → Int32) : ll_OK1 cX11_hasPremise RX11 (some .boolean) false ll_mN ll_mR ll_mK ll_cnt L xs false 65 (.inl (lo_bin 66 (fun x y => x &&& y))) := lk_iand (by decide +kernel)
theorem k_203_66 (L : Nat) (xs : Nat → Int32) : ll_OK1 cX11_hasPremise RX11 (some .boolean) false ll_mN ll_mR ll_mK ll_cnt L xs false 66 (.inl (lo_if 71 69 (fun x => decide (¬ x = 0)))) := lk_if_ne (off := 5) (by decide +kernel) rfl
theorem k_203_69 (L : Nat) (xs : Nat → Int32) : ll_OK1 cX11_hasPremise RX11 (some .boolean) false ll_mN ll_mR ll_mK ll_cnt L xs false 69 (.inl (lo_push 70 (.int 1))) := lk_iconst (n := 1) (by decide +kernel) (by decide)
theorem k_203_70 (L : Nat) (xs : Nat → Int32) : ll_OK1 cX11_hasPremise RX11 (some .boolean) false ll_mN ll_mR ll_mK ll_cnt L xs false 70 (.inr (.inr 2)) := ⟨(fun h => by cases h), (fun h => by cases h), fun _ => ⟨(by decide +kernel), rfl⟩⟩
theorem k_203_71 (L : Nat) (xs : Nat → Int32) : ll_OK1 cX11_hasPremise RX11 (some .boolean) false ll_mN ll_mR ll_mK ll_cnt L xs false 71 (.inl (lo_iinc 74 4 1)) := lk_iinc (n := 1) (by decide +kernel) (by decide)
theorem k_203_74 (L : Nat) (xs : Nat → Int32) : ll_OK1 cX11_hasPremise RX11 (some .boolean) false ll_mN ll_mR ll_mK ll_cnt L xs false 74 (.inl (lo_goto 3)) := lk_goto (off := (-71)) (by decide +kernel) rfl
theorem k_203_77 (L : Nat) (xs : Nat → Int32) : ll_OK1 cX11_hasPremise RX11 (some .boolean) false ll_mN ll_mR ll_mK ll_cnt L xs false 77 (.inl (lo_push 78 (.int 0))) := lk_iconst (n := 0) (by decide +kernel) (by decide)
theorem k_203_78 (L : Nat) (xs : Nat → Int32) : ll_OK1 cX11_hasPremise RX11 (some .boolean) false ll_mN ll_mR ll_mK ll_cnt L xs false 78 (.inr (.inr 2)) := ⟨(fun h => by cases h), (fun h => by cases h), fun _ => ⟨(by decide +kernel), rfl⟩⟩
theorem ok_203 (L : Nat) (xs : Nat → Int32) : ∀ q ∈ cd_203, ll_OK1 cX11_hasPremise RX11 (some .boolean) false ll_mN ll_mR ll_mK ll_cnt L xs false q.1 q.2 :=
  List.forall_mem_cons.mpr ⟨k_203_0 L xs, List.forall_mem_cons.mpr ⟨k_203_1 L xs, List.forall_mem_cons.mpr ⟨k_203_3 L xs, List.forall_mem_cons.mpr ⟨k_203_5 L xs, List.forall_mem_cons.mpr ⟨k_203_6 L xs, List.forall_mem_cons.mpr ⟨k_203_9 L xs, List.forall_mem_cons.mpr ⟨k_203_12 L xs, List.forall_mem_cons.mpr ⟨k_203_13 L xs, List.forall_mem_cons.mpr ⟨k_203_14 L xs, List.forall_mem_cons.mpr ⟨k_203_15 L xs, List.forall_mem_cons.mpr ⟨k_203_18 L xs, List.forall_mem_cons.mpr ⟨k_203_19 L xs, List.forall_mem_cons.mpr ⟨k_203_22 L xs, List.forall_mem_cons.mpr ⟨k_203_25 L xs, List.forall_mem_cons.mpr ⟨k_203_27 L xs, List.forall_mem_cons.mpr ⟨k_203_28 L xs, List.forall_mem_cons.mpr ⟨k_203_29 L xs, List.forall_mem_cons.mpr ⟨k_203_30 L xs, List.forall_mem_cons.mpr ⟨k_203_32 L xs, List.forall_mem_cons.mpr ⟨k_203_33 L xs, List.forall_mem_cons.mpr ⟨k_203_34 L xs, List.forall_mem_cons.mpr ⟨k_203_36 L xs, List.forall_mem_cons.mpr ⟨k_203_37 L xs, List.forall_mem_cons.mpr ⟨k_203_40 L xs, List.forall_mem_cons.mpr ⟨k_203_43 L xs, List.forall_mem_cons.mpr ⟨k_203_45 L xs, List.forall_mem_cons.mpr ⟨k_203_46 L xs, List.forall_mem_cons.mpr ⟨k_203_47 L xs, List.forall_mem_cons.mpr ⟨k_203_48 L xs, List.forall_mem_cons.mpr ⟨k_203_51 L xs, List.forall_mem_cons.mpr ⟨k_203_52 L xs, List.forall_mem_cons.mpr ⟨k_203_55 L xs, List.forall_mem_cons.mpr ⟨k_203_58 L xs, List.forall_mem_cons.mpr ⟨k_203_60 L xs, List.forall_mem_cons.mpr ⟨k_203_61 L xs, List.forall_mem_cons.mpr ⟨k_203_62 L xs, List.forall_mem_cons.mpr ⟨k_203_63 L xs, List.forall_mem_cons.mpr ⟨k_203_64 L xs, List.forall_mem_cons.mpr ⟨k_203_65 L xs, List.forall_mem_cons.mpr ⟨k_203_66 L xs, List.forall_mem_cons.mpr ⟨k_203_69 L xs, List.forall_mem_cons.mpr ⟨k_203_70 L xs, List.forall_mem_cons.mpr ⟨k_203_71 L xs, List.forall_mem_cons.mpr ⟨k_203_74 L xs, List.forall_mem_cons.mpr ⟨k_203_77 L xs, List.forall_mem_cons.mpr ⟨k_203_78 L xs, fun _ h => absurd h List.not_mem_nil⟩⟩⟩⟩⟩⟩⟩⟩⟩⟩⟩⟩⟩⟩⟩⟩⟩⟩⟩⟩⟩⟩⟩⟩⟩⟩⟩⟩⟩⟩⟩⟩⟩⟩⟩⟩⟩⟩⟩⟩⟩⟩⟩⟩⟩⟩
/-- InclusionProverModel.reason.(I)I -/
def cd_204 : List (Nat × ll_O) := [
  (0, .inl (lo_aload 1 0)),
  (1, .inl (lo_getf 4 11 0)),
  (4, .inl (lo_push 7 (.int 187))),
  (7, .inl (lo_iload 8 1)),
  (8, .inl (lo_bin 9 (fun x y => x + y))),
  (9, .inl (lo_ald 10 0)),
  (10, .inl (lo_istore 11 2)),
  (11, .inl (lo_aload 12 0)),
  (12, .inl (lo_getf 15 11 0)),
  (15, .inl (lo_push 18 (.int 487))),
  (18, .inl (lo_iload 19 1)),
  (19, .inl (lo_bin 20 (fun x y => x + y))),
  (20, .inl (lo_ald 21 0)),
  (21, .inl (lo_istore 22 3)),
  (22, .inl (lo_aload 23 0)),
  (23, .inl (lo_getf 26 11 0)),
  (26, .inl (lo_push 29 (.int 787))),
  (29, .inl (lo_iload 30 1)),
  (30, .inl (lo_bin 31 (fun x y => x + y))),
  (31, .inl (lo_ald 32 0)),
  (32, .inl (lo_istore 34 4)),
  (34, .inl (lo_aload 35 0)),
  (35, .inl (lo_push 36 (.int (-1)))),
  (36, .inl (lo_putf 39 11 42 0)),
  (39, .inl (lo_aload 40 0)),
  (40, .inl (lo_push 41 (.int (-1)))),
  (41, .inl (lo_putf 44 11 43 0)),
  (44, .inl (lo_iload 45 2)),
  (45, .inl (lo_push 46 (.int 0))),
  (46, .inl (lo_aload 47 0)),
  (47, .inl (lo_getf 50 11 35)),
  (50, .inl (lo_push 51 (.int 0))),
  (51, .inl (lo_ald 52 0)),
  (52, .inl (lo_push 53 (.int 1))),
  (53, .inl (lo_bin 54 (fun x y => x - y))),
  (54, .inr (.inl (151, 3, 57))),
  (57, .inl (lo_if 92 60 (fun x => decide (x = 0)))),
  (60, .inl (lo_iload 61 3)),
  (61, .inl (lo_if 92 64 (fun x => decide (x < 0)))),
  (64, .inl (lo_iload 65 3)),
  (65, .inl (lo_push 66 (.int (-1)))),
  (66, .inl (lo_push 68 (.int 32))),
  (68, .inl (lo_aload 69 0)),
  (69, .inl (lo_getf 72 11 35)),
  (72, .inl (lo_push 73 (.int 1))),
  (73, .inl (lo_ald 74 0)),
  (74, .inl (lo_bin 75 (fun x y => x - y))),
  (75, .inl (lo_bin 76 (fun x y => (x.toUInt32 >>> (y.toUInt32 &&& Int32.toUInt32 31)).toInt32))),
  (76, .inl (lo_push 77 (.int (-1)))),
  (77, .inl (lo_bin 78 (fun x y => x ^^^ y))),
  (78, .inl (lo_bin 79 (fun x y => x &&& y))),
  (79, .inl (lo_if 92 82 (fun x => decide (¬ x = 0)))),
  (82, .inl (lo_iload 84 4)),
  (84, .inl (lo_push 85 (.int 0))),
  (85, .inl (lo_push 86 (.int 1))),
  (86, .inr (.inl (151, 3, 89))),
  (89, .inl (lo_if 94 92 (fun x => decide (¬ x = 0)))),
  (92, .inl (lo_push 93 (.int 1))),
  (93, .inr (.inr 1)),
  (94, .inl (lo_iload 96 4)),
  (96, .inl (lo_if 114 99 (fun x => decide (¬ x = 0)))),
  (99, .inl (lo_aload 100 0)),
  (100, .inl (lo_iload 101 2)),
  (101, .inl (lo_iload 102 3)),
  (102, .inr (.inl (184, 3, 105))),
  (105, .inl (lo_if 112 108 (fun x => decide (x = 0)))),
  (108, .inl (lo_push 109 (.int 0))),
  (109, .inl (lo_goto 113)),
  (112, .inl (lo_push 113 (.int 2))),
  (113, .inr (.inr 1)),
  (114, .inl (lo_aload 115 0)),
  (115, .inl (lo_push 116 (.int 0))),
  (116, .inl (lo_iload 117 2)),
  (117, .inr (.inl (181, 3, 120))),
  (120, .inl (lo_if 134 123 (fun x => decide (x = 0)))),
  (123, .inl (lo_aload 124 0)),
  (124, .inl (lo_push 125 (.int 1))),
  (125, .inl (lo_iload 126 3)),
  (126, .inr (.inl (182, 3, 129))),
  (129, .inl (lo_if 134 132 (fun x => decide (¬ x = 0)))),
  (132, .inl (lo_push 133 (.int 3))),
  (133, .inr (.inr 1)),
  (134, .inl (lo_push 135 (.int 0))),
  (135, .inl (lo_istore 137 5)),
  (137, .inl (lo_iload 139 5)),
  (139, .inl (lo_aload 140 0)),
  (140, .inl (lo_getf 143 11 0)),
  (143, .inl (lo_push 146 (.int 1087))),
  (146, .inl (lo_iload 147 1)),
  (147, .inl (lo_bin 148 (fun x y => x + y))),
  (148, .inl (lo_ald 149 0)),
  (149, .inl (lo_cmp 202 152 (fun x y => decide (y ≤ x)))),
  (152, .inl (lo_aload 153 0)),
  (153, .inl (lo_getf 156 11 0)),
  (156, .inl (lo_push 159 (.int 1387))),
  (159, .inl (lo_push 161 (.int 30))),
  (161, .inl (lo_iload 162 1)),
  (162, .inl (lo_bin 163 (fun x y => x * y))),
  (163, .inl (lo_bin 164 (fun x y => x + y))),
  (164, .inl (lo_iload 166 5)),
  (166, .inl (lo_bin 167 (fun x y => x + y))),
  (167, .inl (lo_ald 168 0)),
  (168, .inl (lo_push 169 (.int 0))),
  (169, .inl (lo_aload 170 0)),
  (170, .inl (lo_getf 173 11 0)),
  (173, .inl (lo_push 176 (.int 186))),
  (176, .inl (lo_ald 177 0)),
  (177, .inl (lo_push 178 (.int 1))),
  (178, .inl (lo_bin 179 (fun x y => x - y))),
  (179, .inr (.inl (151, 3, 182))),
  (182, .inl (lo_if 188 185 (fun x => decide (x = 0)))),
  (185, .inl (lo_goto 196)),
  (188, .inl (lo_aload 189 0)),
  (189, .inl (lo_iload 191 5)),
  (191, .inl (lo_putf 194 11 43 0)),
  (194, .inl (lo_push 195 (.int 4))),
  (195, .inr (.inr 1)),
  (196, .inl (lo_iinc 199 5 1)),
  (199, .inl (lo_goto 137)),
  (202, .inl (lo_push 203 (.int 0))),
  (203, .inl (lo_istore 205 5)),
  (205, .inl (lo_iload 207 5)),
  (207, .inl (lo_push 208 (.int 3))),
  (208, .inl (lo_cmp 302 211 (fun x y => decide (y ≤ x)))),
  (211, .inl (lo_aload 212 0)),
  (212, .inl (lo_push 213 (.int 1))),
  (213, .inl (lo_iload 214 3)),
  (214, .inl (lo_iload 216 5)),
  (216, .inr (.inl (183, 4, 219))),
  (219, .inl (lo_istore 221 6)),
  (221, .inl (lo_push 222 (.int 0))),
  (222, .inl (lo_istore 224 7)),
  (224, .inl (lo_iload 226 7)),
  (226, .inl (lo_aload 227 0)),
  (227, .inl (lo_getf 230 11 38)),
  (230, .inl (lo_push 231 (.int 3))),
  (231, .inl (lo_iload 232 2)),
  (232, .inl (lo_bin 233 (fun x y => x * y))),
  (233, .inl (lo_iload 235 5)),
  (235, .inl (lo_bin 236 (fun x y => x + y))),
  (236, .inl (lo_ald 237 0)),
  (237, .inl (lo_cmp 296 240 (fun x y => decide (y ≤ x)))),
  (240, .inl (lo_aload 241 0)),
  (241, .inl (lo_getf 244 11 37)),
  (244, .inl (lo_push 246 (.int 31))),
  (246, .inl (lo_push 247 (.int 3))),
  (247, .inl (lo_iload 248 2)),
  (248, .inl (lo_bin 249 (fun x y => x * y))),
  (249, .inl (lo_iload 251 5)),
  (251, .inl (lo_bin 252 (fun x y => x + y))),
  (252, .inl (lo_bin 253 (fun x y => x * y))),
  (253, .inl (lo_iload 255 7)),
  (255, .inl (lo_bin 256 (fun x y => x + y))),
  (256, .inl (lo_ald 257 0)),
  (257, .inl (lo_istore 259 8)),
  (259, .inl (lo_aload 260 0)),
  (260, .inl (lo_iload 261 1)),
  (261, .inl (lo_iload 263 8)),
  (263, .inl (lo_iload 265 6)),
  (265, .inr (.inl (203, 4, 268))),
  (268, .inl (lo_if 274 271 (fun x => decide (x = 0)))),
  (271, .inl (lo_goto 290)),
  (274, .inl (lo_aload 275 0)),
  (275, .inl (lo_iload 277 5)),
  (277, .inl (lo_push 278 (.int 1))),
  (278, .inl (lo_bin 279 (fun x y => x + y))),
  (279, .inl (lo_putf 282 11 42 0)),
  (282, .inl (lo_aload 283 0)),
  (283, .inl (lo_iload 285 8)),
  (285, .inl (lo_putf 288 11 43 0)),
  (288, .inl (lo_push 289 (.int 5))),
  (289, .inr (.inr 1)),
  (290, .inl (lo_iinc 293 7 1)),
  (293, .inl (lo_goto 224)),
  (296, .inl (lo_iinc 299 5 1)),
  (299, .inl (lo_goto 205)),
  (302, .inl (lo_push 303 (.int 0))),
  (303, .inr (.inr 1))]
theorem k_204_0 (L : Nat) (xs : Nat → Int32) : ll_OK1 cX11_reason RX11 (some .int) false ll_mN ll_mR ll_mK ll_cnt L xs false 0 (.inl (lo_aload 1 0)) := lk_aload_n (k := 0) (by decide +kernel) rfl
theorem k_204_1 (L : Nat) (xs : Nat → Int32) : ll_OK1 cX11_reason RX11 (some .int) false ll_mN ll_mR ll_mK ll_cnt L xs false 1 (.inl (lo_getf 4 11 0)) := lk_getf (ix := 8) (ci := 11) (k := 0) (C := RX11) (T := TX11) (N := 46) (by decide +kernel) rfl in_11 (by decide) tb_606
theorem k_204_4 (L : Nat) (xs : Nat → Int32) : ll_OK1 cX11_reason RX11 (some .int) false ll_mN ll_mR ll_mK ll_cnt L xs false 4 (.inl (lo_push 7 (.int 187))) := lk_sipush (n := 187) (by decide +kernel) (by decide)
theorem k_204_7 (L : Nat) (xs : Nat → Int32) : ll_OK1 cX11_reason RX11 (some .int) false ll_mN ll_mR ll_mK ll_cnt L xs false 7 (.inl (lo_iload 8 1)) := lk_iload_n (k := 1) (by decide +kernel) rfl
theorem k_204_8 (L : Nat) (xs : Nat → Int32) : ll_OK1 cX11_reason RX11 (some .int) false ll_mN ll_mR ll_mK ll_cnt L xs false 8 (.inl (lo_bin 9 (fun x y => x + y))) := lk_iadd (by decide +kernel)
theorem k_204_9 (L : Nat) (xs : Nat → Int32) : ll_OK1 cX11_reason RX11 (some .int) false ll_mN ll_mR ll_mK ll_cnt L xs false 9 (.inl (lo_ald 10 0)) := lk_iald (by decide +kernel)
theorem k_204_10 (L : Nat) (xs : Nat → Int32) : ll_OK1 cX11_reason RX11 (some .int) false ll_mN ll_mR ll_mK ll_cnt L xs false 10 (.inl (lo_istore 11 2)) := lk_istore_n (k := 2) (by decide +kernel) rfl
theorem k_204_11 (L : Nat) (xs : Nat → Int32) : ll_OK1 cX11_reason RX11 (some .int) false ll_mN ll_mR ll_mK ll_cnt L xs false 11 (.inl (lo_aload 12 0)) := lk_aload_n (k := 0) (by decide +kernel) rfl
theorem k_204_12 (L : Nat) (xs : Nat → Int32) : ll_OK1 cX11_reason RX11 (some .int) false ll_mN ll_mR ll_mK ll_cnt L xs false 12 (.inl (lo_getf 15 11 0)) := lk_getf (ix := 8) (ci := 11) (k := 0) (C := RX11) (T := TX11) (N := 46) (by decide +kernel) rfl in_11 (by decide) tb_606
theorem k_204_15 (L : Nat) (xs : Nat → Int32) : ll_OK1 cX11_reason RX11 (some .int) false ll_mN ll_mR ll_mK ll_cnt L xs false 15 (.inl (lo_push 18 (.int 487))) := lk_sipush (n := 487) (by decide +kernel) (by decide)
theorem k_204_18 (L : Nat) (xs : Nat → Int32) : ll_OK1 cX11_reason RX11 (some .int) false ll_mN ll_mR ll_mK ll_cnt L xs false 18 (.inl (lo_iload 19 1)) := lk_iload_n (k := 1) (by decide +kernel) rfl
theorem k_204_19 (L : Nat) (xs : Nat → Int32) : ll_OK1 cX11_reason RX11 (some .int) false ll_mN ll_mR ll_mK ll_cnt L xs false 19 (.inl (lo_bin 20 (fun x y => x + y))) := lk_iadd (by decide +kernel)
theorem k_204_20 (L : Nat) (xs : Nat → Int32) : ll_OK1 cX11_reason RX11 (some .int) false ll_mN ll_mR ll_mK ll_cnt L xs false 20 (.inl (lo_ald 21 0)) := lk_iald (by decide +kernel)
theorem k_204_21 (L : Nat) (xs : Nat → Int32) : ll_OK1 cX11_reason RX11 (some .int) false ll_mN ll_mR ll_mK ll_cnt L xs false 21 (.inl (lo_istore 22 3)) := lk_istore_n (k := 3) (by decide +kernel) rfl
theorem k_204_22 (L : Nat) (xs : Nat → Int32) : ll_OK1 cX11_reason RX11 (some .int) false ll_mN ll_mR ll_mK ll_cnt L xs false 22 (.inl (lo_aload 23 0)) := lk_aload_n (k := 0) (by decide +kernel) rfl
theorem k_204_23 (L : Nat) (xs : Nat → Int32) : ll_OK1 cX11_reason RX11 (some .int) false ll_mN ll_mR ll_mK ll_cnt L xs false 23 (.inl (lo_getf 26 11 0)) := lk_getf (ix := 8) (ci := 11) (k := 0) (C := RX11) (T := TX11) (N := 46) (by decide +kernel) rfl in_11 (by decide) tb_606
theorem k_204_26 (L : Nat) (xs : Nat → Int32) : ll_OK1 cX11_reason RX11 (some .int) false ll_mN ll_mR ll_mK ll_cnt L xs false 26 (.inl (lo_push 29 (.int 787))) := lk_sipush (n := 787) (by decide +kernel) (by decide)
theorem k_204_29 (L : Nat) (xs : Nat → Int32) : ll_OK1 cX11_reason RX11 (some .int) false ll_mN ll_mR ll_mK ll_cnt L xs false 29 (.inl (lo_iload 30 1)) := lk_iload_n (k := 1) (by decide +kernel) rfl
theorem k_204_30 (L : Nat) (xs : Nat → Int32) : ll_OK1 cX11_reason RX11 (some .int) false ll_mN ll_mR ll_mK ll_cnt L xs false 30 (.inl (lo_bin 31 (fun x y => x + y))) := lk_iadd (by decide +kernel)
theorem k_204_31 (L : Nat) (xs : Nat → Int32) : ll_OK1 cX11_reason RX11 (some .int) false ll_mN ll_mR ll_mK ll_cnt L xs false 31 (.inl (lo_ald 32 0)) := lk_iald (by decide +kernel)
theorem k_204_32 (L : Nat) (xs : Nat → Int32) : ll_OK1 cX11_reason RX11 (some .int) false ll_mN ll_mR ll_mK ll_cnt L xs false 32 (.inl (lo_istore 34 4)) := lk_istore (by decide +kernel)
theorem k_204_34 (L : Nat) (xs : Nat → Int32) : ll_OK1 cX11_reason RX11 (some .int) false ll_mN ll_mR ll_mK ll_cnt L xs false 34 (.inl (lo_aload 35 0)) := lk_aload_n (k := 0) (by decide +kernel) rfl
theorem k_204_35 (L : Nat) (xs : Nat → Int32) : ll_OK1 cX11_reason RX11 (some .int) false ll_mN ll_mR ll_mK ll_cnt L xs false 35 (.inl (lo_push 36 (.int (-1)))) := lk_iconst (n := (-1)) (by decide +kernel) (by decide)
theorem k_204_36 (L : Nat) (xs : Nat → Int32) : ll_OK1 cX11_reason RX11 (some .int) false ll_mN ll_mR ll_mK ll_cnt L xs false 36 (.inl (lo_putf 39 11 42 0)) := lk_putf (ix := 282) (ci := 11) (k := 42) (C := RX11) (T := TX11) (N := 46) (ty0 := tyX11) (by decide +kernel) rfl in_11 tyX11_ok nmX11 (by decide) tb_773 (fun B adr v w h1 h2 => ll_fit_int (B := B) (adr := adr) h1 h2) (Or.inl rfl)
theorem k_204_39 (L : Nat) (xs : Nat → Int32) : ll_OK1 cX11_reason RX11 (some .int) false ll_mN ll_mR ll_mK ll_cnt L xs false 39 (.inl (lo_aload 40 0)) := lk_aload_n (k := 0) (by decide +kernel) rfl
theorem k_204_40 (L : Nat) (xs : Nat → Int32) : ll_OK1 cX11_reason RX11 (some .int) false ll_mN ll_mR ll_mK ll_cnt L xs false 40 (.inl (lo_push 41 (.int (-1)))) := lk_iconst (n := (-1)) (by decide +kernel) (by decide)
theorem k_204_41 (L : Nat) (xs : Nat → Int32) : ll_OK1 cX11_reason RX11 (some .int) false ll_mN ll_mR ll_mK ll_cnt L xs false 41 (.inl (lo_putf 44 11 43 0)) := lk_putf (ix := 285) (ci := 11) (k := 43) (C := RX11) (T := TX11) (N := 46) (ty0 := tyX11) (by decide +kernel) rfl in_11 tyX11_ok nmX11 (by decide) tb_774 (fun B adr v w h1 h2 => ll_fit_int (B := B) (adr := adr) h1 h2) (Or.inl rfl)
theorem k_204_44 (L : Nat) (xs : Nat → Int32) : ll_OK1 cX11_reason RX11 (some .int) false ll_mN ll_mR ll_mK ll_cnt L xs false 44 (.inl (lo_iload 45 2)) := lk_iload_n (k := 2) (by decide +kernel) rfl
theorem k_204_45 (L : Nat) (xs : Nat → Int32) : ll_OK1 cX11_reason RX11 (some .int) false ll_mN ll_mR ll_mK ll_cnt L xs false 45 (.inl (lo_push 46 (.int 0))) := lk_iconst (n := 0) (by decide +kernel) (by decide)
theorem k_204_46 (L : Nat) (xs : Nat → Int32) : ll_OK1 cX11_reason RX11 (some .int) false ll_mN ll_mR ll_mK ll_cnt L xs false 46 (.inl (lo_aload 47 0)) := lk_aload_n (k := 0) (by decide +kernel) rfl
theorem k_204_47 (L : Nat) (xs : Nat → Int32) : ll_OK1 cX11_reason RX11 (some .int) false ll_mN ll_mR ll_mK ll_cnt L xs false 47 (.inl (lo_getf 50 11 35)) := lk_getf (ix := 89) (ci := 11) (k := 35) (C := RX11) (T := TX11) (N := 46) (by decide +kernel) rfl in_11 (by decide) tb_632
theorem k_204_50 (L : Nat) (xs : Nat → Int32) : ll_OK1 cX11_reason RX11 (some .int) false ll_mN ll_mR ll_mK ll_cnt L xs false 50 (.inl (lo_push 51 (.int 0))) := lk_iconst (n := 0) (by decide +kernel) (by decide)
theorem k_204_51 (L : Nat) (xs : Nat → Int32) : ll_OK1 cX11_reason RX11 (some .int) false ll_mN ll_mR ll_mK ll_cnt L xs false 51 (.inl (lo_ald 52 0)) := lk_iald (by decide +kernel)
theorem k_204_52 (L : Nat) (xs : Nat → Int32) : ll_OK1 cX11_reason RX11 (some .int) false ll_mN ll_mR ll_mK ll_cnt L xs false 52 (.inl (lo_push 53 (.int 1))) := lk_iconst (n := 1) (by decide +kernel) (by decide)
theorem k_204_53 (L : Nat) (xs : Nat → Int32) : ll_OK1 cX11_reason RX11 (some .int) false ll_mN ll_mR ll_mK ll_cnt L xs false 53 (.inl (lo_bin 54 (fun x y => x - y))) := lk_isub (by decide +kernel)
theorem k_204_54 (L : Nat) (xs : Nat → Int32) : ll_OK1 cX11_reason RX11 (some .int) false ll_mN ll_mR ll_mK ll_cnt L xs false 54 (.inr (.inl (151, 3, 57))) := ⟨rfl, by decide, by rw [mN_151, mK_151, mR_151]; exact lj_s 163 (by decide +kernel) tb_673 tb_674 (by decide +kernel)⟩
theorem k_204_57 (L : Nat) (xs : Nat → Int32) : ll_OK1 cX11_reason RX11 (some .int) false ll_mN ll_mR ll_mK ll_cnt L xs false 57 (.inl (lo_if 92 60 (fun x => decide (x = 0)))) := lk_if_eq (off := 35) (by decide +kernel) rfl
theorem k_204_60 (L : Nat) (xs : Nat → Int32) : ll_OK1 cX11_reason RX11 (some .int) false ll_mN ll_mR ll_mK ll_cnt L xs false 60 (.inl (lo_iload 61 3)) := lk_iload_n (k := 3) (by decide +kernel) rfl
theorem k_204_61 (L : Nat) (xs : Nat → Int32) : ll_OK1 cX11_reason RX11 (some .int) false ll_mN ll_mR ll_mK ll_cnt L xs false 61 (.inl (lo_if 92 64 (fun x => decide (x < 0)))) := lk_if_lt (off := 31) (by decide +kernel) rfl
theorem k_204_64 (L : Nat) (xs : Nat → Int32) : ll_OK1 cX11_reason RX11 (some .int) false ll_mN ll_mR ll_mK ll_cnt L xs false 64 (.inl (lo_iload 65 3)) := lk_iload_n (k := 3) (by decide +kernel) rfl
theorem k_204_65 (L : Nat) (xs : Nat → Int32) : ll_OK1 cX11_reason RX11 (some .int) false ll_mN ll_mR ll_mK ll_cnt L xs false 65 (.inl (lo_push 66 (.int (-1)))) := lk_iconst (n := (-1)) (by decide +kernel) (by decide)
theorem k_204_66 (L : Nat) (xs : Nat → Int32) : ll_OK1 cX11_reason RX11 (some .int) false ll_mN ll_mR ll_mK ll_cnt L xs false 66 (.inl (lo_push 68 (.int 32))) := lk_bipush (n := 32) (by decide +kernel) (by decide)
theorem k_204_68 (L : Nat) (xs : Nat → Int32) : ll_OK1 cX11_reason RX11 (some .int) false ll_mN ll_mR ll_mK ll_cnt L xs false 68 (.inl (lo_aload 69 0)) := lk_aload_n (k := 0) (by decide +kernel) rfl
theorem k_204_69 (L : Nat) (xs : Nat → Int32) : ll_OK1 cX11_reason RX11 (some .int) false ll_mN ll_mR ll_mK ll_cnt L xs false 69 (.inl (lo_getf 72 11 35)) := lk_getf (ix := 89) (ci := 11) (k := 35) (C := RX11) (T := TX11) (N := 46) (by decide +kernel) rfl in_11 (by decide) tb_632
theorem k_204_72 (L : Nat) (xs : Nat → Int32) : ll_OK1 cX11_reason RX11 (some .int) false ll_mN ll_mR ll_mK ll_cnt L xs false 72 (.inl (lo_push 73 (.int 1))) := lk_iconst (n := 1) (by decide +kernel) (by decide)
theorem k_204_73 (L : Nat) (xs : Nat → Int32) : ll_OK1 cX11_reason RX11 (some .int) false ll_mN ll_mR ll_mK ll_cnt L xs false 73 (.inl (lo_ald 74 0)) := lk_iald (by decide +kernel)
theorem k_204_74 (L : Nat) (xs : Nat → Int32) : ll_OK1 cX11_reason RX11 (some .int) false ll_mN ll_mR ll_mK ll_cnt L xs false 74 (.inl (lo_bin 75 (fun x y => x - y))) := lk_isub (by decide +kernel)
theorem k_204_75 (L : Nat) (xs : Nat → Int32) : ll_OK1 cX11_reason RX11 (some .int) false ll_mN ll_mR ll_mK ll_cnt L xs false 75 (.inl (lo_bin 76 (fun x y => (x.toUInt32 >>> (y.toUInt32 &&& Int32.toUInt32 31)).toInt32))) := lk_iushr (by decide +kernel)
theorem k_204_76 (L : Nat) (xs : Nat → Int32) : ll_OK1 cX11_reason RX11 (some .int) false ll_mN ll_mR ll_mK ll_cnt L xs false 76 (.inl (lo_push 77 (.int (-1)))) := lk_iconst (n := (-1)) (by decide +kernel) (by decide)
theorem k_204_77 (L : Nat) (xs : Nat → Int32) : ll_OK1 cX11_reason RX11 (some .int) false ll_mN ll_mR ll_mK ll_cnt L xs false 77 (.inl (lo_bin 78 (fun x y => x ^^^ y))) := lk_ixor (by decide +kernel)
theorem k_204_78 (L : Nat) (xs : Nat → Int32) : ll_OK1 cX11_reason RX11 (some .int) false ll_mN ll_mR ll_mK ll_cnt L xs false 78 (.inl (lo_bin 79 (fun x y => x &&& y))) := lk_iand (by decide +kernel)
theorem k_204_79 (L : Nat) (xs : Nat → Int32) : ll_OK1 cX11_reason RX11 (some .int) false ll_mN ll_mR ll_mK ll_cnt L xs false 79 (.inl (lo_if 92 82 (fun x => decide (¬ x = 0)))) := lk_if_ne (off := 13) (by decide +kernel) rfl
theorem k_204_82 (L : Nat) (xs : Nat → Int32) : ll_OK1 cX11_reason RX11 (some .int) false ll_mN ll_mR ll_mK ll_cnt L xs false 82 (.inl (lo_iload 84 4)) := lk_iload (by decide +kernel)
theorem k_204_84 (L : Nat) (xs : Nat → Int32) : ll_OK1 cX11_reason RX11 (some .int) false ll_mN ll_mR ll_mK ll_cnt L xs false 84 (.inl (lo_push 85 (.int 0))) := lk_iconst (n := 0) (by decide +kernel) (by decide)
theorem k_204_85 (L : Nat) (xs : Nat → Int32) : ll_OK1 cX11_reason RX11 (some .int) false ll_mN ll_mR ll_mK ll_cnt L xs false 85 (.inl (lo_push 86 (.int 1))) := lk_iconst (n := 1) (by decide +kernel) (by decide)
theorem k_204_86 (L : Nat) (xs : Nat → Int32) : ll_OK1 cX11_reason RX11 (some .int) false ll_mN ll_mR ll_mK ll_cnt L xs false 86 (.inr (.inl (151, 3, 89))) := ⟨rfl, by decide, by rw [mN_151, mK_151, mR_151]; exact lj_s 163 (by decide +kernel) tb_673 tb_674 (by decide +kernel)⟩
theorem k_204_89 (L : Nat) (xs : Nat → Int32) : ll_OK1 cX11_reason RX11 (some .int) false ll_mN ll_mR ll_mK ll_cnt L xs false 89 (.inl (lo_if 94 92 (fun x => decide (¬ x = 0)))) := lk_if_ne (off := 5) (by decide +kernel) rfl
theorem k_204_92 (L : Nat) (xs : Nat → Int32) : ll_OK1 cX11_reason RX11 (some .int) false ll_mN ll_mR ll_mK ll_cnt L xs false 92 (.inl (lo_push 93 (.int 1))) := lk_iconst (n := 1) (by decide +kernel) (by decide)
theorem k_204_93 (L : Nat) (xs : Nat → Int32) : ll_OK1 cX11_reason RX11 (some .int) false ll_mN ll_mR ll_mK ll_cnt L xs false 93 (.inr (.inr 1)) := ⟨(fun h => by cases h), (fun _ => ⟨(by decide +kernel), rfl⟩), fun h => by cases h⟩
theorem k_204_94 (L : Nat) (xs : Nat → Int32) : ll_OK1 cX11_reason RX11 (some .int) false ll_mN ll_mR ll_mK ll_cnt L xs false 94 (.inl (lo_iload 96 4)) := lk_iload (by decide +kernel)
theorem k_204_96 (L : Nat) (xs : Nat → Int32) : ll_OK1 cX11_reason RX11 (some .int) false ll_mN ll_mR ll_mK ll_cnt L xs false 96 (.inl (lo_if 114 99 (fun x => decide (¬ x = 0)))) := lk_if_ne (off := 18) (by decide +kernel) rfl
theorem k_204_99 (L : Nat) (xs : Nat → Int32) : ll_OK1 cX11_reason RX11 (some .int) false ll_mN ll_mR ll_mK ll_cnt L xs false 99 (.inl (lo_aload 100 0)) := lk_aload_n (k := 0) (by decide +kernel) rfl
theorem k_204_100 (L : Nat) (xs : Nat → Int32) : ll_OK1 cX11_reason RX11 (some .int) false ll_mN ll_mR ll_mK ll_cnt L xs false 100 (.inl (lo_iload 101 2)) := lk_iload_n (k := 2) (by decide +kernel) rfl
theorem k_204_101 (L : Nat) (xs : Nat → Int32) : ll_OK1 cX11_reason RX11 (some .int) false ll_mN ll_mR ll_mK ll_cnt L xs false 101 (.inl (lo_iload 102 3)) := lk_iload_n (k := 3) (by decide +kernel) rfl
theorem k_204_102 (L : Nat) (xs : Nat → Int32) : ll_OK1 cX11_reason RX11 (some .int) false ll_mN ll_mR ll_mK ll_cnt L xs false 102 (.inr (.inl (184, 3, 105))) := ⟨rfl, by decide, by rw [mN_184, mK_184, mR_184]; exact lj_v 248 2 11 (RX11, TX11, 46) (by decide +kernel) tb_744 tb_745 tb_746 rfl rfl rfl rfl (by decide +kernel)⟩
theorem k_204_105 (L : Nat) (xs : Nat → Int32) : ll_OK1 cX11_reason RX11 (some .int) false ll_mN ll_mR ll_mK ll_cnt L xs false 105 (.inl (lo_if 112 108 (fun x => decide (x = 0)))) := lk_if_eq (off := 7) (by decide +kernel) rfl
theorem k_204_108 (L : Nat) (xs : Nat → Int32) : ll_OK1 cX11_reason RX11 (some .int) false ll_mN ll_mR ll_mK ll_cnt L xs false 108 (.inl (lo_push 109 (.int 0))) := lk_iconst (n := 0) (by decide +kernel) (by decide)
theorem k_204_109 (L : Nat) (xs : Nat → Int32) : ll_OK1 cX11_reason RX11 (some .int) false ll_mN ll_mR ll_mK ll_cnt L xs false 109 (.inl (lo_goto 113)) := lk_goto (off := 4) (by decide +kernel) rfl
theorem k_204_112 (L : Nat) (xs : Nat → Int32) : ll_OK1 cX11_reason RX11 (some .int) false ll_mN ll_mR ll_mK ll_cnt L xs false 112 (.inl (lo_push 113 (.int 2))) := lk_iconst (n := 2) (by decide +kernel) (by decide)
theorem k_204_113 (L : Nat) (xs : Nat → Int32) : ll_OK1 cX11_reason RX11 (some .int) false ll_mN ll_mR ll_mK ll_cnt L xs false 113 (.inr (.inr 1)) := ⟨(fun h => by cases h), (fun _ => ⟨(by decide +kernel), rfl⟩), fun h => by cases h⟩
theorem k_204_114 (L : Nat) (xs : Nat → Int32) : ll_OK1 cX11_reason RX11 (some .int) false ll_mN ll_mR ll_mK ll_cnt L xs false 114 (.inl (lo_aload 115 0)) := lk_aload_n (k := 0) (by decide +kernel) rfl
theorem k_204_115 (L : Nat) (xs : Nat → Int32) : ll_OK1 cX11_reason RX11 (some .int) false ll_mN ll_mR ll_mK ll_cnt L xs false 115 (.inl (lo_push 116 (.int 0))) := lk_iconst (n := 0) (by decide +kernel) (by decide)
theorem k_204_116 (L : Nat) (xs : Nat → Int32) : ll_OK1 cX11_reason RX11 (some .int) false ll_mN ll_mR ll_mK ll_cnt L xs false 116 (.inl (lo_iload 117 2)) := lk_iload_n (k := 2) (by decide +kernel) rfl
theorem k_204_117 (L : Nat) (xs : Nat → Int32) : ll_OK1 cX11_reason RX11 (some .int) false ll_mN ll_mR ll_mK ll_cnt L xs false 117 (.inr (.inl (181, 3, 120))) := ⟨rfl, by decide, by rw [mN_181, mK_181, mR_181]; exact lj_v 234 2 11 (RX11, TX11, 46) (by decide +kernel) tb_732 tb_733 tb_734 rfl rfl rfl rfl (by decide +kernel)⟩
theorem k_204_120 (L : Nat) (xs : Nat → Int32) : ll_OK1 cX11_reason RX11 (some .int) false ll_mN ll_mR ll_mK ll_cnt L xs false 120 (.inl (lo_if 134 123 (fun x => decide (x = 0)))) := lk_if_eq (off := 14) (by decide +kernel) rfl
theorem k_204_123 (L : Nat) (xs : Nat → Int32) : ll_OK1 cX11_reason RX11 (some .int) false ll_mN ll_mR ll_mK ll_cnt L xs false 123 (.inl (lo_aload 124 0)) := lk_aload_n (k := 0) (by decide +kernel) rfl
theorem k_204_124 (L : Nat) (xs : Nat → Int32) : ll_OK1 cX11_reason RX11 (some .int) false ll_mN ll_mR ll_mK ll_cnt L xs false 124 (.inl (lo_push 125 (.int 1))) := lk_iconst (n := 1) (by decide +kernel) (by decide)
theorem k_204_125 (L : Nat) (xs : Nat → Int32) : ll_OK1 cX11_reason RX11 (some .int) false ll_mN ll_mR ll_mK ll_cnt L xs false 125 (.inl (lo_iload 126 3)) := lk_iload_n (k := 3) (by decide +kernel) rfl
theorem k_204_126 (L : Nat) (xs : Nat → Int32) : ll_OK1 cX11_reason RX11 (some .int) false ll_mN ll_mR ll_mK ll_cnt L xs false 126 (.inr (.inl (182, 3, 129))) := ⟨rfl, by decide, by rw [mN_182, mK_182, mR_182]; exact lj_v 251 2 11 (RX11, TX11, 46) (by decide +kernel) tb_747 tb_748 tb_749 rfl rfl rfl rfl (by decide +kernel)⟩
theorem k_204_129 (L : Nat) (xs : Nat → Int32) : ll_OK1 cX11_reason RX11 (some .int) false ll_mN ll_mR ll_mK ll_cnt L xs false 129 (.inl (lo_if 134 132 (fun x => decide (¬ x = 0)))) := lk_if_ne (off := 5) (by decide +kernel) rfl
theorem k_204_132 (L : Nat) (xs : Nat → Int32) : ll_OK1 cX11_reason RX11 (some .int) false ll_mN ll_mR ll_mK ll_cnt L xs false 132 (.inl (lo_push 133 (.int 3))) := lk_iconst (n := 3) (by decide +kernel) (by decide)
theorem k_204_133 (L : Nat) (xs : Nat → Int32) : ll_OK1 cX11_reason RX11 (some .int) false ll_mN ll_mR ll_mK ll_cnt L xs false 133 (.inr (.inr 1)) := ⟨(fun h => by cases h), (fun _ => ⟨(by decide +kernel), rfl⟩), fun h => by cases h⟩
theorem k_204_134 (L : Nat) (xs : Nat → Int32) : ll_OK1 cX11_reason RX11 (some .int) false ll_mN ll_mR ll_mK ll_cnt L xs false 134 (.inl (lo_push 135 (.int 0))) := lk_iconst (n := 0) (by decide +kernel) (by decide)
theorem k_204_135 (L : Nat) (xs : Nat → Int32) : ll_OK1 cX11_reason RX11 (some .int) false ll_mN ll_mR ll_mK ll_cnt L xs false 135 (.inl (lo_istore 137 5)) := lk_istore (by decide +kernel)
theorem k_204_137 (L : Nat) (xs : Nat → Int32) : ll_OK1 cX11_reason RX11 (some .int) false ll_mN ll_mR ll_mK ll_cnt L xs false 137 (.inl (lo_iload 139 5)) := lk_iload (by decide +kernel)
theorem k_204_139 (L : Nat) (xs : Nat → Int32) : ll_OK1 cX11_reason RX11 (some .int) false ll_mN ll_mR ll_mK ll_cnt L xs false 139 (.inl (lo_aload 140 0)) := lk_aload_n (k := 0) (by decide +kernel) rfl
theorem k_204_140 (L : Nat) (xs : Nat → Int32) : ll_OK1 cX11_reason RX11 (some .int) false ll_mN ll_mR ll_mK ll_cnt L xs false 140 (.inl (lo_getf 143 11 0)) := lk_getf (ix := 8) (ci := 11) (k := 0) (C := RX11) (T := TX11) (N := 46) (by decide +kernel) rfl in_11 (by decide) tb_606
theorem k_204_143 (L : Nat) (xs : Nat → Int32) : ll_OK1 cX11_reason RX11 (some .int) false ll_mN ll_mR ll_mK ll_cnt L xs false 143 (.inl (lo_push 146 (.int 1087))) := lk_sipush (n := 1087) (by decide +kernel) (by decide)
theorem k_204_146 (L : Nat) (xs : Nat → Int32) : ll_OK1 cX11_reason RX11 (some .int) false ll_mN ll_mR ll_mK ll_cnt L xs false 146 (.inl (lo_iload 147 1)) := lk_iload_n (k := 1) (by decide +kernel) rfl
theorem k_204_147 (L : Nat) (xs : Nat → Int32) : ll_OK1 cX11_reason RX11 (some .int) false ll_mN ll_mR ll_mK ll_cnt L xs false 147 (.inl (lo_bin 148 (fun x y => x + y))) := lk_iadd (by decide +kernel)
theorem k_204_148 (L : Nat) (xs : Nat → Int32) : ll_OK1 cX11_reason RX11 (some .int) false ll_mN ll_mR ll_mK ll_cnt L xs false 148 (.inl (lo_ald 149 0)) := lk_iald (by decide +kernel)
theorem k_204_149 (L : Nat) (xs : Nat → Int32) : ll_OK1 cX11_reason RX11 (some .int) false ll_mN ll_mR ll_mK ll_cnt L xs false 149 (.inl (lo_cmp 202 152 (fun x y => decide (y ≤ x)))) := lk_icmp_ge (off := 53) (by decide +kernel) rfl
theorem k_204_152 (L : Nat) (xs : Nat → Int32) : ll_OK1 cX11_reason RX11 (some .int) false ll_mN ll_mR ll_mK ll_cnt L xs false 152 (.inl (lo_aload 153 0)) := lk_aload_n (k := 0) (by decide +kernel) rfl
theorem k_204_153 (L : Nat) (xs : Nat → Int32) : ll_OK1 cX11_reason RX11 (some .int) false ll_mN ll_mR ll_mK ll_cnt L xs false 153 (.inl (lo_getf 156 11 0)) := lk_getf (ix := 8) (ci := 11) (k := 0) (C := RX11) (T := TX11) (N := 46) (by decide +kernel) rfl in_11 (by decide) tb_606
theorem k_204_156 (L : Nat) (xs : Nat → Int32) : ll_OK1 cX11_reason RX11 (some .int) false ll_mN ll_mR ll_mK ll_cnt L xs false 156 (.inl (lo_push 159 (.int 1387))) := lk_sipush (n := 1387) (by decide +kernel) (by decide)
theorem k_204_159 (L : Nat) (xs : Nat → Int32) : ll_OK1 cX11_reason RX11 (some .int) false ll_mN ll_mR ll_mK ll_cnt L xs false 159 (.inl (lo_push 161 (.int 30))) := lk_bipush (n := 30) (by decide +kernel) (by decide)
theorem k_204_161 (L : Nat) (xs : Nat → Int32) : ll_OK1 cX11_reason RX11 (some .int) false ll_mN ll_mR ll_mK ll_cnt L xs false 161 (.inl (lo_iload 162 1)) := lk_iload_n (k := 1) (by decide +kernel) rfl
theorem k_204_162 (L : Nat) (xs : Nat → Int32) : ll_OK1 cX11_reason RX11 (some .int) false ll_mN ll_mR ll_mK ll_cnt L xs false 162 (.inl (lo_bin 163 (fun x y => x * y))) := lk_imul (by decide +kernel)
theorem k_204_163 (L : Nat) (xs : Nat → Int32) : ll_OK1 cX11_reason RX11 (some .int) false ll_mN ll_mR ll_mK ll_cnt L xs false 163 (.inl (lo_bin 164 (fun x y => x + y))) := lk_iadd (by decide +kernel)
theorem k_204_164 (L : Nat) (xs : Nat → Int32) : ll_OK1 cX11_reason RX11 (some .int) false ll_mN ll_mR ll_mK ll_cnt L xs false 164 (.inl (lo_iload 166 5)) := lk_iload (by decide +kernel)
theorem k_204_166 (L : Nat) (xs : Nat → Int32) : ll_OK1 cX11_reason RX11 (some .int) false ll_mN ll_mR ll_mK ll_cnt L xs false 166 (.inl (lo_bin 167 (fun x y => x + y))) := lk_iadd (by decide +kernel)
theorem k_204_167 (L : Nat) (xs : Nat → Int32) : ll_OK1 cX11_reason RX11 (some .int) false ll_mN ll_mR ll_mK ll_cnt L xs false 167 (.inl (lo_ald 168 0)) := lk_iald (by decide +kernel)
theorem k_204_168 (L : Nat) (xs : Nat → Int32) : ll_OK1 cX11_reason RX11 (some .int) false ll_mN ll_mR ll_mK ll_cnt L xs false 168 (.inl (lo_push 169 (.int 0))) := lk_iconst (n := 0) (by decide +kernel) (by decide)
theorem k_204_169 (L : Nat) (xs : Nat → Int32) : ll_OK1 cX11_reason RX11 (some .int) false ll_mN ll_mR ll_mK ll_cnt L xs false 169 (.inl (lo_aload 170 0)) := lk_aload_n (k := 0) (by decide +kernel) rfl
theorem k_204_170 (L : Nat) (xs : Nat → Int32) : ll_OK1 cX11_reason RX11 (some .int) false ll_mN ll_mR ll_mK ll_cnt L xs false 170 (.inl (lo_getf 173 11 0)) := lk_getf (ix := 8) (ci := 11) (k := 0) (C := RX11) (T := TX11) (N := 46) (by decide +kernel) rfl in_11 (by decide) tb_606
theorem k_204_173 (L : Nat) (xs : Nat → Int32) : ll_OK1 cX11_reason RX11 (some .int) false ll_mN ll_mR ll_mK ll_cnt L xs false 173 (.inl (lo_push 176 (.int 186))) := lk_sipush (n := 186) (by decide +kernel) (by decide)
theorem k_204_176 (L : Nat) (xs : Nat → Int32) : ll_OK1 cX11_reason RX11 (some .int) false ll_mN ll_mR ll_mK ll_cnt L xs false 176 (.inl (lo_ald 177 0)) := lk_iald (by decide +kernel)
theorem k_204_177 (L : Nat) (xs : Nat → Int32) : ll_OK1 cX11_reason RX11 (some .int) false ll_mN ll_mR ll_mK ll_cnt L xs false 177 (.inl (lo_push 178 (.int 1))) := lk_iconst (n := 1) (by decide +kernel) (by decide)
theorem k_204_178 (L : Nat) (xs : Nat → Int32) : ll_OK1 cX11_reason RX11 (some .int) false ll_mN ll_mR ll_mK ll_cnt L xs false 178 (.inl (lo_bin 179 (fun x y => x - y))) := lk_isub (by decide +kernel)
theorem k_204_179 (L : Nat) (xs : Nat → Int32) : ll_OK1 cX11_reason RX11 (some .int) false ll_mN ll_mR ll_mK ll_cnt L xs false 179 (.inr (.inl (151, 3, 182))) := ⟨rfl, by decide, by rw [mN_151, mK_151, mR_151]; exact lj_s 163 (by decide +kernel) tb_673 tb_674 (by decide +kernel)⟩
theorem k_204_182 (L : Nat) (xs : Nat → Int32) : ll_OK1 cX11_reason RX11 (some .int) false ll_mN ll_mR ll_mK ll_cnt L xs false 182 (.inl (lo_if 188 185 (fun x => decide (x = 0)))) := lk_if_eq (off := 6) (by decide +kernel) rfl
theorem k_204_185 (L : Nat) (xs : Nat → Int32) : ll_OK1 cX11_reason RX11 (some .int) false ll_mN ll_mR ll_mK ll_cnt L xs false 185 (.inl (lo_goto 196)) := lk_goto (off := 11) (by decide +kernel) rfl
theorem k_204_188 (L : Nat) (xs : Nat → Int32) : ll_OK1 cX11_reason RX11 (some .int) false ll_mN ll_mR ll_mK ll_cnt L xs false 188 (.inl (lo_aload 189 0)) := lk_aload_n (k := 0) (by decide +kernel) rfl
theorem k_204_189 (L : Nat) (xs : Nat → Int32) : ll_OK1 cX11_reason RX11 (some .int) false ll_mN ll_mR ll_mK ll_cnt L xs false 189 (.inl (lo_iload 191 5)) := lk_iload (by decide +kernel)
theorem k_204_191 (L : Nat) (xs : Nat → Int32) : ll_OK1 cX11_reason RX11 (some .int) false ll_mN ll_mR ll_mK ll_cnt L xs false 191 (.inl (lo_putf 194 11 43 0)) := lk_putf (ix := 285) (ci := 11) (k := 43) (C := RX11) (T := TX11) (N := 46) (ty0 := tyX11) (by decide +kernel) rfl in_11 tyX11_ok nmX11 (by decide) tb_774 (fun B adr v w h1 h2 => ll_fit_int (B := B) (adr := adr) h1 h2) (Or.inl rfl)
theorem k_204_194 (L : Nat) (xs : Nat → Int32) : ll_OK1 cX11_reason RX11 (some .int) false ll_mN ll_mR ll_mK ll_cnt L xs false 194 (.inl (lo_push 195 (.int 4))) := lk_iconst (n := 4) (by decide +kernel) (by decide)
theorem k_204_195 (L : Nat) (xs : Nat → Int32) : ll_OK1 cX11_reason RX11 (some .int) false ll_mN ll_mR ll_mK ll_cnt L xs false 195 (.inr (.inr 1)) := ⟨(fun h => by cases h), (fun _ => ⟨(by decide +kernel), rfl⟩), fun h => by cases h⟩
theorem k_204_196 (L : Nat) (xs : Nat → Int32) : ll_OK1 cX11_reason RX11 (some .int) false ll_mN ll_mR ll_mK ll_cnt L xs false 196 (.inl (lo_iinc 199 5 1)) := lk_iinc (n := 1) (by decide +kernel) (by decide)
theorem k_204_199 (L : Nat) (xs : Nat → Int32) : ll_OK1 cX11_reason RX11 (some .int) false ll_mN ll_mR ll_mK ll_cnt L xs false 199 (.inl (lo_goto 137)) := lk_goto (off := (-62)) (by decide +kernel) rfl
theorem k_204_202 (L : Nat) (xs : Nat → Int32) : ll_OK1 cX11_reason RX11 (some .int) false ll_mN ll_mR ll_mK ll_cnt L xs false 202 (.inl (lo_push 203 (.int 0))) := lk_iconst (n := 0) (by decide +kernel) (by decide)
theorem k_204_203 (L : Nat) (xs : Nat → Int32) : ll_OK1 cX11_reason RX11 (some .int) false ll_mN ll_mR ll_mK ll_cnt L xs false 203 (.inl (lo_istore 205 5)) := lk_istore (by decide +kernel)
theorem k_204_205 (L : Nat) (xs : Nat → Int32) : ll_OK1 cX11_reason RX11 (some .int) false ll_mN ll_mR ll_mK ll_cnt L xs false 205 (.inl (lo_iload 207 5)) := lk_iload (by decide +kernel)
theorem k_204_207 (L : Nat) (xs : Nat → Int32) : ll_OK1 cX11_reason RX11 (some .int) false ll_mN ll_mR ll_mK ll_cnt L xs false 207 (.inl (lo_push 208 (.int 3))) := lk_iconst (n := 3) (by decide +kernel) (by decide)
theorem k_204_208 (L : Nat) (xs : Nat → Int32) : ll_OK1 cX11_reason RX11 (some .int) false ll_mN ll_mR ll_mK ll_cnt L xs false 208 (.inl (lo_cmp 302 211 (fun x y => decide (y ≤ x)))) := lk_icmp_ge (off := 94) (by decide +kernel) rfl
theorem k_204_211 (L : Nat) (xs : Nat → Int32) : ll_OK1 cX11_reason RX11 (some .int) false ll_mN ll_mR ll_mK ll_cnt L xs false 211 (.inl (lo_aload 212 0)) := lk_aload_n (k := 0) (by decide +kernel) rfl
theorem k_204_212 (L : Nat) (xs : Nat → Int32) : ll_OK1 cX11_reason RX11 (some .int) false ll_mN ll_mR ll_mK ll_cnt L xs false 212 (.inl (lo_push 213 (.int 1))) := lk_iconst (n := 1) (by decide +kernel) (by decide)
theorem k_204_213 (L : Nat) (xs : Nat → Int32) : ll_OK1 cX11_reason RX11 (some .int) false ll_mN ll_mR ll_mK ll_cnt L xs false 213 (.inl (lo_iload 214 3)) := lk_iload_n (k := 3) (by decide +kernel) rfl
theorem k_204_214 (L : Nat) (xs : Nat → Int32) : ll_OK1 cX11_reason RX11 (some .int) false ll_mN ll_mR ll_mK ll_cnt L xs false 214 (.inl (lo_iload 216 5)) := lk_iload (by decide +kernel)
theorem k_204_216 (L : Nat) (xs : Nat → Int32) : ll_OK1 cX11_reason RX11 (some .int) false ll_mN ll_mR ll_mK ll_cnt L xs false 216 (.inr (.inl (183, 4, 219))) := ⟨rfl, by decide, by rw [mN_183, mK_183, mR_183]; exact lj_v 238 3 11 (RX11, TX11, 46) (by decide +kernel) tb_735 tb_736 tb_737 rfl rfl rfl rfl (by decide +kernel)⟩
theorem k_204_219 (L : Nat) (xs : Nat → Int32) : ll_OK1 cX11_reason RX11 (some .int) false ll_mN ll_mR ll_mK ll_cnt L xs false 219 (.inl (lo_istore 221 6)) := lk_istore (by decide +kernel)
theorem k_204_221 (L : Nat) (xs : Nat → Int32) : ll_OK1 cX11_reason RX11 (some .int) false ll_mN ll_mR ll_mK ll_cnt L xs false 221 (.inl (lo_push 222 (.int 0))) := lk_iconst (n := 0) (by decide +kernel) (by decide)
theorem k_204_222 (L : Nat) (xs : Nat → Int32) : ll_OK1 cX11_reason RX11 (some .int) false ll_mN ll_mR ll_mK ll_cnt L xs false 222 (.inl (lo_istore 224 7)) := lk_istore (by decide +kernel)
theorem k_204_224 (L : Nat) (xs : Nat → Int32) : ll_OK1 cX11_reason RX11 (some .int) false ll_mN ll_mR ll_mK ll_cnt L xs false 224 (.inl (lo_iload 226 7)) := lk_iload (by decide +kernel)
theorem k_204_226 (L : Nat) (xs : Nat → Int32) : ll_OK1 cX11_reason RX11 (some .int) false ll_mN ll_mR ll_mK ll_cnt L xs false 226 (.inl (lo_aload 227 0)) := lk_aload_n (k := 0) (by decide +kernel) rfl
theorem k_204_227 (L : Nat) (xs : Nat → Int32) : ll_OK1 cX11_reason RX11 (some .int) false ll_mN ll_mR ll_mK ll_cnt L xs false 227 (.inl (lo_getf 230 11 38)) := lk_getf (ix := 98) (ci := 11) (k := 38) (C := RX11) (T := TX11) (N := 46) (by decide +kernel) rfl in_11 (by decide) tb_635
theorem k_204_230 (L : Nat) (xs : Nat → Int32) : ll_OK1 cX11_reason RX11 (some .int) false ll_mN ll_mR ll_mK ll_cnt L xs false 230 (.inl (lo_push 231 (.int 3))) := lk_iconst (n := 3) (by decide +kernel) (by decide)
theorem k_204_231 (L : Nat) (xs : Nat → Int32) : ll_OK1 cX11_reason RX11 (some .int) false ll_mN ll_mR ll_mK ll_cnt L xs false 231 (.inl (lo_iload 232 2)) := lk_iload_n (k := 2) (by decide +kernel) rfl
theorem k_204_232 (L : Nat) (xs : Nat → Int32) : ll_OK1 cX11_reason RX11 (some .int) false ll_mN ll_mR ll_mK ll_cnt L xs false 232 (.inl (lo_bin 233 (fun x y => x * y))) := lk_imul (by decide +kernel)
theorem k_204_233 (L : Nat) (xs : Nat → Int32) : ll_OK1 cX11_reason RX11 (some .int) false ll_mN ll_mR ll_mK ll_cnt L xs false 233 (.inl (lo_iload 235 5)) := lk_iload (by decide +kernel)
theorem k_204_235 (L : Nat) (xs : Nat → Int32) : ll_OK1 cX11_reason RX11 (some .int) false ll_mN ll_mR ll_mK ll_cnt L xs false 235 (.inl (lo_bin 236 (fun x y => x + y))) := lk_iadd (by decide +kernel)
theorem k_204_236 (L : Nat) (xs : Nat → Int32) : ll_OK1 cX11_reason RX11 (some .int) false ll_mN ll_mR ll_mK ll_cnt L xs false 236 (.inl (lo_ald 237 0)) := lk_iald (by decide +kernel)
theorem k_204_237 (L : Nat) (xs : Nat → Int32) : ll_OK1 cX11_reason RX11 (some .int) false ll_mN ll_mR ll_mK ll_cnt L xs false 237 (.inl (lo_cmp 296 240 (fun x y => decide (y ≤ x)))) := lk_icmp_ge (off := 59) (by decide +kernel) rfl
theorem k_204_240 (L : Nat) (xs : Nat → Int32) : ll_OK1 cX11_reason RX11 (some .int) false ll_mN ll_mR ll_mK ll_cnt L xs false 240 (.inl (lo_aload 241 0)) := lk_aload_n (k := 0) (by decide +kernel) rfl
theorem k_204_241 (L : Nat) (xs : Nat → Int32) : ll_OK1 cX11_reason RX11 (some .int) false ll_mN ll_mR ll_mK ll_cnt L xs false 241 (.inl (lo_getf 244 11 37)) := lk_getf (ix := 95) (ci := 11) (k := 37) (C := RX11) (T := TX11) (N := 46) (by decide +kernel) rfl in_11 (by decide) tb_634
theorem k_204_244 (L : Nat) (xs : Nat → Int32) : ll_OK1 cX11_reason RX11 (some .int) false ll_mN ll_mR ll_mK ll_cnt L xs false 244 (.inl (lo_push 246 (.int 31))) := lk_bipush (n := 31) (by decide +kernel) (by decide)
theorem k_204_246 (L : Nat) (xs : Nat → Int32) : ll_OK1 cX11_reason RX11 (some .int) false ll_mN ll_mR ll_mK ll_cnt L xs false 246 (.inl (lo_push 247 (.int 3))) := lk_iconst (n := 3) (by decide +kernel) (by decide)
theorem k_204_247 (L : Nat) (xs : Nat → Int32) : ll_OK1 cX11_reason RX11 (some .int) false ll_mN ll_mR ll_mK ll_cnt L xs false 247 (.inl (lo_iload 248 2)) := lk_iload_n (k := 2) (by decide +kernel) rfl
theorem k_204_248 (L : Nat) (xs : Nat → Int32) : ll_OK1 cX11_reason RX11 (some .int) false ll_mN ll_mR ll_mK ll_cnt L xs false 248 (.inl (lo_bin 249 (fun x y => x * y))) := lk_imul (by decide +kernel)
theorem k_204_249 (L : Nat) (xs : Nat → Int32) : ll_OK1 cX11_reason RX11 (some .int) false ll_mN ll_mR ll_mK ll_cnt L xs false 249 (.inl (lo_iload 251 5)) := lk_iload (by decide +kernel)
theorem k_204_251 (L : Nat) (xs : Nat → Int32) : ll_OK1 cX11_reason RX11 (some .int) false ll_mN ll_mR ll_mK ll_cnt L xs false 251 (.inl (lo_bin 252 (fun x y => x + y))) := lk_iadd (by decide +kernel)
theorem k_204_252 (L : Nat) (xs : Nat → Int32) : ll_OK1 cX11_reason RX11 (some .int) false ll_mN ll_mR ll_mK ll_cnt L xs false 252 (.inl (lo_bin 253 (fun x y => x * y))) := lk_imul (by decide +kernel)
theorem k_204_253 (L : Nat) (xs : Nat → Int32) : ll_OK1 cX11_reason RX11 (some .int) false ll_mN ll_mR ll_mK ll_cnt L xs false 253 (.inl (lo_iload 255 7)) := lk_iload (by decide +kernel)
theorem k_204_255 (L : Nat) (xs : Nat → Int32) : ll_OK1 cX11_reason RX11 (some .int) false ll_mN ll_mR ll_mK ll_cnt L xs false 255 (.inl (lo_bin 256 (fun x y => x + y))) := lk_iadd (by decide +kernel)
theorem k_204_256 (L : Nat) (xs : Nat → Int32) : ll_OK1 cX11_reason RX11 (some .int) false ll_mN ll_mR ll_mK ll_cnt L xs false 256 (.inl (lo_ald 257 0)) := lk_iald (by decide +kernel)
theorem k_204_257 (L : Nat) (xs : Nat → Int32) : ll_OK1 cX11_reason RX11 (some .int) false ll_mN ll_mR ll_mK ll_cnt L xs false 257 (.inl (lo_istore 259 8)) := lk_istore (by decide +kernel)
theorem k_204_259 (L : Nat) (xs : Nat → Int32) : ll_OK1 cX11_reason RX11 (some .int) false ll_mN ll_mR ll_mK ll_cnt L xs false 259 (.inl (lo_aload 260 0)) := lk_aload_n (k := 0) (by decide +kernel) rfl
theorem k_204_260 (L : Nat) (xs : Nat → Int32) : ll_OK1 cX11_reason RX11 (some .int) false ll_mN ll_mR ll_mK ll_cnt L xs false 260 (.inl (lo_iload 261 1)) := lk_iload_n (k := 1) (by decide +kernel) rfl
theorem k_204_261 (L : Nat) (xs : Nat → Int32) : ll_OK1 cX11_reason RX11 (some .int) false ll_mN ll_mR ll_mK ll_cnt L xs false 261 (.inl (lo_iload 263 8)) := lk_iload (by decide +kernel)
theorem k_204_263 (L : Nat) (xs : Nat → Int32) : ll_OK1 cX11_reason RX11 (some .int) false ll_mN ll_mR ll_mK ll_cnt L xs false 263 (.inl (lo_iload 265 6)) := lk_iload (by decide +kernel)
theorem k_204_265 (L : Nat) (xs : Nat → Int32) : ll_OK1 cX11_reason RX11 (some .int) false ll_mN ll_mR ll_mK ll_cnt L xs false 265 (.inr (.inl (203, 4, 268))) := ⟨rfl, by decide, by rw [mN_203, mK_203, mR_203]; exact lj_v 288 3 11 (RX11, TX11, 46) (by decide +kernel) tb_775 tb_776 tb_777 rfl rfl rfl rfl (by decide +kernel)⟩
theorem k_204_268 (L : Nat) (xs : Nat → Int32) : ll_OK1 cX11_reason RX11 (some .int) false ll_mN ll_mR ll_mK ll_cnt L xs false 268 (.inl (lo_if 274 271 (fun x => decide (x = 0)))) := lk_if_eq (off := 6) (by decide +kernel) rfl
theorem k_204_271 (L : Nat) (xs : Nat → Int32) : ll_OK1 cX11_reason RX11 (some .int) false ll_mN ll_mR ll_mK ll_cnt L xs false 271 (.inl (lo_goto 290)) := lk_goto (off := 19) (by decide +kernel) rfl
theorem k_204_274 (L : Nat) (xs : Nat → Int32) : ll_OK1 cX11_reason RX11 (some .int) false ll_mN ll_mR ll_mK ll_cnt L xs false 274 (.inl (lo_aload 275 0)) := lk_aload_n (k := 0) (by decide +kernel) rfl
theorem k_204_275 (L : Nat) (xs : Nat → Int32) : ll_OK1 cX11_reason RX11 (some .int) false ll_mN ll_mR ll_mK ll_cnt L xs false 275 (.inl (lo_iload 277 5)) := lk_iload (by decide +kernel)
theorem k_204_277 (L : Nat) (xs : Nat → Int32) : ll_OK1 cX11_reason RX11 (some .int) false ll_mN ll_mR ll_mK ll_cnt L xs false 277 (.inl (lo_push 278 (.int 1))) := lk_iconst (n := 1) (by decide +kernel) (by decide)
theorem k_204_278 (L : Nat) (xs : Nat → Int32) : ll_OK1 cX11_reason RX11 (some .int) false ll_mN ll_mR ll_mK ll_cnt L xs false 278 (.inl (lo_bin 279 (fun x y => x + y))) := lk_iadd (by decide +kernel)
theorem k_204_279 (L : Nat) (xs : Nat → Int32) : ll_OK1 cX11_reason RX11 (some .int) false ll_mN ll_mR ll_mK ll_cnt L xs false 279 (.inl (lo_putf 282 11 42 0)) := lk_putf (ix := 282) (ci := 11) (k := 42) (C := RX11) (T := TX11) (N := 46) (ty0 := tyX11) (by decide +kernel) rfl in_11 tyX11_ok nmX11 (by decide) tb_773 (fun B adr v w h1 h2 => ll_fit_int (B := B) (adr := adr) h1 h2) (Or.inl rfl)
theorem k_204_282 (L : Nat) (xs : Nat → Int32) : ll_OK1 cX11_reason RX11 (some .int) false ll_mN ll_mR ll_mK ll_cnt L xs false 282 (.inl (lo_aload 283 0)) := lk_aload_n (k := 0) (by decide +kernel) rfl
theorem k_204_283 (L : Nat) (xs : Nat → Int32) : ll_OK1 cX11_reason RX11 (some .int) false ll_mN ll_mR ll_mK ll_cnt L xs false 283 (.inl (lo_iload 285 8)) := lk_iload (by decide +kernel)
theorem k_204_285 (L : Nat) (xs : Nat → Int32) : ll_OK1 cX11_reason RX11 (some .int) false ll_mN ll_mR ll_mK ll_cnt L xs false 285 (.inl (lo_putf 288 11 43 0)) := lk_putf (ix := 285) (ci := 11) (k := 43) (C := RX11) (T := TX11) (N := 46) (ty0 := tyX11) (by decide +kernel) rfl in_11 tyX11_ok nmX11 (by decide) tb_774 (fun B adr v w h1 h2 => ll_fit_int (B := B) (adr := adr) h1 h2) (Or.inl rfl)
theorem k_204_288 (L : Nat) (xs : Nat → Int32) : ll_OK1 cX11_reason RX11 (some .int) false ll_mN ll_mR ll_mK ll_cnt L xs false 288 (.inl (lo_push 289 (.int 5))) := lk_iconst (n := 5) (by decide +kernel) (by decide)
theorem k_204_289 (L : Nat) (xs : Nat → Int32) : ll_OK1 cX11_reason RX11 (some .int) false ll_mN ll_mR ll_mK ll_cnt L xs false 289 (.inr (.inr 1)) := ⟨(fun h => by cases h), (fun _ => ⟨(by decide +kernel), rfl⟩), fun h => by cases h⟩
theorem k_204_290 (L : Nat) (xs : Nat → Int32) : ll_OK1 cX11_reason RX11 (some .int) false ll_mN ll_mR ll_mK ll_cnt L xs false 290 (.inl (lo_iinc 293 7 1)) := lk_iinc (n := 1) (by decide +kernel) (by decide)
theorem k_204_293 (L : Nat) (xs : Nat → Int32) : ll_OK1 cX11_reason RX11 (some .int) false ll_mN ll_mR ll_mK ll_cnt L xs false 293 (.inl (lo_goto 224)) := lk_goto (off := (-69)) (by decide +kernel) rfl
theorem k_204_296 (L : Nat) (xs : Nat → Int32) : ll_OK1 cX11_reason RX11 (some .int) false ll_mN ll_mR ll_mK ll_cnt L xs false 296 (.inl (lo_iinc 299 5 1)) := lk_iinc (n := 1) (by decide +kernel) (by decide)
theorem k_204_299 (L : Nat) (xs : Nat → Int32) : ll_OK1 cX11_reason RX11 (some .int) false ll_mN ll_mR ll_mK ll_cnt L xs false 299 (.inl (lo_goto 205)) := lk_goto (off := (-94)) (by decide +kernel) rfl
theorem k_204_302 (L : Nat) (xs : Nat → Int32) : ll_OK1 cX11_reason RX11 (some .int) false ll_mN ll_mR ll_mK ll_cnt L xs false 302 (.inl (lo_push 303 (.int 0))) := lk_iconst (n := 0) (by decide +kernel) (by decide)
theorem k_204_303 (L : Nat) (xs : Nat → Int32) : ll_OK1 cX11_reason RX11 (some .int) false ll_mN ll_mR ll_mK ll_cnt L xs false 303 (.inr (.inr 1)) := ⟨(fun h => by cases h), (fun _ => ⟨(by decide +kernel), rfl⟩), fun h => by cases h⟩
set_option maxRecDepth 100000 in
theorem ok_204 (L : Nat) (xs : Nat → Int32) : ∀ q ∈ cd_204, ll_OK1 cX11_reason RX11 (some .int) false ll_mN ll_mR ll_mK ll_cnt L xs false q.1 q.2 :=
  List.forall_mem_cons.mpr ⟨k_204_0 L xs, List.forall_mem_cons.mpr ⟨k_204_1 L xs, List.forall_mem_cons.mpr ⟨k_204_4 L xs, List.forall_mem_cons.mpr ⟨k_204_7 L xs, List.forall_mem_cons.mpr ⟨k_204_8 L xs, List.forall_mem_cons.mpr ⟨k_204_9 L xs, List.forall_mem_cons.mpr ⟨k_204_10 L xs, List.forall_mem_cons.mpr ⟨k_204_11 L xs, List.forall_mem_cons.mpr ⟨k_204_12 L xs, List.forall_mem_cons.mpr ⟨k_204_15 L xs, List.forall_mem_cons.mpr ⟨k_204_18 L xs, List.forall_mem_cons.mpr ⟨k_204_19 L xs, List.forall_mem_cons.mpr ⟨k_204_20 L xs, List.forall_mem_cons.mpr ⟨k_204_21 L xs, List.forall_mem_cons.mpr ⟨k_204_22 L xs, List.forall_mem_cons.mpr ⟨k_204_23 L xs, List.forall_mem_cons.mpr ⟨k_204_26 L xs, List.forall_mem_cons.mpr ⟨k_204_29 L xs, List.forall_mem_cons.mpr ⟨k_204_30 L xs, List.forall_mem_cons.mpr ⟨k_204_31 L xs, List.forall_mem_cons.mpr ⟨k_204_32 L xs, List.forall_mem_cons.mpr ⟨k_204_34 L xs, List.forall_mem_cons.mpr ⟨k_204_35 L xs, List.forall_mem_cons.mpr ⟨k_204_36 L xs, List.forall_mem_cons.mpr ⟨k_204_39 L xs, List.forall_mem_cons.mpr ⟨k_204_40 L xs, List.forall_mem_cons.mpr ⟨k_204_41 L xs, List.forall_mem_cons.mpr ⟨k_204_44 L xs, List.forall_mem_cons.mpr ⟨k_204_45 L xs, List.forall_mem_cons.mpr ⟨k_204_46 L xs, List.forall_mem_cons.mpr ⟨k_204_47 L xs, List.forall_mem_cons.mpr ⟨k_204_50 L xs, List.forall_mem_cons.mpr ⟨k_204_51 L xs, List.forall_mem_cons.mpr ⟨k_204_52 L xs, List.forall_mem_cons.mpr ⟨k_204_53 L xs, List.forall_mem_cons.mpr ⟨k_204_54 L xs, List.forall_mem_cons.mpr ⟨k_204_57 L xs, List.forall_mem_cons.mpr ⟨k_204_60 L xs, List.forall_mem_cons.mpr ⟨k_204_61 L xs, List.forall_mem_cons.mpr ⟨k_204_64 L xs, List.forall_mem_cons.mpr ⟨k_204_65 L xs, List.forall_mem_cons.mpr ⟨k_204_66 L xs, List.forall_mem_cons.mpr ⟨k_204_68 L xs, List.forall_mem_cons.mpr ⟨k_204_69 L xs, List.forall_mem_cons.mpr ⟨k_204_72 L xs, List.forall_mem_cons.mpr ⟨k_204_73 L xs, List.forall_mem_cons.mpr ⟨k_204_74 L xs, List.forall_mem_cons.mpr ⟨k_204_75 L xs, List.forall_mem_cons.mpr ⟨k_204_76 L xs, List.forall_mem_cons.mpr ⟨k_204_77 L xs, List.forall_mem_cons.mpr ⟨k_204_78 L xs, List.forall_mem_cons.mpr ⟨k_204_79 L xs, List.forall_mem_cons.mpr ⟨k_204_82 L xs, List.forall_mem_cons.mpr ⟨k_204_84 L xs, List.forall_mem_cons.mpr ⟨k_204_85 L xs, List.forall_mem_cons.mpr ⟨k_204_86 L xs, List.forall_mem_cons.mpr ⟨k_204_89 L xs, List.forall_mem_cons.mpr ⟨k_204_92 L xs, List.forall_mem_cons.mpr ⟨k_204_93 L xs, List.forall_mem_cons.mpr ⟨k_204_94 L xs, List.forall_mem_cons.mpr ⟨k_204_96 L xs, List.forall_mem_cons.mpr ⟨k_204_99 L xs, List.forall_mem_cons.mpr ⟨k_204_100 L xs, List.forall_mem_cons.mpr ⟨k_204_101 L xs, List.forall_mem_cons.mpr ⟨k_204_102 L xs, List.forall_mem_cons.mpr ⟨k_204_105 L xs, List.forall_mem_cons.mpr ⟨k_204_108 L xs, List.forall_mem_cons.mpr ⟨k_204_109 L xs, List.forall_mem_cons.mpr ⟨k_204_112 L xs, List.forall_mem_cons.mpr ⟨k_204_113 L xs, List.forall_mem_cons.mpr ⟨k_204_114 L xs, List.forall_mem_cons.mpr ⟨k_204_115 L xs, List.forall_mem_cons.mpr ⟨k_204_116 L xs, List.forall_mem_cons.mpr ⟨k_204_117 L xs, List.forall_mem_cons.mpr ⟨k_204_120 L xs, List.forall_mem_cons.mpr ⟨k_204_123 L xs, List.forall_mem_cons.mpr ⟨k_204_124 L xs, List.forall_mem_cons.mpr ⟨k_204_125 L xs, List.forall_mem_cons.mpr ⟨k_204_126 L xs, List.forall_mem_cons.mpr ⟨k_204_129 L xs, List.forall_mem_cons.mpr ⟨k_204_132 L xs, List.forall_mem_cons.mpr ⟨k_204_133 L xs, List.forall_mem_cons.mpr ⟨k_204_134 L xs, List.forall_mem_cons.mpr ⟨k_204_135 L xs, List.forall_mem_cons.mpr ⟨k_204_137 L xs, List.forall_mem_cons.mpr ⟨k_204_139 L xs, List.forall_mem_cons.mpr ⟨k_204_140 L xs, List.forall_mem_cons.mpr ⟨k_204_143 L xs, List.forall_mem_cons.mpr ⟨k_204_146 L xs, List.forall_mem_cons.mpr ⟨k_204_147 L xs, List.forall_mem_cons.mpr ⟨k_204_148 L xs, List.forall_mem_cons.mpr ⟨k_204_149 L xs, List.forall_mem_cons.mpr ⟨k_204_152 L xs, List.forall_mem_cons.mpr ⟨k_204_153 L xs, List.forall_mem_cons.mpr ⟨k_204_156 L xs, List.forall_mem_cons.mpr ⟨k_204_159 L xs, List.forall_mem_cons.mpr ⟨k_204_161 L xs, List.forall_mem_cons.mpr ⟨k_204_162 L xs, List.forall_mem_cons.mpr ⟨k_204_163 L xs, List.forall_mem_cons.mpr ⟨k_204_164 L xs, List.forall_mem_cons.mpr ⟨k_204_166 L xs, List.forall_mem_cons.mpr ⟨k_204_167 L xs, List.forall_mem_cons.mpr ⟨k_204_168 L xs, List.forall_mem_cons.mpr ⟨k_204_169 L xs, List.forall_mem_cons.mpr ⟨k_204_170 L xs, List.forall_mem_cons.mpr ⟨k_204_173 L xs, List.forall_mem_cons.mpr ⟨k_204_176 L xs, List.forall_mem_cons.mpr ⟨k_204_177 L xs, List.forall_mem_cons.mpr ⟨k_204_178 L xs, List.forall_mem_cons.mpr ⟨k_204_179 L xs, List.forall_mem_cons.mpr ⟨k_204_182 L xs, List.forall_mem_cons.mpr ⟨k_204_185 L xs, List.forall_mem_cons.mpr ⟨k_204_188 L xs, List.forall_mem_cons.mpr ⟨k_204_189 L xs, List.forall_mem_cons.mpr ⟨k_204_191 L xs, List.forall_mem_cons.mpr ⟨k_204_194 L xs, List.forall_mem_cons.mpr ⟨k_204_195 L xs, List.forall_mem_cons.mpr ⟨k_204_196 L xs, List.forall_mem_cons.mpr ⟨k_204_199 L xs, List.forall_mem_cons.mpr ⟨k_204_202 L xs, List.forall_mem_cons.mpr ⟨k_204_203 L xs, List.forall_mem_cons.mpr ⟨k_204_205 L xs, List.forall_mem_cons.mpr ⟨k_204_207 L xs, List.forall_mem_cons.mpr ⟨k_204_208 L xs, List.forall_mem_cons.mpr ⟨k_204_211 L xs, List.forall_mem_cons.mpr ⟨k_204_212 L xs, List.forall_mem_cons.mpr ⟨k_204_213 L xs, List.forall_mem_cons.mpr ⟨k_204_214 L xs, List.forall_mem_cons.mpr ⟨k_204_216 L xs, List.forall_mem_cons.mpr ⟨k_204_219 L xs, List.forall_mem_cons.mpr ⟨k_204_221 L xs, List.forall_mem_cons.mpr ⟨k_204_222 L xs, List.forall_mem_cons.mpr ⟨k_204_224 L xs, List.forall_mem_cons.mpr ⟨k_204_226 L xs, List.forall_mem_cons.mpr ⟨k_204_227 L xs, List.forall_mem_cons.mpr ⟨k_204_230 L xs, List.forall_mem_cons.mpr ⟨k_204_231 L xs, List.forall_mem_cons.mpr ⟨k_204_232 L xs, List.forall_mem_cons.mpr ⟨k_204_233 L xs, List.forall_mem_cons.mpr ⟨k_204_235 L xs, List.forall_mem_cons.mpr ⟨k_204_236 L xs, List.forall_mem_cons.mpr ⟨k_204_237 L xs, List.forall_mem_cons.mpr ⟨k_204_240 L xs, List.forall_mem_cons.mpr ⟨k_204_241 L xs, List.forall_mem_cons.mpr ⟨k_204_244 L xs, List.forall_mem_cons.mpr ⟨k_204_246 L xs, List.forall_mem_cons.mpr ⟨k_204_247 L xs, List.forall_mem_cons.mpr ⟨k_204_248 L xs, List.forall_mem_cons.mpr ⟨k_204_249 L xs, List.forall_mem_cons.mpr ⟨k_204_251 L xs, List.forall_mem_cons.mpr ⟨k_204_252 L xs, List.forall_mem_cons.mpr ⟨k_204_253 L xs, List.forall_mem_cons.mpr ⟨k_204_255 L xs, List.forall_mem_cons.mpr ⟨k_204_256 L xs, List.forall_mem_cons.mpr ⟨k_204_257 L xs, List.forall_mem_cons.mpr ⟨k_204_259 L xs, List.forall_mem_cons.mpr ⟨k_204_260 L xs, List.forall_mem_cons.mpr ⟨k_204_261 L xs, List.forall_mem_cons.mpr ⟨k_204_263 L xs, List.forall_mem_cons.mpr ⟨k_204_265 L xs, List.forall_mem_cons.mpr ⟨k_204_268 L xs, List.forall_mem_cons.mpr ⟨k_204_271 L xs, List.forall_mem_cons.mpr ⟨k_204_274 L xs, List.forall_mem_cons.mpr ⟨k_204_275 L xs, List.forall_mem_cons.mpr ⟨k_204_277 L xs, List.forall_mem_cons.mpr ⟨k_204_278 L xs, List.forall_mem_cons.mpr ⟨k_204_279 L xs, List.forall_mem_cons.mpr ⟨k_204_282 L xs, List.forall_mem_cons.mpr ⟨k_204_283 L xs, List.forall_mem_cons.mpr ⟨k_204_285 L xs, List.forall_mem_cons.mpr ⟨k_204_288 L xs, List.forall_mem_cons.mpr ⟨k_204_289 L xs, List.forall_mem_cons.mpr ⟨k_204_290 L xs, List.forall_mem_cons.mpr ⟨k_204_293 L xs, List.forall_mem_cons.mpr ⟨k_204_296 L xs, List.forall_mem_cons.mpr ⟨k_204_299 L xs, List.forall_mem_cons.mpr ⟨k_204_302 L xs, List.forall_mem_cons.mpr ⟨k_204_303 L xs, fun _ h => absurd h List.not_mem_nil⟩⟩⟩⟩⟩⟩⟩⟩⟩⟩⟩⟩⟩⟩⟩⟩⟩⟩⟩⟩⟩⟩⟩⟩⟩⟩⟩⟩⟩⟩⟩⟩⟩⟩⟩⟩⟩⟩⟩⟩⟩⟩⟩⟩⟩⟩⟩⟩⟩⟩⟩⟩⟩⟩⟩⟩⟩⟩⟩⟩⟩⟩⟩⟩⟩⟩⟩⟩⟩⟩⟩⟩⟩⟩⟩⟩⟩⟩⟩⟩⟩⟩⟩⟩⟩⟩⟩⟩⟩⟩⟩⟩⟩⟩⟩⟩⟩⟩⟩⟩⟩⟩⟩⟩⟩⟩⟩⟩⟩⟩⟩⟩⟩⟩⟩⟩⟩⟩⟩⟩⟩⟩⟩⟩⟩⟩⟩⟩⟩⟩⟩⟩⟩⟩⟩⟩⟩⟩⟩⟩⟩⟩⟩⟩⟩⟩⟩⟩⟩⟩⟩⟩⟩⟩⟩⟩⟩⟩⟩⟩⟩⟩⟩⟩⟩⟩⟩⟩⟩⟩⟩⟩⟩⟩⟩⟩⟩⟩
/-- InclusionProverModel.bad.()I -/
def cd_205 : List (Nat × ll_O) := [
  (0, .inl (lo_aload 1 0)),
  (1, .inl (lo_push 2 (.int 0))),
  (2, .inl (lo_push 4 (.int 31))),
  (4, .inr (.inl (180, 3, 7))),
  (7, .inl (lo_push 8 (.int 0))),
  (8, .inl (lo_istore 9 1)),
  (9, .inl (lo_iload 10 1)),
  (10, .inl (lo_aload 11 0)),
  (11, .inl (lo_getf 14 11 0)),
  (14, .inl (lo_push 17 (.int 186))),
  (17, .inl (lo_ald 18 0)),
  (18, .inl (lo_cmp 45 21 (fun x y => decide (y ≤ x)))),
  (21, .inl (lo_aload 22 0)),
  (22, .inl (lo_aload 23 0)),
  (23, .inl (lo_iload 24 1)),
  (24, .inr (.inl (204, 2, 27))),
  (27, .inl (lo_putf 30 11 44 0)),
  (30, .inl (lo_aload 31 0)),
  (31, .inl (lo_getf 34 11 44)),
  (34, .inl (lo_if 39 37 (fun x => decide (x ≤ 0)))),
  (37, .inl (lo_iload 38 1)),
  (38, .inr (.inr 1)),
  (39, .inl (lo_iinc 42 1 1)),
  (42, .inl (lo_goto 9)),
  (45, .inl (lo_aload 46 0)),
  (46, .inl (lo_getf 49 11 0)),
  (49, .inl (lo_push 52 (.int 186))),
  (52, .inl (lo_ald 53 0)),
  (53, .inl (lo_if 81 56 (fun x => decide (x = 0)))),
  (56, .inl (lo_aload 57 0)),
  (57, .inl (lo_getf 60 11 0)),
  (60, .inl (lo_push 63 (.int 187))),
  (63, .inl (lo_ald 64 0)),
  (64, .inl (lo_if 85 67 (fun x => decide (¬ x = 0)))),
  (67, .inl (lo_aload 68 0)),
  (68, .inl (lo_getf 71 11 0)),
  (71, .inl (lo_push 74 (.int 487))),
  (74, .inl (lo_ald 75 0)),
  (75, .inl (lo_push 77 (.int (-2)))),
  (77, .inl (lo_bin 78 (fun x y => x &&& y))),
  (78, .inl (lo_if 85 81 (fun x => decide (¬ x = 0)))),
  (81, .inl (lo_push 82 (.int 1))),
  (82, .inl (lo_goto 86)),
  (85, .inl (lo_push 86 (.int 0))),
  (86, .inl (lo_istore 87 1)),
  (87, .inl (lo_aload 88 0)),
  (88, .inl (lo_push 89 (.int (-1)))),
  (89, .inl (lo_putf 92 11 42 0)),
  (92, .inl (lo_aload 93 0)),
  (93, .inl (lo_push 94 (.int (-1)))),
  (94, .inl (lo_putf 97 11 43 0)),
  (97, .inl (lo_aload 98 0)),
  (98, .inl (lo_iload 99 1)),
  (99, .inl (lo_if 106 102 (fun x => decide (x = 0)))),
  (102, .inl (lo_push 103 (.int 0))),
  (103, .inl (lo_goto 108)),
  (106, .inl (lo_push 108 (.int 6))),
  (108, .inl (lo_putf 111 11 44 0)),
  (111, .inl (lo_iload 112 1)),
  (112, .inl (lo_if 119 115 (fun x => decide (x = 0)))),
  (115, .inl (lo_push 116 (.int (-1)))),
  (116, .inl (lo_goto 120)),
  (119, .inl (lo_push 120 (.int 0))),
  (120, .inr (.inr 1))]
theorem k_205_0 (L : Nat) (xs : Nat → Int32) : ll_OK1 cX11_bad RX11 (some .int) false ll_mN ll_mR ll_mK ll_cnt L xs false 0 (.inl (lo_aload 1 0)) := lk_aload_n (k := 0) (by decide +kernel) rfl
theorem k_205_1 (L : Nat) (xs : Nat → Int32) : ll_OK1 cX11_bad RX11 (some .int) false ll_mN ll_mR ll_mK ll_cnt L xs false 1 (.inl (lo_push 2 (.int 0))) := lk_iconst (n := 0) (by decide +kernel) (by decide)
theorem k_205_2 (L : Nat) (xs : Nat → Int32) : ll_OK1 cX11_bad RX11 (some .int) false ll_mN ll_mR ll_mK ll_cnt L xs false 2 (.inl (lo_push 4 (.int 31))) := lk_bipush (n := 31) (by decide +kernel) (by decide)
theorem k_205_4 (L : Nat) (xs : Nat → Int32) : ll_OK1 cX11_bad RX11 (some .int) false ll_mN ll_mR ll_mK ll_cnt L xs false 4 (.inr (.inl (180, 3, 7))) := ⟨rfl, by decide, by rw [mN_180, mK_180, mR_180]; exact lj_v 260 2 11 (RX11, TX11, 46) (by decide +kernel) tb_756 tb_757 tb_758 rfl rfl rfl rfl (by decide +kernel)⟩
theorem k_205_7 (L : Nat) (xs : Nat → Int32) : ll_OK1 cX11_bad RX11 (some .int) false ll_mN ll_mR ll_mK ll_cnt L xs false 7 (.inl (lo_push 8 (.int 0))) := lk_iconst (n := 0) (by decide +kernel) (by decide)
theorem k_205_8 (L : Nat) (xs : Nat → Int32) : ll_OK1 cX11_bad RX11 (some .int) false ll_mN ll_mR ll_mK ll_cnt L xs false 8 (.inl (lo_istore 9 1)) := lk_istore_n (k := 1) (by decide +kernel) rfl
theorem k_205_9 (L : Nat) (xs : Nat → Int32) : ll_OK1 cX11_bad RX11 (some .int) false ll_mN ll_mR ll_mK ll_cnt L xs false 9 (.inl (lo_iload 10 1)) := lk_iload_n (k := 1) (by decide +kernel) rfl
theorem k_205_10 (L : Nat) (xs : Nat → Int32) : ll_OK1 cX11_bad RX11 (some .int) false ll_mN ll_mR ll_mK ll_cnt L xs false 10 (.inl (lo_aload 11 0)) := lk_aload_n (k := 0) (by decide +kernel) rfl
theorem k_205_11 (L : Nat) (xs : Nat → Int32) : ll_OK1 cX11_bad RX11 (some .int) false ll_mN ll_mR ll_mK ll_cnt L xs false 11 (.inl (lo_getf 14 11 0)) := lk_getf (ix := 8) (ci := 11) (k := 0) (C := RX11) (T := TX11) (N := 46) (by decide +kernel) rfl in_11 (by decide) tb_606
theorem k_205_14 (L : Nat) (xs : Nat → Int32) : ll_OK1 cX11_bad RX11 (some .int) false ll_mN ll_mR ll_mK ll_cnt L xs false 14 (.inl (lo_push 17 (.int 186))) := lk_sipush (n := 186) (by decide +kernel) (by decide)
theorem k_205_17 (L : Nat) (xs : Nat → Int32) : ll_OK1 cX11_bad RX11 (some .int) false ll_mN ll_mR ll_mK ll_cnt L xs false 17 (.inl (lo_ald 18 0)) := lk_iald (by decide +kernel)
theorem k_205_18 (L : Nat) (xs : Nat → Int32) : ll_OK1 cX11_bad RX11 (some .int) false ll_mN ll_mR ll_mK ll_cnt L xs false 18 (.inl (lo_cmp 45 21 (fun x y => decide (y ≤ x)))) := lk_icmp_ge (off := 27) (by decide +kernel) rfl
theorem k_205_21 (L : Nat) (xs : Nat → Int32) : ll_OK1 cX11_bad RX11 (some .int) false ll_mN ll_mR ll_mK ll_cnt L xs false 21 (.inl (lo_aload 22 0)) := lk_aload_n (k := 0) (by decide +kernel) rfl
theorem k_205_22 (L : Nat) (xs : Nat → Int32) : ll_OK1 cX11_bad RX11 (some .int) false ll_mN ll_mR ll_mK ll_cnt L xs false 22 (.inl (lo_aload 23 0)) := lk_aload_n (k := 0) (by decide +kernel) rfl
theorem k_205_23 (L : Nat) (xs : Nat → Int32) : ll_OK1 cX11_bad RX11 (some .int) false ll_mN ll_mR ll_mK ll_cnt L xs false 23 (.inl (lo_iload 24 1)) := lk_iload_n (k := 1) (by decide +kernel) rfl
theorem k_205_24 (L : Nat) (xs : Nat → Int32) : ll_OK1 cX11_bad RX11 (some .int) false ll_mN ll_mR ll_mK ll_cnt L xs false 24 (.inr (.inl (204, 2, 27))) := ⟨rfl, by decide, by rw [mN_204, mK_204, mR_204]; exact lj_v 291 1 11 (RX11, TX11, 46) (by decide +kernel) tb_778 tb_779 tb_780 rfl rfl rfl rfl (by decide +kernel)⟩
theorem k_205_27 (L : Nat) (xs : Nat → Int32) : ll_OK1 cX11_bad RX11 (some .int) false ll_mN ll_mR ll_mK ll_cnt L xs false 27 (.inl (lo_putf 30 11 44 0)) := lk_putf (ix := 294) (ci := 11) (k := 44) (C := RX11) (T := TX11) (N := 46) (ty0 := tyX11) (by decide +kernel) rfl in_11 tyX11_ok nmX11 (by decide) tb_781 (fun B adr v w h1 h2 => ll_fit_int (B := B) (adr := adr) h1 h2) (Or.inl rfl)
theorem k_205_30 (L : Nat) (xs : Nat → Int32) : ll_OK1 cX11_bad RX11 (some .int) false ll_mN ll_mR ll_mK ll_cnt L xs false 30 (.inl (lo_aload 31 0)) := lk_aload_n (k := 0) (by decide +kernel) rfl
theorem k_205_31 (L : Nat) (xs : Nat → Int32) : ll_OK1 cX11_bad RX11 (some .int) false ll_mN ll_mR ll_mK ll_cnt L xs false 31 (.inl (lo_getf 34 11 44)) := lk_getf (ix := 294) (ci := 11) (k := 44) (C := RX11) (T := TX11) (N := 46) (by decide +kernel) rfl in_11 (by decide) tb_781
theorem k_205_34 (L : Nat) (xs : Nat → Int32) : ll_OK1 cX11_bad RX11 (some .int) false ll_mN ll_mR ll_mK ll_cnt L xs false 34 (.inl (lo_if 39 37 (fun x => decide (x ≤ 0)))) := lk_if_le (off := 5) (by decide +kernel) rfl
theorem k_205_37 (L : Nat) (xs : Nat → Int32) : ll_OK1 cX11_bad RX11 (some .int) false ll_mN ll_mR ll_mK ll_cnt L xs false 37 (.inl (lo_iload 38 1)) := lk_iload_n (k := 1) (by decide +kernel) rfl
theorem k_205_38 (L : Nat) (xs : Nat → Int32) : ll_OK1 cX11_bad RX11 (some .int) false ll_mN ll_mR ll_mK ll_cnt L xs false 38 (.inr (.inr 1)) := ⟨(fun h => by cases h), (fun _ => ⟨(by decide +kernel), rfl⟩), fun h => by cases h⟩
theorem k_205_39 (L : Nat) (xs : Nat → Int32) : ll_OK1 cX11_bad RX11 (some .int) false ll_mN ll_mR ll_mK ll_cnt L xs false 39 (.inl (lo_iinc 42 1 1)) := lk_iinc (n := 1) (by decide +kernel) (by decide)
theorem k_205_42 (L : Nat) (xs : Nat → Int32) : ll_OK1 cX11_bad RX11 (some .int) false ll_mN ll_mR ll_mK ll_cnt L xs false 42 (.inl (lo_goto 9)) := lk_goto (off := (-33)) (by decide +kernel) rfl
theorem k_205_45 (L : Nat) (xs : Nat → Int32) : ll_OK1 cX11_bad RX11 (some .int) false ll_mN ll_mR ll_mK ll_cnt L xs false 45 (.inl (lo_aload 46 0)) := lk_aload_n (k := 0) (by decide +kernel) rfl
theorem k_205_46 (L : Nat) (xs : Nat → Int32) : ll_OK1 cX11_bad RX11 (some .int) false ll_mN ll_mR ll_mK ll_cnt L xs false 46 (.inl (lo_getf 49 11 0)) := lk_getf (ix := 8) (ci := 11) (k := 0) (C := RX11) (T := TX11) (N := 46) (by decide +kernel) rfl in_11 (by decide) tb_606
theorem k_205_49 (L : Nat) (xs : Nat → Int32) : ll_OK1 cX11_bad RX11 (some .int) false ll_mN ll_mR ll_mK ll_cnt L xs false 49 (.inl (lo_push 52 (.int 186))) := lk_sipush (n := 186) (by decide +kernel) (by decide)
theorem k_205_52 (L : Nat) (xs : Nat → Int32) : ll_OK1 cX11_bad RX11 (some .int) false ll_mN ll_mR ll_mK ll_cnt L xs false 52 (.inl (lo_ald 53 0)) := lk_iald (by decide +kernel)
theorem k_205_53 (L : Nat) (xs : Nat → Int32) : ll_OK1 cX11_bad RX11 (some .int) false ll_mN ll_mR ll_mK ll_cnt L xs false 53 (.inl (lo_if 81 56 (fun x => decide (x = 0)))) := lk_if_eq (off := 28) (by decide +kernel) rfl
theorem k_205_56 (L : Nat) (xs : Nat → Int32) : ll_OK1 cX11_bad RX11 (some .int) false ll_mN ll_mR ll_mK ll_cnt L xs false 56 (.inl (lo_aload 57 0)) := lk_aload_n (k := 0) (by decide +kernel) rfl
theorem k_205_57 (L : Nat) (xs : Nat → Int32) : ll_OK1 cX11_bad RX11 (some .int) false ll_mN ll_mR ll_mK ll_cnt L xs false 57 (.inl (lo_getf 60 11 0)) := lk_getf (ix := 8) (ci := 11) (k := 0) (C := RX11) (T := TX11) (N := 46) (by decide +kernel) rfl in_11 (by decide) tb_606
theorem k_205_60 (L : Nat) (xs : Nat → Int32) : ll_OK1 cX11_bad RX11 (some .int) false ll_mN ll_mR ll_mK ll_cnt L xs false 60 (.inl (lo_push 63 (.int 187))) := lk_sipush (n := 187) (by decide +kernel) (by decide)
theorem k_205_63 (L : Nat) (xs : Nat → Int32) : ll_OK1 cX11_bad RX11 (some .int) false ll_mN ll_mR ll_mK ll_cnt L xs false 63 (.inl (lo_ald 64 0)) := lk_iald (by decide +kernel)
theorem k_205_64 (L : Nat) (xs : Nat → Int32) : ll_OK1 cX11_bad RX11 (some .int) false ll_mN ll_mR ll_mK ll_cnt L xs false 64 (.inl (lo_if 85 67 (fun x => decide (¬ x = 0)))) := lk_if_ne (off := 21) (by decide +kernel) rfl
theorem k_205_67 (L : Nat) (xs : Nat → Int32) : ll_OK1 cX11_bad RX11 (some .int) false ll_mN ll_mR ll_mK ll_cnt L xs false 67 (.inl (lo_aload 68 0)) := lk_aload_n (k := 0) (by decide +kernel) rfl
theorem k_205_68 (L : Nat) (xs : Nat → Int32) : ll_OK1 cX11_bad RX11 (some .int) false ll_mN ll_mR ll_mK ll_cnt L xs false 68 (.inl (lo_getf 71 11 0)) := lk_getf (ix := 8) (ci := 11) (k := 0) (C := RX11) (T := TX11) (N := 46) (by decide +kernel) rfl in_11 (by decide) tb_606
theorem k_205_71 (L : Nat) (xs : Nat → Int32) : ll_OK1 cX11_bad RX11 (some .int) false ll_mN ll_mR ll_mK ll_cnt L xs false 71 (.inl (lo_push 74 (.int 487))) := lk_sipush (n := 487) (by decide +kernel) (by decide)
theorem k_205_74 (L : Nat) (xs : Nat → Int32) : ll_OK1 cX11_bad RX11 (some .int) false ll_mN ll_mR ll_mK ll_cnt L xs false 74 (.inl (lo_ald 75 0)) := lk_iald (by decide +kernel)
theorem k_205_75 (L : Nat) (xs : Nat → Int32) : ll_OK1 cX11_bad RX11 (some .int) false ll_mN ll_mR ll_mK ll_cnt L xs false 75 (.inl (lo_push 77 (.int (-2)))) := lk_bipush (n := (-2)) (by decide +kernel) (by decide)
theorem k_205_77 (L : Nat) (xs : Nat → Int32) : ll_OK1 cX11_bad RX11 (some .int) false ll_mN ll_mR ll_mK ll_cnt L xs false 77 (.inl (lo_bin 78 (fun x y => x &&& y))) := lk_iand (by decide +kernel)
theorem k_205_78 (L : Nat) (xs : Nat → Int32) : ll_OK1 cX11_bad RX11 (some .int) false ll_mN ll_mR ll_mK ll_cnt L xs false 78 (.inl (lo_if 85 81 (fun x => decide (¬ x = 0)))) := lk_if_ne (off := 7) (by decide +kernel) rfl
theorem k_205_81 (L : Nat) (xs : Nat → Int32) : ll_OK1 cX11_bad RX11 (some .int) false ll_mN ll_mR ll_mK ll_cnt L xs false 81 (.inl (lo_push 82 (.int 1))) := lk_iconst (n := 1) (by decide +kernel) (by decide)
theorem k_205_82 (L : Nat) (xs : Nat → Int32) : ll_OK1 cX11_bad RX11 (some .int) false ll_mN ll_mR ll_mK ll_cnt L xs false 82 (.inl (lo_goto 86)) := lk_goto (off := 4) (by decide +kernel) rfl
theorem k_205_85 (L : Nat) (xs : Nat → Int32) : ll_OK1 cX11_bad RX11 (some .int) false ll_mN ll_mR ll_mK ll_cnt L xs false 85 (.inl (lo_push 86 (.int 0))) := lk_iconst (n := 0) (by decide +kernel) (by decide)
theorem k_205_86 (L : Nat) (xs : Nat → Int32) : ll_OK1 cX11_bad RX11 (some .int) false ll_mN ll_mR ll_mK ll_cnt L xs false 86 (.inl (lo_istore 87 1)) := lk_istore_n (k := 1) (by decide +kernel) rfl
theorem k_205_87 (L : Nat) (xs : Nat → Int32) : ll_OK1 cX11_bad RX11 (some .int) false ll_mN ll_mR ll_mK ll_cnt L xs false 87 (.inl (lo_aload 88 0)) := lk_aload_n (k := 0) (by decide +kernel) rfl
theorem k_205_88 (L : Nat) (xs : Nat → Int32) : ll_OK1 cX11_bad RX11 (some .int) false ll_mN ll_mR ll_mK ll_cnt L xs false 88 (.inl (lo_push 89 (.int (-1)))) := lk_iconst (n := (-1)) (by decide +kernel) (by decide)
theorem k_205_89 (L : Nat) (xs : Nat → Int32) : ll_OK1 cX11_bad RX11 (some .int) false ll_mN ll_mR ll_mK ll_cnt L xs false 89 (.inl (lo_putf 92 11 42 0)) := lk_putf (ix := 282) (ci := 11) (k := 42) (C := RX11) (T := TX11) (N := 46) (ty0 := tyX11) (by decide +kernel) rfl in_11 tyX11_ok nmX11 (by decide) tb_773 (fun B adr v w h1 h2 => ll_fit_int (B := B) (adr := adr) h1 h2) (Or.inl rfl)
theorem k_205_92 (L : Nat) (xs : Nat → Int32) : ll_OK1 cX11_bad RX11 (some .int) false ll_mN ll_mR ll_mK ll_cnt L xs false 92 (.inl (lo_aload 93 0)) := lk_aload_n (k := 0) (by decide +kernel) rfl
theorem k_205_93 (L : Nat) (xs : Nat → Int32) : ll_OK1 cX11_bad RX11 (some .int) false ll_mN ll_mR ll_mK ll_cnt L xs false 93 (.inl (lo_push 94 (.int (-1)))) := lk_iconst (n := (-1)) (by decide +kernel) (by decide)
theorem k_205_94 (L : Nat) (xs : Nat → Int32) : ll_OK1 cX11_bad RX11 (some .int) false ll_mN ll_mR ll_mK ll_cnt L xs false 94 (.inl (lo_putf 97 11 43 0)) := lk_putf (ix := 285) (ci := 11) (k := 43) (C := RX11) (T := TX11) (N := 46) (ty0 := tyX11) (by decide +kernel) rfl in_11 tyX11_ok nmX11 (by decide) tb_774 (fun B adr v w h1 h2 => ll_fit_int (B := B) (adr := adr) h1 h2) (Or.inl rfl)
theorem k_205_97 (L : Nat) (xs : Nat → Int32) : ll_OK1 cX11_bad RX11 (some .int) false ll_mN ll_mR ll_mK ll_cnt L xs false 97 (.inl (lo_aload 98 0)) := lk_aload_n (k := 0) (by decide +kernel) rfl
theorem k_205_98 (L : Nat) (xs : Nat → Int32) : ll_OK1 cX11_bad RX11 (some .int) false ll_mN ll_mR ll_mK ll_cnt L xs false 98 (.inl (lo_iload 99 1)) := lk_iload_n (k := 1) (by decide +kernel) rfl
theorem k_205_99 (L : Nat) (xs : Nat → Int32) : ll_OK1 cX11_bad RX11 (some .int) false ll_mN ll_mR ll_mK ll_cnt L xs false 99 (.inl (lo_if 106 102 (fun x => decide (x = 0)))) := lk_if_eq (off := 7) (by decide +kernel) rfl
theorem k_205_102 (L : Nat) (xs : Nat → Int32) : ll_OK1 cX11_bad RX11 (some .int) false ll_mN ll_mR ll_mK ll_cnt L xs false 102 (.inl (lo_push 103 (.int 0))) := lk_iconst (n := 0) (by decide +kernel) (by decide)
theorem k_205_103 (L : Nat) (xs : Nat → Int32) : ll_OK1 cX11_bad RX11 (some .int) false ll_mN ll_mR ll_mK ll_cnt L xs false 103 (.inl (lo_goto 108)) := lk_goto (off := 5) (by decide +kernel) rfl
theorem k_205_106 (L : Nat) (xs : Nat → Int32) : ll_OK1 cX11_bad RX11 (some .int) false ll_mN ll_mR ll_mK ll_cnt L xs false 106 (.inl (lo_push 108 (.int 6))) := lk_bipush (n := 6) (by decide +kernel) (by decide)
theorem k_205_108 (L : Nat) (xs : Nat → Int32) : ll_OK1 cX11_bad RX11 (some .int) false ll_mN ll_mR ll_mK ll_cnt L xs false 108 (.inl (lo_putf 111 11 44 0)) := lk_putf (ix := 294) (ci := 11) (k := 44) (C := RX11) (T := TX11) (N := 46) (ty0 := tyX11) (by decide +kernel) rfl in_11 tyX11_ok nmX11 (by decide) tb_781 (fun B adr v w h1 h2 => ll_fit_int (B := B) (adr := adr) h1 h2) (Or.inl rfl)
theorem k_205_111 (L : Nat) (xs : Nat → Int32) : ll_OK1 cX11_bad RX11 (some .int) false ll_mN ll_mR ll_mK ll_cnt L xs false 111 (.inl (lo_iload 112 1)) := lk_iload_n (k := 1) (by decide +kernel) rfl
theorem k_205_112 (L : Nat) (xs : Nat → Int32) : ll_OK1 cX11_bad RX11 (some .int) false ll_mN ll_mR ll_mK ll_cnt L xs false 112 (.inl (lo_if 119 115 (fun x => decide (x = 0)))) := lk_if_eq (off := 7) (by decide +kernel) rfl
theorem k_205_115 (L : Nat) (xs : Nat → Int32) : ll_OK1 cX11_bad RX11 (some .int) false ll_mN ll_mR ll_mK ll_cnt L xs false 115 (.inl (lo_push 116 (.int (-1)))) := lk_iconst (n := (-1)) (by decide +kernel) (by decide)
theorem k_205_116 (L : Nat) (xs : Nat → Int32) : ll_OK1 cX11_bad RX11 (some .int) false ll_mN ll_mR ll_mK ll_cnt L xs false 116 (.inl (lo_goto 120)) := lk_goto (off := 4) (by decide +kernel) rfl
theorem k_205_119 (L : Nat) (xs : Nat → Int32) : ll_OK1 cX11_bad RX11 (some .int) false ll_mN ll_mR ll_mK ll_cnt L xs false 119 (.inl (lo_push 120 (.int 0))) := lk_iconst (n := 0) (by decide +kernel) (by decide)
theorem k_205_120 (L : Nat) (xs : Nat → Int32) : ll_OK1 cX11_bad RX11 (some .int) false ll_mN ll_mR ll_mK ll_cnt L xs false 120 (.inr (.inr 1)) := ⟨(fun h => by cases h), (fun _ => ⟨(by decide +kernel), rfl⟩), fun h => by cases h⟩
theorem ok_205 (L : Nat) (xs : Nat → Int32) : ∀ q ∈ cd_205, ll_OK1 cX11_bad RX11 (some .int) false ll_mN ll_mR ll_mK ll_cnt L xs false q.1 q.2 :=
  List.forall_mem_cons.mpr ⟨k_205_0 L xs, List.forall_mem_cons.mpr ⟨k_205_1 L xs, List.forall_mem_cons.mpr ⟨k_205_2 L xs, List.forall_mem_cons.mpr ⟨k_205_4 L xs, List.forall_mem_cons.mpr ⟨k_205_7 L xs, List.forall_mem_cons.mpr ⟨k_205_8 L xs, List.forall_mem_cons.mpr ⟨k_205_9 L xs, List.forall_mem_cons.mpr ⟨k_205_10 L xs, List.forall_mem_cons.mpr ⟨k_205_11 L xs, List.forall_mem_cons.mpr ⟨k_205_14 L xs, List.forall_mem_cons.mpr ⟨k_205_17 L xs, List.forall_mem_cons.mpr ⟨k_205_18 L xs, List.forall_mem_cons.mpr ⟨k_205_21 L xs, List.forall_mem_cons.mpr ⟨k_205_22 L xs, List.forall_mem_cons.mpr ⟨k_205_23 L xs, List.forall_mem_cons.mpr ⟨k_205_24 L xs, List.forall_mem_cons.mpr ⟨k_205_27 L xs, List.forall_mem_cons.mpr ⟨k_205_30 L xs, List.forall_mem_cons.mpr ⟨k_205_31 L xs, List.forall_mem_cons.mpr ⟨k_205_34 L xs, List.forall_mem_cons.mpr ⟨k_205_37 L xs, List.forall_mem_cons.mpr ⟨k_205_38 L xs, List.forall_mem_cons.mpr ⟨k_205_39 L xs, List.forall_mem_cons.mpr ⟨k_205_42 L xs, List.forall_mem_cons.mpr ⟨k_205_45 L xs, List.forall_mem_cons.mpr ⟨k_205_46 L xs, List.forall_mem_cons.mpr ⟨k_205_49 L xs, List.forall_mem_cons.mpr ⟨k_205_52 L xs, List.forall_mem_cons.mpr ⟨k_205_53 L xs, List.forall_mem_cons.mpr ⟨k_205_56 L xs, List.forall_mem_cons.mpr ⟨k_205_57 L xs, List.forall_mem_cons.mpr ⟨k_205_60 L xs, List.forall_mem_cons.mpr ⟨k_205_63 L xs, List.forall_mem_cons.mpr ⟨k_205_64 L xs, List.forall_mem_cons.mpr ⟨k_205_67 L xs, List.forall_mem_cons.mpr ⟨k_205_68 L xs, List.forall_mem_cons.mpr ⟨k_205_71 L xs, List.forall_mem_cons.mpr ⟨k_205_74 L xs, List.forall_mem_cons.mpr ⟨k_205_75 L xs, List.forall_mem_cons.mpr ⟨k_205_77 L xs, List.forall_mem_cons.mpr ⟨k_205_78 L xs, List.forall_mem_cons.mpr ⟨k_205_81 L xs, List.forall_mem_cons.mpr ⟨k_205_82 L xs, List.forall_mem_cons.mpr ⟨k_205_85 L xs, List.forall_mem_cons.mpr ⟨k_205_86 L xs, List.forall_mem_cons.mpr ⟨k_205_87 L xs, List.forall_mem_cons.mpr ⟨k_205_88 L xs, List.forall_mem_cons.mpr ⟨k_205_89 L xs, List.forall_mem_cons.mpr ⟨k_205_92 L xs, List.forall_mem_cons.mpr ⟨k_205_93 L xs, List.forall_mem_cons.mpr ⟨k_205_94 L xs, List.forall_mem_cons.mpr ⟨k_205_97 L xs, List.forall_mem_cons.mpr ⟨k_205_98 L xs, List.forall_mem_cons.mpr ⟨k_205_99 L xs, List.forall_mem_cons.mpr ⟨k_205_102 L xs, List.forall_mem_cons.mpr ⟨k_205_103 L xs, List.forall_mem_cons.mpr ⟨k_205_106 L xs, List.forall_mem_cons.mpr ⟨k_205_108 L xs, List.forall_mem_cons.mpr ⟨k_205_111 L xs, List.forall_mem_cons.mpr ⟨k_205_112 L xs, List.forall_mem_cons.mpr ⟨k_205_115 L xs, List.forall_mem_cons.mpr ⟨k_205_116 L xs, List.forall_mem_cons.mpr ⟨k_205_119 L xs, List.forall_mem_cons.mpr ⟨k_205_120 L xs, fun _ h => absurd h List.not_mem_nil⟩⟩⟩⟩⟩⟩⟩⟩⟩⟩⟩⟩⟩⟩⟩⟩⟩⟩⟩⟩⟩⟩⟩⟩⟩⟩⟩⟩⟩⟩⟩⟩⟩⟩⟩⟩⟩⟩⟩⟩⟩⟩⟩⟩⟩⟩⟩⟩⟩⟩⟩⟩⟩⟩⟩⟩⟩⟩⟩⟩⟩⟩⟩⟩
