/-! CODE TABLES, and that each row is the machine's (written by wip/whole/gen.py) -/
/-- InclusionProver$TermFinder.gatherNode.(ILInclusionProver$Side;I)V -/
def cd_65 : List (Nat × ll_O) := [
  (0, .inl (lo_iload 1 3)),
  (1, .inl (lo_push 3 (.int 40))),
  (3, .inl (lo_cmp 7 6 (fun x y => decide (x ≤ y)))),
  (6, .inr (.inr 0)),
  (7, .inl (lo_aload 8 0)),
  (8, .inl (lo_getf 11 6 5)),
  (11, .inl (lo_istore 13 4)),
  (13, .inl (lo_aload 14 0)),
  (14, .inl (lo_getf 17 6 0)),
  (17, .inl (lo_iload 18 1)),
  (18, .inr (.inl (81, 2, 21))),
  (21, .inl (lo_tab 1 [48, 91, 109] 140)),
  (48, .inl (lo_push 49 (.int 0))),
  (49, .inl (lo_istore 51 5)),
  (51, .inl (lo_iload 53 5)),
  (53, .inl (lo_aload 54 0)),
  (54, .inl (lo_getf 57 6 0)),
  (57, .inl (lo_iload 58 1)),
  (58, .inr (.inl (82, 2, 61))),
  (61, .inl (lo_cmp 88 64 (fun x y => decide (y ≤ x)))),
  (64, .inl (lo_aload 65 0)),
  (65, .inl (lo_aload 66 0)),
  (66, .inl (lo_getf 69 6 0)),
  (69, .inl (lo_iload 70 1)),
  (70, .inl (lo_iload 72 5)),
  (72, .inr (.inl (83, 3, 75))),
  (75, .inl (lo_aload 76 2)),
  (76, .inl (lo_iload 77 3)),
  (77, .inl (lo_push 78 (.int 1))),
  (78, .inl (lo_bin 79 (fun x y => x + y))),
  (79, .inr (.inl (65, 4, 82))),
  (82, .inl (lo_iinc 85 5 1)),
  (85, .inl (lo_goto 51)),
  (88, .inl (lo_goto 156)),
  (91, .inl (lo_aload 92 0)),
  (92, .inl (lo_iload 93 1)),
  (93, .inr (.inl (66, 2, 96))),
  (96, .inl (lo_aload 97 0)),
  (97, .inl (lo_iload 99 4)),
  (99, .inl (lo_aload 100 2)),
  (100, .inl (lo_iload 101 3)),
  (101, .inl (lo_push 102 (.int 1))),
  (102, .inl (lo_bin 103 (fun x y => x + y))),
  (103, .inr (.inl (64, 4, 106))),
  (106, .inl (lo_goto 156)),
  (109, .inl (lo_aload 110 0)),
  (110, .inl (lo_iload 111 1)),
  (111, .inr (.inl (67, 2, 114))),
  (114, .inl (lo_aload 115 0)),
  (115, .inl (lo_aload 116 0)),
  (116, .inl (lo_getf 119 6 0)),
  (119, .inl (lo_iload 120 1)),
  (120, .inl (lo_push 121 (.int 0))),
  (121, .inr (.inl (83, 3, 124))),
  (124, .inl (lo_aload 125 2)),
  (125, .inl (lo_iload 126 3)),
  (126, .inl (lo_push 127 (.int 1))),
  (127, .inl (lo_bin 128 (fun x y => x + y))),
  (128, .inr (.inl (65, 4, 131))),
  (131, .inl (lo_aload 132 0)),
  (132, .inl (lo_iload 134 4)),
  (134, .inl (lo_putf 137 6 5 0)),
  (137, .inl (lo_goto 156)),
  (140, .inl (lo_iload 141 1)),
  (141, .inl (lo_aload 142 0)),
  (142, .inl (lo_getf 145 6 7)),
  (145, .inl (lo_cmp 156 148 (fun x y => decide (¬ x = y)))),
  (148, .inl (lo_aload 149 2)),
  (149, .inl (lo_aload 150 0)),
  (150, .inr (.inl (68, 1, 153))),
  (153, .inr (.inl (42, 2, 156))),
  (156, .inr (.inr 0))]
theorem k_65_0 (L : Nat) (xs : Nat → Int32) : ll_OK1 cX6_gatherNode RX6 none false ll_mN ll_mR ll_mK ll_cnt L xs false 0 (.inl (lo_iload 1 3)) := lk_iload_n (k := 3) (by decide +kernel) rfl
theorem k_65_1 (L : Nat) (xs : Nat → Int32) : ll_OK1 cX6_gatherNode RX6 none false ll_mN ll_mR ll_mK ll_cnt L xs false 1 (.inl (lo_push 3 (.int 40))) := lk_bipush (n := 40) (by decide +kernel) (by decide)
theorem k_65_3 (L : Nat) (xs : Nat → Int32) : ll_OK1 cX6_gatherNode RX6 none false ll_mN ll_mR ll_mK ll_cnt L xs false 3 (.inl (lo_cmp 7 6 (fun x y => decide (x ≤ y)))) := lk_icmp_le (off := 4) (by decide +kernel) rfl
theorem k_65_6 (L : Nat) (xs : Nat → Int32) : ll_OK1 cX6_gatherNode RX6 none false ll_mN ll_mR ll_mK ll_cnt L xs false 6 (.inr (.inr 0)) := ⟨fun _ => ⟨(by decide +kernel), rfl⟩, (fun h => by cases h), fun h => by cases h⟩
theorem k_65_7 (L : Nat) (xs : Nat → Int32) : ll_OK1 cX6_gatherNode RX6 none false ll_mN ll_mR ll_mK ll_cnt L xs false 7 (.inl (lo_aload 8 0)) := lk_aload_n (k := 0) (by decide +kernel) rfl
theorem k_65_8 (L : Nat) (xs : Nat → Int32) : ll_OK1 cX6_gatherNode RX6 none false ll_mN ll_mR ll_mK ll_cnt L xs false 8 (.inl (lo_getf 11 6 5)) := lk_getf (ix := 69) (ci := 6) (k := 5) (C := RX6) (T := TX6) (N := 8) (by decide +kernel) rfl in_6 (by decide) tb_291
theorem k_65_11 (L : Nat) (xs : Nat → Int32) : ll_OK1 cX6_gatherNode RX6 none false ll_mN ll_mR ll_mK ll_cnt L xs false 11 (.inl (lo_istore 13 4)) := lk_istore (by decide +kernel)
theorem k_65_13 (L : Nat) (xs : Nat → Int32) : ll_OK1 cX6_gatherNode RX6 none false ll_mN ll_mR ll_mK ll_cnt L xs false 13 (.inl (lo_aload 14 0)) := lk_aload_n (k := 0) (by decide +kernel) rfl
theorem k_65_14 (L : Nat) (xs : Nat → Int32) : ll_OK1 cX6_gatherNode RX6 none false ll_mN ll_mR ll_mK ll_cnt L xs false 14 (.inl (lo_getf 17 6 0)) := lk_getf (ix := 30) (ci := 6) (k := 0) (C := RX6) (T := TX6) (N := 8) (by decide +kernel) rfl in_6 (by decide) tb_272
theorem k_65_17 (L : Nat) (xs : Nat → Int32) : ll_OK1 cX6_gatherNode RX6 none false ll_mN ll_mR ll_mK ll_cnt L xs false 17 (.inl (lo_iload 18 1)) := lk_iload_n (k := 1) (by decide +kernel) rfl
theorem k_65_18 (L : Nat) (xs : Nat → Int32) : ll_OK1 cX6_gatherNode RX6 none false ll_mN ll_mR ll_mK ll_cnt L xs false 18 (.inr (.inl (81, 2, 21))) := ⟨rfl, by decide, by rw [mN_81, mK_81, mR_81]; exact lj_v 117 1 8 (RX8, TX8, 10) (by decide +kernel) tb_327 tb_328 tb_329 rfl rfl rfl rfl (by decide +kernel)⟩
theorem k_65_21 (L : Nat) (xs : Nat → Int32) : ll_OK1 cX6_gatherNode RX6 none false ll_mN ll_mR ll_mK ll_cnt L xs false 21 (.inl (lo_tab 1 [48, 91, 109] 140)) := lk_tab (d0 := 119) (hi := 3) (offs := #[27, 70, 88]) (len := 27) (by decide +kernel) rfl rfl rfl
theorem k_65_48 (L : Nat) (xs : Nat → Int32) : ll_OK1 cX6_gatherNode RX6 none false ll_mN ll_mR ll_mK ll_cnt L xs false 48 (.inl (lo_push 49 (.int 0))) := lk_iconst (n := 0) (by decide +kernel) (by decide)
theorem k_65_49 (L : Nat) (xs : Nat → Int32) : ll_OK1 cX6_gatherNode RX6 none false ll_mN ll_mR ll_mK ll_cnt L xs false 49 (.inl (lo_istore 51 5)) := lk_istore (by decide +kernel)
theorem k_65_51 (L : Nat) (xs : Nat → Int32) : ll_OK1 cX6_gatherNode RX6 none false ll_mN ll_mR ll_mK ll_cnt L xs false 51 (.inl (lo_iload 53 5)) := lk_iload (by decide +kernel)
theorem k_65_53 (L : Nat) (xs : Nat → Int32) : ll_OK1 cX6_gatherNode RX6 none false ll_mN ll_mR ll_mK ll_cnt L xs false 53 (.inl (lo_aload 54 0)) := lk_aload_n (k := 0) (by decide +kernel) rfl
theorem k_65_54 (L : Nat) (xs : Nat → Int32) : ll_OK1 cX6_gatherNode RX6 none false ll_mN ll_mR ll_mK ll_cnt L xs false 54 (.inl (lo_getf 57 6 0)) := lk_getf (ix := 30) (ci := 6) (k := 0) (C := RX6) (T := TX6) (N := 8) (by decide +kernel) rfl in_6 (by decide) tb_272
theorem k_65_57 (L : Nat) (xs : Nat → Int32) : ll_OK1 cX6_gatherNode RX6 none false ll_mN ll_mR ll_mK ll_cnt L xs false 57 (.inl (lo_iload 58 1)) := lk_iload_n (k := 1) (by decide +kernel) rfl
theorem k_65_58 (L : Nat) (xs : Nat → Int32) : ll_OK1 cX6_gatherNode RX6 none false ll_mN ll_mR ll_mK ll_cnt L xs false 58 (.inr (.inl (82, 2, 61))) := ⟨rfl, by decide, by rw [mN_82, mK_82, mR_82]; exact lj_v 120 1 8 (RX8, TX8, 10) (by decide +kernel) tb_330 tb_331 tb_332 rfl rfl rfl rfl (by decide +kernel)⟩
theorem k_65_61 (L : Nat) (xs : Nat → Int32) : ll_OK1 cX6_gatherNode RX6 none false ll_mN ll_mR ll_mK ll_cnt L xs false 61 (.inl (lo_cmp 88 64 (fun x y => decide (y ≤ x)))) := lk_icmp_ge (off := 27) (by decide +kernel) rfl
theorem k_65_64 (L : Nat) (xs : Nat → Int32) : ll_OK1 cX6_gatherNode RX6 none false ll_mN ll_mR ll_mK ll_cnt L xs false 64 (.inl (lo_aload 65 0)) := lk_aload_n (k := 0) (by decide +kernel) rfl
theorem k_65_65 (L : Nat) (xs : Nat → Int32) : ll_OK1 cX6_gatherNode RX6 none false ll_mN ll_mR ll_mK ll_cnt L xs false 65 (.inl (lo_aload 66 0)) := lk_aload_n (k := 0) (by decide +kernel) rfl
theorem k_65_66 (L : Nat) (xs : Nat → Int32) : ll_OK1 cX6_gatherNode RX6 none false ll_mN ll_mR ll_mK ll_cnt L xs false 66 (.inl (lo_getf 69 6 0)) := lk_getf (ix := 30) (ci := 6) (k := 0) (C := RX6) (T := TX6) (N := 8) (by decide +kernel) rfl in_6 (by decide) tb_272
theorem k_65_69 (L : Nat) (xs : Nat → Int32) : ll_OK1 cX6_gatherNode RX6 none false ll_mN ll_mR ll_mK ll_cnt L xs false 69 (.inl (lo_iload 70 1)) := lk_iload_n (k := 1) (by decide +kernel) rfl
theorem k_65_70 (L : Nat) (xs : Nat → Int32) : ll_OK1 cX6_gatherNode RX6 none false ll_mN ll_mR ll_mK ll_cnt L xs false 70 (.inl (lo_iload 72 5)) := lk_iload (by decide +kernel)
theorem k_65_72 (L : Nat) (xs : Nat → Int32) : ll_OK1 cX6_gatherNode RX6 none false ll_mN ll_mR ll_mK ll_cnt L xs false 72 (.inr (.inl (83, 3, 75))) := ⟨rfl, by decide, by rw [mN_83, mK_83, mR_83]; exact lj_v 123 2 8 (RX8, TX8, 10) (by decide +kernel) tb_333 tb_334 tb_335 rfl rfl rfl rfl (by decide +kernel)⟩
theorem k_65_75 (L : Nat) (xs : Nat → Int32) : ll_OK1 cX6_gatherNode RX6 none false ll_mN ll_mR ll_mK ll_cnt L xs false 75 (.inl (lo_aload 76 2)) := lk_aload_n (k := 2) (by decide +kernel) rfl
theorem k_65_76 (L : Nat) (xs : Nat → Int32) : ll_OK1 cX6_gatherNode RX6 none false ll_mN ll_mR ll_mK ll_cnt L xs false 76 (.inl (lo_iload 77 3)) := lk_iload_n (k := 3) (by decide +kernel) rfl
theorem k_65_77 (L : Nat) (xs : Nat → Int32) : ll_OK1 cX6_gatherNode RX6 none false ll_mN ll_mR ll_mK ll_cnt L xs false 77 (.inl (lo_push 78 (.int 1))) := lk_iconst (n := 1) (by decide +kernel) (by decide)
theorem k_65_78 (L : Nat) (xs : Nat → Int32) : ll_OK1 cX6_gatherNode RX6 none false ll_mN ll_mR ll_mK ll_cnt L xs false 78 (.inl (lo_bin 79 (fun x y => x + y))) := lk_iadd (by decide +kernel)
theorem k_65_79 (L : Nat) (xs : Nat → Int32) : ll_OK1 cX6_gatherNode RX6 none false ll_mN ll_mR ll_mK ll_cnt L xs false 79 (.inr (.inl (65, 4, 82))) := ⟨rfl, by decide, by rw [mN_65, mK_65, mR_65]; exact lj_v 114 3 6 (RX6, TX6, 8) (by decide +kernel) tb_324 tb_325 tb_326 rfl rfl rfl rfl (by decide +kernel)⟩
theorem k_65_82 (L : Nat) (xs : Nat → Int32) : ll_OK1 cX6_gatherNode RX6 none false ll_mN ll_mR ll_mK ll_cnt L xs false 82 (.inl (lo_iinc 85 5 1)) := lk_iinc (n := 1) (by decide +kernel) (by decide)
theorem k_65_85 (L : Nat) (xs : Nat → Int32) : ll_OK1 cX6_gatherNode RX6 none false ll_mN ll_mR ll_mK ll_cnt L xs false 85 (.inl (lo_goto 51)) := lk_goto (off := (-34)) (by decide +kernel) rfl
theorem k_65_88 (L : Nat) (xs : Nat → Int32) : ll_OK1 cX6_gatherNode RX6 none false ll_mN ll_mR ll_mK ll_cnt L xs false 88 (.inl (lo_goto 156)) := lk_goto (off := 68) (by decide +kernel) rfl
theorem k_65_91 (L : Nat) (xs : Nat → Int32) : ll_OK1 cX6_gatherNode RX6 none false ll_mN ll_mR ll_mK ll_cnt L xs false 91 (.inl (lo_aload 92 0)) := lk_aload_n (k := 0) (by decide +kernel) rfl
theorem k_65_92 (L : Nat) (xs : Nat → Int32) : ll_OK1 cX6_gatherNode RX6 none false ll_mN ll_mR ll_mK ll_cnt L xs false 92 (.inl (lo_iload 93 1)) := lk_iload_n (k := 1) (by decide +kernel) rfl
theorem k_65_93 (L : Nat) (xs : Nat → Int32) : ll_OK1 cX6_gatherNode RX6 none false ll_mN ll_mR ll_mK ll_cnt L xs false 93 (.inr (.inl (66, 2, 96))) := ⟨rfl, by decide, by rw [mN_66, mK_66, mR_66]; exact lj_v 72 1 6 (RX6, TX6, 8) (by decide +kernel) tb_292 tb_293 tb_294 rfl rfl rfl rfl (by decide +kernel)⟩
theorem k_65_96 (L : Nat) (xs : Nat → Int32) : ll_OK1 cX6_gatherNode RX6 none false ll_mN ll_mR ll_mK ll_cnt L xs false 96 (.inl (lo_aload 97 0)) := lk_aload_n (k := 0) (by decide +kernel) rfl
theorem k_65_97 (L : Nat) (xs : Nat → Int32) : ll_OK1 cX6_gatherNode RX6 none false ll_mN ll_mR ll_mK ll_cnt L xs false 97 (.inl (lo_iload 99 4)) := lk_iload (by decide +kernel)
theorem k_65_99 (L : Nat) (xs : Nat → Int32) : ll_OK1 cX6_gatherNode RX6 none false ll_mN ll_mR ll_mK ll_cnt L xs false 99 (.inl (lo_aload 100 2)) := lk_aload_n (k := 2) (by decide +kernel) rfl
theorem k_65_100 (L : Nat) (xs : Nat → Int32) : ll_OK1 cX6_gatherNode RX6 none false ll_mN ll_mR ll_mK ll_cnt L xs false 100 (.inl (lo_iload 101 3)) := lk_iload_n (k := 3) (by decide +kernel) rfl
theorem k_65_101 (L : Nat) (xs : Nat → Int32) : ll_OK1 cX6_gatherNode RX6 none false ll_mN ll_mR ll_mK ll_cnt L xs false 101 (.inl (lo_push 102 (.int 1))) := lk_iconst (n := 1) (by decide +kernel) (by decide)
theorem k_65_102 (L : Nat) (xs : Nat → Int32) : ll_OK1 cX6_gatherNode RX6 none false ll_mN ll_mR ll_mK ll_cnt L xs false 102 (.inl (lo_bin 103 (fun x y => x + y))) := lk_iadd (by decide +kernel)
theorem k_65_103 (L : Nat) (xs : Nat → Int32) : ll_OK1 cX6_gatherNode RX6 none false ll_mN ll_mR ll_mK ll_cnt L xs false 103 (.inr (.inl (64, 4, 106))) := ⟨rfl, by decide, by rw [mN_64, mK_64, mR_64]; exact lj_v 110 3 6 (RX6, TX6, 8) (by decide +kernel) tb_321 tb_322 tb_323 rfl rfl rfl rfl (by decide +kernel)⟩
theorem k_65_106 (L : Nat) (xs : Nat → Int32) : ll_OK1 cX6_gatherNode RX6 none false ll_mN ll_mR ll_mK ll_cnt L xs false 106 (.inl (lo_goto 156)) := lk_goto (off := 50) (by decide +kernel) rfl
theorem k_65_109 (L : Nat) (xs : Nat → Int32) : ll_OK1 cX6_gatherNode RX6 none false ll_mN ll_mR ll_mK ll_cnt L xs false 109 (.inl (lo_aload 110 0)) := lk_aload_n (k := 0) (by decide +kernel) rfl
theorem k_65_110 (L : Nat) (xs : Nat → Int32) : ll_OK1 cX6_gatherNode RX6 none false ll_mN ll_mR ll_mK ll_cnt L xs false 110 (.inl (lo_iload 111 1)) := lk_iload_n (k := 1) (by decide +kernel) rfl
theorem k_65_111 (L : Nat) (xs : Nat → Int32) : ll_OK1 cX6_gatherNode RX6 none false ll_mN ll_mR ll_mK ll_cnt L xs false 111 (.inr (.inl (67, 2, 114))) := ⟨rfl, by decide, by rw [mN_67, mK_67, mR_67]; exact lj_v 107 1 6 (RX6, TX6, 8) (by decide +kernel) tb_318 tb_319 tb_320 rfl rfl rfl rfl (by decide +kernel)⟩
theorem k_65_114 (L : Nat) (xs : Nat → Int32) : ll_OK1 cX6_gatherNode RX6 none false ll_mN ll_mR ll_mK ll_cnt L xs false 114 (.inl (lo_aload 115 0)) := lk_aload_n (k := 0) (by decide +kernel) rfl
theorem k_65_115 (L : Nat) (xs : Nat → Int32) : ll_OK1 cX6_gatherNode RX6 none false ll_mN ll_mR ll_mK ll_cnt L xs false 115 (.inl (lo_aload 116 0)) := lk_aload_n (k := 0) (by decide +kernel) rfl
theorem k_65_116 (L : Nat) (xs : Nat → Int32) : ll_OK1 cX6_gatherNode RX6 none false ll_mN ll_mR ll_mK ll_cnt L xs false 116 (.inl (lo_getf 119 6 0)) := lk_getf (ix := 30) (ci := 6) (k := 0) (C := RX6) (T := TX6) (N := 8) (by decide +kernel) rfl in_6 (by decide) tb_272
theorem k_65_119 (L : Nat) (xs : Nat → Int32) : ll_OK1 cX6_gatherNode RX6 none false ll_mN ll_mR ll_mK ll_cnt L xs false 119 (.inl (lo_iload 120 1)) := lk_iload_n (k := 1) (by decide +kernel) rfl
theorem k_65_120 (L : Nat) (xs : Nat → Int32) : ll_OK1 cX6_gatherNode RX6 none false ll_mN ll_mR ll_mK ll_cnt L xs false 120 (.inl (lo_push 121 (.int 0))) := lk_iconst (n := 0) (by decide +kernel) (by decide)
theorem k_65_121 (L : Nat) (xs : Nat → Int32) : ll_OK1 cX6_gatherNode RX6 none false ll_mN ll_mR ll_mK ll_cnt L xs false 121 (.inr (.inl (83, 3, 124))) := ⟨rfl, by decide, by rw [mN_83, mK_83, mR_83]; exact lj_v 123 2 8 (RX8, TX8, 10) (by decide +kernel) tb_333 tb_334 tb_335 rfl rfl rfl rfl (by decide +kernel)⟩
theorem k_65_124 (L : Nat) (xs : Nat → Int32) : ll_OK1 cX6_gatherNode RX6 none false ll_mN ll_mR ll_mK ll_cnt L xs false 124 (.inl (lo_aload 125 2)) := lk_aload_n (k := 2) (by decide +kernel) rfl
theorem k_65_125 (L : Nat) (xs : Nat → Int32) : ll_OK1 cX6_gatherNode RX6 none false ll_mN ll_mR ll_mK ll_cnt L xs false 125 (.inl (lo_iload 126 3)) := lk_iload_n (k := 3) (by decide +kernel) rfl
theorem k_65_126 (L : Nat) (xs : Nat → Int32) : ll_OK1 cX6_gatherNode RX6 none false ll_mN ll_mR ll_mK ll_cnt L xs false 126 (.inl (lo_push 127 (.int 1))) := lk_iconst (n := 1) (by decide +kernel) (by decide)
theorem k_65_127 (L : Nat) (xs : Nat → Int32) : ll_OK1 cX6_gatherNode RX6 none false ll_mN ll_mR ll_mK ll_cnt L xs false 127 (.inl (lo_bin 128 (fun x y => x + y))) := lk_iadd (by decide +kernel)
theorem k_65_128 (L : Nat) (xs : Nat → Int32) : ll_OK1 cX6_gatherNode RX6 none false ll_mN ll_mR ll_mK ll_cnt L xs false 128 (.inr (.inl (65, 4, 131))) := ⟨rfl, by decide, by rw [mN_65, mK_65, mR_65]; exact lj_v 114 3 6 (RX6, TX6, 8) (by decide +kernel) tb_324 tb_325 tb_326 rfl rfl rfl rfl (by decide +kernel)⟩
theorem k_65_131 (L : Nat) (xs : Nat → Int32) : ll_OK1 cX6_gatherNode RX6 none false ll_mN ll_mR ll_mK ll_cnt L xs false 131 (.inl (lo_aload 132 0)) := lk_aload_n (k := 0) (by decide +kernel) rfl
theorem k_65_132 (L : Nat) (xs : Nat → Int32) : ll_OK1 cX6_gatherNode RX6 none false ll_mN ll_mR ll_mK ll_cnt L xs false 132 (.inl (lo_iload 134 4)) := lk_iload (by decide +kernel)
theorem k_65_134 (L : Nat) (xs : Nat → Int32) : ll_OK1 cX6_gatherNode RX6 none false ll_mN ll_mR ll_mK ll_cnt L xs false 134 (.inl (lo_putf 137 6 5 0)) := lk_putf (ix := 69) (ci := 6) (k := 5) (C := RX6) (T := TX6) (N := 8) (ty0 := tyX6) (by decide +kernel) rfl in_6 tyX6_ok nmX6 (by decide) tb_291 (fun B adr v w h1 h2 => ll_fit_int (B := B) (adr := adr) h1 h2) (Or.inl rfl)
theorem k_65_137 (L : Nat) (xs : Nat → Int32) : ll_OK1 cX6_gatherNode RX6 none false ll_mN ll_mR ll_mK ll_cnt L xs false 137 (.inl (lo_goto 156)) := lk_goto (off := 19) (by decide +kernel) rfl
theorem k_65_140 (L : Nat) (xs : Nat → Int32) : ll_OK1 cX6_gatherNode RX6 none false ll_mN ll_mR ll_mK ll_cnt L xs false 140 (.inl (lo_iload 141 1)) := lk_iload_n (k := 1) (by decide +kernel) rfl
theorem k_65_141 (L : Nat) (xs : Nat → Int32) : ll_OK1 cX6_gatherNode RX6 none false ll_mN ll_mR ll_mK ll_cnt L xs false 141 (.inl (lo_aload 142 0)) := lk_aload_n (k := 0) (by decide +kernel) rfl
theorem k_65_142 (L : Nat) (xs : Nat → Int32) : ll_OK1 cX6_gatherNode RX6 none false ll_mN ll_mR ll_mK ll_cnt L xs false 142 (.inl (lo_getf 145 6 7)) := lk_getf (ix := 101) (ci := 6) (k := 7) (C := RX6) (T := TX6) (N := 8) (by decide +kernel) rfl in_6 (by decide) tb_314
theorem k_65_145 (L : Nat) (xs : Nat → Int32) : ll_OK1 cX6_gatherNode RX6 none false ll_mN ll_mR ll_mK ll_cnt L xs false 145 (.inl (lo_cmp 156 148 (fun x y => decide (¬ x = y)))) := lk_icmp_ne (off := 11) (by decide +kernel) rfl
theorem k_65_148 (L : Nat) (xs : Nat → Int32) : ll_OK1 cX6_gatherNode RX6 none false ll_mN ll_mR ll_mK ll_cnt L xs false 148 (.inl (lo_aload 149 2)) := lk_aload_n (k := 2) (by decide +kernel) rfl
theorem k_65_149 (L : Nat) (xs : Nat → Int32) : ll_OK1 cX6_gatherNode RX6 none false ll_mN ll_mR ll_mK ll_cnt L xs false 149 (.inl (lo_aload 150 0)) := lk_aload_n (k := 0) (by decide +kernel) rfl
theorem k_65_150 (L : Nat) (xs : Nat → Int32) : ll_OK1 cX6_gatherNode RX6 none false ll_mN ll_mR ll_mK ll_cnt L xs false 150 (.inr (.inl (68, 1, 153))) := ⟨rfl, by decide, by rw [mN_68, mK_68, mR_68]; exact lj_v 75 0 6 (RX6, TX6, 8) (by decide +kernel) tb_295 tb_296 tb_297 rfl rfl rfl rfl (by decide +kernel)⟩
theorem k_65_153 (L : Nat) (xs : Nat → Int32) : ll_OK1 cX6_gatherNode RX6 none false ll_mN ll_mR ll_mK ll_cnt L xs false 153 (.inr (.inl (42, 2, 156))) := ⟨rfl, by decide, by rw [mN_42, mK_42, mR_42]; exact lj_v 127 1 5 (RX5, TX5, 11) (by decide +kernel) tb_336 tb_337 tb_338 rfl rfl rfl rfl (by decide +kernel)⟩
theorem k_65_156 (L : Nat) (xs : Nat → Int32) : ll_OK1 cX6_gatherNode RX6 none false ll_mN ll_mR ll_mK ll_cnt L xs false 156 (.inr (.inr 0)) := ⟨fun _ => ⟨(by decide +kernel), rfl⟩, (fun h => by cases h), fun h => by cases h⟩
theorem ok_65 (L : Nat) (xs : Nat → Int32) : ∀ q ∈ cd_65, ll_OK1 cX6_gatherNode RX6 none false ll_mN ll_mR ll_mK ll_cnt L xs false q.1 q.2 :=
  List.forall_mem_cons.mpr ⟨k_65_0 L xs, List.forall_mem_cons.mpr ⟨k_65_1 L xs, List.forall_mem_cons.mpr ⟨k_65_3 L xs, List.forall_mem_cons.mpr ⟨k_65_6 L xs, List.forall_mem_cons.mpr ⟨k_65_7 L xs, List.forall_mem_cons.mpr ⟨k_65_8 L xs, List.forall_mem_cons.mpr ⟨k_65_11 L xs, List.forall_mem_cons.mpr ⟨k_65_13 L xs, List.forall_mem_cons.mpr ⟨k_65_14 L xs, List.forall_mem_cons.mpr ⟨k_65_17 L xs, List.forall_mem_cons.mpr ⟨k_65_18 L xs, List.forall_mem_cons.mpr ⟨k_65_21 L xs, List.forall_mem_cons.mpr ⟨k_65_48 L xs, List.forall_mem_cons.mpr ⟨k_65_49 L xs, List.forall_mem_cons.mpr ⟨k_65_51 L xs, List.forall_mem_cons.mpr ⟨k_65_53 L xs, List.forall_mem_cons.mpr ⟨k_65_54 L xs, List.forall_mem_cons.mpr ⟨k_65_57 L xs, List.forall_mem_cons.mpr ⟨k_65_58 L xs, List.forall_mem_cons.mpr ⟨k_65_61 L xs, List.forall_mem_cons.mpr ⟨k_65_64 L xs, List.forall_mem_cons.mpr ⟨k_65_65 L xs, List.forall_mem_cons.mpr ⟨k_65_66 L xs, List.forall_mem_cons.mpr ⟨k_65_69 L xs, List.forall_mem_cons.mpr ⟨k_65_70 L xs, List.forall_mem_cons.mpr ⟨k_65_72 L xs, List.forall_mem_cons.mpr ⟨k_65_75 L xs, List.forall_mem_cons.mpr ⟨k_65_76 L xs, List.forall_mem_cons.mpr ⟨k_65_77 L xs, List.forall_mem_cons.mpr ⟨k_65_78 L xs, List.forall_mem_cons.mpr ⟨k_65_79 L xs, List.forall_mem_cons.mpr ⟨k_65_82 L xs, List.forall_mem_cons.mpr ⟨k_65_85 L xs, List.forall_mem_cons.mpr ⟨k_65_88 L xs, List.forall_mem_cons.mpr ⟨k_65_91 L xs, List.forall_mem_cons.mpr ⟨k_65_92 L xs, List.forall_mem_cons.mpr ⟨k_65_93 L xs, List.forall_mem_cons.mpr ⟨k_65_96 L xs, List.forall_mem_cons.mpr ⟨k_65_97 L xs, List.forall_mem_cons.mpr ⟨k_65_99 L xs, List.forall_mem_cons.mpr ⟨k_65_100 L xs, List.forall_mem_cons.mpr ⟨k_65_101 L xs, List.forall_mem_cons.mpr ⟨k_65_102 L xs, List.forall_mem_cons.mpr ⟨k_65_103 L xs, List.forall_mem_cons.mpr ⟨k_65_106 L xs, List.forall_mem_cons.mpr ⟨k_65_109 L xs, List.forall_mem_cons.mpr ⟨k_65_110 L xs, List.forall_mem_cons.mpr ⟨k_65_111 L xs, List.forall_mem_cons.mpr ⟨k_65_114 L xs, List.forall_mem_cons.mpr ⟨k_65_115 L xs, List.forall_mem_cons.mpr ⟨k_65_116 L xs, List.forall_mem_cons.mpr ⟨k_65_119 L xs, List.forall_mem_cons.mpr ⟨k_65_120 L xs, List.forall_mem_cons.mpr ⟨k_65_121 L xs, List.forall_mem_cons.mpr ⟨k_65_124 L xs, List.forall_mem_cons.mpr ⟨k_65_125 L xs, List.forall_mem_cons.mpr ⟨k_65_126 L xs, List.forall_mem_cons.mpr ⟨k_65_127 L xs, List.forall_mem_cons.mpr ⟨k_65_128 L xs, List.forall_mem_cons.mpr ⟨k_65_131 L xs, List.forall_mem_cons.mpr ⟨k_65_132 L xs, List.forall_mem_cons.mpr ⟨k_65_134 L xs, List.forall_mem_cons.mpr ⟨k_65_137 L xs, List.forall_mem_cons.mpr ⟨k_65_140 L xs, List.forall_mem_cons.mpr ⟨k_65_141 L xs, List.forall_mem_cons.mpr ⟨k_65_142 L xs, List.forall_mem_cons.mpr ⟨k_65_145 L xs, List.forall_mem_cons.mpr ⟨k_65_148 L xs, List.forall_mem_cons.mpr ⟨k_65_149 L xs, List.forall_mem_cons.mpr ⟨k_65_150 L xs, List.forall_mem_cons.mpr ⟨k_65_153 L xs, List.forall_mem_cons.mpr ⟨k_65_156 L xs, fun _ h => absurd h List.not_mem_nil⟩⟩⟩⟩⟩⟩⟩⟩⟩⟩⟩⟩⟩⟩⟩⟩⟩⟩⟩⟩⟩⟩⟩⟩⟩⟩⟩⟩⟩⟩⟩⟩⟩⟩⟩⟩⟩⟩⟩⟩⟩⟩⟩⟩⟩⟩⟩⟩⟩⟩⟩⟩⟩⟩⟩⟩⟩⟩⟩⟩⟩⟩⟩⟩⟩⟩⟩⟩⟩⟩⟩⟩
/-- InclusionProver$TermFinder.pushFactors.(I)V -/
def cd_66 : List (Nat × ll_O) := [
  (0, .inl (lo_aload 1 0)),
  (1, .inl (lo_getf 4 6 0)),
  (4, .inl (lo_iload 5 1)),
  (5, .inr (.inl (81, 2, 8))),
  (8, .inl (lo_push 9 (.int 2))),
  (9, .inl (lo_cmp 49 12 (fun x y => decide (¬ x = y)))),
  (12, .inl (lo_aload 13 0)),
  (13, .inl (lo_getf 16 6 0)),
  (16, .inl (lo_iload 17 1)),
  (17, .inr (.inl (82, 2, 20))),
  (20, .inl (lo_push 21 (.int 1))),
  (21, .inl (lo_bin 22 (fun x y => x - y))),
  (22, .inl (lo_istore 23 2)),
  (23, .inl (lo_iload 24 2)),
  (24, .inl (lo_if 46 27 (fun x => decide (x < 0)))),
  (27, .inl (lo_aload 28 0)),
  (28, .inl (lo_aload 29 0)),
  (29, .inl (lo_getf 32 6 0)),
  (32, .inl (lo_iload 33 1)),
  (33, .inl (lo_iload 34 2)),
  (34, .inr (.inl (83, 3, 37))),
  (37, .inr (.inl (67, 2, 40))),
  (40, .inl (lo_iinc 43 2 (-1))),
  (43, .inl (lo_goto 23)),
  (46, .inl (lo_goto 59)),
  (49, .inl (lo_iload 50 1)),
  (50, .inl (lo_push 51 (.int 1))),
  (51, .inl (lo_cmp 59 54 (fun x y => decide (x = y)))),
  (54, .inl (lo_aload 55 0)),
  (55, .inl (lo_iload 56 1)),
  (56, .inr (.inl (67, 2, 59))),
  (59, .inr (.inr 0))]
theorem k_66_0 (L : Nat) (xs : Nat → Int32) : ll_OK1 cX6_pushFactors RX6 none false ll_mN ll_mR ll_mK ll_cnt L xs false 0 (.inl (lo_aload 1 0)) := lk_aload_n (k := 0) (by decide +kernel) rfl
theorem k_66_1 (L : Nat) (xs : Nat → Int32) : ll_OK1 cX6_pushFactors RX6 none false ll_mN ll_mR ll_mK ll_cnt L xs false 1 (.inl (lo_getf 4 6 0)) := lk_getf (ix := 30) (ci := 6) (k := 0) (C := RX6) (T := TX6) (N := 8) (by decide +kernel) rfl in_6 (by decide) tb_272
theorem k_66_4 (L : Nat) (xs : Nat → Int32) : ll_OK1 cX6_pushFactors RX6 none false ll_mN ll_mR ll_mK ll_cnt L xs false 4 (.inl (lo_iload 5 1)) := lk_iload_n (k := 1) (by decide +kernel) rfl
theorem k_66_5 (L : Nat) (xs : Nat → Int32) : ll_OK1 cX6_pushFactors RX6 none false ll_mN ll_mR ll_mK ll_cnt L xs false 5 (.inr (.inl (81, 2, 8))) := ⟨rfl, by decide, by rw [mN_81, mK_81, mR_81]; exact lj_v 117 1 8 (RX8, TX8, 10) (by decide +kernel) tb_327 tb_328 tb_329 rfl rfl rfl rfl (by decide +kernel)⟩
theorem k_66_8 (L : Nat) (xs : Nat → Int32) : ll_OK1 cX6_pushFactors RX6 none false ll_mN ll_mR ll_mK ll_cnt L xs false 8 (.inl (lo_push 9 (.int 2))) := lk_iconst (n := 2) (by decide +kernel) (by decide)
theorem k_66_9 (L : Nat) (xs : Nat → Int32) : ll_OK1 cX6_pushFactors RX6 none false ll_mN ll_mR ll_mK ll_cnt L xs false 9 (.inl (lo_cmp 49 12 (fun x y => decide (¬ x = y)))) := lk_icmp_ne (off := 40) (by decide +kernel) rfl
theorem k_66_12 (L : Nat) (xs : Nat → Int32) : ll_OK1 cX6_pushFactors RX6 none false ll_mN ll_mR ll_mK ll_cnt L xs false 12 (.inl (lo_aload 13 0)) := lk_aload_n (k := 0) (by decide +kernel) rfl
theorem k_66_13 (L : Nat) (xs : Nat → Int32) : ll_OK1 cX6_pushFactors RX6 none false ll_mN ll_mR ll_mK ll_cnt L xs false 13 (.inl (lo_getf 16 6 0)) := lk_getf (ix := 30) (ci := 6) (k := 0) (C := RX6) (T := TX6) (N := 8) (by decide +kernel) rfl in_6 (by decide) tb_272
theorem k_66_16 (L : Nat) (xs : Nat → Int32) : ll_OK1 cX6_pushFactors RX6 none false ll_mN ll_mR ll_mK ll_cnt L xs false 16 (.inl (lo_iload 17 1)) := lk_iload_n (k := 1) (by decide +kernel) rfl
theorem k_66_17 (L : Nat) (xs : Nat → Int32) : ll_OK1 cX6_pushFactors RX6 none false ll_mN ll_mR ll_mK ll_cnt L xs false 17 (.inr (.inl (82, 2, 20))) := ⟨rfl, by decide, by rw [mN_82, mK_82, mR_82]; exact lj_v 120 1 8 (RX8, TX8, 10) (by decide +kernel) tb_330 tb_331 tb_332 rfl rfl rfl rfl (by decide +kernel)⟩
theorem k_66_20 (L : Nat) (xs : Nat → Int32) : ll_OK1 cX6_pushFactors RX6 none false ll_mN ll_mR ll_mK ll_cnt L xs false 20 (.inl (lo_push 21 (.int 1))) := lk_iconst (n := 1) (by decide +kernel) (by decide)
theorem k_66_21 (L : Nat) (xs : Nat → Int32) : ll_OK1 cX6_pushFactors RX6 none false ll_mN ll_mR ll_mK ll_cnt L xs false 21 (.inl (lo_bin 22 (fun x y => x - y))) := lk_isub (by decide +kernel)
theorem k_66_22 (L : Nat) (xs : Nat → Int32) : ll_OK1 cX6_pushFactors RX6 none false ll_mN ll_mR ll_mK ll_cnt L xs false 22 (.inl (lo_istore 23 2)) := lk_istore_n (k := 2) (by decide +kernel) rfl
theorem k_66_23 (L : Nat) (xs : Nat → Int32) : ll_OK1 cX6_pushFactors RX6 none false ll_mN ll_mR ll_mK ll_cnt L xs false 23 (.inl (lo_iload 24 2)) := lk_iload_n (k := 2) (by decide +kernel) rfl
theorem k_66_24 (L : Nat) (xs : Nat → Int32) : ll_OK1 cX6_pushFactors RX6 none false ll_mN ll_mR ll_mK ll_cnt L xs false 24 (.inl (lo_if 46 27 (fun x => decide (x < 0)))) := lk_if_lt (off := 22) (by decide +kernel) rfl
theorem k_66_27 (L : Nat) (xs : Nat → Int32) : ll_OK1 cX6_pushFactors RX6 none false ll_mN ll_mR ll_mK ll_cnt L xs false 27 (.inl (lo_aload 28 0)) := lk_aload_n (k := 0) (by decide +kernel) rfl
theorem k_66_28 (L : Nat) (xs : Nat → Int32) : ll_OK1 cX6_pushFactors RX6 none false ll_mN ll_mR ll_mK ll_cnt L xs false 28 (.inl (lo_aload 29 0)) := lk_aload_n (k := 0) (by decide +kernel) rfl
theorem k_66_29 (L : Nat) (xs : Nat → Int32) : ll_OK1 cX6_pushFactors RX6 none false ll_mN ll_mR ll_mK ll_cnt L xs false 29 (.inl (lo_getf 32 6 0)) := lk_getf (ix := 30) (ci := 6) (k := 0) (C := RX6) (T := TX6) (N := 8) (by decide +kernel) rfl in_6 (by decide) tb_272
theorem k_66_32 (L : Nat) (xs : Nat → Int32) : ll_OK1 cX6_pushFactors RX6 none false ll_mN ll_mR ll_mK ll_cnt L xs false 32 (.inl (lo_iload 33 1)) := lk_iload_n (k := 1) (by decide +kernel) rfl
theorem k_66_33 (L : Nat) (xs : Nat → Int32) : ll_OK1 cX6_pushFactors RX6 none false ll_mN ll_mR ll_mK ll_cnt L xs false 33 (.inl (lo_iload 34 2)) := lk_iload_n (k := 2) (by decide +kernel) rfl
theorem k_66_34 (L : Nat) (xs : Nat → Int32) : ll_OK1 cX6_pushFactors RX6 none false ll_mN ll_mR ll_mK ll_cnt L xs false 34 (.inr (.inl (83, 3, 37))) := ⟨rfl, by decide, by rw [mN_83, mK_83, mR_83]; exact lj_v 123 2 8 (RX8, TX8, 10) (by decide +kernel) tb_333 tb_334 tb_335 rfl rfl rfl rfl (by decide +kernel)⟩
theorem k_66_37 (L : Nat) (xs : Nat → Int32) : ll_OK1 cX6_pushFactors RX6 none false ll_mN ll_mR ll_mK ll_cnt L xs false 37 (.inr (.inl (67, 2, 40))) := ⟨rfl, by decide, by rw [mN_67, mK_67, mR_67]; exact lj_v 107 1 6 (RX6, TX6, 8) (by decide +kernel) tb_318 tb_319 tb_320 rfl rfl rfl rfl (by decide +kernel)⟩
theorem k_66_40 (L : Nat) (xs : Nat → Int32) : ll_OK1 cX6_pushFactors RX6 none false ll_mN ll_mR ll_mK ll_cnt L xs false 40 (.inl (lo_iinc 43 2 (-1))) := lk_iinc (n := (-1)) (by decide +kernel) (by decide)
theorem k_66_43 (L : Nat) (xs : Nat → Int32) : ll_OK1 cX6_pushFactors RX6 none false ll_mN ll_mR ll_mK ll_cnt L xs false 43 (.inl (lo_goto 23)) := lk_goto (off := (-20)) (by decide +kernel) rfl
theorem k_66_46 (L : Nat) (xs : Nat → Int32) : ll_OK1 cX6_pushFactors RX6 none false ll_mN ll_mR ll_mK ll_cnt L xs false 46 (.inl (lo_goto 59)) := lk_goto (off := 13) (by decide +kernel) rfl
theorem k_66_49 (L : Nat) (xs : Nat → Int32) : ll_OK1 cX6_pushFactors RX6 none false ll_mN ll_mR ll_mK ll_cnt L xs false 49 (.inl (lo_iload 50 1)) := lk_iload_n (k := 1) (by decide +kernel) rfl
theorem k_66_50 (L : Nat) (xs : Nat → Int32) : ll_OK1 cX6_pushFactors RX6 none false ll_mN ll_mR ll_mK ll_cnt L xs false 50 (.inl (lo_push 51 (.int 1))) := lk_iconst (n := 1) (by decide +kernel) (by decide)
theorem k_66_51 (L : Nat) (xs : Nat → Int32) : ll_OK1 cX6_pushFactors RX6 none false ll_mN ll_mR ll_mK ll_cnt L xs false 51 (.inl (lo_cmp 59 54 (fun x y => decide (x = y)))) := lk_icmp_eq (off := 8) (by decide +kernel) rfl
theorem k_66_54 (L : Nat) (xs : Nat → Int32) : ll_OK1 cX6_pushFactors RX6 none false ll_mN ll_mR ll_mK ll_cnt L xs false 54 (.inl (lo_aload 55 0)) := lk_aload_n (k := 0) (by decide +kernel) rfl
theorem k_66_55 (L : Nat) (xs : Nat → Int32) : ll_OK1 cX6_pushFactors RX6 none false ll_mN ll_mR ll_mK ll_cnt L xs false 55 (.inl (lo_iload 56 1)) := lk_iload_n (k := 1) (by decide +kernel) rfl
theorem k_66_56 (L : Nat) (xs : Nat → Int32) : ll_OK1 cX6_pushFactors RX6 none false ll_mN ll_mR ll_mK ll_cnt L xs false 56 (.inr (.inl (67, 2, 59))) := ⟨rfl, by decide, by rw [mN_67, mK_67, mR_67]; exact lj_v 107 1 6 (RX6, TX6, 8) (by decide +kernel) tb_318 tb_319 tb_320 rfl rfl rfl rfl (by decide +kernel)⟩
theorem k_66_59 (L : Nat) (xs : Nat → Int32) : ll_OK1 cX6_pushFactors RX6 none false ll_mN ll_mR ll_mK ll_cnt L xs false 59 (.inr (.inr 0)) := ⟨fun _ => ⟨(by decide +kernel), rfl⟩, (fun h => by cases h), fun h => by cases h⟩
theorem ok_66 (L : Nat) (xs : Nat → Int32) : ∀ q ∈ cd_66, ll_OK1 cX6_pushFactors RX6 none false ll_mN ll_mR ll_mK ll_cnt L xs false q.1 q.2 :=
  List.forall_mem_cons.mpr ⟨k_66_0 L xs, List.forall_mem_cons.mpr ⟨k_66_1 L xs, List.forall_mem_cons.mpr ⟨k_66_4 L xs, List.forall_mem_cons.mpr ⟨k_66_5 L xs, List.forall_mem_cons.mpr ⟨k_66_8 L xs, List.forall_mem_cons.mpr ⟨k_66_9 L xs, List.forall_mem_cons.mpr ⟨k_66_12 L xs, List.forall_mem_cons.mpr ⟨k_66_13 L xs, List.forall_mem_cons.mpr ⟨k_66_16 L xs, List.forall_mem_cons.mpr ⟨k_66_17 L xs, List.forall_mem_cons.mpr ⟨k_66_20 L xs, List.forall_mem_cons.mpr ⟨k_66_21 L xs, List.forall_mem_cons.mpr ⟨k_66_22 L xs, List.forall_mem_cons.mpr ⟨k_66_23 L xs, List.forall_mem_cons.mpr ⟨k_66_24 L xs, List.forall_mem_cons.mpr ⟨k_66_27 L xs, List.forall_mem_cons.mpr ⟨k_66_28 L xs, List.forall_mem_cons.mpr ⟨k_66_29 L xs, List.forall_mem_cons.mpr ⟨k_66_32 L xs, List.forall_mem_cons.mpr ⟨k_66_33 L xs, List.forall_mem_cons.mpr ⟨k_66_34 L xs, List.forall_mem_cons.mpr ⟨k_66_37 L xs, List.forall_mem_cons.mpr ⟨k_66_40 L xs, List.forall_mem_cons.mpr ⟨k_66_43 L xs, List.forall_mem_cons.mpr ⟨k_66_46 L xs, List.forall_mem_cons.mpr ⟨k_66_49 L xs, List.forall_mem_cons.mpr ⟨k_66_50 L xs, List.forall_mem_cons.mpr ⟨k_66_51 L xs, List.forall_mem_cons.mpr ⟨k_66_54 L xs, List.forall_mem_cons.mpr ⟨k_66_55 L xs, List.forall_mem_cons.mpr ⟨k_66_56 L xs, List.forall_mem_cons.mpr ⟨k_66_59 L xs, fun _ h => absurd h List.not_mem_nil⟩⟩⟩⟩⟩⟩⟩⟩⟩⟩⟩⟩⟩⟩⟩⟩⟩⟩⟩⟩⟩⟩⟩⟩⟩⟩⟩⟩⟩⟩⟩⟩
/-- InclusionProver$TermFinder.push.(I)V -/
def cd_67 : List (Nat × ll_O) := [
  (0, .inl (lo_aload 1 0)),
  (1, .inl (lo_getf 4 6 5)),
  (4, .inl (lo_push 7 (.int 192))),
  (7, .inl (lo_cmp 30 10 (fun x y => decide (y ≤ x)))),
  (10, .inl (lo_aload 11 0)),
  (11, .inl (lo_getf 14 6 3)),
  (14, .inl (lo_aload 15 0)),
  (15, .inl (lo_getf 18 6 5)),
  (18, .inl (lo_iload 19 1)),
  (19, .inl (lo_ast 20 0)),
  (20, .inl (lo_aload 21 0)),
  (21, .inl (lo_dup 22)),
  (22, .inl (lo_getf 25 6 5)),
  (25, .inl (lo_push 26 (.int 1))),
  (26, .inl (lo_bin 27 (fun x y => x + y))),
  (27, .inl (lo_putf 30 6 5 0)),
  (30, .inr (.inr 0))]
theorem k_67_0 (L : Nat) (xs : Nat → Int32) : ll_OK1 cX6_push RX6 none false ll_mN ll_mR ll_mK ll_cnt L xs false 0 (.inl (lo_aload 1 0)) := lk_aload_n (k := 0) (by decide +kernel) rfl
theorem k_67_1 (L : Nat) (xs : Nat → Int32) : ll_OK1 cX6_push RX6 none false ll_mN ll_mR ll_mK ll_cnt L xs false 1 (.inl (lo_getf 4 6 5)) := lk_getf (ix := 69) (ci := 6) (k := 5) (C := RX6) (T := TX6) (N := 8) (by decide +kernel) rfl in_6 (by decide) tb_291
theorem k_67_4 (L : Nat) (xs : Nat → Int32) : ll_OK1 cX6_push RX6 none false ll_mN ll_mR ll_mK ll_cnt L xs false 4 (.inl (lo_push 7 (.int 192))) := lk_sipush (n := 192) (by decide +kernel) (by decide)
theorem k_67_7 (L : Nat) (xs : Nat → Int32) : ll_OK1 cX6_push RX6 none false ll_mN ll_mR ll_mK ll_cnt L xs false 7 (.inl (lo_cmp 30 10 (fun x y => decide (y ≤ x)))) := lk_icmp_ge (off := 23) (by decide +kernel) rfl
theorem k_67_10 (L : Nat) (xs : Nat → Int32) : ll_OK1 cX6_push RX6 none false ll_mN ll_mR ll_mK ll_cnt L xs false 10 (.inl (lo_aload 11 0)) := lk_aload_n (k := 0) (by decide +kernel) rfl
theorem k_67_11 (L : Nat) (xs : Nat → Int32) : ll_OK1 cX6_push RX6 none false ll_mN ll_mR ll_mK ll_cnt L xs false 11 (.inl (lo_getf 14 6 3)) := lk_getf (ix := 18) (ci := 6) (k := 3) (C := RX6) (T := TX6) (N := 8) (by decide +kernel) rfl in_6 (by decide) tb_268
theorem k_67_14 (L : Nat) (xs : Nat → Int32) : ll_OK1 cX6_push RX6 none false ll_mN ll_mR ll_mK ll_cnt L xs false 14 (.inl (lo_aload 15 0)) := lk_aload_n (k := 0) (by decide +kernel) rfl
theorem k_67_15 (L : Nat) (xs : Nat → Int32) : ll_OK1 cX6_push RX6 none false ll_mN ll_mR ll_mK ll_cnt L xs false 15 (.inl (lo_getf 18 6 5)) := lk_getf (ix := 69) (ci := 6) (k := 5) (C := RX6) (T := TX6) (N := 8) (by decide +kernel) rfl in_6 (by decide) tb_291
theorem k_67_18 (L : Nat) (xs : Nat → Int32) : ll_OK1 cX6_push RX6 none false ll_mN ll_mR ll_mK ll_cnt L xs false 18 (.inl (lo_iload 19 1)) := lk_iload_n (k := 1) (by decide +kernel) rfl
theorem k_67_19 (L : Nat) (xs : Nat → Int32) : ll_OK1 cX6_push RX6 none false ll_mN ll_mR ll_mK ll_cnt L xs false 19 (.inl (lo_ast 20 0)) := lk_iast (by decide +kernel)
theorem k_67_20 (L : Nat) (xs : Nat → Int32) : ll_OK1 cX6_push RX6 none false ll_mN ll_mR ll_mK ll_cnt L xs false 20 (.inl (lo_aload 21 0)) := lk_aload_n (k := 0) (by decide +kernel) rfl
theorem k_67_21 (L : Nat) (xs : Nat → Int32) : ll_OK1 cX6_push RX6 none false ll_mN ll_mR ll_mK ll_cnt L xs false 21 (.inl (lo_dup 22)) := lk_dup (by decide +kernel)
theorem k_67_22 (L : Nat) (xs : Nat → Int32) : ll_OK1 cX6_push RX6 none false ll_mN ll_mR ll_mK ll_cnt L xs false 22 (.inl (lo_getf 25 6 5)) := lk_getf (ix := 69) (ci := 6) (k := 5) (C := RX6) (T := TX6) (N := 8) (by decide +kernel) rfl in_6 (by decide) tb_291
theorem k_67_25 (L : Nat) (xs : Nat → Int32) : ll_OK1 cX6_push RX6 none false ll_mN ll_mR ll_mK ll_cnt L xs false 25 (.inl (lo_push 26 (.int 1))) := lk_iconst (n := 1) (by decide +kernel) (by decide)
theorem k_67_26 (L : Nat) (xs : Nat → Int32) : ll_OK1 cX6_push RX6 none false ll_mN ll_mR ll_mK ll_cnt L xs false 26 (.inl (lo_bin 27 (fun x y => x + y))) := lk_iadd (by decide +kernel)
theorem k_67_27 (L : Nat) (xs : Nat → Int32) : ll_OK1 cX6_push RX6 none false ll_mN ll_mR ll_mK ll_cnt L xs false 27 (.inl (lo_putf 30 6 5 0)) := lk_putf (ix := 69) (ci := 6) (k := 5) (C := RX6) (T := TX6) (N := 8) (ty0 := tyX6) (by decide +kernel) rfl in_6 tyX6_ok nmX6 (by decide) tb_291 (fun B adr v w h1 h2 => ll_fit_int (B := B) (adr := adr) h1 h2) (Or.inl rfl)
theorem k_67_30 (L : Nat) (xs : Nat → Int32) : ll_OK1 cX6_push RX6 none false ll_mN ll_mR ll_mK ll_cnt L xs false 30 (.inr (.inr 0)) := ⟨fun _ => ⟨(by decide +kernel), rfl⟩, (fun h => by cases h), fun h => by cases h⟩
theorem ok_67 (L : Nat) (xs : Nat → Int32) : ∀ q ∈ cd_67, ll_OK1 cX6_push RX6 none false ll_mN ll_mR ll_mK ll_cnt L xs false q.1 q.2 :=
  List.forall_mem_cons.mpr ⟨k_67_0 L xs, List.forall_mem_cons.mpr ⟨k_67_1 L xs, List.forall_mem_cons.mpr ⟨k_67_4 L xs, List.forall_mem_cons.mpr ⟨k_67_7 L xs, List.forall_mem_cons.mpr ⟨k_67_10 L xs, List.forall_mem_cons.mpr ⟨k_67_11 L xs, List.forall_mem_cons.mpr ⟨k_67_14 L xs, List.forall_mem_cons.mpr ⟨k_67_15 L xs, List.forall_mem_cons.mpr ⟨k_67_18 L xs, List.forall_mem_cons.mpr ⟨k_67_19 L xs, List.forall_mem_cons.mpr ⟨k_67_20 L xs, List.forall_mem_cons.mpr ⟨k_67_21 L xs, List.forall_mem_cons.mpr ⟨k_67_22 L xs, List.forall_mem_cons.mpr ⟨k_67_25 L xs, List.forall_mem_cons.mpr ⟨k_67_26 L xs, List.forall_mem_cons.mpr ⟨k_67_27 L xs, List.forall_mem_cons.mpr ⟨k_67_30 L xs, fun _ h => absurd h List.not_mem_nil⟩⟩⟩⟩⟩⟩⟩⟩⟩⟩⟩⟩⟩⟩⟩⟩⟩
/-- InclusionProver$TermFinder.numberOfTerm.()I -/
def cd_68 : List (Nat × ll_O) := [
  (0, .inl (lo_push 1 (.int 0))),
  (1, .inl (lo_istore 2 1)),
  (2, .inl (lo_iload 3 1)),
  (3, .inl (lo_aload 4 0)),
  (4, .inl (lo_getf 7 6 6)),
  (7, .inl (lo_cmp 26 10 (fun x y => decide (y ≤ x)))),
  (10, .inl (lo_aload 11 0)),
  (11, .inl (lo_iload 12 1)),
  (12, .inr (.inl (69, 2, 15))),
  (15, .inl (lo_if 20 18 (fun x => decide (x = 0)))),
  (18, .inl (lo_iload 19 1)),
  (19, .inr (.inr 1)),
  (20, .inl (lo_iinc 23 1 1)),
  (23, .inl (lo_goto 2)),
  (26, .inl (lo_aload 27 0)),
  (27, .inl (lo_getf 30 6 6)),
  (30, .inl (lo_push 32 (.int 31))),
  (32, .inl (lo_cmp 44 35 (fun x y => decide (y ≤ x)))),
  (35, .inl (lo_aload 36 0)),
  (36, .inl (lo_getf 39 6 5)),
  (39, .inl (lo_push 41 (.int 64))),
  (41, .inl (lo_cmp 46 44 (fun x y => decide (x ≤ y)))),
  (44, .inl (lo_push 45 (.int (-1)))),
  (45, .inr (.inr 1)),
  (46, .inl (lo_aload 47 0)),
  (47, .inl (lo_getf 50 6 6)),
  (50, .inl (lo_istore 51 1)),
  (51, .inl (lo_aload 52 0)),
  (52, .inl (lo_dup 53)),
  (53, .inl (lo_getf 56 6 6)),
  (56, .inl (lo_push 57 (.int 1))),
  (57, .inl (lo_bin 58 (fun x y => x + y))),
  (58, .inl (lo_putf 61 6 6 0)),
  (61, .inl (lo_aload 62 0)),
  (62, .inl (lo_getf 65 6 2)),
  (65, .inl (lo_iload 66 1)),
  (66, .inl (lo_aload 67 0)),
  (67, .inl (lo_getf 70 6 5)),
  (70, .inl (lo_ast 71 0)),
  (71, .inl (lo_push 72 (.int 0))),
  (72, .inl (lo_istore 73 2)),
  (73, .inl (lo_iload 74 2)),
  (74, .inl (lo_aload 75 0)),
  (75, .inl (lo_getf 78 6 5)),
  (78, .inl (lo_cmp 111 81 (fun x y => decide (y ≤ x)))),
  (81, .inl (lo_aload 82 0)),
  (82, .inl (lo_getf 85 6 1)),
  (85, .inl (lo_iload 86 1)),
  (86, .inl (lo_push 88 (.int 64))),
  (88, .inl (lo_bin 89 (fun x y => x * y))),
  (89, .inl (lo_iload 90 2)),
  (90, .inl (lo_bin 91 (fun x y => x + y))),
  (91, .inl (lo_aload 92 0)),
  (92, .inl (lo_getf 95 6 3)),
  (95, .inl (lo_aload 96 0)),
  (96, .inl (lo_getf 99 6 5)),
  (99, .inl (lo_push 100 (.int 1))),
  (100, .inl (lo_bin 101 (fun x y => x - y))),
  (101, .inl (lo_iload 102 2)),
  (102, .inl (lo_bin 103 (fun x y => x - y))),
  (103, .inl (lo_ald 104 0)),
  (104, .inl (lo_ast 105 0)),
  (105, .inl (lo_iinc 108 2 1)),
  (108, .inl (lo_goto 73)),
  (111, .inl (lo_iload 112 1)),
  (112, .inr (.inr 1))]
theorem k_68_0 (L : Nat) (xs : Nat → Int32) : ll_OK1 cX6_numberOfTerm RX6 (some .int) false ll_mN ll_mR ll_mK ll_cnt L xs false 0 (.inl (lo_push 1 (.int 0))) := lk_iconst (n := 0) (by decide +kernel) (by decide)
theorem k_68_1 (L : Nat) (xs : Nat → Int32) : ll_OK1 cX6_numberOfTerm RX6 (some .int) false ll_mN ll_mR ll_mK ll_cnt L xs false 1 (.inl (lo_istore 2 1)) := lk_istore_n (k := 1) (by decide +kernel) rfl
theorem k_68_2 (L : Nat) (xs : Nat → Int32) : ll_OK1 cX6_numberOfTerm RX6 (some .int) false ll_mN ll_mR ll_mK ll_cnt L xs false 2 (.inl (lo_iload 3 1)) := lk_iload_n (k := 1) (by decide +kernel) rfl
theorem k_68_3 (L : Nat) (xs : Nat → Int32) : ll_OK1 cX6_numberOfTerm RX6 (some .int) false ll_mN ll_mR ll_mK ll_cnt L xs false 3 (.inl (lo_aload 4 0)) := lk_aload_n (k := 0) (by decide +kernel) rfl
theorem k_68_4 (L : Nat) (xs : Nat → Int32) : ll_OK1 cX6_numberOfTerm RX6 (some .int) false ll_mN ll_mR ll_mK ll_cnt L xs false 4 (.inl (lo_getf 7 6 6)) := lk_getf (ix := 66) (ci := 6) (k := 6) (C := RX6) (T := TX6) (N := 8) (by decide +kernel) rfl in_6 (by decide) tb_290
theorem k_68_7 (L : Nat) (xs : Nat → Int32) : ll_OK1 cX6_numberOfTerm RX6 (some .int) false ll_mN ll_mR ll_mK ll_cnt L xs false 7 (.inl (lo_cmp 26 10 (fun x y => decide (y ≤ x)))) := lk_icmp_ge (off := 19) (by decide +kernel) rfl
theorem k_68_10 (L : Nat) (xs : Nat → Int32) : ll_OK1 cX6_numberOfTerm RX6 (some .int) false ll_mN ll_mR ll_mK ll_cnt L xs false 10 (.inl (lo_aload 11 0)) := lk_aload_n (k := 0) (by decide +kernel) rfl
theorem k_68_11 (L : Nat) (xs : Nat → Int32) : ll_OK1 cX6_numberOfTerm RX6 (some .int) false ll_mN ll_mR ll_mK ll_cnt L xs false 11 (.inl (lo_iload 12 1)) := lk_iload_n (k := 1) (by decide +kernel) rfl
theorem k_68_12 (L : Nat) (xs : Nat → Int32) : ll_OK1 cX6_numberOfTerm RX6 (some .int) false ll_mN ll_mR ll_mK ll_cnt L xs false 12 (.inr (.inl (69, 2, 15))) := ⟨rfl, by decide, by rw [mN_69, mK_69, mR_69]; exact lj_v 130 1 6 (RX6, TX6, 8) (by decide +kernel) tb_339 tb_340 tb_341 rfl rfl rfl rfl (by decide +kernel)⟩
theorem k_68_15 (L : Nat) (xs : Nat → Int32) : ll_OK1 cX6_numberOfTerm RX6 (some .int) false ll_mN ll_mR ll_mK ll_cnt L xs false 15 (.inl (lo_if 20 18 (fun x => decide (x = 0)))) := lk_if_eq (off := 5) (by decide +kernel) rfl
theorem k_68_18 (L : Nat) (xs : Nat → Int32) : ll_OK1 cX6_numberOfTerm RX6 (some .int) false ll_mN ll_mR ll_mK ll_cnt L xs false 18 (.inl (lo_iload 19 1)) := lk_iload_n (k := 1) (by decide +kernel) rfl
theorem k_68_19 (L : Nat) (xs : Nat → Int32) : ll_OK1 cX6_numberOfTerm RX6 (some .int) false ll_mN ll_mR ll_mK ll_cnt L xs false 19 (.inr (.inr 1)) := ⟨(fun h => by cases h), (fun _ => ⟨(by decide +kernel), rfl⟩), fun h => by cases h⟩
theorem k_68_20 (L : Nat) (xs : Nat → Int32) : ll_OK1 cX6_numberOfTerm RX6 (some .int) false ll_mN ll_mR ll_mK ll_cnt L xs false 20 (.inl (lo_iinc 23 1 1)) := lk_iinc (n := 1) (by decide +kernel) (by decide)
theorem k_68_23 (L : Nat) (xs : Nat → Int32) : ll_OK1 cX6_numberOfTerm RX6 (some .int) false ll_mN ll_mR ll_mK ll_cnt L xs false 23 (.inl (lo_goto 2)) := lk_goto (off := (-21)) (by decide +kernel) rfl
theorem k_68_26 (L : Nat) (xs : Nat → Int32) : ll_OK1 cX6_numberOfTerm RX6 (some .int) false ll_mN ll_mR ll_mK ll_cnt L xs false 26 (.inl (lo_aload 27 0)) := lk_aload_n (k := 0) (by decide +kernel) rfl
theorem k_68_27 (L : Nat) (xs : Nat → Int32) : ll_OK1 cX6_numberOfTerm RX6 (some .int) false ll_mN ll_mR ll_mK ll_cnt L xs false 27 (.inl (lo_getf 30 6 6)) := lk_getf (ix := 66) (ci := 6) (k := 6) (C := RX6) (T := TX6) (N := 8) (by decide +kernel) rfl in_6 (by decide) tb_290
theorem k_68_30 (L : Nat) (xs : Nat → Int32) : ll_OK1 cX6_numberOfTerm RX6 (some .int) false ll_mN ll_mR ll_mK ll_cnt L xs false 30 (.inl (lo_push 32 (.int 31))) := lk_bipush (n := 31) (by decide +kernel) (by decide)
theorem k_68_32 (L : Nat) (xs : Nat → Int32) : ll_OK1 cX6_numberOfTerm RX6 (some .int) false ll_mN ll_mR ll_mK ll_cnt L xs false 32 (.inl (lo_cmp 44 35 (fun x y => decide (y ≤ x)))) := lk_icmp_ge (off := 12) (by decide +kernel) rfl
theorem k_68_35 (L : Nat) (xs : Nat → Int32) : ll_OK1 cX6_numberOfTerm RX6 (some .int) false ll_mN ll_mR ll_mK ll_cnt L xs false 35 (.inl (lo_aload 36 0)) := lk_aload_n (k := 0) (by decide +kernel) rfl
theorem k_68_36 (L : Nat) (xs : Nat → Int32) : ll_OK1 cX6_numberOfTerm RX6 (some .int) false ll_mN ll_mR ll_mK ll_cnt L xs false 36 (.inl (lo_getf 39 6 5)) := lk_getf (ix := 69) (ci := 6) (k := 5) (C := RX6) (T := TX6) (N := 8) (by decide +kernel) rfl in_6 (by decide) tb_291
theorem k_68_39 (L : Nat) (xs : Nat → Int32) : ll_OK1 cX6_numberOfTerm RX6 (some .int) false ll_mN ll_mR ll_mK ll_cnt L xs false 39 (.inl (lo_push 41 (.int 64))) := lk_bipush (n := 64) (by decide +kernel) (by decide)
theorem k_68_41 (L : Nat) (xs : Nat → Int32) : ll_OK1 cX6_numberOfTerm RX6 (some .int) false ll_mN ll_mR ll_mK ll_cnt L xs false 41 (.inl (lo_cmp 46 44 (fun x y => decide (x ≤ y)))) := lk_icmp_le (off := 5) (by decide +kernel) rfl
theorem k_68_44 (L : Nat) (xs : Nat → Int32) : ll_OK1 cX6_numberOfTerm RX6 (some .int) false ll_mN ll_mR ll_mK ll_cnt L xs false 44 (.inl (lo_push 45 (.int (-1)))) := lk_iconst (n := (-1)) (by decide +kernel) (by decide)
theorem k_68_45 (L : Nat) (xs : Nat → Int32) : ll_OK1 cX6_numberOfTerm RX6 (some .int) false ll_mN ll_mR ll_mK ll_cnt L xs false 45 (.inr (.inr 1)) := ⟨(fun h => by cases h), (fun _ => ⟨(by decide +kernel), rfl⟩), fun h => by cases h⟩
theorem k_68_46 (L : Nat) (xs : Nat → Int32) : ll_OK1 cX6_numberOfTerm RX6 (some .int) false ll_mN ll_mR ll_mK ll_cnt L xs false 46 (.inl (lo_aload 47 0)) := lk_aload_n (k := 0) (by decide +kernel) rfl
theorem k_68_47 (L : Nat) (xs : Nat → Int32) : ll_OK1 cX6_numberOfTerm RX6 (some .int) false ll_mN ll_mR ll_mK ll_cnt L xs false 47 (.inl (lo_getf 50 6 6)) := lk_getf (ix := 66) (ci := 6) (k := 6) (C := RX6) (T := TX6) (N := 8) (by decide +kernel) rfl in_6 (by decide) tb_290
theorem k_68_50 (L : Nat) (xs : Nat → Int32) : ll_OK1 cX6_numberOfTerm RX6 (some .int) false ll_mN ll_mR ll_mK ll_cnt L xs false 50 (.inl (lo_istore 51 1)) := lk_istore_n (k := 1) (by decide +kernel) rfl
theorem k_68_51 (L : Nat) (xs : Nat → Int32) : ll_OK1 cX6_numberOfTerm RX6 (some .int) false ll_mN ll_mR ll_mK ll_cnt L xs false 51 (.inl (lo_aload 52 0)) := lk_aload_n (k := 0) (by decide +kernel) rfl
theorem k_68_52 (L : Nat) (xs : Nat → Int32) : ll_OK1 cX6_numberOfTerm RX6 (some .int) false ll_mN ll_mR ll_mK ll_cnt L xs false 52 (.inl (lo_dup 53)) := lk_dup (by decide +kernel)
theorem k_68_53 (L : Nat) (xs : Nat → Int32) : ll_OK1 cX6_numberOfTerm RX6 (some .int) false ll_mN ll_mR ll_mK ll_cnt L xs false 53 (.inl (lo_getf 56 6 6)) := lk_getf (ix := 66) (ci := 6) (k := 6) (C := RX6) (T := TX6) (N := 8) (by decide +kernel) rfl in_6 (by decide) tb_290
theorem k_68_56 (L : Nat) (xs : Nat → Int32) : ll_OK1 cX6_numberOfTerm RX6 (some .int) false ll_mN ll_mR ll_mK ll_cnt L xs false 56 (.inl (lo_push 57 (.int 1))) := lk_iconst (n := 1) (by decide +kernel) (by decide)
theorem k_68_57 (L : Nat) (xs : Nat → Int32) : ll_OK1 cX6_numberOfTerm RX6 (some .int) false ll_mN ll_mR ll_mK ll_cnt L xs false 57 (.inl (lo_bin 58 (fun x y => x + y))) := lk_iadd (by decide +kernel)
theorem k_68_58 (L : Nat) (xs : Nat → Int32) : ll_OK1 cX6_numberOfTerm RX6 (some .int) false ll_mN ll_mR ll_mK ll_cnt L xs false 58 (.inl (lo_putf 61 6 6 0)) := lk_putf (ix := 66) (ci := 6) (k := 6) (C := RX6) (T := TX6) (N := 8) (ty0 := tyX6) (by decide +kernel) rfl in_6 tyX6_ok nmX6 (by decide) tb_290 (fun B adr v w h1 h2 => ll_fit_int (B := B) (adr := adr) h1 h2) (Or.inl rfl)
theorem k_68_61 (L : Nat) (xs : Nat → Int32) : ll_OK1 cX6_numberOfTerm RX6 (some .int) false ll_mN ll_mR ll_mK ll_cnt L xs false 61 (.inl (lo_aload 62 0)) := lk_aload_n (k := 0) (by decide +kernel) rfl
theorem k_68_62 (L : Nat) (xs : Nat → Int32) : ll_OK1 cX6_numberOfTerm RX6 (some .int) false ll_mN ll_mR ll_mK ll_cnt L xs false 62 (.inl (lo_getf 65 6 2)) := lk_getf (ix := 15) (ci := 6) (k := 2) (C := RX6) (T := TX6) (N := 8) (by decide +kernel) rfl in_6 (by decide) tb_267
theorem k_68_65 (L : Nat) (xs : Nat → Int32) : ll_OK1 cX6_numberOfTerm RX6 (some .int) false ll_mN ll_mR ll_mK ll_cnt L xs false 65 (.inl (lo_iload 66 1)) := lk_iload_n (k := 1) (by decide +kernel) rfl
theorem k_68_66 (L : Nat) (xs : Nat → Int32) : ll_OK1 cX6_numberOfTerm RX6 (some .int) false ll_mN ll_mR ll_mK ll_cnt L xs false 66 (.inl (lo_aload 67 0)) := lk_aload_n (k := 0) (by decide +kernel) rfl
theorem k_68_67 (L : Nat) (xs : Nat → Int32) : ll_OK1 cX6_numberOfTerm RX6 (some .int) false ll_mN ll_mR ll_mK ll_cnt L xs false 67 (.inl (lo_getf 70 6 5)) := lk_getf (ix := 69) (ci := 6) (k := 5) (C := RX6) (T := TX6) (N := 8) (by decide +kernel) rfl in_6 (by decide) tb_291
theorem k_68_70 (L : Nat) (xs : Nat → Int32) : ll_OK1 cX6_numberOfTerm RX6 (some .int) false ll_mN ll_mR ll_mK ll_cnt L xs false 70 (.inl (lo_ast 71 0)) := lk_iast (by decide +kernel)
theorem k_68_71 (L : Nat) (xs : Nat → Int32) : ll_OK1 cX6_numberOfTerm RX6 (some .int) false ll_mN ll_mR ll_mK ll_cnt L xs false 71 (.inl (lo_push 72 (.int 0))) := lk_iconst (n := 0) (by decide +kernel) (by decide)
theorem k_68_72 (L : Nat) (xs : Nat → Int32) : ll_OK1 cX6_numberOfTerm RX6 (some .int) false ll_mN ll_mR ll_mK ll_cnt L xs false 72 (.inl (lo_istore 73 2)) := lk_istore_n (k := 2) (by decide +kernel) rfl
theorem k_68_73 (L : Nat) (xs : Nat → Int32) : ll_OK1 cX6_numberOfTerm RX6 (some .int) false ll_mN ll_mR ll_mK ll_cnt L xs false 73 (.inl (lo_iload 74 2)) := lk_iload_n (k := 2) (by decide +kernel) rfl
theorem k_68_74 (L : Nat) (xs : Nat → Int32) : ll_OK1 cX6_numberOfTerm RX6 (some .int) false ll_mN ll_mR ll_mK ll_cnt L xs false 74 (.inl (lo_aload 75 0)) := lk_aload_n (k := 0) (by decide +kernel) rfl
theorem k_68_75 (L : Nat) (xs : Nat → Int32) : ll_OK1 cX6_numberOfTerm RX6 (some .int) false ll_mN ll_mR ll_mK ll_cnt L xs false 75 (.inl (lo_getf 78 6 5)) := lk_getf (ix := 69) (ci := 6) (k := 5) (C := RX6) (T := TX6) (N := 8) (by decide +kernel) rfl in_6 (by decide) tb_291
theorem k_68_78 (L : Nat) (xs : Nat → Int32) : ll_OK1 cX6_numberOfTerm RX6 (some .int) false ll_mN ll_mR ll_mK ll_cnt L xs false 78 (.inl (lo_cmp 111 81 (fun x y => decide (y ≤ x)))) := lk_icmp_ge (off := 33) (by decide +kernel) rfl
theorem k_68_81 (L : Nat) (xs : Nat → Int32) : ll_OK1 cX6_numberOfTerm RX6 (some .int) false ll_mN ll_mR ll_mK ll_cnt L xs false 81 (.inl (lo_aload 82 0)) := lk_aload_n (k := 0) (by decide +kernel) rfl
theorem k_68_82 (L : Nat) (xs : Nat → Int32) : ll_OK1 cX6_numberOfTerm RX6 (some .int) false ll_mN ll_mR ll_mK ll_cnt L xs false 82 (.inl (lo_getf 85 6 1)) := lk_getf (ix := 11) (ci := 6) (k := 1) (C := RX6) (T := TX6) (N := 8) (by decide +kernel) rfl in_6 (by decide) tb_266
theorem k_68_85 (L : Nat) (xs : Nat → Int32) : ll_OK1 cX6_numberOfTerm RX6 (some .int) false ll_mN ll_mR ll_mK ll_cnt L xs false 85 (.inl (lo_iload 86 1)) := lk_iload_n (k := 1) (by decide +kernel) rfl
theorem k_68_86 (L : Nat) (xs : Nat → Int32) : ll_OK1 cX6_numberOfTerm RX6 (some .int) false ll_mN ll_mR ll_mK ll_cnt L xs false 86 (.inl (lo_push 88 (.int 64))) := lk_bipush (n := 64) (by decide +kernel) (by decide)
theorem k_68_88 (L : Nat) (xs : Nat → Int32) : ll_OK1 cX6_numberOfTerm RX6 (some .int) false ll_mN ll_mR ll_mK ll_cnt L xs false 88 (.inl (lo_bin 89 (fun x y => x * y))) := lk_imul (by decide +kernel)
theorem k_68_89 (L : Nat) (xs : Nat → Int32) : ll_OK1 cX6_numberOfTerm RX6 (some .int) false ll_mN ll_mR ll_mK ll_cnt L xs false 89 (.inl (lo_iload 90 2)) := lk_iload_n (k := 2) (by decide +kernel) rfl
theorem k_68_90 (L : Nat) (xs : Nat → Int32) : ll_OK1 cX6_numberOfTerm RX6 (some .int) false ll_mN ll_mR ll_mK ll_cnt L xs false 90 (.inl (lo_bin 91 (fun x y => x + y))) := lk_iadd (by decide +kernel)
theorem k_68_91 (L : Nat) (xs : Nat → Int32) : ll_OK1 cX6_numberOfTerm RX6 (some .int) false ll_mN ll_mR ll_mK ll_cnt L xs false 91 (.inl (lo_aload 92 0)) := lk_aload_n (k := 0) (by decide +kernel) rfl
theorem k_68_92 (L : Nat) (xs : Nat → Int32) : ll_OK1 cX6_numberOfTerm RX6 (some .int) false ll_mN ll_mR ll_mK ll_cnt L xs false 92 (.inl (lo_getf 95 6 3)) := lk_getf (ix := 18) (ci := 6) (k := 3) (C := RX6) (T := TX6) (N := 8) (by decide +kernel) rfl in_6 (by decide) tb_268
theorem k_68_95 (L : Nat) (xs : Nat → Int32) : ll_OK1 cX6_numberOfTerm RX6 (some .int) false ll_mN ll_mR ll_mK ll_cnt L xs false 95 (.inl (lo_aload 96 0)) := lk_aload_n (k := 0) (by decide +kernel) rfl
theorem k_68_96 (L : Nat) (xs : Nat → Int32) : ll_OK1 cX6_numberOfTerm RX6 (some .int) false ll_mN ll_mR ll_mK ll_cnt L xs false 96 (.inl (lo_getf 99 6 5)) := lk_getf (ix := 69) (ci := 6) (k := 5) (C := RX6) (T := TX6) (N := 8) (by decide +kernel) rfl in_6 (by decide) tb_291
theorem k_68_99 (L : Nat) (xs : Nat → Int32) : ll_OK1 cX6_numberOfTerm RX6 (some .int) false ll_mN ll_mR ll_mK ll_cnt L xs false 99 (.inl (lo_push 100 (.int 1))) := lk_iconst (n := 1) (by decide +kernel) (by decide)
theorem k_68_100 (L : Nat) (xs : Nat → Int32) : ll_OK1 cX6_numberOfTerm RX6 (some .int) false ll_mN ll_mR ll_mK ll_cnt L xs false 100 (.inl (lo_bin 101 (fun x y => x - y))) := lk_isub (by decide +kernel)
theorem k_68_101 (L : Nat) (xs : Nat → Int32) : ll_OK1 cX6_numberOfTerm RX6 (some .int) false ll_mN ll_mR ll_mK ll_cnt L xs false 101 (.inl (lo_iload 102 2)) := lk_iload_n (k := 2) (by decide +kernel) rfl
theorem k_68_102 (L : Nat) (xs : Nat → Int32) : ll_OK1 cX6_numberOfTerm RX6 (some .int) false ll_mN ll_mR ll_mK ll_cnt L xs false 102 (.inl (lo_bin 103 (fun x y => x - y))) := lk_isub (by decide +kernel)
theorem k_68_103 (L : Nat) (xs : Nat → Int32) : ll_OK1 cX6_numberOfTerm RX6 (some .int) false ll_mN ll_mR ll_mK ll_cnt L xs false 103 (.inl (lo_ald 104 0)) := lk_iald (by decide +kernel)
theorem k_68_104 (L : Nat) (xs : Nat → Int32) : ll_OK1 cX6_numberOfTerm RX6 (some .int) false ll_mN ll_mR ll_mK ll_cnt L xs false 104 (.inl (lo_ast 105 0)) := lk_iast (by decide +kernel)
theorem k_68_105 (L : Nat) (xs : Nat → Int32) : ll_OK1 cX6_numberOfTerm RX6 (some .int) false ll_mN ll_mR ll_mK ll_cnt L xs false 105 (.inl (lo_iinc 108 2 1)) := lk_iinc (n := 1) (by decide +kernel) (by decide)
theorem k_68_108 (L : Nat) (xs : Nat → Int32) : ll_OK1 cX6_numberOfTerm RX6 (some .int) false ll_mN ll_mR ll_mK ll_cnt L xs false 108 (.inl (lo_goto 73)) := lk_goto (off := (-35)) (by decide +kernel) rfl
theorem k_68_111 (L : Nat) (xs : Nat → Int32) : ll_OK1 cX6_numberOfTerm RX6 (some .int) false ll_mN ll_mR ll_mK ll_cnt L xs false 111 (.inl (lo_iload 112 1)) := lk_iload_n (k := 1) (by decide +kernel) rfl
theorem k_68_112 (L : Nat) (xs : Nat → Int32) : ll_OK1 cX6_numberOfTerm RX6 (some .int) false ll_mN ll_mR ll_mK ll_cnt L xs false 112 (.inr (.inr 1)) := ⟨(fun h => by cases h), (fun _ => ⟨(by decide +kernel), rfl⟩), fun h => by cases h⟩
theorem ok_68 (L : Nat) (xs : Nat → Int32) : ∀ q ∈ cd_68, ll_OK1 cX6_numberOfTerm RX6 (some .int) false ll_mN ll_mR ll_mK ll_cnt L xs false q.1 q.2 :=
  List.forall_mem_cons.mpr ⟨k_68_0 L xs, List.forall_mem_cons.mpr ⟨k_68_1 L xs, List.forall_mem_cons.mpr ⟨k_68_2 L xs, List.forall_mem_cons.mpr ⟨k_68_3 L xs, List.forall_mem_cons.mpr ⟨k_68_4 L xs, List.forall_mem_cons.mpr ⟨k_68_7 L xs, List.forall_mem_cons.mpr ⟨k_68_10 L xs, List.forall_mem_cons.mpr ⟨k_68_11 L xs, List.forall_mem_cons.mpr ⟨k_68_12 L xs, List.forall_mem_cons.mpr ⟨k_68_15 L xs, List.forall_mem_cons.mpr ⟨k_68_18 L xs, List.forall_mem_cons.mpr ⟨k_68_19 L xs, List.forall_mem_cons.mpr ⟨k_68_20 L xs, List.forall_mem_cons.mpr ⟨k_68_23 L xs, List.forall_mem_cons.mpr ⟨k_68_26 L xs, List.forall_mem_cons.mpr ⟨k_68_27 L xs, List.forall_mem_cons.mpr ⟨k_68_30 L xs, List.forall_mem_cons.mpr ⟨k_68_32 L xs, List.forall_mem_cons.mpr ⟨k_68_35 L xs, List.forall_mem_cons.mpr ⟨k_68_36 L xs, List.forall_mem_cons.mpr ⟨k_68_39 L xs, List.forall_mem_cons.mpr ⟨k_68_41 L xs, List.forall_mem_cons.mpr ⟨k_68_44 L xs, List.forall_mem_cons.mpr ⟨k_68_45 L xs, List.forall_mem_cons.mpr ⟨k_68_46 L xs, List.forall_mem_cons.mpr ⟨k_68_47 L xs, List.forall_mem_cons.mpr ⟨k_68_50 L xs, List.forall_mem_cons.mpr ⟨k_68_51 L xs, List.forall_mem_cons.mpr ⟨k_68_52 L xs, List.forall_mem_cons.mpr ⟨k_68_53 L xs, List.forall_mem_cons.mpr ⟨k_68_56 L xs, List.forall_mem_cons.mpr ⟨k_68_57 L xs, List.forall_mem_cons.mpr ⟨k_68_58 L xs, List.forall_mem_cons.mpr ⟨k_68_61 L xs, List.forall_mem_cons.mpr ⟨k_68_62 L xs, List.forall_mem_cons.mpr ⟨k_68_65 L xs, List.forall_mem_cons.mpr ⟨k_68_66 L xs, List.forall_mem_cons.mpr ⟨k_68_67 L xs, List.forall_mem_cons.mpr ⟨k_68_70 L xs, List.forall_mem_cons.mpr ⟨k_68_71 L xs, List.forall_mem_cons.mpr ⟨k_68_72 L xs, List.forall_mem_cons.mpr ⟨k_68_73 L xs, List.forall_mem_cons.mpr ⟨k_68_74 L xs, List.forall_mem_cons.mpr ⟨k_68_75 L xs, List.forall_mem_cons.mpr ⟨k_68_78 L xs, List.forall_mem_cons.mpr ⟨k_68_81 L xs, List.forall_mem_cons.mpr ⟨k_68_82 L xs, List.forall_mem_cons.mpr ⟨k_68_85 L xs, List.forall_mem_cons.mpr ⟨k_68_86 L xs, List.forall_mem_cons.mpr ⟨k_68_88 L xs, List.forall_mem_cons.mpr ⟨k_68_89 L xs, List.forall_mem_cons.mpr ⟨k_68_90 L xs, List.forall_mem_cons.mpr ⟨k_68_91 L xs, List.forall_mem_cons.mpr ⟨k_68_92 L xs, List.forall_mem_cons.mpr ⟨k_68_95 L xs, List.forall_mem_cons.mpr ⟨k_68_96 L xs, List.forall_mem_cons.mpr ⟨k_68_99 L xs, List.forall_mem_cons.mpr ⟨k_68_100 L xs, List.forall_mem_cons.mpr ⟨k_68_101 L xs, List.forall_mem_cons.mpr ⟨k_68_102 L xs, List.forall_mem_cons.mpr ⟨k_68_103 L xs, List.forall_mem_cons.mpr ⟨k_68_104 L xs, List.forall_mem_cons.mpr ⟨k_68_105 L xs, List.forall_mem_cons.mpr ⟨k_68_108 L xs, List.forall_mem_cons.mpr ⟨k_68_111 L xs, List.forall_mem_cons.mpr ⟨k_68_112 L xs, fun _ h => absurd h List.not_mem_nil⟩⟩⟩⟩⟩⟩⟩⟩⟩⟩⟩⟩⟩⟩⟩⟩⟩⟩⟩⟩⟩⟩⟩⟩⟩⟩⟩⟩⟩⟩⟩⟩⟩⟩⟩⟩⟩⟩⟩⟩⟩⟩⟩⟩⟩⟩⟩⟩⟩⟩⟩⟩⟩⟩⟩⟩⟩⟩⟩⟩⟩⟩⟩⟩⟩⟩
/-- InclusionProver$TermFinder.isBehind.(I)Z -/
def cd_69 : List (Nat × ll_O) := [
  (0, .inl (lo_aload 1 0)),
  (1, .inl (lo_getf 4 6 2)),
  (4, .inl (lo_iload 5 1)),
  (5, .inl (lo_ald 6 0)),
  (6, .inl (lo_aload 7 0)),
  (7, .inl (lo_getf 10 6 5)),
  (10, .inl (lo_cmp 15 13 (fun x y => decide (x = y)))),
  (13, .inl (lo_push 14 (.int 0))),
  (14, .inr (.inr 2)),
  (15, .inl (lo_push 16 (.int 0))),
  (16, .inl (lo_istore 17 2)),
  (17, .inl (lo_iload 18 2)),
  (18, .inl (lo_aload 19 0)),
  (19, .inl (lo_getf 22 6 5)),
  (22, .inl (lo_cmp 60 25 (fun x y => decide (y ≤ x)))),
  (25, .inl (lo_aload 26 0)),
  (26, .inl (lo_getf 29 6 1)),
  (29, .inl (lo_iload 30 1)),
  (30, .inl (lo_push 32 (.int 64))),
  (32, .inl (lo_bin 33 (fun x y => x * y))),
  (33, .inl (lo_iload 34 2)),
  (34, .inl (lo_bin 35 (fun x y => x + y))),
  (35, .inl (lo_ald 36 0)),
  (36, .inl (lo_aload 37 0)),
  (37, .inl (lo_getf 40 6 3)),
  (40, .inl (lo_aload 41 0)),
  (41, .inl (lo_getf 44 6 5)),
  (44, .inl (lo_push 45 (.int 1))),
  (45, .inl (lo_bin 46 (fun x y => x - y))),
  (46, .inl (lo_iload 47 2)),
  (47, .inl (lo_bin 48 (fun x y => x - y))),
  (48, .inl (lo_ald 49 0)),
  (49, .inl (lo_cmp 54 52 (fun x y => decide (x = y)))),
  (52, .inl (lo_push 53 (.int 0))),
  (53, .inr (.inr 2)),
  (54, .inl (lo_iinc 57 2 1)),
  (57, .inl (lo_goto 17)),
  (60, .inl (lo_push 61 (.int 1))),
  (61, .inr (.inr 2))]
theorem k_69_0 (L : Nat) (xs : Nat → Int32) : ll_OK1 cX6_isBehind RX6 (some .boolean) false ll_mN ll_mR ll_mK ll_cnt L xs false 0 (.inl (lo_aload 1 0)) := lk_aload_n (k := 0) (by decide +kernel) rfl
theorem k_69_1 (L : Nat) (xs : Nat → Int32) : ll_OK1 cX6_isBehind RX6 (some .boolean) false ll_mN ll_mR ll_mK ll_cnt L xs false 1 (.inl (lo_getf 4 6 2)) := lk_getf (ix := 15) (ci := 6) (k := 2) (C := RX6) (T := TX6) (N := 8) (by decide +kernel) rfl in_6 (by decide) tb_267
theorem k_69_4 (L : Nat) (xs : Nat → Int32) : ll_OK1 cX6_isBehind RX6 (some .boolean) false ll_mN ll_mR ll_mK ll_cnt L xs false 4 (.inl (lo_iload 5 1)) := lk_iload_n (k := 1) (by decide +kernel) rfl
theorem k_69_5 (L : Nat) (xs : Nat → Int32) : ll_OK1 cX6_isBehind RX6 (some .boolean) false ll_mN ll_mR ll_mK ll_cnt L xs false 5 (.inl (lo_ald 6 0)) := lk_iald (by decide +kernel)
theorem k_69_6 (L : Nat) (xs : Nat → Int32) : ll_OK1 cX6_isBehind RX6 (some .boolean) false ll_mN ll_mR ll_mK ll_cnt L xs false 6 (.inl (lo_aload 7 0)) := lk_aload_n (k := 0) (by decide +kernel) rfl
theorem k_69_7 (L : Nat) (xs : Nat → Int32) : ll_OK1 cX6_isBehind RX6 (some .boolean) false ll_mN ll_mR ll_mK ll_cnt L xs false 7 (.inl (lo_getf 10 6 5)) := lk_getf (ix := 69) (ci := 6) (k := 5) (C := RX6) (T := TX6) (N := 8) (by decide +kernel) rfl in_6 (by decide) tb_291
theorem k_69_10 (L : Nat) (xs : Nat → Int32) : ll_OK1 cX6_isBehind RX6 (some .boolean) false ll_mN ll_mR ll_mK ll_cnt L xs false 10 (.inl (lo_cmp 15 13 (fun x y => decide (x = y)))) := lk_icmp_eq (off := 5) (by decide +kernel) rfl
theorem k_69_13 (L : Nat) (xs : Nat → Int32) : ll_OK1 cX6_isBehind RX6 (some .boolean) false ll_mN ll_mR ll_mK ll_cnt L xs false 13 (.inl (lo_push 14 (.int 0))) := lk_iconst (n := 0) (by decide +kernel) (by decide)
theorem k_69_14 (L : Nat) (xs : Nat → Int32) : ll_OK1 cX6_isBehind RX6 (some .boolean) false ll_mN ll_mR ll_mK ll_cnt L xs false 14 (.inr (.inr 2)) := ⟨(fun h => by cases h), (fun h => by cases h), fun _ => ⟨(by decide +kernel), rfl⟩⟩
theorem k_69_15 (L : Nat) (xs : Nat → Int32) : ll_OK1 cX6_isBehind RX6 (some .boolean) false ll_mN ll_mR ll_mK ll_cnt L xs false 15 (.inl (lo_push 16 (.int 0))) := lk_iconst (n := 0) (by decide +kernel) (by decide)
theorem k_69_16 (L : Nat) (xs : Nat → Int32) : ll_OK1 cX6_isBehind RX6 (some .boolean) false ll_mN ll_mR ll_mK ll_cnt L xs false 16 (.inl (lo_istore 17 2)) := lk_istore_n (k := 2) (by decide +kernel) rfl
theorem k_69_17 (L : Nat) (xs : Nat → Int32) : ll_OK1 cX6_isBehind RX6 (some .boolean) false ll_mN ll_mR ll_mK ll_cnt L xs false 17 (.inl (lo_iload 18 2)) := lk_iload_n (k := 2) (by decide +kernel) rfl
theorem k_69_18 (L : Nat) (xs : Nat → Int32) : ll_OK1 cX6_isBehind RX6 (some .boolean) false ll_mN ll_mR ll_mK ll_cnt L xs false 18 (.inl (lo_aload 19 0)) := lk_aload_n (k := 0) (by decide +kernel) rfl
theorem k_69_19 (L : Nat) (xs : Nat → Int32) : ll_OK1 cX6_isBehind RX6 (some .boolean) false ll_mN ll_mR ll_mK ll_cnt L xs false 19 (.inl (lo_getf 22 6 5)) := lk_getf (ix := 69) (ci := 6) (k := 5) (C := RX6) (T := TX6) (N := 8) (by decide +kernel) rfl in_6 (by decide) tb_291
theorem k_69_22 (L : Nat) (xs : Nat → Int32) : ll_OK1 cX6_isBehind RX6 (some .boolean) false ll_mN ll_mR ll_mK ll_cnt L xs false 22 (.inl (lo_cmp 60 25 (fun x y => decide (y ≤ x)))) := lk_icmp_ge (off := 38) (by decide +kernel) rfl
theorem k_69_25 (L : Nat) (xs : Nat → Int32) : ll_OK1 cX6_isBehind RX6 (some .boolean) false ll_mN ll_mR ll_mK ll_cnt L xs false 25 (.inl (lo_aload 26 0)) := lk_aload_n (k := 0) (by decide +kernel) rfl
theorem k_69_26 (L : Nat) (xs : Nat → Int32) : ll_OK1 cX6_isBehind RX6 (some .boolean) false ll_mN ll_mR ll_mK ll_cnt L xs false 26 (.inl (lo_getf 29 6 1)) := lk_getf (ix := 11) (ci := 6) (k := 1) (C := RX6) (T := TX6) (N := 8) (by decide +kernel) rfl in_6 (by decide) tb_266
theorem k_69_29 (L : Nat) (xs : Nat → Int32) : ll_OK1 cX6_isBehind RX6 (some .boolean) false ll_mN ll_mR ll_mK ll_cnt L xs false 29 (.inl (lo_iload 30 1)) := lk_iload_n (k := 1) (by decide +kernel) rfl
theorem k_69_30 (L : Nat) (xs : Nat → Int32) : ll_OK1 cX6_isBehind RX6 (some .boolean) false ll_mN ll_mR ll_mK ll_cnt L xs false 30 (.inl (lo_push 32 (.int 64))) := lk_bipush (n := 64) (by decide +kernel) (by decide)
theorem k_69_32 (L : Nat) (xs : Nat → Int32) : ll_OK1 cX6_isBehind RX6 (some .boolean) false ll_mN ll_mR ll_mK ll_cnt L xs false 32 (.inl (lo_bin 33 (fun x y => x * y))) := lk_imul (by decide +kernel)
theorem k_69_33 (L : Nat) (xs : Nat → Int32) : ll_OK1 cX6_isBehind RX6 (some .boolean) false ll_mN ll_mR ll_mK ll_cnt L xs false 33 (.inl (lo_iload 34 2)) := lk_iload_n (k := 2) (by decide +kernel) rfl
theorem k_69_34 (L : Nat) (xs : Nat → Int32) : ll_OK1 cX6_isBehind RX6 (some .boolean) false ll_mN ll_mR ll_mK ll_cnt L xs false 34 (.inl (lo_bin 35 (fun x y => x + y))) := lk_iadd (by decide +kernel)
theorem k_69_35 (L : Nat) (xs : Nat → Int32) : ll_OK1 cX6_isBehind RX6 (some .boolean) false ll_mN ll_mR ll_mK ll_cnt L xs false 35 (.inl (lo_ald 36 0)) := lk_iald (by decide +kernel)
theorem k_69_36 (L : Nat) (xs : Nat → Int32) : ll_OK1 cX6_isBehind RX6 (some .boolean) false ll_mN ll_mR ll_mK ll_cnt L xs false 36 (.inl (lo_aload 37 0)) := lk_aload_n (k := 0) (by decide +kernel) rfl
theorem k_69_37 (L : Nat) (xs : Nat → Int32) : ll_OK1 cX6_isBehind RX6 (some .boolean) false ll_mN ll_mR ll_mK ll_cnt L xs false 37 (.inl (lo_getf 40 6 3)) := lk_getf (ix := 18) (ci := 6) (k := 3) (C := RX6) (T := TX6) (N := 8) (by decide +kernel) rfl in_6 (by decide) tb_268
theorem k_69_40 (L : Nat) (xs : Nat → Int32) : ll_OK1 cX6_isBehind RX6 (some .boolean) false ll_mN ll_mR ll_mK ll_cnt L xs false 40 (.inl (lo_aload 41 0)) := lk_aload_n (k := 0) (by decide +kernel) rfl
theorem k_69_41 (L : Nat) (xs : Nat → Int32) : ll_OK1 cX6_isBehind RX6 (some .boolean) false ll_mN ll_mR ll_mK ll_cnt L xs false 41 (.inl (lo_getf 44 6 5)) := lk_getf (ix := 69) (ci := 6) (k := 5) (C := RX6) (T := TX6) (N := 8) (by decide +kernel) rfl in_6 (by decide) tb_291
theorem k_69_44 (L : Nat) (xs : Nat → Int32) : ll_OK1 cX6_isBehind RX6 (some .boolean) false ll_mN ll_mR ll_mK ll_cnt L xs false 44 (.inl (lo_push 45 (.int 1))) := lk_iconst (n := 1) (by decide +kernel) (by decide)
theorem k_69_45 (L : Nat) (xs : Nat → Int32) : ll_OK1 cX6_isBehind RX6 (some .boolean) false ll_mN ll_mR ll_mK ll_cnt L xs false 45 (.inl (lo_bin 46 (fun x y => x - y))) := lk_isub (by decide +kernel)
theorem k_69_46 (L : Nat) (xs : Nat → Int32) : ll_OK1 cX6_isBehind RX6 (some .boolean) false ll_mN ll_mR ll_mK ll_cnt L xs false 46 (.inl (lo_iload 47 2)) := lk_iload_n (k := 2) (by decide +kernel) rfl
theorem k_69_47 (L : Nat) (xs : Nat → Int32) : ll_OK1 cX6_isBehind RX6 (some .boolean) false ll_mN ll_mR ll_mK ll_cnt L xs false 47 (.inl (lo_bin 48 (fun x y => x - y))) := lk_isub (by decide +kernel)
theorem k_69_48 (L : Nat) (xs : Nat → Int32) : ll_OK1 cX6_isBehind RX6 (some .boolean) false ll_mN ll_mR ll_mK ll_cnt L xs false 48 (.inl (lo_ald 49 0)) := lk_iald (by decide +kernel)
theorem k_69_49 (L : Nat) (xs : Nat → Int32) : ll_OK1 cX6_isBehind RX6 (some .boolean) false ll_mN ll_mR ll_mK ll_cnt L xs false 49 (.inl (lo_cmp 54 52 (fun x y => decide (x = y)))) := lk_icmp_eq (off := 5) (by decide +kernel) rfl
theorem k_69_52 (L : Nat) (xs : Nat → Int32) : ll_OK1 cX6_isBehind RX6 (some .boolean) false ll_mN ll_mR ll_mK ll_cnt L xs false 52 (.inl (lo_push 53 (.int 0))) := lk_iconst (n := 0) (by decide +kernel) (by decide)
theorem k_69_53 (L : Nat) (xs : Nat → Int32) : ll_OK1 cX6_isBehind RX6 (some .boolean) false ll_mN ll_mR ll_mK ll_cnt L xs false 53 (.inr (.inr 2)) := ⟨(fun h => by cases h), (fun h => by cases h), fun _ => ⟨(by decide +kernel), rfl⟩⟩
theorem k_69_54 (L : Nat) (xs : Nat → Int32) : ll_OK1 cX6_isBehind RX6 (some .boolean) false ll_mN ll_mR ll_mK ll_cnt L xs false 54 (.inl (lo_iinc 57 2 1)) := lk_iinc (n := 1) (by decide +kernel) (by decide)
theorem k_69_57 (L : Nat) (xs : Nat → Int32) : ll_OK1 cX6_isBehind RX6 (some .boolean) false ll_mN ll_mR ll_mK ll_cnt L xs false 57 (.inl (lo_goto 17)) := lk_goto (off := (-40)) (by decide +kernel) rfl
theorem k_69_60 (L : Nat) (xs : Nat → Int32) : ll_OK1 cX6_isBehind RX6 (some .boolean) false ll_mN ll_mR ll_mK ll_cnt L xs false 60 (.inl (lo_push 61 (.int 1))) := lk_iconst (n := 1) (by decide +kernel) (by decide)
theorem k_69_61 (L : Nat) (xs : Nat → Int32) : ll_OK1 cX6_isBehind RX6 (some .boolean) false ll_mN ll_mR ll_mK ll_cnt L xs false 61 (.inr (.inr 2)) := ⟨(fun h => by cases h), (fun h => by cases h), fun _ => ⟨(by decide +kernel), rfl⟩⟩
theorem ok_69 (L : Nat) (xs : Nat → Int32) : ∀ q ∈ cd_69, ll_OK1 cX6_isBehind RX6 (some .boolean) false ll_mN ll_mR ll_mK ll_cnt L xs false q.1 q.2 :=
  List.forall_mem_cons.mpr ⟨k_69_0 L xs, List.forall_mem_cons.mpr ⟨k_69_1 L xs, List.forall_mem_cons.mpr ⟨k_69_4 L xs, List.forall_mem_cons.mpr ⟨k_69_5 L xs, List.forall_mem_cons.mpr ⟨k_69_6 L xs, List.forall_mem_cons.mpr ⟨k_69_7 L xs, List.forall_mem_cons.mpr ⟨k_69_10 L xs, List.forall_mem_cons.mpr ⟨k_69_13 L xs, List.forall_mem_cons.mpr ⟨k_69_14 L xs, List.forall_mem_cons.mpr ⟨k_69_15 L xs, List.forall_mem_cons.mpr ⟨k_69_16 L xs, List.forall_mem_cons.mpr ⟨k_69_17 L xs, List.forall_mem_cons.mpr ⟨k_69_18 L xs, List.forall_mem_cons.mpr ⟨k_69_19 L xs, List.forall_mem_cons.mpr ⟨k_69_22 L xs, List.forall_mem_cons.mpr ⟨k_69_25 L xs, List.forall_mem_cons.mpr ⟨k_69_26 L xs, List.forall_mem_cons.mpr ⟨k_69_29 L xs, List.forall_mem_cons.mpr ⟨k_69_30 L xs, List.forall_mem_cons.mpr ⟨k_69_32 L xs, List.forall_mem_cons.mpr ⟨k_69_33 L xs, List.forall_mem_cons.mpr ⟨k_69_34 L xs, List.forall_mem_cons.mpr ⟨k_69_35 L xs, List.forall_mem_cons.mpr ⟨k_69_36 L xs, List.forall_mem_cons.mpr ⟨k_69_37 L xs, List.forall_mem_cons.mpr ⟨k_69_40 L xs, List.forall_mem_cons.mpr ⟨k_69_41 L xs, List.forall_mem_cons.mpr ⟨k_69_44 L xs, List.forall_mem_cons.mpr ⟨k_69_45 L xs, List.forall_mem_cons.mpr ⟨k_69_46 L xs, List.forall_mem_cons.mpr ⟨k_69_47 L xs, List.forall_mem_cons.mpr ⟨k_69_48 L xs, List.forall_mem_cons.mpr ⟨k_69_49 L xs, List.forall_mem_cons.mpr ⟨k_69_52 L xs, List.forall_mem_cons.mpr ⟨k_69_53 L xs, List.forall_mem_cons.mpr ⟨k_69_54 L xs, List.forall_mem_cons.mpr ⟨k_69_57 L xs, List.forall_mem_cons.mpr ⟨k_69_60 L xs, List.forall_mem_cons.mpr ⟨k_69_61 L xs, fun _ h => absurd h List.not_mem_nil⟩⟩⟩⟩⟩⟩⟩⟩⟩⟩⟩⟩⟩⟩⟩⟩⟩⟩⟩⟩⟩⟩⟩⟩⟩⟩⟩⟩⟩⟩⟩⟩⟩⟩⟩⟩⟩⟩⟩
/-- InclusionProver$Text.<init>.(I)V -/
def cd_70 : List (Nat × ll_O) := [
  (0, .inl (lo_aload 1 0)),
  (1, .inl (lo_init 4)),
  (4, .inl (lo_aload 5 0)),
  (5, .inl (lo_iload 6 1)),
  (6, .inl (lo_push 7 (.int 0))),
  (7, .inl (lo_mm 10 (fun x y => if x < y then y else x))),
  (10, .inl (lo_newa 12 0)),
  (12, .inl (lo_putf 15 7 0 2)),
  (15, .inr (.inr 0))]
theorem k_70_0 (L : Nat) (xs : Nat → Int32) : ll_OK1 cX7_init RX7 none true ll_mN ll_mR ll_mK ll_cnt L xs false 0 (.inl (lo_aload 1 0)) := lk_aload_n (k := 0) (by decide +kernel) rfl
theorem k_70_1 (L : Nat) (xs : Nat → Int32) : ll_OK1 cX7_init RX7 none true ll_mN ll_mR ll_mK ll_cnt L xs false 1 (.inl (lo_init 4)) := lk_init (ix := 3) (by decide +kernel) tb_342 tb_1 tb_2
theorem k_70_4 (L : Nat) (xs : Nat → Int32) : ll_OK1 cX7_init RX7 none true ll_mN ll_mR ll_mK ll_cnt L xs false 4 (.inl (lo_aload 5 0)) := lk_aload_n (k := 0) (by decide +kernel) rfl
theorem k_70_5 (L : Nat) (xs : Nat → Int32) : ll_OK1 cX7_init RX7 none true ll_mN ll_mR ll_mK ll_cnt L xs false 5 (.inl (lo_iload 6 1)) := lk_iload_n (k := 1) (by decide +kernel) rfl
theorem k_70_6 (L : Nat) (xs : Nat → Int32) : ll_OK1 cX7_init RX7 none true ll_mN ll_mR ll_mK ll_cnt L xs false 6 (.inl (lo_push 7 (.int 0))) := lk_iconst (n := 0) (by decide +kernel) (by decide)
theorem k_70_7 (L : Nat) (xs : Nat → Int32) : ll_OK1 cX7_init RX7 none true ll_mN ll_mR ll_mK ll_cnt L xs false 7 (.inl (lo_mm 10 (fun x y => if x < y then y else x))) := lk_max (ix := 9) (by decide +kernel) tb_343 tb_219 tb_220 tb_221
theorem k_70_10 (L : Nat) (xs : Nat → Int32) : ll_OK1 cX7_init RX7 none true ll_mN ll_mR ll_mK ll_cnt L xs false 10 (.inl (lo_newa 12 0)) := lk_newa_int (by decide +kernel) tb_61
theorem k_70_12 (L : Nat) (xs : Nat → Int32) : ll_OK1 cX7_init RX7 none true ll_mN ll_mR ll_mK ll_cnt L xs false 12 (.inl (lo_putf 15 7 0 2)) := lk_putf (ix := 15) (ci := 7) (k := 0) (C := RX7) (T := TX7) (N := 2) (ty0 := tyX7) (by decide +kernel) rfl in_7 tyX7_ok nmX7 (by decide) tb_344 (fun B adr v w h1 h2 => ll_fit_arr (B := B) (adr := adr) h1 h2) (Or.inr ⟨rfl, rfl, rfl⟩)
theorem k_70_15 (L : Nat) (xs : Nat → Int32) : ll_OK1 cX7_init RX7 none true ll_mN ll_mR ll_mK ll_cnt L xs false 15 (.inr (.inr 0)) := ⟨fun _ => ⟨(by decide +kernel), rfl⟩, (fun h => by cases h), fun h => by cases h⟩
theorem ok_70 (L : Nat) (xs : Nat → Int32) : ∀ q ∈ cd_70, ll_OK1 cX7_init RX7 none true ll_mN ll_mR ll_mK ll_cnt L xs false q.1 q.2 :=
  List.forall_mem_cons.mpr ⟨k_70_0 L xs, List.forall_mem_cons.mpr ⟨k_70_1 L xs, List.forall_mem_cons.mpr ⟨k_70_4 L xs, List.forall_mem_cons.mpr ⟨k_70_5 L xs, List.forall_mem_cons.mpr ⟨k_70_6 L xs, List.forall_mem_cons.mpr ⟨k_70_7 L xs, List.forall_mem_cons.mpr ⟨k_70_10 L xs, List.forall_mem_cons.mpr ⟨k_70_12 L xs, List.forall_mem_cons.mpr ⟨k_70_15 L xs, fun _ h => absurd h List.not_mem_nil⟩⟩⟩⟩⟩⟩⟩⟩⟩
/-- InclusionProver$Text.clear.()V -/
def cd_71 : List (Nat × ll_O) := [
  (0, .inl (lo_aload 1 0)),
  (1, .inl (lo_push 2 (.int 0))),
  (2, .inl (lo_putf 5 7 1 0)),
  (5, .inr (.inr 0))]
theorem k_71_0 (L : Nat) (xs : Nat → Int32) : ll_OK1 cX7_clear RX7 none false ll_mN ll_mR ll_mK ll_cnt L xs false 0 (.inl (lo_aload 1 0)) := lk_aload_n (k := 0) (by decide +kernel) rfl
theorem k_71_1 (L : Nat) (xs : Nat → Int32) : ll_OK1 cX7_clear RX7 none false ll_mN ll_mR ll_mK ll_cnt L xs false 1 (.inl (lo_push 2 (.int 0))) := lk_iconst (n := 0) (by decide +kernel) (by decide)
theorem k_71_2 (L : Nat) (xs : Nat → Int32) : ll_OK1 cX7_clear RX7 none false ll_mN ll_mR ll_mK ll_cnt L xs false 2 (.inl (lo_putf 5 7 1 0)) := lk_putf (ix := 21) (ci := 7) (k := 1) (C := RX7) (T := TX7) (N := 2) (ty0 := tyX7) (by decide +kernel) rfl in_7 tyX7_ok nmX7 (by decide) tb_345 (fun B adr v w h1 h2 => ll_fit_int (B := B) (adr := adr) h1 h2) (Or.inl rfl)
theorem k_71_5 (L : Nat) (xs : Nat → Int32) : ll_OK1 cX7_clear RX7 none false ll_mN ll_mR ll_mK ll_cnt L xs false 5 (.inr (.inr 0)) := ⟨fun _ => ⟨(by decide +kernel), rfl⟩, (fun h => by cases h), fun h => by cases h⟩
theorem ok_71 (L : Nat) (xs : Nat → Int32) : ∀ q ∈ cd_71, ll_OK1 cX7_clear RX7 none false ll_mN ll_mR ll_mK ll_cnt L xs false q.1 q.2 :=
  List.forall_mem_cons.mpr ⟨k_71_0 L xs, List.forall_mem_cons.mpr ⟨k_71_1 L xs, List.forall_mem_cons.mpr ⟨k_71_2 L xs, List.forall_mem_cons.mpr ⟨k_71_5 L xs, fun _ h => absurd h List.not_mem_nil⟩⟩⟩⟩
/-- InclusionProver$Text.add.(I)V -/
def cd_72 : List (Nat × ll_O) := [
  (0, .inl (lo_aload 1 0)),
  (1, .inl (lo_getf 4 7 1)),
  (4, .inl (lo_aload 5 0)),
  (5, .inl (lo_getf 8 7 0)),
  (8, .inl (lo_alen 9)),
  (9, .inl (lo_cmp 32 12 (fun x y => decide (y ≤ x)))),
  (12, .inl (lo_aload 13 0)),
  (13, .inl (lo_getf 16 7 0)),
  (16, .inl (lo_aload 17 0)),
  (17, .inl (lo_getf 20 7 1)),
  (20, .inl (lo_iload 21 1)),
  (21, .inl (lo_ast 22 0)),
  (22, .inl (lo_aload 23 0)),
  (23, .inl (lo_dup 24)),
  (24, .inl (lo_getf 27 7 1)),
  (27, .inl (lo_push 28 (.int 1))),
  (28, .inl (lo_bin 29 (fun x y => x + y))),
  (29, .inl (lo_putf 32 7 1 0)),
  (32, .inr (.inr 0))]
theorem k_72_0 (L : Nat) (xs : Nat → Int32) : ll_OK1 cX7_add RX7 none false ll_mN ll_mR ll_mK ll_cnt L xs false 0 (.inl (lo_aload 1 0)) := lk_aload_n (k := 0) (by decide +kernel) rfl
theorem k_72_1 (L : Nat) (xs : Nat → Int32) : ll_OK1 cX7_add RX7 none false ll_mN ll_mR ll_mK ll_cnt L xs false 1 (.inl (lo_getf 4 7 1)) := lk_getf (ix := 21) (ci := 7) (k := 1) (C := RX7) (T := TX7) (N := 2) (by decide +kernel) rfl in_7 (by decide) tb_345
theorem k_72_4 (L : Nat) (xs : Nat → Int32) : ll_OK1 cX7_add RX7 none false ll_mN ll_mR ll_mK ll_cnt L xs false 4 (.inl (lo_aload 5 0)) := lk_aload_n (k := 0) (by decide +kernel) rfl
theorem k_72_5 (L : Nat) (xs : Nat → Int32) : ll_OK1 cX7_add RX7 none false ll_mN ll_mR ll_mK ll_cnt L xs false 5 (.inl (lo_getf 8 7 0)) := lk_getf (ix := 15) (ci := 7) (k := 0) (C := RX7) (T := TX7) (N := 2) (by decide +kernel) rfl in_7 (by decide) tb_344
theorem k_72_8 (L : Nat) (xs : Nat → Int32) : ll_OK1 cX7_add RX7 none false ll_mN ll_mR ll_mK ll_cnt L xs false 8 (.inl (lo_alen 9)) := lk_alen (by decide +kernel)
theorem k_72_9 (L : Nat) (xs : Nat → Int32) : ll_OK1 cX7_add RX7 none false ll_mN ll_mR ll_mK ll_cnt L xs false 9 (.inl (lo_cmp 32 12 (fun x y => decide (y ≤ x)))) := lk_icmp_ge (off := 23) (by decide +kernel) rfl
theorem k_72_12 (L : Nat) (xs : Nat → Int32) : ll_OK1 cX7_add RX7 none false ll_mN ll_mR ll_mK ll_cnt L xs false 12 (.inl (lo_aload 13 0)) := lk_aload_n (k := 0) (by decide +kernel) rfl
theorem k_72_13 (L : Nat) (xs : Nat → Int32) : ll_OK1 cX7_add RX7 none false ll_mN ll_mR ll_mK ll_cnt L xs false 13 (.inl (lo_getf 16 7 0)) := lk_getf (ix := 15) (ci := 7) (k := 0) (C := RX7) (T := TX7) (N := 2) (by decide +kernel) rfl in_7 (by decide) tb_344
theorem k_72_16 (L : Nat) (xs : Nat → Int32) : ll_OK1 cX7_add RX7 none false ll_mN ll_mR ll_mK ll_cnt L xs false 16 (.inl (lo_aload 17 0)) := lk_aload_n (k := 0) (by decide +kernel) rfl
theorem k_72_17 (L : Nat) (xs : Nat → Int32) : ll_OK1 cX7_add RX7 none false ll_mN ll_mR ll_mK ll_cnt L xs false 17 (.inl (lo_getf 20 7 1)) := lk_getf (ix := 21) (ci := 7) (k := 1) (C := RX7) (T := TX7) (N := 2) (by decide +kernel) rfl in_7 (by decide) tb_345
theorem k_72_20 (L : Nat) (xs : Nat → Int32) : ll_OK1 cX7_add RX7 none false ll_mN ll_mR ll_mK ll_cnt L xs false 20 (.inl (lo_iload 21 1)) := lk_iload_n (k := 1) (by decide +kernel) rfl
theorem k_72_21 (L : Nat) (xs : Nat → Int32) : ll_OK1 cX7_add RX7 none false ll_mN ll_mR ll_mK ll_cnt L xs false 21 (.inl (lo_ast 22 0)) := lk_iast (by decide +kernel)
theorem k_72_22 (L : Nat) (xs : Nat → Int32) : ll_OK1 cX7_add RX7 none false ll_mN ll_mR ll_mK ll_cnt L xs false 22 (.inl (lo_aload 23 0)) := lk_aload_n (k := 0) (by decide +kernel) rfl
theorem k_72_23 (L : Nat) (xs : Nat → Int32) : ll_OK1 cX7_add RX7 none false ll_mN ll_mR ll_mK ll_cnt L xs false 23 (.inl (lo_dup 24)) := lk_dup (by decide +kernel)
theorem k_72_24 (L : Nat) (xs : Nat → Int32) : ll_OK1 cX7_add RX7 none false ll_mN ll_mR ll_mK ll_cnt L xs false 24 (.inl (lo_getf 27 7 1)) := lk_getf (ix := 21) (ci := 7) (k := 1) (C := RX7) (T := TX7) (N := 2) (by decide +kernel) rfl in_7 (by decide) tb_345
theorem k_72_27 (L : Nat) (xs : Nat → Int32) : ll_OK1 cX7_add RX7 none false ll_mN ll_mR ll_mK ll_cnt L xs false 27 (.inl (lo_push 28 (.int 1))) := lk_iconst (n := 1) (by decide +kernel) (by decide)
theorem k_72_28 (L : Nat) (xs : Nat → Int32) : ll_OK1 cX7_add RX7 none false ll_mN ll_mR ll_mK ll_cnt L xs false 28 (.inl (lo_bin 29 (fun x y => x + y))) := lk_iadd (by decide +kernel)
theorem k_72_29 (L : Nat) (xs : Nat → Int32) : ll_OK1 cX7_add RX7 none false ll_mN ll_mR ll_mK ll_cnt L xs false 29 (.inl (lo_putf 32 7 1 0)) := lk_putf (ix := 21) (ci := 7) (k := 1) (C := RX7) (T := TX7) (N := 2) (ty0 := tyX7) (by decide +kernel) rfl in_7 tyX7_ok nmX7 (by decide) tb_345 (fun B adr v w h1 h2 => ll_fit_int (B := B) (adr := adr) h1 h2) (Or.inl rfl)
theorem k_72_32 (L : Nat) (xs : Nat → Int32) : ll_OK1 cX7_add RX7 none false ll_mN ll_mR ll_mK ll_cnt L xs false 32 (.inr (.inr 0)) := ⟨fun _ => ⟨(by decide +kernel), rfl⟩, (fun h => by cases h), fun h => by cases h⟩
theorem ok_72 (L : Nat) (xs : Nat → Int32) : ∀ q ∈ cd_72, ll_OK1 cX7_add RX7 none false ll_mN ll_mR ll_mK ll_cnt L xs false q.1 q.2 :=
  List.forall_mem_cons.mpr ⟨k_72_0 L xs, List.forall_mem_cons.mpr ⟨k_72_1 L xs, List.forall_mem_cons.mpr ⟨k_72_4 L xs, List.forall_mem_cons.mpr ⟨k_72_5 L xs, List.forall_mem_cons.mpr ⟨k_72_8 L xs, List.forall_mem_cons.mpr ⟨k_72_9 L xs, List.forall_mem_cons.mpr ⟨k_72_12 L xs, List.forall_mem_cons.mpr ⟨k_72_13 L xs, List.forall_mem_cons.mpr ⟨k_72_16 L xs, List.forall_mem_cons.mpr ⟨k_72_17 L xs, List.forall_mem_cons.mpr ⟨k_72_20 L xs, List.forall_mem_cons.mpr ⟨k_72_21 L xs, List.forall_mem_cons.mpr ⟨k_72_22 L xs, List.forall_mem_cons.mpr ⟨k_72_23 L xs, List.forall_mem_cons.mpr ⟨k_72_24 L xs, List.forall_mem_cons.mpr ⟨k_72_27 L xs, List.forall_mem_cons.mpr ⟨k_72_28 L xs, List.forall_mem_cons.mpr ⟨k_72_29 L xs, List.forall_mem_cons.mpr ⟨k_72_32 L xs, fun _ h => absurd h List.not_mem_nil⟩⟩⟩⟩⟩⟩⟩⟩⟩⟩⟩⟩⟩⟩⟩⟩⟩⟩⟩
/-- InclusionProver$Text.addAll.(LInclusionProver$Text;)V -/
def cd_73 : List (Nat × ll_O) := [
  (0, .inl (lo_aload 1 1)),
  (1, .inl (lo_getf 4 7 1)),
  (4, .inl (lo_aload 5 0)),
  (5, .inl (lo_getf 8 7 0)),
  (8, .inl (lo_alen 9)),
  (9, .inl (lo_aload 10 0)),
  (10, .inl (lo_getf 13 7 1)),
  (13, .inl (lo_bin 14 (fun x y => x - y))),
  (14, .inl (lo_mm 17 (fun x y => if y < x then y else x))),
  (17, .inl (lo_istore 18 2)),
  (18, .inl (lo_aload 19 1)),
  (19, .inl (lo_getf 22 7 0)),
  (22, .inl (lo_push 23 (.int 0))),
  (23, .inl (lo_aload 24 0)),
  (24, .inl (lo_getf 27 7 0)),
  (27, .inl (lo_aload 28 0)),
  (28, .inl (lo_getf 31 7 1)),
  (31, .inl (lo_iload 32 2)),
  (32, .inl (lo_copy 35)),
  (35, .inl (lo_aload 36 0)),
  (36, .inl (lo_dup 37)),
  (37, .inl (lo_getf 40 7 1)),
  (40, .inl (lo_iload 41 2)),
  (41, .inl (lo_bin 42 (fun x y => x + y))),
  (42, .inl (lo_putf 45 7 1 0)),
  (45, .inr (.inr 0))]
theorem k_73_0 (L : Nat) (xs : Nat → Int32) : ll_OK1 cX7_addAll RX7 none false ll_mN ll_mR ll_mK ll_cnt L xs false 0 (.inl (lo_aload 1 1)) := lk_aload_n (k := 1) (by decide +kernel) rfl
theorem k_73_1 (L : Nat) (xs : Nat → Int32) : ll_OK1 cX7_addAll RX7 none false ll_mN ll_mR ll_mK ll_cnt L xs false 1 (.inl (lo_getf 4 7 1)) := lk_getf (ix := 21) (ci := 7) (k := 1) (C := RX7) (T := TX7) (N := 2) (by decide +kernel) rfl in_7 (by decide) tb_345
theorem k_73_4 (L : Nat) (xs : Nat → Int32) : ll_OK1 cX7_addAll RX7 none false ll_mN ll_mR ll_mK ll_cnt L xs false 4 (.inl (lo_aload 5 0)) := lk_aload_n (k := 0) (by decide +kernel) rfl
theorem k_73_5 (L : Nat) (xs : Nat → Int32) : ll_OK1 cX7_addAll RX7 none false ll_mN ll_mR ll_mK ll_cnt L xs false 5 (.inl (lo_getf 8 7 0)) := lk_getf (ix := 15) (ci := 7) (k := 0) (C := RX7) (T := TX7) (N := 2) (by decide +kernel) rfl in_7 (by decide) tb_344
theorem k_73_8 (L : Nat) (xs : Nat → Int32) : ll_OK1 cX7_addAll RX7 none false ll_mN ll_mR ll_mK ll_cnt L xs false 8 (.inl (lo_alen 9)) := lk_alen (by decide +kernel)
theorem k_73_9 (L : Nat) (xs : Nat → Int32) : ll_OK1 cX7_addAll RX7 none false ll_mN ll_mR ll_mK ll_cnt L xs false 9 (.inl (lo_aload 10 0)) := lk_aload_n (k := 0) (by decide +kernel) rfl
theorem k_73_10 (L : Nat) (xs : Nat → Int32) : ll_OK1 cX7_addAll RX7 none false ll_mN ll_mR ll_mK ll_cnt L xs false 10 (.inl (lo_getf 13 7 1)) := lk_getf (ix := 21) (ci := 7) (k := 1) (C := RX7) (T := TX7) (N := 2) (by decide +kernel) rfl in_7 (by decide) tb_345
theorem k_73_13 (L : Nat) (xs : Nat → Int32) : ll_OK1 cX7_addAll RX7 none false ll_mN ll_mR ll_mK ll_cnt L xs false 13 (.inl (lo_bin 14 (fun x y => x - y))) := lk_isub (by decide +kernel)
theorem k_73_14 (L : Nat) (xs : Nat → Int32) : ll_OK1 cX7_addAll RX7 none false ll_mN ll_mR ll_mK ll_cnt L xs false 14 (.inl (lo_mm 17 (fun x y => if y < x then y else x))) := lk_min (ix := 25) (by decide +kernel) tb_346 tb_347 tb_220 tb_348
theorem k_73_17 (L : Nat) (xs : Nat → Int32) : ll_OK1 cX7_addAll RX7 none false ll_mN ll_mR ll_mK ll_cnt L xs false 17 (.inl (lo_istore 18 2)) := lk_istore_n (k := 2) (by decide +kernel) rfl
theorem k_73_18 (L : Nat) (xs : Nat → Int32) : ll_OK1 cX7_addAll RX7 none false ll_mN ll_mR ll_mK ll_cnt L xs false 18 (.inl (lo_aload 19 1)) := lk_aload_n (k := 1) (by decide +kernel) rfl
theorem k_73_19 (L : Nat) (xs : Nat → Int32) : ll_OK1 cX7_addAll RX7 none false ll_mN ll_mR ll_mK ll_cnt L xs false 19 (.inl (lo_getf 22 7 0)) := lk_getf (ix := 15) (ci := 7) (k := 0) (C := RX7) (T := TX7) (N := 2) (by decide +kernel) rfl in_7 (by decide) tb_344
theorem k_73_22 (L : Nat) (xs : Nat → Int32) : ll_OK1 cX7_addAll RX7 none false ll_mN ll_mR ll_mK ll_cnt L xs false 22 (.inl (lo_push 23 (.int 0))) := lk_iconst (n := 0) (by decide +kernel) (by decide)
theorem k_73_23 (L : Nat) (xs : Nat → Int32) : ll_OK1 cX7_addAll RX7 none false ll_mN ll_mR ll_mK ll_cnt L xs false 23 (.inl (lo_aload 24 0)) := lk_aload_n (k := 0) (by decide +kernel) rfl
theorem k_73_24 (L : Nat) (xs : Nat → Int32) : ll_OK1 cX7_addAll RX7 none false ll_mN ll_mR ll_mK ll_cnt L xs false 24 (.inl (lo_getf 27 7 0)) := lk_getf (ix := 15) (ci := 7) (k := 0) (C := RX7) (T := TX7) (N := 2) (by decide +kernel) rfl in_7 (by decide) tb_344
theorem k_73_27 (L : Nat) (xs : Nat → Int32) : ll_OK1 cX7_addAll RX7 none false ll_mN ll_mR ll_mK ll_cnt L xs false 27 (.inl (lo_aload 28 0)) := lk_aload_n (k := 0) (by decide +kernel) rfl
theorem k_73_28 (L : Nat) (xs : Nat → Int32) : ll_OK1 cX7_addAll RX7 none false ll_mN ll_mR ll_mK ll_cnt L xs false 28 (.inl (lo_getf 31 7 1)) := lk_getf (ix := 21) (ci := 7) (k := 1) (C := RX7) (T := TX7) (N := 2) (by decide +kernel) rfl in_7 (by decide) tb_345
theorem k_73_31 (L : Nat) (xs : Nat → Int32) : ll_OK1 cX7_addAll RX7 none false ll_mN ll_mR ll_mK ll_cnt L xs false 31 (.inl (lo_iload 32 2)) := lk_iload_n (k := 2) (by decide +kernel) rfl
theorem k_73_32 (L : Nat) (xs : Nat → Int32) : ll_OK1 cX7_addAll RX7 none false ll_mN ll_mR ll_mK ll_cnt L xs false 32 (.inl (lo_copy 35)) := lk_copy (ix := 28) (by decide +kernel) tb_349 tb_92 tb_93 tb_94
theorem k_73_35 (L : Nat) (xs : Nat → Int32) : ll_OK1 cX7_addAll RX7 none false ll_mN ll_mR ll_mK ll_cnt L xs false 35 (.inl (lo_aload 36 0)) := lk_aload_n (k := 0) (by decide +kernel) rfl
theorem k_73_36 (L : Nat) (xs : Nat → Int32) : ll_OK1 cX7_addAll RX7 none false ll_mN ll_mR ll_mK ll_cnt L xs false 36 (.inl (lo_dup 37)) := lk_dup (by decide +kernel)
theorem k_73_37 (L : Nat) (xs : Nat → Int32) : ll_OK1 cX7_addAll RX7 none false ll_mN ll_mR ll_mK ll_cnt L xs false 37 (.inl (lo_getf 40 7 1)) := lk_getf (ix := 21) (ci := 7) (k := 1) (C := RX7) (T := TX7) (N := 2) (by decide +kernel) rfl in_7 (by decide) tb_345
theorem k_73_40 (L : Nat) (xs : Nat → Int32) : ll_OK1 cX7_addAll RX7 none false ll_mN ll_mR ll_mK ll_cnt L xs false 40 (.inl (lo_iload 41 2)) := lk_iload_n (k := 2) (by decide +kernel) rfl
theorem k_73_41 (L : Nat) (xs : Nat → Int32) : ll_OK1 cX7_addAll RX7 none false ll_mN ll_mR ll_mK ll_cnt L xs false 41 (.inl (lo_bin 42 (fun x y => x + y))) := lk_iadd (by decide +kernel)
theorem k_73_42 (L : Nat) (xs : Nat → Int32) : ll_OK1 cX7_addAll RX7 none false ll_mN ll_mR ll_mK ll_cnt L xs false 42 (.inl (lo_putf 45 7 1 0)) := lk_putf (ix := 21) (ci := 7) (k := 1) (C := RX7) (T := TX7) (N := 2) (ty0 := tyX7) (by decide +kernel) rfl in_7 tyX7_ok nmX7 (by decide) tb_345 (fun B adr v w h1 h2 => ll_fit_int (B := B) (adr := adr) h1 h2) (Or.inl rfl)
theorem k_73_45 (L : Nat) (xs : Nat → Int32) : ll_OK1 cX7_addAll RX7 none false ll_mN ll_mR ll_mK ll_cnt L xs false 45 (.inr (.inr 0)) := ⟨fun _ => ⟨(by decide +kernel), rfl⟩, (fun h => by cases h), fun h => by cases h⟩
theorem ok_73 (L : Nat) (xs : Nat → Int32) : ∀ q ∈ cd_73, ll_OK1 cX7_addAll RX7 none false ll_mN ll_mR ll_mK ll_cnt L xs false q.1 q.2 :=
  List.forall_mem_cons.mpr ⟨k_73_0 L xs, List.forall_mem_cons.mpr ⟨k_73_1 L xs, List.forall_mem_cons.mpr ⟨k_73_4 L xs, List.forall_mem_cons.mpr ⟨k_73_5 L xs, List.forall_mem_cons.mpr ⟨k_73_8 L xs, List.forall_mem_cons.mpr ⟨k_73_9 L xs, List.forall_mem_cons.mpr ⟨k_73_10 L xs, List.forall_mem_cons.mpr ⟨k_73_13 L xs, List.forall_mem_cons.mpr ⟨k_73_14 L xs, List.forall_mem_cons.mpr ⟨k_73_17 L xs, List.forall_mem_cons.mpr ⟨k_73_18 L xs, List.forall_mem_cons.mpr ⟨k_73_19 L xs, List.forall_mem_cons.mpr ⟨k_73_22 L xs, List.forall_mem_cons.mpr ⟨k_73_23 L xs, List.forall_mem_cons.mpr ⟨k_73_24 L xs, List.forall_mem_cons.mpr ⟨k_73_27 L xs, List.forall_mem_cons.mpr ⟨k_73_28 L xs, List.forall_mem_cons.mpr ⟨k_73_31 L xs, List.forall_mem_cons.mpr ⟨k_73_32 L xs, List.forall_mem_cons.mpr ⟨k_73_35 L xs, List.forall_mem_cons.mpr ⟨k_73_36 L xs, List.forall_mem_cons.mpr ⟨k_73_37 L xs, List.forall_mem_cons.mpr ⟨k_73_40 L xs, List.forall_mem_cons.mpr ⟨k_73_41 L xs, List.forall_mem_cons.mpr ⟨k_73_42 L xs, List.forall_mem_cons.mpr ⟨k_73_45 L xs, fun _ h => absurd h List.not_mem_nil⟩⟩⟩⟩⟩⟩⟩⟩⟩⟩⟩⟩⟩⟩⟩⟩⟩⟩⟩⟩⟩⟩⟩⟩⟩⟩
/-- InclusionProver$Text.addBracketed.(LInclusionProver$Text;)V -/
def cd_74 : List (Nat × ll_O) := [
  (0, .inl (lo_aload 1 0)),
  (1, .inl (lo_push 3 (.int 40))),
  (3, .inr (.inl (72, 2, 6))),
  (6, .inl (lo_aload 7 0)),
  (7, .inl (lo_aload 8 1)),
  (8, .inr (.inl (73, 2, 11))),
  (11, .inl (lo_aload 12 0)),
  (12, .inl (lo_push 14 (.int 41))),
  (14, .inr (.inl (72, 2, 17))),
  (17, .inr (.inr 0))]
theorem k_74_0 (L : Nat) (xs : Nat → Int32) : ll_OK1 cX7_addBracketed RX7 none false ll_mN ll_mR ll_mK ll_cnt L xs false 0 (.inl (lo_aload 1 0)) := lk_aload_n (k := 0) (by decide +kernel) rfl
theorem k_74_1 (L : Nat) (xs : Nat → Int32) : ll_OK1 cX7_addBracketed RX7 none false ll_mN ll_mR ll_mK ll_cnt L xs false 1 (.inl (lo_push 3 (.int 40))) := lk_bipush (n := 40) (by decide +kernel) (by decide)
theorem k_74_3 (L : Nat) (xs : Nat → Int32) : ll_OK1 cX7_addBracketed RX7 none false ll_mN ll_mR ll_mK ll_cnt L xs false 3 (.inr (.inl (72, 2, 6))) := ⟨rfl, by decide, by rw [mN_72, mK_72, mR_72]; exact lj_v 34 1 7 (RX7, TX7, 2) (by decide +kernel) tb_350 tb_225 tb_226 rfl rfl rfl rfl (by decide +kernel)⟩
theorem k_74_6 (L : Nat) (xs : Nat → Int32) : ll_OK1 cX7_addBracketed RX7 none false ll_mN ll_mR ll_mK ll_cnt L xs false 6 (.inl (lo_aload 7 0)) := lk_aload_n (k := 0) (by decide +kernel) rfl
theorem k_74_7 (L : Nat) (xs : Nat → Int32) : ll_OK1 cX7_addBracketed RX7 none false ll_mN ll_mR ll_mK ll_cnt L xs false 7 (.inl (lo_aload 8 1)) := lk_aload_n (k := 1) (by decide +kernel) rfl
theorem k_74_8 (L : Nat) (xs : Nat → Int32) : ll_OK1 cX7_addBracketed RX7 none false ll_mN ll_mR ll_mK ll_cnt L xs false 8 (.inr (.inl (73, 2, 11))) := ⟨rfl, by decide, by rw [mN_73, mK_73, mR_73]; exact lj_v 38 1 7 (RX7, TX7, 2) (by decide +kernel) tb_351 tb_352 tb_353 rfl rfl rfl rfl (by decide +kernel)⟩
theorem k_74_11 (L : Nat) (xs : Nat → Int32) : ll_OK1 cX7_addBracketed RX7 none false ll_mN ll_mR ll_mK ll_cnt L xs false 11 (.inl (lo_aload 12 0)) := lk_aload_n (k := 0) (by decide +kernel) rfl
theorem k_74_12 (L : Nat) (xs : Nat → Int32) : ll_OK1 cX7_addBracketed RX7 none false ll_mN ll_mR ll_mK ll_cnt L xs false 12 (.inl (lo_push 14 (.int 41))) := lk_bipush (n := 41) (by decide +kernel) (by decide)
theorem k_74_14 (L : Nat) (xs : Nat → Int32) : ll_OK1 cX7_addBracketed RX7 none false ll_mN ll_mR ll_mK ll_cnt L xs false 14 (.inr (.inl (72, 2, 17))) := ⟨rfl, by decide, by rw [mN_72, mK_72, mR_72]; exact lj_v 34 1 7 (RX7, TX7, 2) (by decide +kernel) tb_350 tb_225 tb_226 rfl rfl rfl rfl (by decide +kernel)⟩
theorem k_74_17 (L : Nat) (xs : Nat → Int32) : ll_OK1 cX7_addBracketed RX7 none false ll_mN ll_mR ll_mK ll_cnt L xs false 17 (.inr (.inr 0)) := ⟨fun _ => ⟨(by decide +kernel), rfl⟩, (fun h => by cases h), fun h => by cases h⟩
theorem ok_74 (L : Nat) (xs : Nat → Int32) : ∀ q ∈ cd_74, ll_OK1 cX7_addBracketed RX7 none false ll_mN ll_mR ll_mK ll_cnt L xs false q.1 q.2 :=
  List.forall_mem_cons.mpr ⟨k_74_0 L xs, List.forall_mem_cons.mpr ⟨k_74_1 L xs, List.forall_mem_cons.mpr ⟨k_74_3 L xs, List.forall_mem_cons.mpr ⟨k_74_6 L xs, List.forall_mem_cons.mpr ⟨k_74_7 L xs, List.forall_mem_cons.mpr ⟨k_74_8 L xs, List.forall_mem_cons.mpr ⟨k_74_11 L xs, List.forall_mem_cons.mpr ⟨k_74_12 L xs, List.forall_mem_cons.mpr ⟨k_74_14 L xs, List.forall_mem_cons.mpr ⟨k_74_17 L xs, fun _ h => absurd h List.not_mem_nil⟩⟩⟩⟩⟩⟩⟩⟩⟩⟩
/-- InclusionProver$Text.become.(LInclusionProver$Text;)V -/
def cd_75 : List (Nat × ll_O) := [
  (0, .inl (lo_aload 1 0)),
  (1, .inr (.inl (71, 1, 4))),
  (4, .inl (lo_aload 5 0)),
  (5, .inl (lo_aload 6 1)),
  (6, .inr (.inl (73, 2, 9))),
  (9, .inr (.inr 0))]
theorem k_75_0 (L : Nat) (xs : Nat → Int32) : ll_OK1 cX7_become RX7 none false ll_mN ll_mR ll_mK ll_cnt L xs false 0 (.inl (lo_aload 1 0)) := lk_aload_n (k := 0) (by decide +kernel) rfl
theorem k_75_1 (L : Nat) (xs : Nat → Int32) : ll_OK1 cX7_become RX7 none false ll_mN ll_mR ll_mK ll_cnt L xs false 1 (.inr (.inl (71, 1, 4))) := ⟨rfl, by decide, by rw [mN_71, mK_71, mR_71]; exact lj_v 42 0 7 (RX7, TX7, 2) (by decide +kernel) tb_354 tb_80 tb_81 rfl rfl rfl rfl (by decide +kernel)⟩
theorem k_75_4 (L : Nat) (xs : Nat → Int32) : ll_OK1 cX7_become RX7 none false ll_mN ll_mR ll_mK ll_cnt L xs false 4 (.inl (lo_aload 5 0)) := lk_aload_n (k := 0) (by decide +kernel) rfl
theorem k_75_5 (L : Nat) (xs : Nat → Int32) : ll_OK1 cX7_become RX7 none false ll_mN ll_mR ll_mK ll_cnt L xs false 5 (.inl (lo_aload 6 1)) := lk_aload_n (k := 1) (by decide +kernel) rfl
theorem k_75_6 (L : Nat) (xs : Nat → Int32) : ll_OK1 cX7_become RX7 none false ll_mN ll_mR ll_mK ll_cnt L xs false 6 (.inr (.inl (73, 2, 9))) := ⟨rfl, by decide, by rw [mN_73, mK_73, mR_73]; exact lj_v 38 1 7 (RX7, TX7, 2) (by decide +kernel) tb_351 tb_352 tb_353 rfl rfl rfl rfl (by decide +kernel)⟩
theorem k_75_9 (L : Nat) (xs : Nat → Int32) : ll_OK1 cX7_become RX7 none false ll_mN ll_mR ll_mK ll_cnt L xs false 9 (.inr (.inr 0)) := ⟨fun _ => ⟨(by decide +kernel), rfl⟩, (fun h => by cases h), fun h => by cases h⟩
theorem ok_75 (L : Nat) (xs : Nat → Int32) : ∀ q ∈ cd_75, ll_OK1 cX7_become RX7 none false ll_mN ll_mR ll_mK ll_cnt L xs false q.1 q.2 :=
  List.forall_mem_cons.mpr ⟨k_75_0 L xs, List.forall_mem_cons.mpr ⟨k_75_1 L xs, List.forall_mem_cons.mpr ⟨k_75_4 L xs, List.forall_mem_cons.mpr ⟨k_75_5 L xs, List.forall_mem_cons.mpr ⟨k_75_6 L xs, List.forall_mem_cons.mpr ⟨k_75_9 L xs, fun _ h => absurd h List.not_mem_nil⟩⟩⟩⟩⟩⟩
/-- InclusionProver$Text.setAt.(II)V -/
def cd_76 : List (Nat × ll_O) := [
  (0, .inl (lo_iload 1 1)),
  (1, .inl (lo_if 19 4 (fun x => decide (x < 0)))),
  (4, .inl (lo_iload 5 1)),
  (5, .inl (lo_aload 6 0)),
  (6, .inl (lo_getf 9 7 1)),
  (9, .inl (lo_cmp 19 12 (fun x y => decide (y ≤ x)))),
  (12, .inl (lo_aload 13 0)),
  (13, .inl (lo_getf 16 7 0)),
  (16, .inl (lo_iload 17 1)),
  (17, .inl (lo_iload 18 2)),
  (18, .inl (lo_ast 19 0)),
  (19, .inr (.inr 0))]
theorem k_76_0 (L : Nat) (xs : Nat → Int32) : ll_OK1 cX7_setAt RX7 none false ll_mN ll_mR ll_mK ll_cnt L xs false 0 (.inl (lo_iload 1 1)) := lk_iload_n (k := 1) (by decide +kernel) rfl
theorem k_76_1 (L : Nat) (xs : Nat → Int32) : ll_OK1 cX7_setAt RX7 none false ll_mN ll_mR ll_mK ll_cnt L xs false 1 (.inl (lo_if 19 4 (fun x => decide (x < 0)))) := lk_if_lt (off := 18) (by decide +kernel) rfl
theorem k_76_4 (L : Nat) (xs : Nat → Int32) : ll_OK1 cX7_setAt RX7 none false ll_mN ll_mR ll_mK ll_cnt L xs false 4 (.inl (lo_iload 5 1)) := lk_iload_n (k := 1) (by decide +kernel) rfl
theorem k_76_5 (L : Nat) (xs : Nat → Int32) : ll_OK1 cX7_setAt RX7 none false ll_mN ll_mR ll_mK ll_cnt L xs false 5 (.inl (lo_aload 6 0)) := lk_aload_n (k := 0) (by decide +kernel) rfl
theorem k_76_6 (L : Nat) (xs : Nat → Int32) : ll_OK1 cX7_setAt RX7 none false ll_mN ll_mR ll_mK ll_cnt L xs false 6 (.inl (lo_getf 9 7 1)) := lk_getf (ix := 21) (ci := 7) (k := 1) (C := RX7) (T := TX7) (N := 2) (by decide +kernel) rfl in_7 (by decide) tb_345
theorem k_76_9 (L : Nat) (xs : Nat → Int32) : ll_OK1 cX7_setAt RX7 none false ll_mN ll_mR ll_mK ll_cnt L xs false 9 (.inl (lo_cmp 19 12 (fun x y => decide (y ≤ x)))) := lk_icmp_ge (off := 10) (by decide +kernel) rfl
theorem k_76_12 (L : Nat) (xs : Nat → Int32) : ll_OK1 cX7_setAt RX7 none false ll_mN ll_mR ll_mK ll_cnt L xs false 12 (.inl (lo_aload 13 0)) := lk_aload_n (k := 0) (by decide +kernel) rfl
theorem k_76_13 (L : Nat) (xs : Nat → Int32) : ll_OK1 cX7_setAt RX7 none false ll_mN ll_mR ll_mK ll_cnt L xs false 13 (.inl (lo_getf 16 7 0)) := lk_getf (ix := 15) (ci := 7) (k := 0) (C := RX7) (T := TX7) (N := 2) (by decide +kernel) rfl in_7 (by decide) tb_344
theorem k_76_16 (L : Nat) (xs : Nat → Int32) : ll_OK1 cX7_setAt RX7 none false ll_mN ll_mR ll_mK ll_cnt L xs false 16 (.inl (lo_iload 17 1)) := lk_iload_n (k := 1) (by decide +kernel) rfl
theorem k_76_17 (L : Nat) (xs : Nat → Int32) : ll_OK1 cX7_setAt RX7 none false ll_mN ll_mR ll_mK ll_cnt L xs false 17 (.inl (lo_iload 18 2)) := lk_iload_n (k := 2) (by decide +kernel) rfl
theorem k_76_18 (L : Nat) (xs : Nat → Int32) : ll_OK1 cX7_setAt RX7 none false ll_mN ll_mR ll_mK ll_cnt L xs false 18 (.inl (lo_ast 19 0)) := lk_iast (by decide +kernel)
theorem k_76_19 (L : Nat) (xs : Nat → Int32) : ll_OK1 cX7_setAt RX7 none false ll_mN ll_mR ll_mK ll_cnt L xs false 19 (.inr (.inr 0)) := ⟨fun _ => ⟨(by decide +kernel), rfl⟩, (fun h => by cases h), fun h => by cases h⟩
theorem ok_76 (L : Nat) (xs : Nat → Int32) : ∀ q ∈ cd_76, ll_OK1 cX7_setAt RX7 none false ll_mN ll_mR ll_mK ll_cnt L xs false q.1 q.2 :=
  List.forall_mem_cons.mpr ⟨k_76_0 L xs, List.forall_mem_cons.mpr ⟨k_76_1 L xs, List.forall_mem_cons.mpr ⟨k_76_4 L xs, List.forall_mem_cons.mpr ⟨k_76_5 L xs, List.forall_mem_cons.mpr ⟨k_76_6 L xs, List.forall_mem_cons.mpr ⟨k_76_9 L xs, List.forall_mem_cons.mpr ⟨k_76_12 L xs, List.forall_mem_cons.mpr ⟨k_76_13 L xs, List.forall_mem_cons.mpr ⟨k_76_16 L xs, List.forall_mem_cons.mpr ⟨k_76_17 L xs, List.forall_mem_cons.mpr ⟨k_76_18 L xs, List.forall_mem_cons.mpr ⟨k_76_19 L xs, fun _ h => absurd h List.not_mem_nil⟩⟩⟩⟩⟩⟩⟩⟩⟩⟩⟩⟩
/-- InclusionProver$Text.at.(I)I -/
def cd_77 : List (Nat × ll_O) := [
  (0, .inl (lo_iload 1 1)),
  (1, .inl (lo_if 21 4 (fun x => decide (x < 0)))),
  (4, .inl (lo_iload 5 1)),
  (5, .inl (lo_aload 6 0)),
  (6, .inl (lo_getf 9 7 1)),
  (9, .inl (lo_cmp 21 12 (fun x y => decide (y ≤ x)))),
  (12, .inl (lo_aload 13 0)),
  (13, .inl (lo_getf 16 7 0)),
  (16, .inl (lo_iload 17 1)),
  (17, .inl (lo_ald 18 0)),
  (18, .inl (lo_goto 22)),
  (21, .inl (lo_push 22 (.int (-1)))),
  (22, .inr (.inr 1))]
theorem k_77_0 (L : Nat) (xs : Nat → Int32) : ll_OK1 cX7_at RX7 (some .int) false ll_mN ll_mR ll_mK ll_cnt L xs false 0 (.inl (lo_iload 1 1)) := lk_iload_n (k := 1) (by decide +kernel) rfl
theorem k_77_1 (L : Nat) (xs : Nat → Int32) : ll_OK1 cX7_at RX7 (some .int) false ll_mN ll_mR ll_mK ll_cnt L xs false 1 (.inl (lo_if 21 4 (fun x => decide (x < 0)))) := lk_if_lt (off := 20) (by decide +kernel) rfl
theorem k_77_4 (L : Nat) (xs : Nat → Int32) : ll_OK1 cX7_at RX7 (some .int) false ll_mN ll_mR ll_mK ll_cnt L xs false 4 (.inl (lo_iload 5 1)) := lk_iload_n (k := 1) (by decide +kernel) rfl
theorem k_77_5 (L : Nat) (xs : Nat → Int32) : ll_OK1 cX7_at RX7 (some .int) false ll_mN ll_mR ll_mK ll_cnt L xs false 5 (.inl (lo_aload 6 0)) := lk_aload_n (k := 0) (by decide +kernel) rfl
theorem k_77_6 (L : Nat) (xs : Nat → Int32) : ll_OK1 cX7_at RX7 (some .int) false ll_mN ll_mR ll_mK ll_cnt L xs false 6 (.inl (lo_getf 9 7 1)) := lk_getf (ix := 21) (ci := 7) (k := 1) (C := RX7) (T := TX7) (N := 2) (by decide +kernel) rfl in_7 (by decide) tb_345
theorem k_77_9 (L : Nat) (xs : Nat → Int32) : ll_OK1 cX7_at RX7 (some .int) false ll_mN ll_mR ll_mK ll_cnt L xs false 9 (.inl (lo_cmp 21 12 (fun x y => decide (y ≤ x)))) := lk_icmp_ge (off := 12) (by decide +kernel) rfl
theorem k_77_12 (L : Nat) (xs : Nat → Int32) : ll_OK1 cX7_at RX7 (some .int) false ll_mN ll_mR ll_mK ll_cnt L xs false 12 (.inl (lo_aload 13 0)) := lk_aload_n (k := 0) (by decide +kernel) rfl
theorem k_77_13 (L : Nat) (xs : Nat → Int32) : ll_OK1 cX7_at RX7 (some .int) false ll_mN ll_mR ll_mK ll_cnt L xs false 13 (.inl (lo_getf 16 7 0)) := lk_getf (ix := 15) (ci := 7) (k := 0) (C := RX7) (T := TX7) (N := 2) (by decide +kernel) rfl in_7 (by decide) tb_344
theorem k_77_16 (L : Nat) (xs : Nat → Int32) : ll_OK1 cX7_at RX7 (some .int) false ll_mN ll_mR ll_mK ll_cnt L xs false 16 (.inl (lo_iload 17 1)) := lk_iload_n (k := 1) (by decide +kernel) rfl
theorem k_77_17 (L : Nat) (xs : Nat → Int32) : ll_OK1 cX7_at RX7 (some .int) false ll_mN ll_mR ll_mK ll_cnt L xs false 17 (.inl (lo_ald 18 0)) := lk_iald (by decide +kernel)
theorem k_77_18 (L : Nat) (xs : Nat → Int32) : ll_OK1 cX7_at RX7 (some .int) false ll_mN ll_mR ll_mK ll_cnt L xs false 18 (.inl (lo_goto 22)) := lk_goto (off := 4) (by decide +kernel) rfl
theorem k_77_21 (L : Nat) (xs : Nat → Int32) : ll_OK1 cX7_at RX7 (some .int) false ll_mN ll_mR ll_mK ll_cnt L xs false 21 (.inl (lo_push 22 (.int (-1)))) := lk_iconst (n := (-1)) (by decide +kernel) (by decide)
theorem k_77_22 (L : Nat) (xs : Nat → Int32) : ll_OK1 cX7_at RX7 (some .int) false ll_mN ll_mR ll_mK ll_cnt L xs false 22 (.inr (.inr 1)) := ⟨(fun h => by cases h), (fun _ => ⟨(by decide +kernel), rfl⟩), fun h => by cases h⟩
theorem ok_77 (L : Nat) (xs : Nat → Int32) : ∀ q ∈ cd_77, ll_OK1 cX7_at RX7 (some .int) false ll_mN ll_mR ll_mK ll_cnt L xs false q.1 q.2 :=
  List.forall_mem_cons.mpr ⟨k_77_0 L xs, List.forall_mem_cons.mpr ⟨k_77_1 L xs, List.forall_mem_cons.mpr ⟨k_77_4 L xs, List.forall_mem_cons.mpr ⟨k_77_5 L xs, List.forall_mem_cons.mpr ⟨k_77_6 L xs, List.forall_mem_cons.mpr ⟨k_77_9 L xs, List.forall_mem_cons.mpr ⟨k_77_12 L xs, List.forall_mem_cons.mpr ⟨k_77_13 L xs, List.forall_mem_cons.mpr ⟨k_77_16 L xs, List.forall_mem_cons.mpr ⟨k_77_17 L xs, List.forall_mem_cons.mpr ⟨k_77_18 L xs, List.forall_mem_cons.mpr ⟨k_77_21 L xs, List.forall_mem_cons.mpr ⟨k_77_22 L xs, fun _ h => absurd h List.not_mem_nil⟩⟩⟩⟩⟩⟩⟩⟩⟩⟩⟩⟩⟩
/-- InclusionProver$Text.countOf.(I)I -/
def cd_78 : List (Nat × ll_O) := [
  (0, .inl (lo_push 1 (.int 0))),
  (1, .inl (lo_istore 2 2)),
  (2, .inl (lo_push 3 (.int 0))),
  (3, .inl (lo_istore 4 3)),
  (4, .inl (lo_iload 5 3)),
  (5, .inl (lo_aload 6 0)),
  (6, .inl (lo_getf 9 7 1)),
  (9, .inl (lo_cmp 31 12 (fun x y => decide (y ≤ x)))),
  (12, .inl (lo_aload 13 0)),
  (13, .inl (lo_getf 16 7 0)),
  (16, .inl (lo_iload 17 3)),
  (17, .inl (lo_ald 18 0)),
  (18, .inl (lo_iload 19 1)),
  (19, .inl (lo_cmp 25 22 (fun x y => decide (¬ x = y)))),
  (22, .inl (lo_iinc 25 2 1)),
  (25, .inl (lo_iinc 28 3 1)),
  (28, .inl (lo_goto 4)),
  (31, .inl (lo_iload 32 2)),
  (32, .inr (.inr 1))]
theorem k_78_0 (L : Nat) (xs : Nat → Int32) : ll_OK1 cX7_countOf RX7 (some .int) false ll_mN ll_mR ll_mK ll_cnt L xs false 0 (.inl (lo_push 1 (.int 0))) := lk_iconst (n := 0) (by decide +kernel) (by decide)
theorem k_78_1 (L : Nat) (xs : Nat → Int32) : ll_OK1 cX7_countOf RX7 (some .int) false ll_mN ll_mR ll_mK ll_cnt L xs false 1 (.inl (lo_istore 2 2)) := lk_istore_n (k := 2) (by decide +kernel) rfl
theorem k_78_2 (L : Nat) (xs : Nat → Int32) : ll_OK1 cX7_countOf RX7 (some .int) false ll_mN ll_mR ll_mK ll_cnt L xs false 2 (.inl (lo_push 3 (.int 0))) := lk_iconst (n := 0) (by decide +kernel) (by decide)
theorem k_78_3 (L : Nat) (xs : Nat → Int32) : ll_OK1 cX7_countOf RX7 (some .int) false ll_mN ll_mR ll_mK ll_cnt L xs false 3 (.inl (lo_istore 4 3)) := lk_istore_n (k := 3) (by decide +kernel) rfl
theorem k_78_4 (L : Nat) (xs : Nat → Int32) : ll_OK1 cX7_countOf RX7 (some .int) false ll_mN ll_mR ll_mK ll_cnt L xs false 4 (.inl (lo_iload 5 3)) := lk_iload_n (k := 3) (by decide +kernel) rfl
theorem k_78_5 (L : Nat) (xs : Nat → Int32) : ll_OK1 cX7_countOf RX7 (some .int) false ll_mN ll_mR ll_mK ll_cnt L xs false 5 (.inl (lo_aload 6 0)) := lk_aload_n (k := 0) (by decide +kernel) rfl
theorem k_78_6 (L : Nat) (xs : Nat → Int32) : ll_OK1 cX7_countOf RX7 (some .int) false ll_mN ll_mR ll_mK ll_cnt L xs false 6 (.inl (lo_getf 9 7 1)) := lk_getf (ix := 21) (ci := 7) (k := 1) (C := RX7) (T := TX7) (N := 2) (by decide +kernel) rfl in_7 (by decide) tb_345
theorem k_78_9 (L : Nat) (xs : Nat → Int32) : ll_OK1 cX7_countOf RX7 (some .int) false ll_mN ll_mR ll_mK ll_cnt L xs false 9 (.inl (lo_cmp 31 12 (fun x y => decide (y ≤ x)))) := lk_icmp_ge (off := 22) (by decide +kernel) rfl
theorem k_78_12 (L : Nat) (xs : Nat → Int32) : ll_OK1 cX7_countOf RX7 (some .int) false ll_mN ll_mR ll_mK ll_cnt L xs false 12 (.inl (lo_aload 13 0)) := lk_aload_n (k := 0) (by decide +kernel) rfl
theorem k_78_13 (L : Nat) (xs : Nat → Int32) : ll_OK1 cX7_countOf RX7 (some .int) false ll_mN ll_mR ll_mK ll_cnt L xs false 13 (.inl (lo_getf 16 7 0)) := lk_getf (ix := 15) (ci := 7) (k := 0) (C := RX7) (T := TX7) (N := 2) (by decide +kernel) rfl in_7 (by decide) tb_344
theorem k_78_16 (L : Nat) (xs : Nat → Int32) : ll_OK1 cX7_countOf RX7 (some .int) false ll_mN ll_mR ll_mK ll_cnt L xs false 16 (.inl (lo_iload 17 3)) := lk_iload_n (k := 3) (by decide +kernel) rfl
theorem k_78_17 (L : Nat) (xs : Nat → Int32) : ll_OK1 cX7_countOf RX7 (some .int) false ll_mN ll_mR ll_mK ll_cnt L xs false 17 (.inl (lo_ald 18 0)) := lk_iald (by decide +kernel)
theorem k_78_18 (L : Nat) (xs : Nat → Int32) : ll_OK1 cX7_countOf RX7 (some .int) false ll_mN ll_mR ll_mK ll_cnt L xs false 18 (.inl (lo_iload 19 1)) := lk_iload_n (k := 1) (by decide +kernel) rfl
theorem k_78_19 (L : Nat) (xs : Nat → Int32) : ll_OK1 cX7_countOf RX7 (some .int) false ll_mN ll_mR ll_mK ll_cnt L xs false 19 (.inl (lo_cmp 25 22 (fun x y => decide (¬ x = y)))) := lk_icmp_ne (off := 6) (by decide +kernel) rfl
theorem k_78_22 (L : Nat) (xs : Nat → Int32) : ll_OK1 cX7_countOf RX7 (some .int) false ll_mN ll_mR ll_mK ll_cnt L xs false 22 (.inl (lo_iinc 25 2 1)) := lk_iinc (n := 1) (by decide +kernel) (by decide)
theorem k_78_25 (L : Nat) (xs : Nat → Int32) : ll_OK1 cX7_countOf RX7 (some .int) false ll_mN ll_mR ll_mK ll_cnt L xs false 25 (.inl (lo_iinc 28 3 1)) := lk_iinc (n := 1) (by decide +kernel) (by decide)
theorem k_78_28 (L : Nat) (xs : Nat → Int32) : ll_OK1 cX7_countOf RX7 (some .int) false ll_mN ll_mR ll_mK ll_cnt L xs false 28 (.inl (lo_goto 4)) := lk_goto (off := (-24)) (by decide +kernel) rfl
theorem k_78_31 (L : Nat) (xs : Nat → Int32) : ll_OK1 cX7_countOf RX7 (some .int) false ll_mN ll_mR ll_mK ll_cnt L xs false 31 (.inl (lo_iload 32 2)) := lk_iload_n (k := 2) (by decide +kernel) rfl
theorem k_78_32 (L : Nat) (xs : Nat → Int32) : ll_OK1 cX7_countOf RX7 (some .int) false ll_mN ll_mR ll_mK ll_cnt L xs false 32 (.inr (.inr 1)) := ⟨(fun h => by cases h), (fun _ => ⟨(by decide +kernel), rfl⟩), fun h => by cases h⟩
theorem ok_78 (L : Nat) (xs : Nat → Int32) : ∀ q ∈ cd_78, ll_OK1 cX7_countOf RX7 (some .int) false ll_mN ll_mR ll_mK ll_cnt L xs false q.1 q.2 :=
  List.forall_mem_cons.mpr ⟨k_78_0 L xs, List.forall_mem_cons.mpr ⟨k_78_1 L xs, List.forall_mem_cons.mpr ⟨k_78_2 L xs, List.forall_mem_cons.mpr ⟨k_78_3 L xs, List.forall_mem_cons.mpr ⟨k_78_4 L xs, List.forall_mem_cons.mpr ⟨k_78_5 L xs, List.forall_mem_cons.mpr ⟨k_78_6 L xs, List.forall_mem_cons.mpr ⟨k_78_9 L xs, List.forall_mem_cons.mpr ⟨k_78_12 L xs, List.forall_mem_cons.mpr ⟨k_78_13 L xs, List.forall_mem_cons.mpr ⟨k_78_16 L xs, List.forall_mem_cons.mpr ⟨k_78_17 L xs, List.forall_mem_cons.mpr ⟨k_78_18 L xs, List.forall_mem_cons.mpr ⟨k_78_19 L xs, List.forall_mem_cons.mpr ⟨k_78_22 L xs, List.forall_mem_cons.mpr ⟨k_78_25 L xs, List.forall_mem_cons.mpr ⟨k_78_28 L xs, List.forall_mem_cons.mpr ⟨k_78_31 L xs, List.forall_mem_cons.mpr ⟨k_78_32 L xs, fun _ h => absurd h List.not_mem_nil⟩⟩⟩⟩⟩⟩⟩⟩⟩⟩⟩⟩⟩⟩⟩⟩⟩⟩⟩
/-- InclusionProver$Tree.<init>.()V -/
def cd_79 : List (Nat × ll_O) := [
  (0, .inl (lo_aload 1 0)),
  (1, .inl (lo_init 4)),
  (4, .inl (lo_aload 5 0)),
  (5, .inl (lo_push 8 (.int 160))),
  (8, .inl (lo_newa 10 0)),
  (10, .inl (lo_putf 13 8 0 2)),
  (13, .inl (lo_aload 14 0)),
  (14, .inl (lo_push 17 (.int 160))),
  (17, .inl (lo_newa 19 0)),
  (19, .inl (lo_putf 22 8 1 2)),
  (22, .inl (lo_aload 23 0)),
  (23, .inl (lo_push 26 (.int 160))),
  (26, .inl (lo_newa 28 0)),
  (28, .inl (lo_putf 31 8 2 2)),
  (31, .inl (lo_aload 32 0)),
  (32, .inl (lo_push 35 (.int 160))),
  (35, .inl (lo_newa 37 0)),
  (37, .inl (lo_putf 40 8 3 2)),
  (40, .inl (lo_aload 41 0)),
  (41, .inl (lo_push 44 (.int 160))),
  (44, .inl (lo_newa 46 0)),
  (46, .inl (lo_putf 49 8 4 2)),
  (49, .inl (lo_aload 50 0)),
  (50, .inl (lo_push 53 (.int 2048))),
  (53, .inl (lo_newa 55 0)),
  (55, .inl (lo_putf 58 8 5 2)),
  (58, .inl (lo_aload 59 0)),
  (59, .inl (lo_push 62 (.int 136))),
  (62, .inl (lo_newa 64 0)),
  (64, .inl (lo_putf 67 8 6 2)),
  (67, .inl (lo_aload 68 0)),
  (68, .inl (lo_getf 71 8 3)),
  (71, .inl (lo_push 72 (.int 0))),
  (72, .inl (lo_push 73 (.int (-1)))),
  (73, .inl (lo_ast 74 0)),
  (74, .inl (lo_aload 75 0)),
  (75, .inl (lo_getf 78 8 3)),
  (78, .inl (lo_push 79 (.int 1))),
  (79, .inl (lo_push 80 (.int 0))),
  (80, .inl (lo_ast 81 0)),
  (81, .inl (lo_push 82 (.int 2))),
  (82, .inl (lo_istore 83 1)),
  (83, .inl (lo_iload 84 1)),
  (84, .inl (lo_push 85 (.int 5))),
  (85, .inl (lo_cmp 101 88 (fun x y => decide (y ≤ x)))),
  (88, .inl (lo_aload 89 0)),
  (89, .inl (lo_getf 92 8 3)),
  (92, .inl (lo_iload 93 1)),
  (93, .inl (lo_push 94 (.int 1))),
  (94, .inl (lo_ast 95 0)),
  (95, .inl (lo_iinc 98 1 1)),
  (98, .inl (lo_goto 83)),
  (101, .inl (lo_aload 102 0)),
  (102, .inl (lo_push 103 (.int 5))),
  (103, .inl (lo_putf 106 8 7 0)),
  (106, .inr (.inr 0))]
theorem k_79_0 (L : Nat) (xs : Nat → Int32) : ll_OK1 cX8_init RX8 none true ll_mN ll_mR ll_mK ll_cnt L xs false 0 (.inl (lo_aload 1 0)) := lk_aload_n (k := 0) (by decide +kernel) rfl
theorem k_79_1 (L : Nat) (xs : Nat → Int32) : ll_OK1 cX8_init RX8 none true ll_mN ll_mR ll_mK ll_cnt L xs false 1 (.inl (lo_init 4)) := lk_init (ix := 5) (by decide +kernel) tb_355 tb_1 tb_2
theorem k_79_4 (L : Nat) (xs : Nat → Int32) : ll_OK1 cX8_init RX8 none true ll_mN ll_mR ll_mK ll_cnt L xs false 4 (.inl (lo_aload 5 0)) := lk_aload_n (k := 0) (by decide +kernel) rfl
theorem k_79_5 (L : Nat) (xs : Nat → Int32) : ll_OK1 cX8_init RX8 none true ll_mN ll_mR ll_mK ll_cnt L xs false 5 (.inl (lo_push 8 (.int 160))) := lk_sipush (n := 160) (by decide +kernel) (by decide)
theorem k_79_8 (L : Nat) (xs : Nat → Int32) : ll_OK1 cX8_init RX8 none true ll_mN ll_mR ll_mK ll_cnt L xs false 8 (.inl (lo_newa 10 0)) := lk_newa_int (by decide +kernel) tb_61
theorem k_79_10 (L : Nat) (xs : Nat → Int32) : ll_OK1 cX8_init RX8 none true ll_mN ll_mR ll_mK ll_cnt L xs false 10 (.inl (lo_putf 13 8 0 2)) := lk_putf (ix := 11) (ci := 8) (k := 0) (C := RX8) (T := TX8) (N := 10) (ty0 := tyX8) (by decide +kernel) rfl in_8 tyX8_ok nmX8 (by decide) tb_356 (fun B adr v w h1 h2 => ll_fit_arr (B := B) (adr := adr) h1 h2) (Or.inr ⟨rfl, rfl, rfl⟩)
theorem k_79_13 (L : Nat) (xs : Nat → Int32) : ll_OK1 cX8_init RX8 none true ll_mN ll_mR ll_mK ll_cnt L xs false 13 (.inl (lo_aload 14 0)) := lk_aload_n (k := 0) (by decide +kernel) rfl
theorem k_79_14 (L : Nat) (xs : Nat → Int32) : ll_OK1 cX8_init RX8 none true ll_mN ll_mR ll_mK ll_cnt L xs false 14 (.inl (lo_push 17 (.int 160))) := lk_sipush (n := 160) (by decide +kernel) (by decide)
theorem k_79_17 (L : Nat) (xs : Nat → Int32) : ll_OK1 cX8_init RX8 none true ll_mN ll_mR ll_mK ll_cnt L xs false 17 (.inl (lo_newa 19 0)) := lk_newa_int (by decide +kernel) tb_61
theorem k_79_19 (L : Nat) (xs : Nat → Int32) : ll_OK1 cX8_init RX8 none true ll_mN ll_mR ll_mK ll_cnt L xs false 19 (.inl (lo_putf 22 8 1 2)) := lk_putf (ix := 15) (ci := 8) (k := 1) (C := RX8) (T := TX8) (N := 10) (ty0 := tyX8) (by decide +kernel) rfl in_8 tyX8_ok nmX8 (by decide) tb_357 (fun B adr v w h1 h2 => ll_fit_arr (B := B) (adr := adr) h1 h2) (Or.inr ⟨rfl, rfl, rfl⟩)
theorem k_79_22 (L : Nat) (xs : Nat → Int32) : ll_OK1 cX8_init RX8 none true ll_mN ll_mR ll_mK ll_cnt L xs false 22 (.inl (lo_aload 23 0)) := lk_aload_n (k := 0) (by decide +kernel) rfl
theorem k_79_23 (L : Nat) (xs : Nat → Int32) : ll_OK1 cX8_init RX8 none true ll_mN ll_mR ll_mK ll_cnt L xs false 23 (.inl (lo_push 26 (.int 160))) := lk_sipush (n := 160) (by decide +kernel) (by decide)
theorem k_79_26 (L : Nat) (xs : Nat → Int32) : ll_OK1 cX8_init RX8 none true ll_mN ll_mR ll_mK ll_cnt L xs false 26 (.inl (lo_newa 28 0)) := lk_newa_int (by decide +kernel) tb_61
theorem k_79_28 (L : Nat) (xs : Nat → Int32) : ll_OK1 cX8_init RX8 none true ll_mN ll_mR ll_mK ll_cnt L xs false 28 (.inl (lo_putf 31 8 2 2)) := lk_putf (ix := 18) (ci := 8) (k := 2) (C := RX8) (T := TX8) (N := 10) (ty0 := tyX8) (by decide +kernel) rfl in_8 tyX8_ok nmX8 (by decide) tb_358 (fun B adr v w h1 h2 => ll_fit_arr (B := B) (adr := adr) h1 h2) (Or.inr ⟨rfl, rfl, rfl⟩)
theorem k_79_31 (L : Nat) (xs : Nat → Int32) : ll_OK1 cX8_init RX8 none true ll_mN ll_mR ll_mK ll_cnt L xs false 31 (.inl (lo_aload 32 0)) := lk_aload_n (k := 0) (by decide +kernel) rfl
theorem k_79_32 (L : Nat) (xs : Nat → Int32) : ll_OK1 cX8_init RX8 none true ll_mN ll_mR ll_mK ll_cnt L xs false 32 (.inl (lo_push 35 (.int 160))) := lk_sipush (n := 160) (by decide +kernel) (by decide)
theorem k_79_35 (L : Nat) (xs : Nat → Int32) : ll_OK1 cX8_init RX8 none true ll_mN ll_mR ll_mK ll_cnt L xs false 35 (.inl (lo_newa 37 0)) := lk_newa_int (by decide +kernel) tb_61
theorem k_79_37 (L : Nat) (xs : Nat → Int32) : ll_OK1 cX8_init RX8 none true ll_mN ll_mR ll_mK ll_cnt L xs false 37 (.inl (lo_putf 40 8 3 2)) := lk_putf (ix := 21) (ci := 8) (k := 3) (C := RX8) (T := TX8) (N := 10) (ty0 := tyX8) (by decide +kernel) rfl in_8 tyX8_ok nmX8 (by decide) tb_359 (fun B adr v w h1 h2 => ll_fit_arr (B := B) (adr := adr) h1 h2) (Or.inr ⟨rfl, rfl, rfl⟩)
theorem k_79_40 (L : Nat) (xs : Nat → Int32) : ll_OK1 cX8_init RX8 none true ll_mN ll_mR ll_mK ll_cnt L xs false 40 (.inl (lo_aload 41 0)) := lk_aload_n (k := 0) (by decide +kernel) rfl
theorem k_79_41 (L : Nat) (xs : Nat → Int32) : ll_OK1 cX8_init RX8 none true ll_mN ll_mR ll_mK ll_cnt L xs false 41 (.inl (lo_push 44 (.int 160))) := lk_sipush (n := 160) (by decide +kernel) (by decide)
theorem k_79_44 (L : Nat) (xs : Nat → Int32) : ll_OK1 cX8_init RX8 none true ll_mN ll_mR ll_mK ll_cnt L xs false 44 (.inl (lo_newa 46 0)) := lk_newa_int (by decide +kernel) tb_61
theorem k_79_46 (L : Nat) (xs : Nat → Int32) : ll_OK1 cX8_init RX8 none true ll_mN ll_mR ll_mK ll_cnt L xs false 46 (.inl (lo_putf 49 8 4 2)) := lk_putf (ix := 24) (ci := 8) (k := 4) (C := RX8) (T := TX8) (N := 10) (ty0 := tyX8) (by decide +kernel) rfl in_8 tyX8_ok nmX8 (by decide) tb_360 (fun B adr v w h1 h2 => ll_fit_arr (B := B) (adr := adr) h1 h2) (Or.inr ⟨rfl, rfl, rfl⟩)
theorem k_79_49 (L : Nat) (xs : Nat → Int32) : ll_OK1 cX8_init RX8 none true ll_mN ll_mR ll_mK ll_cnt L xs false 49 (.inl (lo_aload 50 0)) := lk_aload_n (k := 0) (by decide +kernel) rfl
theorem k_79_50 (L : Nat) (xs : Nat → Int32) : ll_OK1 cX8_init RX8 none true ll_mN ll_mR ll_mK ll_cnt L xs false 50 (.inl (lo_push 53 (.int 2048))) := lk_sipush (n := 2048) (by decide +kernel) (by decide)
theorem k_79_53 (L : Nat) (xs : Nat → Int32) : ll_OK1 cX8_init RX8 none true ll_mN ll_mR ll_mK ll_cnt L xs false 53 (.inl (lo_newa 55 0)) := lk_newa_int (by decide +kernel) tb_61
theorem k_79_55 (L : Nat) (xs : Nat → Int32) : ll_OK1 cX8_init RX8 none true ll_mN ll_mR ll_mK ll_cnt L xs false 55 (.inl (lo_putf 58 8 5 2)) := lk_putf (ix := 27) (ci := 8) (k := 5) (C := RX8) (T := TX8) (N := 10) (ty0 := tyX8) (by decide +kernel) rfl in_8 tyX8_ok nmX8 (by decide) tb_361 (fun B adr v w h1 h2 => ll_fit_arr (B := B) (adr := adr) h1 h2) (Or.inr ⟨rfl, rfl, rfl⟩)
theorem k_79_58 (L : Nat) (xs : Nat → Int32) : ll_OK1 cX8_init RX8 none true ll_mN ll_mR ll_mK ll_cnt L xs false 58 (.inl (lo_aload 59 0)) := lk_aload_n (k := 0) (by decide +kernel) rfl
theorem k_79_59 (L : Nat) (xs : Nat → Int32) : ll_OK1 cX8_init RX8 none true ll_mN ll_mR ll_mK ll_cnt L xs false 59 (.inl (lo_push 62 (.int 136))) := lk_sipush (n := 136) (by decide +kernel) (by decide)
theorem k_79_62 (L : Nat) (xs : Nat → Int32) : ll_OK1 cX8_init RX8 none true ll_mN ll_mR ll_mK ll_cnt L xs false 62 (.inl (lo_newa 64 0)) := lk_newa_int (by decide +kernel) tb_61
theorem k_79_64 (L : Nat) (xs : Nat → Int32) : ll_OK1 cX8_init RX8 none true ll_mN ll_mR ll_mK ll_cnt L xs false 64 (.inl (lo_putf 67 8 6 2)) := lk_putf (ix := 30) (ci := 8) (k := 6) (C := RX8) (T := TX8) (N := 10) (ty0 := tyX8) (by decide +kernel) rfl in_8 tyX8_ok nmX8 (by decide) tb_362 (fun B adr v w h1 h2 => ll_fit_arr (B := B) (adr := adr) h1 h2) (Or.inr ⟨rfl, rfl, rfl⟩)
theorem k_79_67 (L : Nat) (xs : Nat → Int32) : ll_OK1 cX8_init RX8 none true ll_mN ll_mR ll_mK ll_cnt L xs false 67 (.inl (lo_aload 68 0)) := lk_aload_n (k := 0) (by decide +kernel) rfl
theorem k_79_68 (L : Nat) (xs : Nat → Int32) : ll_OK1 cX8_init RX8 none true ll_mN ll_mR ll_mK ll_cnt L xs false 68 (.inl (lo_getf 71 8 3)) := lk_getf (ix := 21) (ci := 8) (k := 3) (C := RX8) (T := TX8) (N := 10) (by decide +kernel) rfl in_8 (by decide) tb_359
theorem k_79_71 (L : Nat) (xs : Nat → Int32) : ll_OK1 cX8_init RX8 none true ll_mN ll_mR ll_mK ll_cnt L xs false 71 (.inl (lo_push 72 (.int 0))) := lk_iconst (n := 0) (by decide +kernel) (by decide)
theorem k_79_72 (L : Nat) (xs : Nat → Int32) : ll_OK1 cX8_init RX8 none true ll_mN ll_mR ll_mK ll_cnt L xs false 72 (.inl (lo_push 73 (.int (-1)))) := lk_iconst (n := (-1)) (by decide +kernel) (by decide)
theorem k_79_73 (L : Nat) (xs : Nat → Int32) : ll_OK1 cX8_init RX8 none true ll_mN ll_mR ll_mK ll_cnt L xs false 73 (.inl (lo_ast 74 0)) := lk_iast (by decide +kernel)
theorem k_79_74 (L : Nat) (xs : Nat → Int32) : ll_OK1 cX8_init RX8 none true ll_mN ll_mR ll_mK ll_cnt L xs false 74 (.inl (lo_aload 75 0)) := lk_aload_n (k := 0) (by decide +kernel) rfl
theorem k_79_75 (L : Nat) (xs : Nat → Int32) : ll_OK1 cX8_init RX8 none true ll_mN ll_mR ll_mK ll_cnt L xs false 75 (.inl (lo_getf 78 8 3)) := lk_getf (ix := 21) (ci := 8) (k := 3) (C := RX8) (T := TX8) (N := 10) (by decide +kernel) rfl in_8 (by decide) tb_359
theorem k_79_78 (L : Nat) (xs : Nat → Int32) : ll_OK1 cX8_init RX8 none true ll_mN ll_mR ll_mK ll_cnt L xs false 78 (.inl (lo_push 79 (.int 1))) := lk_iconst (n := 1) (by decide +kernel) (by decide)
theorem k_79_79 (L : Nat) (xs : Nat → Int32) : ll_OK1 cX8_init RX8 none true ll_mN ll_mR ll_mK ll_cnt L xs false 79 (.inl (lo_push 80 (.int 0))) := lk_iconst (n := 0) (by decide +kernel) (by decide)
theorem k_79_80 (L : Nat) (xs : Nat → Int32) : ll_OK1 cX8_init RX8 none true ll_mN ll_mR ll_mK ll_cnt L xs false 80 (.inl (lo_ast 81 0)) := lk_iast (by decide +kernel)
theorem k_79_81 (L : Nat) (xs : Nat → Int32) : ll_OK1 cX8_init RX8 none true ll_mN ll_mR ll_mK ll_cnt L xs false 81 (.inl (lo_push 82 (.int 2))) := lk_iconst (n := 2) (by decide +kernel) (by decide)
theorem k_79_82 (L : Nat) (xs : Nat → Int32) : ll_OK1 cX8_init RX8 none true ll_mN ll_mR ll_mK ll_cnt L xs false 82 (.inl (lo_istore 83 1)) := lk_istore_n (k := 1) (by decide +kernel) rfl
theorem k_79_83 (L : Nat) (xs : Nat → Int32) : ll_OK1 cX8_init RX8 none true ll_mN ll_mR ll_mK ll_cnt L xs false 83 (.inl (lo_iload 84 1)) := lk_iload_n (k := 1) (by decide +kernel) rfl
theorem k_79_84 (L : Nat) (xs : Nat → Int32) : ll_OK1 cX8_init RX8 none true ll_mN ll_mR ll_mK ll_cnt L xs false 84 (.inl (lo_push 85 (.int 5))) := lk_iconst (n := 5) (by decide +kernel) (by decide)
theorem k_79_85 (L : Nat) (xs : Nat → Int32) : ll_OK1 cX8_init RX8 none true ll_mN ll_mR ll_mK ll_cnt L xs false 85 (.inl (lo_cmp 101 88 (fun x y => decide (y ≤ x)))) := lk_icmp_ge (off := 16) (by decide +kernel) rfl
theorem k_79_88 (L : Nat) (xs : Nat → Int32) : ll_OK1 cX8_init RX8 none true ll_mN ll_mR ll_mK ll_cnt L xs false 88 (.inl (lo_aload 89 0)) := lk_aload_n (k := 0) (by decide +kernel) rfl
theorem k_79_89 (L : Nat) (xs : Nat → Int32) : ll_OK1 cX8_init RX8 none true ll_mN ll_mR ll_mK ll_cnt L xs false 89 (.inl (lo_getf 92 8 3)) := lk_getf (ix := 21) (ci := 8) (k := 3) (C := RX8) (T := TX8) (N := 10) (by decide +kernel) rfl in_8 (by decide) tb_359
theorem k_79_92 (L : Nat) (xs : Nat → Int32) : ll_OK1 cX8_init RX8 none true ll_mN ll_mR ll_mK ll_cnt L xs false 92 (.inl (lo_iload 93 1)) := lk_iload_n (k := 1) (by decide +kernel) rfl
theorem k_79_93 (L : Nat) (xs : Nat → Int32) : ll_OK1 cX8_init RX8 none true ll_mN ll_mR ll_mK ll_cnt L xs false 93 (.inl (lo_push 94 (.int 1))) := lk_iconst (n := 1) (by decide +kernel) (by decide)
theorem k_79_94 (L : Nat) (xs : Nat → Int32) : ll_OK1 cX8_init RX8 none true ll_mN ll_mR ll_mK ll_cnt L xs false 94 (.inl (lo_ast 95 0)) := lk_iast (by decide +kernel)
theorem k_79_95 (L : Nat) (xs : Nat → Int32) : ll_OK1 cX8_init RX8 none true ll_mN ll_mR ll_mK ll_cnt L xs false 95 (.inl (lo_iinc 98 1 1)) := lk_iinc (n := 1) (by decide +kernel) (by decide)
theorem k_79_98 (L : Nat) (xs : Nat → Int32) : ll_OK1 cX8_init RX8 none true ll_mN ll_mR ll_mK ll_cnt L xs false 98 (.inl (lo_goto 83)) := lk_goto (off := (-15)) (by decide +kernel) rfl
theorem k_79_101 (L : Nat) (xs : Nat → Int32) : ll_OK1 cX8_init RX8 none true ll_mN ll_mR ll_mK ll_cnt L xs false 101 (.inl (lo_aload 102 0)) := lk_aload_n (k := 0) (by decide +kernel) rfl
theorem k_79_102 (L : Nat) (xs : Nat → Int32) : ll_OK1 cX8_init RX8 none true ll_mN ll_mR ll_mK ll_cnt L xs false 102 (.inl (lo_push 103 (.int 5))) := lk_iconst (n := 5) (by decide +kernel) (by decide)
theorem k_79_103 (L : Nat) (xs : Nat → Int32) : ll_OK1 cX8_init RX8 none true ll_mN ll_mR ll_mK ll_cnt L xs false 103 (.inl (lo_putf 106 8 7 0)) := lk_putf (ix := 33) (ci := 8) (k := 7) (C := RX8) (T := TX8) (N := 10) (ty0 := tyX8) (by decide +kernel) rfl in_8 tyX8_ok nmX8 (by decide) tb_363 (fun B adr v w h1 h2 => ll_fit_int (B := B) (adr := adr) h1 h2) (Or.inl rfl)
theorem k_79_106 (L : Nat) (xs : Nat → Int32) : ll_OK1 cX8_init RX8 none true ll_mN ll_mR ll_mK ll_cnt L xs false 106 (.inr (.inr 0)) := ⟨fun _ => ⟨(by decide +kernel), rfl⟩, (fun h => by cases h), fun h => by cases h⟩
theorem ok_79 (L : Nat) (xs : Nat → Int32) : ∀ q ∈ cd_79, ll_OK1 cX8_init RX8 none true ll_mN ll_mR ll_mK ll_cnt L xs false q.1 q.2 :=
  List.forall_mem_cons.mpr ⟨k_79_0 L xs, List.forall_mem_cons.mpr ⟨k_79_1 L xs, List.forall_mem_cons.mpr ⟨k_79_4 L xs, List.forall_mem_cons.mpr ⟨k_79_5 L xs, List.forall_mem_cons.mpr ⟨k_79_8 L xs, List.forall_mem_cons.mpr ⟨k_79_10 L xs, List.forall_mem_cons.mpr ⟨k_79_13 L xs, List.forall_mem_cons.mpr ⟨k_79_14 L xs, List.forall_mem_cons.mpr ⟨k_79_17 L xs, List.forall_mem_cons.mpr ⟨k_79_19 L xs, List.forall_mem_cons.mpr ⟨k_79_22 L xs, List.forall_mem_cons.mpr ⟨k_79_23 L xs, List.forall_mem_cons.mpr ⟨k_79_26 L xs, List.forall_mem_cons.mpr ⟨k_79_28 L xs, List.forall_mem_cons.mpr ⟨k_79_31 L xs, List.forall_mem_cons.mpr ⟨k_79_32 L xs, List.forall_mem_cons.mpr ⟨k_79_35 L xs, List.forall_mem_cons.mpr ⟨k_79_37 L xs, List.forall_mem_cons.mpr ⟨k_79_40 L xs, List.forall_mem_cons.mpr ⟨k_79_41 L xs, List.forall_mem_cons.mpr ⟨k_79_44 L xs, List.forall_mem_cons.mpr ⟨k_79_46 L xs, List.forall_mem_cons.mpr ⟨k_79_49 L xs, List.forall_mem_cons.mpr ⟨k_79_50 L xs, List.forall_mem_cons.mpr ⟨k_79_53 L xs, List.forall_mem_cons.mpr ⟨k_79_55 L xs, List.forall_mem_cons.mpr ⟨k_79_58 L xs, List.forall_mem_cons.mpr ⟨k_79_59 L xs, List.forall_mem_cons.mpr ⟨k_79_62 L xs, List.forall_mem_cons.mpr ⟨k_79_64 L xs, List.forall_mem_cons.mpr ⟨k_79_67 L xs, List.forall_mem_cons.mpr ⟨k_79_68 L xs, List.forall_mem_cons.mpr ⟨k_79_71 L xs, List.forall_mem_cons.mpr ⟨k_79_72 L xs, List.forall_mem_cons.mpr ⟨k_79_73 L xs, List.forall_mem_cons.mpr ⟨k_79_74 L xs, List.forall_mem_cons.mpr ⟨k_79_75 L xs, List.forall_mem_cons.mpr ⟨k_79_78 L xs, List.forall_mem_cons.mpr ⟨k_79_79 L xs, List.forall_mem_cons.mpr ⟨k_79_80 L xs, List.forall_mem_cons.mpr ⟨k_79_81 L xs, List.forall_mem_cons.mpr ⟨k_79_82 L xs, List.forall_mem_cons.mpr ⟨k_79_83 L xs, List.forall_mem_cons.mpr ⟨k_79_84 L xs, List.forall_mem_cons.mpr ⟨k_79_85 L xs, List.forall_mem_cons.mpr ⟨k_79_88 L xs, List.forall_mem_cons.mpr ⟨k_79_89 L xs, List.forall_mem_cons.mpr ⟨k_79_92 L xs, List.forall_mem_cons.mpr ⟨k_79_93 L xs, List.forall_mem_cons.mpr ⟨k_79_94 L xs, List.forall_mem_cons.mpr ⟨k_79_95 L xs, List.forall_mem_cons.mpr ⟨k_79_98 L xs, List.forall_mem_cons.mpr ⟨k_79_101 L xs, List.forall_mem_cons.mpr ⟨k_79_102 L xs, List.forall_mem_cons.mpr ⟨k_79_103 L xs, List.forall_mem_cons.mpr ⟨k_79_106 L xs, fun _ h => absurd h List.not_mem_nil⟩⟩⟩⟩⟩⟩⟩⟩⟩⟩⟩⟩⟩⟩⟩⟩⟩⟩⟩⟩⟩⟩⟩⟩⟩⟩⟩⟩⟩⟩⟩⟩⟩⟩⟩⟩⟩⟩⟩⟩⟩⟩⟩⟩⟩⟩⟩⟩⟩⟩⟩⟩⟩⟩⟩⟩
/-- InclusionProver$Tree.clear.()V -/
def cd_80 : List (Nat × ll_O) := [
  (0, .inl (lo_aload 1 0)),
  (1, .inl (lo_push 2 (.int 5))),
  (2, .inl (lo_putf 5 8 7 0)),
  (5, .inl (lo_aload 6 0)),
  (6, .inl (lo_push 7 (.int 0))),
  (7, .inl (lo_putf 10 8 8 0)),
  (10, .inl (lo_aload 11 0)),
  (11, .inl (lo_push 12 (.int 0))),
  (12, .inl (lo_putf 15 8 9 0)),
  (15, .inr (.inr 0))]
theorem k_80_0 (L : Nat) (xs : Nat → Int32) : ll_OK1 cX8_clear RX8 none false ll_mN ll_mR ll_mK ll_cnt L xs false 0 (.inl (lo_aload 1 0)) := lk_aload_n (k := 0) (by decide +kernel) rfl
theorem k_80_1 (L : Nat) (xs : Nat → Int32) : ll_OK1 cX8_clear RX8 none false ll_mN ll_mR ll_mK ll_cnt L xs false 1 (.inl (lo_push 2 (.int 5))) := lk_iconst (n := 5) (by decide +kernel) (by decide)
theorem k_80_2 (L : Nat) (xs : Nat → Int32) : ll_OK1 cX8_clear RX8 none false ll_mN ll_mR ll_mK ll_cnt L xs false 2 (.inl (lo_putf 5 8 7 0)) := lk_putf (ix := 33) (ci := 8) (k := 7) (C := RX8) (T := TX8) (N := 10) (ty0 := tyX8) (by decide +kernel) rfl in_8 tyX8_ok nmX8 (by decide) tb_363 (fun B adr v w h1 h2 => ll_fit_int (B := B) (adr := adr) h1 h2) (Or.inl rfl)
theorem k_80_5 (L : Nat) (xs : Nat → Int32) : ll_OK1 cX8_clear RX8 none false ll_mN ll_mR ll_mK ll_cnt L xs false 5 (.inl (lo_aload 6 0)) := lk_aload_n (k := 0) (by decide +kernel) rfl
theorem k_80_6 (L : Nat) (xs : Nat → Int32) : ll_OK1 cX8_clear RX8 none false ll_mN ll_mR ll_mK ll_cnt L xs false 6 (.inl (lo_push 7 (.int 0))) := lk_iconst (n := 0) (by decide +kernel) (by decide)
theorem k_80_7 (L : Nat) (xs : Nat → Int32) : ll_OK1 cX8_clear RX8 none false ll_mN ll_mR ll_mK ll_cnt L xs false 7 (.inl (lo_putf 10 8 8 0)) := lk_putf (ix := 37) (ci := 8) (k := 8) (C := RX8) (T := TX8) (N := 10) (ty0 := tyX8) (by decide +kernel) rfl in_8 tyX8_ok nmX8 (by decide) tb_364 (fun B adr v w h1 h2 => ll_fit_int (B := B) (adr := adr) h1 h2) (Or.inl rfl)
theorem k_80_10 (L : Nat) (xs : Nat → Int32) : ll_OK1 cX8_clear RX8 none false ll_mN ll_mR ll_mK ll_cnt L xs false 10 (.inl (lo_aload 11 0)) := lk_aload_n (k := 0) (by decide +kernel) rfl
theorem k_80_11 (L : Nat) (xs : Nat → Int32) : ll_OK1 cX8_clear RX8 none false ll_mN ll_mR ll_mK ll_cnt L xs false 11 (.inl (lo_push 12 (.int 0))) := lk_iconst (n := 0) (by decide +kernel) (by decide)
theorem k_80_12 (L : Nat) (xs : Nat → Int32) : ll_OK1 cX8_clear RX8 none false ll_mN ll_mR ll_mK ll_cnt L xs false 12 (.inl (lo_putf 15 8 9 0)) := lk_putf (ix := 40) (ci := 8) (k := 9) (C := RX8) (T := TX8) (N := 10) (ty0 := tyX8) (by decide +kernel) rfl in_8 tyX8_ok nmX8 (by decide) tb_365 (fun B adr v w h1 h2 => ll_fit_int (B := B) (adr := adr) h1 h2) (Or.inl rfl)
theorem k_80_15 (L : Nat) (xs : Nat → Int32) : ll_OK1 cX8_clear RX8 none false ll_mN ll_mR ll_mK ll_cnt L xs false 15 (.inr (.inr 0)) := ⟨fun _ => ⟨(by decide +kernel), rfl⟩, (fun h => by cases h), fun h => by cases h⟩
theorem ok_80 (L : Nat) (xs : Nat → Int32) : ∀ q ∈ cd_80, ll_OK1 cX8_clear RX8 none false ll_mN ll_mR ll_mK ll_cnt L xs false q.1 q.2 :=
  List.forall_mem_cons.mpr ⟨k_80_0 L xs, List.forall_mem_cons.mpr ⟨k_80_1 L xs, List.forall_mem_cons.mpr ⟨k_80_2 L xs, List.forall_mem_cons.mpr ⟨k_80_5 L xs, List.forall_mem_cons.mpr ⟨k_80_6 L xs, List.forall_mem_cons.mpr ⟨k_80_7 L xs, List.forall_mem_cons.mpr ⟨k_80_10 L xs, List.forall_mem_cons.mpr ⟨k_80_11 L xs, List.forall_mem_cons.mpr ⟨k_80_12 L xs, List.forall_mem_cons.mpr ⟨k_80_15 L xs, fun _ h => absurd h List.not_mem_nil⟩⟩⟩⟩⟩⟩⟩⟩⟩⟩
/-- InclusionProver$Tree.kindOf.(I)I -/
def cd_81 : List (Nat × ll_O) := [
  (0, .inl (lo_iload 1 1)),
  (1, .inl (lo_if 21 4 (fun x => decide (x < 0)))),
  (4, .inl (lo_iload 5 1)),
  (5, .inl (lo_aload 6 0)),
  (6, .inl (lo_getf 9 8 7)),
  (9, .inl (lo_cmp 21 12 (fun x y => decide (y ≤ x)))),
  (12, .inl (lo_aload 13 0)),
  (13, .inl (lo_getf 16 8 0)),
  (16, .inl (lo_iload 17 1)),
  (17, .inl (lo_ald 18 0)),
  (18, .inl (lo_goto 22)),
  (21, .inl (lo_push 22 (.int 0))),
  (22, .inr (.inr 1))]
theorem k_81_0 (L : Nat) (xs : Nat → Int32) : ll_OK1 cX8_kindOf RX8 (some .int) false ll_mN ll_mR ll_mK ll_cnt L xs false 0 (.inl (lo_iload 1 1)) := lk_iload_n (k := 1) (by decide +kernel) rfl
theorem k_81_1 (L : Nat) (xs : Nat → Int32) : ll_OK1 cX8_kindOf RX8 (some .int) false ll_mN ll_mR ll_mK ll_cnt L xs false 1 (.inl (lo_if 21 4 (fun x => decide (x < 0)))) := lk_if_lt (off := 20) (by decide +kernel) rfl
theorem k_81_4 (L : Nat) (xs : Nat → Int32) : ll_OK1 cX8_kindOf RX8 (some .int) false ll_mN ll_mR ll_mK ll_cnt L xs false 4 (.inl (lo_iload 5 1)) := lk_iload_n (k := 1) (by decide +kernel) rfl
theorem k_81_5 (L : Nat) (xs : Nat → Int32) : ll_OK1 cX8_kindOf RX8 (some .int) false ll_mN ll_mR ll_mK ll_cnt L xs false 5 (.inl (lo_aload 6 0)) := lk_aload_n (k := 0) (by decide +kernel) rfl
theorem k_81_6 (L : Nat) (xs : Nat → Int32) : ll_OK1 cX8_kindOf RX8 (some .int) false ll_mN ll_mR ll_mK ll_cnt L xs false 6 (.inl (lo_getf 9 8 7)) := lk_getf (ix := 33) (ci := 8) (k := 7) (C := RX8) (T := TX8) (N := 10) (by decide +kernel) rfl in_8 (by decide) tb_363
theorem k_81_9 (L : Nat) (xs : Nat → Int32) : ll_OK1 cX8_kindOf RX8 (some .int) false ll_mN ll_mR ll_mK ll_cnt L xs false 9 (.inl (lo_cmp 21 12 (fun x y => decide (y ≤ x)))) := lk_icmp_ge (off := 12) (by decide +kernel) rfl
theorem k_81_12 (L : Nat) (xs : Nat → Int32) : ll_OK1 cX8_kindOf RX8 (some .int) false ll_mN ll_mR ll_mK ll_cnt L xs false 12 (.inl (lo_aload 13 0)) := lk_aload_n (k := 0) (by decide +kernel) rfl
theorem k_81_13 (L : Nat) (xs : Nat → Int32) : ll_OK1 cX8_kindOf RX8 (some .int) false ll_mN ll_mR ll_mK ll_cnt L xs false 13 (.inl (lo_getf 16 8 0)) := lk_getf (ix := 11) (ci := 8) (k := 0) (C := RX8) (T := TX8) (N := 10) (by decide +kernel) rfl in_8 (by decide) tb_356
theorem k_81_16 (L : Nat) (xs : Nat → Int32) : ll_OK1 cX8_kindOf RX8 (some .int) false ll_mN ll_mR ll_mK ll_cnt L xs false 16 (.inl (lo_iload 17 1)) := lk_iload_n (k := 1) (by decide +kernel) rfl
theorem k_81_17 (L : Nat) (xs : Nat → Int32) : ll_OK1 cX8_kindOf RX8 (some .int) false ll_mN ll_mR ll_mK ll_cnt L xs false 17 (.inl (lo_ald 18 0)) := lk_iald (by decide +kernel)
theorem k_81_18 (L : Nat) (xs : Nat → Int32) : ll_OK1 cX8_kindOf RX8 (some .int) false ll_mN ll_mR ll_mK ll_cnt L xs false 18 (.inl (lo_goto 22)) := lk_goto (off := 4) (by decide +kernel) rfl
theorem k_81_21 (L : Nat) (xs : Nat → Int32) : ll_OK1 cX8_kindOf RX8 (some .int) false ll_mN ll_mR ll_mK ll_cnt L xs false 21 (.inl (lo_push 22 (.int 0))) := lk_iconst (n := 0) (by decide +kernel) (by decide)
theorem k_81_22 (L : Nat) (xs : Nat → Int32) : ll_OK1 cX8_kindOf RX8 (some .int) false ll_mN ll_mR ll_mK ll_cnt L xs false 22 (.inr (.inr 1)) := ⟨(fun h => by cases h), (fun _ => ⟨(by decide +kernel), rfl⟩), fun h => by cases h⟩
theorem ok_81 (L : Nat) (xs : Nat → Int32) : ∀ q ∈ cd_81, ll_OK1 cX8_kindOf RX8 (some .int) false ll_mN ll_mR ll_mK ll_cnt L xs false q.1 q.2 :=
  List.forall_mem_cons.mpr ⟨k_81_0 L xs, List.forall_mem_cons.mpr ⟨k_81_1 L xs, List.forall_mem_cons.mpr ⟨k_81_4 L xs, List.forall_mem_cons.mpr ⟨k_81_5 L xs, List.forall_mem_cons.mpr ⟨k_81_6 L xs, List.forall_mem_cons.mpr ⟨k_81_9 L xs, List.forall_mem_cons.mpr ⟨k_81_12 L xs, List.forall_mem_cons.mpr ⟨k_81_13 L xs, List.forall_mem_cons.mpr ⟨k_81_16 L xs, List.forall_mem_cons.mpr ⟨k_81_17 L xs, List.forall_mem_cons.mpr ⟨k_81_18 L xs, List.forall_mem_cons.mpr ⟨k_81_21 L xs, List.forall_mem_cons.mpr ⟨k_81_22 L xs, fun _ h => absurd h List.not_mem_nil⟩⟩⟩⟩⟩⟩⟩⟩⟩⟩⟩⟩⟩
/-- InclusionProver$Tree.childrenOf.(I)I -/
def cd_82 : List (Nat × ll_O) := [
  (0, .inl (lo_iload 1 1)),
  (1, .inl (lo_if 21 4 (fun x => decide (x < 0)))),
  (4, .inl (lo_iload 5 1)),
  (5, .inl (lo_aload 6 0)),
  (6, .inl (lo_getf 9 8 7)),
  (9, .inl (lo_cmp 21 12 (fun x y => decide (y ≤ x)))),
  (12, .inl (lo_aload 13 0)),
  (13, .inl (lo_getf 16 8 2)),
  (16, .inl (lo_iload 17 1)),
  (17, .inl (lo_ald 18 0)),
  (18, .inl (lo_goto 22)),
  (21, .inl (lo_push 22 (.int 0))),
  (22, .inr (.inr 1))]
theorem k_82_0 (L : Nat) (xs : Nat → Int32) : ll_OK1 cX8_childrenOf RX8 (some .int) false ll_mN ll_mR ll_mK ll_cnt L xs false 0 (.inl (lo_iload 1 1)) := lk_iload_n (k := 1) (by decide +kernel) rfl
theorem k_82_1 (L : Nat) (xs : Nat → Int32) : ll_OK1 cX8_childrenOf RX8 (some .int) false ll_mN ll_mR ll_mK ll_cnt L xs false 1 (.inl (lo_if 21 4 (fun x => decide (x < 0)))) := lk_if_lt (off := 20) (by decide +kernel) rfl
theorem k_82_4 (L : Nat) (xs : Nat → Int32) : ll_OK1 cX8_childrenOf RX8 (some .int) false ll_mN ll_mR ll_mK ll_cnt L xs false 4 (.inl (lo_iload 5 1)) := lk_iload_n (k := 1) (by decide +kernel) rfl
theorem k_82_5 (L : Nat) (xs : Nat → Int32) : ll_OK1 cX8_childrenOf RX8 (some .int) false ll_mN ll_mR ll_mK ll_cnt L xs false 5 (.inl (lo_aload 6 0)) := lk_aload_n (k := 0) (by decide +kernel) rfl
theorem k_82_6 (L : Nat) (xs : Nat → Int32) : ll_OK1 cX8_childrenOf RX8 (some .int) false ll_mN ll_mR ll_mK ll_cnt L xs false 6 (.inl (lo_getf 9 8 7)) := lk_getf (ix := 33) (ci := 8) (k := 7) (C := RX8) (T := TX8) (N := 10) (by decide +kernel) rfl in_8 (by decide) tb_363
theorem k_82_9 (L : Nat) (xs : Nat → Int32) : ll_OK1 cX8_childrenOf RX8 (some .int) false ll_mN ll_mR ll_mK ll_cnt L xs false 9 (.inl (lo_cmp 21 12 (fun x y => decide (y ≤ x)))) := lk_icmp_ge (off := 12) (by decide +kernel) rfl
theorem k_82_12 (L : Nat) (xs : Nat → Int32) : ll_OK1 cX8_childrenOf RX8 (some .int) false ll_mN ll_mR ll_mK ll_cnt L xs false 12 (.inl (lo_aload 13 0)) := lk_aload_n (k := 0) (by decide +kernel) rfl
theorem k_82_13 (L : Nat) (xs : Nat → Int32) : ll_OK1 cX8_childrenOf RX8 (some .int) false ll_mN ll_mR ll_mK ll_cnt L xs false 13 (.inl (lo_getf 16 8 2)) := lk_getf (ix := 18) (ci := 8) (k := 2) (C := RX8) (T := TX8) (N := 10) (by decide +kernel) rfl in_8 (by decide) tb_358
theorem k_82_16 (L : Nat) (xs : Nat → Int32) : ll_OK1 cX8_childrenOf RX8 (some .int) false ll_mN ll_mR ll_mK ll_cnt L xs false 16 (.inl (lo_iload 17 1)) := lk_iload_n (k := 1) (by decide +kernel) rfl
theorem k_82_17 (L : Nat) (xs : Nat → Int32) : ll_OK1 cX8_childrenOf RX8 (some .int) false ll_mN ll_mR ll_mK ll_cnt L xs false 17 (.inl (lo_ald 18 0)) := lk_iald (by decide +kernel)
theorem k_82_18 (L : Nat) (xs : Nat → Int32) : ll_OK1 cX8_childrenOf RX8 (some .int) false ll_mN ll_mR ll_mK ll_cnt L xs false 18 (.inl (lo_goto 22)) := lk_goto (off := 4) (by decide +kernel) rfl
theorem k_82_21 (L : Nat) (xs : Nat → Int32) : ll_OK1 cX8_childrenOf RX8 (some .int) false ll_mN ll_mR ll_mK ll_cnt L xs false 21 (.inl (lo_push 22 (.int 0))) := lk_iconst (n := 0) (by decide +kernel) (by decide)
theorem k_82_22 (L : Nat) (xs : Nat → Int32) : ll_OK1 cX8_childrenOf RX8 (some .int) false ll_mN ll_mR ll_mK ll_cnt L xs false 22 (.inr (.inr 1)) := ⟨(fun h => by cases h), (fun _ => ⟨(by decide +kernel), rfl⟩), fun h => by cases h⟩
theorem ok_82 (L : Nat) (xs : Nat → Int32) : ∀ q ∈ cd_82, ll_OK1 cX8_childrenOf RX8 (some .int) false ll_mN ll_mR ll_mK ll_cnt L xs false q.1 q.2 :=
  List.forall_mem_cons.mpr ⟨k_82_0 L xs, List.forall_mem_cons.mpr ⟨k_82_1 L xs, List.forall_mem_cons.mpr ⟨k_82_4 L xs, List.forall_mem_cons.mpr ⟨k_82_5 L xs, List.forall_mem_cons.mpr ⟨k_82_6 L xs, List.forall_mem_cons.mpr ⟨k_82_9 L xs, List.forall_mem_cons.mpr ⟨k_82_12 L xs, List.forall_mem_cons.mpr ⟨k_82_13 L xs, List.forall_mem_cons.mpr ⟨k_82_16 L xs, List.forall_mem_cons.mpr ⟨k_82_17 L xs, List.forall_mem_cons.mpr ⟨k_82_18 L xs, List.forall_mem_cons.mpr ⟨k_82_21 L xs, List.forall_mem_cons.mpr ⟨k_82_22 L xs, fun _ h => absurd h List.not_mem_nil⟩⟩⟩⟩⟩⟩⟩⟩⟩⟩⟩⟩⟩
/-- InclusionProver$Tree.childOf.(II)I -/
def cd_83 : List (Nat × ll_O) := [
  (0, .inl (lo_iload 1 1)),
  (1, .inl (lo_if 30 4 (fun x => decide (x < 0)))),
  (4, .inl (lo_iload 5 1)),
  (5, .inl (lo_aload 6 0)),
  (6, .inl (lo_getf 9 8 7)),
  (9, .inl (lo_cmp 30 12 (fun x y => decide (y ≤ x)))),
  (12, .inl (lo_iload 13 2)),
  (13, .inl (lo_if 30 16 (fun x => decide (x < 0)))),
  (16, .inl (lo_iload 17 2)),
  (17, .inl (lo_aload 18 0)),
  (18, .inl (lo_getf 21 8 2)),
  (21, .inl (lo_iload 22 1)),
  (22, .inl (lo_ald 23 0)),
  (23, .inl (lo_cmp 30 26 (fun x y => decide (y ≤ x)))),
  (26, .inl (lo_push 27 (.int 1))),
  (27, .inl (lo_goto 31)),
  (30, .inl (lo_push 31 (.int 0))),
  (31, .inl (lo_istore 32 3)),
  (32, .inl (lo_iload 33 3)),
  (33, .inl (lo_if 52 36 (fun x => decide (x = 0)))),
  (36, .inl (lo_aload 37 0)),
  (37, .inl (lo_getf 40 8 5)),
  (40, .inl (lo_aload 41 0)),
  (41, .inl (lo_getf 44 8 1)),
  (44, .inl (lo_iload 45 1)),
  (45, .inl (lo_ald 46 0)),
  (46, .inl (lo_iload 47 2)),
  (47, .inl (lo_bin 48 (fun x y => x + y))),
  (48, .inl (lo_ald 49 0)),
  (49, .inl (lo_goto 53)),
  (52, .inl (lo_push 53 (.int 0))),
  (53, .inr (.inr 1))]
theorem k_83_0 (L : Nat) (xs : Nat → Int32) : ll_OK1 cX8_childOf RX8 (some .int) false ll_mN ll_mR ll_mK ll_cnt L xs false 0 (.inl (lo_iload 1 1)) := lk_iload_n (k := 1) (by decide +kernel) rfl
theorem k_83_1 (L : Nat) (xs : Nat → Int32) : ll_OK1 cX8_childOf RX8 (some .int) false ll_mN ll_mR ll_mK ll_cnt L xs false 1 (.inl (lo_if 30 4 (fun x => decide (x < 0)))) := lk_if_lt (off := 29) (by decide +kernel) rfl
theorem k_83_4 (L : Nat) (xs : Nat → Int32) : ll_OK1 cX8_childOf RX8 (some .int) false ll_mN ll_mR ll_mK ll_cnt L xs false 4 (.inl (lo_iload 5 1)) := lk_iload_n (k := 1) (by decide +kernel) rfl
theorem k_83_5 (L : Nat) (xs : Nat → Int32) : ll_OK1 cX8_childOf RX8 (some .int) false ll_mN ll_mR ll_mK ll_cnt L xs false 5 (.inl (lo_aload 6 0)) := lk_aload_n (k := 0) (by decide +kernel) rfl
theorem k_83_6 (L : Nat) (xs : Nat → Int32) : ll_OK1 cX8_childOf RX8 (some .int) false ll_mN ll_mR ll_mK ll_cnt L xs false 6 (.inl (lo_getf 9 8 7)) := lk_getf (ix := 33) (ci := 8) (k := 7) (C := RX8) (T := TX8) (N := 10) (by decide +kernel) rfl in_8 (by decide) tb_363
theorem k_83_9 (L : Nat) (xs : Nat → Int32) : ll_OK1 cX8_childOf RX8 (some .int) false ll_mN ll_mR ll_mK ll_cnt L xs false 9 (.inl (lo_cmp 30 12 (fun x y => decide (y ≤ x)))) := lk_icmp_ge (off := 21) (by decide +kernel) rfl
theorem k_83_12 (L : Nat) (xs : Nat → Int32) : ll_OK1 cX8_childOf RX8 (some .int) false ll_mN ll_mR ll_mK ll_cnt L xs false 12 (.inl (lo_iload 13 2)) := lk_iload_n (k := 2) (by decide +kernel) rfl
theorem k_83_13 (L : Nat) (xs : Nat → Int32) : ll_OK1 cX8_childOf RX8 (some .int) false ll_mN ll_mR ll_mK ll_cnt L xs false 13 (.inl (lo_if 30 16 (fun x => decide (x < 0)))) := lk_if_lt (off := 17) (by decide +kernel) rfl
theorem k_83_16 (L : Nat) (xs : Nat → Int32) : ll_OK1 cX8_childOf RX8 (some .int) false ll_mN ll_mR ll_mK ll_cnt L xs false 16 (.inl (lo_iload 17 2)) := lk_iload_n (k := 2) (by decide +kernel) rfl
theorem k_83_17 (L : Nat) (xs : Nat → Int32) : ll_OK1 cX8_childOf RX8 (some .int) false ll_mN ll_mR ll_mK ll_cnt L xs false 17 (.inl (lo_aload 18 0)) := lk_aload_n (k := 0) (by decide +kernel) rfl
theorem k_83_18 (L : Nat) (xs : Nat → Int32) : ll_OK1 cX8_childOf RX8 (some .int) false ll_mN ll_mR ll_mK ll_cnt L xs false 18 (.inl (lo_getf 21 8 2)) := lk_getf (ix := 18) (ci := 8) (k := 2) (C := RX8) (T := TX8) (N := 10) (by decide +kernel) rfl in_8 (by decide) tb_358
theorem k_83_21 (L : Nat) (xs : Nat → Int32) : ll_OK1 cX8_childOf RX8 (some .int) false ll_mN ll_mR ll_mK ll_cnt L xs false 21 (.inl (lo_iload 22 1)) := lk_iload_n (k := 1) (by decide +kernel) rfl
theorem k_83_22 (L : Nat) (xs : Nat → Int32) : ll_OK1 cX8_childOf RX8 (some .int) false ll_mN ll_mR ll_mK ll_cnt L xs false 22 (.inl (lo_ald 23 0)) := lk_iald (by decide +kernel)
theorem k_83_23 (L : Nat) (xs : Nat → Int32) : ll_OK1 cX8_childOf RX8 (some .int) false ll_mN ll_mR ll_mK ll_cnt L xs false 23 (.inl (lo_cmp 30 26 (fun x y => decide (y ≤ x)))) := lk_icmp_ge (off := 7) (by decide +kernel) rfl
theorem k_83_26 (L : Nat) (xs : Nat → Int32) : ll_OK1 cX8_childOf RX8 (some .int) false ll_mN ll_mR ll_mK ll_cnt L xs false 26 (.inl (lo_push 27 (.int 1))) := lk_iconst (n := 1) (by decide +kernel) (by decide)
theorem k_83_27 (L : Nat) (xs : Nat → Int32) : ll_OK1 cX8_childOf RX8 (some .int) false ll_mN ll_mR ll_mK ll_cnt L xs false 27 (.inl (lo_goto 31)) := lk_goto (off := 4) (by decide +kernel) rfl
theorem k_83_30 (L : Nat) (xs : Nat → Int32) : ll_OK1 cX8_childOf RX8 (some .int) false ll_mN ll_mR ll_mK ll_cnt L xs false 30 (.inl (lo_push 31 (.int 0))) := lk_iconst (n := 0) (by decide +kernel) (by decide)
theorem k_83_31 (L : Nat) (xs : Nat → Int32) : ll_OK1 cX8_childOf RX8 (some .int) false ll_mN ll_mR ll_mK ll_cnt L xs false 31 (.inl (lo_istore 32 3)) := lk_istore_n (k := 3) (by decide +kernel) rfl
theorem k_83_32 (L : Nat) (xs : Nat → Int32) : ll_OK1 cX8_childOf RX8 (some .int) false ll_mN ll_mR ll_mK ll_cnt L xs false 32 (.inl (lo_iload 33 3)) := lk_iload_n (k := 3) (by decide +kernel) rfl
theorem k_83_33 (L : Nat) (xs : Nat → Int32) : ll_OK1 cX8_childOf RX8 (some .int) false ll_mN ll_mR ll_mK ll_cnt L xs false 33 (.inl (lo_if 52 36 (fun x => decide (x = 0)))) := lk_if_eq (off := 19) (by decide +kernel) rfl
theorem k_83_36 (L : Nat) (xs : Nat → Int32) : ll_OK1 cX8_childOf RX8 (some .int) false ll_mN ll_mR ll_mK ll_cnt L xs false 36 (.inl (lo_aload 37 0)) := lk_aload_n (k := 0) (by decide +kernel) rfl
theorem k_83_37 (L : Nat) (xs : Nat → Int32) : ll_OK1 cX8_childOf RX8 (some .int) false ll_mN ll_mR ll_mK ll_cnt L xs false 37 (.inl (lo_getf 40 8 5)) := lk_getf (ix := 27) (ci := 8) (k := 5) (C := RX8) (T := TX8) (N := 10) (by decide +kernel) rfl in_8 (by decide) tb_361
theorem k_83_40 (L : Nat) (xs : Nat → Int32) : ll_OK1 cX8_childOf RX8 (some .int) false ll_mN ll_mR ll_mK ll_cnt L xs false 40 (.inl (lo_aload 41 0)) := lk_aload_n (k := 0) (by decide +kernel) rfl
theorem k_83_41 (L : Nat) (xs : Nat → Int32) : ll_OK1 cX8_childOf RX8 (some .int) false ll_mN ll_mR ll_mK ll_cnt L xs false 41 (.inl (lo_getf 44 8 1)) := lk_getf (ix := 15) (ci := 8) (k := 1) (C := RX8) (T := TX8) (N := 10) (by decide +kernel) rfl in_8 (by decide) tb_357
theorem k_83_44 (L : Nat) (xs : Nat → Int32) : ll_OK1 cX8_childOf RX8 (some .int) false ll_mN ll_mR ll_mK ll_cnt L xs false 44 (.inl (lo_iload 45 1)) := lk_iload_n (k := 1) (by decide +kernel) rfl
theorem k_83_45 (L : Nat) (xs : Nat → Int32) : ll_OK1 cX8_childOf RX8 (some .int) false ll_mN ll_mR ll_mK ll_cnt L xs false 45 (.inl (lo_ald 46 0)) := lk_iald (by decide +kernel)
theorem k_83_46 (L : Nat) (xs : Nat → Int32) : ll_OK1 cX8_childOf RX8 (some .int) false ll_mN ll_mR ll_mK ll_cnt L xs false 46 (.inl (lo_iload 47 2)) := lk_iload_n (k := 2) (by decide +kernel) rfl
theorem k_83_47 (L : Nat) (xs : Nat → Int32) : ll_OK1 cX8_childOf RX8 (some .int) false ll_mN ll_mR ll_mK ll_cnt L xs false 47 (.inl (lo_bin 48 (fun x y => x + y))) := lk_iadd (by decide +kernel)
theorem k_83_48 (L : Nat) (xs : Nat → Int32) : ll_OK1 cX8_childOf RX8 (some .int) false ll_mN ll_mR ll_mK ll_cnt L xs false 48 (.inl (lo_ald 49 0)) := lk_iald (by decide +kernel)
theorem k_83_49 (L : Nat) (xs : Nat → Int32) : ll_OK1 cX8_childOf RX8 (some .int) false ll_mN ll_mR ll_mK ll_cnt L xs false 49 (.inl (lo_goto 53)) := lk_goto (off := 4) (by decide +kernel) rfl
theorem k_83_52 (L : Nat) (xs : Nat → Int32) : ll_OK1 cX8_childOf RX8 (some .int) false ll_mN ll_mR ll_mK ll_cnt L xs false 52 (.inl (lo_push 53 (.int 0))) := lk_iconst (n := 0) (by decide +kernel) (by decide)
theorem k_83_53 (L : Nat) (xs : Nat → Int32) : ll_OK1 cX8_childOf RX8 (some .int) false ll_mN ll_mR ll_mK ll_cnt L xs false 53 (.inr (.inr 1)) := ⟨(fun h => by cases h), (fun _ => ⟨(by decide +kernel), rfl⟩), fun h => by cases h⟩
theorem ok_83 (L : Nat) (xs : Nat → Int32) : ∀ q ∈ cd_83, ll_OK1 cX8_childOf RX8 (some .int) false ll_mN ll_mR ll_mK ll_cnt L xs false q.1 q.2 :=
  List.forall_mem_cons.mpr ⟨k_83_0 L xs, List.forall_mem_cons.mpr ⟨k_83_1 L xs, List.forall_mem_cons.mpr ⟨k_83_4 L xs, List.forall_mem_cons.mpr ⟨k_83_5 L xs, List.forall_mem_cons.mpr ⟨k_83_6 L xs, List.forall_mem_cons.mpr ⟨k_83_9 L xs, List.forall_mem_cons.mpr ⟨k_83_12 L xs, List.forall_mem_cons.mpr ⟨k_83_13 L xs, List.forall_mem_cons.mpr ⟨k_83_16 L xs, List.forall_mem_cons.mpr ⟨k_83_17 L xs, List.forall_mem_cons.mpr ⟨k_83_18 L xs, List.forall_mem_cons.mpr ⟨k_83_21 L xs, List.forall_mem_cons.mpr ⟨k_83_22 L xs, List.forall_mem_cons.mpr ⟨k_83_23 L xs, List.forall_mem_cons.mpr ⟨k_83_26 L xs, List.forall_mem_cons.mpr ⟨k_83_27 L xs, List.forall_mem_cons.mpr ⟨k_83_30 L xs, List.forall_mem_cons.mpr ⟨k_83_31 L xs, List.forall_mem_cons.mpr ⟨k_83_32 L xs, List.forall_mem_cons.mpr ⟨k_83_33 L xs, List.forall_mem_cons.mpr ⟨k_83_36 L xs, List.forall_mem_cons.mpr ⟨k_83_37 L xs, List.forall_mem_cons.mpr ⟨k_83_40 L xs, List.forall_mem_cons.mpr ⟨k_83_41 L xs, List.forall_mem_cons.mpr ⟨k_83_44 L xs, List.forall_mem_cons.mpr ⟨k_83_45 L xs, List.forall_mem_cons.mpr ⟨k_83_46 L xs, List.forall_mem_cons.mpr ⟨k_83_47 L xs, List.forall_mem_cons.mpr ⟨k_83_48 L xs, List.forall_mem_cons.mpr ⟨k_83_49 L xs, List.forall_mem_cons.mpr ⟨k_83_52 L xs, List.forall_mem_cons.mpr ⟨k_83_53 L xs, fun _ h => absurd h List.not_mem_nil⟩⟩⟩⟩⟩⟩⟩⟩⟩⟩⟩⟩⟩⟩⟩⟩⟩⟩⟩⟩⟩⟩⟩⟩⟩⟩⟩⟩⟩⟩⟩⟩
/-- InclusionProver$Tree.shortestOf.(I)I -/
def cd_84 : List (Nat × ll_O) := [
  (0, .inl (lo_iload 1 1)),
  (1, .inl (lo_if 21 4 (fun x => decide (x < 0)))),
  (4, .inl (lo_iload 5 1)),
  (5, .inl (lo_aload 6 0)),
  (6, .inl (lo_getf 9 8 7)),
  (9, .inl (lo_cmp 21 12 (fun x y => decide (y ≤ x)))),
  (12, .inl (lo_aload 13 0)),
  (13, .inl (lo_getf 16 8 3)),
  (16, .inl (lo_iload 17 1)),
  (17, .inl (lo_ald 18 0)),
  (18, .inl (lo_goto 22)),
  (21, .inl (lo_push 22 (.int (-1)))),
  (22, .inr (.inr 1))]
theorem k_84_0 (L : Nat) (xs : Nat → Int32) : ll_OK1 cX8_shortestOf RX8 (some .int) false ll_mN ll_mR ll_mK ll_cnt L xs false 0 (.inl (lo_iload 1 1)) := lk_iload_n (k := 1) (by decide +kernel) rfl
theorem k_84_1 (L : Nat) (xs : Nat → Int32) : ll_OK1 cX8_shortestOf RX8 (some .int) false ll_mN ll_mR ll_mK ll_cnt L xs false 1 (.inl (lo_if 21 4 (fun x => decide (x < 0)))) := lk_if_lt (off := 20) (by decide +kernel) rfl
theorem k_84_4 (L : Nat) (xs : Nat → Int32) : ll_OK1 cX8_shortestOf RX8 (some .int) false ll_mN ll_mR ll_mK ll_cnt L xs false 4 (.inl (lo_iload 5 1)) := lk_iload_n (k := 1) (by decide +kernel) rfl
theorem k_84_5 (L : Nat) (xs : Nat → Int32) : ll_OK1 cX8_shortestOf RX8 (some .int) false ll_mN ll_mR ll_mK ll_cnt L xs false 5 (.inl (lo_aload 6 0)) := lk_aload_n (k := 0) (by decide +kernel) rfl
theorem k_84_6 (L : Nat) (xs : Nat → Int32) : ll_OK1 cX8_shortestOf RX8 (some .int) false ll_mN ll_mR ll_mK ll_cnt L xs false 6 (.inl (lo_getf 9 8 7)) := lk_getf (ix := 33) (ci := 8) (k := 7) (C := RX8) (T := TX8) (N := 10) (by decide +kernel) rfl in_8 (by decide) tb_363
theorem k_84_9 (L : Nat) (xs : Nat → Int32) : ll_OK1 cX8_shortestOf RX8 (some .int) false ll_mN ll_mR ll_mK ll_cnt L xs false 9 (.inl (lo_cmp 21 12 (fun x y => decide (y ≤ x)))) := lk_icmp_ge (off := 12) (by decide +kernel) rfl
theorem k_84_12 (L : Nat) (xs : Nat → Int32) : ll_OK1 cX8_shortestOf RX8 (some .int) false ll_mN ll_mR ll_mK ll_cnt L xs false 12 (.inl (lo_aload 13 0)) := lk_aload_n (k := 0) (by decide +kernel) rfl
theorem k_84_13 (L : Nat) (xs : Nat → Int32) : ll_OK1 cX8_shortestOf RX8 (some .int) false ll_mN ll_mR ll_mK ll_cnt L xs false 13 (.inl (lo_getf 16 8 3)) := lk_getf (ix := 21) (ci := 8) (k := 3) (C := RX8) (T := TX8) (N := 10) (by decide +kernel) rfl in_8 (by decide) tb_359
theorem k_84_16 (L : Nat) (xs : Nat → Int32) : ll_OK1 cX8_shortestOf RX8 (some .int) false ll_mN ll_mR ll_mK ll_cnt L xs false 16 (.inl (lo_iload 17 1)) := lk_iload_n (k := 1) (by decide +kernel) rfl
theorem k_84_17 (L : Nat) (xs : Nat → Int32) : ll_OK1 cX8_shortestOf RX8 (some .int) false ll_mN ll_mR ll_mK ll_cnt L xs false 17 (.inl (lo_ald 18 0)) := lk_iald (by decide +kernel)
theorem k_84_18 (L : Nat) (xs : Nat → Int32) : ll_OK1 cX8_shortestOf RX8 (some .int) false ll_mN ll_mR ll_mK ll_cnt L xs false 18 (.inl (lo_goto 22)) := lk_goto (off := 4) (by decide +kernel) rfl
theorem k_84_21 (L : Nat) (xs : Nat → Int32) : ll_OK1 cX8_shortestOf RX8 (some .int) false ll_mN ll_mR ll_mK ll_cnt L xs false 21 (.inl (lo_push 22 (.int (-1)))) := lk_iconst (n := (-1)) (by decide +kernel) (by decide)
theorem k_84_22 (L : Nat) (xs : Nat → Int32) : ll_OK1 cX8_shortestOf RX8 (some .int) false ll_mN ll_mR ll_mK ll_cnt L xs false 22 (.inr (.inr 1)) := ⟨(fun h => by cases h), (fun _ => ⟨(by decide +kernel), rfl⟩), fun h => by cases h⟩
theorem ok_84 (L : Nat) (xs : Nat → Int32) : ∀ q ∈ cd_84, ll_OK1 cX8_shortestOf RX8 (some .int) false ll_mN ll_mR ll_mK ll_cnt L xs false q.1 q.2 :=
  List.forall_mem_cons.mpr ⟨k_84_0 L xs, List.forall_mem_cons.mpr ⟨k_84_1 L xs, List.forall_mem_cons.mpr ⟨k_84_4 L xs, List.forall_mem_cons.mpr ⟨k_84_5 L xs, List.forall_mem_cons.mpr ⟨k_84_6 L xs, List.forall_mem_cons.mpr ⟨k_84_9 L xs, List.forall_mem_cons.mpr ⟨k_84_12 L xs, List.forall_mem_cons.mpr ⟨k_84_13 L xs, List.forall_mem_cons.mpr ⟨k_84_16 L xs, List.forall_mem_cons.mpr ⟨k_84_17 L xs, List.forall_mem_cons.mpr ⟨k_84_18 L xs, List.forall_mem_cons.mpr ⟨k_84_21 L xs, List.forall_mem_cons.mpr ⟨k_84_22 L xs, fun _ h => absurd h List.not_mem_nil⟩⟩⟩⟩⟩⟩⟩⟩⟩⟩⟩⟩⟩
/-- InclusionProver$Tree.nestOf.(I)I -/
def cd_85 : List (Nat × ll_O) := [
  (0, .inl (lo_iload 1 1)),
  (1, .inl (lo_if 21 4 (fun x => decide (x < 0)))),
  (4, .inl (lo_iload 5 1)),
  (5, .inl (lo_aload 6 0)),
  (6, .inl (lo_getf 9 8 7)),
  (9, .inl (lo_cmp 21 12 (fun x y => decide (y ≤ x)))),
  (12, .inl (lo_aload 13 0)),
  (13, .inl (lo_getf 16 8 4)),
  (16, .inl (lo_iload 17 1)),
  (17, .inl (lo_ald 18 0)),
  (18, .inl (lo_goto 22)),
  (21, .inl (lo_push 22 (.int 0))),
  (22, .inr (.inr 1))]
theorem k_85_0 (L : Nat) (xs : Nat → Int32) : ll_OK1 cX8_nestOf RX8 (some .int) false ll_mN ll_mR ll_mK ll_cnt L xs false 0 (.inl (lo_iload 1 1)) := lk_iload_n (k := 1) (by decide +kernel) rfl
theorem k_85_1 (L : Nat) (xs : Nat → Int32) : ll_OK1 cX8_nestOf RX8 (some .int) false ll_mN ll_mR ll_mK ll_cnt L xs false 1 (.inl (lo_if 21 4 (fun x => decide (x < 0)))) := lk_if_lt (off := 20) (by decide +kernel) rfl
theorem k_85_4 (L : Nat) (xs : Nat → Int32) : ll_OK1 cX8_nestOf RX8 (some .int) false ll_mN ll_mR ll_mK ll_cnt L xs false 4 (.inl (lo_iload 5 1)) := lk_iload_n (k := 1) (by decide +kernel) rfl
theorem k_85_5 (L : Nat) (xs : Nat → Int32) : ll_OK1 cX8_nestOf RX8 (some .int) false ll_mN ll_mR ll_mK ll_cnt L xs false 5 (.inl (lo_aload 6 0)) := lk_aload_n (k := 0) (by decide +kernel) rfl
theorem k_85_6 (L : Nat) (xs : Nat → Int32) : ll_OK1 cX8_nestOf RX8 (some .int) false ll_mN ll_mR ll_mK ll_cnt L xs false 6 (.inl (lo_getf 9 8 7)) := lk_getf (ix := 33) (ci := 8) (k := 7) (C := RX8) (T := TX8) (N := 10) (by decide +kernel) rfl in_8 (by decide) tb_363
theorem k_85_9 (L : Nat) (xs : Nat → Int32) : ll_OK1 cX8_nestOf RX8 (some .int) false ll_mN ll_mR ll_mK ll_cnt L xs false 9 (.inl (lo_cmp 21 12 (fun x y => decide (y ≤ x)))) := lk_icmp_ge (off := 12) (by decide +kernel) rfl
theorem k_85_12 (L : Nat) (xs : Nat → Int32) : ll_OK1 cX8_nestOf RX8 (some .int) false ll_mN ll_mR ll_mK ll_cnt L xs false 12 (.inl (lo_aload 13 0)) := lk_aload_n (k := 0) (by decide +kernel) rfl
theorem k_85_13 (L : Nat) (xs : Nat → Int32) : ll_OK1 cX8_nestOf RX8 (some .int) false ll_mN ll_mR ll_mK ll_cnt L xs false 13 (.inl (lo_getf 16 8 4)) := lk_getf (ix := 24) (ci := 8) (k := 4) (C := RX8) (T := TX8) (N := 10) (by decide +kernel) rfl in_8 (by decide) tb_360
theorem k_85_16 (L : Nat) (xs : Nat → Int32) : ll_OK1 cX8_nestOf RX8 (some .int) false ll_mN ll_mR ll_mK ll_cnt L xs false 16 (.inl (lo_iload 17 1)) := lk_iload_n (k := 1) (by decide +kernel) rfl
theorem k_85_17 (L : Nat) (xs : Nat → Int32) : ll_OK1 cX8_nestOf RX8 (some .int) false ll_mN ll_mR ll_mK ll_cnt L xs false 17 (.inl (lo_ald 18 0)) := lk_iald (by decide +kernel)
theorem k_85_18 (L : Nat) (xs : Nat → Int32) : ll_OK1 cX8_nestOf RX8 (some .int) false ll_mN ll_mR ll_mK ll_cnt L xs false 18 (.inl (lo_goto 22)) := lk_goto (off := 4) (by decide +kernel) rfl
theorem k_85_21 (L : Nat) (xs : Nat → Int32) : ll_OK1 cX8_nestOf RX8 (some .int) false ll_mN ll_mR ll_mK ll_cnt L xs false 21 (.inl (lo_push 22 (.int 0))) := lk_iconst (n := 0) (by decide +kernel) (by decide)
theorem k_85_22 (L : Nat) (xs : Nat → Int32) : ll_OK1 cX8_nestOf RX8 (some .int) false ll_mN ll_mR ll_mK ll_cnt L xs false 22 (.inr (.inr 1)) := ⟨(fun h => by cases h), (fun _ => ⟨(by decide +kernel), rfl⟩), fun h => by cases h⟩
theorem ok_85 (L : Nat) (xs : Nat → Int32) : ∀ q ∈ cd_85, ll_OK1 cX8_nestOf RX8 (some .int) false ll_mN ll_mR ll_mK ll_cnt L xs false q.1 q.2 :=
  List.forall_mem_cons.mpr ⟨k_85_0 L xs, List.forall_mem_cons.mpr ⟨k_85_1 L xs, List.forall_mem_cons.mpr ⟨k_85_4 L xs, List.forall_mem_cons.mpr ⟨k_85_5 L xs, List.forall_mem_cons.mpr ⟨k_85_6 L xs, List.forall_mem_cons.mpr ⟨k_85_9 L xs, List.forall_mem_cons.mpr ⟨k_85_12 L xs, List.forall_mem_cons.mpr ⟨k_85_13 L xs, List.forall_mem_cons.mpr ⟨k_85_16 L xs, List.forall_mem_cons.mpr ⟨k_85_17 L xs, List.forall_mem_cons.mpr ⟨k_85_18 L xs, List.forall_mem_cons.mpr ⟨k_85_21 L xs, List.forall_mem_cons.mpr ⟨k_85_22 L xs, fun _ h => absurd h List.not_mem_nil⟩⟩⟩⟩⟩⟩⟩⟩⟩⟩⟩⟩⟩
/-- InclusionProver$Tree.isFull.(I)Z -/
def cd_86 : List (Nat × ll_O) := [
  (0, .inl (lo_aload 1 0)),
  (1, .inl (lo_iload 2 1)),
  (2, .inr (.inl (84, 2, 5))),
  (5, .inl (lo_if 12 8 (fun x => decide (¬ x = 0)))),
  (8, .inl (lo_push 9 (.int 1))),
  (9, .inl (lo_goto 13)),
  (12, .inl (lo_push 13 (.int 0))),
  (13, .inr (.inr 2))]
theorem k_86_0 (L : Nat) (xs : Nat → Int32) : ll_OK1 cX8_isFull RX8 (some .boolean) false ll_mN ll_mR ll_mK ll_cnt L xs false 0 (.inl (lo_aload 1 0)) := lk_aload_n (k := 0) (by decide +kernel) rfl
theorem k_86_1 (L : Nat) (xs : Nat → Int32) : ll_OK1 cX8_isFull RX8 (some .boolean) false ll_mN ll_mR ll_mK ll_cnt L xs false 1 (.inl (lo_iload 2 1)) := lk_iload_n (k := 1) (by decide +kernel) rfl
theorem k_86_2 (L : Nat) (xs : Nat → Int32) : ll_OK1 cX8_isFull RX8 (some .boolean) false ll_mN ll_mR ll_mK ll_cnt L xs false 2 (.inr (.inl (84, 2, 5))) := ⟨rfl, by decide, by rw [mN_84, mK_84, mR_84]; exact lj_v 43 1 8 (RX8, TX8, 10) (by decide +kernel) tb_366 tb_283 tb_284 rfl rfl rfl rfl (by decide +kernel)⟩
theorem k_86_5 (L : Nat) (xs : Nat → Int32) : ll_OK1 cX8_isFull RX8 (some .boolean) false ll_mN ll_mR ll_mK ll_cnt L xs false 5 (.inl (lo_if 12 8 (fun x => decide (¬ x = 0)))) := lk_if_ne (off := 7) (by decide +kernel) rfl
theorem k_86_8 (L : Nat) (xs : Nat → Int32) : ll_OK1 cX8_isFull RX8 (some .boolean) false ll_mN ll_mR ll_mK ll_cnt L xs false 8 (.inl (lo_push 9 (.int 1))) := lk_iconst (n := 1) (by decide +kernel) (by decide)
theorem k_86_9 (L : Nat) (xs : Nat → Int32) : ll_OK1 cX8_isFull RX8 (some .boolean) false ll_mN ll_mR ll_mK ll_cnt L xs false 9 (.inl (lo_goto 13)) := lk_goto (off := 4) (by decide +kernel) rfl
theorem k_86_12 (L : Nat) (xs : Nat → Int32) : ll_OK1 cX8_isFull RX8 (some .boolean) false ll_mN ll_mR ll_mK ll_cnt L xs false 12 (.inl (lo_push 13 (.int 0))) := lk_iconst (n := 0) (by decide +kernel) (by decide)
theorem k_86_13 (L : Nat) (xs : Nat → Int32) : ll_OK1 cX8_isFull RX8 (some .boolean) false ll_mN ll_mR ll_mK ll_cnt L xs false 13 (.inr (.inr 2)) := ⟨(fun h => by cases h), (fun h => by cases h), fun _ => ⟨(by decide +kernel), rfl⟩⟩
theorem ok_86 (L : Nat) (xs : Nat → Int32) : ∀ q ∈ cd_86, ll_OK1 cX8_isFull RX8 (some .boolean) false ll_mN ll_mR ll_mK ll_cnt L xs false q.1 q.2 :=
  List.forall_mem_cons.mpr ⟨k_86_0 L xs, List.forall_mem_cons.mpr ⟨k_86_1 L xs, List.forall_mem_cons.mpr ⟨k_86_2 L xs, List.forall_mem_cons.mpr ⟨k_86_5 L xs, List.forall_mem_cons.mpr ⟨k_86_8 L xs, List.forall_mem_cons.mpr ⟨k_86_9 L xs, List.forall_mem_cons.mpr ⟨k_86_12 L xs, List.forall_mem_cons.mpr ⟨k_86_13 L xs, fun _ h => absurd h List.not_mem_nil⟩⟩⟩⟩⟩⟩⟩⟩
/-- InclusionProver$Tree.mark.()I -/
def cd_87 : List (Nat × ll_O) := [
  (0, .inl (lo_aload 1 0)),
  (1, .inl (lo_getf 4 8 9)),
  (4, .inr (.inr 1))]
theorem k_87_0 (L : Nat) (xs : Nat → Int32) : ll_OK1 cX8_mark RX8 (some .int) false ll_mN ll_mR ll_mK ll_cnt L xs false 0 (.inl (lo_aload 1 0)) := lk_aload_n (k := 0) (by decide +kernel) rfl
theorem k_87_1 (L : Nat) (xs : Nat → Int32) : ll_OK1 cX8_mark RX8 (some .int) false ll_mN ll_mR ll_mK ll_cnt L xs false 1 (.inl (lo_getf 4 8 9)) := lk_getf (ix := 40) (ci := 8) (k := 9) (C := RX8) (T := TX8) (N := 10) (by decide +kernel) rfl in_8 (by decide) tb_365
theorem k_87_4 (L : Nat) (xs : Nat → Int32) : ll_OK1 cX8_mark RX8 (some .int) false ll_mN ll_mR ll_mK ll_cnt L xs false 4 (.inr (.inr 1)) := ⟨(fun h => by cases h), (fun _ => ⟨(by decide +kernel), rfl⟩), fun h => by cases h⟩
theorem ok_87 (L : Nat) (xs : Nat → Int32) : ∀ q ∈ cd_87, ll_OK1 cX8_mark RX8 (some .int) false ll_mN ll_mR ll_mK ll_cnt L xs false q.1 q.2 :=
  List.forall_mem_cons.mpr ⟨k_87_0 L xs, List.forall_mem_cons.mpr ⟨k_87_1 L xs, List.forall_mem_cons.mpr ⟨k_87_4 L xs, fun _ h => absurd h List.not_mem_nil⟩⟩⟩
/-- InclusionProver$Tree.addSummand.(II)V -/
def cd_88 : List (Nat × ll_O) := [
  (0, .inl (lo_aload 1 0)),
  (1, .inl (lo_iload 2 2)),
  (2, .inr (.inl (81, 2, 5))),
  (5, .inl (lo_push 6 (.int 1))),
  (6, .inl (lo_cmp 40 9 (fun x y => decide (¬ x = y)))),
  (9, .inl (lo_push 10 (.int 0))),
  (10, .inl (lo_istore 11 3)),
  (11, .inl (lo_iload 12 3)),
  (12, .inl (lo_aload 13 0)),
  (13, .inl (lo_iload 14 2)),
  (14, .inr (.inl (82, 2, 17))),
  (17, .inl (lo_cmp 37 20 (fun x y => decide (y ≤ x)))),
  (20, .inl (lo_aload 21 0)),
  (21, .inl (lo_iload 22 1)),
  (22, .inl (lo_aload 23 0)),
  (23, .inl (lo_iload 24 2)),
  (24, .inl (lo_iload 25 3)),
  (25, .inr (.inl (83, 3, 28))),
  (28, .inr (.inl (97, 3, 31))),
  (31, .inl (lo_iinc 34 3 1)),
  (34, .inl (lo_goto 11)),
  (37, .inl (lo_goto 50)),
  (40, .inl (lo_iload 41 2)),
  (41, .inl (lo_if 50 44 (fun x => decide (x = 0)))),
  (44, .inl (lo_aload 45 0)),
  (45, .inl (lo_iload 46 1)),
  (46, .inl (lo_iload 47 2)),
  (47, .inr (.inl (97, 3, 50))),
  (50, .inr (.inr 0))]
theorem k_88_0 (L : Nat) (xs : Nat → Int32) : ll_OK1 cX8_addSummand RX8 none false ll_mN ll_mR ll_mK ll_cnt L xs false 0 (.inl (lo_aload 1 0)) := lk_aload_n (k := 0) (by decide +kernel) rfl
theorem k_88_1 (L : Nat) (xs : Nat → Int32) : ll_OK1 cX8_addSummand RX8 none false ll_mN ll_mR ll_mK ll_cnt L xs false 1 (.inl (lo_iload 2 2)) := lk_iload_n (k := 2) (by decide +kernel) rfl
theorem k_88_2 (L : Nat) (xs : Nat → Int32) : ll_OK1 cX8_addSummand RX8 none false ll_mN ll_mR ll_mK ll_cnt L xs false 2 (.inr (.inl (81, 2, 5))) := ⟨rfl, by decide, by rw [mN_81, mK_81, mR_81]; exact lj_v 47 1 8 (RX8, TX8, 10) (by decide +kernel) tb_367 tb_328 tb_329 rfl rfl rfl rfl (by decide +kernel)⟩
theorem k_88_5 (L : Nat) (xs : Nat → Int32) : ll_OK1 cX8_addSummand RX8 none false ll_mN ll_mR ll_mK ll_cnt L xs false 5 (.inl (lo_push 6 (.int 1))) := lk_iconst (n := 1) (by decide +kernel) (by decide)
theorem k_88_6 (L : Nat) (xs : Nat → Int32) : ll_OK1 cX8_addSummand RX8 none false ll_mN ll_mR ll_mK ll_cnt L xs false 6 (.inl (lo_cmp 40 9 (fun x y => decide (¬ x = y)))) := lk_icmp_ne (off := 34) (by decide +kernel) rfl
theorem k_88_9 (L : Nat) (xs : Nat → Int32) : ll_OK1 cX8_addSummand RX8 none false ll_mN ll_mR ll_mK ll_cnt L xs false 9 (.inl (lo_push 10 (.int 0))) := lk_iconst (n := 0) (by decide +kernel) (by decide)
theorem k_88_10 (L : Nat) (xs : Nat → Int32) : ll_OK1 cX8_addSummand RX8 none false ll_mN ll_mR ll_mK ll_cnt L xs false 10 (.inl (lo_istore 11 3)) := lk_istore_n (k := 3) (by decide +kernel) rfl
theorem k_88_11 (L : Nat) (xs : Nat → Int32) : ll_OK1 cX8_addSummand RX8 none false ll_mN ll_mR ll_mK ll_cnt L xs false 11 (.inl (lo_iload 12 3)) := lk_iload_n (k := 3) (by decide +kernel) rfl
theorem k_88_12 (L : Nat) (xs : Nat → Int32) : ll_OK1 cX8_addSummand RX8 none false ll_mN ll_mR ll_mK ll_cnt L xs false 12 (.inl (lo_aload 13 0)) := lk_aload_n (k := 0) (by decide +kernel) rfl
theorem k_88_13 (L : Nat) (xs : Nat → Int32) : ll_OK1 cX8_addSummand RX8 none false ll_mN ll_mR ll_mK ll_cnt L xs false 13 (.inl (lo_iload 14 2)) := lk_iload_n (k := 2) (by decide +kernel) rfl
theorem k_88_14 (L : Nat) (xs : Nat → Int32) : ll_OK1 cX8_addSummand RX8 none false ll_mN ll_mR ll_mK ll_cnt L xs false 14 (.inr (.inl (82, 2, 17))) := ⟨rfl, by decide, by rw [mN_82, mK_82, mR_82]; exact lj_v 50 1 8 (RX8, TX8, 10) (by decide +kernel) tb_368 tb_331 tb_332 rfl rfl rfl rfl (by decide +kernel)⟩
theorem k_88_17 (L : Nat) (xs : Nat → Int32) : ll_OK1 cX8_addSummand RX8 none false ll_mN ll_mR ll_mK ll_cnt L xs false 17 (.inl (lo_cmp 37 20 (fun x y => decide (y ≤ x)))) := lk_icmp_ge (off := 20) (by decide +kernel) rfl
theorem k_88_20 (L : Nat) (xs : Nat → Int32) : ll_OK1 cX8_addSummand RX8 none false ll_mN ll_mR ll_mK ll_cnt L xs false 20 (.inl (lo_aload 21 0)) := lk_aload_n (k := 0) (by decide +kernel) rfl
theorem k_88_21 (L : Nat) (xs : Nat → Int32) : ll_OK1 cX8_addSummand RX8 none false ll_mN ll_mR ll_mK ll_cnt L xs false 21 (.inl (lo_iload 22 1)) := lk_iload_n (k := 1) (by decide +kernel) rfl
theorem k_88_22 (L : Nat) (xs : Nat → Int32) : ll_OK1 cX8_addSummand RX8 none false ll_mN ll_mR ll_mK ll_cnt L xs false 22 (.inl (lo_aload 23 0)) := lk_aload_n (k := 0) (by decide +kernel) rfl
theorem k_88_23 (L : Nat) (xs : Nat → Int32) : ll_OK1 cX8_addSummand RX8 none false ll_mN ll_mR ll_mK ll_cnt L xs false 23 (.inl (lo_iload 24 2)) := lk_iload_n (k := 2) (by decide +kernel) rfl
theorem k_88_24 (L : Nat) (xs : Nat → Int32) : ll_OK1 cX8_addSummand RX8 none false ll_mN ll_mR ll_mK ll_cnt L xs false 24 (.inl (lo_iload 25 3)) := lk_iload_n (k := 3) (by decide +kernel) rfl
theorem k_88_25 (L : Nat) (xs : Nat → Int32) : ll_OK1 cX8_addSummand RX8 none false ll_mN ll_mR ll_mK ll_cnt L xs false 25 (.inr (.inl (83, 3, 28))) := ⟨rfl, by decide, by rw [mN_83, mK_83, mR_83]; exact lj_v 53 2 8 (RX8, TX8, 10) (by decide +kernel) tb_369 tb_334 tb_335 rfl rfl rfl rfl (by decide +kernel)⟩
theorem k_88_28 (L : Nat) (xs : Nat → Int32) : ll_OK1 cX8_addSummand RX8 none false ll_mN ll_mR ll_mK ll_cnt L xs false 28 (.inr (.inl (97, 3, 31))) := ⟨rfl, by decide, by rw [mN_97, mK_97, mR_97]; exact lj_v 57 2 8 (RX8, TX8, 10) (by decide +kernel) tb_370 tb_371 tb_372 rfl rfl rfl rfl (by decide +kernel)⟩
theorem k_88_31 (L : Nat) (xs : Nat → Int32) : ll_OK1 cX8_addSummand RX8 none false ll_mN ll_mR ll_mK ll_cnt L xs false 31 (.inl (lo_iinc 34 3 1)) := lk_iinc (n := 1) (by decide +kernel) (by decide)
theorem k_88_34 (L : Nat) (xs : Nat → Int32) : ll_OK1 cX8_addSummand RX8 none false ll_mN ll_mR ll_mK ll_cnt L xs false 34 (.inl (lo_goto 11)) := lk_goto (off := (-23)) (by decide +kernel) rfl
theorem k_88_37 (L : Nat) (xs : Nat → Int32) : ll_OK1 cX8_addSummand RX8 none false ll_mN ll_mR ll_mK ll_cnt L xs false 37 (.inl (lo_goto 50)) := lk_goto (off := 13) (by decide +kernel) rfl
theorem k_88_40 (L : Nat) (xs : Nat → Int32) : ll_OK1 cX8_addSummand RX8 none false ll_mN ll_mR ll_mK ll_cnt L xs false 40 (.inl (lo_iload 41 2)) := lk_iload_n (k := 2) (by decide +kernel) rfl
theorem k_88_41 (L : Nat) (xs : Nat → Int32) : ll_OK1 cX8_addSummand RX8 none false ll_mN ll_mR ll_mK ll_cnt L xs false 41 (.inl (lo_if 50 44 (fun x => decide (x = 0)))) := lk_if_eq (off := 9) (by decide +kernel) rfl
theorem k_88_44 (L : Nat) (xs : Nat → Int32) : ll_OK1 cX8_addSummand RX8 none false ll_mN ll_mR ll_mK ll_cnt L xs false 44 (.inl (lo_aload 45 0)) := lk_aload_n (k := 0) (by decide +kernel) rfl
theorem k_88_45 (L : Nat) (xs : Nat → Int32) : ll_OK1 cX8_addSummand RX8 none false ll_mN ll_mR ll_mK ll_cnt L xs false 45 (.inl (lo_iload 46 1)) := lk_iload_n (k := 1) (by decide +kernel) rfl
theorem k_88_46 (L : Nat) (xs : Nat → Int32) : ll_OK1 cX8_addSummand RX8 none false ll_mN ll_mR ll_mK ll_cnt L xs false 46 (.inl (lo_iload 47 2)) := lk_iload_n (k := 2) (by decide +kernel) rfl
theorem k_88_47 (L : Nat) (xs : Nat → Int32) : ll_OK1 cX8_addSummand RX8 none false ll_mN ll_mR ll_mK ll_cnt L xs false 47 (.inr (.inl (97, 3, 50))) := ⟨rfl, by decide, by rw [mN_97, mK_97, mR_97]; exact lj_v 57 2 8 (RX8, TX8, 10) (by decide +kernel) tb_370 tb_371 tb_372 rfl rfl rfl rfl (by decide +kernel)⟩
theorem k_88_50 (L : Nat) (xs : Nat → Int32) : ll_OK1 cX8_addSummand RX8 none false ll_mN ll_mR ll_mK ll_cnt L xs false 50 (.inr (.inr 0)) := ⟨fun _ => ⟨(by decide +kernel), rfl⟩, (fun h => by cases h), fun h => by cases h⟩
theorem ok_88 (L : Nat) (xs : Nat → Int32) : ∀ q ∈ cd_88, ll_OK1 cX8_addSummand RX8 none false ll_mN ll_mR ll_mK ll_cnt L xs false q.1 q.2 :=
  List.forall_mem_cons.mpr ⟨k_88_0 L xs, List.forall_mem_cons.mpr ⟨k_88_1 L xs, List.forall_mem_cons.mpr ⟨k_88_2 L xs, List.forall_mem_cons.mpr ⟨k_88_5 L xs, List.forall_mem_cons.mpr ⟨k_88_6 L xs, List.forall_mem_cons.mpr ⟨k_88_9 L xs, List.forall_mem_cons.mpr ⟨k_88_10 L xs, List.forall_mem_cons.mpr ⟨k_88_11 L xs, List.forall_mem_cons.mpr ⟨k_88_12 L xs, List.forall_mem_cons.mpr ⟨k_88_13 L xs, List.forall_mem_cons.mpr ⟨k_88_14 L xs, List.forall_mem_cons.mpr ⟨k_88_17 L xs, List.forall_mem_cons.mpr ⟨k_88_20 L xs, List.forall_mem_cons.mpr ⟨k_88_21 L xs, List.forall_mem_cons.mpr ⟨k_88_22 L xs, List.forall_mem_cons.mpr ⟨k_88_23 L xs, List.forall_mem_cons.mpr ⟨k_88_24 L xs, List.forall_mem_cons.mpr ⟨k_88_25 L xs, List.forall_mem_cons.mpr ⟨k_88_28 L xs, List.forall_mem_cons.mpr ⟨k_88_31 L xs, List.forall_mem_cons.mpr ⟨k_88_34 L xs, List.forall_mem_cons.mpr ⟨k_88_37 L xs, List.forall_mem_cons.mpr ⟨k_88_40 L xs, List.forall_mem_cons.mpr ⟨k_88_41 L xs, List.forall_mem_cons.mpr ⟨k_88_44 L xs, List.forall_mem_cons.mpr ⟨k_88_45 L xs, List.forall_mem_cons.mpr ⟨k_88_46 L xs, List.forall_mem_cons.mpr ⟨k_88_47 L xs, List.forall_mem_cons.mpr ⟨k_88_50 L xs, fun _ h => absurd h List.not_mem_nil⟩⟩⟩⟩⟩⟩⟩⟩⟩⟩⟩⟩⟩⟩⟩⟩⟩⟩⟩⟩⟩⟩⟩⟩⟩⟩⟩⟩⟩
/-- InclusionProver$Tree.addFactor.(I)V -/
def cd_89 : List (Nat × ll_O) := [
  (0, .inl (lo_aload 1 0)),
  (1, .inl (lo_iload 2 1)),
  (2, .inr (.inl (81, 2, 5))),
  (5, .inl (lo_push 6 (.int 2))),
  (6, .inl (lo_cmp 39 9 (fun x y => decide (¬ x = y)))),
  (9, .inl (lo_push 10 (.int 0))),
  (10, .inl (lo_istore 11 2)),
  (11, .inl (lo_iload 12 2)),
  (12, .inl (lo_aload 13 0)),
  (13, .inl (lo_iload 14 1)),
  (14, .inr (.inl (82, 2, 17))),
  (17, .inl (lo_cmp 36 20 (fun x y => decide (y ≤ x)))),
  (20, .inl (lo_aload 21 0)),
  (21, .inl (lo_aload 22 0)),
  (22, .inl (lo_iload 23 1)),
  (23, .inl (lo_iload 24 2)),
  (24, .inr (.inl (83, 3, 27))),
  (27, .inr (.inl (96, 2, 30))),
  (30, .inl (lo_iinc 33 2 1)),
  (33, .inl (lo_goto 11)),
  (36, .inl (lo_goto 49)),
  (39, .inl (lo_iload 40 1)),
  (40, .inl (lo_push 41 (.int 1))),
  (41, .inl (lo_cmp 49 44 (fun x y => decide (x = y)))),
  (44, .inl (lo_aload 45 0)),
  (45, .inl (lo_iload 46 1)),
  (46, .inr (.inl (96, 2, 49))),
  (49, .inr (.inr 0))]
theorem k_89_0 (L : Nat) (xs : Nat → Int32) : ll_OK1 cX8_addFactor RX8 none false ll_mN ll_mR ll_mK ll_cnt L xs false 0 (.inl (lo_aload 1 0)) := lk_aload_n (k := 0) (by decide +kernel) rfl
theorem k_89_1 (L : Nat) (xs : Nat → Int32) : ll_OK1 cX8_addFactor RX8 none false ll_mN ll_mR ll_mK ll_cnt L xs false 1 (.inl (lo_iload 2 1)) := lk_iload_n (k := 1) (by decide +kernel) rfl
theorem k_89_2 (L : Nat) (xs : Nat → Int32) : ll_OK1 cX8_addFactor RX8 none false ll_mN ll_mR ll_mK ll_cnt L xs false 2 (.inr (.inl (81, 2, 5))) := ⟨rfl, by decide, by rw [mN_81, mK_81, mR_81]; exact lj_v 47 1 8 (RX8, TX8, 10) (by decide +kernel) tb_367 tb_328 tb_329 rfl rfl rfl rfl (by decide +kernel)⟩
theorem k_89_5 (L : Nat) (xs : Nat → Int32) : ll_OK1 cX8_addFactor RX8 none false ll_mN ll_mR ll_mK ll_cnt L xs false 5 (.inl (lo_push 6 (.int 2))) := lk_iconst (n := 2) (by decide +kernel) (by decide)
theorem k_89_6 (L : Nat) (xs : Nat → Int32) : ll_OK1 cX8_addFactor RX8 none false ll_mN ll_mR ll_mK ll_cnt L xs false 6 (.inl (lo_cmp 39 9 (fun x y => decide (¬ x = y)))) := lk_icmp_ne (off := 33) (by decide +kernel) rfl
theorem k_89_9 (L : Nat) (xs : Nat → Int32) : ll_OK1 cX8_addFactor RX8 none false ll_mN ll_mR ll_mK ll_cnt L xs false 9 (.inl (lo_push 10 (.int 0))) := lk_iconst (n := 0) (by decide +kernel) (by decide)
theorem k_89_10 (L : Nat) (xs : Nat → Int32) : ll_OK1 cX8_addFactor RX8 none false ll_mN ll_mR ll_mK ll_cnt L xs false 10 (.inl (lo_istore 11 2)) := lk_istore_n (k := 2) (by decide +kernel) rfl
theorem k_89_11 (L : Nat) (xs : Nat → Int32) : ll_OK1 cX8_addFactor RX8 none false ll_mN ll_mR ll_mK ll_cnt L xs false 11 (.inl (lo_iload 12 2)) := lk_iload_n (k := 2) (by decide +kernel) rfl
theorem k_89_12 (L : Nat) (xs : Nat → Int32) : ll_OK1 cX8_addFactor RX8 none false ll_mN ll_mR ll_mK ll_cnt L xs false 12 (.inl (lo_aload 13 0)) := lk_aload_n (k := 0) (by decide +kernel) rfl
theorem k_89_13 (L : Nat) (xs : Nat → Int32) : ll_OK1 cX8_addFactor RX8 none false ll_mN ll_mR ll_mK ll_cnt L xs false 13 (.inl (lo_iload 14 1)) := lk_iload_n (k := 1) (by decide +kernel) rfl
theorem k_89_14 (L : Nat) (xs : Nat → Int32) : ll_OK1 cX8_addFactor RX8 none false ll_mN ll_mR ll_mK ll_cnt L xs false 14 (.inr (.inl (82, 2, 17))) := ⟨rfl, by decide, by rw [mN_82, mK_82, mR_82]; exact lj_v 50 1 8 (RX8, TX8, 10) (by decide +kernel) tb_368 tb_331 tb_332 rfl rfl rfl rfl (by decide +kernel)⟩
theorem k_89_17 (L : Nat) (xs : Nat → Int32) : ll_OK1 cX8_addFactor RX8 none false ll_mN ll_mR ll_mK ll_cnt L xs false 17 (.inl (lo_cmp 36 20 (fun x y => decide (y ≤ x)))) := lk_icmp_ge (off := 19) (by decide +kernel) rfl
theorem k_89_20 (L : Nat) (xs : Nat → Int32) : ll_OK1 cX8_addFactor RX8 none false ll_mN ll_mR ll_mK ll_cnt L xs false 20 (.inl (lo_aload 21 0)) := lk_aload_n (k := 0) (by decide +kernel) rfl
theorem k_89_21 (L : Nat) (xs : Nat → Int32) : ll_OK1 cX8_addFactor RX8 none false ll_mN ll_mR ll_mK ll_cnt L xs false 21 (.inl (lo_aload 22 0)) := lk_aload_n (k := 0) (by decide +kernel) rfl
theorem k_89_22 (L : Nat) (xs : Nat → Int32) : ll_OK1 cX8_addFactor RX8 none false ll_mN ll_mR ll_mK ll_cnt L xs false 22 (.inl (lo_iload 23 1)) := lk_iload_n (k := 1) (by decide +kernel) rfl
theorem k_89_23 (L : Nat) (xs : Nat → Int32) : ll_OK1 cX8_addFactor RX8 none false ll_mN ll_mR ll_mK ll_cnt L xs false 23 (.inl (lo_iload 24 2)) := lk_iload_n (k := 2) (by decide +kernel) rfl
theorem k_89_24 (L : Nat) (xs : Nat → Int32) : ll_OK1 cX8_addFactor RX8 none false ll_mN ll_mR ll_mK ll_cnt L xs false 24 (.inr (.inl (83, 3, 27))) := ⟨rfl, by decide, by rw [mN_83, mK_83, mR_83]; exact lj_v 53 2 8 (RX8, TX8, 10) (by decide +kernel) tb_369 tb_334 tb_335 rfl rfl rfl rfl (by decide +kernel)⟩
theorem k_89_27 (L : Nat) (xs : Nat → Int32) : ll_OK1 cX8_addFactor RX8 none false ll_mN ll_mR ll_mK ll_cnt L xs false 27 (.inr (.inl (96, 2, 30))) := ⟨rfl, by decide, by rw [mN_96, mK_96, mR_96]; exact lj_v 61 1 8 (RX8, TX8, 10) (by decide +kernel) tb_373 tb_374 tb_375 rfl rfl rfl rfl (by decide +kernel)⟩
theorem k_89_30 (L : Nat) (xs : Nat → Int32) : ll_OK1 cX8_addFactor RX8 none false ll_mN ll_mR ll_mK ll_cnt L xs false 30 (.inl (lo_iinc 33 2 1)) := lk_iinc (n := 1) (by decide +kernel) (by decide)
theorem k_89_33 (L : Nat) (xs : Nat → Int32) : ll_OK1 cX8_addFactor RX8 none false ll_mN ll_mR ll_mK ll_cnt L xs false 33 (.inl (lo_goto 11)) := lk_goto (off := (-22)) (by decide +kernel) rfl
theorem k_89_36 (L : Nat) (xs : Nat → Int32) : ll_OK1 cX8_addFactor RX8 none false ll_mN ll_mR ll_mK ll_cnt L xs false 36 (.inl (lo_goto 49)) := lk_goto (off := 13) (by decide +kernel) rfl
theorem k_89_39 (L : Nat) (xs : Nat → Int32) : ll_OK1 cX8_addFactor RX8 none false ll_mN ll_mR ll_mK ll_cnt L xs false 39 (.inl (lo_iload 40 1)) := lk_iload_n (k := 1) (by decide +kernel) rfl
theorem k_89_40 (L : Nat) (xs : Nat → Int32) : ll_OK1 cX8_addFactor RX8 none false ll_mN ll_mR ll_mK ll_cnt L xs false 40 (.inl (lo_push 41 (.int 1))) := lk_iconst (n := 1) (by decide +kernel) (by decide)
theorem k_89_41 (L : Nat) (xs : Nat → Int32) : ll_OK1 cX8_addFactor RX8 none false ll_mN ll_mR ll_mK ll_cnt L xs false 41 (.inl (lo_cmp 49 44 (fun x y => decide (x = y)))) := lk_icmp_eq (off := 8) (by decide +kernel) rfl
theorem k_89_44 (L : Nat) (xs : Nat → Int32) : ll_OK1 cX8_addFactor RX8 none false ll_mN ll_mR ll_mK ll_cnt L xs false 44 (.inl (lo_aload 45 0)) := lk_aload_n (k := 0) (by decide +kernel) rfl
theorem k_89_45 (L : Nat) (xs : Nat → Int32) : ll_OK1 cX8_addFactor RX8 none false ll_mN ll_mR ll_mK ll_cnt L xs false 45 (.inl (lo_iload 46 1)) := lk_iload_n (k := 1) (by decide +kernel) rfl
theorem k_89_46 (L : Nat) (xs : Nat → Int32) : ll_OK1 cX8_addFactor RX8 none false ll_mN ll_mR ll_mK ll_cnt L xs false 46 (.inr (.inl (96, 2, 49))) := ⟨rfl, by decide, by rw [mN_96, mK_96, mR_96]; exact lj_v 61 1 8 (RX8, TX8, 10) (by decide +kernel) tb_373 tb_374 tb_375 rfl rfl rfl rfl (by decide +kernel)⟩
theorem k_89_49 (L : Nat) (xs : Nat → Int32) : ll_OK1 cX8_addFactor RX8 none false ll_mN ll_mR ll_mK ll_cnt L xs false 49 (.inr (.inr 0)) := ⟨fun _ => ⟨(by decide +kernel), rfl⟩, (fun h => by cases h), fun h => by cases h⟩
theorem ok_89 (L : Nat) (xs : Nat → Int32) : ∀ q ∈ cd_89, ll_OK1 cX8_addFactor RX8 none false ll_mN ll_mR ll_mK ll_cnt L xs false q.1 q.2 :=
  List.forall_mem_cons.mpr ⟨k_89_0 L xs, List.forall_mem_cons.mpr ⟨k_89_1 L xs, List.forall_mem_cons.mpr ⟨k_89_2 L xs, List.forall_mem_cons.mpr ⟨k_89_5 L xs, List.forall_mem_cons.mpr ⟨k_89_6 L xs, List.forall_mem_cons.mpr ⟨k_89_9 L xs, List.forall_mem_cons.mpr ⟨k_89_10 L xs, List.forall_mem_cons.mpr ⟨k_89_11 L xs, List.forall_mem_cons.mpr ⟨k_89_12 L xs, List.forall_mem_cons.mpr ⟨k_89_13 L xs, List.forall_mem_cons.mpr ⟨k_89_14 L xs, List.forall_mem_cons.mpr ⟨k_89_17 L xs, List.forall_mem_cons.mpr ⟨k_89_20 L xs, List.forall_mem_cons.mpr ⟨k_89_21 L xs, List.forall_mem_cons.mpr ⟨k_89_22 L xs, List.forall_mem_cons.mpr ⟨k_89_23 L xs, List.forall_mem_cons.mpr ⟨k_89_24 L xs, List.forall_mem_cons.mpr ⟨k_89_27 L xs, List.forall_mem_cons.mpr ⟨k_89_30 L xs, List.forall_mem_cons.mpr ⟨k_89_33 L xs, List.forall_mem_cons.mpr ⟨k_89_36 L xs, List.forall_mem_cons.mpr ⟨k_89_39 L xs, List.forall_mem_cons.mpr ⟨k_89_40 L xs, List.forall_mem_cons.mpr ⟨k_89_41 L xs, List.forall_mem_cons.mpr ⟨k_89_44 L xs, List.forall_mem_cons.mpr ⟨k_89_45 L xs, List.forall_mem_cons.mpr ⟨k_89_46 L xs, List.forall_mem_cons.mpr ⟨k_89_49 L xs, fun _ h => absurd h List.not_mem_nil⟩⟩⟩⟩⟩⟩⟩⟩⟩⟩⟩⟩⟩⟩⟩⟩⟩⟩⟩⟩⟩⟩⟩⟩⟩⟩⟩⟩
/-- InclusionProver$Tree.closeSum.(I)I -/
def cd_90 : List (Nat × ll_O) := [
  (0, .inl (lo_aload 1 0)),
  (1, .inl (lo_push 2 (.int 1))),
  (2, .inl (lo_iload 3 1)),
  (3, .inl (lo_push 4 (.int 0))),
  (4, .inr (.inl (98, 4, 7))),
  (7, .inr (.inr 1))]
theorem k_90_0 (L : Nat) (xs : Nat → Int32) : ll_OK1 cX8_closeSum RX8 (some .int) false ll_mN ll_mR ll_mK ll_cnt L xs false 0 (.inl (lo_aload 1 0)) := lk_aload_n (k := 0) (by decide +kernel) rfl
theorem k_90_1 (L : Nat) (xs : Nat → Int32) : ll_OK1 cX8_closeSum RX8 (some .int) false ll_mN ll_mR ll_mK ll_cnt L xs false 1 (.inl (lo_push 2 (.int 1))) := lk_iconst (n := 1) (by decide +kernel) (by decide)
theorem k_90_2 (L : Nat) (xs : Nat → Int32) : ll_OK1 cX8_closeSum RX8 (some .int) false ll_mN ll_mR ll_mK ll_cnt L xs false 2 (.inl (lo_iload 3 1)) := lk_iload_n (k := 1) (by decide +kernel) rfl
theorem k_90_3 (L : Nat) (xs : Nat → Int32) : ll_OK1 cX8_closeSum RX8 (some .int) false ll_mN ll_mR ll_mK ll_cnt L xs false 3 (.inl (lo_push 4 (.int 0))) := lk_iconst (n := 0) (by decide +kernel) (by decide)
theorem k_90_4 (L : Nat) (xs : Nat → Int32) : ll_OK1 cX8_closeSum RX8 (some .int) false ll_mN ll_mR ll_mK ll_cnt L xs false 4 (.inr (.inl (98, 4, 7))) := ⟨rfl, by decide, by rw [mN_98, mK_98, mR_98]; exact lj_v 65 3 8 (RX8, TX8, 10) (by decide +kernel) tb_376 tb_377 tb_378 rfl rfl rfl rfl (by decide +kernel)⟩
theorem k_90_7 (L : Nat) (xs : Nat → Int32) : ll_OK1 cX8_closeSum RX8 (some .int) false ll_mN ll_mR ll_mK ll_cnt L xs false 7 (.inr (.inr 1)) := ⟨(fun h => by cases h), (fun _ => ⟨(by decide +kernel), rfl⟩), fun h => by cases h⟩
theorem ok_90 (L : Nat) (xs : Nat → Int32) : ∀ q ∈ cd_90, ll_OK1 cX8_closeSum RX8 (some .int) false ll_mN ll_mR ll_mK ll_cnt L xs false q.1 q.2 :=
  List.forall_mem_cons.mpr ⟨k_90_0 L xs, List.forall_mem_cons.mpr ⟨k_90_1 L xs, List.forall_mem_cons.mpr ⟨k_90_2 L xs, List.forall_mem_cons.mpr ⟨k_90_3 L xs, List.forall_mem_cons.mpr ⟨k_90_4 L xs, List.forall_mem_cons.mpr ⟨k_90_7 L xs, fun _ h => absurd h List.not_mem_nil⟩⟩⟩⟩⟩⟩
/-- InclusionProver$Tree.closeProduct.(I)I -/
def cd_91 : List (Nat × ll_O) := [
  (0, .inl (lo_iload 1 1)),
  (1, .inl (lo_istore 2 2)),
  (2, .inl (lo_iload 3 2)),
  (3, .inl (lo_aload 4 0)),
  (4, .inl (lo_getf 7 8 9)),
  (7, .inl (lo_cmp 32 10 (fun x y => decide (y ≤ x)))),
  (10, .inl (lo_aload 11 0)),
  (11, .inl (lo_getf 14 8 6)),
  (14, .inl (lo_iload 15 2)),
  (15, .inl (lo_ald 16 0)),
  (16, .inl (lo_if 26 19 (fun x => decide (¬ x = 0)))),
  (19, .inl (lo_aload 20 0)),
  (20, .inl (lo_iload 21 1)),
  (21, .inl (lo_putf 24 8 9 0)),
  (24, .inl (lo_push 25 (.int 0))),
  (25, .inr (.inr 1)),
  (26, .inl (lo_iinc 29 2 1)),
  (29, .inl (lo_goto 2)),
  (32, .inl (lo_aload 33 0)),
  (33, .inl (lo_push 34 (.int 2))),
  (34, .inl (lo_iload 35 1)),
  (35, .inl (lo_push 36 (.int 1))),
  (36, .inr (.inl (98, 4, 39))),
  (39, .inr (.inr 1))]
theorem k_91_0 (L : Nat) (xs : Nat → Int32) : ll_OK1 cX8_closeProduct RX8 (some .int) false ll_mN ll_mR ll_mK ll_cnt L xs false 0 (.inl (lo_iload 1 1)) := lk_iload_n (k := 1) (by decide +kernel) rfl
theorem k_91_1 (L : Nat) (xs : Nat → Int32) : ll_OK1 cX8_closeProduct RX8 (some .int) false ll_mN ll_mR ll_mK ll_cnt L xs false 1 (.inl (lo_istore 2 2)) := lk_istore_n (k := 2) (by decide +kernel) rfl
theorem k_91_2 (L : Nat) (xs : Nat → Int32) : ll_OK1 cX8_closeProduct RX8 (some .int) false ll_mN ll_mR ll_mK ll_cnt L xs false 2 (.inl (lo_iload 3 2)) := lk_iload_n (k := 2) (by decide +kernel) rfl
theorem k_91_3 (L : Nat) (xs : Nat → Int32) : ll_OK1 cX8_closeProduct RX8 (some .int) false ll_mN ll_mR ll_mK ll_cnt L xs false 3 (.inl (lo_aload 4 0)) := lk_aload_n (k := 0) (by decide +kernel) rfl
theorem k_91_4 (L : Nat) (xs : Nat → Int32) : ll_OK1 cX8_closeProduct RX8 (some .int) false ll_mN ll_mR ll_mK ll_cnt L xs false 4 (.inl (lo_getf 7 8 9)) := lk_getf (ix := 40) (ci := 8) (k := 9) (C := RX8) (T := TX8) (N := 10) (by decide +kernel) rfl in_8 (by decide) tb_365
theorem k_91_7 (L : Nat) (xs : Nat → Int32) : ll_OK1 cX8_closeProduct RX8 (some .int) false ll_mN ll_mR ll_mK ll_cnt L xs false 7 (.inl (lo_cmp 32 10 (fun x y => decide (y ≤ x)))) := lk_icmp_ge (off := 25) (by decide +kernel) rfl
theorem k_91_10 (L : Nat) (xs : Nat → Int32) : ll_OK1 cX8_closeProduct RX8 (some .int) false ll_mN ll_mR ll_mK ll_cnt L xs false 10 (.inl (lo_aload 11 0)) := lk_aload_n (k := 0) (by decide +kernel) rfl
theorem k_91_11 (L : Nat) (xs : Nat → Int32) : ll_OK1 cX8_closeProduct RX8 (some .int) false ll_mN ll_mR ll_mK ll_cnt L xs false 11 (.inl (lo_getf 14 8 6)) := lk_getf (ix := 30) (ci := 8) (k := 6) (C := RX8) (T := TX8) (N := 10) (by decide +kernel) rfl in_8 (by decide) tb_362
theorem k_91_14 (L : Nat) (xs : Nat → Int32) : ll_OK1 cX8_closeProduct RX8 (some .int) false ll_mN ll_mR ll_mK ll_cnt L xs false 14 (.inl (lo_iload 15 2)) := lk_iload_n (k := 2) (by decide +kernel) rfl
theorem k_91_15 (L : Nat) (xs : Nat → Int32) : ll_OK1 cX8_closeProduct RX8 (some .int) false ll_mN ll_mR ll_mK ll_cnt L xs false 15 (.inl (lo_ald 16 0)) := lk_iald (by decide +kernel)
theorem k_91_16 (L : Nat) (xs : Nat → Int32) : ll_OK1 cX8_closeProduct RX8 (some .int) false ll_mN ll_mR ll_mK ll_cnt L xs false 16 (.inl (lo_if 26 19 (fun x => decide (¬ x = 0)))) := lk_if_ne (off := 10) (by decide +kernel) rfl
theorem k_91_19 (L : Nat) (xs : Nat → Int32) : ll_OK1 cX8_closeProduct RX8 (some .int) false ll_mN ll_mR ll_mK ll_cnt L xs false 19 (.inl (lo_aload 20 0)) := lk_aload_n (k := 0) (by decide +kernel) rfl
theorem k_91_20 (L : Nat) (xs : Nat → Int32) : ll_OK1 cX8_closeProduct RX8 (some .int) false ll_mN ll_mR ll_mK ll_cnt L xs false 20 (.inl (lo_iload 21 1)) := lk_iload_n (k := 1) (by decide +kernel) rfl
theorem k_91_21 (L : Nat) (xs : Nat → Int32) : ll_OK1 cX8_closeProduct RX8 (some .int) false ll_mN ll_mR ll_mK ll_cnt L xs false 21 (.inl (lo_putf 24 8 9 0)) := lk_putf (ix := 40) (ci := 8) (k := 9) (C := RX8) (T := TX8) (N := 10) (ty0 := tyX8) (by decide +kernel) rfl in_8 tyX8_ok nmX8 (by decide) tb_365 (fun B adr v w h1 h2 => ll_fit_int (B := B) (adr := adr) h1 h2) (Or.inl rfl)
theorem k_91_24 (L : Nat) (xs : Nat → Int32) : ll_OK1 cX8_closeProduct RX8 (some .int) false ll_mN ll_mR ll_mK ll_cnt L xs false 24 (.inl (lo_push 25 (.int 0))) := lk_iconst (n := 0) (by decide +kernel) (by decide)
theorem k_91_25 (L : Nat) (xs : Nat → Int32) : ll_OK1 cX8_closeProduct RX8 (some .int) false ll_mN ll_mR ll_mK ll_cnt L xs false 25 (.inr (.inr 1)) := ⟨(fun h => by cases h), (fun _ => ⟨(by decide +kernel), rfl⟩), fun h => by cases h⟩
theorem k_91_26 (L : Nat) (xs : Nat → Int32) : ll_OK1 cX8_closeProduct RX8 (some .int) false ll_mN ll_mR ll_mK ll_cnt L xs false 26 (.inl (lo_iinc 29 2 1)) := lk_iinc (n := 1) (by decide +kernel) (by decide)
theorem k_91_29 (L : Nat) (xs : Nat → Int32) : ll_OK1 cX8_closeProduct RX8 (some .int) false ll_mN ll_mR ll_mK ll_cnt L xs false 29 (.inl (lo_goto 2)) := lk_goto (off := (-27)) (by decide +kernel) rfl
theorem k_91_32 (L : Nat) (xs : Nat → Int32) : ll_OK1 cX8_closeProduct RX8 (some .int) false ll_mN ll_mR ll_mK ll_cnt L xs false 32 (.inl (lo_aload 33 0)) := lk_aload_n (k := 0) (by decide +kernel) rfl
theorem k_91_33 (L : Nat) (xs : Nat → Int32) : ll_OK1 cX8_closeProduct RX8 (some .int) false ll_mN ll_mR ll_mK ll_cnt L xs false 33 (.inl (lo_push 34 (.int 2))) := lk_iconst (n := 2) (by decide +kernel) (by decide)
theorem k_91_34 (L : Nat) (xs : Nat → Int32) : ll_OK1 cX8_closeProduct RX8 (some .int) false ll_mN ll_mR ll_mK ll_cnt L xs false 34 (.inl (lo_iload 35 1)) := lk_iload_n (k := 1) (by decide +kernel) rfl
theorem k_91_35 (L : Nat) (xs : Nat → Int32) : ll_OK1 cX8_closeProduct RX8 (some .int) false ll_mN ll_mR ll_mK ll_cnt L xs false 35 (.inl (lo_push 36 (.int 1))) := lk_iconst (n := 1) (by decide +kernel) (by decide)
theorem k_91_36 (L : Nat) (xs : Nat → Int32) : ll_OK1 cX8_closeProduct RX8 (some .int) false ll_mN ll_mR ll_mK ll_cnt L xs false 36 (.inr (.inl (98, 4, 39))) := ⟨rfl, by decide, by rw [mN_98, mK_98, mR_98]; exact lj_v 65 3 8 (RX8, TX8, 10) (by decide +kernel) tb_376 tb_377 tb_378 rfl rfl rfl rfl (by decide +kernel)⟩
theorem k_91_39 (L : Nat) (xs : Nat → Int32) : ll_OK1 cX8_closeProduct RX8 (some .int) false ll_mN ll_mR ll_mK ll_cnt L xs false 39 (.inr (.inr 1)) := ⟨(fun h => by cases h), (fun _ => ⟨(by decide +kernel), rfl⟩), fun h => by cases h⟩
theorem ok_91 (L : Nat) (xs : Nat → Int32) : ∀ q ∈ cd_91, ll_OK1 cX8_closeProduct RX8 (some .int) false ll_mN ll_mR ll_mK ll_cnt L xs false q.1 q.2 :=
  List.forall_mem_cons.mpr ⟨k_91_0 L xs, List.forall_mem_cons.mpr ⟨k_91_1 L xs, List.forall_mem_cons.mpr ⟨k_91_2 L xs, List.forall_mem_cons.mpr ⟨k_91_3 L xs, List.forall_mem_cons.mpr ⟨k_91_4 L xs, List.forall_mem_cons.mpr ⟨k_91_7 L xs, List.forall_mem_cons.mpr ⟨k_91_10 L xs, List.forall_mem_cons.mpr ⟨k_91_11 L xs, List.forall_mem_cons.mpr ⟨k_91_14 L xs, List.forall_mem_cons.mpr ⟨k_91_15 L xs, List.forall_mem_cons.mpr ⟨k_91_16 L xs, List.forall_mem_cons.mpr ⟨k_91_19 L xs, List.forall_mem_cons.mpr ⟨k_91_20 L xs, List.forall_mem_cons.mpr ⟨k_91_21 L xs, List.forall_mem_cons.mpr ⟨k_91_24 L xs, List.forall_mem_cons.mpr ⟨k_91_25 L xs, List.forall_mem_cons.mpr ⟨k_91_26 L xs, List.forall_mem_cons.mpr ⟨k_91_29 L xs, List.forall_mem_cons.mpr ⟨k_91_32 L xs, List.forall_mem_cons.mpr ⟨k_91_33 L xs, List.forall_mem_cons.mpr ⟨k_91_34 L xs, List.forall_mem_cons.mpr ⟨k_91_35 L xs, List.forall_mem_cons.mpr ⟨k_91_36 L xs, List.forall_mem_cons.mpr ⟨k_91_39 L xs, fun _ h => absurd h List.not_mem_nil⟩⟩⟩⟩⟩⟩⟩⟩⟩⟩⟩⟩⟩⟩⟩⟩⟩⟩⟩⟩⟩⟩⟩⟩
/-- InclusionProver$Tree.starOf.(I)I -/
def cd_92 : List (Nat × ll_O) := [
  (0, .inl (lo_iload 1 1)),
  (1, .inl (lo_if 9 4 (fun x => decide (x = 0)))),
  (4, .inl (lo_iload 5 1)),
  (5, .inl (lo_push 6 (.int 1))),
  (6, .inl (lo_cmp 11 9 (fun x y => decide (¬ x = y)))),
  (9, .inl (lo_push 10 (.int 1))),
  (10, .inr (.inr 1)),
  (11, .inl (lo_aload 12 0)),
  (12, .inl (lo_iload 13 1)),
  (13, .inr (.inl (81, 2, 16))),
  (16, .inl (lo_push 17 (.int 3))),
  (17, .inl (lo_cmp 22 20 (fun x y => decide (¬ x = y)))),
  (20, .inl (lo_iload 21 1)),
  (21, .inr (.inr 1)),
  (22, .inl (lo_aload 23 0)),
  (23, .inl (lo_getf 26 8 9)),
  (26, .inl (lo_istore 27 2)),
  (27, .inl (lo_aload 28 0)),
  (28, .inl (lo_iload 29 1)),
  (29, .inr (.inl (96, 2, 32))),
  (32, .inl (lo_aload 33 0)),
  (33, .inl (lo_push 34 (.int 3))),
  (34, .inl (lo_iload 35 2)),
  (35, .inr (.inl (99, 3, 38))),
  (38, .inl (lo_istore 39 3)),
  (39, .inl (lo_aload 40 0)),
  (40, .inl (lo_iload 41 2)),
  (41, .inl (lo_putf 44 8 9 0)),
  (44, .inl (lo_iload 45 3)),
  (45, .inr (.inr 1))]
theorem k_92_0 (L : Nat) (xs : Nat → Int32) : ll_OK1 cX8_starOf RX8 (some .int) false ll_mN ll_mR ll_mK ll_cnt L xs false 0 (.inl (lo_iload 1 1)) := lk_iload_n (k := 1) (by decide +kernel) rfl
theorem k_92_1 (L : Nat) (xs : Nat → Int32) : ll_OK1 cX8_starOf RX8 (some .int) false ll_mN ll_mR ll_mK ll_cnt L xs false 1 (.inl (lo_if 9 4 (fun x => decide (x = 0)))) := lk_if_eq (off := 8) (by decide +kernel) rfl
theorem k_92_4 (L : Nat) (xs : Nat → Int32) : ll_OK1 cX8_starOf RX8 (some .int) false ll_mN ll_mR ll_mK ll_cnt L xs false 4 (.inl (lo_iload 5 1)) := lk_iload_n (k := 1) (by decide +kernel) rfl
theorem k_92_5 (L : Nat) (xs : Nat → Int32) : ll_OK1 cX8_starOf RX8 (some .int) false ll_mN ll_mR ll_mK ll_cnt L xs false 5 (.inl (lo_push 6 (.int 1))) := lk_iconst (n := 1) (by decide +kernel) (by decide)
theorem k_92_6 (L : Nat) (xs : Nat → Int32) : ll_OK1 cX8_starOf RX8 (some .int) false ll_mN ll_mR ll_mK ll_cnt L xs false 6 (.inl (lo_cmp 11 9 (fun x y => decide (¬ x = y)))) := lk_icmp_ne (off := 5) (by decide +kernel) rfl
theorem k_92_9 (L : Nat) (xs : Nat → Int32) : ll_OK1 cX8_starOf RX8 (some .int) false ll_mN ll_mR ll_mK ll_cnt L xs false 9 (.inl (lo_push 10 (.int 1))) := lk_iconst (n := 1) (by decide +kernel) (by decide)
theorem k_92_10 (L : Nat) (xs : Nat → Int32) : ll_OK1 cX8_starOf RX8 (some .int) false ll_mN ll_mR ll_mK ll_cnt L xs false 10 (.inr (.inr 1)) := ⟨(fun h => by cases h), (fun _ => ⟨(by decide +kernel), rfl⟩), fun h => by cases h⟩
theorem k_92_11 (L : Nat) (xs : Nat → Int32) : ll_OK1 cX8_starOf RX8 (some .int) false ll_mN ll_mR ll_mK ll_cnt L xs false 11 (.inl (lo_aload 12 0)) := lk_aload_n (k := 0) (by decide +kernel) rfl
theorem k_92_12 (L : Nat) (xs : Nat → Int32) : ll_OK1 cX8_starOf RX8 (some .int) false ll_mN ll_mR ll_mK ll_cnt L xs false 12 (.inl (lo_iload 13 1)) := lk_iload_n (k := 1) (by decide +kernel) rfl
theorem k_92_13 (L : Nat) (xs : Nat → Int32) : ll_OK1 cX8_starOf RX8 (some .int) false ll_mN ll_mR ll_mK ll_cnt L xs false 13 (.inr (.inl (81, 2, 16))) := ⟨rfl, by decide, by rw [mN_81, mK_81, mR_81]; exact lj_v 47 1 8 (RX8, TX8, 10) (by decide +kernel) tb_367 tb_328 tb_329 rfl rfl rfl rfl (by decide +kernel)⟩
theorem k_92_16 (L : Nat) (xs : Nat → Int32) : ll_OK1 cX8_starOf RX8 (some .int) false ll_mN ll_mR ll_mK ll_cnt L xs false 16 (.inl (lo_push 17 (.int 3))) := lk_iconst (n := 3) (by decide +kernel) (by decide)
theorem k_92_17 (L : Nat) (xs : Nat → Int32) : ll_OK1 cX8_starOf RX8 (some .int) false ll_mN ll_mR ll_mK ll_cnt L xs false 17 (.inl (lo_cmp 22 20 (fun x y => decide (¬ x = y)))) := lk_icmp_ne (off := 5) (by decide +kernel) rfl
theorem k_92_20 (L : Nat) (xs : Nat → Int32) : ll_OK1 cX8_starOf RX8 (some .int) false ll_mN ll_mR ll_mK ll_cnt L xs false 20 (.inl (lo_iload 21 1)) := lk_iload_n (k := 1) (by decide +kernel) rfl
theorem k_92_21 (L : Nat) (xs : Nat → Int32) : ll_OK1 cX8_starOf RX8 (some .int) false ll_mN ll_mR ll_mK ll_cnt L xs false 21 (.inr (.inr 1)) := ⟨(fun h => by cases h), (fun _ => ⟨(by decide +kernel), rfl⟩), fun h => by cases h⟩
theorem k_92_22 (L : Nat) (xs : Nat → Int32) : ll_OK1 cX8_starOf RX8 (some .int) false ll_mN ll_mR ll_mK ll_cnt L xs false 22 (.inl (lo_aload 23 0)) := lk_aload_n (k := 0) (by decide +kernel) rfl
theorem k_92_23 (L : Nat) (xs : Nat → Int32) : ll_OK1 cX8_starOf RX8 (some .int) false ll_mN ll_mR ll_mK ll_cnt L xs false 23 (.inl (lo_getf 26 8 9)) := lk_getf (ix := 40) (ci := 8) (k := 9) (C := RX8) (T := TX8) (N := 10) (by decide +kernel) rfl in_8 (by decide) tb_365
theorem k_92_26 (L : Nat) (xs : Nat → Int32) : ll_OK1 cX8_starOf RX8 (some .int) false ll_mN ll_mR ll_mK ll_cnt L xs false 26 (.inl (lo_istore 27 2)) := lk_istore_n (k := 2) (by decide +kernel) rfl
theorem k_92_27 (L : Nat) (xs : Nat → Int32) : ll_OK1 cX8_starOf RX8 (some .int) false ll_mN ll_mR ll_mK ll_cnt L xs false 27 (.inl (lo_aload 28 0)) := lk_aload_n (k := 0) (by decide +kernel) rfl
theorem k_92_28 (L : Nat) (xs : Nat → Int32) : ll_OK1 cX8_starOf RX8 (some .int) false ll_mN ll_mR ll_mK ll_cnt L xs false 28 (.inl (lo_iload 29 1)) := lk_iload_n (k := 1) (by decide +kernel) rfl
theorem k_92_29 (L : Nat) (xs : Nat → Int32) : ll_OK1 cX8_starOf RX8 (some .int) false ll_mN ll_mR ll_mK ll_cnt L xs false 29 (.inr (.inl (96, 2, 32))) := ⟨rfl, by decide, by rw [mN_96, mK_96, mR_96]; exact lj_v 61 1 8 (RX8, TX8, 10) (by decide +kernel) tb_373 tb_374 tb_375 rfl rfl rfl rfl (by decide +kernel)⟩
theorem k_92_32 (L : Nat) (xs : Nat → Int32) : ll_OK1 cX8_starOf RX8 (some .int) false ll_mN ll_mR ll_mK ll_cnt L xs false 32 (.inl (lo_aload 33 0)) := lk_aload_n (k := 0) (by decide +kernel) rfl
theorem k_92_33 (L : Nat) (xs : Nat → Int32) : ll_OK1 cX8_starOf RX8 (some .int) false ll_mN ll_mR ll_mK ll_cnt L xs false 33 (.inl (lo_push 34 (.int 3))) := lk_iconst (n := 3) (by decide +kernel) (by decide)
theorem k_92_34 (L : Nat) (xs : Nat → Int32) : ll_OK1 cX8_starOf RX8 (some .int) false ll_mN ll_mR ll_mK ll_cnt L xs false 34 (.inl (lo_iload 35 2)) := lk_iload_n (k := 2) (by decide +kernel) rfl
theorem k_92_35 (L : Nat) (xs : Nat → Int32) : ll_OK1 cX8_starOf RX8 (some .int) false ll_mN ll_mR ll_mK ll_cnt L xs false 35 (.inr (.inl (99, 3, 38))) := ⟨rfl, by decide, by rw [mN_99, mK_99, mR_99]; exact lj_v 69 2 8 (RX8, TX8, 10) (by decide +kernel) tb_379 tb_380 tb_381 rfl rfl rfl rfl (by decide +kernel)⟩
theorem k_92_38 (L : Nat) (xs : Nat → Int32) : ll_OK1 cX8_starOf RX8 (some .int) false ll_mN ll_mR ll_mK ll_cnt L xs false 38 (.inl (lo_istore 39 3)) := lk_istore_n (k := 3) (by decide +kernel) rfl
theorem k_92_39 (L : Nat) (xs : Nat → Int32) : ll_OK1 cX8_starOf RX8 (some .int) false ll_mN ll_mR ll_mK ll_cnt L xs false 39 (.inl (lo_aload 40 0)) := lk_aload_n (k := 0) (by decide +kernel) rfl
theorem k_92_40 (L : Nat) (xs : Nat → Int32) : ll_OK1 cX8_starOf RX8 (some .int) false ll_mN ll_mR ll_mK ll_cnt L xs false 40 (.inl (lo_iload 41 2)) := lk_iload_n (k := 2) (by decide +kernel) rfl
theorem k_92_41 (L : Nat) (xs : Nat → Int32) : ll_OK1 cX8_starOf RX8 (some .int) false ll_mN ll_mR ll_mK ll_cnt L xs false 41 (.inl (lo_putf 44 8 9 0)) := lk_putf (ix := 40) (ci := 8) (k := 9) (C := RX8) (T := TX8) (N := 10) (ty0 := tyX8) (by decide +kernel) rfl in_8 tyX8_ok nmX8 (by decide) tb_365 (fun B adr v w h1 h2 => ll_fit_int (B := B) (adr := adr) h1 h2) (Or.inl rfl)
theorem k_92_44 (L : Nat) (xs : Nat → Int32) : ll_OK1 cX8_starOf RX8 (some .int) false ll_mN ll_mR ll_mK ll_cnt L xs false 44 (.inl (lo_iload 45 3)) := lk_iload_n (k := 3) (by decide +kernel) rfl
theorem k_92_45 (L : Nat) (xs : Nat → Int32) : ll_OK1 cX8_starOf RX8 (some .int) false ll_mN ll_mR ll_mK ll_cnt L xs false 45 (.inr (.inr 1)) := ⟨(fun h => by cases h), (fun _ => ⟨(by decide +kernel), rfl⟩), fun h => by cases h⟩
theorem ok_92 (L : Nat) (xs : Nat → Int32) : ∀ q ∈ cd_92, ll_OK1 cX8_starOf RX8 (some .int) false ll_mN ll_mR ll_mK ll_cnt L xs false q.1 q.2 :=
  List.forall_mem_cons.mpr ⟨k_92_0 L xs, List.forall_mem_cons.mpr ⟨k_92_1 L xs, List.forall_mem_cons.mpr ⟨k_92_4 L xs, List.forall_mem_cons.mpr ⟨k_92_5 L xs, List.forall_mem_cons.mpr ⟨k_92_6 L xs, List.forall_mem_cons.mpr ⟨k_92_9 L xs, List.forall_mem_cons.mpr ⟨k_92_10 L xs, List.forall_mem_cons.mpr ⟨k_92_11 L xs, List.forall_mem_cons.mpr ⟨k_92_12 L xs, List.forall_mem_cons.mpr ⟨k_92_13 L xs, List.forall_mem_cons.mpr ⟨k_92_16 L xs, List.forall_mem_cons.mpr ⟨k_92_17 L xs, List.forall_mem_cons.mpr ⟨k_92_20 L xs, List.forall_mem_cons.mpr ⟨k_92_21 L xs, List.forall_mem_cons.mpr ⟨k_92_22 L xs, List.forall_mem_cons.mpr ⟨k_92_23 L xs, List.forall_mem_cons.mpr ⟨k_92_26 L xs, List.forall_mem_cons.mpr ⟨k_92_27 L xs, List.forall_mem_cons.mpr ⟨k_92_28 L xs, List.forall_mem_cons.mpr ⟨k_92_29 L xs, List.forall_mem_cons.mpr ⟨k_92_32 L xs, List.forall_mem_cons.mpr ⟨k_92_33 L xs, List.forall_mem_cons.mpr ⟨k_92_34 L xs, List.forall_mem_cons.mpr ⟨k_92_35 L xs, List.forall_mem_cons.mpr ⟨k_92_38 L xs, List.forall_mem_cons.mpr ⟨k_92_39 L xs, List.forall_mem_cons.mpr ⟨k_92_40 L xs, List.forall_mem_cons.mpr ⟨k_92_41 L xs, List.forall_mem_cons.mpr ⟨k_92_44 L xs, List.forall_mem_cons.mpr ⟨k_92_45 L xs, fun _ h => absurd h List.not_mem_nil⟩⟩⟩⟩⟩⟩⟩⟩⟩⟩⟩⟩⟩⟩⟩⟩⟩⟩⟩⟩⟩⟩⟩⟩⟩⟩⟩⟩⟩⟩
/-- InclusionProver$Tree.spell.(IILInclusionProver$Text;)V -/
def cd_93 : List (Nat × ll_O) := [
  (0, .inl (lo_aload 1 0)),
  (1, .inl (lo_iload 2 1)),
  (2, .inl (lo_iload 3 2)),
  (3, .inl (lo_aload 4 3)),
  (4, .inl (lo_push 5 (.int 0))),
  (5, .inr (.inl (94, 5, 8))),
  (8, .inr (.inr 0))]
theorem k_93_0 (L : Nat) (xs : Nat → Int32) : ll_OK1 cX8_spell RX8 none false ll_mN ll_mR ll_mK ll_cnt L xs false 0 (.inl (lo_aload 1 0)) := lk_aload_n (k := 0) (by decide +kernel) rfl
theorem k_93_1 (L : Nat) (xs : Nat → Int32) : ll_OK1 cX8_spell RX8 none false ll_mN ll_mR ll_mK ll_cnt L xs false 1 (.inl (lo_iload 2 1)) := lk_iload_n (k := 1) (by decide +kernel) rfl
theorem k_93_2 (L : Nat) (xs : Nat → Int32) : ll_OK1 cX8_spell RX8 none false ll_mN ll_mR ll_mK ll_cnt L xs false 2 (.inl (lo_iload 3 2)) := lk_iload_n (k := 2) (by decide +kernel) rfl
theorem k_93_3 (L : Nat) (xs : Nat → Int32) : ll_OK1 cX8_spell RX8 none false ll_mN ll_mR ll_mK ll_cnt L xs false 3 (.inl (lo_aload 4 3)) := lk_aload_n (k := 3) (by decide +kernel) rfl
theorem k_93_4 (L : Nat) (xs : Nat → Int32) : ll_OK1 cX8_spell RX8 none false ll_mN ll_mR ll_mK ll_cnt L xs false 4 (.inl (lo_push 5 (.int 0))) := lk_iconst (n := 0) (by decide +kernel) (by decide)
theorem k_93_5 (L : Nat) (xs : Nat → Int32) : ll_OK1 cX8_spell RX8 none false ll_mN ll_mR ll_mK ll_cnt L xs false 5 (.inr (.inl (94, 5, 8))) := ⟨rfl, by decide, by rw [mN_94, mK_94, mR_94]; exact lj_v 72 4 8 (RX8, TX8, 10) (by decide +kernel) tb_382 tb_383 tb_384 rfl rfl rfl rfl (by decide +kernel)⟩
theorem k_93_8 (L : Nat) (xs : Nat → Int32) : ll_OK1 cX8_spell RX8 none false ll_mN ll_mR ll_mK ll_cnt L xs false 8 (.inr (.inr 0)) := ⟨fun _ => ⟨(by decide +kernel), rfl⟩, (fun h => by cases h), fun h => by cases h⟩
theorem ok_93 (L : Nat) (xs : Nat → Int32) : ∀ q ∈ cd_93, ll_OK1 cX8_spell RX8 none false ll_mN ll_mR ll_mK ll_cnt L xs false q.1 q.2 :=
  List.forall_mem_cons.mpr ⟨k_93_0 L xs, List.forall_mem_cons.mpr ⟨k_93_1 L xs, List.forall_mem_cons.mpr ⟨k_93_2 L xs, List.forall_mem_cons.mpr ⟨k_93_3 L xs, List.forall_mem_cons.mpr ⟨k_93_4 L xs, List.forall_mem_cons.mpr ⟨k_93_5 L xs, List.forall_mem_cons.mpr ⟨k_93_8 L xs, fun _ h => absurd h List.not_mem_nil⟩⟩⟩⟩⟩⟩⟩
/-- InclusionProver$Tree.spellNode.(IILInclusionProver$Text;I)V -/
def cd_94 : List (Nat × ll_O) := [
  (0, .inl (lo_iload 2 4)),
  (2, .inl (lo_push 4 (.int 40))),
  (4, .inl (lo_cmp 8 7 (fun x y => decide (x ≤ y)))),
  (7, .inr (.inr 0)),
  (8, .inl (lo_aload 9 0)),
  (9, .inl (lo_iload 10 1)),
  (10, .inr (.inl (81, 2, 13))),
  (13, .inl (lo_istore 15 5)),
  (15, .inl (lo_iload 17 5)),
  (17, .inl (lo_if 45 20 (fun x => decide (¬ x = 0)))),
  (20, .inl (lo_aload 21 3)),
  (21, .inl (lo_iload 22 1)),
  (22, .inl (lo_push 23 (.int 2))),
  (23, .inl (lo_cmp 33 26 (fun x y => decide (y ≤ x)))),
  (26, .inl (lo_push 28 (.int 48))),
  (28, .inl (lo_iload 29 1)),
  (29, .inl (lo_bin 30 (fun x y => x + y))),
  (30, .inl (lo_goto 39)),
  (33, .inl (lo_push 35 (.int 97))),
  (35, .inl (lo_iload 36 1)),
  (36, .inl (lo_bin 37 (fun x y => x + y))),
  (37, .inl (lo_push 38 (.int 2))),
  (38, .inl (lo_bin 39 (fun x y => x - y))),
  (39, .inr (.inl (72, 2, 42))),
  (42, .inl (lo_goto 131)),
  (45, .inl (lo_iload 47 5)),
  (47, .inl (lo_push 48 (.int 3))),
  (48, .inl (lo_cmp 76 51 (fun x y => decide (¬ x = y)))),
  (51, .inl (lo_aload 52 0)),
  (52, .inl (lo_aload 53 0)),
  (53, .inl (lo_iload 54 1)),
  (54, .inl (lo_push 55 (.int 0))),
  (55, .inr (.inl (83, 3, 58))),
  (58, .inl (lo_push 59 (.int 2))),
  (59, .inl (lo_aload 60 3)),
  (60, .inl (lo_iload 62 4)),
  (62, .inl (lo_push 63 (.int 1))),
  (63, .inl (lo_bin 64 (fun x y => x + y))),
  (64, .inr (.inl (94, 5, 67))),
  (67, .inl (lo_aload 68 3)),
  (68, .inl (lo_push 70 (.int 42))),
  (70, .inr (.inl (72, 2, 73))),
  (73, .inl (lo_goto 131)),
  (76, .inl (lo_iload 77 2)),
  (77, .inl (lo_push 78 (.int 2))),
  (78, .inl (lo_cmp 92 81 (fun x y => decide (x = y)))),
  (81, .inl (lo_iload 83 5)),
  (83, .inl (lo_push 84 (.int 1))),
  (84, .inl (lo_cmp 96 87 (fun x y => decide (¬ x = y)))),
  (87, .inl (lo_iload 88 2)),
  (88, .inl (lo_push 89 (.int 1))),
  (89, .inl (lo_cmp 96 92 (fun x y => decide (¬ x = y)))),
  (92, .inl (lo_push 93 (.int 1))),
  (93, .inl (lo_goto 97)),
  (96, .inl (lo_push 97 (.int 0))),
  (97, .inl (lo_istore 99 6)),
  (99, .inl (lo_iload 101 6)),
  (101, .inl (lo_if 110 104 (fun x => decide (x = 0)))),
  (104, .inl (lo_aload 105 3)),
  (105, .inl (lo_push 107 (.int 40))),
  (107, .inr (.inl (72, 2, 110))),
  (110, .inl (lo_aload 111 0)),
  (111, .inl (lo_iload 112 1)),
  (112, .inl (lo_iload 114 5)),
  (114, .inl (lo_aload 115 3)),
  (115, .inl (lo_iload 117 4)),
  (117, .inr (.inl (95, 5, 120))),
  (120, .inl (lo_iload 122 6)),
  (122, .inl (lo_if 131 125 (fun x => decide (x = 0)))),
  (125, .inl (lo_aload 126 3)),
  (126, .inl (lo_push 128 (.int 41))),
  (128, .inr (.inl (72, 2, 131))),
  (131, .inr (.inr 0))]
theorem k_94_0 (L : Nat) (xs : Nat → Int32) : ll_OK1 cX8_spellNode RX8 none false ll_mN ll_mR ll_mK ll_cnt L xs false 0 (.inl (lo_iload 2 4)) := lk_iload (by decide +kernel)
theorem k_94_2 (L : Nat) (xs : Nat → Int32) : ll_OK1 cX8_spellNode RX8 none false ll_mN ll_mR ll_mK ll_cnt L xs false 2 (.inl (lo_push 4 (.int 40))) := lk_bipush (n := 40) (by decide +kernel) (by decide)
theorem k_94_4 (L : Nat) (xs : Nat → Int32) : ll_OK1 cX8_spellNode RX8 none false ll_mN ll_mR ll_mK ll_cnt L xs false 4 (.inl (lo_cmp 8 7 (fun x y => decide (x ≤ y)))) := lk_icmp_le (off := 4) (by decide +kernel) rfl
theorem k_94_7 (L : Nat) (xs : Nat → Int32) : ll_OK1 cX8_spellNode RX8 none false ll_mN ll_mR ll_mK ll_cnt L xs false 7 (.inr (.inr 0)) := ⟨fun _ => ⟨(by decide +kernel), rfl⟩, (fun h => by cases h), fun h => by cases h⟩
theorem k_94_8 (L : Nat) (xs : Nat → Int32) : ll_OK1 cX8_spellNode RX8 none false ll_mN ll_mR ll_mK ll_cnt L xs false 8 (.inl (lo_aload 9 0)) := lk_aload_n (k := 0) (by decide +kernel) rfl
theorem k_94_9 (L : Nat) (xs : Nat → Int32) : ll_OK1 cX8_spellNode RX8 none false ll_mN ll_mR ll_mK ll_cnt L xs false 9 (.inl (lo_iload 10 1)) := lk_iload_n (k := 1) (by decide +kernel) rfl
theorem k_94_10 (L : Nat) (xs : Nat → Int32) : ll_OK1 cX8_spellNode RX8 none false ll_mN ll_mR ll_mK ll_cnt L xs false 10 (.inr (.inl (81, 2, 13))) := ⟨rfl, by decide, by rw [mN_81, mK_81, mR_81]; exact lj_v 47 1 8 (RX8, TX8, 10) (by decide +kernel) tb_367 tb_328 tb_329 rfl rfl rfl rfl (by decide +kernel)⟩
theorem k_94_13 (L : Nat) (xs : Nat → Int32) : ll_OK1 cX8_spellNode RX8 none false ll_mN ll_mR ll_mK ll_cnt L xs false 13 (.inl (lo_istore 15 5)) := lk_istore (by decide +kernel)
theorem k_94_15 (L : Nat) (xs : Nat → Int32) : ll_OK1 cX8_spellNode RX8 none false ll_mN ll_mR ll_mK ll_cnt L xs false 15 (.inl (lo_iload 17 5)) := lk_iload (by decide +kernel)
theorem k_94_17 (L : Nat) (xs : Nat → Int32) : ll_OK1 cX8_spellNode RX8 none false ll_mN ll_mR ll_mK ll_cnt L xs false 17 (.inl (lo_if 45 20 (fun x => decide (¬ x = 0)))) := lk_if_ne (off := 28) (by decide +kernel) rfl
theorem k_94_20 (L : Nat) (xs : Nat → Int32) : ll_OK1 cX8_spellNode RX8 none false ll_mN ll_mR ll_mK ll_cnt L xs false 20 (.inl (lo_aload 21 3)) := lk_aload_n (k := 3) (by decide +kernel) rfl
theorem k_94_21 (L : Nat) (xs : Nat → Int32) : ll_OK1 cX8_spellNode RX8 none false ll_mN ll_mR ll_mK ll_cnt L xs false 21 (.inl (lo_iload 22 1)) := lk_iload_n (k := 1) (by decide +kernel) rfl
theorem k_94_22 (L : Nat) (xs : Nat → Int32) : ll_OK1 cX8_spellNode RX8 none false ll_mN ll_mR ll_mK ll_cnt L xs false 22 (.inl (lo_push 23 (.int 2))) := lk_iconst (n := 2) (by decide +kernel) (by decide)
theorem k_94_23 (L : Nat) (xs : Nat → Int32) : ll_OK1 cX8_spellNode RX8 none false ll_mN ll_mR ll_mK ll_cnt L xs false 23 (.inl (lo_cmp 33 26 (fun x y => decide (y ≤ x)))) := lk_icmp_ge (off := 10) (by decide +kernel) rfl
theorem k_94_26 (L : Nat) (xs : Nat → Int32) : ll_OK1 cX8_spellNode RX8 none false ll_mN ll_mR ll_mK ll_cnt L xs false 26 (.inl (lo_push 28 (.int 48))) := lk_bipush (n := 48) (by decide +kernel) (by decide)
theorem k_94_28 (L : Nat) (xs : Nat → Int32) : ll_OK1 cX8_spellNode RX8 none false ll_mN ll_mR ll_mK ll_cnt L xs false 28 (.inl (lo_iload 29 1)) := lk_iload_n (k := 1) (by decide +kernel) rfl
theorem k_94_29 (L : Nat) (xs : Nat → Int32) : ll_OK1 cX8_spellNode RX8 none false ll_mN ll_mR ll_mK ll_cnt L xs false 29 (.inl (lo_bin 30 (fun x y => x + y))) := lk_iadd (by decide +kernel)
theorem k_94_30 (L : Nat) (xs : Nat → Int32) : ll_OK1 cX8_spellNode RX8 none false ll_mN ll_mR ll_mK ll_cnt L xs false 30 (.inl (lo_goto 39)) := lk_goto (off := 9) (by decide +kernel) rfl
theorem k_94_33 (L : Nat) (xs : Nat → Int32) : ll_OK1 cX8_spellNode RX8 none false ll_mN ll_mR ll_mK ll_cnt L xs false 33 (.inl (lo_push 35 (.int 97))) := lk_bipush (n := 97) (by decide +kernel) (by decide)
theorem k_94_35 (L : Nat) (xs : Nat → Int32) : ll_OK1 cX8_spellNode RX8 none false ll_mN ll_mR ll_mK ll_cnt L xs false 35 (.inl (lo_iload 36 1)) := lk_iload_n (k := 1) (by decide +kernel) rfl
theorem k_94_36 (L : Nat) (xs : Nat → Int32) : ll_OK1 cX8_spellNode RX8 none false ll_mN ll_mR ll_mK ll_cnt L xs false 36 (.inl (lo_bin 37 (fun x y => x + y))) := lk_iadd (by decide +kernel)
theorem k_94_37 (L : Nat) (xs : Nat → Int32) : ll_OK1 cX8_spellNode RX8 none false ll_mN ll_mR ll_mK ll_cnt L xs false 37 (.inl (lo_push 38 (.int 2))) := lk_iconst (n := 2) (by decide +kernel) (by decide)
theorem k_94_38 (L : Nat) (xs : Nat → Int32) : ll_OK1 cX8_spellNode RX8 none false ll_mN ll_mR ll_mK ll_cnt L xs false 38 (.inl (lo_bin 39 (fun x y => x - y))) := lk_isub (by decide +kernel)
theorem k_94_39 (L : Nat) (xs : Nat → Int32) : ll_OK1 cX8_spellNode RX8 none false ll_mN ll_mR ll_mK ll_cnt L xs false 39 (.inr (.inl (72, 2, 42))) := ⟨rfl, by decide, by rw [mN_72, mK_72, mR_72]; exact lj_v 76 1 7 (RX7, TX7, 2) (by decide +kernel) tb_385 tb_225 tb_226 rfl rfl rfl rfl (by decide +kernel)⟩
theorem k_94_42 (L : Nat) (xs : Nat → Int32) : ll_OK1 cX8_spellNode RX8 none false ll_mN ll_mR ll_mK ll_cnt L xs false 42 (.inl (lo_goto 131)) := lk_goto (off := 89) (by decide +kernel) rfl
theorem k_94_45 (L : Nat) (xs : Nat → Int32) : ll_OK1 cX8_spellNode RX8 none false ll_mN ll_mR ll_mK ll_cnt L xs false 45 (.inl (lo_iload 47 5)) := lk_iload (by decide +kernel)
theorem k_94_47 (L : Nat) (xs : Nat → Int32) : ll_OK1 cX8_spellNode RX8 none false ll_mN ll_mR ll_mK ll_cnt L xs false 47 (.inl (lo_push 48 (.int 3))) := lk_iconst (n := 3) (by decide +kernel) (by decide)
theorem k_94_48 (L : Nat) (xs : Nat → Int32) : ll_OK1 cX8_spellNode RX8 none false ll_mN ll_mR ll_mK ll_cnt L xs false 48 (.inl (lo_cmp 76 51 (fun x y => decide (¬ x = y)))) := lk_icmp_ne (off := 28) (by decide +kernel) rfl
theorem k_94_51 (L : Nat) (xs : Nat → Int32) : ll_OK1 cX8_spellNode RX8 none false ll_mN ll_mR ll_mK ll_cnt L xs false 51 (.inl (lo_aload 52 0)) := lk_aload_n (k := 0) (by decide +kernel) rfl
theorem k_94_52 (L : Nat) (xs : Nat → Int32) : ll_OK1 cX8_spellNode RX8 none false ll_mN ll_mR ll_mK ll_cnt L xs false 52 (.inl (lo_aload 53 0)) := lk_aload_n (k := 0) (by decide +kernel) rfl
theorem k_94_53 (L : Nat) (xs : Nat → Int32) : ll_OK1 cX8_spellNode RX8 none false ll_mN ll_mR ll_mK ll_cnt L xs false 53 (.inl (lo_iload 54 1)) := lk_iload_n (k := 1) (by decide +kernel) rfl
theorem k_94_54 (L : Nat) (xs : Nat → Int32) : ll_OK1 cX8_spellNode RX8 none false ll_mN ll_mR ll_mK ll_cnt L xs false 54 (.inl (lo_push 55 (.int 0))) := lk_iconst (n := 0) (by decide +kernel) (by decide)
theorem k_94_55 (L : Nat) (xs : Nat → Int32) : ll_OK1 cX8_spellNode RX8 none false ll_mN ll_mR ll_mK ll_cnt L xs false 55 (.inr (.inl (83, 3, 58))) := ⟨rfl, by decide, by rw [mN_83, mK_83, mR_83]; exact lj_v 53 2 8 (RX8, TX8, 10) (by decide +kernel) tb_369 tb_334 tb_335 rfl rfl rfl rfl (by decide +kernel)⟩
theorem k_94_58 (L : Nat) (xs : Nat → Int32) : ll_OK1 cX8_spellNode RX8 none false ll_mN ll_mR ll_mK ll_cnt L xs false 58 (.inl (lo_push 59 (.int 2))) := lk_iconst (n := 2) (by decide +kernel) (by decide)
theorem k_94_59 (L : Nat) (xs : Nat → Int32) : ll_OK1 cX8_spellNode RX8 none false ll_mN ll_mR ll_mK ll_cnt L xs false 59 (.inl (lo_aload 60 3)) := lk_aload_n (k := 3) (by decide +kernel) rfl
theorem k_94_60 (L : Nat) (xs : Nat → Int32) : ll_OK1 cX8_spellNode RX8 none false ll_mN ll_mR ll_mK ll_cnt L xs false 60 (.inl (lo_iload 62 4)) := lk_iload (by decide +kernel)
theorem k_94_62 (L : Nat) (xs : Nat → Int32) : ll_OK1 cX8_spellNode RX8 none false ll_mN ll_mR ll_mK ll_cnt L xs false 62 (.inl (lo_push 63 (.int 1))) := lk_iconst (n := 1) (by decide +kernel) (by decide)
theorem k_94_63 (L : Nat) (xs : Nat → Int32) : ll_OK1 cX8_spellNode RX8 none false ll_mN ll_mR ll_mK ll_cnt L xs false 63 (.inl (lo_bin 64 (fun x y => x + y))) := lk_iadd (by decide +kernel)
theorem k_94_64 (L : Nat) (xs : Nat → Int32) : ll_OK1 cX8_spellNode RX8 none false ll_mN ll_mR ll_mK ll_cnt L xs false 64 (.inr (.inl (94, 5, 67))) := ⟨rfl, by decide, by rw [mN_94, mK_94, mR_94]; exact lj_v 72 4 8 (RX8, TX8, 10) (by decide +kernel) tb_382 tb_383 tb_384 rfl rfl rfl rfl (by decide +kernel)⟩
theorem k_94_67 (L : Nat) (xs : Nat → Int32) : ll_OK1 cX8_spellNode RX8 none false ll_mN ll_mR ll_mK ll_cnt L xs false 67 (.inl (lo_aload 68 3)) := lk_aload_n (k := 3) (by decide +kernel) rfl
theorem k_94_68 (L : Nat) (xs : Nat → Int32) : ll_OK1 cX8_spellNode RX8 none false ll_mN ll_mR ll_mK ll_cnt L xs false 68 (.inl (lo_push 70 (.int 42))) := lk_bipush (n := 42) (by decide +kernel) (by decide)
theorem k_94_70 (L : Nat) (xs : Nat → Int32) : ll_OK1 cX8_spellNode RX8 none false ll_mN ll_mR ll_mK ll_cnt L xs false 70 (.inr (.inl (72, 2, 73))) := ⟨rfl, by decide, by rw [mN_72, mK_72, mR_72]; exact lj_v 76 1 7 (RX7, TX7, 2) (by decide +kernel) tb_385 tb_225 tb_226 rfl rfl rfl rfl (by decide +kernel)⟩
theorem k_94_73 (L : Nat) (xs : Nat → Int32) : ll_OK1 cX8_spellNode RX8 none false ll_mN ll_mR ll_mK ll_cnt L xs false 73 (.inl (lo_goto 131)) := lk_goto (off := 58) (by decide +kernel) rfl
theorem k_94_76 (L : Nat) (xs : Nat → Int32) : ll_OK1 cX8_spellNode RX8 none false ll_mN ll_mR ll_mK ll_cnt L xs false 76 (.inl (lo_iload 77 2)) := lk_iload_n (k := 2) (by decide +kernel) rfl
theorem k_94_77 (L : Nat) (xs : Nat → Int32) : ll_OK1 cX8_spellNode RX8 none false ll_mN ll_mR ll_mK ll_cnt L xs false 77 (.inl (lo_push 78 (.int 2))) := lk_iconst (n := 2) (by decide +kernel) (by decide)
theorem k_94_78 (L : Nat) (xs : Nat → Int32) : ll_OK1 cX8_spellNode RX8 none false ll_mN ll_mR ll_mK ll_cnt L xs false 78 (.inl (lo_cmp 92 81 (fun x y => decide (x = y)))) := lk_icmp_eq (off := 14) (by decide +kernel) rfl
theorem k_94_81 (L : Nat) (xs : Nat → Int32) : ll_OK1 cX8_spellNode RX8 none false ll_mN ll_mR ll_mK ll_cnt L xs false 81 (.inl (lo_iload 83 5)) := lk_iload (by decide +kernel)
theorem k_94_83 (L : Nat) (xs : Nat → Int32) : ll_OK1 cX8_spellNode RX8 none false ll_mN ll_mR ll_mK ll_cnt L xs false 83 (.inl (lo_push 84 (.int 1))) := lk_iconst (n := 1) (by decide +kernel) (by decide)
theorem k_94_84 (L : Nat) (xs : Nat → Int32) : ll_OK1 cX8_spellNode RX8 none false ll_mN ll_mR ll_mK ll_cnt L xs false 84 (.inl (lo_cmp 96 87 (fun x y => decide (¬ x = y)))) := lk_icmp_ne (off := 12) (by decide +kernel) rfl
theorem k_94_87 (L : Nat) (xs : Nat → Int32) : ll_OK1 cX8_spellNode RX8 none false ll_mN ll_mR ll_mK ll_cnt L xs false 87 (.inl (lo_iload 88 2)) := lk_iload_n (k := 2) (by decide +kernel) rfl
theorem k_94_88 (L : Nat) (xs : Nat → Int32) : ll_OK1 cX8_spellNode RX8 none false ll_mN ll_mR ll_mK ll_cnt L xs false 88 (.inl (lo_push 89 (.int 1))) := lk_iconst (n := 1) (by decide +kernel) (by decide)
theorem k_94_89 (L : Nat) (xs : Nat → Int32) : ll_OK1 cX8_spellNode RX8 none false ll_mN ll_mR ll_mK ll_cnt L xs false 89 (.inl (lo_cmp 96 92 (fun x y => decide (¬ x = y)))) := lk_icmp_ne (off := 7) (by decide +kernel) rfl
theorem k_94_92 (L : Nat) (xs : Nat → Int32) : ll_OK1 cX8_spellNode RX8 none false ll_mN ll_mR ll_mK ll_cnt L xs false 92 (.inl (lo_push 93 (.int 1))) := lk_iconst (n := 1) (by decide +kernel) (by decide)
theorem k_94_93 (L : Nat) (xs : Nat → Int32) : ll_OK1 cX8_spellNode RX8 none false ll_mN ll_mR ll_mK ll_cnt L xs false 93 (.inl (lo_goto 97)) := lk_goto (off := 4) (by decide +kernel) rfl
theorem k_94_96 (L : Nat) (xs : Nat → Int32) : ll_OK1 cX8_spellNode RX8 none false ll_mN ll_mR ll_mK ll_cnt L xs false 96 (.inl (lo_push 97 (.int 0))) := lk_iconst (n := 0) (by decide +kernel) (by decide)
theorem k_94_97 (L : Nat) (xs : Nat → Int32) : ll_OK1 cX8_spellNode RX8 none false ll_mN ll_mR ll_mK ll_cnt L xs false 97 (.inl (lo_istore 99 6)) := lk_istore (by decide +kernel)
theorem k_94_99 (L : Nat) (xs : Nat → Int32) : ll_OK1 cX8_spellNode RX8 none false ll_mN ll_mR ll_mK ll_cnt L xs false 99 (.inl (lo_iload 101 6)) := lk_iload (by decide +kernel)
theorem k_94_101 (L : Nat) (xs : Nat → Int32) : ll_OK1 cX8_spellNode RX8 none false ll_mN ll_mR ll_mK ll_cnt L xs false 101 (.inl (lo_if 110 104 (fun x => decide (x = 0)))) := lk_if_eq (off := 9) (by decide +kernel) rfl
theorem k_94_104 (L : Nat) (xs : Nat → Int32) : ll_OK1 cX8_spellNode RX8 none false ll_mN ll_mR ll_mK ll_cnt L xs false 104 (.inl (lo_aload 105 3)) := lk_aload_n (k := 3) (by decide +kernel) rfl
theorem k_94_105 (L : Nat) (xs : Nat → Int32) : ll_OK1 cX8_spellNode RX8 none false ll_mN ll_mR ll_mK ll_cnt L xs false 105 (.inl (lo_push 107 (.int 40))) := lk_bipush (n := 40) (by decide +kernel) (by decide)
theorem k_94_107 (L : Nat) (xs : Nat → Int32) : ll_OK1 cX8_spellNode RX8 none false ll_mN ll_mR ll_mK ll_cnt L xs false 107 (.inr (.inl (72, 2, 110))) := ⟨rfl, by decide, by rw [mN_72, mK_72, mR_72]; exact lj_v 76 1 7 (RX7, TX7, 2) (by decide +kernel) tb_385 tb_225 tb_226 rfl rfl rfl rfl (by decide +kernel)⟩
theorem k_94_110 (L : Nat) (xs : Nat → Int32) : ll_OK1 cX8_spellNode RX8 none false ll_mN ll_mR ll_mK ll_cnt L xs false 110 (.inl (lo_aload 111 0)) := lk_aload_n (k := 0) (by decide +kernel) rfl
theorem k_94_111 (L : Nat) (xs : Nat → Int32) : ll_OK1 cX8_spellNode RX8 none false ll_mN ll_mR ll_mK ll_cnt L xs false 111 (.inl (lo_iload 112 1)) := lk_iload_n (k := 1) (by decide +kernel) rfl
theorem k_94_112 (L : Nat) (xs : Nat → Int32) : ll_OK1 cX8_spellNode RX8 none false ll_mN ll_mR ll_mK ll_cnt L xs false 112 (.inl (lo_iload 114 5)) := lk_iload (by decide +kernel)
theorem k_94_114 (L : Nat) (xs : Nat → Int32) : ll_OK1 cX8_spellNode RX8 none false ll_mN ll_mR ll_mK ll_cnt L xs false 114 (.inl (lo_aload 115 3)) := lk_aload_n (k := 3) (by decide +kernel) rfl
theorem k_94_115 (L : Nat) (xs : Nat → Int32) : ll_OK1 cX8_spellNode RX8 none false ll_mN ll_mR ll_mK ll_cnt L xs false 115 (.inl (lo_iload 117 4)) := lk_iload (by decide +kernel)
theorem k_94_117 (L : Nat) (xs : Nat → Int32) : ll_OK1 cX8_spellNode RX8 none false ll_mN ll_mR ll_mK ll_cnt L xs false 117 (.inr (.inl (95, 5, 120))) := ⟨rfl, by decide, by rw [mN_95, mK_95, mR_95]; exact lj_v 81 4 8 (RX8, TX8, 10) (by decide +kernel) tb_386 tb_387 tb_388 rfl rfl rfl rfl (by decide +kernel)⟩
theorem k_94_120 (L : Nat) (xs : Nat → Int32) : ll_OK1 cX8_spellNode RX8 none false ll_mN ll_mR ll_mK ll_cnt L xs false 120 (.inl (lo_iload 122 6)) := lk_iload (by decide +kernel)
theorem k_94_122 (L : Nat) (xs : Nat → Int32) : ll_OK1 cX8_spellNode RX8 none false ll_mN ll_mR ll_mK ll_cnt L xs false 122 (.inl (lo_if 131 125 (fun x => decide (x = 0)))) := lk_if_eq (off := 9) (by decide +kernel) rfl
theorem k_94_125 (L : Nat) (xs : Nat → Int32) : ll_OK1 cX8_spellNode RX8 none false ll_mN ll_mR ll_mK ll_cnt L xs false 125 (.inl (lo_aload 126 3)) := lk_aload_n (k := 3) (by decide +kernel) rfl
theorem k_94_126 (L : Nat) (xs : Nat → Int32) : ll_OK1 cX8_spellNode RX8 none false ll_mN ll_mR ll_mK ll_cnt L xs false 126 (.inl (lo_push 128 (.int 41))) := lk_bipush (n := 41) (by decide +kernel) (by decide)
theorem k_94_128 (L : Nat) (xs : Nat → Int32) : ll_OK1 cX8_spellNode RX8 none false ll_mN ll_mR ll_mK ll_cnt L xs false 128 (.inr (.inl (72, 2, 131))) := ⟨rfl, by decide, by rw [mN_72, mK_72, mR_72]; exact lj_v 76 1 7 (RX7, TX7, 2) (by decide +kernel) tb_385 tb_225 tb_226 rfl rfl rfl rfl (by decide +kernel)⟩
theorem k_94_131 (L : Nat) (xs : Nat → Int32) : ll_OK1 cX8_spellNode RX8 none false ll_mN ll_mR ll_mK ll_cnt L xs false 131 (.inr (.inr 0)) := ⟨fun _ => ⟨(by decide +kernel), rfl⟩, (fun h => by cases h), fun h => by cases h⟩
theorem ok_94 (L : Nat) (xs : Nat → Int32) : ∀ q ∈ cd_94, ll_OK1 cX8_spellNode RX8 none false ll_mN ll_mR ll_mK ll_cnt L xs false q.1 q.2 :=
  List.forall_mem_cons.mpr ⟨k_94_0 L xs, List.forall_mem_cons.mpr ⟨k_94_2 L xs, List.forall_mem_cons.mpr ⟨k_94_4 L xs, List.forall_mem_cons.mpr ⟨k_94_7 L xs, List.forall_mem_cons.mpr ⟨k_94_8 L xs, List.forall_mem_cons.mpr ⟨k_94_9 L xs, List.forall_mem_cons.mpr ⟨k_94_10 L xs, List.forall_mem_cons.mpr ⟨k_94_13 L xs, List.forall_mem_cons.mpr ⟨k_94_15 L xs, List.forall_mem_cons.mpr ⟨k_94_17 L xs, List.forall_mem_cons.mpr ⟨k_94_20 L xs, List.forall_mem_cons.mpr ⟨k_94_21 L xs, List.forall_mem_cons.mpr ⟨k_94_22 L xs, List.forall_mem_cons.mpr ⟨k_94_23 L xs, List.forall_mem_cons.mpr ⟨k_94_26 L xs, List.forall_mem_cons.mpr ⟨k_94_28 L xs, List.forall_mem_cons.mpr ⟨k_94_29 L xs, List.forall_mem_cons.mpr ⟨k_94_30 L xs, List.forall_mem_cons.mpr ⟨k_94_33 L xs, List.forall_mem_cons.mpr ⟨k_94_35 L xs, List.forall_mem_cons.mpr ⟨k_94_36 L xs, List.forall_mem_cons.mpr ⟨k_94_37 L xs, List.forall_mem_cons.mpr ⟨k_94_38 L xs, List.forall_mem_cons.mpr ⟨k_94_39 L xs, List.forall_mem_cons.mpr ⟨k_94_42 L xs, List.forall_mem_cons.mpr ⟨k_94_45 L xs, List.forall_mem_cons.mpr ⟨k_94_47 L xs, List.forall_mem_cons.mpr ⟨k_94_48 L xs, List.forall_mem_cons.mpr ⟨k_94_51 L xs, List.forall_mem_cons.mpr ⟨k_94_52 L xs, List.forall_mem_cons.mpr ⟨k_94_53 L xs, List.forall_mem_cons.mpr ⟨k_94_54 L xs, List.forall_mem_cons.mpr ⟨k_94_55 L xs, List.forall_mem_cons.mpr ⟨k_94_58 L xs, List.forall_mem_cons.mpr ⟨k_94_59 L xs, List.forall_mem_cons.mpr ⟨k_94_60 L xs, List.forall_mem_cons.mpr ⟨k_94_62 L xs, List.forall_mem_cons.mpr ⟨k_94_63 L xs, List.forall_mem_cons.mpr ⟨k_94_64 L xs, List.forall_mem_cons.mpr ⟨k_94_67 L xs, List.forall_mem_cons.mpr ⟨k_94_68 L xs, List.forall_mem_cons.mpr ⟨k_94_70 L xs, List.forall_mem_cons.mpr ⟨k_94_73 L xs, List.forall_mem_cons.mpr ⟨k_94_76 L xs, List.forall_mem_cons.mpr ⟨k_94_77 L xs, List.forall_mem_cons.mpr ⟨k_94_78 L xs, List.forall_mem_cons.mpr ⟨k_94_81 L xs, List.forall_mem_cons.mpr ⟨k_94_83 L xs, List.forall_mem_cons.mpr ⟨k_94_84 L xs, List.forall_mem_cons.mpr ⟨k_94_87 L xs, List.forall_mem_cons.mpr ⟨k_94_88 L xs, List.forall_mem_cons.mpr ⟨k_94_89 L xs, List.forall_mem_cons.mpr ⟨k_94_92 L xs, List.forall_mem_cons.mpr ⟨k_94_93 L xs, List.forall_mem_cons.mpr ⟨k_94_96 L xs, List.forall_mem_cons.mpr ⟨k_94_97 L xs, List.forall_mem_cons.mpr ⟨k_94_99 L xs, List.forall_mem_cons.mpr ⟨k_94_101 L xs, List.forall_mem_cons.mpr ⟨k_94_104 L xs, List.forall_mem_cons.mpr ⟨k_94_105 L xs, List.forall_mem_cons.mpr ⟨k_94_107 L xs, List.forall_mem_cons.mpr ⟨k_94_110 L xs, List.forall_mem_cons.mpr ⟨k_94_111 L xs, List.forall_mem_cons.mpr ⟨k_94_112 L xs, List.forall_mem_cons.mpr ⟨k_94_114 L xs, List.forall_mem_cons.mpr ⟨k_94_115 L xs, List.forall_mem_cons.mpr ⟨k_94_117 L xs, List.forall_mem_cons.mpr ⟨k_94_120 L xs, List.forall_mem_cons.mpr ⟨k_94_122 L xs, List.forall_mem_cons.mpr ⟨k_94_125 L xs, List.forall_mem_cons.mpr ⟨k_94_126 L xs, List.forall_mem_cons.mpr ⟨k_94_128 L xs, List.forall_mem_cons.mpr ⟨k_94_131 L xs, fun _ h => absurd h List.not_mem_nil⟩⟩⟩⟩⟩⟩⟩⟩⟩⟩⟩⟩⟩⟩⟩⟩⟩⟩⟩⟩⟩⟩⟩⟩⟩⟩⟩⟩⟩⟩⟩⟩⟩⟩⟩⟩⟩⟩⟩⟩⟩⟩⟩⟩⟩⟩⟩⟩⟩⟩⟩⟩⟩⟩⟩⟩⟩⟩⟩⟩⟩⟩⟩⟩⟩⟩⟩⟩⟩⟩⟩⟩⟩
/-- InclusionProver$Tree.spellChildren.(IILInclusionProver$Text;I)V -/
def cd_95 : List (Nat × ll_O) := [
  (0, .inl (lo_push 1 (.int 0))),
  (1, .inl (lo_istore 3 5)),
  (3, .inl (lo_iload 5 5)),
  (5, .inl (lo_aload 6 0)),
  (6, .inl (lo_iload 7 1)),
  (7, .inr (.inl (82, 2, 10))),
  (10, .inl (lo_cmp 61 13 (fun x y => decide (y ≤ x)))),
  (13, .inl (lo_iload 14 2)),
  (14, .inl (lo_push 15 (.int 1))),
  (15, .inl (lo_cmp 29 18 (fun x y => decide (¬ x = y)))),
  (18, .inl (lo_iload 20 5)),
  (20, .inl (lo_if 29 23 (fun x => decide (x ≤ 0)))),
  (23, .inl (lo_aload 24 3)),
  (24, .inl (lo_push 26 (.int 43))),
  (26, .inr (.inl (72, 2, 29))),
  (29, .inl (lo_aload 30 0)),
  (30, .inl (lo_aload 31 0)),
  (31, .inl (lo_iload 32 1)),
  (32, .inl (lo_iload 34 5)),
  (34, .inr (.inl (83, 3, 37))),
  (37, .inl (lo_iload 38 2)),
  (38, .inl (lo_push 39 (.int 1))),
  (39, .inl (lo_cmp 46 42 (fun x y => decide (¬ x = y)))),
  (42, .inl (lo_push 43 (.int 0))),
  (43, .inl (lo_goto 47)),
  (46, .inl (lo_push 47 (.int 1))),
  (47, .inl (lo_aload 48 3)),
  (48, .inl (lo_iload 50 4)),
  (50, .inl (lo_push 51 (.int 1))),
  (51, .inl (lo_bin 52 (fun x y => x + y))),
  (52, .inr (.inl (94, 5, 55))),
  (55, .inl (lo_iinc 58 5 1)),
  (58, .inl (lo_goto 3)),
  (61, .inr (.inr 0))]
theorem k_95_0 (L : Nat) (xs : Nat → Int32) : ll_OK1 cX8_spellChildren RX8 none false ll_mN ll_mR ll_mK ll_cnt L xs false 0 (.inl (lo_push 1 (.int 0))) := lk_iconst (n := 0) (by decide +kernel) (by decide)
theorem k_95_1 (L : Nat) (xs : Nat → Int32) : ll_OK1 cX8_spellChildren RX8 none false ll_mN ll_mR ll_mK ll_cnt L xs false 1 (.inl (lo_istore 3 5)) := lk_istore (by decide +kernel)
theorem k_95_3 (L : Nat) (xs : Nat → Int32) : ll_OK1 cX8_spellChildren RX8 none false ll_mN ll_mR ll_mK ll_cnt L xs false 3 (.inl (lo_iload 5 5)) := lk_iload (by decide +kernel)
theorem k_95_5 (L : Nat) (xs : Nat → Int32) : ll_OK1 cX8_spellChildren RX8 none false ll_mN ll_mR ll_mK ll_cnt L xs false 5 (.inl (lo_aload 6 0)) := lk_aload_n (k := 0) (by decide +kernel) rfl
theorem k_95_6 (L : Nat) (xs : Nat → Int32) : ll_OK1 cX8_spellChildren RX8 none false ll_mN ll_mR ll_mK ll_cnt L xs false 6 (.inl (lo_iload 7 1)) := lk_iload_n (k := 1) (by decide +kernel) rfl
theorem k_95_7 (L : Nat) (xs : Nat → Int32) : ll_OK1 cX8_spellChildren RX8 none false ll_mN ll_mR ll_mK ll_cnt L xs false 7 (.inr (.inl (82, 2, 10))) := ⟨rfl, by decide, by rw [mN_82, mK_82, mR_82]; exact lj_v 50 1 8 (RX8, TX8, 10) (by decide +kernel) tb_368 tb_331 tb_332 rfl rfl rfl rfl (by decide +kernel)⟩
theorem k_95_10 (L : Nat) (xs : Nat → Int32) : ll_OK1 cX8_spellChildren RX8 none false ll_mN ll_mR ll_mK ll_cnt L xs false 10 (.inl (lo_cmp 61 13 (fun x y => decide (y ≤ x)))) := lk_icmp_ge (off := 51) (by decide +kernel) rfl
theorem k_95_13 (L : Nat) (xs : Nat → Int32) : ll_OK1 cX8_spellChildren RX8 none false ll_mN ll_mR ll_mK ll_cnt L xs false 13 (.inl (lo_iload 14 2)) := lk_iload_n (k := 2) (by decide +kernel) rfl
theorem k_95_14 (L : Nat) (xs : Nat → Int32) : ll_OK1 cX8_spellChildren RX8 none false ll_mN ll_mR ll_mK ll_cnt L xs false 14 (.inl (lo_push 15 (.int 1))) := lk_iconst (n := 1) (by decide +kernel) (by decide)
theorem k_95_15 (L : Nat) (xs : Nat → Int32) : ll_OK1 cX8_spellChildren RX8 none false ll_mN ll_mR ll_mK ll_cnt L xs false 15 (.inl (lo_cmp 29 18 (fun x y => decide (¬ x = y)))) := lk_icmp_ne (off := 14) (by decide +kernel) rfl
theorem k_95_18 (L : Nat) (xs : Nat → Int32) : ll_OK1 cX8_spellChildren RX8 none false ll_mN ll_mR ll_mK ll_cnt L xs false 18 (.inl (lo_iload 20 5)) := lk_iload (by decide +kernel)
theorem k_95_20 (L : Nat) (xs : Nat → Int32) : ll_OK1 cX8_spellChildren RX8 none false ll_mN ll_mR ll_mK ll_cnt L xs false 20 (.inl (lo_if 29 23 (fun x => decide (x ≤ 0)))) := lk_if_le (off := 9) (by decide +kernel) rfl
theorem k_95_23 (L : Nat) (xs : Nat → Int32) : ll_OK1 cX8_spellChildren RX8 none false ll_mN ll_mR ll_mK ll_cnt L xs false 23 (.inl (lo_aload 24 3)) := lk_aload_n (k := 3) (by decide +kernel) rfl
theorem k_95_24 (L : Nat) (xs : Nat → Int32) : ll_OK1 cX8_spellChildren RX8 none false ll_mN ll_mR ll_mK ll_cnt L xs false 24 (.inl (lo_push 26 (.int 43))) := lk_bipush (n := 43) (by decide +kernel) (by decide)
theorem k_95_26 (L : Nat) (xs : Nat → Int32) : ll_OK1 cX8_spellChildren RX8 none false ll_mN ll_mR ll_mK ll_cnt L xs false 26 (.inr (.inl (72, 2, 29))) := ⟨rfl, by decide, by rw [mN_72, mK_72, mR_72]; exact lj_v 76 1 7 (RX7, TX7, 2) (by decide +kernel) tb_385 tb_225 tb_226 rfl rfl rfl rfl (by decide +kernel)⟩
theorem k_95_29 (L : Nat) (xs : Nat → Int32) : ll_OK1 cX8_spellChildren RX8 none false ll_mN ll_mR ll_mK ll_cnt L xs false 29 (.inl (lo_aload 30 0)) := lk_aload_n (k := 0) (by decide +kernel) rfl
theorem k_95_30 (L : Nat) (xs : Nat → Int32) : ll_OK1 cX8_spellChildren RX8 none false ll_mN ll_mR ll_mK ll_cnt L xs false 30 (.inl (lo_aload 31 0)) := lk_aload_n (k := 0) (by decide +kernel) rfl
theorem k_95_31 (L : Nat) (xs : Nat → Int32) : ll_OK1 cX8_spellChildren RX8 none false ll_mN ll_mR ll_mK ll_cnt L xs false 31 (.inl (lo_iload 32 1)) := lk_iload_n (k := 1) (by decide +kernel) rfl
theorem k_95_32 (L : Nat) (xs : Nat → Int32) : ll_OK1 cX8_spellChildren RX8 none false ll_mN ll_mR ll_mK ll_cnt L xs false 32 (.inl (lo_iload 34 5)) := lk_iload (by decide +kernel)
theorem k_95_34 (L : Nat) (xs : Nat → Int32) : ll_OK1 cX8_spellChildren RX8 none false ll_mN ll_mR ll_mK ll_cnt L xs false 34 (.inr (.inl (83, 3, 37))) := ⟨rfl, by decide, by rw [mN_83, mK_83, mR_83]; exact lj_v 53 2 8 (RX8, TX8, 10) (by decide +kernel) tb_369 tb_334 tb_335 rfl rfl rfl rfl (by decide +kernel)⟩
theorem k_95_37 (L : Nat) (xs : Nat → Int32) : ll_OK1 cX8_spellChildren RX8 none false ll_mN ll_mR ll_mK ll_cnt L xs false 37 (.inl (lo_iload 38 2)) := lk_iload_n (k := 2) (by decide +kernel) rfl
theorem k_95_38 (L : Nat) (xs : Nat → Int32) : ll_OK1 cX8_spellChildren RX8 none false ll_mN ll_mR ll_mK ll_cnt L xs false 38 (.inl (lo_push 39 (.int 1))) := lk_iconst (n := 1) (by decide +kernel) (by decide)
theorem k_95_39 (L : Nat) (xs : Nat → Int32) : ll_OK1 cX8_spellChildren RX8 none false ll_mN ll_mR ll_mK ll_cnt L xs false 39 (.inl (lo_cmp 46 42 (fun x y => decide (¬ x = y)))) := lk_icmp_ne (off := 7) (by decide +kernel) rfl
theorem k_95_42 (L : Nat) (xs : Nat → Int32) : ll_OK1 cX8_spellChildren RX8 none false ll_mN ll_mR ll_mK ll_cnt L xs false 42 (.inl (lo_push 43 (.int 0))) := lk_iconst (n := 0) (by decide +kernel) (by decide)
theorem k_95_43 (L : Nat) (xs : Nat → Int32) : ll_OK1 cX8_spellChildren RX8 none false ll_mN ll_mR ll_mK ll_cnt L xs false 43 (.inl (lo_goto 47)) := lk_goto (off := 4) (by decide +kernel) rfl
theorem k_95_46 (L : Nat) (xs : Nat → Int32) : ll_OK1 cX8_spellChildren RX8 none false ll_mN ll_mR ll_mK ll_cnt L xs false 46 (.inl (lo_push 47 (.int 1))) := lk_iconst (n := 1) (by decide +kernel) (by decide)
theorem k_95_47 (L : Nat) (xs : Nat → Int32) : ll_OK1 cX8_spellChildren RX8 none false ll_mN ll_mR ll_mK ll_cnt L xs false 47 (.inl (lo_aload 48 3)) := lk_aload_n (k := 3) (by decide +kernel) rfl
theorem k_95_48 (L : Nat) (xs : Nat → Int32) : ll_OK1 cX8_spellChildren RX8 none false ll_mN ll_mR ll_mK ll_cnt L xs false 48 (.inl (lo_iload 50 4)) := lk_iload (by decide +kernel)
theorem k_95_50 (L : Nat) (xs : Nat → Int32) : ll_OK1 cX8_spellChildren RX8 none false ll_mN ll_mR ll_mK ll_cnt L xs false 50 (.inl (lo_push 51 (.int 1))) := lk_iconst (n := 1) (by decide +kernel) (by decide)
theorem k_95_51 (L : Nat) (xs : Nat → Int32) : ll_OK1 cX8_spellChildren RX8 none false ll_mN ll_mR ll_mK ll_cnt L xs false 51 (.inl (lo_bin 52 (fun x y => x + y))) := lk_iadd (by decide +kernel)
theorem k_95_52 (L : Nat) (xs : Nat → Int32) : ll_OK1 cX8_spellChildren RX8 none false ll_mN ll_mR ll_mK ll_cnt L xs false 52 (.inr (.inl (94, 5, 55))) := ⟨rfl, by decide, by rw [mN_94, mK_94, mR_94]; exact lj_v 72 4 8 (RX8, TX8, 10) (by decide +kernel) tb_382 tb_383 tb_384 rfl rfl rfl rfl (by decide +kernel)⟩
theorem k_95_55 (L : Nat) (xs : Nat → Int32) : ll_OK1 cX8_spellChildren RX8 none false ll_mN ll_mR ll_mK ll_cnt L xs false 55 (.inl (lo_iinc 58 5 1)) := lk_iinc (n := 1) (by decide +kernel) (by decide)
theorem k_95_58 (L : Nat) (xs : Nat → Int32) : ll_OK1 cX8_spellChildren RX8 none false ll_mN ll_mR ll_mK ll_cnt L xs false 58 (.inl (lo_goto 3)) := lk_goto (off := (-55)) (by decide +kernel) rfl
theorem k_95_61 (L : Nat) (xs : Nat → Int32) : ll_OK1 cX8_spellChildren RX8 none false ll_mN ll_mR ll_mK ll_cnt L xs false 61 (.inr (.inr 0)) := ⟨fun _ => ⟨(by decide +kernel), rfl⟩, (fun h => by cases h), fun h => by cases h⟩
theorem ok_95 (L : Nat) (xs : Nat → Int32) : ∀ q ∈ cd_95, ll_OK1 cX8_spellChildren RX8 none false ll_mN ll_mR ll_mK ll_cnt L xs false q.1 q.2 :=
  List.forall_mem_cons.mpr ⟨k_95_0 L xs, List.forall_mem_cons.mpr ⟨k_95_1 L xs, List.forall_mem_cons.mpr ⟨k_95_3 L xs, List.forall_mem_cons.mpr ⟨k_95_5 L xs, List.forall_mem_cons.mpr ⟨k_95_6 L xs, List.forall_mem_cons.mpr ⟨k_95_7 L xs, List.forall_mem_cons.mpr ⟨k_95_10 L xs, List.forall_mem_cons.mpr ⟨k_95_13 L xs, List.forall_mem_cons.mpr ⟨k_95_14 L xs, List.forall_mem_cons.mpr ⟨k_95_15 L xs, List.forall_mem_cons.mpr ⟨k_95_18 L xs, List.forall_mem_cons.mpr ⟨k_95_20 L xs, List.forall_mem_cons.mpr ⟨k_95_23 L xs, List.forall_mem_cons.mpr ⟨k_95_24 L xs, List.forall_mem_cons.mpr ⟨k_95_26 L xs, List.forall_mem_cons.mpr ⟨k_95_29 L xs, List.forall_mem_cons.mpr ⟨k_95_30 L xs, List.forall_mem_cons.mpr ⟨k_95_31 L xs, List.forall_mem_cons.mpr ⟨k_95_32 L xs, List.forall_mem_cons.mpr ⟨k_95_34 L xs, List.forall_mem_cons.mpr ⟨k_95_37 L xs, List.forall_mem_cons.mpr ⟨k_95_38 L xs, List.forall_mem_cons.mpr ⟨k_95_39 L xs, List.forall_mem_cons.mpr ⟨k_95_42 L xs, List.forall_mem_cons.mpr ⟨k_95_43 L xs, List.forall_mem_cons.mpr ⟨k_95_46 L xs, List.forall_mem_cons.mpr ⟨k_95_47 L xs, List.forall_mem_cons.mpr ⟨k_95_48 L xs, List.forall_mem_cons.mpr ⟨k_95_50 L xs, List.forall_mem_cons.mpr ⟨k_95_51 L xs, List.forall_mem_cons.mpr ⟨k_95_52 L xs, List.forall_mem_cons.mpr ⟨k_95_55 L xs, List.forall_mem_cons.mpr ⟨k_95_58 L xs, List.forall_mem_cons.mpr ⟨k_95_61 L xs, fun _ h => absurd h List.not_mem_nil⟩⟩⟩⟩⟩⟩⟩⟩⟩⟩⟩⟩⟩⟩⟩⟩⟩⟩⟩⟩⟩⟩⟩⟩⟩⟩⟩⟩⟩⟩⟩⟩⟩⟩
/-- InclusionProver$Tree.push.(I)V -/
def cd_96 : List (Nat × ll_O) := [
  (0, .inl (lo_aload 1 0)),
  (1, .inl (lo_getf 4 8 9)),
  (4, .inl (lo_aload 5 0)),
  (5, .inl (lo_getf 8 8 6)),
  (8, .inl (lo_alen 9)),
  (9, .inl (lo_cmp 32 12 (fun x y => decide (y ≤ x)))),
  (12, .inl (lo_aload 13 0)),
  (13, .inl (lo_getf 16 8 6)),
  (16, .inl (lo_aload 17 0)),
  (17, .inl (lo_getf 20 8 9)),
  (20, .inl (lo_iload 21 1)),
  (21, .inl (lo_ast 22 0)),
  (22, .inl (lo_aload 23 0)),
  (23, .inl (lo_dup 24)),
  (24, .inl (lo_getf 27 8 9)),
  (27, .inl (lo_push 28 (.int 1))),
  (28, .inl (lo_bin 29 (fun x y => x + y))),
  (29, .inl (lo_putf 32 8 9 0)),
  (32, .inr (.inr 0))]
theorem k_96_0 (L : Nat) (xs : Nat → Int32) : ll_OK1 cX8_push RX8 none false ll_mN ll_mR ll_mK ll_cnt L xs false 0 (.inl (lo_aload 1 0)) := lk_aload_n (k := 0) (by decide +kernel) rfl
theorem k_96_1 (L : Nat) (xs : Nat → Int32) : ll_OK1 cX8_push RX8 none false ll_mN ll_mR ll_mK ll_cnt L xs false 1 (.inl (lo_getf 4 8 9)) := lk_getf (ix := 40) (ci := 8) (k := 9) (C := RX8) (T := TX8) (N := 10) (by decide +kernel) rfl in_8 (by decide) tb_365
theorem k_96_4 (L : Nat) (xs : Nat → Int32) : ll_OK1 cX8_push RX8 none false ll_mN ll_mR ll_mK ll_cnt L xs false 4 (.inl (lo_aload 5 0)) := lk_aload_n (k := 0) (by decide +kernel) rfl
theorem k_96_5 (L : Nat) (xs : Nat → Int32) : ll_OK1 cX8_push RX8 none false ll_mN ll_mR ll_mK ll_cnt L xs false 5 (.inl (lo_getf 8 8 6)) := lk_getf (ix := 30) (ci := 8) (k := 6) (C := RX8) (T := TX8) (N := 10) (by decide +kernel) rfl in_8 (by decide) tb_362
theorem k_96_8 (L : Nat) (xs : Nat → Int32) : ll_OK1 cX8_push RX8 none false ll_mN ll_mR ll_mK ll_cnt L xs false 8 (.inl (lo_alen 9)) := lk_alen (by decide +kernel)
theorem k_96_9 (L : Nat) (xs : Nat → Int32) : ll_OK1 cX8_push RX8 none false ll_mN ll_mR ll_mK ll_cnt L xs false 9 (.inl (lo_cmp 32 12 (fun x y => decide (y ≤ x)))) := lk_icmp_ge (off := 23) (by decide +kernel) rfl
theorem k_96_12 (L : Nat) (xs : Nat → Int32) : ll_OK1 cX8_push RX8 none false ll_mN ll_mR ll_mK ll_cnt L xs false 12 (.inl (lo_aload 13 0)) := lk_aload_n (k := 0) (by decide +kernel) rfl
theorem k_96_13 (L : Nat) (xs : Nat → Int32) : ll_OK1 cX8_push RX8 none false ll_mN ll_mR ll_mK ll_cnt L xs false 13 (.inl (lo_getf 16 8 6)) := lk_getf (ix := 30) (ci := 8) (k := 6) (C := RX8) (T := TX8) (N := 10) (by decide +kernel) rfl in_8 (by decide) tb_362
theorem k_96_16 (L : Nat) (xs : Nat → Int32) : ll_OK1 cX8_push RX8 none false ll_mN ll_mR ll_mK ll_cnt L xs false 16 (.inl (lo_aload 17 0)) := lk_aload_n (k := 0) (by decide +kernel) rfl
theorem k_96_17 (L : Nat) (xs : Nat → Int32) : ll_OK1 cX8_push RX8 none false ll_mN ll_mR ll_mK ll_cnt L xs false 17 (.inl (lo_getf 20 8 9)) := lk_getf (ix := 40) (ci := 8) (k := 9) (C := RX8) (T := TX8) (N := 10) (by decide +kernel) rfl in_8 (by decide) tb_365
theorem k_96_20 (L : Nat) (xs : Nat → Int32) : ll_OK1 cX8_push RX8 none false ll_mN ll_mR ll_mK ll_cnt L xs false 20 (.inl (lo_iload 21 1)) := lk_iload_n (k := 1) (by decide +kernel) rfl
theorem k_96_21 (L : Nat) (xs : Nat → Int32) : ll_OK1 cX8_push RX8 none false ll_mN ll_mR ll_mK ll_cnt L xs false 21 (.inl (lo_ast 22 0)) := lk_iast (by decide +kernel)
theorem k_96_22 (L : Nat) (xs : Nat → Int32) : ll_OK1 cX8_push RX8 none false ll_mN ll_mR ll_mK ll_cnt L xs false 22 (.inl (lo_aload 23 0)) := lk_aload_n (k := 0) (by decide +kernel) rfl
theorem k_96_23 (L : Nat) (xs : Nat → Int32) : ll_OK1 cX8_push RX8 none false ll_mN ll_mR ll_mK ll_cnt L xs false 23 (.inl (lo_dup 24)) := lk_dup (by decide +kernel)
theorem k_96_24 (L : Nat) (xs : Nat → Int32) : ll_OK1 cX8_push RX8 none false ll_mN ll_mR ll_mK ll_cnt L xs false 24 (.inl (lo_getf 27 8 9)) := lk_getf (ix := 40) (ci := 8) (k := 9) (C := RX8) (T := TX8) (N := 10) (by decide +kernel) rfl in_8 (by decide) tb_365
theorem k_96_27 (L : Nat) (xs : Nat → Int32) : ll_OK1 cX8_push RX8 none false ll_mN ll_mR ll_mK ll_cnt L xs false 27 (.inl (lo_push 28 (.int 1))) := lk_iconst (n := 1) (by decide +kernel) (by decide)
theorem k_96_28 (L : Nat) (xs : Nat → Int32) : ll_OK1 cX8_push RX8 none false ll_mN ll_mR ll_mK ll_cnt L xs false 28 (.inl (lo_bin 29 (fun x y => x + y))) := lk_iadd (by decide +kernel)
theorem k_96_29 (L : Nat) (xs : Nat → Int32) : ll_OK1 cX8_push RX8 none false ll_mN ll_mR ll_mK ll_cnt L xs false 29 (.inl (lo_putf 32 8 9 0)) := lk_putf (ix := 40) (ci := 8) (k := 9) (C := RX8) (T := TX8) (N := 10) (ty0 := tyX8) (by decide +kernel) rfl in_8 tyX8_ok nmX8 (by decide) tb_365 (fun B adr v w h1 h2 => ll_fit_int (B := B) (adr := adr) h1 h2) (Or.inl rfl)
theorem k_96_32 (L : Nat) (xs : Nat → Int32) : ll_OK1 cX8_push RX8 none false ll_mN ll_mR ll_mK ll_cnt L xs false 32 (.inr (.inr 0)) := ⟨fun _ => ⟨(by decide +kernel), rfl⟩, (fun h => by cases h), fun h => by cases h⟩
theorem ok_96 (L : Nat) (xs : Nat → Int32) : ∀ q ∈ cd_96, ll_OK1 cX8_push RX8 none false ll_mN ll_mR ll_mK ll_cnt L xs false q.1 q.2 :=
  List.forall_mem_cons.mpr ⟨k_96_0 L xs, List.forall_mem_cons.mpr ⟨k_96_1 L xs, List.forall_mem_cons.mpr ⟨k_96_4 L xs, List.forall_mem_cons.mpr ⟨k_96_5 L xs, List.forall_mem_cons.mpr ⟨k_96_8 L xs, List.forall_mem_cons.mpr ⟨k_96_9 L xs, List.forall_mem_cons.mpr ⟨k_96_12 L xs, List.forall_mem_cons.mpr ⟨k_96_13 L xs, List.forall_mem_cons.mpr ⟨k_96_16 L xs, List.forall_mem_cons.mpr ⟨k_96_17 L xs, List.forall_mem_cons.mpr ⟨k_96_20 L xs, List.forall_mem_cons.mpr ⟨k_96_21 L xs, List.forall_mem_cons.mpr ⟨k_96_22 L xs, List.forall_mem_cons.mpr ⟨k_96_23 L xs, List.forall_mem_cons.mpr ⟨k_96_24 L xs, List.forall_mem_cons.mpr ⟨k_96_27 L xs, List.forall_mem_cons.mpr ⟨k_96_28 L xs, List.forall_mem_cons.mpr ⟨k_96_29 L xs, List.forall_mem_cons.mpr ⟨k_96_32 L xs, fun _ h => absurd h List.not_mem_nil⟩⟩⟩⟩⟩⟩⟩⟩⟩⟩⟩⟩⟩⟩⟩⟩⟩⟩⟩
/-- InclusionProver$Tree.addOnce.(II)V -/
def cd_97 : List (Nat × ll_O) := [
  (0, .inl (lo_iload 1 1)),
  (1, .inl (lo_istore 2 3)),
  (2, .inl (lo_iload 3 3)),
  (3, .inl (lo_aload 4 0)),
  (4, .inl (lo_getf 7 8 9)),
  (7, .inl (lo_cmp 27 10 (fun x y => decide (y ≤ x)))),
  (10, .inl (lo_aload 11 0)),
  (11, .inl (lo_getf 14 8 6)),
  (14, .inl (lo_iload 15 3)),
  (15, .inl (lo_ald 16 0)),
  (16, .inl (lo_iload 17 2)),
  (17, .inl (lo_cmp 21 20 (fun x y => decide (¬ x = y)))),
  (20, .inr (.inr 0)),
  (21, .inl (lo_iinc 24 3 1)),
  (24, .inl (lo_goto 2)),
  (27, .inl (lo_aload 28 0)),
  (28, .inl (lo_iload 29 2)),
  (29, .inr (.inl (96, 2, 32))),
  (32, .inr (.inr 0))]
theorem k_97_0 (L : Nat) (xs : Nat → Int32) : ll_OK1 cX8_addOnce RX8 none false ll_mN ll_mR ll_mK ll_cnt L xs false 0 (.inl (lo_iload 1 1)) := lk_iload_n (k := 1) (by decide +kernel) rfl
theorem k_97_1 (L : Nat) (xs : Nat → Int32) : ll_OK1 cX8_addOnce RX8 none false ll_mN ll_mR ll_mK ll_cnt L xs false 1 (.inl (lo_istore 2 3)) := lk_istore_n (k := 3) (by decide +kernel) rfl
theorem k_97_2 (L : Nat) (xs : Nat → Int32) : ll_OK1 cX8_addOnce RX8 none false ll_mN ll_mR ll_mK ll_cnt L xs false 2 (.inl (lo_iload 3 3)) := lk_iload_n (k := 3) (by decide +kernel) rfl
theorem k_97_3 (L : Nat) (xs : Nat → Int32) : ll_OK1 cX8_addOnce RX8 none false ll_mN ll_mR ll_mK ll_cnt L xs false 3 (.inl (lo_aload 4 0)) := lk_aload_n (k := 0) (by decide +kernel) rfl
theorem k_97_4 (L : Nat) (xs : Nat → Int32) : ll_OK1 cX8_addOnce RX8 none false ll_mN ll_mR ll_mK ll_cnt L xs false 4 (.inl (lo_getf 7 8 9)) := lk_getf (ix := 40) (ci := 8) (k := 9) (C := RX8) (T := TX8) (N := 10) (by decide +kernel) rfl in_8 (by decide) tb_365
theorem k_97_7 (L : Nat) (xs : Nat → Int32) : ll_OK1 cX8_addOnce RX8 none false ll_mN ll_mR ll_mK ll_cnt L xs false 7 (.inl (lo_cmp 27 10 (fun x y => decide (y ≤ x)))) := lk_icmp_ge (off := 20) (by decide +kernel) rfl
theorem k_97_10 (L : Nat) (xs : Nat → Int32) : ll_OK1 cX8_addOnce RX8 none false ll_mN ll_mR ll_mK ll_cnt L xs false 10 (.inl (lo_aload 11 0)) := lk_aload_n (k := 0) (by decide +kernel) rfl
theorem k_97_11 (L : Nat) (xs : Nat → Int32) : ll_OK1 cX8_addOnce RX8 none false ll_mN ll_mR ll_mK ll_cnt L xs false 11 (.inl (lo_getf 14 8 6)) := lk_getf (ix := 30) (ci := 8) (k := 6) (C := RX8) (T := TX8) (N := 10) (by decide +kernel) rfl in_8 (by decide) tb_362
theorem k_97_14 (L : Nat) (xs : Nat → Int32) : ll_OK1 cX8_addOnce RX8 none false ll_mN ll_mR ll_mK ll_cnt L xs false 14 (.inl (lo_iload 15 3)) := lk_iload_n (k := 3) (by decide +kernel) rfl
theorem k_97_15 (L : Nat) (xs : Nat → Int32) : ll_OK1 cX8_addOnce RX8 none false ll_mN ll_mR ll_mK ll_cnt L xs false 15 (.inl (lo_ald 16 0)) := lk_iald (by decide +kernel)
theorem k_97_16 (L : Nat) (xs : Nat → Int32) : ll_OK1 cX8_addOnce RX8 none false ll_mN ll_mR ll_mK ll_cnt L xs false 16 (.inl (lo_iload 17 2)) := lk_iload_n (k := 2) (by decide +kernel) rfl
theorem k_97_17 (L : Nat) (xs : Nat → Int32) : ll_OK1 cX8_addOnce RX8 none false ll_mN ll_mR ll_mK ll_cnt L xs false 17 (.inl (lo_cmp 21 20 (fun x y => decide (¬ x = y)))) := lk_icmp_ne (off := 4) (by decide +kernel) rfl
theorem k_97_20 (L : Nat) (xs : Nat → Int32) : ll_OK1 cX8_addOnce RX8 none false ll_mN ll_mR ll_mK ll_cnt L xs false 20 (.inr (.inr 0)) := ⟨fun _ => ⟨(by decide +kernel), rfl⟩, (fun h => by cases h), fun h => by cases h⟩
theorem k_97_21 (L : Nat) (xs : Nat → Int32) : ll_OK1 cX8_addOnce RX8 none false ll_mN ll_mR ll_mK ll_cnt L xs false 21 (.inl (lo_iinc 24 3 1)) := lk_iinc (n := 1) (by decide +kernel) (by decide)
theorem k_97_24 (L : Nat) (xs : Nat → Int32) : ll_OK1 cX8_addOnce RX8 none false ll_mN ll_mR ll_mK ll_cnt L xs false 24 (.inl (lo_goto 2)) := lk_goto (off := (-22)) (by decide +kernel) rfl
theorem k_97_27 (L : Nat) (xs : Nat → Int32) : ll_OK1 cX8_addOnce RX8 none false ll_mN ll_mR ll_mK ll_cnt L xs false 27 (.inl (lo_aload 28 0)) := lk_aload_n (k := 0) (by decide +kernel) rfl
theorem k_97_28 (L : Nat) (xs : Nat → Int32) : ll_OK1 cX8_addOnce RX8 none false ll_mN ll_mR ll_mK ll_cnt L xs false 28 (.inl (lo_iload 29 2)) := lk_iload_n (k := 2) (by decide +kernel) rfl
theorem k_97_29 (L : Nat) (xs : Nat → Int32) : ll_OK1 cX8_addOnce RX8 none false ll_mN ll_mR ll_mK ll_cnt L xs false 29 (.inr (.inl (96, 2, 32))) := ⟨rfl, by decide, by rw [mN_96, mK_96, mR_96]; exact lj_v 61 1 8 (RX8, TX8, 10) (by decide +kernel) tb_373 tb_374 tb_375 rfl rfl rfl rfl (by decide +kernel)⟩
theorem k_97_32 (L : Nat) (xs : Nat → Int32) : ll_OK1 cX8_addOnce RX8 none false ll_mN ll_mR ll_mK ll_cnt L xs false 32 (.inr (.inr 0)) := ⟨fun _ => ⟨(by decide +kernel), rfl⟩, (fun h => by cases h), fun h => by cases h⟩
theorem ok_97 (L : Nat) (xs : Nat → Int32) : ∀ q ∈ cd_97, ll_OK1 cX8_addOnce RX8 none false ll_mN ll_mR ll_mK ll_cnt L xs false q.1 q.2 :=
  List.forall_mem_cons.mpr ⟨k_97_0 L xs, List.forall_mem_cons.mpr ⟨k_97_1 L xs, List.forall_mem_cons.mpr ⟨k_97_2 L xs, List.forall_mem_cons.mpr ⟨k_97_3 L xs, List.forall_mem_cons.mpr ⟨k_97_4 L xs, List.forall_mem_cons.mpr ⟨k_97_7 L xs, List.forall_mem_cons.mpr ⟨k_97_10 L xs, List.forall_mem_cons.mpr ⟨k_97_11 L xs, List.forall_mem_cons.mpr ⟨k_97_14 L xs, List.forall_mem_cons.mpr ⟨k_97_15 L xs, List.forall_mem_cons.mpr ⟨k_97_16 L xs, List.forall_mem_cons.mpr ⟨k_97_17 L xs, List.forall_mem_cons.mpr ⟨k_97_20 L xs, List.forall_mem_cons.mpr ⟨k_97_21 L xs, List.forall_mem_cons.mpr ⟨k_97_24 L xs, List.forall_mem_cons.mpr ⟨k_97_27 L xs, List.forall_mem_cons.mpr ⟨k_97_28 L xs, List.forall_mem_cons.mpr ⟨k_97_29 L xs, List.forall_mem_cons.mpr ⟨k_97_32 L xs, fun _ h => absurd h List.not_mem_nil⟩⟩⟩⟩⟩⟩⟩⟩⟩⟩⟩⟩⟩⟩⟩⟩⟩⟩⟩
/-- InclusionProver$Tree.close.(III)I -/
def cd_98 : List (Nat × ll_O) := [
  (0, .inl (lo_aload 1 0)),
  (1, .inl (lo_getf 4 8 9)),
  (4, .inl (lo_iload 5 2)),
  (5, .inl (lo_bin 6 (fun x y => x - y))),
  (6, .inl (lo_istore 8 4)),
  (8, .inl (lo_iload 10 4)),
  (10, .inl (lo_if 17 13 (fun x => decide (¬ x = 0)))),
  (13, .inl (lo_iload 14 3)),
  (14, .inl (lo_goto 38)),
  (17, .inl (lo_iload 19 4)),
  (19, .inl (lo_push 20 (.int 1))),
  (20, .inl (lo_cmp 32 23 (fun x y => decide (¬ x = y)))),
  (23, .inl (lo_aload 24 0)),
  (24, .inl (lo_getf 27 8 6)),
  (27, .inl (lo_iload 28 2)),
  (28, .inl (lo_ald 29 0)),
  (29, .inl (lo_goto 38)),
  (32, .inl (lo_aload 33 0)),
  (33, .inl (lo_iload 34 1)),
  (34, .inl (lo_iload 35 2)),
  (35, .inr (.inl (99, 3, 38))),
  (38, .inl (lo_istore 40 5)),
  (40, .inl (lo_aload 41 0)),
  (41, .inl (lo_iload 42 2)),
  (42, .inl (lo_putf 45 8 9 0)),
  (45, .inl (lo_iload 47 5)),
  (47, .inr (.inr 1))]
theorem k_98_0 (L : Nat) (xs : Nat → Int32) : ll_OK1 cX8_close RX8 (some .int) false ll_mN ll_mR ll_mK ll_cnt L xs false 0 (.inl (lo_aload 1 0)) := lk_aload_n (k := 0) (by decide +kernel) rfl
theorem k_98_1 (L : Nat) (xs : Nat → Int32) : ll_OK1 cX8_close RX8 (some .int) false ll_mN ll_mR ll_mK ll_cnt L xs false 1 (.inl (lo_getf 4 8 9)) := lk_getf (ix := 40) (ci := 8) (k := 9) (C := RX8) (T := TX8) (N := 10) (by decide +kernel) rfl in_8 (by decide) tb_365
theorem k_98_4 (L : Nat) (xs : Nat → Int32) : ll_OK1 cX8_close RX8 (some .int) false ll_mN ll_mR ll_mK ll_cnt L xs false 4 (.inl (lo_iload 5 2)) := lk_iload_n (k := 2) (by decide +kernel) rfl
theorem k_98_5 (L : Nat) (xs : Nat → Int32) : ll_OK1 cX8_close RX8 (some .int) false ll_mN ll_mR ll_mK ll_cnt L xs false 5 (.inl (lo_bin 6 (fun x y => x - y))) := lk_isub (by decide +kernel)
theorem k_98_6 (L : Nat) (xs : Nat → Int32) : ll_OK1 cX8_close RX8 (some .int) false ll_mN ll_mR ll_mK ll_cnt L xs false 6 (.inl (lo_istore 8 4)) := lk_istore (by decide +kernel)
theorem k_98_8 (L : Nat) (xs : Nat → Int32) : ll_OK1 cX8_close RX8 (some .int) false ll_mN ll_mR ll_mK ll_cnt L xs false 8 (.inl (lo_iload 10 4)) := lk_iload (by decide +kernel)
theorem k_98_10 (L : Nat) (xs : Nat → Int32) : ll_OK1 cX8_close RX8 (some .int) false ll_mN ll_mR ll_mK ll_cnt L xs false 10 (.inl (lo_if 17 13 (fun x => decide (¬ x = 0)))) := lk_if_ne (off := 7) (by decide +kernel) rfl
theorem k_98_13 (L : Nat) (xs : Nat → Int32) : ll_OK1 cX8_close RX8 (some .int) false ll_mN ll_mR ll_mK ll_cnt L xs false 13 (.inl (lo_iload 14 3)) := lk_iload_n (k := 3) (by decide +kernel) rfl
theorem k_98_14 (L : Nat) (xs : Nat → Int32) : ll_OK1 cX8_close RX8 (some .int) false ll_mN ll_mR ll_mK ll_cnt L xs false 14 (.inl (lo_goto 38)) := lk_goto (off := 24) (by decide +kernel) rfl
theorem k_98_17 (L : Nat) (xs : Nat → Int32) : ll_OK1 cX8_close RX8 (some .int) false ll_mN ll_mR ll_mK ll_cnt L xs false 17 (.inl (lo_iload 19 4)) := lk_iload (by decide +kernel)
theorem k_98_19 (L : Nat) (xs : Nat → Int32) : ll_OK1 cX8_close RX8 (some .int) false ll_mN ll_mR ll_mK ll_cnt L xs false 19 (.inl (lo_push 20 (.int 1))) := lk_iconst (n := 1) (by decide +kernel) (by decide)
theorem k_98_20 (L : Nat) (xs : Nat → Int32) : ll_OK1 cX8_close RX8 (some .int) false ll_mN ll_mR ll_mK ll_cnt L xs false 20 (.inl (lo_cmp 32 23 (fun x y => decide (¬ x = y)))) := lk_icmp_ne (off := 12) (by decide +kernel) rfl
theorem k_98_23 (L : Nat) (xs : Nat → Int32) : ll_OK1 cX8_close RX8 (some .int) false ll_mN ll_mR ll_mK ll_cnt L xs false 23 (.inl (lo_aload 24 0)) := lk_aload_n (k := 0) (by decide +kernel) rfl
theorem k_98_24 (L : Nat) (xs : Nat → Int32) : ll_OK1 cX8_close RX8 (some .int) false ll_mN ll_mR ll_mK ll_cnt L xs false 24 (.inl (lo_getf 27 8 6)) := lk_getf (ix := 30) (ci := 8) (k := 6) (C := RX8) (T := TX8) (N := 10) (by decide +kernel) rfl in_8 (by decide) tb_362
theorem k_98_27 (L : Nat) (xs : Nat → Int32) : ll_OK1 cX8_close RX8 (some .int) false ll_mN ll_mR ll_mK ll_cnt L xs false 27 (.inl (lo_iload 28 2)) := lk_iload_n (k := 2) (by decide +kernel) rfl
theorem k_98_28 (L : Nat) (xs : Nat → Int32) : ll_OK1 cX8_close RX8 (some .int) false ll_mN ll_mR ll_mK ll_cnt L xs false 28 (.inl (lo_ald 29 0)) := lk_iald (by decide +kernel)
theorem k_98_29 (L : Nat) (xs : Nat → Int32) : ll_OK1 cX8_close RX8 (some .int) false ll_mN ll_mR ll_mK ll_cnt L xs false 29 (.inl (lo_goto 38)) := lk_goto (off := 9) (by decide +kernel) rfl
theorem k_98_32 (L : Nat) (xs : Nat → Int32) : ll_OK1 cX8_close RX8 (some .int) false ll_mN ll_mR ll_mK ll_cnt L xs false 32 (.inl (lo_aload 33 0)) := lk_aload_n (k := 0) (by decide +kernel) rfl
theorem k_98_33 (L : Nat) (xs : Nat → Int32) : ll_OK1 cX8_close RX8 (some .int) false ll_mN ll_mR ll_mK ll_cnt L xs false 33 (.inl (lo_iload 34 1)) := lk_iload_n (k := 1) (by decide +kernel) rfl
theorem k_98_34 (L : Nat) (xs : Nat → Int32) : ll_OK1 cX8_close RX8 (some .int) false ll_mN ll_mR ll_mK ll_cnt L xs false 34 (.inl (lo_iload 35 2)) := lk_iload_n (k := 2) (by decide +kernel) rfl
theorem k_98_35 (L : Nat) (xs : Nat → Int32) : ll_OK1 cX8_close RX8 (some .int) false ll_mN ll_mR ll_mK ll_cnt L xs false 35 (.inr (.inl (99, 3, 38))) := ⟨rfl, by decide, by rw [mN_99, mK_99, mR_99]; exact lj_v 69 2 8 (RX8, TX8, 10) (by decide +kernel) tb_379 tb_380 tb_381 rfl rfl rfl rfl (by decide +kernel)⟩
theorem k_98_38 (L : Nat) (xs : Nat → Int32) : ll_OK1 cX8_close RX8 (some .int) false ll_mN ll_mR ll_mK ll_cnt L xs false 38 (.inl (lo_istore 40 5)) := lk_istore (by decide +kernel)
theorem k_98_40 (L : Nat) (xs : Nat → Int32) : ll_OK1 cX8_close RX8 (some .int) false ll_mN ll_mR ll_mK ll_cnt L xs false 40 (.inl (lo_aload 41 0)) := lk_aload_n (k := 0) (by decide +kernel) rfl
theorem k_98_41 (L : Nat) (xs : Nat → Int32) : ll_OK1 cX8_close RX8 (some .int) false ll_mN ll_mR ll_mK ll_cnt L xs false 41 (.inl (lo_iload 42 2)) := lk_iload_n (k := 2) (by decide +kernel) rfl
theorem k_98_42 (L : Nat) (xs : Nat → Int32) : ll_OK1 cX8_close RX8 (some .int) false ll_mN ll_mR ll_mK ll_cnt L xs false 42 (.inl (lo_putf 45 8 9 0)) := lk_putf (ix := 40) (ci := 8) (k := 9) (C := RX8) (T := TX8) (N := 10) (ty0 := tyX8) (by decide +kernel) rfl in_8 tyX8_ok nmX8 (by decide) tb_365 (fun B adr v w h1 h2 => ll_fit_int (B := B) (adr := adr) h1 h2) (Or.inl rfl)
theorem k_98_45 (L : Nat) (xs : Nat → Int32) : ll_OK1 cX8_close RX8 (some .int) false ll_mN ll_mR ll_mK ll_cnt L xs false 45 (.inl (lo_iload 47 5)) := lk_iload (by decide +kernel)
theorem k_98_47 (L : Nat) (xs : Nat → Int32) : ll_OK1 cX8_close RX8 (some .int) false ll_mN ll_mR ll_mK ll_cnt L xs false 47 (.inr (.inr 1)) := ⟨(fun h => by cases h), (fun _ => ⟨(by decide +kernel), rfl⟩), fun h => by cases h⟩
theorem ok_98 (L : Nat) (xs : Nat → Int32) : ∀ q ∈ cd_98, ll_OK1 cX8_close RX8 (some .int) false ll_mN ll_mR ll_mK ll_cnt L xs false q.1 q.2 :=
  List.forall_mem_cons.mpr ⟨k_98_0 L xs, List.forall_mem_cons.mpr ⟨k_98_1 L xs, List.forall_mem_cons.mpr ⟨k_98_4 L xs, List.forall_mem_cons.mpr ⟨k_98_5 L xs, List.forall_mem_cons.mpr ⟨k_98_6 L xs, List.forall_mem_cons.mpr ⟨k_98_8 L xs, List.forall_mem_cons.mpr ⟨k_98_10 L xs, List.forall_mem_cons.mpr ⟨k_98_13 L xs, List.forall_mem_cons.mpr ⟨k_98_14 L xs, List.forall_mem_cons.mpr ⟨k_98_17 L xs, List.forall_mem_cons.mpr ⟨k_98_19 L xs, List.forall_mem_cons.mpr ⟨k_98_20 L xs, List.forall_mem_cons.mpr ⟨k_98_23 L xs, List.forall_mem_cons.mpr ⟨k_98_24 L xs, List.forall_mem_cons.mpr ⟨k_98_27 L xs, List.forall_mem_cons.mpr ⟨k_98_28 L xs, List.forall_mem_cons.mpr ⟨k_98_29 L xs, List.forall_mem_cons.mpr ⟨k_98_32 L xs, List.forall_mem_cons.mpr ⟨k_98_33 L xs, List.forall_mem_cons.mpr ⟨k_98_34 L xs, List.forall_mem_cons.mpr ⟨k_98_35 L xs, List.forall_mem_cons.mpr ⟨k_98_38 L xs, List.forall_mem_cons.mpr ⟨k_98_40 L xs, List.forall_mem_cons.mpr ⟨k_98_41 L xs, List.forall_mem_cons.mpr ⟨k_98_42 L xs, List.forall_mem_cons.mpr ⟨k_98_45 L xs, List.forall_mem_cons.mpr ⟨k_98_47 L xs, fun _ h => absurd h List.not_mem_nil⟩⟩⟩⟩⟩⟩⟩⟩⟩⟩⟩⟩⟩⟩⟩⟩⟩⟩⟩⟩⟩⟩⟩⟩⟩⟩⟩
/-- InclusionProver$Tree.nodeOf.(II)I -/
def cd_99 : List (Nat × ll_O) := [
  (0, .inl (lo_push 1 (.int 5))),
  (1, .inl (lo_istore 2 3)),
  (2, .inl (lo_iload 3 3)),
  (3, .inl (lo_aload 4 0)),
  (4, .inl (lo_getf 7 8 7)),
  (7, .inl (lo_cmp 37 10 (fun x y => decide (y ≤ x)))),
  (10, .inl (lo_aload 11 0)),
  (11, .inl (lo_getf 14 8 0)),
  (14, .inl (lo_iload 15 3)),
  (15, .inl (lo_ald 16 0)),
  (16, .inl (lo_iload 17 1)),
  (17, .inl (lo_cmp 31 20 (fun x y => decide (¬ x = y)))),
  (20, .inl (lo_aload 21 0)),
  (21, .inl (lo_iload 22 3)),
  (22, .inl (lo_iload 23 2)),
  (23, .inr (.inl (100, 3, 26))),
  (26, .inl (lo_if 31 29 (fun x => decide (x = 0)))),
  (29, .inl (lo_iload 30 3)),
  (30, .inr (.inr 1)),
  (31, .inl (lo_iinc 34 3 1)),
  (34, .inl (lo_goto 2)),
  (37, .inl (lo_aload 38 0)),
  (38, .inl (lo_iload 39 1)),
  (39, .inl (lo_iload 40 2)),
  (40, .inr (.inl (101, 3, 43))),
  (43, .inr (.inr 1))]
theorem k_99_0 (L : Nat) (xs : Nat → Int32) : ll_OK1 cX8_nodeOf RX8 (some .int) false ll_mN ll_mR ll_mK ll_cnt L xs false 0 (.inl (lo_push 1 (.int 5))) := lk_iconst (n := 5) (by decide +kernel) (by decide)
theorem k_99_1 (L : Nat) (xs : Nat → Int32) : ll_OK1 cX8_nodeOf RX8 (some .int) false ll_mN ll_mR ll_mK ll_cnt L xs false 1 (.inl (lo_istore 2 3)) := lk_istore_n (k := 3) (by decide +kernel) rfl
theorem k_99_2 (L : Nat) (xs : Nat → Int32) : ll_OK1 cX8_nodeOf RX8 (some .int) false ll_mN ll_mR ll_mK ll_cnt L xs false 2 (.inl (lo_iload 3 3)) := lk_iload_n (k := 3) (by decide +kernel) rfl
theorem k_99_3 (L : Nat) (xs : Nat → Int32) : ll_OK1 cX8_nodeOf RX8 (some .int) false ll_mN ll_mR ll_mK ll_cnt L xs false 3 (.inl (lo_aload 4 0)) := lk_aload_n (k := 0) (by decide +kernel) rfl
theorem k_99_4 (L : Nat) (xs : Nat → Int32) : ll_OK1 cX8_nodeOf RX8 (some .int) false ll_mN ll_mR ll_mK ll_cnt L xs false 4 (.inl (lo_getf 7 8 7)) := lk_getf (ix := 33) (ci := 8) (k := 7) (C := RX8) (T := TX8) (N := 10) (by decide +kernel) rfl in_8 (by decide) tb_363
theorem k_99_7 (L : Nat) (xs : Nat → Int32) : ll_OK1 cX8_nodeOf RX8 (some .int) false ll_mN ll_mR ll_mK ll_cnt L xs false 7 (.inl (lo_cmp 37 10 (fun x y => decide (y ≤ x)))) := lk_icmp_ge (off := 30) (by decide +kernel) rfl
theorem k_99_10 (L : Nat) (xs : Nat → Int32) : ll_OK1 cX8_nodeOf RX8 (some .int) false ll_mN ll_mR ll_mK ll_cnt L xs false 10 (.inl (lo_aload 11 0)) := lk_aload_n (k := 0) (by decide +kernel) rfl
theorem k_99_11 (L : Nat) (xs : Nat → Int32) : ll_OK1 cX8_nodeOf RX8 (some .int) false ll_mN ll_mR ll_mK ll_cnt L xs false 11 (.inl (lo_getf 14 8 0)) := lk_getf (ix := 11) (ci := 8) (k := 0) (C := RX8) (T := TX8) (N := 10) (by decide +kernel) rfl in_8 (by decide) tb_356
theorem k_99_14 (L : Nat) (xs : Nat → Int32) : ll_OK1 cX8_nodeOf RX8 (some .int) false ll_mN ll_mR ll_mK ll_cnt L xs false 14 (.inl (lo_iload 15 3)) := lk_iload_n (k := 3) (by decide +kernel) rfl
theorem k_99_15 (L : Nat) (xs : Nat → Int32) : ll_OK1 cX8_nodeOf RX8 (some .int) false ll_mN ll_mR ll_mK ll_cnt L xs false 15 (.inl (lo_ald 16 0)) := lk_iald (by decide +kernel)
theorem k_99_16 (L : Nat) (xs : Nat → Int32) : ll_OK1 cX8_nodeOf RX8 (some .int) false ll_mN ll_mR ll_mK ll_cnt L xs false 16 (.inl (lo_iload 17 1)) := lk_iload_n (k := 1) (by decide +kernel) rfl
theorem k_99_17 (L : Nat) (xs : Nat → Int32) : ll_OK1 cX8_nodeOf RX8 (some .int) false ll_mN ll_mR ll_mK ll_cnt L xs false 17 (.inl (lo_cmp 31 20 (fun x y => decide (¬ x = y)))) := lk_icmp_ne (off := 14) (by decide +kernel) rfl
theorem k_99_20 (L : Nat) (xs : Nat → Int32) : ll_OK1 cX8_nodeOf RX8 (some .int) false ll_mN ll_mR ll_mK ll_cnt L xs false 20 (.inl (lo_aload 21 0)) := lk_aload_n (k := 0) (by decide +kernel) rfl
theorem k_99_21 (L : Nat) (xs : Nat → Int32) : ll_OK1 cX8_nodeOf RX8 (some .int) false ll_mN ll_mR ll_mK ll_cnt L xs false 21 (.inl (lo_iload 22 3)) := lk_iload_n (k := 3) (by decide +kernel) rfl
theorem k_99_22 (L : Nat) (xs : Nat → Int32) : ll_OK1 cX8_nodeOf RX8 (some .int) false ll_mN ll_mR ll_mK ll_cnt L xs false 22 (.inl (lo_iload 23 2)) := lk_iload_n (k := 2) (by decide +kernel) rfl
theorem k_99_23 (L : Nat) (xs : Nat → Int32) : ll_OK1 cX8_nodeOf RX8 (some .int) false ll_mN ll_mR ll_mK ll_cnt L xs false 23 (.inr (.inl (100, 3, 26))) := ⟨rfl, by decide, by rw [mN_100, mK_100, mR_100]; exact lj_v 84 2 8 (RX8, TX8, 10) (by decide +kernel) tb_389 tb_390 tb_391 rfl rfl rfl rfl (by decide +kernel)⟩
theorem k_99_26 (L : Nat) (xs : Nat → Int32) : ll_OK1 cX8_nodeOf RX8 (some .int) false ll_mN ll_mR ll_mK ll_cnt L xs false 26 (.inl (lo_if 31 29 (fun x => decide (x = 0)))) := lk_if_eq (off := 5) (by decide +kernel) rfl
theorem k_99_29 (L : Nat) (xs : Nat → Int32) : ll_OK1 cX8_nodeOf RX8 (some .int) false ll_mN ll_mR ll_mK ll_cnt L xs false 29 (.inl (lo_iload 30 3)) := lk_iload_n (k := 3) (by decide +kernel) rfl
theorem k_99_30 (L : Nat) (xs : Nat → Int32) : ll_OK1 cX8_nodeOf RX8 (some .int) false ll_mN ll_mR ll_mK ll_cnt L xs false 30 (.inr (.inr 1)) := ⟨(fun h => by cases h), (fun _ => ⟨(by decide +kernel), rfl⟩), fun h => by cases h⟩
theorem k_99_31 (L : Nat) (xs : Nat → Int32) : ll_OK1 cX8_nodeOf RX8 (some .int) false ll_mN ll_mR ll_mK ll_cnt L xs false 31 (.inl (lo_iinc 34 3 1)) := lk_iinc (n := 1) (by decide +kernel) (by decide)
theorem k_99_34 (L : Nat) (xs : Nat → Int32) : ll_OK1 cX8_nodeOf RX8 (some .int) false ll_mN ll_mR ll_mK ll_cnt L xs false 34 (.inl (lo_goto 2)) := lk_goto (off := (-32)) (by decide +kernel) rfl
theorem k_99_37 (L : Nat) (xs : Nat → Int32) : ll_OK1 cX8_nodeOf RX8 (some .int) false ll_mN ll_mR ll_mK ll_cnt L xs false 37 (.inl (lo_aload 38 0)) := lk_aload_n (k := 0) (by decide +kernel) rfl
theorem k_99_38 (L : Nat) (xs : Nat → Int32) : ll_OK1 cX8_nodeOf RX8 (some .int) false ll_mN ll_mR ll_mK ll_cnt L xs false 38 (.inl (lo_iload 39 1)) := lk_iload_n (k := 1) (by decide +kernel) rfl
theorem k_99_39 (L : Nat) (xs : Nat → Int32) : ll_OK1 cX8_nodeOf RX8 (some .int) false ll_mN ll_mR ll_mK ll_cnt L xs false 39 (.inl (lo_iload 40 2)) := lk_iload_n (k := 2) (by decide +kernel) rfl
theorem k_99_40 (L : Nat) (xs : Nat → Int32) : ll_OK1 cX8_nodeOf RX8 (some .int) false ll_mN ll_mR ll_mK ll_cnt L xs false 40 (.inr (.inl (101, 3, 43))) := ⟨rfl, by decide, by rw [mN_101, mK_101, mR_101]; exact lj_v 88 2 8 (RX8, TX8, 10) (by decide +kernel) tb_392 tb_393 tb_394 rfl rfl rfl rfl (by decide +kernel)⟩
theorem k_99_43 (L : Nat) (xs : Nat → Int32) : ll_OK1 cX8_nodeOf RX8 (some .int) false ll_mN ll_mR ll_mK ll_cnt L xs false 43 (.inr (.inr 1)) := ⟨(fun h => by cases h), (fun _ => ⟨(by decide +kernel), rfl⟩), fun h => by cases h⟩
theorem ok_99 (L : Nat) (xs : Nat → Int32) : ∀ q ∈ cd_99, ll_OK1 cX8_nodeOf RX8 (some .int) false ll_mN ll_mR ll_mK ll_cnt L xs false q.1 q.2 :=
  List.forall_mem_cons.mpr ⟨k_99_0 L xs, List.forall_mem_cons.mpr ⟨k_99_1 L xs, List.forall_mem_cons.mpr ⟨k_99_2 L xs, List.forall_mem_cons.mpr ⟨k_99_3 L xs, List.forall_mem_cons.mpr ⟨k_99_4 L xs, List.forall_mem_cons.mpr ⟨k_99_7 L xs, List.forall_mem_cons.mpr ⟨k_99_10 L xs, List.forall_mem_cons.mpr ⟨k_99_11 L xs, List.forall_mem_cons.mpr ⟨k_99_14 L xs, List.forall_mem_cons.mpr ⟨k_99_15 L xs, List.forall_mem_cons.mpr ⟨k_99_16 L xs, List.forall_mem_cons.mpr ⟨k_99_17 L xs, List.forall_mem_cons.mpr ⟨k_99_20 L xs, List.forall_mem_cons.mpr ⟨k_99_21 L xs, List.forall_mem_cons.mpr ⟨k_99_22 L xs, List.forall_mem_cons.mpr ⟨k_99_23 L xs, List.forall_mem_cons.mpr ⟨k_99_26 L xs, List.forall_mem_cons.mpr ⟨k_99_29 L xs, List.forall_mem_cons.mpr ⟨k_99_30 L xs, List.forall_mem_cons.mpr ⟨k_99_31 L xs, List.forall_mem_cons.mpr ⟨k_99_34 L xs, List.forall_mem_cons.mpr ⟨k_99_37 L xs, List.forall_mem_cons.mpr ⟨k_99_38 L xs, List.forall_mem_cons.mpr ⟨k_99_39 L xs, List.forall_mem_cons.mpr ⟨k_99_40 L xs, List.forall_mem_cons.mpr ⟨k_99_43 L xs, fun _ h => absurd h List.not_mem_nil⟩⟩⟩⟩⟩⟩⟩⟩⟩⟩⟩⟩⟩⟩⟩⟩⟩⟩⟩⟩⟩⟩⟩⟩⟩⟩
/-- InclusionProver$Tree.hasChildren.(II)Z -/
def cd_100 : List (Nat × ll_O) := [
  (0, .inl (lo_aload 1 0)),
  (1, .inl (lo_getf 4 8 2)),
  (4, .inl (lo_iload 5 1)),
  (5, .inl (lo_ald 6 0)),
  (6, .inl (lo_aload 7 0)),
  (7, .inl (lo_getf 10 8 9)),
  (10, .inl (lo_iload 11 2)),
  (11, .inl (lo_bin 12 (fun x y => x - y))),
  (12, .inl (lo_cmp 17 15 (fun x y => decide (x = y)))),
  (15, .inl (lo_push 16 (.int 0))),
  (16, .inr (.inr 2)),
  (17, .inl (lo_push 18 (.int 0))),
  (18, .inl (lo_istore 19 3)),
  (19, .inl (lo_iload 20 3)),
  (20, .inl (lo_aload 21 0)),
  (21, .inl (lo_getf 24 8 2)),
  (24, .inl (lo_iload 25 1)),
  (25, .inl (lo_ald 26 0)),
  (26, .inl (lo_cmp 61 29 (fun x y => decide (y ≤ x)))),
  (29, .inl (lo_aload 30 0)),
  (30, .inl (lo_getf 33 8 5)),
  (33, .inl (lo_aload 34 0)),
  (34, .inl (lo_getf 37 8 1)),
  (37, .inl (lo_iload 38 1)),
  (38, .inl (lo_ald 39 0)),
  (39, .inl (lo_iload 40 3)),
  (40, .inl (lo_bin 41 (fun x y => x + y))),
  (41, .inl (lo_ald 42 0)),
  (42, .inl (lo_aload 43 0)),
  (43, .inl (lo_getf 46 8 6)),
  (46, .inl (lo_iload 47 2)),
  (47, .inl (lo_iload 48 3)),
  (48, .inl (lo_bin 49 (fun x y => x + y))),
  (49, .inl (lo_ald 50 0)),
  (50, .inl (lo_cmp 55 53 (fun x y => decide (x = y)))),
  (53, .inl (lo_push 54 (.int 0))),
  (54, .inr (.inr 2)),
  (55, .inl (lo_iinc 58 3 1)),
  (58, .inl (lo_goto 19)),
  (61, .inl (lo_push 62 (.int 1))),
  (62, .inr (.inr 2))]
theorem k_100_0 (L : Nat) (xs : Nat → Int32) : ll_OK1 cX8_hasChildren RX8 (some .boolean) false ll_mN ll_mR ll_mK ll_cnt L xs false 0 (.inl (lo_aload 1 0)) := lk_aload_n (k := 0) (by decide +kernel) rfl
theorem k_100_1 (L : Nat) (xs : Nat → Int32) : ll_OK1 cX8_hasChildren RX8 (some .boolean) false ll_mN ll_mR ll_mK ll_cnt L xs false 1 (.inl (lo_getf 4 8 2)) := lk_getf (ix := 18) (ci := 8) (k := 2) (C := RX8) (T := TX8) (N := 10) (by decide +kernel) rfl in_8 (by decide) tb_358
theorem k_100_4 (L : Nat) (xs : Nat → Int32) : ll_OK1 cX8_hasChildren RX8 (some .boolean) false ll_mN ll_mR ll_mK ll_cnt L xs false 4 (.inl (lo_iload 5 1)) := lk_iload_n (k := 1) (by decide +kernel) rfl
theorem k_100_5 (L : Nat) (xs : Nat → Int32) : ll_OK1 cX8_hasChildren RX8 (some .boolean) false ll_mN ll_mR ll_mK ll_cnt L xs false 5 (.inl (lo_ald 6 0)) := lk_iald (by decide +kernel)
theorem k_100_6 (L : Nat) (xs : Nat → Int32) : ll_OK1 cX8_hasChildren RX8 (some .boolean) false ll_mN ll_mR ll_mK ll_cnt L xs false 6 (.inl (lo_aload 7 0)) := lk_aload_n (k := 0) (by decide +kernel) rfl
theorem k_100_7 (L : Nat) (xs : Nat → Int32) : ll_OK1 cX8_hasChildren RX8 (some .boolean) false ll_mN ll_mR ll_mK ll_cnt L xs false 7 (.inl (lo_getf 10 8 9)) := lk_getf (ix := 40) (ci := 8) (k := 9) (C := RX8) (T := TX8) (N := 10) (by decide +kernel) rfl in_8 (by decide) tb_365
theorem k_100_10 (L : Nat) (xs : Nat → Int32) : ll_OK1 cX8_hasChildren RX8 (some .boolean) false ll_mN ll_mR ll_mK ll_cnt L xs false 10 (.inl (lo_iload 11 2)) := lk_iload_n (k := 2) (by decide +kernel) rfl
theorem k_100_11 (L : Nat) (xs : Nat → Int32) : ll_OK1 cX8_hasChildren RX8 (some .boolean) false ll_mN ll_mR ll_mK ll_cnt L xs false 11 (.inl (lo_bin 12 (fun x y => x - y))) := lk_isub (by decide +kernel)
theorem k_100_12 (L : Nat) (xs : Nat → Int32) : ll_OK1 cX8_hasChildren RX8 (some .boolean) false ll_mN ll_mR ll_mK ll_cnt L xs false 12 (.inl (lo_cmp 17 15 (fun x y => decide (x = y)))) := lk_icmp_eq (off := 5) (by decide +kernel) rfl
theorem k_100_15 (L : Nat) (xs : Nat → Int32) : ll_OK1 cX8_hasChildren RX8 (some .boolean) false ll_mN ll_mR ll_mK ll_cnt L xs false 15 (.inl (lo_push 16 (.int 0))) := lk_iconst (n := 0) (by decide +kernel) (by decide)
theorem k_100_16 (L : Nat) (xs : Nat → Int32) : ll_OK1 cX8_hasChildren RX8 (some .boolean) false ll_mN ll_mR ll_mK ll_cnt L xs false 16 (.inr (.inr 2)) := ⟨(fun h => by cases h), (fun h => by cases h), fun _ => ⟨(by decide +kernel), rfl⟩⟩
theorem k_100_17 (L : Nat) (xs : Nat → Int32) : ll_OK1 cX8_hasChildren RX8 (some .boolean) false ll_mN ll_mR ll_mK ll_cnt L xs false 17 (.inl (lo_push 18 (.int 0))) := lk_iconst (n := 0) (by decide +kernel) (by decide)
theorem k_100_18 (L : Nat) (xs : Nat → Int32) : ll_OK1 cX8_hasChildren RX8 (some .boolean) false ll_mN ll_mR ll_mK ll_cnt L xs false 18 (.inl (lo_istore 19 3)) := lk_istore_n (k := 3) (by decide +kernel) rfl
theorem k_100_19 (L : Nat) (xs : Nat → Int32) : ll_OK1 cX8_hasChildren RX8 (some .boolean) false ll_mN ll_mR ll_mK ll_cnt L xs false 19 (.inl (lo_iload 20 3)) := lk_iload_n (k := 3) (by decide +kernel) rfl
theorem k_100_20 (L : Nat) (xs : Nat → Int32) : ll_OK1 cX8_hasChildren RX8 (some .boolean) false ll_mN ll_mR ll_mK ll_cnt L xs false 20 (.inl (lo_aload 21 0)) := lk_aload_n (k := 0) (by decide +kernel) rfl
theorem k_100_21 (L : Nat) (xs : Nat → Int32) : ll_OK1 cX8_hasChildren RX8 (some .boolean) false ll_mN ll_mR ll_mK ll_cnt L xs false 21 (.inl (lo_getf 24 8 2)) := lk_getf (ix := 18) (ci := 8) (k := 2) (C := RX8) (T := TX8) (N := 10) (by decide +kernel) rfl in_8 (by decide) tb_358
theorem k_100_24 (L : Nat) (xs : Nat → Int32) : ll_OK1 cX8_hasChildren RX8 (some .boolean) false ll_mN ll_mR ll_mK ll_cnt L xs false 24 (.inl (lo_iload 25 1)) := lk_iload_n (k := 1) (by decide +kernel) rfl
theorem k_100_25 (L : Nat) (xs : Nat → Int32) : ll_OK1 cX8_hasChildren RX8 (some .boolean) false ll_mN ll_mR ll_mK ll_cnt L xs false 25 (.inl (lo_ald 26 0)) := lk_iald (by decide +kernel)
theorem k_100_26 (L : Nat) (xs : Nat → Int32) : ll_OK1 cX8_hasChildren RX8 (some .boolean) false ll_mN ll_mR ll_mK ll_cnt L xs false 26 (.inl (lo_cmp 61 29 (fun x y => decide (y ≤ x)))) := lk_icmp_ge (off := 35) (by decide +kernel) rfl
theorem k_100_29 (L : Nat) (xs : Nat → Int32) : ll_OK1 cX8_hasChildren RX8 (some .boolean) false ll_mN ll_mR ll_mK ll_cnt L xs false 29 (.inl (lo_aload 30 0)) := lk_aload_n (k := 0) (by decide +kernel) rfl
theorem k_100_30 (L : Nat) (xs : Nat → Int32) : ll_OK1 cX8_hasChildren RX8 (some .boolean) false ll_mN ll_mR ll_mK ll_cnt L xs false 30 (.inl (lo_getf 33 8 5)) := lk_getf (ix := 27) (ci := 8) (k := 5) (C := RX8) (T := TX8) (N := 10) (by decide +kernel) rfl in_8 (by decide) tb_361
theorem k_100_33 (L : Nat) (xs : Nat → Int32) : ll_OK1 cX8_hasChildren RX8 (some .boolean) false ll_mN ll_mR ll_mK ll_cnt L xs false 33 (.inl (lo_aload 34 0)) := lk_aload_n (k := 0) (by decide +kernel) rfl
theorem k_100_34 (L : Nat) (xs : Nat → Int32) : ll_OK1 cX8_hasChildren RX8 (some .boolean) false ll_mN ll_mR ll_mK ll_cnt L xs false 34 (.inl (lo_getf 37 8 1)) := lk_getf (ix := 15) (ci := 8) (k := 1) (C := RX8) (T := TX8) (N := 10) (by decide +kernel) rfl in_8 (by decide) tb_357
theorem k_100_37 (L : Nat) (xs : Nat → Int32) : ll_OK1 cX8_hasChildren RX8 (some .boolean) false ll_mN ll_mR ll_mK ll_cnt L xs false 37 (.inl (lo_iload 38 1)) := lk_iload_n (k := 1) (by decide +kernel) rfl
theorem k_100_38 (L : Nat) (xs : Nat → Int32) : ll_OK1 cX8_hasChildren RX8 (some .boolean) false ll_mN ll_mR ll_mK ll_cnt L xs false 38 (.inl (lo_ald 39 0)) := lk_iald (by decide +kernel)
theorem k_100_39 (L : Nat) (xs : Nat → Int32) : ll_OK1 cX8_hasChildren RX8 (some .boolean) false ll_mN ll_mR ll_mK ll_cnt L xs false 39 (.inl (lo_iload 40 3)) := lk_iload_n (k := 3) (by decide +kernel) rfl
theorem k_100_40 (L : Nat) (xs : Nat → Int32) : ll_OK1 cX8_hasChildren RX8 (some .boolean) false ll_mN ll_mR ll_mK ll_cnt L xs false 40 (.inl (lo_bin 41 (fun x y => x + y))) := lk_iadd (by decide +kernel)
theorem k_100_41 (L : Nat) (xs : Nat → Int32) : ll_OK1 cX8_hasChildren RX8 (some .boolean) false ll_mN ll_mR ll_mK ll_cnt L xs false 41 (.inl (lo_ald 42 0)) := lk_iald (by decide +kernel)
theorem k_100_42 (L : Nat) (xs : Nat → Int32) : ll_OK1 cX8_hasChildren RX8 (some .boolean) false ll_mN ll_mR ll_mK ll_cnt L xs false 42 (.inl (lo_aload 43 0)) := lk_aload_n (k := 0) (by decide +kernel) rfl
theorem k_100_43 (L : Nat) (xs : Nat → Int32) : ll_OK1 cX8_hasChildren RX8 (some .boolean) false ll_mN ll_mR ll_mK ll_cnt L xs false 43 (.inl (lo_getf 46 8 6)) := lk_getf (ix := 30) (ci := 8) (k := 6) (C := RX8) (T := TX8) (N := 10) (by decide +kernel) rfl in_8 (by decide) tb_362
theorem k_100_46 (L : Nat) (xs : Nat → Int32) : ll_OK1 cX8_hasChildren RX8 (some .boolean) false ll_mN ll_mR ll_mK ll_cnt L xs false 46 (.inl (lo_iload 47 2)) := lk_iload_n (k := 2) (by decide +kernel) rfl
theorem k_100_47 (L : Nat) (xs : Nat → Int32) : ll_OK1 cX8_hasChildren RX8 (some .boolean) false ll_mN ll_mR ll_mK ll_cnt L xs false 47 (.inl (lo_iload 48 3)) := lk_iload_n (k := 3) (by decide +kernel) rfl
theorem k_100_48 (L : Nat) (xs : Nat → Int32) : ll_OK1 cX8_hasChildren RX8 (some .boolean) false ll_mN ll_mR ll_mK ll_cnt L xs false 48 (.inl (lo_bin 49 (fun x y => x + y))) := lk_iadd (by decide +kernel)
theorem k_100_49 (L : Nat) (xs : Nat → Int32) : ll_OK1 cX8_hasChildren RX8 (some .boolean) false ll_mN ll_mR ll_mK ll_cnt L xs false 49 (.inl (lo_ald 50 0)) := lk_iald (by decide +kernel)
theorem k_100_50 (L : Nat) (xs : Nat → Int32) : ll_OK1 cX8_hasChildren RX8 (some .boolean) false ll_mN ll_mR ll_mK ll_cnt L xs false 50 (.inl (lo_cmp 55 53 (fun x y => decide (x = y)))) := lk_icmp_eq (off := 5) (by decide +kernel) rfl
theorem k_100_53 (L : Nat) (xs : Nat → Int32) : ll_OK1 cX8_hasChildren RX8 (some .boolean) false ll_mN ll_mR ll_mK ll_cnt L xs false 53 (.inl (lo_push 54 (.int 0))) := lk_iconst (n := 0) (by decide +kernel) (by decide)
theorem k_100_54 (L : Nat) (xs : Nat → Int32) : ll_OK1 cX8_hasChildren RX8 (some .boolean) false ll_mN ll_mR ll_mK ll_cnt L xs false 54 (.inr (.inr 2)) := ⟨(fun h => by cases h), (fun h => by cases h), fun _ => ⟨(by decide +kernel), rfl⟩⟩
theorem k_100_55 (L : Nat) (xs : Nat → Int32) : ll_OK1 cX8_hasChildren RX8 (some .boolean) false ll_mN ll_mR ll_mK ll_cnt L xs false 55 (.inl (lo_iinc 58 3 1)) := lk_iinc (n := 1) (by decide +kernel) (by decide)
theorem k_100_58 (L : Nat) (xs : Nat → Int32) : ll_OK1 cX8_hasChildren RX8 (some .boolean) false ll_mN ll_mR ll_mK ll_cnt L xs false 58 (.inl (lo_goto 19)) := lk_goto (off := (-39)) (by decide +kernel) rfl
theorem k_100_61 (L : Nat) (xs : Nat → Int32) : ll_OK1 cX8_hasChildren RX8 (some .boolean) false ll_mN ll_mR ll_mK ll_cnt L xs false 61 (.inl (lo_push 62 (.int 1))) := lk_iconst (n := 1) (by decide +kernel) (by decide)
theorem k_100_62 (L : Nat) (xs : Nat → Int32) : ll_OK1 cX8_hasChildren RX8 (some .boolean) false ll_mN ll_mR ll_mK ll_cnt L xs false 62 (.inr (.inr 2)) := ⟨(fun h => by cases h), (fun h => by cases h), fun _ => ⟨(by decide +kernel), rfl⟩⟩
theorem ok_100 (L : Nat) (xs : Nat → Int32) : ∀ q ∈ cd_100, ll_OK1 cX8_hasChildren RX8 (some .boolean) false ll_mN ll_mR ll_mK ll_cnt L xs false q.1 q.2 :=
  List.forall_mem_cons.mpr ⟨k_100_0 L xs, List.forall_mem_cons.mpr ⟨k_100_1 L xs, List.forall_mem_cons.mpr ⟨k_100_4 L xs, List.forall_mem_cons.mpr ⟨k_100_5 L xs, List.forall_mem_cons.mpr ⟨k_100_6 L xs, List.forall_mem_cons.mpr ⟨k_100_7 L xs, List.forall_mem_cons.mpr ⟨k_100_10 L xs, List.forall_mem_cons.mpr ⟨k_100_11 L xs, List.forall_mem_cons.mpr ⟨k_100_12 L xs, List.forall_mem_cons.mpr ⟨k_100_15 L xs, List.forall_mem_cons.mpr ⟨k_100_16 L xs, List.forall_mem_cons.mpr ⟨k_100_17 L xs, List.forall_mem_cons.mpr ⟨k_100_18 L xs, List.forall_mem_cons.mpr ⟨k_100_19 L xs, List.forall_mem_cons.mpr ⟨k_100_20 L xs, List.forall_mem_cons.mpr ⟨k_100_21 L xs, List.forall_mem_cons.mpr ⟨k_100_24 L xs, List.forall_mem_cons.mpr ⟨k_100_25 L xs, List.forall_mem_cons.mpr ⟨k_100_26 L xs, List.forall_mem_cons.mpr ⟨k_100_29 L xs, List.forall_mem_cons.mpr ⟨k_100_30 L xs, List.forall_mem_cons.mpr ⟨k_100_33 L xs, List.forall_mem_cons.mpr ⟨k_100_34 L xs, List.forall_mem_cons.mpr ⟨k_100_37 L xs, List.forall_mem_cons.mpr ⟨k_100_38 L xs, List.forall_mem_cons.mpr ⟨k_100_39 L xs, List.forall_mem_cons.mpr ⟨k_100_40 L xs, List.forall_mem_cons.mpr ⟨k_100_41 L xs, List.forall_mem_cons.mpr ⟨k_100_42 L xs, List.forall_mem_cons.mpr ⟨k_100_43 L xs, List.forall_mem_cons.mpr ⟨k_100_46 L xs, List.forall_mem_cons.mpr ⟨k_100_47 L xs, List.forall_mem_cons.mpr ⟨k_100_48 L xs, List.forall_mem_cons.mpr ⟨k_100_49 L xs, List.forall_mem_cons.mpr ⟨k_100_50 L xs, List.forall_mem_cons.mpr ⟨k_100_53 L xs, List.forall_mem_cons.mpr ⟨k_100_54 L xs, List.forall_mem_cons.mpr ⟨k_100_55 L xs, List.forall_mem_cons.mpr ⟨k_100_58 L xs, List.forall_mem_cons.mpr ⟨k_100_61 L xs, List.forall_mem_cons.mpr ⟨k_100_62 L xs, fun _ h => absurd h List.not_mem_nil⟩⟩⟩⟩⟩⟩⟩⟩⟩⟩⟩⟩⟩⟩⟩⟩⟩⟩⟩⟩⟩⟩⟩⟩⟩⟩⟩⟩⟩⟩⟩⟩⟩⟩⟩⟩⟩⟩⟩⟩⟩
/-- InclusionProver$Tree.newNode.(II)I -/
def cd_101 : List (Nat × ll_O) := [
  (0, .inl (lo_aload 1 0)),
  (1, .inl (lo_getf 4 8 9)),
  (4, .inl (lo_iload 5 2)),
  (5, .inl (lo_bin 6 (fun x y => x - y))),
  (6, .inl (lo_istore 7 3)),
  (7, .inl (lo_aload 8 0)),
  (8, .inl (lo_getf 11 8 7)),
  (11, .inl (lo_push 14 (.int 160))),
  (14, .inl (lo_cmp 29 17 (fun x y => decide (y ≤ x)))),
  (17, .inl (lo_aload 18 0)),
  (18, .inl (lo_getf 21 8 8)),
  (21, .inl (lo_iload 22 3)),
  (22, .inl (lo_bin 23 (fun x y => x + y))),
  (23, .inl (lo_push 26 (.int 2048))),
  (26, .inl (lo_cmp 31 29 (fun x y => decide (x ≤ y)))),
  (29, .inl (lo_push 30 (.int 0))),
  (30, .inr (.inr 1)),
  (31, .inl (lo_push 33 (.int 68))),
  (33, .inl (lo_istore 35 4)),
  (35, .inl (lo_push 36 (.int 0))),
  (36, .inl (lo_istore 38 5)),
  (38, .inl (lo_push 39 (.int 0))),
  (39, .inl (lo_istore 41 6)),
  (41, .inl (lo_iload 42 2)),
  (42, .inl (lo_istore 44 7)),
  (44, .inl (lo_iload 46 7)),
  (46, .inl (lo_aload 47 0)),
  (47, .inl (lo_getf 50 8 9)),
  (50, .inl (lo_cmp 124 53 (fun x y => decide (y ≤ x)))),
  (53, .inl (lo_aload 54 0)),
  (54, .inl (lo_getf 57 8 6)),
  (57, .inl (lo_iload 59 7)),
  (59, .inl (lo_ald 60 0)),
  (60, .inl (lo_istore 62 8)),
  (62, .inl (lo_aload 63 0)),
  (63, .inl (lo_getf 66 8 5)),
  (66, .inl (lo_aload 67 0)),
  (67, .inl (lo_getf 70 8 8)),
  (70, .inl (lo_iload 72 7)),
  (72, .inl (lo_bin 73 (fun x y => x + y))),
  (73, .inl (lo_iload 74 2)),
  (74, .inl (lo_bin 75 (fun x y => x - y))),
  (75, .inl (lo_iload 77 8)),
  (77, .inl (lo_ast 78 0)),
  (78, .inl (lo_iload 80 4)),
  (80, .inl (lo_aload 81 0)),
  (81, .inl (lo_getf 84 8 3)),
  (84, .inl (lo_iload 86 8)),
  (86, .inl (lo_ald 87 0)),
  (87, .inl (lo_mm 90 (fun x y => if y < x then y else x))),
  (90, .inl (lo_istore 92 4)),
  (92, .inl (lo_iload 94 5)),
  (94, .inl (lo_aload 95 0)),
  (95, .inl (lo_getf 98 8 3)),
  (98, .inl (lo_iload 100 8)),
  (100, .inl (lo_ald 101 0)),
  (101, .inl (lo_bin 102 (fun x y => x + y))),
  (102, .inl (lo_istore 104 5)),
  (104, .inl (lo_iload 106 6)),
  (106, .inl (lo_aload 107 0)),
  (107, .inl (lo_getf 110 8 4)),
  (110, .inl (lo_iload 112 8)),
  (112, .inl (lo_ald 113 0)),
  (113, .inl (lo_mm 116 (fun x y => if x < y then y else x))),
  (116, .inl (lo_istore 118 6)),
  (118, .inl (lo_iinc 121 7 1)),
  (121, .inl (lo_goto 44)),
  (124, .inl (lo_aload 125 0)),
  (125, .inl (lo_getf 128 8 7)),
  (128, .inl (lo_istore 130 7)),
  (130, .inl (lo_aload 131 0)),
  (131, .inl (lo_getf 134 8 0)),
  (134, .inl (lo_iload 136 7)),
  (136, .inl (lo_iload 137 1)),
  (137, .inl (lo_ast 138 0)),
  (138, .inl (lo_aload 139 0)),
  (139, .inl (lo_getf 142 8 1)),
  (142, .inl (lo_iload 144 7)),
  (144, .inl (lo_aload 145 0)),
  (145, .inl (lo_getf 148 8 8)),
  (148, .inl (lo_ast 149 0)),
  (149, .inl (lo_aload 150 0)),
  (150, .inl (lo_getf 153 8 2)),
  (153, .inl (lo_iload 155 7)),
  (155, .inl (lo_iload 156 3)),
  (156, .inl (lo_ast 157 0)),
  (157, .inl (lo_aload 158 0)),
  (158, .inl (lo_getf 161 8 3)),
  (161, .inl (lo_iload 163 7)),
  (163, .inl (lo_iload 164 1)),
  (164, .inl (lo_push 165 (.int 3))),
  (165, .inl (lo_cmp 172 168 (fun x y => decide (¬ x = y)))),
  (168, .inl (lo_push 169 (.int 0))),
  (169, .inl (lo_goto 184)),
  (172, .inl (lo_iload 173 1)),
  (173, .inl (lo_push 174 (.int 1))),
  (174, .inl (lo_cmp 182 177 (fun x y => decide (¬ x = y)))),
  (177, .inl (lo_iload 179 4)),
  (179, .inl (lo_goto 184)),
  (182, .inl (lo_iload 184 5)),
  (184, .inl (lo_ast 185 0)),
  (185, .inl (lo_aload 186 0)),
  (186, .inl (lo_getf 189 8 4)),
  (189, .inl (lo_iload 191 7)),
  (191, .inl (lo_iload 192 1)),
  (192, .inl (lo_push 193 (.int 3))),
  (193, .inl (lo_cmp 203 196 (fun x y => decide (¬ x = y)))),
  (196, .inl (lo_iload 198 6)),
  (198, .inl (lo_push 199 (.int 1))),
  (199, .inl (lo_bin 200 (fun x y => x + y))),
  (200, .inl (lo_goto 205)),
  (203, .inl (lo_iload 205 6)),
  (205, .inl (lo_ast 206 0)),
  (206, .inl (lo_aload 207 0)),
  (207, .inl (lo_dup 208)),
  (208, .inl (lo_getf 211 8 8)),
  (211, .inl (lo_iload 212 3)),
  (212, .inl (lo_bin 213 (fun x y => x + y))),
  (213, .inl (lo_putf 216 8 8 0)),
  (216, .inl (lo_aload 217 0)),
  (217, .inl (lo_dup 218)),
  (218, .inl (lo_getf 221 8 7)),
  (221, .inl (lo_push 222 (.int 1))),
  (222, .inl (lo_bin 223 (fun x y => x + y))),
  (223, .inl (lo_putf 226 8 7 0)),
  (226, .inl (lo_iload 228 7)),
  (228, .inr (.inr 1))]
theorem k_101_0 (L : Nat) (xs : Nat → Int32) : ll_OK1 cX8_newNode RX8 (some .int) false ll_mN ll_mR ll_mK ll_cnt L xs false 0 (.inl (lo_aload 1 0)) := lk_aload_n (k := 0) (by decide +kernel) rfl
theorem k_101_1 (L : Nat) (xs : Nat → Int32) : ll_OK1 cX8_newNode RX8 (some .int) false ll_mN ll_mR ll_mK ll_cnt L xs false 1 (.inl (lo_getf 4 8 9)) := lk_getf (ix := 40) (ci := 8) (k := 9) (C := RX8) (T := TX8) (N := 10) (by decide +kernel) rfl in_8 (by decide) tb_365
theorem k_101_4 (L : Nat) (xs : Nat → Int32) : ll_OK1 cX8_newNode RX8 (some .int) false ll_mN ll_mR ll_mK ll_cnt L xs false 4 (.inl (lo_iload 5 2)) := lk_iload_n (k := 2) (by decide +kernel) rfl
theorem k_101_5 (L : Nat) (xs : Nat → Int32) : ll_OK1 cX8_newNode RX8 (some .int) false ll_mN ll_mR ll_mK ll_cnt L xs false 5 (.inl (lo_bin 6 (fun x y => x - y))) := lk_isub (by decide +kernel)
theorem k_101_6 (L : Nat) (xs : Nat → Int32) : ll_OK1 cX8_newNode RX8 (some .int) false ll_mN ll_mR ll_mK ll_cnt L xs false 6 (.inl (lo_istore 7 3)) := lk_istore_n (k := 3) (by decide +kernel) rfl
theorem k_101_7 (L : Nat) (xs : Nat → Int32) : ll_OK1 cX8_newNode RX8 (some .int) false ll_mN ll_mR ll_mK ll_cnt L xs false 7 (.inl (lo_aload 8 0)) := lk_aload_n (k := 0) (by decide +kernel) rfl
theorem k_101_8 (L : Nat) (xs : Nat → Int32) : ll_OK1 cX8_newNode RX8 (some .int) false ll_mN ll_mR ll_mK ll_cnt L xs false 8 (.inl (lo_getf 11 8 7)) := lk_getf (ix := 33) (ci := 8) (k := 7) (C := RX8) (T := TX8) (N := 10) (by decide +kernel) rfl in_8 (by decide) tb_363
theorem k_101_11 (L : Nat) (xs : Nat → Int32) : ll_OK1 cX8_newNode RX8 (some .int) false ll_mN ll_mR ll_mK ll_cnt L xs false 11 (.inl (lo_push 14 (.int 160))) := lk_sipush (n := 160) (by decide +kernel) (by decide)
theorem k_101_14 (L : Nat) (xs : Nat → Int32) : ll_OK1 cX8_newNode RX8 (some .int) false ll_mN ll_mR ll_mK ll_cnt L xs false 14 (.inl (lo_cmp 29 17 (fun x y => decide (y ≤ x)))) := lk_icmp_ge (off := 15) (by decide +kernel) rfl
theorem k_101_17 (L : Nat) (xs : Nat → Int32) : ll_OK1 cX8_newNode RX8 (some .int) false ll_mN ll_mR ll_mK ll_cnt L xs false 17 (.inl (lo_aload 18 0)) := lk_aload_n (k := 0) (by decide +kernel) rfl
theorem k_101_18 (L : Nat) (xs : Nat → Int32) : ll_OK1 cX8_newNode RX8 (some .int) false ll_mN ll_mR ll_mK ll_cnt L xs false 18 (.inl (lo_getf 21 8 8)) := lk_getf (ix := 37) (ci := 8) (k := 8) (C := RX8) (T := TX8) (N := 10) (by decide +kernel) rfl in_8 (by decide) tb_364
theorem k_101_21 (L : Nat) (xs : Nat → Int32) : ll_OK1 cX8_newNode RX8 (some .int) false ll_mN ll_mR ll_mK ll_cnt L xs false 21 (.inl (lo_iload 22 3)) := lk_iload_n (k := 3) (by decide +kernel) rfl
theorem k_101_22 (L : Nat) (xs : Nat → Int32) : ll_OK1 cX8_newNode RX8 (some .int) false ll_mN ll_mR ll_mK ll_cnt L xs false 22 (.inl (lo_bin 23 (fun x y => x + y))) := lk_iadd (by decide +kernel)
theorem k_101_23 (L : Nat) (xs : Nat → Int32) : ll_OK1 cX8_newNode RX8 (some .int) false ll_mN ll_mR ll_mK ll_cnt L xs false 23 (.inl (lo_push 26 (.int 2048))) := lk_sipush (n := 2048) (by decide +kernel) (by decide)
theorem k_101_26 (L : Nat) (xs : Nat → Int32) : ll_OK1 cX8_newNode RX8 (some .int) false ll_mN ll_mR ll_mK ll_cnt L xs false 26 (.inl (lo_cmp 31 29 (fun x y => decide (x ≤ y)))) := lk_icmp_le (off := 5) (by decide +kernel) rfl
theorem k_101_29 (L : Nat) (xs : Nat → Int32) : ll_OK1 cX8_newNode RX8 (some .int) false ll_mN ll_mR ll_mK ll_cnt L xs false 29 (.inl (lo_push 30 (.int 0))) := lk_iconst (n := 0) (by decide +kernel) (by decide)
theorem k_101_30 (L : Nat) (xs : Nat → Int32) : ll_OK1 cX8_newNode RX8 (some .int) false ll_mN ll_mR ll_mK ll_cnt L xs false 30 (.inr (.inr 1)) := ⟨(fun h => by cases h), (fun _ => ⟨(by decide +kernel), rfl⟩), fun h => by cases h⟩
theorem k_101_31 (L : Nat) (xs : Nat → Int32) : ll_OK1 cX8_newNode RX8 (some .int) false ll_mN ll_mR ll_mK ll_cnt L xs false 31 (.inl (lo_push 33 (.int 68))) := lk_bipush (n := 68) (by decide +kernel) (by decide)
theorem k_101_33 (L : Nat) (xs : Nat → Int32) : ll_OK1 cX8_newNode RX8 (some .int) false ll_mN ll_mR ll_mK ll_cnt L xs false 33 (.inl (lo_istore 35 4)) := lk_istore (by decide +kernel)
theorem k_101_35 (L : Nat) (xs : Nat → Int32) : ll_OK1 cX8_newNode RX8 (some .int) false ll_mN ll_mR ll_mK ll_cnt L xs false 35 (.inl (lo_push 36 (.int 0))) := lk_iconst (n := 0) (by decide +kernel) (by decide)
theorem k_101_36 (L : Nat) (xs : Nat → Int32) : ll_OK1 cX8_newNode RX8 (some .int) false ll_mN ll_mR ll_mK ll_cnt L xs false 36 (.inl (lo_istore 38 5)) := lk_istore (by decide +kernel)
theorem k_101_38 (L : Nat) (xs : Nat → Int32) : ll_OK1 cX8_newNode RX8 (some .int) false ll_mN ll_mR ll_mK ll_cnt L xs false 38 (.inl (lo_push 39 (.int 0))) := lk_iconst (n := 0) (by decide +kernel) (by decide)
theorem k_101_39 (L : Nat) (xs : Nat → Int32) : ll_OK1 cX8_newNode RX8 (some .int) false ll_mN ll_mR ll_mK ll_cnt L xs false 39 (.inl (lo_istore 41 6)) := lk_istore (by decide +kernel)
theorem k_101_41 (L : Nat) (xs : Nat → Int32) : ll_OK1 cX8_newNode RX8 (some .int) false ll_mN ll_mR ll_mK ll_cnt L xs false 41 (.inl (lo_iload 42 2)) := lk_iload_n (k := 2) (by decide +kernel) rfl
theorem k_101_42 (L : Nat) (xs : Nat → Int32) : ll_OK1 cX8_newNode RX8 (some .int) false ll_mN ll_mR ll_mK ll_cnt L xs false 42 (.inl (lo_istore 44 7)) := lk_istore (by decide +kernel)
theorem k_101_44 (L : Nat) (xs : Nat → Int32) : ll_OK1 cX8_newNode RX8 (some .int) false ll_mN ll_mR ll_mK ll_cnt L xs false 44 (.inl (lo_iload 46 7)) := lk_iload (by decide +kernel)
theorem k_101_46 (L : Nat) (xs : Nat → Int32) : ll_OK1 cX8_newNode RX8 (some .int) false ll_mN ll_mR ll_mK ll_cnt L xs false 46 (.inl (lo_aload 47 0)) := lk_aload_n (k := 0) (by decide +kernel) rfl
theorem k_101_47 (L : Nat) (xs : Nat → Int32) : ll_OK1 cX8_newNode RX8 (some .int) false ll_mN ll_mR ll_mK ll_cnt L xs false 47 (.inl (lo_getf 50 8 9)) := lk_getf (ix := 40) (ci := 8) (k := 9) (C := RX8) (T := TX8) (N := 10) (by decide +kernel) rfl in_8 (by decide) tb_365
theorem k_101_50 (L : Nat) (xs : Nat → Int32) : ll_OK1 cX8_newNode RX8 (some .int) false ll_mN ll_mR ll_mK ll_cnt L xs false 50 (.inl (lo_cmp 124 53 (fun x y => decide (y ≤ x)))) := lk_icmp_ge (off := 74) (by decide +kernel) rfl
theorem k_101_53 (L : Nat) (xs : Nat → Int32) : ll_OK1 cX8_newNode RX8 (some .int) false ll_mN ll_mR ll_mK ll_cnt L xs false 53 (.inl (lo_aload 54 0)) := lk_aload_n (k := 0) (by decide +kernel) rfl
theorem k_101_54 (L : Nat) (xs : Nat → Int32) : ll_OK1 cX8_newNode RX8 (some .int) false ll_mN ll_mR ll_mK ll_cnt L xs false 54 (.inl (lo_getf 57 8 6)) := lk_getf (ix := 30) (ci := 8) (k := 6) (C := RX8) (T := TX8) (N := 10) (by decide +kernel) rfl in_8 (by decide) tb_362
theorem k_101_57 (L : Nat) (xs : Nat → Int32) : ll_OK1 cX8_newNode RX8 (some .int) false ll_mN ll_mR ll_mK ll_cnt L xs false 57 (.inl (lo_iload 59 7)) := lk_iload (by decide +kernel)
theorem k_101_59 (L : Nat) (xs : Nat → Int32) : ll_OK1 cX8_newNode RX8 (some .int) false ll_mN ll_mR ll_mK ll_cnt L xs false 59 (.inl (lo_ald 60 0)) := lk_iald (by decide +kernel)
theorem k_101_60 (L : Nat) (xs : Nat → Int32) : ll_OK1 cX8_newNode RX8 (some .int) false ll_mN ll_mR ll_mK ll_cnt L xs false 60 (.inl (lo_istore 62 8)) := lk_istore (by decide +kernel)
theorem k_101_62 (L : Nat) (xs : Nat → Int32) : ll_OK1 cX8_newNode RX8 (some .int) false ll_mN ll_mR ll_mK ll_cnt L xs false 62 (.inl (lo_aload 63 0)) := lk_aload_n (k := 0) (by decide +kernel) rfl
theorem k_101_63 (L : Nat) (xs : Nat → Int32) : ll_OK1 cX8_newNode RX8 (some .int) false ll_mN ll_mR ll_mK ll_cnt L xs false 63 (.inl (lo_getf 66 8 5)) := lk_getf (ix := 27) (ci := 8) (k := 5) (C := RX8) (T := TX8) (N := 10) (by decide +kernel) rfl in_8 (by decide) tb_361
theorem k_101_66 (L : Nat) (xs : Nat → Int32) : ll_OK1 cX8_newNode RX8 (some .int) false ll_mN ll_mR ll_mK ll_cnt L xs false 66 (.inl (lo_aload 67 0)) := lk_aload_n (k := 0) (by decide +kernel) rfl
theorem k_101_67 (L : Nat) (xs : Nat → Int32) : ll_OK1 cX8_newNode RX8 (some .int) false ll_mN ll_mR ll_mK ll_cnt L xs false 67 (.inl (lo_getf 70 8 8)) := lk_getf (ix := 37) (ci := 8) (k := 8) (C := RX8) (T := TX8) (N := 10) (by decide +kernel) rfl in_8 (by decide) tb_364
theorem k_101_70 (L : Nat) (xs : Nat → Int32) : ll_OK1 cX8_newNode RX8 (some .int) false ll_mN ll_mR ll_mK ll_cnt L xs false 70 (.inl (lo_iload 72 7)) := lk_iload (by decide +kernel)
theorem k_101_72 (L : Nat) (xs : Nat → Int32) : ll_OK1 cX8_newNode RX8 (some .int) false ll_mN ll_mR ll_mK ll_cnt L xs false 72 (.inl (lo_bin 73 (fun x y => x + y))) := lk_iadd (by decide +kernel)
theorem k_101_73 (L : Nat) (xs : Nat → Int32) : ll_OK1 cX8_newNode RX8 (some .int) false ll_mN ll_mR ll_mK ll_cnt L xs false 73 (.inl (lo_iload 74 2)) := lk_iload_n (k := 2) (by decide +kernel) rfl
theorem k_101_74 (L : Nat) (xs : Nat → Int32) : ll_OK1 cX8_newNode RX8 (some .int) false ll_mN ll_mR ll_mK ll_cnt L xs false 74 (.inl (lo_bin 75 (fun x y => x - y))) := lk_isub (by decide +kernel)
theorem k_101_75 (L : Nat) (xs : Nat → Int32) : ll_OK1 cX8_newNode RX8 (some .int) false ll_mN ll_mR ll_mK ll_cnt L xs false 75 (.inl (lo_iload 77 8)) := lk_iload (by decide +kernel)
theorem k_101_77 (L : Nat) (xs : Nat → Int32) : ll_OK1 cX8_newNode RX8 (some .int) false ll_mN ll_mR ll_mK ll_cnt L xs false 77 (.inl (lo_ast 78 0)) := lk_iast (by decide +kernel)
theorem k_101_78 (L : Nat) (xs : Nat → Int32) : ll_OK1 cX8_newNode RX8 (some .int) false ll_mN ll_mR ll_mK ll_cnt L xs false 78 (.inl (lo_iload 80 4)) := lk_iload (by decide +kernel)
theorem k_101_80 (L : Nat) (xs : Nat → Int32) : ll_OK1 cX8_newNode RX8 (some .int) false ll_mN ll_mR ll_mK ll_cnt L xs false 80 (.inl (lo_aload 81 0)) := lk_aload_n (k := 0) (by decide +kernel) rfl
theorem k_101_81 (L : Nat) (xs : Nat → Int32) : ll_OK1 cX8_newNode RX8 (some .int) false ll_mN ll_mR ll_mK ll_cnt L xs false 81 (.inl (lo_getf 84 8 3)) := lk_getf (ix := 21) (ci := 8) (k := 3) (C := RX8) (T := TX8) (N := 10) (by decide +kernel) rfl in_8 (by decide) tb_359
theorem k_101_84 (L : Nat) (xs : Nat → Int32) : ll_OK1 cX8_newNode RX8 (some .int) false ll_mN ll_mR ll_mK ll_cnt L xs false 84 (.inl (lo_iload 86 8)) := lk_iload (by decide +kernel)
theorem k_101_86 (L : Nat) (xs : Nat → Int32) : ll_OK1 cX8_newNode RX8 (some .int) false ll_mN ll_mR ll_mK ll_cnt L xs false 86 (.inl (lo_ald 87 0)) := lk_iald (by decide +kernel)
theorem k_101_87 (L : Nat) (xs : Nat → Int32) : ll_OK1 cX8_newNode RX8 (some .int) false ll_mN ll_mR ll_mK ll_cnt L xs false 87 (.inl (lo_mm 90 (fun x y => if y < x then y else x))) := lk_min (ix := 91) (by decide +kernel) tb_395 tb_347 tb_220 tb_348
theorem k_101_90 (L : Nat) (xs : Nat → Int32) : ll_OK1 cX8_newNode RX8 (some .int) false ll_mN ll_mR ll_mK ll_cnt L xs false 90 (.inl (lo_istore 92 4)) := lk_istore (by decide +kernel)
theorem k_101_92 (L : Nat) (xs : Nat → Int32) : ll_OK1 cX8_newNode RX8 (some .int) false ll_mN ll_mR ll_mK ll_cnt L xs false 92 (.inl (lo_iload 94 5)) := lk_iload (by decide +kernel)
theorem k_101_94 (L : Nat) (xs : Nat → Int32) : ll_OK1 cX8_newNode RX8 (some .int) false ll_mN ll_mR ll_mK ll_cnt L xs false 94 (.inl (lo_aload 95 0)) := lk_aload_n (k := 0) (by decide +kernel) rfl
theorem k_101_95 (L : Nat) (xs : Nat → Int32) : ll_OK1 cX8_newNode RX8 (some .int) false ll_mN ll_mR ll_mK ll_cnt L xs false 95 (.inl (lo_getf 98 8 3)) := lk_getf (ix := 21) (ci := 8) (k := 3) (C := RX8) (T := TX8) (N := 10) (by decide +kernel) rfl in_8 (by decide) tb_359
theorem k_101_98 (L : Nat) (xs : Nat → Int32) : ll_OK1 cX8_newNode RX8 (some .int) false ll_mN ll_mR ll_mK ll_cnt L xs false 98 (.inl (lo_iload 100 8)) := lk_iload (by decide +kernel)
theorem k_101_100 (L : Nat) (xs : Nat → Int32) : ll_OK1 cX8_newNode RX8 (some .int) false ll_mN ll_mR ll_mK ll_cnt L xs false 100 (.inl (lo_ald 101 0)) := lk_iald (by decide +kernel)
theorem k_101_101 (L : Nat) (xs : Nat → Int32) : ll_OK1 cX8_newNode RX8 (some .int) false ll_mN ll_mR ll_mK ll_cnt L xs false 101 (.inl (lo_bin 102 (fun x y => x + y))) := lk_iadd (by decide +kernel)
theorem k_101_102 (L : Nat) (xs : Nat → Int32) : ll_OK1 cX8_newNode RX8 (some .int) false ll_mN ll_mR ll_mK ll_cnt L xs false 102 (.inl (lo_istore 104 5)) := lk_istore (by decide +kernel)
theorem k_101_104 (L : Nat) (xs : Nat → Int32) : ll_OK1 cX8_newNode RX8 (some .int) false ll_mN ll_mR ll_mK ll_cnt L xs false 104 (.inl (lo_iload 106 6)) := lk_iload (by decide +kernel)
theorem k_101_106 (L : Nat) (xs : Nat → Int32) : ll_OK1 cX8_newNode RX8 (some .int) false ll_mN ll_mR ll_mK ll_cnt L xs false 106 (.inl (lo_aload 107 0)) := lk_aload_n (k := 0) (by decide +kernel) rfl
theorem k_101_107 (L : Nat) (xs : Nat → Int32) : ll_OK1 cX8_newNode RX8 (some .int) false ll_mN ll_mR ll_mK ll_cnt L xs false 107 (.inl (lo_getf 110 8 4)) := lk_getf (ix := 24) (ci := 8) (k := 4) (C := RX8) (T := TX8) (N := 10) (by decide +kernel) rfl in_8 (by decide) tb_360
theorem k_101_110 (L : Nat) (xs : Nat → Int32) : ll_OK1 cX8_newNode RX8 (some .int) false ll_mN ll_mR ll_mK ll_cnt L xs false 110 (.inl (lo_iload 112 8)) := lk_iload (by decide +kernel)
theorem k_101_112 (L : Nat) (xs : Nat → Int32) : ll_OK1 cX8_newNode RX8 (some .int) false ll_mN ll_mR ll_mK ll_cnt L xs false 112 (.inl (lo_ald 113 0)) := lk_iald (by decide +kernel)
theorem k_101_113 (L : Nat) (xs : Nat → Int32) : ll_OK1 cX8_newNode RX8 (some .int) false ll_mN ll_mR ll_mK ll_cnt L xs false 113 (.inl (lo_mm 116 (fun x y => if x < y then y else x))) := lk_max (ix := 96) (by decide +kernel) tb_396 tb_219 tb_220 tb_221
theorem k_101_116 (L : Nat) (xs : Nat → Int32) : ll_OK1 cX8_newNode RX8 (some .int) false ll_mN ll_mR ll_mK ll_cnt L xs false 116 (.inl (lo_istore 118 6)) := lk_istore (by decide +kernel)
theorem k_101_118 (L : Nat) (xs : Nat → Int32) : ll_OK1 cX8_newNode RX8 (some .int) false ll_mN ll_mR ll_mK ll_cnt L xs false 118 (.inl (lo_iinc 121 7 1)) := lk_iinc (n := 1) (by decide +kernel) (by decide)
theorem k_101_121 (L : Nat) (xs : Nat → Int32) : ll_OK1 cX8_newNode RX8 (some .int) false ll_mN ll_mR ll_mK ll_cnt L xs false 121 (.inl (lo_goto 44)) := lk_goto (off := (-77)) (by decide +kernel) rfl
theorem k_101_124 (L : Nat) (xs : Nat → Int32) : ll_OK1 cX8_newNode RX8 (some .int) false ll_mN ll_mR ll_mK ll_cnt L xs false 124 (.inl (lo_aload 125 0)) := lk_aload_n (k := 0) (by decide +kernel) rfl
theorem k_101_125 (L : Nat) (xs : Nat → Int32) : ll_OK1 cX8_newNode RX8 (some .int) false ll_mN ll_mR ll_mK ll_cnt L xs false 125 (.inl (lo_getf 128 8 7)) := lk_getf (ix := 33) (ci := 8) (k := 7) (C := RX8) (T := TX8) (N := 10) (by decide +kernel) rfl in_8 (by decide) tb_363
theorem k_101_128 (L : Nat) (xs : Nat → Int32) : ll_OK1 cX8_newNode RX8 (some .int) false ll_mN ll_mR ll_mK ll_cnt L xs false 128 (.inl (lo_istore 130 7)) := lk_istore (by decide +kernel)
theorem k_101_130 (L : Nat) (xs : Nat → Int32) : ll_OK1 cX8_newNode RX8 (some .int) false ll_mN ll_mR ll_mK ll_cnt L xs false 130 (.inl (lo_aload 131 0)) := lk_aload_n (k := 0) (by decide +kernel) rfl
theorem k_101_131 (L : Nat) (xs : Nat → Int32) : ll_OK1 cX8_newNode RX8 (some .int) false ll_mN ll_mR ll_mK ll_cnt L xs false 131 (.inl (lo_getf 134 8 0)) := lk_getf (ix := 11) (ci := 8) (k := 0) (C := RX8) (T := TX8) (N := 10) (by decide +kernel) rfl in_8 (by decide) tb_356
theorem k_101_134 (L : Nat) (xs : Nat → Int32) : ll_OK1 cX8_newNode RX8 (some .int) false ll_mN ll_mR ll_mK ll_cnt L xs false 134 (.inl (lo_iload 136 7)) := lk_iload (by decide +kernel)
theorem k_101_136 (L : Nat) (xs : Nat → Int32) : ll_OK1 cX8_newNode RX8 (some .int) false ll_mN ll_mR ll_mK ll_cnt L xs false 136 (.inl (lo_iload 137 1)) := lk_iload_n (k := 1) (by decide +kernel) rfl
theorem k_101_137 (L : Nat) (xs : Nat → Int32) : ll_OK1 cX8_newNode RX8 (some .int) false ll_mN ll_mR ll_mK ll_cnt L xs false 137 (.inl (lo_ast 138 0)) := lk_iast (by decide +kernel)
theorem k_101_138 (L : Nat) (xs : Nat → Int32) : ll_OK1 cX8_newNode RX8 (some .int) false ll_mN ll_mR ll_mK ll_cnt L xs false 138 (.inl (lo_aload 139 0)) := lk_aload_n (k := 0) (by decide +kernel) rfl
theorem k_101_139 (L : Nat) (xs : Nat → Int32) : ll_OK1 cX8_newNode RX8 (some .int) false ll_mN ll_mR ll_mK ll_cnt L xs false 139 (.inl (lo_getf 142 8 1)) := lk_getf (ix := 15) (ci := 8) (k := 1) (C := RX8) (T := TX8) (N := 10) (by decide +kernel) rfl in_8 (by decide) tb_357
theorem k_101_142 (L : Nat) (xs : Nat → Int32) : ll_OK1 cX8_newNode RX8 (some .int) false ll_mN ll_mR ll_mK ll_cnt L xs false 142 (.inl (lo_iload 144 7)) := lk_iload (by decide +kernel)
theorem k_101_144 (L : Nat) (xs : Nat → Int32) : ll_OK1 cX8_newNode RX8 (some .int) false ll_mN ll_mR ll_mK ll_cnt L xs false 144 (.inl (lo_aload 145 0)) := lk_aload_n (k := 0) (by decide +kernel) rfl
theorem k_101_145 (L : Nat) (xs : Nat → Int32) : ll_OK1 cX8_newNode RX8 (some .int) false ll_mN ll_mR ll_mK ll_cnt L xs false 145 (.inl (lo_getf 148 8 8)) := lk_getf (ix := 37) (ci := 8) (k := 8) (C := RX8) (T := TX8) (N := 10) (by decide +kernel) rfl in_8 (by decide) tb_364
theorem k_101_148 (L : Nat) (xs : Nat → Int32) : ll_OK1 cX8_newNode RX8 (some .int) false ll_mN ll_mR ll_mK ll_cnt L xs false 148 (.inl (lo_ast 149 0)) := lk_iast (by decide +kernel)
theorem k_101_149 (L : Nat) (xs : Nat → Int32) : ll_OK1 cX8_newNode RX8 (some .int) false ll_mN ll_mR ll_mK ll_cnt L xs false 149 (.inl (lo_aload 150 0)) := lk_aload_n (k := 0) (by decide +kernel) rfl
theorem k_101_150 (L : Nat) (xs : Nat → Int32) : ll_OK1 cX8_newNode RX8 (some .int) false ll_mN ll_mR ll_mK ll_cnt L xs false 150 (.inl (lo_getf 153 8 2)) := lk_getf (ix := 18) (ci := 8) (k := 2) (C := RX8) (T := TX8) (N := 10) (by decide +kernel) rfl in_8 (by decide) tb_358
theorem k_101_153 (L : Nat) (xs : Nat → Int32) : ll_OK1 cX8_newNode RX8 (some .int) false ll_mN ll_mR ll_mK ll_cnt L xs false 153 (.inl (lo_iload 155 7)) := lk_iload (by decide +kernel)
theorem k_101_155 (L : Nat) (xs : Nat → Int32) : ll_OK1 cX8_newNode RX8 (some .int) false ll_mN ll_mR ll_mK ll_cnt L xs false 155 (.inl (lo_iload 156 3)) := lk_iload_n (k := 3) (by decide +kernel) rfl
theorem k_101_156 (L : Nat) (xs : Nat → Int32) : ll_OK1 cX8_newNode RX8 (some .int) false ll_mN ll_mR ll_mK ll_cnt L xs false 156 (.inl (lo_ast 157 0)) := lk_iast (by decide +kernel)
theorem k_101_157 (L : Nat) (xs : Nat → Int32) : ll_OK1 cX8_newNode RX8 (some .int) false ll_mN ll_mR ll_mK ll_cnt L xs false 157 (.inl (lo_aload 158 0)) := lk_aload_n (k := 0) (by decide +kernel) rfl
theorem k_101_158 (L : Nat) (xs : Nat → Int32) : ll_OK1 cX8_newNode RX8 (some .int) false ll_mN ll_mR ll_mK ll_cnt L xs false 158 (.inl (lo_getf 161 8 3)) := lk_getf (ix := 21) (ci := 8) (k := 3) (C := RX8) (T := TX8) (N := 10) (by decide +kernel) rfl in_8 (by decide) tb_359
theorem k_101_161 (L : Nat) (xs : Nat → Int32) : ll_OK1 cX8_newNode RX8 (some .int) false ll_mN ll_mR ll_mK ll_cnt L xs false 161 (.inl (lo_iload 163 7)) := lk_iload (by decide +kernel)
theorem k_101_163 (L : Nat) (xs : Nat → Int32) : ll_OK1 cX8_newNode RX8 (some .int) false ll_mN ll_mR ll_mK ll_cnt L xs false 163 (.inl (lo_iload 164 1)) := lk_iload_n (k := 1) (by decide +kernel) rfl
theorem k_101_164 (L : Nat) (xs : Nat → Int32) : ll_OK1 cX8_newNode RX8 (some .int) false ll_mN ll_mR ll_mK ll_cnt L xs false 164 (.inl (lo_push 165 (.int 3))) := lk_iconst (n := 3) (by decide +kernel) (by decide)
theorem k_101_165 (L : Nat) (xs : Nat → Int32) : ll_OK1 cX8_newNode RX8 (some .int) false ll_mN ll_mR ll_mK ll_cnt L xs false 165 (.inl (lo_cmp 172 168 (fun x y => decide (¬ x = y)))) := lk_icmp_ne (off := 7) (by decide +kernel) rfl
theorem k_101_168 (L : Nat) (xs : Nat → Int32) : ll_OK1 cX8_newNode RX8 (some .int) false ll_mN ll_mR ll_mK ll_cnt L xs false 168 (.inl (lo_push 169 (.int 0))) := lk_iconst (n := 0) (by decide +kernel) (by decide)
theorem k_101_169 (L : Nat) (xs : Nat → Int32) : ll_OK1 cX8_newNode RX8 (some .int) false ll_mN ll_mR ll_mK ll_cnt L xs false 169 (.inl (lo_goto 184)) := lk_goto (off := 15) (by decide +kernel) rfl
theorem k_101_172 (L : Nat) (xs : Nat → Int32) : ll_OK1 cX8_newNode RX8 (some .int) false ll_mN ll_mR ll_mK ll_cnt L xs false 172 (.inl (lo_iload 173 1)) := lk_iload_n (k := 1) (by decide +kernel) rfl
theorem k_101_173 (L : Nat) (xs : Nat → Int32) : ll_OK1 cX8_newNode RX8 (some .int) false ll_mN ll_mR ll_mK ll_cnt L xs false 173 (.inl (lo_push 174 (.int 1))) := lk_iconst (n := 1) (by decide +kernel) (by decide)
theorem k_101_174 (L : Nat) (xs : Nat → Int32) : ll_OK1 cX8_newNode RX8 (some .int) false ll_mN ll_mR ll_mK ll_cnt L xs false 174 (.inl (lo_cmp 182 177 (fun x y => decide (¬ x = y)))) := lk_icmp_ne (off := 8) (by decide +kernel) rfl
theorem k_101_177 (L : Nat) (xs : Nat → Int32) : ll_OK1 cX8_newNode RX8 (some .int) false ll_mN ll_mR ll_mK ll_cnt L xs false 177 (.inl (lo_iload 179 4)) := lk_iload (by decide +kernel)
theorem k_101_179 (L : Nat) (xs : Nat → Int32) : ll_OK1 cX8_newNode RX8 (some .int) false ll_mN ll_mR ll_mK ll_cnt L xs false 179 (.inl (lo_goto 184)) := lk_goto (off := 5) (by decide +kernel) rfl
theorem k_101_182 (L : Nat) (xs : Nat → Int32) : ll_OK1 cX8_newNode RX8 (some .int) false ll_mN ll_mR ll_mK ll_cnt L xs false 182 (.inl (lo_iload 184 5)) := lk_iload (by decide +kernel)
theorem k_101_184 (L : Nat) (xs : Nat → Int32) : ll_OK1 cX8_newNode RX8 (some .int) false ll_mN ll_mR ll_mK ll_cnt L xs false 184 (.inl (lo_ast 185 0)) := lk_iast (by decide +kernel)
theorem k_101_185 (L : Nat) (xs : Nat → Int32) : ll_OK1 cX8_newNode RX8 (some .int) false ll_mN ll_mR ll_mK ll_cnt L xs false 185 (.inl (lo_aload 186 0)) := lk_aload_n (k := 0) (by decide +kernel) rfl
theorem k_101_186 (L : Nat) (xs : Nat → Int32) : ll_OK1 cX8_newNode RX8 (some .int) false ll_mN ll_mR ll_mK ll_cnt L xs false 186 (.inl (lo_getf 189 8 4)) := lk_getf (ix := 24) (ci := 8) (k := 4) (C := RX8) (T := TX8) (N := 10) (by decide +kernel) rfl in_8 (by decide) tb_360
theorem k_101_189 (L : Nat) (xs : Nat → Int32) : ll_OK1 cX8_newNode RX8 (some .int) false ll_mN ll_mR ll_mK ll_cnt L xs false 189 (.inl (lo_iload 191 7)) := lk_iload (by decide +kernel)
theorem k_101_191 (L : Nat) (xs : Nat → Int32) : ll_OK1 cX8_newNode RX8 (some .int) false ll_mN ll_mR ll_mK ll_cnt L xs false 191 (.inl (lo_iload 192 1)) := lk_iload_n (k := 1) (by decide +kernel) rfl
theorem k_101_192 (L : Nat) (xs : Nat → Int32) : ll_OK1 cX8_newNode RX8 (some .int) false ll_mN ll_mR ll_mK ll_cnt L xs false 192 (.inl (lo_push 193 (.int 3))) := lk_iconst (n := 3) (by decide +kernel) (by decide)
theorem k_101_193 (L : Nat) (xs : Nat → Int32) : ll_OK1 cX8_newNode RX8 (some .int) false ll_mN ll_mR ll_mK ll_cnt L xs false 193 (.inl (lo_cmp 203 196 (fun x y => decide (¬ x = y)))) := lk_icmp_ne (off := 10) (by decide +kernel) rfl
theorem k_101_196 (L : Nat) (xs : Nat → Int32) : ll_OK1 cX8_newNode RX8 (some .int) false ll_mN ll_mR ll_mK ll_cnt L xs false 196 (.inl (lo_iload 198 6)) := lk_iload (by decide +kernel)
theorem k_101_198 (L : Nat) (xs : Nat → Int32) : ll_OK1 cX8_newNode RX8 (some .int) false ll_mN ll_mR ll_mK ll_cnt L xs false 198 (.inl (lo_push 199 (.int 1))) := lk_iconst (n := 1) (by decide +kernel) (by decide)
theorem k_101_199 (L : Nat) (xs : Nat → Int32) : ll_OK1 cX8_newNode RX8 (some .int) false ll_mN ll_mR ll_mK ll_cnt L xs false 199 (.inl (lo_bin 200 (fun x y => x + y))) := lk_iadd (by decide +kernel)
theorem k_101_200 (L : Nat) (xs : Nat → Int32) : ll_OK1 cX8_newNode RX8 (some .int) false ll_mN ll_mR ll_mK ll_cnt L xs false 200 (.inl (lo_goto 205)) := lk_goto (off := 5) (by decide +kernel) rfl
theorem k_101_203 (L : Nat) (xs : Nat → Int32) : ll_OK1 cX8_newNode RX8 (some .int) false ll_mN ll_mR ll_mK ll_cnt L xs false 203 (.inl (lo_iload 205 6)) := lk_iload (by decide +kernel)
theorem k_101_205 (L : Nat) (xs : Nat → Int32) : ll_OK1 cX8_newNode RX8 (some .int) false ll_mN ll_mR ll_mK ll_cnt L xs false 205 (.inl (lo_ast 206 0)) := lk_iast (by decide +kernel)
theorem k_101_206 (L : Nat) (xs : Nat → Int32) : ll_OK1 cX8_newNode RX8 (some .int) false ll_mN ll_mR ll_mK ll_cnt L xs false 206 (.inl (lo_aload 207 0)) := lk_aload_n (k := 0) (by decide +kernel) rfl
theorem k_101_207 (L : Nat) (xs : Nat → Int32) : ll_OK1 cX8_newNode RX8 (some .int) false ll_mN ll_mR ll_mK ll_cnt L xs false 207 (.inl (lo_dup 208)) := lk_dup (by decide +kernel)
theorem k_101_208 (L : Nat) (xs : Nat → Int32) : ll_OK1 cX8_newNode RX8 (some .int) false ll_mN ll_mR ll_mK ll_cnt L xs false 208 (.inl (lo_getf 211 8 8)) := lk_getf (ix := 37) (ci := 8) (k := 8) (C := RX8) (T := TX8) (N := 10) (by decide +kernel) rfl in_8 (by decide) tb_364
theorem k_101_211 (L : Nat) (xs : Nat → Int32) : ll_OK1 cX8_newNode RX8 (some .int) false ll_mN ll_mR ll_mK ll_cnt L xs false 211 (.inl (lo_iload 212 3)) := lk_iload_n (k := 3) (by decide +kernel) rfl
theorem k_101_212 (L : Nat) (xs : Nat → Int32) : ll_OK1 cX8_newNode RX8 (some .int) false ll_mN ll_mR ll_mK ll_cnt L xs false 212 (.inl (lo_bin 213 (fun x y => x + y))) := lk_iadd (by decide +kernel)
theorem k_101_213 (L : Nat) (xs : Nat → Int32) : ll_OK1 cX8_newNode RX8 (some .int) false ll_mN ll_mR ll_mK ll_cnt L xs false 213 (.inl (lo_putf 216 8 8 0)) := lk_putf (ix := 37) (ci := 8) (k := 8) (C := RX8) (T := TX8) (N := 10) (ty0 := tyX8) (by decide +kernel) rfl in_8 tyX8_ok nmX8 (by decide) tb_364 (fun B adr v w h1 h2 => ll_fit_int (B := B) (adr := adr) h1 h2) (Or.inl rfl)
theorem k_101_216 (L : Nat) (xs : Nat → Int32) : ll_OK1 cX8_newNode RX8 (some .int) false ll_mN ll_mR ll_mK ll_cnt L xs false 216 (.inl (lo_aload 217 0)) := lk_aload_n (k := 0) (by decide +kernel) rfl
theorem k_101_217 (L : Nat) (xs : Nat → Int32) : ll_OK1 cX8_newNode RX8 (some .int) false ll_mN ll_mR ll_mK ll_cnt L xs false 217 (.inl (lo_dup 218)) := lk_dup (by decide +kernel)
theorem k_101_218 (L : Nat) (xs : Nat → Int32) : ll_OK1 cX8_newNode RX8 (some .int) false ll_mN ll_mR ll_mK ll_cnt L xs false 218 (.inl (lo_getf 221 8 7)) := lk_getf (ix := 33) (ci := 8) (k := 7) (C := RX8) (T := TX8) (N := 10) (by decide +kernel) rfl in_8 (by decide) tb_363
theorem k_101_221 (L : Nat) (xs : Nat → Int32) : ll_OK1 cX8_newNode RX8 (some .int) false ll_mN ll_mR ll_mK ll_cnt L xs false 221 (.inl (lo_push 222 (.int 1))) := lk_iconst (n := 1) (by decide +kernel) (by decide)
theorem k_101_222 (L : Nat) (xs : Nat → Int32) : ll_OK1 cX8_newNode RX8 (some .int) false ll_mN ll_mR ll_mK ll_cnt L xs false 222 (.inl (lo_bin 223 (fun x y => x + y))) := lk_iadd (by decide +kernel)
theorem k_101_223 (L : Nat) (xs : Nat → Int32) : ll_OK1 cX8_newNode RX8 (some .int) false ll_mN ll_mR ll_mK ll_cnt L xs false 223 (.inl (lo_putf 226 8 7 0)) := lk_putf (ix := 33) (ci := 8) (k := 7) (C := RX8) (T := TX8) (N := 10) (ty0 := tyX8) (by decide +kernel) rfl in_8 tyX8_ok nmX8 (by decide) tb_363 (fun B adr v w h1 h2 => ll_fit_int (B := B) (adr := adr) h1 h2) (Or.inl rfl)
theorem k_101_226 (L : Nat) (xs : Nat → Int32) : ll_OK1 cX8_newNode RX8 (some .int) false ll_mN ll_mR ll_mK ll_cnt L xs false 226 (.inl (lo_iload 228 7)) := lk_iload (by decide +kernel)
theorem k_101_228 (L : Nat) (xs : Nat → Int32) : ll_OK1 cX8_newNode RX8 (some .int) false ll_mN ll_mR ll_mK ll_cnt L xs false 228 (.inr (.inr 1)) := ⟨(fun h => by cases h), (fun _ => ⟨(by decide +kernel), rfl⟩), fun h => by cases h⟩
theorem ok_101 (L : Nat) (xs : Nat → Int32) : ∀ q ∈ cd_101, ll_OK1 cX8_newNode RX8 (some .int) false ll_mN ll_mR ll_mK ll_cnt L xs false q.1 q.2 :=
  List.forall_mem_cons.mpr ⟨k_101_0 L xs, List.forall_mem_cons.mpr ⟨k_101_1 L xs, List.forall_mem_cons.mpr ⟨k_101_4 L xs, List.forall_mem_cons.mpr ⟨k_101_5 L xs, List.forall_mem_cons.mpr ⟨k_101_6 L xs, List.forall_mem_cons.mpr ⟨k_101_7 L xs, List.forall_mem_cons.mpr ⟨k_101_8 L xs, List.forall_mem_cons.mpr ⟨k_101_11 L xs, List.forall_mem_cons.mpr ⟨k_101_14 L xs, List.forall_mem_cons.mpr ⟨k_101_17 L xs, List.forall_mem_cons.mpr ⟨k_101_18 L xs, List.forall_mem_cons.mpr ⟨k_101_21 L xs, List.forall_mem_cons.mpr ⟨k_101_22 L xs, List.forall_mem_cons.mpr ⟨k_101_23 L xs, List.forall_mem_cons.mpr ⟨k_101_26 L xs, List.forall_mem_cons.mpr ⟨k_101_29 L xs, List.forall_mem_cons.mpr ⟨k_101_30 L xs, List.forall_mem_cons.mpr ⟨k_101_31 L xs, List.forall_mem_cons.mpr ⟨k_101_33 L xs, List.forall_mem_cons.mpr ⟨k_101_35 L xs, List.forall_mem_cons.mpr ⟨k_101_36 L xs, List.forall_mem_cons.mpr ⟨k_101_38 L xs, List.forall_mem_cons.mpr ⟨k_101_39 L xs, List.forall_mem_cons.mpr ⟨k_101_41 L xs, List.forall_mem_cons.mpr ⟨k_101_42 L xs, List.forall_mem_cons.mpr ⟨k_101_44 L xs, List.forall_mem_cons.mpr ⟨k_101_46 L xs, List.forall_mem_cons.mpr ⟨k_101_47 L xs, List.forall_mem_cons.mpr ⟨k_101_50 L xs, List.forall_mem_cons.mpr ⟨k_101_53 L xs, List.forall_mem_cons.mpr ⟨k_101_54 L xs, List.forall_mem_cons.mpr ⟨k_101_57 L xs, List.forall_mem_cons.mpr ⟨k_101_59 L xs, List.forall_mem_cons.mpr ⟨k_101_60 L xs, List.forall_mem_cons.mpr ⟨k_101_62 L xs, List.forall_mem_cons.mpr ⟨k_101_63 L xs, List.forall_mem_cons.mpr ⟨k_101_66 L xs, List.forall_mem_cons.mpr ⟨k_101_67 L xs, List.forall_mem_cons.mpr ⟨k_101_70 L xs, List.forall_mem_cons.mpr ⟨k_101_72 L xs, List.forall_mem_cons.mpr ⟨k_101_73 L xs, List.forall_mem_cons.mpr ⟨k_101_74 L xs, List.forall_mem_cons.mpr ⟨k_101_75 L xs, List.forall_mem_cons.mpr ⟨k_101_77 L xs, List.forall_mem_cons.mpr ⟨k_101_78 L xs, List.forall_mem_cons.mpr ⟨k_101_80 L xs, List.forall_mem_cons.mpr ⟨k_101_81 L xs, List.forall_mem_cons.mpr ⟨k_101_84 L xs, List.forall_mem_cons.mpr ⟨k_101_86 L xs, List.forall_mem_cons.mpr ⟨k_101_87 L xs, List.forall_mem_cons.mpr ⟨k_101_90 L xs, List.forall_mem_cons.mpr ⟨k_101_92 L xs, List.forall_mem_cons.mpr ⟨k_101_94 L xs, List.forall_mem_cons.mpr ⟨k_101_95 L xs, List.forall_mem_cons.mpr ⟨k_101_98 L xs, List.forall_mem_cons.mpr ⟨k_101_100 L xs, List.forall_mem_cons.mpr ⟨k_101_101 L xs, List.forall_mem_cons.mpr ⟨k_101_102 L xs, List.forall_mem_cons.mpr ⟨k_101_104 L xs, List.forall_mem_cons.mpr ⟨k_101_106 L xs, List.forall_mem_cons.mpr ⟨k_101_107 L xs, List.forall_mem_cons.mpr ⟨k_101_110 L xs, List.forall_mem_cons.mpr ⟨k_101_112 L xs, List.forall_mem_cons.mpr ⟨k_101_113 L xs, List.forall_mem_cons.mpr ⟨k_101_116 L xs, List.forall_mem_cons.mpr ⟨k_101_118 L xs, List.forall_mem_cons.mpr ⟨k_101_121 L xs, List.forall_mem_cons.mpr ⟨k_101_124 L xs, List.forall_mem_cons.mpr ⟨k_101_125 L xs, List.forall_mem_cons.mpr ⟨k_101_128 L xs, List.forall_mem_cons.mpr ⟨k_101_130 L xs, List.forall_mem_cons.mpr ⟨k_101_131 L xs, List.forall_mem_cons.mpr ⟨k_101_134 L xs, List.forall_mem_cons.mpr ⟨k_101_136 L xs, List.forall_mem_cons.mpr ⟨k_101_137 L xs, List.forall_mem_cons.mpr ⟨k_101_138 L xs, List.forall_mem_cons.mpr ⟨k_101_139 L xs, List.forall_mem_cons.mpr ⟨k_101_142 L xs, List.forall_mem_cons.mpr ⟨k_101_144 L xs, List.forall_mem_cons.mpr ⟨k_101_145 L xs, List.forall_mem_cons.mpr ⟨k_101_148 L xs, List.forall_mem_cons.mpr ⟨k_101_149 L xs, List.forall_mem_cons.mpr ⟨k_101_150 L xs, List.forall_mem_cons.mpr ⟨k_101_153 L xs, List.forall_mem_cons.mpr ⟨k_101_155 L xs, List.forall_mem_cons.mpr ⟨k_101_156 L xs, List.forall_mem_cons.mpr ⟨k_101_157 L xs, List.forall_mem_cons.mpr ⟨k_101_158 L xs, List.forall_mem_cons.mpr ⟨k_101_161 L xs, List.forall_mem_cons.mpr ⟨k_101_163 L xs, List.forall_mem_cons.mpr ⟨k_101_164 L xs, List.forall_mem_cons.mpr ⟨k_101_165 L xs, List.forall_mem_cons.mpr ⟨k_101_168 L xs, List.forall_mem_cons.mpr ⟨k_101_169 L xs, List.forall_mem_cons.mpr ⟨k_101_172 L xs, List.forall_mem_cons.mpr ⟨k_101_173 L xs, List.forall_mem_cons.mpr ⟨k_101_174 L xs, List.forall_mem_cons.mpr ⟨k_101_177 L xs, List.forall_mem_cons.mpr ⟨k_101_179 L xs, List.forall_mem_cons.mpr ⟨k_101_182 L xs, List.forall_mem_cons.mpr ⟨k_101_184 L xs, List.forall_mem_cons.mpr ⟨k_101_185 L xs, List.forall_mem_cons.mpr ⟨k_101_186 L xs, List.forall_mem_cons.mpr ⟨k_101_189 L xs, List.forall_mem_cons.mpr ⟨k_101_191 L xs, List.forall_mem_cons.mpr ⟨k_101_192 L xs, List.forall_mem_cons.mpr ⟨k_101_193 L xs, List.forall_mem_cons.mpr ⟨k_101_196 L xs, List.forall_mem_cons.mpr ⟨k_101_198 L xs, List.forall_mem_cons.mpr ⟨k_101_199 L xs, List.forall_mem_cons.mpr ⟨k_101_200 L xs, List.forall_mem_cons.mpr ⟨k_101_203 L xs, List.forall_mem_cons.mpr ⟨k_101_205 L xs, List.forall_mem_cons.mpr ⟨k_101_206 L xs, List.forall_mem_cons.mpr ⟨k_101_207 L xs, List.forall_mem_cons.mpr ⟨k_101_208 L xs, List.forall_mem_cons.mpr ⟨k_101_211 L xs, List.forall_mem_cons.mpr ⟨k_101_212 L xs, List.forall_mem_cons.mpr ⟨k_101_213 L xs, List.forall_mem_cons.mpr ⟨k_101_216 L xs, List.forall_mem_cons.mpr ⟨k_101_217 L xs, List.forall_mem_cons.mpr ⟨k_101_218 L xs, List.forall_mem_cons.mpr ⟨k_101_221 L xs, List.forall_mem_cons.mpr ⟨k_101_222 L xs, List.forall_mem_cons.mpr ⟨k_101_223 L xs, List.forall_mem_cons.mpr ⟨k_101_226 L xs, List.forall_mem_cons.mpr ⟨k_101_228 L xs, fun _ h => absurd h List.not_mem_nil⟩⟩⟩⟩⟩⟩⟩⟩⟩⟩⟩⟩⟩⟩⟩⟩⟩⟩⟩⟩⟩⟩⟩⟩⟩⟩⟩⟩⟩⟩⟩⟩⟩⟩⟩⟩⟩⟩⟩⟩⟩⟩⟩⟩⟩⟩⟩⟩⟩⟩⟩⟩⟩⟩⟩⟩⟩⟩⟩⟩⟩⟩⟩⟩⟩⟩⟩⟩⟩⟩⟩⟩⟩⟩⟩⟩⟩⟩⟩⟩⟩⟩⟩⟩⟩⟩⟩⟩⟩⟩⟩⟩⟩⟩⟩⟩⟩⟩⟩⟩⟩⟩⟩⟩⟩⟩⟩⟩⟩⟩⟩⟩⟩⟩⟩⟩⟩⟩⟩⟩⟩⟩⟩⟩⟩⟩⟩
/-- InclusionProver$WordCounter.<init>.(LInclusionProver$Side;LInclusionProver$Side;)V -/
def cd_102 : List (Nat × ll_O) := [
  (0, .inl (lo_aload 1 0)),
  (1, .inl (lo_init 4)),
  (4, .inl (lo_aload 5 0)),
  (5, .inl (lo_push 8 (.int 512))),
  (8, .inl (lo_newa 10 0)),
  (10, .inl (lo_putf 13 9 0 2)),
  (13, .inl (lo_aload 14 0)),
  (14, .inl (lo_push 17 (.int 512))),
  (17, .inl (lo_newa 19 0)),
  (19, .inl (lo_putf 22 9 1 2)),
  (22, .inl (lo_aload 23 0)),
  (23, .inl (lo_push 26 (.int 512))),
  (26, .inl (lo_newa 28 0)),
  (28, .inl (lo_putf 31 9 2 2)),
  (31, .inl (lo_aload 32 0)),
  (32, .inl (lo_push 35 (.int 512))),
  (35, .inl (lo_newa 37 0)),
  (37, .inl (lo_putf 40 9 3 2)),
  (40, .inl (lo_aload 41 0)),
  (41, .inl (lo_aload 42 1)),
  (42, .inl (lo_putf 45 9 4 2)),
  (45, .inl (lo_aload 46 0)),
  (46, .inl (lo_aload 47 2)),
  (47, .inl (lo_putf 50 9 5 2)),
  (50, .inr (.inr 0))]
theorem k_102_0 (L : Nat) (xs : Nat → Int32) : ll_OK1 cX9_init RX9 none true ll_mN ll_mR ll_mK ll_cnt L xs false 0 (.inl (lo_aload 1 0)) := lk_aload_n (k := 0) (by decide +kernel) rfl
theorem k_102_1 (L : Nat) (xs : Nat → Int32) : ll_OK1 cX9_init RX9 none true ll_mN ll_mR ll_mK ll_cnt L xs false 1 (.inl (lo_init 4)) := lk_init (ix := 3) (by decide +kernel) tb_397 tb_1 tb_2
theorem k_102_4 (L : Nat) (xs : Nat → Int32) : ll_OK1 cX9_init RX9 none true ll_mN ll_mR ll_mK ll_cnt L xs false 4 (.inl (lo_aload 5 0)) := lk_aload_n (k := 0) (by decide +kernel) rfl
theorem k_102_5 (L : Nat) (xs : Nat → Int32) : ll_OK1 cX9_init RX9 none true ll_mN ll_mR ll_mK ll_cnt L xs false 5 (.inl (lo_push 8 (.int 512))) := lk_sipush (n := 512) (by decide +kernel) (by decide)
theorem k_102_8 (L : Nat) (xs : Nat → Int32) : ll_OK1 cX9_init RX9 none true ll_mN ll_mR ll_mK ll_cnt L xs false 8 (.inl (lo_newa 10 0)) := lk_newa_int (by decide +kernel) tb_61
theorem k_102_10 (L : Nat) (xs : Nat → Int32) : ll_OK1 cX9_init RX9 none true ll_mN ll_mR ll_mK ll_cnt L xs false 10 (.inl (lo_putf 13 9 0 2)) := lk_putf (ix := 11) (ci := 9) (k := 0) (C := RX9) (T := TX9) (N := 7) (ty0 := tyX9) (by decide +kernel) rfl in_9 tyX9_ok nmX9 (by decide) tb_398 (fun B adr v w h1 h2 => ll_fit_arr (B := B) (adr := adr) h1 h2) (Or.inr ⟨rfl, rfl, rfl⟩)
theorem k_102_13 (L : Nat) (xs : Nat → Int32) : ll_OK1 cX9_init RX9 none true ll_mN ll_mR ll_mK ll_cnt L xs false 13 (.inl (lo_aload 14 0)) := lk_aload_n (k := 0) (by decide +kernel) rfl
theorem k_102_14 (L : Nat) (xs : Nat → Int32) : ll_OK1 cX9_init RX9 none true ll_mN ll_mR ll_mK ll_cnt L xs false 14 (.inl (lo_push 17 (.int 512))) := lk_sipush (n := 512) (by decide +kernel) (by decide)
theorem k_102_17 (L : Nat) (xs : Nat → Int32) : ll_OK1 cX9_init RX9 none true ll_mN ll_mR ll_mK ll_cnt L xs false 17 (.inl (lo_newa 19 0)) := lk_newa_int (by decide +kernel) tb_61
theorem k_102_19 (L : Nat) (xs : Nat → Int32) : ll_OK1 cX9_init RX9 none true ll_mN ll_mR ll_mK ll_cnt L xs false 19 (.inl (lo_putf 22 9 1 2)) := lk_putf (ix := 15) (ci := 9) (k := 1) (C := RX9) (T := TX9) (N := 7) (ty0 := tyX9) (by decide +kernel) rfl in_9 tyX9_ok nmX9 (by decide) tb_399 (fun B adr v w h1 h2 => ll_fit_arr (B := B) (adr := adr) h1 h2) (Or.inr ⟨rfl, rfl, rfl⟩)
theorem k_102_22 (L : Nat) (xs : Nat → Int32) : ll_OK1 cX9_init RX9 none true ll_mN ll_mR ll_mK ll_cnt L xs false 22 (.inl (lo_aload 23 0)) := lk_aload_n (k := 0) (by decide +kernel) rfl
theorem k_102_23 (L : Nat) (xs : Nat → Int32) : ll_OK1 cX9_init RX9 none true ll_mN ll_mR ll_mK ll_cnt L xs false 23 (.inl (lo_push 26 (.int 512))) := lk_sipush (n := 512) (by decide +kernel) (by decide)
theorem k_102_26 (L : Nat) (xs : Nat → Int32) : ll_OK1 cX9_init RX9 none true ll_mN ll_mR ll_mK ll_cnt L xs false 26 (.inl (lo_newa 28 0)) := lk_newa_int (by decide +kernel) tb_61
theorem k_102_28 (L : Nat) (xs : Nat → Int32) : ll_OK1 cX9_init RX9 none true ll_mN ll_mR ll_mK ll_cnt L xs false 28 (.inl (lo_putf 31 9 2 2)) := lk_putf (ix := 18) (ci := 9) (k := 2) (C := RX9) (T := TX9) (N := 7) (ty0 := tyX9) (by decide +kernel) rfl in_9 tyX9_ok nmX9 (by decide) tb_400 (fun B adr v w h1 h2 => ll_fit_arr (B := B) (adr := adr) h1 h2) (Or.inr ⟨rfl, rfl, rfl⟩)
theorem k_102_31 (L : Nat) (xs : Nat → Int32) : ll_OK1 cX9_init RX9 none true ll_mN ll_mR ll_mK ll_cnt L xs false 31 (.inl (lo_aload 32 0)) := lk_aload_n (k := 0) (by decide +kernel) rfl
theorem k_102_32 (L : Nat) (xs : Nat → Int32) : ll_OK1 cX9_init RX9 none true ll_mN ll_mR ll_mK ll_cnt L xs false 32 (.inl (lo_push 35 (.int 512))) := lk_sipush (n := 512) (by decide +kernel) (by decide)
theorem k_102_35 (L : Nat) (xs : Nat → Int32) : ll_OK1 cX9_init RX9 none true ll_mN ll_mR ll_mK ll_cnt L xs false 35 (.inl (lo_newa 37 0)) := lk_newa_int (by decide +kernel) tb_61
theorem k_102_37 (L : Nat) (xs : Nat → Int32) : ll_OK1 cX9_init RX9 none true ll_mN ll_mR ll_mK ll_cnt L xs false 37 (.inl (lo_putf 40 9 3 2)) := lk_putf (ix := 21) (ci := 9) (k := 3) (C := RX9) (T := TX9) (N := 7) (ty0 := tyX9) (by decide +kernel) rfl in_9 tyX9_ok nmX9 (by decide) tb_401 (fun B adr v w h1 h2 => ll_fit_arr (B := B) (adr := adr) h1 h2) (Or.inr ⟨rfl, rfl, rfl⟩)
theorem k_102_40 (L : Nat) (xs : Nat → Int32) : ll_OK1 cX9_init RX9 none true ll_mN ll_mR ll_mK ll_cnt L xs false 40 (.inl (lo_aload 41 0)) := lk_aload_n (k := 0) (by decide +kernel) rfl
theorem k_102_41 (L : Nat) (xs : Nat → Int32) : ll_OK1 cX9_init RX9 none true ll_mN ll_mR ll_mK ll_cnt L xs false 41 (.inl (lo_aload 42 1)) := lk_aload_n (k := 1) (by decide +kernel) rfl
theorem k_102_42 (L : Nat) (xs : Nat → Int32) : ll_OK1 cX9_init RX9 none true ll_mN ll_mR ll_mK ll_cnt L xs false 42 (.inl (lo_putf 45 9 4 2)) := lk_putf (ix := 24) (ci := 9) (k := 4) (C := RX9) (T := TX9) (N := 7) (ty0 := tyX9) (by decide +kernel) rfl in_9 tyX9_ok nmX9 (by decide) tb_402 (fun B adr v w h1 h2 => ll_fit_obj (B := B) (adr := adr) h1 h2) (Or.inl rfl)
theorem k_102_45 (L : Nat) (xs : Nat → Int32) : ll_OK1 cX9_init RX9 none true ll_mN ll_mR ll_mK ll_cnt L xs false 45 (.inl (lo_aload 46 0)) := lk_aload_n (k := 0) (by decide +kernel) rfl
theorem k_102_46 (L : Nat) (xs : Nat → Int32) : ll_OK1 cX9_init RX9 none true ll_mN ll_mR ll_mK ll_cnt L xs false 46 (.inl (lo_aload 47 2)) := lk_aload_n (k := 2) (by decide +kernel) rfl
theorem k_102_47 (L : Nat) (xs : Nat → Int32) : ll_OK1 cX9_init RX9 none true ll_mN ll_mR ll_mK ll_cnt L xs false 47 (.inl (lo_putf 50 9 5 2)) := lk_putf (ix := 28) (ci := 9) (k := 5) (C := RX9) (T := TX9) (N := 7) (ty0 := tyX9) (by decide +kernel) rfl in_9 tyX9_ok nmX9 (by decide) tb_403 (fun B adr v w h1 h2 => ll_fit_obj (B := B) (adr := adr) h1 h2) (Or.inl rfl)
theorem k_102_50 (L : Nat) (xs : Nat → Int32) : ll_OK1 cX9_init RX9 none true ll_mN ll_mR ll_mK ll_cnt L xs false 50 (.inr (.inr 0)) := ⟨fun _ => ⟨(by decide +kernel), rfl⟩, (fun h => by cases h), fun h => by cases h⟩
theorem ok_102 (L : Nat) (xs : Nat → Int32) : ∀ q ∈ cd_102, ll_OK1 cX9_init RX9 none true ll_mN ll_mR ll_mK ll_cnt L xs false q.1 q.2 :=
  List.forall_mem_cons.mpr ⟨k_102_0 L xs, List.forall_mem_cons.mpr ⟨k_102_1 L xs, List.forall_mem_cons.mpr ⟨k_102_4 L xs, List.forall_mem_cons.mpr ⟨k_102_5 L xs, List.forall_mem_cons.mpr ⟨k_102_8 L xs, List.forall_mem_cons.mpr ⟨k_102_10 L xs, List.forall_mem_cons.mpr ⟨k_102_13 L xs, List.forall_mem_cons.mpr ⟨k_102_14 L xs, List.forall_mem_cons.mpr ⟨k_102_17 L xs, List.forall_mem_cons.mpr ⟨k_102_19 L xs, List.forall_mem_cons.mpr ⟨k_102_22 L xs, List.forall_mem_cons.mpr ⟨k_102_23 L xs, List.forall_mem_cons.mpr ⟨k_102_26 L xs, List.forall_mem_cons.mpr ⟨k_102_28 L xs, List.forall_mem_cons.mpr ⟨k_102_31 L xs, List.forall_mem_cons.mpr ⟨k_102_32 L xs, List.forall_mem_cons.mpr ⟨k_102_35 L xs, List.forall_mem_cons.mpr ⟨k_102_37 L xs, List.forall_mem_cons.mpr ⟨k_102_40 L xs, List.forall_mem_cons.mpr ⟨k_102_41 L xs, List.forall_mem_cons.mpr ⟨k_102_42 L xs, List.forall_mem_cons.mpr ⟨k_102_45 L xs, List.forall_mem_cons.mpr ⟨k_102_46 L xs, List.forall_mem_cons.mpr ⟨k_102_47 L xs, List.forall_mem_cons.mpr ⟨k_102_50 L xs, fun _ h => absurd h List.not_mem_nil⟩⟩⟩⟩⟩⟩⟩⟩⟩⟩⟩⟩⟩⟩⟩⟩⟩⟩⟩⟩⟩⟩⟩⟩⟩
/-- InclusionProver$WordCounter.howMany.(LInclusionProver$Side;LInclusionProver$Side;II)I -/
def cd_103 : List (Nat × ll_O) := [
  (0, .inl (lo_aload 1 0)),
  (1, .inl (lo_aload 2 1)),
  (2, .inl (lo_aload 3 2)),
  (3, .inl (lo_iload 4 3)),
  (4, .inr (.inl (105, 4, 7))),
  (7, .inl (lo_aload 8 0)),
  (8, .inl (lo_aload 9 0)),
  (9, .inr (.inl (106, 1, 12))),
  (12, .inl (lo_aload 13 0)),
  (13, .inr (.inl (107, 1, 16))),
  (16, .inl (lo_iload 18 4)),
  (18, .inr (.inl (109, 4, 21))),
  (21, .inr (.inr 1))]
theorem k_103_0 (L : Nat) (xs : Nat → Int32) : ll_OK1 cX9_howMany RX9 (some .int) false ll_mN ll_mR ll_mK ll_cnt L xs false 0 (.inl (lo_aload 1 0)) := lk_aload_n (k := 0) (by decide +kernel) rfl
theorem k_103_1 (L : Nat) (xs : Nat → Int32) : ll_OK1 cX9_howMany RX9 (some .int) false ll_mN ll_mR ll_mK ll_cnt L xs false 1 (.inl (lo_aload 2 1)) := lk_aload_n (k := 1) (by decide +kernel) rfl
theorem k_103_2 (L : Nat) (xs : Nat → Int32) : ll_OK1 cX9_howMany RX9 (some .int) false ll_mN ll_mR ll_mK ll_cnt L xs false 2 (.inl (lo_aload 3 2)) := lk_aload_n (k := 2) (by decide +kernel) rfl
theorem k_103_3 (L : Nat) (xs : Nat → Int32) : ll_OK1 cX9_howMany RX9 (some .int) false ll_mN ll_mR ll_mK ll_cnt L xs false 3 (.inl (lo_iload 4 3)) := lk_iload_n (k := 3) (by decide +kernel) rfl
theorem k_103_4 (L : Nat) (xs : Nat → Int32) : ll_OK1 cX9_howMany RX9 (some .int) false ll_mN ll_mR ll_mK ll_cnt L xs false 4 (.inr (.inl (105, 4, 7))) := ⟨rfl, by decide, by rw [mN_105, mK_105, mR_105]; exact lj_v 31 3 9 (RX9, TX9, 7) (by decide +kernel) tb_404 tb_405 tb_406 rfl rfl rfl rfl (by decide +kernel)⟩
theorem k_103_7 (L : Nat) (xs : Nat → Int32) : ll_OK1 cX9_howMany RX9 (some .int) false ll_mN ll_mR ll_mK ll_cnt L xs false 7 (.inl (lo_aload 8 0)) := lk_aload_n (k := 0) (by decide +kernel) rfl
theorem k_103_8 (L : Nat) (xs : Nat → Int32) : ll_OK1 cX9_howMany RX9 (some .int) false ll_mN ll_mR ll_mK ll_cnt L xs false 8 (.inl (lo_aload 9 0)) := lk_aload_n (k := 0) (by decide +kernel) rfl
theorem k_103_9 (L : Nat) (xs : Nat → Int32) : ll_OK1 cX9_howMany RX9 (some .int) false ll_mN ll_mR ll_mK ll_cnt L xs false 9 (.inr (.inl (106, 1, 12))) := ⟨rfl, by decide, by rw [mN_106, mK_106, mR_106]; exact lj_v 35 0 9 (RX9, TX9, 7) (by decide +kernel) tb_407 tb_408 tb_409 rfl rfl rfl rfl (by decide +kernel)⟩
theorem k_103_12 (L : Nat) (xs : Nat → Int32) : ll_OK1 cX9_howMany RX9 (some .int) false ll_mN ll_mR ll_mK ll_cnt L xs false 12 (.inl (lo_aload 13 0)) := lk_aload_n (k := 0) (by decide +kernel) rfl
theorem k_103_13 (L : Nat) (xs : Nat → Int32) : ll_OK1 cX9_howMany RX9 (some .int) false ll_mN ll_mR ll_mK ll_cnt L xs false 13 (.inr (.inl (107, 1, 16))) := ⟨rfl, by decide, by rw [mN_107, mK_107, mR_107]; exact lj_v 39 0 9 (RX9, TX9, 7) (by decide +kernel) tb_410 tb_411 tb_412 rfl rfl rfl rfl (by decide +kernel)⟩
theorem k_103_16 (L : Nat) (xs : Nat → Int32) : ll_OK1 cX9_howMany RX9 (some .int) false ll_mN ll_mR ll_mK ll_cnt L xs false 16 (.inl (lo_iload 18 4)) := lk_iload (by decide +kernel)
theorem k_103_18 (L : Nat) (xs : Nat → Int32) : ll_OK1 cX9_howMany RX9 (some .int) false ll_mN ll_mR ll_mK ll_cnt L xs false 18 (.inr (.inl (109, 4, 21))) := ⟨rfl, by decide, by rw [mN_109, mK_109, mR_109]; exact lj_v 42 3 9 (RX9, TX9, 7) (by decide +kernel) tb_413 tb_414 tb_415 rfl rfl rfl rfl (by decide +kernel)⟩
theorem k_103_21 (L : Nat) (xs : Nat → Int32) : ll_OK1 cX9_howMany RX9 (some .int) false ll_mN ll_mR ll_mK ll_cnt L xs false 21 (.inr (.inr 1)) := ⟨(fun h => by cases h), (fun _ => ⟨(by decide +kernel), rfl⟩), fun h => by cases h⟩
theorem ok_103 (L : Nat) (xs : Nat → Int32) : ∀ q ∈ cd_103, ll_OK1 cX9_howMany RX9 (some .int) false ll_mN ll_mR ll_mK ll_cnt L xs false q.1 q.2 :=
  List.forall_mem_cons.mpr ⟨k_103_0 L xs, List.forall_mem_cons.mpr ⟨k_103_1 L xs, List.forall_mem_cons.mpr ⟨k_103_2 L xs, List.forall_mem_cons.mpr ⟨k_103_3 L xs, List.forall_mem_cons.mpr ⟨k_103_4 L xs, List.forall_mem_cons.mpr ⟨k_103_7 L xs, List.forall_mem_cons.mpr ⟨k_103_8 L xs, List.forall_mem_cons.mpr ⟨k_103_9 L xs, List.forall_mem_cons.mpr ⟨k_103_12 L xs, List.forall_mem_cons.mpr ⟨k_103_13 L xs, List.forall_mem_cons.mpr ⟨k_103_16 L xs, List.forall_mem_cons.mpr ⟨k_103_18 L xs, List.forall_mem_cons.mpr ⟨k_103_21 L xs, fun _ h => absurd h List.not_mem_nil⟩⟩⟩⟩⟩⟩⟩⟩⟩⟩⟩⟩⟩
/-- InclusionProver$WordCounter.nth.(LInclusionProver$Side;LInclusionProver$Side;III)I -/
def cd_104 : List (Nat × ll_O) := [
  (0, .inl (lo_iload 2 5)),
  (2, .inl (lo_aload 3 0)),
  (3, .inl (lo_aload 4 1)),
  (4, .inl (lo_aload 5 2)),
  (5, .inl (lo_iload 6 3)),
  (6, .inl (lo_iload 8 4)),
  (8, .inr (.inl (103, 5, 11))),
  (11, .inl (lo_cmp 16 14 (fun x y => decide (x < y)))),
  (14, .inl (lo_push 15 (.int (-1)))),
  (15, .inr (.inr 1)),
  (16, .inl (lo_aload 17 0)),
  (17, .inr (.inl (106, 1, 20))),
  (20, .inl (lo_istore 22 6)),
  (22, .inl (lo_aload 23 0)),
  (23, .inr (.inl (107, 1, 26))),
  (26, .inl (lo_istore 28 7)),
  (28, .inl (lo_iload 30 5)),
  (30, .inl (lo_istore 32 8)),
  (32, .inl (lo_push 33 (.int 0))),
  (33, .inl (lo_istore 35 9)),
  (35, .inl (lo_iload 37 4)),
  (37, .inl (lo_push 38 (.int 1))),
  (38, .inl (lo_bin 39 (fun x y => x - y))),
  (39, .inl (lo_istore 41 10)),
  (41, .inl (lo_iload 43 10)),
  (43, .inl (lo_if 146 46 (fun x => decide (x < 0)))),
  (46, .inl (lo_push 47 (.int 0))),
  (47, .inl (lo_istore 49 11)),
  (49, .inl (lo_aload 50 0)),
  (50, .inl (lo_iload 52 6)),
  (52, .inl (lo_iload 54 7)),
  (54, .inl (lo_iload 56 11)),
  (56, .inl (lo_iload 58 10)),
  (58, .inr (.inl (108, 5, 61))),
  (61, .inl (lo_istore 63 12)),
  (63, .inl (lo_iload 65 11)),
  (65, .inl (lo_push 66 (.int 2))),
  (66, .inl (lo_cmp 103 69 (fun x y => decide (y ≤ x)))),
  (69, .inl (lo_iload 71 8)),
  (71, .inl (lo_iload 73 12)),
  (73, .inl (lo_cmp 103 76 (fun x y => decide (x < y)))),
  (76, .inl (lo_iload 78 8)),
  (78, .inl (lo_iload 80 12)),
  (80, .inl (lo_bin 81 (fun x y => x - y))),
  (81, .inl (lo_istore 83 8)),
  (83, .inl (lo_iinc 86 11 1)),
  (86, .inl (lo_aload 87 0)),
  (87, .inl (lo_iload 89 6)),
  (89, .inl (lo_iload 91 7)),
  (91, .inl (lo_iload 93 11)),
  (93, .inl (lo_iload 95 10)),
  (95, .inr (.inl (108, 5, 98))),
  (98, .inl (lo_istore 100 12)),
  (100, .inl (lo_goto 63)),
  (103, .inl (lo_iload 105 9)),
  (105, .inl (lo_push 106 (.int 4))),
  (106, .inl (lo_bin 107 (fun x y => x * y))),
  (107, .inl (lo_iload 109 11)),
  (109, .inl (lo_bin 110 (fun x y => x + y))),
  (110, .inl (lo_push 111 (.int 1))),
  (111, .inl (lo_bin 112 (fun x y => x + y))),
  (112, .inl (lo_istore 114 9)),
  (114, .inl (lo_aload 115 0)),
  (115, .inl (lo_getf 118 9 4)),
  (118, .inl (lo_iload 120 6)),
  (120, .inl (lo_iload 122 11)),
  (122, .inr (.inl (54, 3, 125))),
  (125, .inl (lo_istore 127 6)),
  (127, .inl (lo_aload 128 0)),
  (128, .inl (lo_getf 131 9 5)),
  (131, .inl (lo_iload 133 7)),
  (133, .inl (lo_iload 135 11)),
  (135, .inr (.inl (54, 3, 138))),
  (138, .inl (lo_istore 140 7)),
  (140, .inl (lo_iinc 143 10 (-1))),
  (143, .inl (lo_goto 41)),
  (146, .inl (lo_iload 148 9)),
  (148, .inr (.inr 1))]
theorem k_104_0 (L : Nat) (xs : Nat → Int32) : ll_OK1 cX9_nth RX9 (some .int) false ll_mN ll_mR ll_mK ll_cnt L xs false 0 (.inl (lo_iload 2 5)) := lk_iload (by decide +kernel)
theorem k_104_2 (L : Nat) (xs : Nat → Int32) : ll_OK1 cX9_nth RX9 (some .int) false ll_mN ll_mR ll_mK ll_cnt L xs false 2 (.inl (lo_aload 3 0)) := lk_aload_n (k := 0) (by decide +kernel) rfl
theorem k_104_3 (L : Nat) (xs : Nat → Int32) : ll_OK1 cX9_nth RX9 (some .int) false ll_mN ll_mR ll_mK ll_cnt L xs false 3 (.inl (lo_aload 4 1)) := lk_aload_n (k := 1) (by decide +kernel) rfl
theorem k_104_4 (L : Nat) (xs : Nat → Int32) : ll_OK1 cX9_nth RX9 (some .int) false ll_mN ll_mR ll_mK ll_cnt L xs false 4 (.inl (lo_aload 5 2)) := lk_aload_n (k := 2) (by decide +kernel) rfl
theorem k_104_5 (L : Nat) (xs : Nat → Int32) : ll_OK1 cX9_nth RX9 (some .int) false ll_mN ll_mR ll_mK ll_cnt L xs false 5 (.inl (lo_iload 6 3)) := lk_iload_n (k := 3) (by decide +kernel) rfl
theorem k_104_6 (L : Nat) (xs : Nat → Int32) : ll_OK1 cX9_nth RX9 (some .int) false ll_mN ll_mR ll_mK ll_cnt L xs false 6 (.inl (lo_iload 8 4)) := lk_iload (by decide +kernel)
theorem k_104_8 (L : Nat) (xs : Nat → Int32) : ll_OK1 cX9_nth RX9 (some .int) false ll_mN ll_mR ll_mK ll_cnt L xs false 8 (.inr (.inl (103, 5, 11))) := ⟨rfl, by decide, by rw [mN_103, mK_103, mR_103]; exact lj_v 46 4 9 (RX9, TX9, 7) (by decide +kernel) tb_416 tb_417 tb_418 rfl rfl rfl rfl (by decide +kernel)⟩
theorem k_104_11 (L : Nat) (xs : Nat → Int32) : ll_OK1 cX9_nth RX9 (some .int) false ll_mN ll_mR ll_mK ll_cnt L xs false 11 (.inl (lo_cmp 16 14 (fun x y => decide (x < y)))) := lk_icmp_lt (off := 5) (by decide +kernel) rfl
theorem k_104_14 (L : Nat) (xs : Nat → Int32) : ll_OK1 cX9_nth RX9 (some .int) false ll_mN ll_mR ll_mK ll_cnt L xs false 14 (.inl (lo_push 15 (.int (-1)))) := lk_iconst (n := (-1)) (by decide +kernel) (by decide)
theorem k_104_15 (L : Nat) (xs : Nat → Int32) : ll_OK1 cX9_nth RX9 (some .int) false ll_mN ll_mR ll_mK ll_cnt L xs false 15 (.inr (.inr 1)) := ⟨(fun h => by cases h), (fun _ => ⟨(by decide +kernel), rfl⟩), fun h => by cases h⟩
theorem k_104_16 (L : Nat) (xs : Nat → Int32) : ll_OK1 cX9_nth RX9 (some .int) false ll_mN ll_mR ll_mK ll_cnt L xs false 16 (.inl (lo_aload 17 0)) := lk_aload_n (k := 0) (by decide +kernel) rfl
theorem k_104_17 (L : Nat) (xs : Nat → Int32) : ll_OK1 cX9_nth RX9 (some .int) false ll_mN ll_mR ll_mK ll_cnt L xs false 17 (.inr (.inl (106, 1, 20))) := ⟨rfl, by decide, by rw [mN_106, mK_106, mR_106]; exact lj_v 35 0 9 (RX9, TX9, 7) (by decide +kernel) tb_407 tb_408 tb_409 rfl rfl rfl rfl (by decide +kernel)⟩
theorem k_104_20 (L : Nat) (xs : Nat → Int32) : ll_OK1 cX9_nth RX9 (some .int) false ll_mN ll_mR ll_mK ll_cnt L xs false 20 (.inl (lo_istore 22 6)) := lk_istore (by decide +kernel)
theorem k_104_22 (L : Nat) (xs : Nat → Int32) : ll_OK1 cX9_nth RX9 (some .int) false ll_mN ll_mR ll_mK ll_cnt L xs false 22 (.inl (lo_aload 23 0)) := lk_aload_n (k := 0) (by decide +kernel) rfl
theorem k_104_23 (L : Nat) (xs : Nat → Int32) : ll_OK1 cX9_nth RX9 (some .int) false ll_mN ll_mR ll_mK ll_cnt L xs false 23 (.inr (.inl (107, 1, 26))) := ⟨rfl, by decide, by rw [mN_107, mK_107, mR_107]; exact lj_v 39 0 9 (RX9, TX9, 7) (by decide +kernel) tb_410 tb_411 tb_412 rfl rfl rfl rfl (by decide +kernel)⟩
theorem k_104_26 (L : Nat) (xs : Nat → Int32) : ll_OK1 cX9_nth RX9 (some .int) false ll_mN ll_mR ll_mK ll_cnt L xs false 26 (.inl (lo_istore 28 7)) := lk_istore (by decide +kernel)
theorem k_104_28 (L : Nat) (xs : Nat → Int32) : ll_OK1 cX9_nth RX9 (some .int) false ll_mN ll_mR ll_mK ll_cnt L xs false 28 (.inl (lo_iload 30 5)) := lk_iload (by decide +kernel)
theorem k_104_30 (L : Nat) (xs : Nat → Int32) : ll_OK1 cX9_nth RX9 (some .int) false ll_mN ll_mR ll_mK ll_cnt L xs false 30 (.inl (lo_istore 32 8)) := lk_istore (by decide +kernel)
theorem k_104_32 (L : Nat) (xs : Nat → Int32) : ll_OK1 cX9_nth RX9 (some .int) false ll_mN ll_mR ll_mK ll_cnt L xs false 32 (.inl (lo_push 33 (.int 0))) := lk_iconst (n := 0) (by decide +kernel) (by decide)
theorem k_104_33 (L : Nat) (xs : Nat → Int32) : ll_OK1 cX9_nth RX9 (some .int) false ll_mN ll_mR ll_mK ll_cnt L xs false 33 (.inl (lo_istore 35 9)) := lk_istore (by decide +kernel)
theorem k_104_35 (L : Nat) (xs : Nat → Int32) : ll_OK1 cX9_nth RX9 (some .int) false ll_mN ll_mR ll_mK ll_cnt L xs false 35 (.inl (lo_iload 37 4)) := lk_iload (by decide +kernel)
theorem k_104_37 (L : Nat) (xs : Nat → Int32) : ll_OK1 cX9_nth RX9 (some .int) false ll_mN ll_mR ll_mK ll_cnt L xs false 37 (.inl (lo_push 38 (.int 1))) := lk_iconst (n := 1) (by decide +kernel) (by decide)
theorem k_104_38 (L : Nat) (xs : Nat → Int32) : ll_OK1 cX9_nth RX9 (some .int) false ll_mN ll_mR ll_mK ll_cnt L xs false 38 (.inl (lo_bin 39 (fun x y => x - y))) := lk_isub (by decide +kernel)
theorem k_104_39 (L : Nat) (xs : Nat → Int32) : ll_OK1 cX9_nth RX9 (some .int) false ll_mN ll_mR ll_mK ll_cnt L xs false 39 (.inl (lo_istore 41 10)) := lk_istore (by decide +kernel)
theorem k_104_41 (L : Nat) (xs : Nat → Int32) : ll_OK1 cX9_nth RX9 (some .int) false ll_mN ll_mR ll_mK ll_cnt L xs false 41 (.inl (lo_iload 43 10)) := lk_iload (by decide +kernel)
theorem k_104_43 (L : Nat) (xs : Nat → Int32) : ll_OK1 cX9_nth RX9 (some .int) false ll_mN ll_mR ll_mK ll_cnt L xs false 43 (.inl (lo_if 146 46 (fun x => decide (x < 0)))) := lk_if_lt (off := 103) (by decide +kernel) rfl
theorem k_104_46 (L : Nat) (xs : Nat → Int32) : ll_OK1 cX9_nth RX9 (some .int) false ll_mN ll_mR ll_mK ll_cnt L xs false 46 (.inl (lo_push 47 (.int 0))) := lk_iconst (n := 0) (by decide +kernel) (by decide)
theorem k_104_47 (L : Nat) (xs : Nat → Int32) : ll_OK1 cX9_nth RX9 (some .int) false ll_mN ll_mR ll_mK ll_cnt L xs false 47 (.inl (lo_istore 49 11)) := lk_istore (by decide +kernel)
theorem k_104_49 (L : Nat) (xs : Nat → Int32) : ll_OK1 cX9_nth RX9 (some .int) false ll_mN ll_mR ll_mK ll_cnt L xs false 49 (.inl (lo_aload 50 0)) := lk_aload_n (k := 0) (by decide +kernel) rfl
theorem k_104_50 (L : Nat) (xs : Nat → Int32) : ll_OK1 cX9_nth RX9 (some .int) false ll_mN ll_mR ll_mK ll_cnt L xs false 50 (.inl (lo_iload 52 6)) := lk_iload (by decide +kernel)
theorem k_104_52 (L : Nat) (xs : Nat → Int32) : ll_OK1 cX9_nth RX9 (some .int) false ll_mN ll_mR ll_mK ll_cnt L xs false 52 (.inl (lo_iload 54 7)) := lk_iload (by decide +kernel)
theorem k_104_54 (L : Nat) (xs : Nat → Int32) : ll_OK1 cX9_nth RX9 (some .int) false ll_mN ll_mR ll_mK ll_cnt L xs false 54 (.inl (lo_iload 56 11)) := lk_iload (by decide +kernel)
theorem k_104_56 (L : Nat) (xs : Nat → Int32) : ll_OK1 cX9_nth RX9 (some .int) false ll_mN ll_mR ll_mK ll_cnt L xs false 56 (.inl (lo_iload 58 10)) := lk_iload (by decide +kernel)
theorem k_104_58 (L : Nat) (xs : Nat → Int32) : ll_OK1 cX9_nth RX9 (some .int) false ll_mN ll_mR ll_mK ll_cnt L xs false 58 (.inr (.inl (108, 5, 61))) := ⟨rfl, by decide, by rw [mN_108, mK_108, mR_108]; exact lj_v 50 4 9 (RX9, TX9, 7) (by decide +kernel) tb_419 tb_420 tb_421 rfl rfl rfl rfl (by decide +kernel)⟩
theorem k_104_61 (L : Nat) (xs : Nat → Int32) : ll_OK1 cX9_nth RX9 (some .int) false ll_mN ll_mR ll_mK ll_cnt L xs false 61 (.inl (lo_istore 63 12)) := lk_istore (by decide +kernel)
theorem k_104_63 (L : Nat) (xs : Nat → Int32) : ll_OK1 cX9_nth RX9 (some .int) false ll_mN ll_mR ll_mK ll_cnt L xs false 63 (.inl (lo_iload 65 11)) := lk_iload (by decide +kernel)
theorem k_104_65 (L : Nat) (xs : Nat → Int32) : ll_OK1 cX9_nth RX9 (some .int) false ll_mN ll_mR ll_mK ll_cnt L xs false 65 (.inl (lo_push 66 (.int 2))) := lk_iconst (n := 2) (by decide +kernel) (by decide)
theorem k_104_66 (L : Nat) (xs : Nat → Int32) : ll_OK1 cX9_nth RX9 (some .int) false ll_mN ll_mR ll_mK ll_cnt L xs false 66 (.inl (lo_cmp 103 69 (fun x y => decide (y ≤ x)))) := lk_icmp_ge (off := 37) (by decide +kernel) rfl
theorem k_104_69 (L : Nat) (xs : Nat → Int32) : ll_OK1 cX9_nth RX9 (some .int) false ll_mN ll_mR ll_mK ll_cnt L xs false 69 (.inl (lo_iload 71 8)) := lk_iload (by decide +kernel)
theorem k_104_71 (L : Nat) (xs : Nat → Int32) : ll_OK1 cX9_nth RX9 (some .int) false ll_mN ll_mR ll_mK ll_cnt L xs false 71 (.inl (lo_iload 73 12)) := lk_iload (by decide +kernel)
theorem k_104_73 (L : Nat) (xs : Nat → Int32) : ll_OK1 cX9_nth RX9 (some .int) false ll_mN ll_mR ll_mK ll_cnt L xs false 73 (.inl (lo_cmp 103 76 (fun x y => decide (x < y)))) := lk_icmp_lt (off := 30) (by decide +kernel) rfl
theorem k_104_76 (L : Nat) (xs : Nat → Int32) : ll_OK1 cX9_nth RX9 (some .int) false ll_mN ll_mR ll_mK ll_cnt L xs false 76 (.inl (lo_iload 78 8)) := lk_iload (by decide +kernel)
theorem k_104_78 (L : Nat) (xs : Nat → Int32) : ll_OK1 cX9_nth RX9 (some .int) false ll_mN ll_mR ll_mK ll_cnt L xs false 78 (.inl (lo_iload 80 12)) := lk_iload (by decide +kernel)
theorem k_104_80 (L : Nat) (xs : Nat → Int32) : ll_OK1 cX9_nth RX9 (some .int) false ll_mN ll_mR ll_mK ll_cnt L xs false 80 (.inl (lo_bin 81 (fun x y => x - y))) := lk_isub (by decide +kernel)
theorem k_104_81 (L : Nat) (xs : Nat → Int32) : ll_OK1 cX9_nth RX9 (some .int) false ll_mN ll_mR ll_mK ll_cnt L xs false 81 (.inl (lo_istore 83 8)) := lk_istore (by decide +kernel)
theorem k_104_83 (L : Nat) (xs : Nat → Int32) : ll_OK1 cX9_nth RX9 (some .int) false ll_mN ll_mR ll_mK ll_cnt L xs false 83 (.inl (lo_iinc 86 11 1)) := lk_iinc (n := 1) (by decide +kernel) (by decide)
theorem k_104_86 (L : Nat) (xs : Nat → Int32) : ll_OK1 cX9_nth RX9 (some .int) false ll_mN ll_mR ll_mK ll_cnt L xs false 86 (.inl (lo_aload 87 0)) := lk_aload_n (k := 0) (by decide +kernel) rfl
theorem k_104_87 (L : Nat) (xs : Nat → Int32) : ll_OK1 cX9_nth RX9 (some .int) false ll_mN ll_mR ll_mK ll_cnt L xs false 87 (.inl (lo_iload 89 6)) := lk_iload (by decide +kernel)
theorem k_104_89 (L : Nat) (xs : Nat → Int32) : ll_OK1 cX9_nth RX9 (some .int) false ll_mN ll_mR ll_mK ll_cnt L xs false 89 (.inl (lo_iload 91 7)) := lk_iload (by decide +kernel)
theorem k_104_91 (L : Nat) (xs : Nat → Int32) : ll_OK1 cX9_nth RX9 (some .int) false ll_mN ll_mR ll_mK ll_cnt L xs false 91 (.inl (lo_iload 93 11)) := lk_iload (by decide +kernel)
theorem k_104_93 (L : Nat) (xs : Nat → Int32) : ll_OK1 cX9_nth RX9 (some .int) false ll_mN ll_mR ll_mK ll_cnt L xs false 93 (.inl (lo_iload 95 10)) := lk_iload (by decide +kernel)
theorem k_104_95 (L : Nat) (xs : Nat → Int32) : ll_OK1 cX9_nth RX9 (some .int) false ll_mN ll_mR ll_mK ll_cnt L xs false 95 (.inr (.inl (108, 5, 98))) := ⟨rfl, by decide, by rw [mN_108, mK_108, mR_108]; exact lj_v 50 4 9 (RX9, TX9, 7) (by decide +kernel) tb_419 tb_420 tb_421 rfl rfl rfl rfl (by decide +kernel)⟩
theorem k_104_98 (L : Nat) (xs : Nat → Int32) : ll_OK1 cX9_nth RX9 (some .int) false ll_mN ll_mR ll_mK ll_cnt L xs false 98 (.inl (lo_istore 100 12)) := lk_istore (by decide +kernel)
theorem k_104_100 (L : Nat) (xs : Nat → Int32) : ll_OK1 cX9_nth RX9 (some .int) false ll_mN ll_mR ll_mK ll_cnt L xs false 100 (.inl (lo_goto 63)) := lk_goto (off := (-37)) (by decide +kernel) rfl
theorem k_104_103 (L : Nat) (xs : Nat → Int32) : ll_OK1 cX9_nth RX9 (some .int) false ll_mN ll_mR ll_mK ll_cnt L xs false 103 (.inl (lo_iload 105 9)) := lk_iload (by decide +kernel)
theorem k_104_105 (L : Nat) (xs : Nat → Int32) : ll_OK1 cX9_nth RX9 (some .int) false ll_mN ll_mR ll_mK ll_cnt L xs false 105 (.inl (lo_push 106 (.int 4))) := lk_iconst (n := 4) (by decide +kernel) (by decide)
theorem k_104_106 (L : Nat) (xs : Nat → Int32) : ll_OK1 cX9_nth RX9 (some .int) false ll_mN ll_mR ll_mK ll_cnt L xs false 106 (.inl (lo_bin 107 (fun x y => x * y))) := lk_imul (by decide +kernel)
theorem k_104_107 (L : Nat) (xs : Nat → Int32) : ll_OK1 cX9_nth RX9 (some .int) false ll_mN ll_mR ll_mK ll_cnt L xs false 107 (.inl (lo_iload 109 11)) := lk_iload (by decide +kernel)
theorem k_104_109 (L : Nat) (xs : Nat → Int32) : ll_OK1 cX9_nth RX9 (some .int) false ll_mN ll_mR ll_mK ll_cnt L xs false 109 (.inl (lo_bin 110 (fun x y => x + y))) := lk_iadd (by decide +kernel)
theorem k_104_110 (L : Nat) (xs : Nat → Int32) : ll_OK1 cX9_nth RX9 (some .int) false ll_mN ll_mR ll_mK ll_cnt L xs false 110 (.inl (lo_push 111 (.int 1))) := lk_iconst (n := 1) (by decide +kernel) (by decide)
theorem k_104_111 (L : Nat) (xs : Nat → Int32) : ll_OK1 cX9_nth RX9 (some .int) false ll_mN ll_mR ll_mK ll_cnt L xs false 111 (.inl (lo_bin 112 (fun x y => x + y))) := lk_iadd (by decide +kernel)
theorem k_104_112 (L : Nat) (xs : Nat → Int32) : ll_OK1 cX9_nth RX9 (some .int) false ll_mN ll_mR ll_mK ll_cnt L xs false 112 (.inl (lo_istore 114 9)) := lk_istore (by decide +kernel)
theorem k_104_114 (L : Nat) (xs : Nat → Int32) : ll_OK1 cX9_nth RX9 (some .int) false ll_mN ll_mR ll_mK ll_cnt L xs false 114 (.inl (lo_aload 115 0)) := lk_aload_n (k := 0) (by decide +kernel) rfl
theorem k_104_115 (L : Nat) (xs : Nat → Int32) : ll_OK1 cX9_nth RX9 (some .int) false ll_mN ll_mR ll_mK ll_cnt L xs false 115 (.inl (lo_getf 118 9 4)) := lk_getf (ix := 24) (ci := 9) (k := 4) (C := RX9) (T := TX9) (N := 7) (by decide +kernel) rfl in_9 (by decide) tb_402
theorem k_104_118 (L : Nat) (xs : Nat → Int32) : ll_OK1 cX9_nth RX9 (some .int) false ll_mN ll_mR ll_mK ll_cnt L xs false 118 (.inl (lo_iload 120 6)) := lk_iload (by decide +kernel)
theorem k_104_120 (L : Nat) (xs : Nat → Int32) : ll_OK1 cX9_nth RX9 (some .int) false ll_mN ll_mR ll_mK ll_cnt L xs false 120 (.inl (lo_iload 122 11)) := lk_iload (by decide +kernel)
theorem k_104_122 (L : Nat) (xs : Nat → Int32) : ll_OK1 cX9_nth RX9 (some .int) false ll_mN ll_mR ll_mK ll_cnt L xs false 122 (.inr (.inl (54, 3, 125))) := ⟨rfl, by decide, by rw [mN_54, mK_54, mR_54]; exact lj_v 54 2 5 (RX5, TX5, 11) (by decide +kernel) tb_422 tb_49 tb_50 rfl rfl rfl rfl (by decide +kernel)⟩
theorem k_104_125 (L : Nat) (xs : Nat → Int32) : ll_OK1 cX9_nth RX9 (some .int) false ll_mN ll_mR ll_mK ll_cnt L xs false 125 (.inl (lo_istore 127 6)) := lk_istore (by decide +kernel)
theorem k_104_127 (L : Nat) (xs : Nat → Int32) : ll_OK1 cX9_nth RX9 (some .int) false ll_mN ll_mR ll_mK ll_cnt L xs false 127 (.inl (lo_aload 128 0)) := lk_aload_n (k := 0) (by decide +kernel) rfl
theorem k_104_128 (L : Nat) (xs : Nat → Int32) : ll_OK1 cX9_nth RX9 (some .int) false ll_mN ll_mR ll_mK ll_cnt L xs false 128 (.inl (lo_getf 131 9 5)) := lk_getf (ix := 28) (ci := 9) (k := 5) (C := RX9) (T := TX9) (N := 7) (by decide +kernel) rfl in_9 (by decide) tb_403
theorem k_104_131 (L : Nat) (xs : Nat → Int32) : ll_OK1 cX9_nth RX9 (some .int) false ll_mN ll_mR ll_mK ll_cnt L xs false 131 (.inl (lo_iload 133 7)) := lk_iload (by decide +kernel)
theorem k_104_133 (L : Nat) (xs : Nat → Int32) : ll_OK1 cX9_nth RX9 (some .int) false ll_mN ll_mR ll_mK ll_cnt L xs false 133 (.inl (lo_iload 135 11)) := lk_iload (by decide +kernel)
theorem k_104_135 (L : Nat) (xs : Nat → Int32) : ll_OK1 cX9_nth RX9 (some .int) false ll_mN ll_mR ll_mK ll_cnt L xs false 135 (.inr (.inl (54, 3, 138))) := ⟨rfl, by decide, by rw [mN_54, mK_54, mR_54]; exact lj_v 54 2 5 (RX5, TX5, 11) (by decide +kernel) tb_422 tb_49 tb_50 rfl rfl rfl rfl (by decide +kernel)⟩
theorem k_104_138 (L : Nat) (xs : Nat → Int32) : ll_OK1 cX9_nth RX9 (some .int) false ll_mN ll_mR ll_mK ll_cnt L xs false 138 (.inl (lo_istore 140 7)) := lk_istore (by decide +kernel)
theorem k_104_140 (L : Nat) (xs : Nat → Int32) : ll_OK1 cX9_nth RX9 (some .int) false ll_mN ll_mR ll_mK ll_cnt L xs false 140 (.inl (lo_iinc 143 10 (-1))) := lk_iinc (n := (-1)) (by decide +kernel) (by decide)
theorem k_104_143 (L : Nat) (xs : Nat → Int32) : ll_OK1 cX9_nth RX9 (some .int) false ll_mN ll_mR ll_mK ll_cnt L xs false 143 (.inl (lo_goto 41)) := lk_goto (off := (-102)) (by decide +kernel) rfl
theorem k_104_146 (L : Nat) (xs : Nat → Int32) : ll_OK1 cX9_nth RX9 (some .int) false ll_mN ll_mR ll_mK ll_cnt L xs false 146 (.inl (lo_iload 148 9)) := lk_iload (by decide +kernel)
theorem k_104_148 (L : Nat) (xs : Nat → Int32) : ll_OK1 cX9_nth RX9 (some .int) false ll_mN ll_mR ll_mK ll_cnt L xs false 148 (.inr (.inr 1)) := ⟨(fun h => by cases h), (fun _ => ⟨(by decide +kernel), rfl⟩), fun h => by cases h⟩
theorem ok_104 (L : Nat) (xs : Nat → Int32) : ∀ q ∈ cd_104, ll_OK1 cX9_nth RX9 (some .int) false ll_mN ll_mR ll_mK ll_cnt L xs false q.1 q.2 :=
  List.forall_mem_cons.mpr ⟨k_104_0 L xs, List.forall_mem_cons.mpr ⟨k_104_2 L xs, List.forall_mem_cons.mpr ⟨k_104_3 L xs, List.forall_mem_cons.mpr ⟨k_104_4 L xs, List.forall_mem_cons.mpr ⟨k_104_5 L xs, List.forall_mem_cons.mpr ⟨k_104_6 L xs, List.forall_mem_cons.mpr ⟨k_104_8 L xs, List.forall_mem_cons.mpr ⟨k_104_11 L xs, List.forall_mem_cons.mpr ⟨k_104_14 L xs, List.forall_mem_cons.mpr ⟨k_104_15 L xs, List.forall_mem_cons.mpr ⟨k_104_16 L xs, List.forall_mem_cons.mpr ⟨k_104_17 L xs, List.forall_mem_cons.mpr ⟨k_104_20 L xs, List.forall_mem_cons.mpr ⟨k_104_22 L xs, List.forall_mem_cons.mpr ⟨k_104_23 L xs, List.forall_mem_cons.mpr ⟨k_104_26 L xs, List.forall_mem_cons.mpr ⟨k_104_28 L xs, List.forall_mem_cons.mpr ⟨k_104_30 L xs, List.forall_mem_cons.mpr ⟨k_104_32 L xs, List.forall_mem_cons.mpr ⟨k_104_33 L xs, List.forall_mem_cons.mpr ⟨k_104_35 L xs, List.forall_mem_cons.mpr ⟨k_104_37 L xs, List.forall_mem_cons.mpr ⟨k_104_38 L xs, List.forall_mem_cons.mpr ⟨k_104_39 L xs, List.forall_mem_cons.mpr ⟨k_104_41 L xs, List.forall_mem_cons.mpr ⟨k_104_43 L xs, List.forall_mem_cons.mpr ⟨k_104_46 L xs, List.forall_mem_cons.mpr ⟨k_104_47 L xs, List.forall_mem_cons.mpr ⟨k_104_49 L xs, List.forall_mem_cons.mpr ⟨k_104_50 L xs, List.forall_mem_cons.mpr ⟨k_104_52 L xs, List.forall_mem_cons.mpr ⟨k_104_54 L xs, List.forall_mem_cons.mpr ⟨k_104_56 L xs, List.forall_mem_cons.mpr ⟨k_104_58 L xs, List.forall_mem_cons.mpr ⟨k_104_61 L xs, List.forall_mem_cons.mpr ⟨k_104_63 L xs, List.forall_mem_cons.mpr ⟨k_104_65 L xs, List.forall_mem_cons.mpr ⟨k_104_66 L xs, List.forall_mem_cons.mpr ⟨k_104_69 L xs, List.forall_mem_cons.mpr ⟨k_104_71 L xs, List.forall_mem_cons.mpr ⟨k_104_73 L xs, List.forall_mem_cons.mpr ⟨k_104_76 L xs, List.forall_mem_cons.mpr ⟨k_104_78 L xs, List.forall_mem_cons.mpr ⟨k_104_80 L xs, List.forall_mem_cons.mpr ⟨k_104_81 L xs, List.forall_mem_cons.mpr ⟨k_104_83 L xs, List.forall_mem_cons.mpr ⟨k_104_86 L xs, List.forall_mem_cons.mpr ⟨k_104_87 L xs, List.forall_mem_cons.mpr ⟨k_104_89 L xs, List.forall_mem_cons.mpr ⟨k_104_91 L xs, List.forall_mem_cons.mpr ⟨k_104_93 L xs, List.forall_mem_cons.mpr ⟨k_104_95 L xs, List.forall_mem_cons.mpr ⟨k_104_98 L xs, List.forall_mem_cons.mpr ⟨k_104_100 L xs, List.forall_mem_cons.mpr ⟨k_104_103 L xs, List.forall_mem_cons.mpr ⟨k_104_105 L xs, List.forall_mem_cons.mpr ⟨k_104_106 L xs, List.forall_mem_cons.mpr ⟨k_104_107 L xs, List.forall_mem_cons.mpr ⟨k_104_109 L xs, List.forall_mem_cons.mpr ⟨k_104_110 L xs, List.forall_mem_cons.mpr ⟨k_104_111 L xs, List.forall_mem_cons.mpr ⟨k_104_112 L xs, List.forall_mem_cons.mpr ⟨k_104_114 L xs, List.forall_mem_cons.mpr ⟨k_104_115 L xs, List.forall_mem_cons.mpr ⟨k_104_118 L xs, List.forall_mem_cons.mpr ⟨k_104_120 L xs, List.forall_mem_cons.mpr ⟨k_104_122 L xs, List.forall_mem_cons.mpr ⟨k_104_125 L xs, List.forall_mem_cons.mpr ⟨k_104_127 L xs, List.forall_mem_cons.mpr ⟨k_104_128 L xs, List.forall_mem_cons.mpr ⟨k_104_131 L xs, List.forall_mem_cons.mpr ⟨k_104_133 L xs, List.forall_mem_cons.mpr ⟨k_104_135 L xs, List.forall_mem_cons.mpr ⟨k_104_138 L xs, List.forall_mem_cons.mpr ⟨k_104_140 L xs, List.forall_mem_cons.mpr ⟨k_104_143 L xs, List.forall_mem_cons.mpr ⟨k_104_146 L xs, List.forall_mem_cons.mpr ⟨k_104_148 L xs, fun _ h => absurd h List.not_mem_nil⟩⟩⟩⟩⟩⟩⟩⟩⟩⟩⟩⟩⟩⟩⟩⟩⟩⟩⟩⟩⟩⟩⟩⟩⟩⟩⟩⟩⟩⟩⟩⟩⟩⟩⟩⟩⟩⟩⟩⟩⟩⟩⟩⟩⟩⟩⟩⟩⟩⟩⟩⟩⟩⟩⟩⟩⟩⟩⟩⟩⟩⟩⟩⟩⟩⟩⟩⟩⟩⟩⟩⟩⟩⟩⟩⟩⟩⟩
