/-! CODE TABLES, and that each row is the machine's (written by wip/whole/gen.py) -/
/-- InclusionProver$Search.run.(LInclusionProver$Side;LInclusionProver$Side;LInclusionProver$Lines;)I -/
def cd_32 : List (Nat × ll_O) := [
  (0, .inl (lo_aload 1 0)),
  (1, .inl (lo_aload 2 1)),
  (2, .inl (lo_putf 5 4 7 2)),
  (5, .inl (lo_aload 6 0)),
  (6, .inl (lo_aload 7 2)),
  (7, .inl (lo_putf 10 4 8 2)),
  (10, .inl (lo_aload 11 0)),
  (11, .inl (lo_aload 12 3)),
  (12, .inl (lo_putf 15 4 9 2)),
  (15, .inl (lo_aload 16 0)),
  (16, .inl (lo_getf 19 4 9)),
  (19, .inr (.inl (9, 1, 22))),
  (22, .inl (lo_push 23 (.int 0))),
  (23, .inl (lo_istore 25 4)),
  (25, .inl (lo_iload 27 4)),
  (27, .inl (lo_aload 28 0)),
  (28, .inl (lo_getf 31 4 7)),
  (31, .inl (lo_getf 34 5 6)),
  (34, .inl (lo_cmp 71 37 (fun x y => decide (y ≤ x)))),
  (37, .inl (lo_aload 38 0)),
  (38, .inl (lo_getf 41 4 3)),
  (41, .inl (lo_iload 43 4)),
  (43, .inl (lo_push 44 (.int (-1)))),
  (44, .inl (lo_ast 45 0)),
  (45, .inl (lo_aload 46 0)),
  (46, .inl (lo_getf 49 4 6)),
  (49, .inl (lo_iload 51 4)),
  (51, .inl (lo_aload 52 0)),
  (52, .inl (lo_getf 55 4 8)),
  (55, .inl (lo_aload 56 0)),
  (56, .inl (lo_getf 59 4 7)),
  (59, .inl (lo_iload 61 4)),
  (61, .inr (.inl (55, 3, 64))),
  (64, .inl (lo_ast 65 0)),
  (65, .inl (lo_iinc 68 4 1)),
  (68, .inl (lo_goto 25)),
  (71, .inl (lo_aload 72 0)),
  (72, .inl (lo_push 73 (.int 0))),
  (73, .inl (lo_push 74 (.int 1))),
  (74, .inl (lo_push 75 (.int (-1)))),
  (75, .inl (lo_push 76 (.int 0))),
  (76, .inr (.inl (36, 5, 79))),
  (79, .inl (lo_pop 80)),
  (80, .inl (lo_push 81 (.int 0))),
  (81, .inl (lo_istore 83 4)),
  (83, .inl (lo_push 84 (.int 0))),
  (84, .inl (lo_istore 86 5)),
  (86, .inl (lo_iload 88 5)),
  (88, .inl (lo_push 91 (.int 300))),
  (91, .inl (lo_cmp 125 94 (fun x y => decide (y ≤ x)))),
  (94, .inl (lo_iload 96 5)),
  (96, .inl (lo_aload 97 0)),
  (97, .inl (lo_getf 100 4 9)),
  (100, .inl (lo_getf 103 1 8)),
  (103, .inl (lo_cmp 125 106 (fun x y => decide (y ≤ x)))),
  (106, .inl (lo_iload 108 4)),
  (108, .inl (lo_if 125 111 (fun x => decide (¬ x = 0)))),
  (111, .inl (lo_aload 112 0)),
  (112, .inl (lo_iload 114 5)),
  (114, .inr (.inl (33, 2, 117))),
  (117, .inl (lo_istore 119 4)),
  (119, .inl (lo_iinc 122 5 1)),
  (122, .inl (lo_goto 86)),
  (125, .inl (lo_iload 127 4)),
  (127, .inr (.inr 1))]
theorem k_32_0 (L : Nat) (xs : Nat → Int32) : ll_OK1 cX4_run RX4 (some .int) false ll_mN ll_mR ll_mK ll_cnt L xs false 0 (.inl (lo_aload 1 0)) := lk_aload_n (k := 0) (by decide +kernel) rfl
theorem k_32_1 (L : Nat) (xs : Nat → Int32) : ll_OK1 cX4_run RX4 (some .int) false ll_mN ll_mR ll_mK ll_cnt L xs false 1 (.inl (lo_aload 2 1)) := lk_aload_n (k := 1) (by decide +kernel) rfl
theorem k_32_2 (L : Nat) (xs : Nat → Int32) : ll_OK1 cX4_run RX4 (some .int) false ll_mN ll_mR ll_mK ll_cnt L xs false 2 (.inl (lo_putf 5 4 7 2)) := lk_putf (ix := 33) (ci := 4) (k := 7) (C := RX4) (T := TX4) (N := 10) (ty0 := tyX4) (by decide +kernel) rfl in_4 tyX4_ok nmX4 (by decide) tb_175 (fun B adr v w h1 h2 => ll_fit_obj (B := B) (adr := adr) h1 h2) (Or.inl rfl)
theorem k_32_5 (L : Nat) (xs : Nat → Int32) : ll_OK1 cX4_run RX4 (some .int) false ll_mN ll_mR ll_mK ll_cnt L xs false 5 (.inl (lo_aload 6 0)) := lk_aload_n (k := 0) (by decide +kernel) rfl
theorem k_32_6 (L : Nat) (xs : Nat → Int32) : ll_OK1 cX4_run RX4 (some .int) false ll_mN ll_mR ll_mK ll_cnt L xs false 6 (.inl (lo_aload 7 2)) := lk_aload_n (k := 2) (by decide +kernel) rfl
theorem k_32_7 (L : Nat) (xs : Nat → Int32) : ll_OK1 cX4_run RX4 (some .int) false ll_mN ll_mR ll_mK ll_cnt L xs false 7 (.inl (lo_putf 10 4 8 2)) := lk_putf (ix := 37) (ci := 4) (k := 8) (C := RX4) (T := TX4) (N := 10) (ty0 := tyX4) (by decide +kernel) rfl in_4 tyX4_ok nmX4 (by decide) tb_176 (fun B adr v w h1 h2 => ll_fit_obj (B := B) (adr := adr) h1 h2) (Or.inl rfl)
theorem k_32_10 (L : Nat) (xs : Nat → Int32) : ll_OK1 cX4_run RX4 (some .int) false ll_mN ll_mR ll_mK ll_cnt L xs false 10 (.inl (lo_aload 11 0)) := lk_aload_n (k := 0) (by decide +kernel) rfl
theorem k_32_11 (L : Nat) (xs : Nat → Int32) : ll_OK1 cX4_run RX4 (some .int) false ll_mN ll_mR ll_mK ll_cnt L xs false 11 (.inl (lo_aload 12 3)) := lk_aload_n (k := 3) (by decide +kernel) rfl
theorem k_32_12 (L : Nat) (xs : Nat → Int32) : ll_OK1 cX4_run RX4 (some .int) false ll_mN ll_mR ll_mK ll_cnt L xs false 12 (.inl (lo_putf 15 4 9 2)) := lk_putf (ix := 40) (ci := 4) (k := 9) (C := RX4) (T := TX4) (N := 10) (ty0 := tyX4) (by decide +kernel) rfl in_4 tyX4_ok nmX4 (by decide) tb_177 (fun B adr v w h1 h2 => ll_fit_obj (B := B) (adr := adr) h1 h2) (Or.inl rfl)
theorem k_32_15 (L : Nat) (xs : Nat → Int32) : ll_OK1 cX4_run RX4 (some .int) false ll_mN ll_mR ll_mK ll_cnt L xs false 15 (.inl (lo_aload 16 0)) := lk_aload_n (k := 0) (by decide +kernel) rfl
theorem k_32_16 (L : Nat) (xs : Nat → Int32) : ll_OK1 cX4_run RX4 (some .int) false ll_mN ll_mR ll_mK ll_cnt L xs false 16 (.inl (lo_getf 19 4 9)) := lk_getf (ix := 40) (ci := 4) (k := 9) (C := RX4) (T := TX4) (N := 10) (by decide +kernel) rfl in_4 (by decide) tb_177
theorem k_32_19 (L : Nat) (xs : Nat → Int32) : ll_OK1 cX4_run RX4 (some .int) false ll_mN ll_mR ll_mK ll_cnt L xs false 19 (.inr (.inl (9, 1, 22))) := ⟨rfl, by decide, by rw [mN_9, mK_9, mR_9]; exact lj_v 44 0 1 (RX1, TX1, 12) (by decide +kernel) tb_178 tb_179 tb_180 rfl rfl rfl rfl (by decide +kernel)⟩
theorem k_32_22 (L : Nat) (xs : Nat → Int32) : ll_OK1 cX4_run RX4 (some .int) false ll_mN ll_mR ll_mK ll_cnt L xs false 22 (.inl (lo_push 23 (.int 0))) := lk_iconst (n := 0) (by decide +kernel) (by decide)
theorem k_32_23 (L : Nat) (xs : Nat → Int32) : ll_OK1 cX4_run RX4 (some .int) false ll_mN ll_mR ll_mK ll_cnt L xs false 23 (.inl (lo_istore 25 4)) := lk_istore (by decide +kernel)
theorem k_32_25 (L : Nat) (xs : Nat → Int32) : ll_OK1 cX4_run RX4 (some .int) false ll_mN ll_mR ll_mK ll_cnt L xs false 25 (.inl (lo_iload 27 4)) := lk_iload (by decide +kernel)
theorem k_32_27 (L : Nat) (xs : Nat → Int32) : ll_OK1 cX4_run RX4 (some .int) false ll_mN ll_mR ll_mK ll_cnt L xs false 27 (.inl (lo_aload 28 0)) := lk_aload_n (k := 0) (by decide +kernel) rfl
theorem k_32_28 (L : Nat) (xs : Nat → Int32) : ll_OK1 cX4_run RX4 (some .int) false ll_mN ll_mR ll_mK ll_cnt L xs false 28 (.inl (lo_getf 31 4 7)) := lk_getf (ix := 33) (ci := 4) (k := 7) (C := RX4) (T := TX4) (N := 10) (by decide +kernel) rfl in_4 (by decide) tb_175
theorem k_32_31 (L : Nat) (xs : Nat → Int32) : ll_OK1 cX4_run RX4 (some .int) false ll_mN ll_mR ll_mK ll_cnt L xs false 31 (.inl (lo_getf 34 5 6)) := lk_getf (ix := 49) (ci := 5) (k := 6) (C := RX5) (T := TX5) (N := 11) (by decide +kernel) rfl in_5 (by decide) tb_181
theorem k_32_34 (L : Nat) (xs : Nat → Int32) : ll_OK1 cX4_run RX4 (some .int) false ll_mN ll_mR ll_mK ll_cnt L xs false 34 (.inl (lo_cmp 71 37 (fun x y => decide (y ≤ x)))) := lk_icmp_ge (off := 37) (by decide +kernel) rfl
theorem k_32_37 (L : Nat) (xs : Nat → Int32) : ll_OK1 cX4_run RX4 (some .int) false ll_mN ll_mR ll_mK ll_cnt L xs false 37 (.inl (lo_aload 38 0)) := lk_aload_n (k := 0) (by decide +kernel) rfl
theorem k_32_38 (L : Nat) (xs : Nat → Int32) : ll_OK1 cX4_run RX4 (some .int) false ll_mN ll_mR ll_mK ll_cnt L xs false 38 (.inl (lo_getf 41 4 3)) := lk_getf (ix := 21) (ci := 4) (k := 3) (C := RX4) (T := TX4) (N := 10) (by decide +kernel) rfl in_4 (by decide) tb_171
theorem k_32_41 (L : Nat) (xs : Nat → Int32) : ll_OK1 cX4_run RX4 (some .int) false ll_mN ll_mR ll_mK ll_cnt L xs false 41 (.inl (lo_iload 43 4)) := lk_iload (by decide +kernel)
theorem k_32_43 (L : Nat) (xs : Nat → Int32) : ll_OK1 cX4_run RX4 (some .int) false ll_mN ll_mR ll_mK ll_cnt L xs false 43 (.inl (lo_push 44 (.int (-1)))) := lk_iconst (n := (-1)) (by decide +kernel) (by decide)
theorem k_32_44 (L : Nat) (xs : Nat → Int32) : ll_OK1 cX4_run RX4 (some .int) false ll_mN ll_mR ll_mK ll_cnt L xs false 44 (.inl (lo_ast 45 0)) := lk_iast (by decide +kernel)
theorem k_32_45 (L : Nat) (xs : Nat → Int32) : ll_OK1 cX4_run RX4 (some .int) false ll_mN ll_mR ll_mK ll_cnt L xs false 45 (.inl (lo_aload 46 0)) := lk_aload_n (k := 0) (by decide +kernel) rfl
theorem k_32_46 (L : Nat) (xs : Nat → Int32) : ll_OK1 cX4_run RX4 (some .int) false ll_mN ll_mR ll_mK ll_cnt L xs false 46 (.inl (lo_getf 49 4 6)) := lk_getf (ix := 30) (ci := 4) (k := 6) (C := RX4) (T := TX4) (N := 10) (by decide +kernel) rfl in_4 (by decide) tb_174
theorem k_32_49 (L : Nat) (xs : Nat → Int32) : ll_OK1 cX4_run RX4 (some .int) false ll_mN ll_mR ll_mK ll_cnt L xs false 49 (.inl (lo_iload 51 4)) := lk_iload (by decide +kernel)
theorem k_32_51 (L : Nat) (xs : Nat → Int32) : ll_OK1 cX4_run RX4 (some .int) false ll_mN ll_mR ll_mK ll_cnt L xs false 51 (.inl (lo_aload 52 0)) := lk_aload_n (k := 0) (by decide +kernel) rfl
theorem k_32_52 (L : Nat) (xs : Nat → Int32) : ll_OK1 cX4_run RX4 (some .int) false ll_mN ll_mR ll_mK ll_cnt L xs false 52 (.inl (lo_getf 55 4 8)) := lk_getf (ix := 37) (ci := 4) (k := 8) (C := RX4) (T := TX4) (N := 10) (by decide +kernel) rfl in_4 (by decide) tb_176
theorem k_32_55 (L : Nat) (xs : Nat → Int32) : ll_OK1 cX4_run RX4 (some .int) false ll_mN ll_mR ll_mK ll_cnt L xs false 55 (.inl (lo_aload 56 0)) := lk_aload_n (k := 0) (by decide +kernel) rfl
theorem k_32_56 (L : Nat) (xs : Nat → Int32) : ll_OK1 cX4_run RX4 (some .int) false ll_mN ll_mR ll_mK ll_cnt L xs false 56 (.inl (lo_getf 59 4 7)) := lk_getf (ix := 33) (ci := 4) (k := 7) (C := RX4) (T := TX4) (N := 10) (by decide +kernel) rfl in_4 (by decide) tb_175
theorem k_32_59 (L : Nat) (xs : Nat → Int32) : ll_OK1 cX4_run RX4 (some .int) false ll_mN ll_mR ll_mK ll_cnt L xs false 59 (.inl (lo_iload 61 4)) := lk_iload (by decide +kernel)
theorem k_32_61 (L : Nat) (xs : Nat → Int32) : ll_OK1 cX4_run RX4 (some .int) false ll_mN ll_mR ll_mK ll_cnt L xs false 61 (.inr (.inl (55, 3, 64))) := ⟨rfl, by decide, by rw [mN_55, mK_55, mR_55]; exact lj_v 55 2 5 (RX5, TX5, 11) (by decide +kernel) tb_182 tb_39 tb_40 rfl rfl rfl rfl (by decide +kernel)⟩
theorem k_32_64 (L : Nat) (xs : Nat → Int32) : ll_OK1 cX4_run RX4 (some .int) false ll_mN ll_mR ll_mK ll_cnt L xs false 64 (.inl (lo_ast 65 0)) := lk_iast (by decide +kernel)
theorem k_32_65 (L : Nat) (xs : Nat → Int32) : ll_OK1 cX4_run RX4 (some .int) false ll_mN ll_mR ll_mK ll_cnt L xs false 65 (.inl (lo_iinc 68 4 1)) := lk_iinc (n := 1) (by decide +kernel) (by decide)
theorem k_32_68 (L : Nat) (xs : Nat → Int32) : ll_OK1 cX4_run RX4 (some .int) false ll_mN ll_mR ll_mK ll_cnt L xs false 68 (.inl (lo_goto 25)) := lk_goto (off := (-43)) (by decide +kernel) rfl
theorem k_32_71 (L : Nat) (xs : Nat → Int32) : ll_OK1 cX4_run RX4 (some .int) false ll_mN ll_mR ll_mK ll_cnt L xs false 71 (.inl (lo_aload 72 0)) := lk_aload_n (k := 0) (by decide +kernel) rfl
theorem k_32_72 (L : Nat) (xs : Nat → Int32) : ll_OK1 cX4_run RX4 (some .int) false ll_mN ll_mR ll_mK ll_cnt L xs false 72 (.inl (lo_push 73 (.int 0))) := lk_iconst (n := 0) (by decide +kernel) (by decide)
theorem k_32_73 (L : Nat) (xs : Nat → Int32) : ll_OK1 cX4_run RX4 (some .int) false ll_mN ll_mR ll_mK ll_cnt L xs false 73 (.inl (lo_push 74 (.int 1))) := lk_iconst (n := 1) (by decide +kernel) (by decide)
theorem k_32_74 (L : Nat) (xs : Nat → Int32) : ll_OK1 cX4_run RX4 (some .int) false ll_mN ll_mR ll_mK ll_cnt L xs false 74 (.inl (lo_push 75 (.int (-1)))) := lk_iconst (n := (-1)) (by decide +kernel) (by decide)
theorem k_32_75 (L : Nat) (xs : Nat → Int32) : ll_OK1 cX4_run RX4 (some .int) false ll_mN ll_mR ll_mK ll_cnt L xs false 75 (.inl (lo_push 76 (.int 0))) := lk_iconst (n := 0) (by decide +kernel) (by decide)
theorem k_32_76 (L : Nat) (xs : Nat → Int32) : ll_OK1 cX4_run RX4 (some .int) false ll_mN ll_mR ll_mK ll_cnt L xs false 76 (.inr (.inl (36, 5, 79))) := ⟨rfl, by decide, by rw [mN_36, mK_36, mR_36]; exact lj_v 59 4 4 (RX4, TX4, 10) (by decide +kernel) tb_183 tb_184 tb_185 rfl rfl rfl rfl (by decide +kernel)⟩
theorem k_32_79 (L : Nat) (xs : Nat → Int32) : ll_OK1 cX4_run RX4 (some .int) false ll_mN ll_mR ll_mK ll_cnt L xs false 79 (.inl (lo_pop 80)) := lk_pop (by decide +kernel)
theorem k_32_80 (L : Nat) (xs : Nat → Int32) : ll_OK1 cX4_run RX4 (some .int) false ll_mN ll_mR ll_mK ll_cnt L xs false 80 (.inl (lo_push 81 (.int 0))) := lk_iconst (n := 0) (by decide +kernel) (by decide)
theorem k_32_81 (L : Nat) (xs : Nat → Int32) : ll_OK1 cX4_run RX4 (some .int) false ll_mN ll_mR ll_mK ll_cnt L xs false 81 (.inl (lo_istore 83 4)) := lk_istore (by decide +kernel)
theorem k_32_83 (L : Nat) (xs : Nat → Int32) : ll_OK1 cX4_run RX4 (some .int) false ll_mN ll_mR ll_mK ll_cnt L xs false 83 (.inl (lo_push 84 (.int 0))) := lk_iconst (n := 0) (by decide +kernel) (by decide)
theorem k_32_84 (L : Nat) (xs : Nat → Int32) : ll_OK1 cX4_run RX4 (some .int) false ll_mN ll_mR ll_mK ll_cnt L xs false 84 (.inl (lo_istore 86 5)) := lk_istore (by decide +kernel)
theorem k_32_86 (L : Nat) (xs : Nat → Int32) : ll_OK1 cX4_run RX4 (some .int) false ll_mN ll_mR ll_mK ll_cnt L xs false 86 (.inl (lo_iload 88 5)) := lk_iload (by decide +kernel)
theorem k_32_88 (L : Nat) (xs : Nat → Int32) : ll_OK1 cX4_run RX4 (some .int) false ll_mN ll_mR ll_mK ll_cnt L xs false 88 (.inl (lo_push 91 (.int 300))) := lk_sipush (n := 300) (by decide +kernel) (by decide)
theorem k_32_91 (L : Nat) (xs : Nat → Int32) : ll_OK1 cX4_run RX4 (some .int) false ll_mN ll_mR ll_mK ll_cnt L xs false 91 (.inl (lo_cmp 125 94 (fun x y => decide (y ≤ x)))) := lk_icmp_ge (off := 34) (by decide +kernel) rfl
theorem k_32_94 (L : Nat) (xs : Nat → Int32) : ll_OK1 cX4_run RX4 (some .int) false ll_mN ll_mR ll_mK ll_cnt L xs false 94 (.inl (lo_iload 96 5)) := lk_iload (by decide +kernel)
theorem k_32_96 (L : Nat) (xs : Nat → Int32) : ll_OK1 cX4_run RX4 (some .int) false ll_mN ll_mR ll_mK ll_cnt L xs false 96 (.inl (lo_aload 97 0)) := lk_aload_n (k := 0) (by decide +kernel) rfl
theorem k_32_97 (L : Nat) (xs : Nat → Int32) : ll_OK1 cX4_run RX4 (some .int) false ll_mN ll_mR ll_mK ll_cnt L xs false 97 (.inl (lo_getf 100 4 9)) := lk_getf (ix := 40) (ci := 4) (k := 9) (C := RX4) (T := TX4) (N := 10) (by decide +kernel) rfl in_4 (by decide) tb_177
theorem k_32_100 (L : Nat) (xs : Nat → Int32) : ll_OK1 cX4_run RX4 (some .int) false ll_mN ll_mR ll_mK ll_cnt L xs false 100 (.inl (lo_getf 103 1 8)) := lk_getf (ix := 63) (ci := 1) (k := 8) (C := RX1) (T := TX1) (N := 12) (by decide +kernel) rfl in_1 (by decide) tb_186
theorem k_32_103 (L : Nat) (xs : Nat → Int32) : ll_OK1 cX4_run RX4 (some .int) false ll_mN ll_mR ll_mK ll_cnt L xs false 103 (.inl (lo_cmp 125 106 (fun x y => decide (y ≤ x)))) := lk_icmp_ge (off := 22) (by decide +kernel) rfl
theorem k_32_106 (L : Nat) (xs : Nat → Int32) : ll_OK1 cX4_run RX4 (some .int) false ll_mN ll_mR ll_mK ll_cnt L xs false 106 (.inl (lo_iload 108 4)) := lk_iload (by decide +kernel)
theorem k_32_108 (L : Nat) (xs : Nat → Int32) : ll_OK1 cX4_run RX4 (some .int) false ll_mN ll_mR ll_mK ll_cnt L xs false 108 (.inl (lo_if 125 111 (fun x => decide (¬ x = 0)))) := lk_if_ne (off := 17) (by decide +kernel) rfl
theorem k_32_111 (L : Nat) (xs : Nat → Int32) : ll_OK1 cX4_run RX4 (some .int) false ll_mN ll_mR ll_mK ll_cnt L xs false 111 (.inl (lo_aload 112 0)) := lk_aload_n (k := 0) (by decide +kernel) rfl
theorem k_32_112 (L : Nat) (xs : Nat → Int32) : ll_OK1 cX4_run RX4 (some .int) false ll_mN ll_mR ll_mK ll_cnt L xs false 112 (.inl (lo_iload 114 5)) := lk_iload (by decide +kernel)
theorem k_32_114 (L : Nat) (xs : Nat → Int32) : ll_OK1 cX4_run RX4 (some .int) false ll_mN ll_mR ll_mK ll_cnt L xs false 114 (.inr (.inl (33, 2, 117))) := ⟨rfl, by decide, by rw [mN_33, mK_33, mR_33]; exact lj_v 66 1 4 (RX4, TX4, 10) (by decide +kernel) tb_187 tb_188 tb_189 rfl rfl rfl rfl (by decide +kernel)⟩
theorem k_32_117 (L : Nat) (xs : Nat → Int32) : ll_OK1 cX4_run RX4 (some .int) false ll_mN ll_mR ll_mK ll_cnt L xs false 117 (.inl (lo_istore 119 4)) := lk_istore (by decide +kernel)
theorem k_32_119 (L : Nat) (xs : Nat → Int32) : ll_OK1 cX4_run RX4 (some .int) false ll_mN ll_mR ll_mK ll_cnt L xs false 119 (.inl (lo_iinc 122 5 1)) := lk_iinc (n := 1) (by decide +kernel) (by decide)
theorem k_32_122 (L : Nat) (xs : Nat → Int32) : ll_OK1 cX4_run RX4 (some .int) false ll_mN ll_mR ll_mK ll_cnt L xs false 122 (.inl (lo_goto 86)) := lk_goto (off := (-36)) (by decide +kernel) rfl
theorem k_32_125 (L : Nat) (xs : Nat → Int32) : ll_OK1 cX4_run RX4 (some .int) false ll_mN ll_mR ll_mK ll_cnt L xs false 125 (.inl (lo_iload 127 4)) := lk_iload (by decide +kernel)
theorem k_32_127 (L : Nat) (xs : Nat → Int32) : ll_OK1 cX4_run RX4 (some .int) false ll_mN ll_mR ll_mK ll_cnt L xs false 127 (.inr (.inr 1)) := ⟨(fun h => by cases h), (fun _ => ⟨(by decide +kernel), rfl⟩), fun h => by cases h⟩
theorem ok_32 (L : Nat) (xs : Nat → Int32) : ∀ q ∈ cd_32, ll_OK1 cX4_run RX4 (some .int) false ll_mN ll_mR ll_mK ll_cnt L xs false q.1 q.2 :=
  List.forall_mem_cons.mpr ⟨k_32_0 L xs, List.forall_mem_cons.mpr ⟨k_32_1 L xs, List.forall_mem_cons.mpr ⟨k_32_2 L xs, List.forall_mem_cons.mpr ⟨k_32_5 L xs, List.forall_mem_cons.mpr ⟨k_32_6 L xs, List.forall_mem_cons.mpr ⟨k_32_7 L xs, List.forall_mem_cons.mpr ⟨k_32_10 L xs, List.forall_mem_cons.mpr ⟨k_32_11 L xs, List.forall_mem_cons.mpr ⟨k_32_12 L xs, List.forall_mem_cons.mpr ⟨k_32_15 L xs, List.forall_mem_cons.mpr ⟨k_32_16 L xs, List.forall_mem_cons.mpr ⟨k_32_19 L xs, List.forall_mem_cons.mpr ⟨k_32_22 L xs, List.forall_mem_cons.mpr ⟨k_32_23 L xs, List.forall_mem_cons.mpr ⟨k_32_25 L xs, List.forall_mem_cons.mpr ⟨k_32_27 L xs, List.forall_mem_cons.mpr ⟨k_32_28 L xs, List.forall_mem_cons.mpr ⟨k_32_31 L xs, List.forall_mem_cons.mpr ⟨k_32_34 L xs, List.forall_mem_cons.mpr ⟨k_32_37 L xs, List.forall_mem_cons.mpr ⟨k_32_38 L xs, List.forall_mem_cons.mpr ⟨k_32_41 L xs, List.forall_mem_cons.mpr ⟨k_32_43 L xs, List.forall_mem_cons.mpr ⟨k_32_44 L xs, List.forall_mem_cons.mpr ⟨k_32_45 L xs, List.forall_mem_cons.mpr ⟨k_32_46 L xs, List.forall_mem_cons.mpr ⟨k_32_49 L xs, List.forall_mem_cons.mpr ⟨k_32_51 L xs, List.forall_mem_cons.mpr ⟨k_32_52 L xs, List.forall_mem_cons.mpr ⟨k_32_55 L xs, List.forall_mem_cons.mpr ⟨k_32_56 L xs, List.forall_mem_cons.mpr ⟨k_32_59 L xs, List.forall_mem_cons.mpr ⟨k_32_61 L xs, List.forall_mem_cons.mpr ⟨k_32_64 L xs, List.forall_mem_cons.mpr ⟨k_32_65 L xs, List.forall_mem_cons.mpr ⟨k_32_68 L xs, List.forall_mem_cons.mpr ⟨k_32_71 L xs, List.forall_mem_cons.mpr ⟨k_32_72 L xs, List.forall_mem_cons.mpr ⟨k_32_73 L xs, List.forall_mem_cons.mpr ⟨k_32_74 L xs, List.forall_mem_cons.mpr ⟨k_32_75 L xs, List.forall_mem_cons.mpr ⟨k_32_76 L xs, List.forall_mem_cons.mpr ⟨k_32_79 L xs, List.forall_mem_cons.mpr ⟨k_32_80 L xs, List.forall_mem_cons.mpr ⟨k_32_81 L xs, List.forall_mem_cons.mpr ⟨k_32_83 L xs, List.forall_mem_cons.mpr ⟨k_32_84 L xs, List.forall_mem_cons.mpr ⟨k_32_86 L xs, List.forall_mem_cons.mpr ⟨k_32_88 L xs, List.forall_mem_cons.mpr ⟨k_32_91 L xs, List.forall_mem_cons.mpr ⟨k_32_94 L xs, List.forall_mem_cons.mpr ⟨k_32_96 L xs, List.forall_mem_cons.mpr ⟨k_32_97 L xs, List.forall_mem_cons.mpr ⟨k_32_100 L xs, List.forall_mem_cons.mpr ⟨k_32_103 L xs, List.forall_mem_cons.mpr ⟨k_32_106 L xs, List.forall_mem_cons.mpr ⟨k_32_108 L xs, List.forall_mem_cons.mpr ⟨k_32_111 L xs, List.forall_mem_cons.mpr ⟨k_32_112 L xs, List.forall_mem_cons.mpr ⟨k_32_114 L xs, List.forall_mem_cons.mpr ⟨k_32_117 L xs, List.forall_mem_cons.mpr ⟨k_32_119 L xs, List.forall_mem_cons.mpr ⟨k_32_122 L xs, List.forall_mem_cons.mpr ⟨k_32_125 L xs, List.forall_mem_cons.mpr ⟨k_32_127 L xs, fun _ h => absurd h List.not_mem_nil⟩⟩⟩⟩⟩⟩⟩⟩⟩⟩⟩⟩⟩⟩⟩⟩⟩⟩⟩⟩⟩⟩⟩⟩⟩⟩⟩⟩⟩⟩⟩⟩⟩⟩⟩⟩⟩⟩⟩⟩⟩⟩⟩⟩⟩⟩⟩⟩⟩⟩⟩⟩⟩⟩⟩⟩⟩⟩⟩⟩⟩⟩⟩⟩⟩
/-- InclusionProver$Search.takeTurn.(I)I -/
def cd_33 : List (Nat × ll_O) := [
  (0, .inl (lo_aload 1 0)),
  (1, .inl (lo_getf 4 4 9)),
  (4, .inl (lo_getf 7 1 0)),
  (7, .inl (lo_iload 8 1)),
  (8, .inl (lo_ald 9 0)),
  (9, .inl (lo_istore 10 2)),
  (10, .inl (lo_aload 11 0)),
  (11, .inl (lo_getf 14 4 9)),
  (14, .inl (lo_getf 17 1 1)),
  (17, .inl (lo_iload 18 1)),
  (18, .inl (lo_ald 19 0)),
  (19, .inl (lo_istore 20 3)),
  (20, .inl (lo_aload 21 0)),
  (21, .inl (lo_getf 24 4 6)),
  (24, .inl (lo_iload 25 2)),
  (25, .inl (lo_ald 26 0)),
  (26, .inl (lo_push 27 (.int (-1)))),
  (27, .inl (lo_cmp 55 30 (fun x y => decide (x = y)))),
  (30, .inl (lo_iload 31 3)),
  (31, .inl (lo_aload 32 0)),
  (32, .inl (lo_getf 35 4 6)),
  (35, .inl (lo_iload 36 2)),
  (36, .inl (lo_ald 37 0)),
  (37, .inl (lo_bin 38 (fun x y => x >>> (y &&& 31)))),
  (38, .inl (lo_push 39 (.int 1))),
  (39, .inl (lo_bin 40 (fun x y => x &&& y))),
  (40, .inl (lo_if 55 43 (fun x => decide (x = 0)))),
  (43, .inl (lo_aload 44 0)),
  (44, .inl (lo_getf 47 4 9)),
  (47, .inl (lo_getf 50 1 2)),
  (50, .inl (lo_iload 51 1)),
  (51, .inl (lo_push 52 (.int 0))),
  (52, .inl (lo_ast 53 0)),
  (53, .inl (lo_push 54 (.int 0))),
  (54, .inr (.inr 1)),
  (55, .inl (lo_aload 56 0)),
  (56, .inl (lo_getf 59 4 7)),
  (59, .inl (lo_push 60 (.int 1))),
  (60, .inl (lo_iload 61 2)),
  (61, .inl (lo_bin 62 (fun x y => x <<< (y &&& 31)))),
  (62, .inr (.inl (47, 2, 65))),
  (65, .inl (lo_if 86 68 (fun x => decide (x = 0)))),
  (68, .inl (lo_aload 69 0)),
  (69, .inl (lo_getf 72 4 8)),
  (72, .inl (lo_iload 73 3)),
  (73, .inr (.inl (47, 2, 76))),
  (76, .inl (lo_if 86 79 (fun x => decide (¬ x = 0)))),
  (79, .inl (lo_aload 80 0)),
  (80, .inl (lo_iload 81 1)),
  (81, .inr (.inl (37, 2, 84))),
  (84, .inl (lo_push 85 (.int 1))),
  (85, .inr (.inr 1)),
  (86, .inl (lo_aload 87 0)),
  (87, .inl (lo_iload 88 1)),
  (88, .inl (lo_iload 89 2)),
  (89, .inl (lo_iload 90 3)),
  (90, .inr (.inl (34, 4, 93))),
  (93, .inl (lo_if 106 96 (fun x => decide (¬ x = 0)))),
  (96, .inl (lo_aload 97 0)),
  (97, .inl (lo_getf 100 4 9)),
  (100, .inl (lo_iload 101 1)),
  (101, .inr (.inl (16, 2, 104))),
  (104, .inl (lo_push 105 (.int 2))),
  (105, .inr (.inr 1)),
  (106, .inl (lo_aload 107 0)),
  (107, .inl (lo_getf 110 4 9)),
  (110, .inl (lo_getf 113 1 2)),
  (113, .inl (lo_iload 114 1)),
  (114, .inl (lo_push 115 (.int 1))),
  (115, .inl (lo_ast 116 0)),
  (116, .inl (lo_push 117 (.int 0))),
  (117, .inr (.inr 1))]
theorem k_33_0 (L : Nat) (xs : Nat → Int32) : ll_OK1 cX4_takeTurn RX4 (some .int) false ll_mN ll_mR ll_mK ll_cnt L xs false 0 (.inl (lo_aload 1 0)) := lk_aload_n (k := 0) (by decide +kernel) rfl
theorem k_33_1 (L : Nat) (xs : Nat → Int32) : ll_OK1 cX4_takeTurn RX4 (some .int) false ll_mN ll_mR ll_mK ll_cnt L xs false 1 (.inl (lo_getf 4 4 9)) := lk_getf (ix := 40) (ci := 4) (k := 9) (C := RX4) (T := TX4) (N := 10) (by decide +kernel) rfl in_4 (by decide) tb_177
theorem k_33_4 (L : Nat) (xs : Nat → Int32) : ll_OK1 cX4_takeTurn RX4 (some .int) false ll_mN ll_mR ll_mK ll_cnt L xs false 4 (.inl (lo_getf 7 1 0)) := lk_getf (ix := 70) (ci := 1) (k := 0) (C := RX1) (T := TX1) (N := 12) (by decide +kernel) rfl in_1 (by decide) tb_190
theorem k_33_7 (L : Nat) (xs : Nat → Int32) : ll_OK1 cX4_takeTurn RX4 (some .int) false ll_mN ll_mR ll_mK ll_cnt L xs false 7 (.inl (lo_iload 8 1)) := lk_iload_n (k := 1) (by decide +kernel) rfl
theorem k_33_8 (L : Nat) (xs : Nat → Int32) : ll_OK1 cX4_takeTurn RX4 (some .int) false ll_mN ll_mR ll_mK ll_cnt L xs false 8 (.inl (lo_ald 9 0)) := lk_iald (by decide +kernel)
theorem k_33_9 (L : Nat) (xs : Nat → Int32) : ll_OK1 cX4_takeTurn RX4 (some .int) false ll_mN ll_mR ll_mK ll_cnt L xs false 9 (.inl (lo_istore 10 2)) := lk_istore_n (k := 2) (by decide +kernel) rfl
theorem k_33_10 (L : Nat) (xs : Nat → Int32) : ll_OK1 cX4_takeTurn RX4 (some .int) false ll_mN ll_mR ll_mK ll_cnt L xs false 10 (.inl (lo_aload 11 0)) := lk_aload_n (k := 0) (by decide +kernel) rfl
theorem k_33_11 (L : Nat) (xs : Nat → Int32) : ll_OK1 cX4_takeTurn RX4 (some .int) false ll_mN ll_mR ll_mK ll_cnt L xs false 11 (.inl (lo_getf 14 4 9)) := lk_getf (ix := 40) (ci := 4) (k := 9) (C := RX4) (T := TX4) (N := 10) (by decide +kernel) rfl in_4 (by decide) tb_177
theorem k_33_14 (L : Nat) (xs : Nat → Int32) : ll_OK1 cX4_takeTurn RX4 (some .int) false ll_mN ll_mR ll_mK ll_cnt L xs false 14 (.inl (lo_getf 17 1 1)) := lk_getf (ix := 73) (ci := 1) (k := 1) (C := RX1) (T := TX1) (N := 12) (by decide +kernel) rfl in_1 (by decide) tb_191
theorem k_33_17 (L : Nat) (xs : Nat → Int32) : ll_OK1 cX4_takeTurn RX4 (some .int) false ll_mN ll_mR ll_mK ll_cnt L xs false 17 (.inl (lo_iload 18 1)) := lk_iload_n (k := 1) (by decide +kernel) rfl
theorem k_33_18 (L : Nat) (xs : Nat → Int32) : ll_OK1 cX4_takeTurn RX4 (some .int) false ll_mN ll_mR ll_mK ll_cnt L xs false 18 (.inl (lo_ald 19 0)) := lk_iald (by decide +kernel)
theorem k_33_19 (L : Nat) (xs : Nat → Int32) : ll_OK1 cX4_takeTurn RX4 (some .int) false ll_mN ll_mR ll_mK ll_cnt L xs false 19 (.inl (lo_istore 20 3)) := lk_istore_n (k := 3) (by decide +kernel) rfl
theorem k_33_20 (L : Nat) (xs : Nat → Int32) : ll_OK1 cX4_takeTurn RX4 (some .int) false ll_mN ll_mR ll_mK ll_cnt L xs false 20 (.inl (lo_aload 21 0)) := lk_aload_n (k := 0) (by decide +kernel) rfl
theorem k_33_21 (L : Nat) (xs : Nat → Int32) : ll_OK1 cX4_takeTurn RX4 (some .int) false ll_mN ll_mR ll_mK ll_cnt L xs false 21 (.inl (lo_getf 24 4 6)) := lk_getf (ix := 30) (ci := 4) (k := 6) (C := RX4) (T := TX4) (N := 10) (by decide +kernel) rfl in_4 (by decide) tb_174
theorem k_33_24 (L : Nat) (xs : Nat → Int32) : ll_OK1 cX4_takeTurn RX4 (some .int) false ll_mN ll_mR ll_mK ll_cnt L xs false 24 (.inl (lo_iload 25 2)) := lk_iload_n (k := 2) (by decide +kernel) rfl
theorem k_33_25 (L : Nat) (xs : Nat → Int32) : ll_OK1 cX4_takeTurn RX4 (some .int) false ll_mN ll_mR ll_mK ll_cnt L xs false 25 (.inl (lo_ald 26 0)) := lk_iald (by decide +kernel)
theorem k_33_26 (L : Nat) (xs : Nat → Int32) : ll_OK1 cX4_takeTurn RX4 (some .int) false ll_mN ll_mR ll_mK ll_cnt L xs false 26 (.inl (lo_push 27 (.int (-1)))) := lk_iconst (n := (-1)) (by decide +kernel) (by decide)
theorem k_33_27 (L : Nat) (xs : Nat → Int32) : ll_OK1 cX4_takeTurn RX4 (some .int) false ll_mN ll_mR ll_mK ll_cnt L xs false 27 (.inl (lo_cmp 55 30 (fun x y => decide (x = y)))) := lk_icmp_eq (off := 28) (by decide +kernel) rfl
theorem k_33_30 (L : Nat) (xs : Nat → Int32) : ll_OK1 cX4_takeTurn RX4 (some .int) false ll_mN ll_mR ll_mK ll_cnt L xs false 30 (.inl (lo_iload 31 3)) := lk_iload_n (k := 3) (by decide +kernel) rfl
theorem k_33_31 (L : Nat) (xs : Nat → Int32) : ll_OK1 cX4_takeTurn RX4 (some .int) false ll_mN ll_mR ll_mK ll_cnt L xs false 31 (.inl (lo_aload 32 0)) := lk_aload_n (k := 0) (by decide +kernel) rfl
theorem k_33_32 (L : Nat) (xs : Nat → Int32) : ll_OK1 cX4_takeTurn RX4 (some .int) false ll_mN ll_mR ll_mK ll_cnt L xs false 32 (.inl (lo_getf 35 4 6)) := lk_getf (ix := 30) (ci := 4) (k := 6) (C := RX4) (T := TX4) (N := 10) (by decide +kernel) rfl in_4 (by decide) tb_174
theorem k_33_35 (L : Nat) (xs : Nat → Int32) : ll_OK1 cX4_takeTurn RX4 (some .int) false ll_mN ll_mR ll_mK ll_cnt L xs false 35 (.inl (lo_iload 36 2)) := lk_iload_n (k := 2) (by decide +kernel) rfl
theorem k_33_36 (L : Nat) (xs : Nat → Int32) : ll_OK1 cX4_takeTurn RX4 (some .int) false ll_mN ll_mR ll_mK ll_cnt L xs false 36 (.inl (lo_ald 37 0)) := lk_iald (by decide +kernel)
theorem k_33_37 (L : Nat) (xs : Nat → Int32) : ll_OK1 cX4_takeTurn RX4 (some .int) false ll_mN ll_mR ll_mK ll_cnt L xs false 37 (.inl (lo_bin 38 (fun x y => x >>> (y &&& 31)))) := lk_ishr (by decide +kernel)
theorem k_33_38 (L : Nat) (xs : Nat → Int32) : ll_OK1 cX4_takeTurn RX4 (some .int) false ll_mN ll_mR ll_mK ll_cnt L xs false 38 (.inl (lo_push 39 (.int 1))) := lk_iconst (n := 1) (by decide +kernel) (by decide)
theorem k_33_39 (L : Nat) (xs : Nat → Int32) : ll_OK1 cX4_takeTurn RX4 (some .int) false ll_mN ll_mR ll_mK ll_cnt L xs false 39 (.inl (lo_bin 40 (fun x y => x &&& y))) := lk_iand (by decide +kernel)
theorem k_33_40 (L : Nat) (xs : Nat → Int32) : ll_OK1 cX4_takeTurn RX4 (some .int) false ll_mN ll_mR ll_mK ll_cnt L xs false 40 (.inl (lo_if 55 43 (fun x => decide (x = 0)))) := lk_if_eq (off := 15) (by decide +kernel) rfl
theorem k_33_43 (L : Nat) (xs : Nat → Int32) : ll_OK1 cX4_takeTurn RX4 (some .int) false ll_mN ll_mR ll_mK ll_cnt L xs false 43 (.inl (lo_aload 44 0)) := lk_aload_n (k := 0) (by decide +kernel) rfl
theorem k_33_44 (L : Nat) (xs : Nat → Int32) : ll_OK1 cX4_takeTurn RX4 (some .int) false ll_mN ll_mR ll_mK ll_cnt L xs false 44 (.inl (lo_getf 47 4 9)) := lk_getf (ix := 40) (ci := 4) (k := 9) (C := RX4) (T := TX4) (N := 10) (by decide +kernel) rfl in_4 (by decide) tb_177
theorem k_33_47 (L : Nat) (xs : Nat → Int32) : ll_OK1 cX4_takeTurn RX4 (some .int) false ll_mN ll_mR ll_mK ll_cnt L xs false 47 (.inl (lo_getf 50 1 2)) := lk_getf (ix := 76) (ci := 1) (k := 2) (C := RX1) (T := TX1) (N := 12) (by decide +kernel) rfl in_1 (by decide) tb_192
theorem k_33_50 (L : Nat) (xs : Nat → Int32) : ll_OK1 cX4_takeTurn RX4 (some .int) false ll_mN ll_mR ll_mK ll_cnt L xs false 50 (.inl (lo_iload 51 1)) := lk_iload_n (k := 1) (by decide +kernel) rfl
theorem k_33_51 (L : Nat) (xs : Nat → Int32) : ll_OK1 cX4_takeTurn RX4 (some .int) false ll_mN ll_mR ll_mK ll_cnt L xs false 51 (.inl (lo_push 52 (.int 0))) := lk_iconst (n := 0) (by decide +kernel) (by decide)
theorem k_33_52 (L : Nat) (xs : Nat → Int32) : ll_OK1 cX4_takeTurn RX4 (some .int) false ll_mN ll_mR ll_mK ll_cnt L xs false 52 (.inl (lo_ast 53 0)) := lk_iast (by decide +kernel)
theorem k_33_53 (L : Nat) (xs : Nat → Int32) : ll_OK1 cX4_takeTurn RX4 (some .int) false ll_mN ll_mR ll_mK ll_cnt L xs false 53 (.inl (lo_push 54 (.int 0))) := lk_iconst (n := 0) (by decide +kernel) (by decide)
theorem k_33_54 (L : Nat) (xs : Nat → Int32) : ll_OK1 cX4_takeTurn RX4 (some .int) false ll_mN ll_mR ll_mK ll_cnt L xs false 54 (.inr (.inr 1)) := ⟨(fun h => by cases h), (fun _ => ⟨(by decide +kernel), rfl⟩), fun h => by cases h⟩
theorem k_33_55 (L : Nat) (xs : Nat → Int32) : ll_OK1 cX4_takeTurn RX4 (some .int) false ll_mN ll_mR ll_mK ll_cnt L xs false 55 (.inl (lo_aload 56 0)) := lk_aload_n (k := 0) (by decide +kernel) rfl
theorem k_33_56 (L : Nat) (xs : Nat → Int32) : ll_OK1 cX4_takeTurn RX4 (some .int) false ll_mN ll_mR ll_mK ll_cnt L xs false 56 (.inl (lo_getf 59 4 7)) := lk_getf (ix := 33) (ci := 4) (k := 7) (C := RX4) (T := TX4) (N := 10) (by decide +kernel) rfl in_4 (by decide) tb_175
theorem k_33_59 (L : Nat) (xs : Nat → Int32) : ll_OK1 cX4_takeTurn RX4 (some .int) false ll_mN ll_mR ll_mK ll_cnt L xs false 59 (.inl (lo_push 60 (.int 1))) := lk_iconst (n := 1) (by decide +kernel) (by decide)
theorem k_33_60 (L : Nat) (xs : Nat → Int32) : ll_OK1 cX4_takeTurn RX4 (some .int) false ll_mN ll_mR ll_mK ll_cnt L xs false 60 (.inl (lo_iload 61 2)) := lk_iload_n (k := 2) (by decide +kernel) rfl
theorem k_33_61 (L : Nat) (xs : Nat → Int32) : ll_OK1 cX4_takeTurn RX4 (some .int) false ll_mN ll_mR ll_mK ll_cnt L xs false 61 (.inl (lo_bin 62 (fun x y => x <<< (y &&& 31)))) := lk_ishl (by decide +kernel)
theorem k_33_62 (L : Nat) (xs : Nat → Int32) : ll_OK1 cX4_takeTurn RX4 (some .int) false ll_mN ll_mR ll_mK ll_cnt L xs false 62 (.inr (.inl (47, 2, 65))) := ⟨rfl, by decide, by rw [mN_47, mK_47, mR_47]; exact lj_v 79 1 5 (RX5, TX5, 11) (by decide +kernel) tb_193 tb_30 tb_31 rfl rfl rfl rfl (by decide +kernel)⟩
theorem k_33_65 (L : Nat) (xs : Nat → Int32) : ll_OK1 cX4_takeTurn RX4 (some .int) false ll_mN ll_mR ll_mK ll_cnt L xs false 65 (.inl (lo_if 86 68 (fun x => decide (x = 0)))) := lk_if_eq (off := 21) (by decide +kernel) rfl
theorem k_33_68 (L : Nat) (xs : Nat → Int32) : ll_OK1 cX4_takeTurn RX4 (some .int) false ll_mN ll_mR ll_mK ll_cnt L xs false 68 (.inl (lo_aload 69 0)) := lk_aload_n (k := 0) (by decide +kernel) rfl
theorem k_33_69 (L : Nat) (xs : Nat → Int32) : ll_OK1 cX4_takeTurn RX4 (some .int) false ll_mN ll_mR ll_mK ll_cnt L xs false 69 (.inl (lo_getf 72 4 8)) := lk_getf (ix := 37) (ci := 4) (k := 8) (C := RX4) (T := TX4) (N := 10) (by decide +kernel) rfl in_4 (by decide) tb_176
theorem k_33_72 (L : Nat) (xs : Nat → Int32) : ll_OK1 cX4_takeTurn RX4 (some .int) false ll_mN ll_mR ll_mK ll_cnt L xs false 72 (.inl (lo_iload 73 3)) := lk_iload_n (k := 3) (by decide +kernel) rfl
theorem k_33_73 (L : Nat) (xs : Nat → Int32) : ll_OK1 cX4_takeTurn RX4 (some .int) false ll_mN ll_mR ll_mK ll_cnt L xs false 73 (.inr (.inl (47, 2, 76))) := ⟨rfl, by decide, by rw [mN_47, mK_47, mR_47]; exact lj_v 79 1 5 (RX5, TX5, 11) (by decide +kernel) tb_193 tb_30 tb_31 rfl rfl rfl rfl (by decide +kernel)⟩
theorem k_33_76 (L : Nat) (xs : Nat → Int32) : ll_OK1 cX4_takeTurn RX4 (some .int) false ll_mN ll_mR ll_mK ll_cnt L xs false 76 (.inl (lo_if 86 79 (fun x => decide (¬ x = 0)))) := lk_if_ne (off := 10) (by decide +kernel) rfl
theorem k_33_79 (L : Nat) (xs : Nat → Int32) : ll_OK1 cX4_takeTurn RX4 (some .int) false ll_mN ll_mR ll_mK ll_cnt L xs false 79 (.inl (lo_aload 80 0)) := lk_aload_n (k := 0) (by decide +kernel) rfl
theorem k_33_80 (L : Nat) (xs : Nat → Int32) : ll_OK1 cX4_takeTurn RX4 (some .int) false ll_mN ll_mR ll_mK ll_cnt L xs false 80 (.inl (lo_iload 81 1)) := lk_iload_n (k := 1) (by decide +kernel) rfl
theorem k_33_81 (L : Nat) (xs : Nat → Int32) : ll_OK1 cX4_takeTurn RX4 (some .int) false ll_mN ll_mR ll_mK ll_cnt L xs false 81 (.inr (.inl (37, 2, 84))) := ⟨rfl, by decide, by rw [mN_37, mK_37, mR_37]; exact lj_v 83 1 4 (RX4, TX4, 10) (by decide +kernel) tb_194 tb_195 tb_196 rfl rfl rfl rfl (by decide +kernel)⟩
theorem k_33_84 (L : Nat) (xs : Nat → Int32) : ll_OK1 cX4_takeTurn RX4 (some .int) false ll_mN ll_mR ll_mK ll_cnt L xs false 84 (.inl (lo_push 85 (.int 1))) := lk_iconst (n := 1) (by decide +kernel) (by decide)
theorem k_33_85 (L : Nat) (xs : Nat → Int32) : ll_OK1 cX4_takeTurn RX4 (some .int) false ll_mN ll_mR ll_mK ll_cnt L xs false 85 (.inr (.inr 1)) := ⟨(fun h => by cases h), (fun _ => ⟨(by decide +kernel), rfl⟩), fun h => by cases h⟩
theorem k_33_86 (L : Nat) (xs : Nat → Int32) : ll_OK1 cX4_takeTurn RX4 (some .int) false ll_mN ll_mR ll_mK ll_cnt L xs false 86 (.inl (lo_aload 87 0)) := lk_aload_n (k := 0) (by decide +kernel) rfl
theorem k_33_87 (L : Nat) (xs : Nat → Int32) : ll_OK1 cX4_takeTurn RX4 (some .int) false ll_mN ll_mR ll_mK ll_cnt L xs false 87 (.inl (lo_iload 88 1)) := lk_iload_n (k := 1) (by decide +kernel) rfl
theorem k_33_88 (L : Nat) (xs : Nat → Int32) : ll_OK1 cX4_takeTurn RX4 (some .int) false ll_mN ll_mR ll_mK ll_cnt L xs false 88 (.inl (lo_iload 89 2)) := lk_iload_n (k := 2) (by decide +kernel) rfl
theorem k_33_89 (L : Nat) (xs : Nat → Int32) : ll_OK1 cX4_takeTurn RX4 (some .int) false ll_mN ll_mR ll_mK ll_cnt L xs false 89 (.inl (lo_iload 90 3)) := lk_iload_n (k := 3) (by decide +kernel) rfl
theorem k_33_90 (L : Nat) (xs : Nat → Int32) : ll_OK1 cX4_takeTurn RX4 (some .int) false ll_mN ll_mR ll_mK ll_cnt L xs false 90 (.inr (.inl (34, 4, 93))) := ⟨rfl, by decide, by rw [mN_34, mK_34, mR_34]; exact lj_v 87 3 4 (RX4, TX4, 10) (by decide +kernel) tb_197 tb_198 tb_199 rfl rfl rfl rfl (by decide +kernel)⟩
theorem k_33_93 (L : Nat) (xs : Nat → Int32) : ll_OK1 cX4_takeTurn RX4 (some .int) false ll_mN ll_mR ll_mK ll_cnt L xs false 93 (.inl (lo_if 106 96 (fun x => decide (¬ x = 0)))) := lk_if_ne (off := 13) (by decide +kernel) rfl
theorem k_33_96 (L : Nat) (xs : Nat → Int32) : ll_OK1 cX4_takeTurn RX4 (some .int) false ll_mN ll_mR ll_mK ll_cnt L xs false 96 (.inl (lo_aload 97 0)) := lk_aload_n (k := 0) (by decide +kernel) rfl
theorem k_33_97 (L : Nat) (xs : Nat → Int32) : ll_OK1 cX4_takeTurn RX4 (some .int) false ll_mN ll_mR ll_mK ll_cnt L xs false 97 (.inl (lo_getf 100 4 9)) := lk_getf (ix := 40) (ci := 4) (k := 9) (C := RX4) (T := TX4) (N := 10) (by decide +kernel) rfl in_4 (by decide) tb_177
theorem k_33_100 (L : Nat) (xs : Nat → Int32) : ll_OK1 cX4_takeTurn RX4 (some .int) false ll_mN ll_mR ll_mK ll_cnt L xs false 100 (.inl (lo_iload 101 1)) := lk_iload_n (k := 1) (by decide +kernel) rfl
theorem k_33_101 (L : Nat) (xs : Nat → Int32) : ll_OK1 cX4_takeTurn RX4 (some .int) false ll_mN ll_mR ll_mK ll_cnt L xs false 101 (.inr (.inl (16, 2, 104))) := ⟨rfl, by decide, by rw [mN_16, mK_16, mR_16]; exact lj_v 91 1 1 (RX1, TX1, 12) (by decide +kernel) tb_200 tb_84 tb_85 rfl rfl rfl rfl (by decide +kernel)⟩
theorem k_33_104 (L : Nat) (xs : Nat → Int32) : ll_OK1 cX4_takeTurn RX4 (some .int) false ll_mN ll_mR ll_mK ll_cnt L xs false 104 (.inl (lo_push 105 (.int 2))) := lk_iconst (n := 2) (by decide +kernel) (by decide)
theorem k_33_105 (L : Nat) (xs : Nat → Int32) : ll_OK1 cX4_takeTurn RX4 (some .int) false ll_mN ll_mR ll_mK ll_cnt L xs false 105 (.inr (.inr 1)) := ⟨(fun h => by cases h), (fun _ => ⟨(by decide +kernel), rfl⟩), fun h => by cases h⟩
theorem k_33_106 (L : Nat) (xs : Nat → Int32) : ll_OK1 cX4_takeTurn RX4 (some .int) false ll_mN ll_mR ll_mK ll_cnt L xs false 106 (.inl (lo_aload 107 0)) := lk_aload_n (k := 0) (by decide +kernel) rfl
theorem k_33_107 (L : Nat) (xs : Nat → Int32) : ll_OK1 cX4_takeTurn RX4 (some .int) false ll_mN ll_mR ll_mK ll_cnt L xs false 107 (.inl (lo_getf 110 4 9)) := lk_getf (ix := 40) (ci := 4) (k := 9) (C := RX4) (T := TX4) (N := 10) (by decide +kernel) rfl in_4 (by decide) tb_177
theorem k_33_110 (L : Nat) (xs : Nat → Int32) : ll_OK1 cX4_takeTurn RX4 (some .int) false ll_mN ll_mR ll_mK ll_cnt L xs false 110 (.inl (lo_getf 113 1 2)) := lk_getf (ix := 76) (ci := 1) (k := 2) (C := RX1) (T := TX1) (N := 12) (by decide +kernel) rfl in_1 (by decide) tb_192
theorem k_33_113 (L : Nat) (xs : Nat → Int32) : ll_OK1 cX4_takeTurn RX4 (some .int) false ll_mN ll_mR ll_mK ll_cnt L xs false 113 (.inl (lo_iload 114 1)) := lk_iload_n (k := 1) (by decide +kernel) rfl
theorem k_33_114 (L : Nat) (xs : Nat → Int32) : ll_OK1 cX4_takeTurn RX4 (some .int) false ll_mN ll_mR ll_mK ll_cnt L xs false 114 (.inl (lo_push 115 (.int 1))) := lk_iconst (n := 1) (by decide +kernel) (by decide)
theorem k_33_115 (L : Nat) (xs : Nat → Int32) : ll_OK1 cX4_takeTurn RX4 (some .int) false ll_mN ll_mR ll_mK ll_cnt L xs false 115 (.inl (lo_ast 116 0)) := lk_iast (by decide +kernel)
theorem k_33_116 (L : Nat) (xs : Nat → Int32) : ll_OK1 cX4_takeTurn RX4 (some .int) false ll_mN ll_mR ll_mK ll_cnt L xs false 116 (.inl (lo_push 117 (.int 0))) := lk_iconst (n := 0) (by decide +kernel) (by decide)
theorem k_33_117 (L : Nat) (xs : Nat → Int32) : ll_OK1 cX4_takeTurn RX4 (some .int) false ll_mN ll_mR ll_mK ll_cnt L xs false 117 (.inr (.inr 1)) := ⟨(fun h => by cases h), (fun _ => ⟨(by decide +kernel), rfl⟩), fun h => by cases h⟩
theorem ok_33 (L : Nat) (xs : Nat → Int32) : ∀ q ∈ cd_33, ll_OK1 cX4_takeTurn RX4 (some .int) false ll_mN ll_mR ll_mK ll_cnt L xs false q.1 q.2 :=
  List.forall_mem_cons.mpr ⟨k_33_0 L xs, List.forall_mem_cons.mpr ⟨k_33_1 L xs, List.forall_mem_cons.mpr ⟨k_33_4 L xs, List.forall_mem_cons.mpr ⟨k_33_7 L xs, List.forall_mem_cons.mpr ⟨k_33_8 L xs, List.forall_mem_cons.mpr ⟨k_33_9 L xs, List.forall_mem_cons.mpr ⟨k_33_10 L xs, List.forall_mem_cons.mpr ⟨k_33_11 L xs, List.forall_mem_cons.mpr ⟨k_33_14 L xs, List.forall_mem_cons.mpr ⟨k_33_17 L xs, List.forall_mem_cons.mpr ⟨k_33_18 L xs, List.forall_mem_cons.mpr ⟨k_33_19 L xs, List.forall_mem_cons.mpr ⟨k_33_20 L xs, List.forall_mem_cons.mpr ⟨k_33_21 L xs, List.forall_mem_cons.mpr ⟨k_33_24 L xs, List.forall_mem_cons.mpr ⟨k_33_25 L xs, List.forall_mem_cons.mpr ⟨k_33_26 L xs, List.forall_mem_cons.mpr ⟨k_33_27 L xs, List.forall_mem_cons.mpr ⟨k_33_30 L xs, List.forall_mem_cons.mpr ⟨k_33_31 L xs, List.forall_mem_cons.mpr ⟨k_33_32 L xs, List.forall_mem_cons.mpr ⟨k_33_35 L xs, List.forall_mem_cons.mpr ⟨k_33_36 L xs, List.forall_mem_cons.mpr ⟨k_33_37 L xs, List.forall_mem_cons.mpr ⟨k_33_38 L xs, List.forall_mem_cons.mpr ⟨k_33_39 L xs, List.forall_mem_cons.mpr ⟨k_33_40 L xs, List.forall_mem_cons.mpr ⟨k_33_43 L xs, List.forall_mem_cons.mpr ⟨k_33_44 L xs, List.forall_mem_cons.mpr ⟨k_33_47 L xs, List.forall_mem_cons.mpr ⟨k_33_50 L xs, List.forall_mem_cons.mpr ⟨k_33_51 L xs, List.forall_mem_cons.mpr ⟨k_33_52 L xs, List.forall_mem_cons.mpr ⟨k_33_53 L xs, List.forall_mem_cons.mpr ⟨k_33_54 L xs, List.forall_mem_cons.mpr ⟨k_33_55 L xs, List.forall_mem_cons.mpr ⟨k_33_56 L xs, List.forall_mem_cons.mpr ⟨k_33_59 L xs, List.forall_mem_cons.mpr ⟨k_33_60 L xs, List.forall_mem_cons.mpr ⟨k_33_61 L xs, List.forall_mem_cons.mpr ⟨k_33_62 L xs, List.forall_mem_cons.mpr ⟨k_33_65 L xs, List.forall_mem_cons.mpr ⟨k_33_68 L xs, List.forall_mem_cons.mpr ⟨k_33_69 L xs, List.forall_mem_cons.mpr ⟨k_33_72 L xs, List.forall_mem_cons.mpr ⟨k_33_73 L xs, List.forall_mem_cons.mpr ⟨k_33_76 L xs, List.forall_mem_cons.mpr ⟨k_33_79 L xs, List.forall_mem_cons.mpr ⟨k_33_80 L xs, List.forall_mem_cons.mpr ⟨k_33_81 L xs, List.forall_mem_cons.mpr ⟨k_33_84 L xs, List.forall_mem_cons.mpr ⟨k_33_85 L xs, List.forall_mem_cons.mpr ⟨k_33_86 L xs, List.forall_mem_cons.mpr ⟨k_33_87 L xs, List.forall_mem_cons.mpr ⟨k_33_88 L xs, List.forall_mem_cons.mpr ⟨k_33_89 L xs, List.forall_mem_cons.mpr ⟨k_33_90 L xs, List.forall_mem_cons.mpr ⟨k_33_93 L xs, List.forall_mem_cons.mpr ⟨k_33_96 L xs, List.forall_mem_cons.mpr ⟨k_33_97 L xs, List.forall_mem_cons.mpr ⟨k_33_100 L xs, List.forall_mem_cons.mpr ⟨k_33_101 L xs, List.forall_mem_cons.mpr ⟨k_33_104 L xs, List.forall_mem_cons.mpr ⟨k_33_105 L xs, List.forall_mem_cons.mpr ⟨k_33_106 L xs, List.forall_mem_cons.mpr ⟨k_33_107 L xs, List.forall_mem_cons.mpr ⟨k_33_110 L xs, List.forall_mem_cons.mpr ⟨k_33_113 L xs, List.forall_mem_cons.mpr ⟨k_33_114 L xs, List.forall_mem_cons.mpr ⟨k_33_115 L xs, List.forall_mem_cons.mpr ⟨k_33_116 L xs, List.forall_mem_cons.mpr ⟨k_33_117 L xs, fun _ h => absurd h List.not_mem_nil⟩⟩⟩⟩⟩⟩⟩⟩⟩⟩⟩⟩⟩⟩⟩⟩⟩⟩⟩⟩⟩⟩⟩⟩⟩⟩⟩⟩⟩⟩⟩⟩⟩⟩⟩⟩⟩⟩⟩⟩⟩⟩⟩⟩⟩⟩⟩⟩⟩⟩⟩⟩⟩⟩⟩⟩⟩⟩⟩⟩⟩⟩⟩⟩⟩⟩⟩⟩⟩⟩⟩⟩
/-- InclusionProver$Search.step.(III)Z -/
def cd_34 : List (Nat × ll_O) := [
  (0, .inl (lo_aload 1 0)),
  (1, .inl (lo_getf 4 4 9)),
  (4, .inl (lo_iload 5 1)),
  (5, .inr (.inl (14, 2, 8))),
  (8, .inl (lo_push 9 (.int 0))),
  (9, .inl (lo_istore 11 4)),
  (11, .inl (lo_iload 13 4)),
  (13, .inl (lo_push 14 (.int 3))),
  (14, .inl (lo_cmp 104 17 (fun x y => decide (y ≤ x)))),
  (17, .inl (lo_aload 18 0)),
  (18, .inl (lo_getf 21 4 8)),
  (21, .inl (lo_iload 22 3)),
  (22, .inl (lo_iload 24 4)),
  (24, .inr (.inl (54, 3, 27))),
  (27, .inl (lo_istore 29 5)),
  (29, .inl (lo_aload 30 0)),
  (30, .inl (lo_getf 33 4 7)),
  (33, .inl (lo_iload 34 2)),
  (34, .inl (lo_iload 36 4)),
  (36, .inr (.inl (52, 3, 39))),
  (39, .inl (lo_istore 41 6)),
  (41, .inl (lo_push 42 (.int 0))),
  (42, .inl (lo_istore 44 7)),
  (44, .inl (lo_iload 46 7)),
  (46, .inl (lo_iload 48 6)),
  (48, .inl (lo_cmp 98 51 (fun x y => decide (y ≤ x)))),
  (51, .inl (lo_aload 52 0)),
  (52, .inl (lo_aload 53 0)),
  (53, .inl (lo_getf 56 4 7)),
  (56, .inl (lo_iload 57 2)),
  (57, .inl (lo_iload 59 4)),
  (59, .inl (lo_iload 61 7)),
  (61, .inr (.inl (53, 4, 64))),
  (64, .inl (lo_iload 66 5)),
  (66, .inl (lo_iload 67 1)),
  (67, .inl (lo_iload 69 4)),
  (69, .inr (.inl (35, 5, 72))),
  (72, .inl (lo_istore 74 8)),
  (74, .inl (lo_iload 76 8)),
  (76, .inl (lo_push 77 (.int (-1)))),
  (77, .inl (lo_cmp 82 80 (fun x y => decide (¬ x = y)))),
  (80, .inl (lo_push 81 (.int 0))),
  (81, .inr (.inr 2)),
  (82, .inl (lo_aload 83 0)),
  (83, .inl (lo_getf 86 4 9)),
  (86, .inl (lo_iload 87 1)),
  (87, .inl (lo_iload 89 8)),
  (89, .inr (.inl (15, 3, 92))),
  (92, .inl (lo_iinc 95 7 1)),
  (95, .inl (lo_goto 44)),
  (98, .inl (lo_iinc 101 4 1)),
  (101, .inl (lo_goto 11)),
  (104, .inl (lo_push 105 (.int 1))),
  (105, .inr (.inr 2))]
theorem k_34_0 (L : Nat) (xs : Nat → Int32) : ll_OK1 cX4_step RX4 (some .boolean) false ll_mN ll_mR ll_mK ll_cnt L xs false 0 (.inl (lo_aload 1 0)) := lk_aload_n (k := 0) (by decide +kernel) rfl
theorem k_34_1 (L : Nat) (xs : Nat → Int32) : ll_OK1 cX4_step RX4 (some .boolean) false ll_mN ll_mR ll_mK ll_cnt L xs false 1 (.inl (lo_getf 4 4 9)) := lk_getf (ix := 40) (ci := 4) (k := 9) (C := RX4) (T := TX4) (N := 10) (by decide +kernel) rfl in_4 (by decide) tb_177
theorem k_34_4 (L : Nat) (xs : Nat → Int32) : ll_OK1 cX4_step RX4 (some .boolean) false ll_mN ll_mR ll_mK ll_cnt L xs false 4 (.inl (lo_iload 5 1)) := lk_iload_n (k := 1) (by decide +kernel) rfl
theorem k_34_5 (L : Nat) (xs : Nat → Int32) : ll_OK1 cX4_step RX4 (some .boolean) false ll_mN ll_mR ll_mK ll_cnt L xs false 5 (.inr (.inl (14, 2, 8))) := ⟨rfl, by decide, by rw [mN_14, mK_14, mR_14]; exact lj_v 94 1 1 (RX1, TX1, 12) (by decide +kernel) tb_201 tb_202 tb_203 rfl rfl rfl rfl (by decide +kernel)⟩
theorem k_34_8 (L : Nat) (xs : Nat → Int32) : ll_OK1 cX4_step RX4 (some .boolean) false ll_mN ll_mR ll_mK ll_cnt L xs false 8 (.inl (lo_push 9 (.int 0))) := lk_iconst (n := 0) (by decide +kernel) (by decide)
theorem k_34_9 (L : Nat) (xs : Nat → Int32) : ll_OK1 cX4_step RX4 (some .boolean) false ll_mN ll_mR ll_mK ll_cnt L xs false 9 (.inl (lo_istore 11 4)) := lk_istore (by decide +kernel)
theorem k_34_11 (L : Nat) (xs : Nat → Int32) : ll_OK1 cX4_step RX4 (some .boolean) false ll_mN ll_mR ll_mK ll_cnt L xs false 11 (.inl (lo_iload 13 4)) := lk_iload (by decide +kernel)
theorem k_34_13 (L : Nat) (xs : Nat → Int32) : ll_OK1 cX4_step RX4 (some .boolean) false ll_mN ll_mR ll_mK ll_cnt L xs false 13 (.inl (lo_push 14 (.int 3))) := lk_iconst (n := 3) (by decide +kernel) (by decide)
theorem k_34_14 (L : Nat) (xs : Nat → Int32) : ll_OK1 cX4_step RX4 (some .boolean) false ll_mN ll_mR ll_mK ll_cnt L xs false 14 (.inl (lo_cmp 104 17 (fun x y => decide (y ≤ x)))) := lk_icmp_ge (off := 90) (by decide +kernel) rfl
theorem k_34_17 (L : Nat) (xs : Nat → Int32) : ll_OK1 cX4_step RX4 (some .boolean) false ll_mN ll_mR ll_mK ll_cnt L xs false 17 (.inl (lo_aload 18 0)) := lk_aload_n (k := 0) (by decide +kernel) rfl
theorem k_34_18 (L : Nat) (xs : Nat → Int32) : ll_OK1 cX4_step RX4 (some .boolean) false ll_mN ll_mR ll_mK ll_cnt L xs false 18 (.inl (lo_getf 21 4 8)) := lk_getf (ix := 37) (ci := 4) (k := 8) (C := RX4) (T := TX4) (N := 10) (by decide +kernel) rfl in_4 (by decide) tb_176
theorem k_34_21 (L : Nat) (xs : Nat → Int32) : ll_OK1 cX4_step RX4 (some .boolean) false ll_mN ll_mR ll_mK ll_cnt L xs false 21 (.inl (lo_iload 22 3)) := lk_iload_n (k := 3) (by decide +kernel) rfl
theorem k_34_22 (L : Nat) (xs : Nat → Int32) : ll_OK1 cX4_step RX4 (some .boolean) false ll_mN ll_mR ll_mK ll_cnt L xs false 22 (.inl (lo_iload 24 4)) := lk_iload (by decide +kernel)
theorem k_34_24 (L : Nat) (xs : Nat → Int32) : ll_OK1 cX4_step RX4 (some .boolean) false ll_mN ll_mR ll_mK ll_cnt L xs false 24 (.inr (.inl (54, 3, 27))) := ⟨rfl, by decide, by rw [mN_54, mK_54, mR_54]; exact lj_v 97 2 5 (RX5, TX5, 11) (by decide +kernel) tb_204 tb_49 tb_50 rfl rfl rfl rfl (by decide +kernel)⟩
theorem k_34_27 (L : Nat) (xs : Nat → Int32) : ll_OK1 cX4_step RX4 (some .boolean) false ll_mN ll_mR ll_mK ll_cnt L xs false 27 (.inl (lo_istore 29 5)) := lk_istore (by decide +kernel)
theorem k_34_29 (L : Nat) (xs : Nat → Int32) : ll_OK1 cX4_step RX4 (some .boolean) false ll_mN ll_mR ll_mK ll_cnt L xs false 29 (.inl (lo_aload 30 0)) := lk_aload_n (k := 0) (by decide +kernel) rfl
theorem k_34_30 (L : Nat) (xs : Nat → Int32) : ll_OK1 cX4_step RX4 (some .boolean) false ll_mN ll_mR ll_mK ll_cnt L xs false 30 (.inl (lo_getf 33 4 7)) := lk_getf (ix := 33) (ci := 4) (k := 7) (C := RX4) (T := TX4) (N := 10) (by decide +kernel) rfl in_4 (by decide) tb_175
theorem k_34_33 (L : Nat) (xs : Nat → Int32) : ll_OK1 cX4_step RX4 (some .boolean) false ll_mN ll_mR ll_mK ll_cnt L xs false 33 (.inl (lo_iload 34 2)) := lk_iload_n (k := 2) (by decide +kernel) rfl
theorem k_34_34 (L : Nat) (xs : Nat → Int32) : ll_OK1 cX4_step RX4 (some .boolean) false ll_mN ll_mR ll_mK ll_cnt L xs false 34 (.inl (lo_iload 36 4)) := lk_iload (by decide +kernel)
theorem k_34_36 (L : Nat) (xs : Nat → Int32) : ll_OK1 cX4_step RX4 (some .boolean) false ll_mN ll_mR ll_mK ll_cnt L xs false 36 (.inr (.inl (52, 3, 39))) := ⟨rfl, by decide, by rw [mN_52, mK_52, mR_52]; exact lj_v 101 2 5 (RX5, TX5, 11) (by decide +kernel) tb_205 tb_52 tb_53 rfl rfl rfl rfl (by decide +kernel)⟩
theorem k_34_39 (L : Nat) (xs : Nat → Int32) : ll_OK1 cX4_step RX4 (some .boolean) false ll_mN ll_mR ll_mK ll_cnt L xs false 39 (.inl (lo_istore 41 6)) := lk_istore (by decide +kernel)
theorem k_34_41 (L : Nat) (xs : Nat → Int32) : ll_OK1 cX4_step RX4 (some .boolean) false ll_mN ll_mR ll_mK ll_cnt L xs false 41 (.inl (lo_push 42 (.int 0))) := lk_iconst (n := 0) (by decide +kernel) (by decide)
theorem k_34_42 (L : Nat) (xs : Nat → Int32) : ll_OK1 cX4_step RX4 (some .boolean) false ll_mN ll_mR ll_mK ll_cnt L xs false 42 (.inl (lo_istore 44 7)) := lk_istore (by decide +kernel)
theorem k_34_44 (L : Nat) (xs : Nat → Int32) : ll_OK1 cX4_step RX4 (some .boolean) false ll_mN ll_mR ll_mK ll_cnt L xs false 44 (.inl (lo_iload 46 7)) := lk_iload (by decide +kernel)
theorem k_34_46 (L : Nat) (xs : Nat → Int32) : ll_OK1 cX4_step RX4 (some .boolean) false ll_mN ll_mR ll_mK ll_cnt L xs false 46 (.inl (lo_iload 48 6)) := lk_iload (by decide +kernel)
theorem k_34_48 (L : Nat) (xs : Nat → Int32) : ll_OK1 cX4_step RX4 (some .boolean) false ll_mN ll_mR ll_mK ll_cnt L xs false 48 (.inl (lo_cmp 98 51 (fun x y => decide (y ≤ x)))) := lk_icmp_ge (off := 50) (by decide +kernel) rfl
theorem k_34_51 (L : Nat) (xs : Nat → Int32) : ll_OK1 cX4_step RX4 (some .boolean) false ll_mN ll_mR ll_mK ll_cnt L xs false 51 (.inl (lo_aload 52 0)) := lk_aload_n (k := 0) (by decide +kernel) rfl
theorem k_34_52 (L : Nat) (xs : Nat → Int32) : ll_OK1 cX4_step RX4 (some .boolean) false ll_mN ll_mR ll_mK ll_cnt L xs false 52 (.inl (lo_aload 53 0)) := lk_aload_n (k := 0) (by decide +kernel) rfl
theorem k_34_53 (L : Nat) (xs : Nat → Int32) : ll_OK1 cX4_step RX4 (some .boolean) false ll_mN ll_mR ll_mK ll_cnt L xs false 53 (.inl (lo_getf 56 4 7)) := lk_getf (ix := 33) (ci := 4) (k := 7) (C := RX4) (T := TX4) (N := 10) (by decide +kernel) rfl in_4 (by decide) tb_175
theorem k_34_56 (L : Nat) (xs : Nat → Int32) : ll_OK1 cX4_step RX4 (some .boolean) false ll_mN ll_mR ll_mK ll_cnt L xs false 56 (.inl (lo_iload 57 2)) := lk_iload_n (k := 2) (by decide +kernel) rfl
theorem k_34_57 (L : Nat) (xs : Nat → Int32) : ll_OK1 cX4_step RX4 (some .boolean) false ll_mN ll_mR ll_mK ll_cnt L xs false 57 (.inl (lo_iload 59 4)) := lk_iload (by decide +kernel)
theorem k_34_59 (L : Nat) (xs : Nat → Int32) : ll_OK1 cX4_step RX4 (some .boolean) false ll_mN ll_mR ll_mK ll_cnt L xs false 59 (.inl (lo_iload 61 7)) := lk_iload (by decide +kernel)
theorem k_34_61 (L : Nat) (xs : Nat → Int32) : ll_OK1 cX4_step RX4 (some .boolean) false ll_mN ll_mR ll_mK ll_cnt L xs false 61 (.inr (.inl (53, 4, 64))) := ⟨rfl, by decide, by rw [mN_53, mK_53, mR_53]; exact lj_v 104 3 5 (RX5, TX5, 11) (by decide +kernel) tb_206 tb_55 tb_56 rfl rfl rfl rfl (by decide +kernel)⟩
theorem k_34_64 (L : Nat) (xs : Nat → Int32) : ll_OK1 cX4_step RX4 (some .boolean) false ll_mN ll_mR ll_mK ll_cnt L xs false 64 (.inl (lo_iload 66 5)) := lk_iload (by decide +kernel)
theorem k_34_66 (L : Nat) (xs : Nat → Int32) : ll_OK1 cX4_step RX4 (some .boolean) false ll_mN ll_mR ll_mK ll_cnt L xs false 66 (.inl (lo_iload 67 1)) := lk_iload_n (k := 1) (by decide +kernel) rfl
theorem k_34_67 (L : Nat) (xs : Nat → Int32) : ll_OK1 cX4_step RX4 (some .boolean) false ll_mN ll_mR ll_mK ll_cnt L xs false 67 (.inl (lo_iload 69 4)) := lk_iload (by decide +kernel)
theorem k_34_69 (L : Nat) (xs : Nat → Int32) : ll_OK1 cX4_step RX4 (some .boolean) false ll_mN ll_mR ll_mK ll_cnt L xs false 69 (.inr (.inl (35, 5, 72))) := ⟨rfl, by decide, by rw [mN_35, mK_35, mR_35]; exact lj_v 108 4 4 (RX4, TX4, 10) (by decide +kernel) tb_207 tb_208 tb_209 rfl rfl rfl rfl (by decide +kernel)⟩
theorem k_34_72 (L : Nat) (xs : Nat → Int32) : ll_OK1 cX4_step RX4 (some .boolean) false ll_mN ll_mR ll_mK ll_cnt L xs false 72 (.inl (lo_istore 74 8)) := lk_istore (by decide +kernel)
theorem k_34_74 (L : Nat) (xs : Nat → Int32) : ll_OK1 cX4_step RX4 (some .boolean) false ll_mN ll_mR ll_mK ll_cnt L xs false 74 (.inl (lo_iload 76 8)) := lk_iload (by decide +kernel)
theorem k_34_76 (L : Nat) (xs : Nat → Int32) : ll_OK1 cX4_step RX4 (some .boolean) false ll_mN ll_mR ll_mK ll_cnt L xs false 76 (.inl (lo_push 77 (.int (-1)))) := lk_iconst (n := (-1)) (by decide +kernel) (by decide)
theorem k_34_77 (L : Nat) (xs : Nat → Int32) : ll_OK1 cX4_step RX4 (some .boolean) false ll_mN ll_mR ll_mK ll_cnt L xs false 77 (.inl (lo_cmp 82 80 (fun x y => decide (¬ x = y)))) := lk_icmp_ne (off := 5) (by decide +kernel) rfl
theorem k_34_80 (L : Nat) (xs : Nat → Int32) : ll_OK1 cX4_step RX4 (some .boolean) false ll_mN ll_mR ll_mK ll_cnt L xs false 80 (.inl (lo_push 81 (.int 0))) := lk_iconst (n := 0) (by decide +kernel) (by decide)
theorem k_34_81 (L : Nat) (xs : Nat → Int32) : ll_OK1 cX4_step RX4 (some .boolean) false ll_mN ll_mR ll_mK ll_cnt L xs false 81 (.inr (.inr 2)) := ⟨(fun h => by cases h), (fun h => by cases h), fun _ => ⟨(by decide +kernel), rfl⟩⟩
theorem k_34_82 (L : Nat) (xs : Nat → Int32) : ll_OK1 cX4_step RX4 (some .boolean) false ll_mN ll_mR ll_mK ll_cnt L xs false 82 (.inl (lo_aload 83 0)) := lk_aload_n (k := 0) (by decide +kernel) rfl
theorem k_34_83 (L : Nat) (xs : Nat → Int32) : ll_OK1 cX4_step RX4 (some .boolean) false ll_mN ll_mR ll_mK ll_cnt L xs false 83 (.inl (lo_getf 86 4 9)) := lk_getf (ix := 40) (ci := 4) (k := 9) (C := RX4) (T := TX4) (N := 10) (by decide +kernel) rfl in_4 (by decide) tb_177
theorem k_34_86 (L : Nat) (xs : Nat → Int32) : ll_OK1 cX4_step RX4 (some .boolean) false ll_mN ll_mR ll_mK ll_cnt L xs false 86 (.inl (lo_iload 87 1)) := lk_iload_n (k := 1) (by decide +kernel) rfl
theorem k_34_87 (L : Nat) (xs : Nat → Int32) : ll_OK1 cX4_step RX4 (some .boolean) false ll_mN ll_mR ll_mK ll_cnt L xs false 87 (.inl (lo_iload 89 8)) := lk_iload (by decide +kernel)
theorem k_34_89 (L : Nat) (xs : Nat → Int32) : ll_OK1 cX4_step RX4 (some .boolean) false ll_mN ll_mR ll_mK ll_cnt L xs false 89 (.inr (.inl (15, 3, 92))) := ⟨rfl, by decide, by rw [mN_15, mK_15, mR_15]; exact lj_v 111 2 1 (RX1, TX1, 12) (by decide +kernel) tb_210 tb_211 tb_212 rfl rfl rfl rfl (by decide +kernel)⟩
theorem k_34_92 (L : Nat) (xs : Nat → Int32) : ll_OK1 cX4_step RX4 (some .boolean) false ll_mN ll_mR ll_mK ll_cnt L xs false 92 (.inl (lo_iinc 95 7 1)) := lk_iinc (n := 1) (by decide +kernel) (by decide)
theorem k_34_95 (L : Nat) (xs : Nat → Int32) : ll_OK1 cX4_step RX4 (some .boolean) false ll_mN ll_mR ll_mK ll_cnt L xs false 95 (.inl (lo_goto 44)) := lk_goto (off := (-51)) (by decide +kernel) rfl
theorem k_34_98 (L : Nat) (xs : Nat → Int32) : ll_OK1 cX4_step RX4 (some .boolean) false ll_mN ll_mR ll_mK ll_cnt L xs false 98 (.inl (lo_iinc 101 4 1)) := lk_iinc (n := 1) (by decide +kernel) (by decide)
theorem k_34_101 (L : Nat) (xs : Nat → Int32) : ll_OK1 cX4_step RX4 (some .boolean) false ll_mN ll_mR ll_mK ll_cnt L xs false 101 (.inl (lo_goto 11)) := lk_goto (off := (-90)) (by decide +kernel) rfl
theorem k_34_104 (L : Nat) (xs : Nat → Int32) : ll_OK1 cX4_step RX4 (some .boolean) false ll_mN ll_mR ll_mK ll_cnt L xs false 104 (.inl (lo_push 105 (.int 1))) := lk_iconst (n := 1) (by decide +kernel) (by decide)
theorem k_34_105 (L : Nat) (xs : Nat → Int32) : ll_OK1 cX4_step RX4 (some .boolean) false ll_mN ll_mR ll_mK ll_cnt L xs false 105 (.inr (.inr 2)) := ⟨(fun h => by cases h), (fun h => by cases h), fun _ => ⟨(by decide +kernel), rfl⟩⟩
theorem ok_34 (L : Nat) (xs : Nat → Int32) : ∀ q ∈ cd_34, ll_OK1 cX4_step RX4 (some .boolean) false ll_mN ll_mR ll_mK ll_cnt L xs false q.1 q.2 :=
  List.forall_mem_cons.mpr ⟨k_34_0 L xs, List.forall_mem_cons.mpr ⟨k_34_1 L xs, List.forall_mem_cons.mpr ⟨k_34_4 L xs, List.forall_mem_cons.mpr ⟨k_34_5 L xs, List.forall_mem_cons.mpr ⟨k_34_8 L xs, List.forall_mem_cons.mpr ⟨k_34_9 L xs, List.forall_mem_cons.mpr ⟨k_34_11 L xs, List.forall_mem_cons.mpr ⟨k_34_13 L xs, List.forall_mem_cons.mpr ⟨k_34_14 L xs, List.forall_mem_cons.mpr ⟨k_34_17 L xs, List.forall_mem_cons.mpr ⟨k_34_18 L xs, List.forall_mem_cons.mpr ⟨k_34_21 L xs, List.forall_mem_cons.mpr ⟨k_34_22 L xs, List.forall_mem_cons.mpr ⟨k_34_24 L xs, List.forall_mem_cons.mpr ⟨k_34_27 L xs, List.forall_mem_cons.mpr ⟨k_34_29 L xs, List.forall_mem_cons.mpr ⟨k_34_30 L xs, List.forall_mem_cons.mpr ⟨k_34_33 L xs, List.forall_mem_cons.mpr ⟨k_34_34 L xs, List.forall_mem_cons.mpr ⟨k_34_36 L xs, List.forall_mem_cons.mpr ⟨k_34_39 L xs, List.forall_mem_cons.mpr ⟨k_34_41 L xs, List.forall_mem_cons.mpr ⟨k_34_42 L xs, List.forall_mem_cons.mpr ⟨k_34_44 L xs, List.forall_mem_cons.mpr ⟨k_34_46 L xs, List.forall_mem_cons.mpr ⟨k_34_48 L xs, List.forall_mem_cons.mpr ⟨k_34_51 L xs, List.forall_mem_cons.mpr ⟨k_34_52 L xs, List.forall_mem_cons.mpr ⟨k_34_53 L xs, List.forall_mem_cons.mpr ⟨k_34_56 L xs, List.forall_mem_cons.mpr ⟨k_34_57 L xs, List.forall_mem_cons.mpr ⟨k_34_59 L xs, List.forall_mem_cons.mpr ⟨k_34_61 L xs, List.forall_mem_cons.mpr ⟨k_34_64 L xs, List.forall_mem_cons.mpr ⟨k_34_66 L xs, List.forall_mem_cons.mpr ⟨k_34_67 L xs, List.forall_mem_cons.mpr ⟨k_34_69 L xs, List.forall_mem_cons.mpr ⟨k_34_72 L xs, List.forall_mem_cons.mpr ⟨k_34_74 L xs, List.forall_mem_cons.mpr ⟨k_34_76 L xs, List.forall_mem_cons.mpr ⟨k_34_77 L xs, List.forall_mem_cons.mpr ⟨k_34_80 L xs, List.forall_mem_cons.mpr ⟨k_34_81 L xs, List.forall_mem_cons.mpr ⟨k_34_82 L xs, List.forall_mem_cons.mpr ⟨k_34_83 L xs, List.forall_mem_cons.mpr ⟨k_34_86 L xs, List.forall_mem_cons.mpr ⟨k_34_87 L xs, List.forall_mem_cons.mpr ⟨k_34_89 L xs, List.forall_mem_cons.mpr ⟨k_34_92 L xs, List.forall_mem_cons.mpr ⟨k_34_95 L xs, List.forall_mem_cons.mpr ⟨k_34_98 L xs, List.forall_mem_cons.mpr ⟨k_34_101 L xs, List.forall_mem_cons.mpr ⟨k_34_104 L xs, List.forall_mem_cons.mpr ⟨k_34_105 L xs, fun _ h => absurd h List.not_mem_nil⟩⟩⟩⟩⟩⟩⟩⟩⟩⟩⟩⟩⟩⟩⟩⟩⟩⟩⟩⟩⟩⟩⟩⟩⟩⟩⟩⟩⟩⟩⟩⟩⟩⟩⟩⟩⟩⟩⟩⟩⟩⟩⟩⟩⟩⟩⟩⟩⟩⟩⟩⟩⟩⟩
/-- InclusionProver$Search.lineFor.(IIII)I -/
def cd_35 : List (Nat × ll_O) := [
  (0, .inl (lo_aload 1 0)),
  (1, .inl (lo_getf 4 4 7)),
  (4, .inl (lo_iload 5 1)),
  (5, .inr (.inl (45, 2, 8))),
  (8, .inl (lo_if 13 11 (fun x => decide (¬ x = 0)))),
  (11, .inl (lo_push 12 (.int (-1)))),
  (12, .inr (.inr 1)),
  (13, .inl (lo_aload 14 0)),
  (14, .inl (lo_getf 17 4 3)),
  (17, .inl (lo_iload 18 1)),
  (18, .inl (lo_ald 19 0)),
  (19, .inl (lo_istore 21 5)),
  (21, .inl (lo_push 22 (.int 0))),
  (22, .inl (lo_istore 24 6)),
  (24, .inl (lo_iload 26 6)),
  (26, .inl (lo_push 29 (.int 300))),
  (29, .inl (lo_cmp 73 32 (fun x y => decide (y ≤ x)))),
  (32, .inl (lo_iload 34 5)),
  (34, .inl (lo_push 35 (.int (-1)))),
  (35, .inl (lo_cmp 73 38 (fun x y => decide (x = y)))),
  (38, .inl (lo_aload 39 0)),
  (39, .inl (lo_getf 42 4 9)),
  (42, .inl (lo_getf 45 1 1)),
  (45, .inl (lo_iload 47 5)),
  (47, .inl (lo_ald 48 0)),
  (48, .inl (lo_iload 49 2)),
  (49, .inl (lo_push 50 (.int (-1)))),
  (50, .inl (lo_bin 51 (fun x y => x ^^^ y))),
  (51, .inl (lo_bin 52 (fun x y => x &&& y))),
  (52, .inl (lo_if 58 55 (fun x => decide (¬ x = 0)))),
  (55, .inl (lo_iload 57 5)),
  (57, .inr (.inr 1)),
  (58, .inl (lo_aload 59 0)),
  (59, .inl (lo_getf 62 4 5)),
  (62, .inl (lo_iload 64 5)),
  (64, .inl (lo_ald 65 0)),
  (65, .inl (lo_istore 67 5)),
  (67, .inl (lo_iinc 70 6 1)),
  (70, .inl (lo_goto 24)),
  (73, .inl (lo_aload 74 0)),
  (74, .inl (lo_iload 75 1)),
  (75, .inl (lo_iload 76 2)),
  (76, .inl (lo_iload 77 3)),
  (77, .inl (lo_iload 79 4)),
  (79, .inr (.inl (36, 5, 82))),
  (82, .inr (.inr 1))]
theorem k_35_0 (L : Nat) (xs : Nat → Int32) : ll_OK1 cX4_lineFor RX4 (some .int) false ll_mN ll_mR ll_mK ll_cnt L xs false 0 (.inl (lo_aload 1 0)) := lk_aload_n (k := 0) (by decide +kernel) rfl
theorem k_35_1 (L : Nat) (xs : Nat → Int32) : ll_OK1 cX4_lineFor RX4 (some .int) false ll_mN ll_mR ll_mK ll_cnt L xs false 1 (.inl (lo_getf 4 4 7)) := lk_getf (ix := 33) (ci := 4) (k := 7) (C := RX4) (T := TX4) (N := 10) (by decide +kernel) rfl in_4 (by decide) tb_175
theorem k_35_4 (L : Nat) (xs : Nat → Int32) : ll_OK1 cX4_lineFor RX4 (some .int) false ll_mN ll_mR ll_mK ll_cnt L xs false 4 (.inl (lo_iload 5 1)) := lk_iload_n (k := 1) (by decide +kernel) rfl
theorem k_35_5 (L : Nat) (xs : Nat → Int32) : ll_OK1 cX4_lineFor RX4 (some .int) false ll_mN ll_mR ll_mK ll_cnt L xs false 5 (.inr (.inl (45, 2, 8))) := ⟨rfl, by decide, by rw [mN_45, mK_45, mR_45]; exact lj_v 115 1 5 (RX5, TX5, 11) (by decide +kernel) tb_213 tb_21 tb_22 rfl rfl rfl rfl (by decide +kernel)⟩
theorem k_35_8 (L : Nat) (xs : Nat → Int32) : ll_OK1 cX4_lineFor RX4 (some .int) false ll_mN ll_mR ll_mK ll_cnt L xs false 8 (.inl (lo_if 13 11 (fun x => decide (¬ x = 0)))) := lk_if_ne (off := 5) (by decide +kernel) rfl
theorem k_35_11 (L : Nat) (xs : Nat → Int32) : ll_OK1 cX4_lineFor RX4 (some .int) false ll_mN ll_mR ll_mK ll_cnt L xs false 11 (.inl (lo_push 12 (.int (-1)))) := lk_iconst (n := (-1)) (by decide +kernel) (by decide)
theorem k_35_12 (L : Nat) (xs : Nat → Int32) : ll_OK1 cX4_lineFor RX4 (some .int) false ll_mN ll_mR ll_mK ll_cnt L xs false 12 (.inr (.inr 1)) := ⟨(fun h => by cases h), (fun _ => ⟨(by decide +kernel), rfl⟩), fun h => by cases h⟩
theorem k_35_13 (L : Nat) (xs : Nat → Int32) : ll_OK1 cX4_lineFor RX4 (some .int) false ll_mN ll_mR ll_mK ll_cnt L xs false 13 (.inl (lo_aload 14 0)) := lk_aload_n (k := 0) (by decide +kernel) rfl
theorem k_35_14 (L : Nat) (xs : Nat → Int32) : ll_OK1 cX4_lineFor RX4 (some .int) false ll_mN ll_mR ll_mK ll_cnt L xs false 14 (.inl (lo_getf 17 4 3)) := lk_getf (ix := 21) (ci := 4) (k := 3) (C := RX4) (T := TX4) (N := 10) (by decide +kernel) rfl in_4 (by decide) tb_171
theorem k_35_17 (L : Nat) (xs : Nat → Int32) : ll_OK1 cX4_lineFor RX4 (some .int) false ll_mN ll_mR ll_mK ll_cnt L xs false 17 (.inl (lo_iload 18 1)) := lk_iload_n (k := 1) (by decide +kernel) rfl
theorem k_35_18 (L : Nat) (xs : Nat → Int32) : ll_OK1 cX4_lineFor RX4 (some .int) false ll_mN ll_mR ll_mK ll_cnt L xs false 18 (.inl (lo_ald 19 0)) := lk_iald (by decide +kernel)
theorem k_35_19 (L : Nat) (xs : Nat → Int32) : ll_OK1 cX4_lineFor RX4 (some .int) false ll_mN ll_mR ll_mK ll_cnt L xs false 19 (.inl (lo_istore 21 5)) := lk_istore (by decide +kernel)
theorem k_35_21 (L : Nat) (xs : Nat → Int32) : ll_OK1 cX4_lineFor RX4 (some .int) false ll_mN ll_mR ll_mK ll_cnt L xs false 21 (.inl (lo_push 22 (.int 0))) := lk_iconst (n := 0) (by decide +kernel) (by decide)
theorem k_35_22 (L : Nat) (xs : Nat → Int32) : ll_OK1 cX4_lineFor RX4 (some .int) false ll_mN ll_mR ll_mK ll_cnt L xs false 22 (.inl (lo_istore 24 6)) := lk_istore (by decide +kernel)
theorem k_35_24 (L : Nat) (xs : Nat → Int32) : ll_OK1 cX4_lineFor RX4 (some .int) false ll_mN ll_mR ll_mK ll_cnt L xs false 24 (.inl (lo_iload 26 6)) := lk_iload (by decide +kernel)
theorem k_35_26 (L : Nat) (xs : Nat → Int32) : ll_OK1 cX4_lineFor RX4 (some .int) false ll_mN ll_mR ll_mK ll_cnt L xs false 26 (.inl (lo_push 29 (.int 300))) := lk_sipush (n := 300) (by decide +kernel) (by decide)
theorem k_35_29 (L : Nat) (xs : Nat → Int32) : ll_OK1 cX4_lineFor RX4 (some .int) false ll_mN ll_mR ll_mK ll_cnt L xs false 29 (.inl (lo_cmp 73 32 (fun x y => decide (y ≤ x)))) := lk_icmp_ge (off := 44) (by decide +kernel) rfl
theorem k_35_32 (L : Nat) (xs : Nat → Int32) : ll_OK1 cX4_lineFor RX4 (some .int) false ll_mN ll_mR ll_mK ll_cnt L xs false 32 (.inl (lo_iload 34 5)) := lk_iload (by decide +kernel)
theorem k_35_34 (L : Nat) (xs : Nat → Int32) : ll_OK1 cX4_lineFor RX4 (some .int) false ll_mN ll_mR ll_mK ll_cnt L xs false 34 (.inl (lo_push 35 (.int (-1)))) := lk_iconst (n := (-1)) (by decide +kernel) (by decide)
theorem k_35_35 (L : Nat) (xs : Nat → Int32) : ll_OK1 cX4_lineFor RX4 (some .int) false ll_mN ll_mR ll_mK ll_cnt L xs false 35 (.inl (lo_cmp 73 38 (fun x y => decide (x = y)))) := lk_icmp_eq (off := 38) (by decide +kernel) rfl
theorem k_35_38 (L : Nat) (xs : Nat → Int32) : ll_OK1 cX4_lineFor RX4 (some .int) false ll_mN ll_mR ll_mK ll_cnt L xs false 38 (.inl (lo_aload 39 0)) := lk_aload_n (k := 0) (by decide +kernel) rfl
theorem k_35_39 (L : Nat) (xs : Nat → Int32) : ll_OK1 cX4_lineFor RX4 (some .int) false ll_mN ll_mR ll_mK ll_cnt L xs false 39 (.inl (lo_getf 42 4 9)) := lk_getf (ix := 40) (ci := 4) (k := 9) (C := RX4) (T := TX4) (N := 10) (by decide +kernel) rfl in_4 (by decide) tb_177
theorem k_35_42 (L : Nat) (xs : Nat → Int32) : ll_OK1 cX4_lineFor RX4 (some .int) false ll_mN ll_mR ll_mK ll_cnt L xs false 42 (.inl (lo_getf 45 1 1)) := lk_getf (ix := 73) (ci := 1) (k := 1) (C := RX1) (T := TX1) (N := 12) (by decide +kernel) rfl in_1 (by decide) tb_191
theorem k_35_45 (L : Nat) (xs : Nat → Int32) : ll_OK1 cX4_lineFor RX4 (some .int) false ll_mN ll_mR ll_mK ll_cnt L xs false 45 (.inl (lo_iload 47 5)) := lk_iload (by decide +kernel)
theorem k_35_47 (L : Nat) (xs : Nat → Int32) : ll_OK1 cX4_lineFor RX4 (some .int) false ll_mN ll_mR ll_mK ll_cnt L xs false 47 (.inl (lo_ald 48 0)) := lk_iald (by decide +kernel)
theorem k_35_48 (L : Nat) (xs : Nat → Int32) : ll_OK1 cX4_lineFor RX4 (some .int) false ll_mN ll_mR ll_mK ll_cnt L xs false 48 (.inl (lo_iload 49 2)) := lk_iload_n (k := 2) (by decide +kernel) rfl
theorem k_35_49 (L : Nat) (xs : Nat → Int32) : ll_OK1 cX4_lineFor RX4 (some .int) false ll_mN ll_mR ll_mK ll_cnt L xs false 49 (.inl (lo_push 50 (.int (-1)))) := lk_iconst (n := (-1)) (by decide +kernel) (by decide)
theorem k_35_50 (L : Nat) (xs : Nat → Int32) : ll_OK1 cX4_lineFor RX4 (some .int) false ll_mN ll_mR ll_mK ll_cnt L xs false 50 (.inl (lo_bin 51 (fun x y => x ^^^ y))) := lk_ixor (by decide +kernel)
theorem k_35_51 (L : Nat) (xs : Nat → Int32) : ll_OK1 cX4_lineFor RX4 (some .int) false ll_mN ll_mR ll_mK ll_cnt L xs false 51 (.inl (lo_bin 52 (fun x y => x &&& y))) := lk_iand (by decide +kernel)
theorem k_35_52 (L : Nat) (xs : Nat → Int32) : ll_OK1 cX4_lineFor RX4 (some .int) false ll_mN ll_mR ll_mK ll_cnt L xs false 52 (.inl (lo_if 58 55 (fun x => decide (¬ x = 0)))) := lk_if_ne (off := 6) (by decide +kernel) rfl
theorem k_35_55 (L : Nat) (xs : Nat → Int32) : ll_OK1 cX4_lineFor RX4 (some .int) false ll_mN ll_mR ll_mK ll_cnt L xs false 55 (.inl (lo_iload 57 5)) := lk_iload (by decide +kernel)
theorem k_35_57 (L : Nat) (xs : Nat → Int32) : ll_OK1 cX4_lineFor RX4 (some .int) false ll_mN ll_mR ll_mK ll_cnt L xs false 57 (.inr (.inr 1)) := ⟨(fun h => by cases h), (fun _ => ⟨(by decide +kernel), rfl⟩), fun h => by cases h⟩
theorem k_35_58 (L : Nat) (xs : Nat → Int32) : ll_OK1 cX4_lineFor RX4 (some .int) false ll_mN ll_mR ll_mK ll_cnt L xs false 58 (.inl (lo_aload 59 0)) := lk_aload_n (k := 0) (by decide +kernel) rfl
theorem k_35_59 (L : Nat) (xs : Nat → Int32) : ll_OK1 cX4_lineFor RX4 (some .int) false ll_mN ll_mR ll_mK ll_cnt L xs false 59 (.inl (lo_getf 62 4 5)) := lk_getf (ix := 27) (ci := 4) (k := 5) (C := RX4) (T := TX4) (N := 10) (by decide +kernel) rfl in_4 (by decide) tb_173
theorem k_35_62 (L : Nat) (xs : Nat → Int32) : ll_OK1 cX4_lineFor RX4 (some .int) false ll_mN ll_mR ll_mK ll_cnt L xs false 62 (.inl (lo_iload 64 5)) := lk_iload (by decide +kernel)
theorem k_35_64 (L : Nat) (xs : Nat → Int32) : ll_OK1 cX4_lineFor RX4 (some .int) false ll_mN ll_mR ll_mK ll_cnt L xs false 64 (.inl (lo_ald 65 0)) := lk_iald (by decide +kernel)
theorem k_35_65 (L : Nat) (xs : Nat → Int32) : ll_OK1 cX4_lineFor RX4 (some .int) false ll_mN ll_mR ll_mK ll_cnt L xs false 65 (.inl (lo_istore 67 5)) := lk_istore (by decide +kernel)
theorem k_35_67 (L : Nat) (xs : Nat → Int32) : ll_OK1 cX4_lineFor RX4 (some .int) false ll_mN ll_mR ll_mK ll_cnt L xs false 67 (.inl (lo_iinc 70 6 1)) := lk_iinc (n := 1) (by decide +kernel) (by decide)
theorem k_35_70 (L : Nat) (xs : Nat → Int32) : ll_OK1 cX4_lineFor RX4 (some .int) false ll_mN ll_mR ll_mK ll_cnt L xs false 70 (.inl (lo_goto 24)) := lk_goto (off := (-46)) (by decide +kernel) rfl
theorem k_35_73 (L : Nat) (xs : Nat → Int32) : ll_OK1 cX4_lineFor RX4 (some .int) false ll_mN ll_mR ll_mK ll_cnt L xs false 73 (.inl (lo_aload 74 0)) := lk_aload_n (k := 0) (by decide +kernel) rfl
theorem k_35_74 (L : Nat) (xs : Nat → Int32) : ll_OK1 cX4_lineFor RX4 (some .int) false ll_mN ll_mR ll_mK ll_cnt L xs false 74 (.inl (lo_iload 75 1)) := lk_iload_n (k := 1) (by decide +kernel) rfl
theorem k_35_75 (L : Nat) (xs : Nat → Int32) : ll_OK1 cX4_lineFor RX4 (some .int) false ll_mN ll_mR ll_mK ll_cnt L xs false 75 (.inl (lo_iload 76 2)) := lk_iload_n (k := 2) (by decide +kernel) rfl
theorem k_35_76 (L : Nat) (xs : Nat → Int32) : ll_OK1 cX4_lineFor RX4 (some .int) false ll_mN ll_mR ll_mK ll_cnt L xs false 76 (.inl (lo_iload 77 3)) := lk_iload_n (k := 3) (by decide +kernel) rfl
theorem k_35_77 (L : Nat) (xs : Nat → Int32) : ll_OK1 cX4_lineFor RX4 (some .int) false ll_mN ll_mR ll_mK ll_cnt L xs false 77 (.inl (lo_iload 79 4)) := lk_iload (by decide +kernel)
theorem k_35_79 (L : Nat) (xs : Nat → Int32) : ll_OK1 cX4_lineFor RX4 (some .int) false ll_mN ll_mR ll_mK ll_cnt L xs false 79 (.inr (.inl (36, 5, 82))) := ⟨rfl, by decide, by rw [mN_36, mK_36, mR_36]; exact lj_v 59 4 4 (RX4, TX4, 10) (by decide +kernel) tb_183 tb_184 tb_185 rfl rfl rfl rfl (by decide +kernel)⟩
theorem k_35_82 (L : Nat) (xs : Nat → Int32) : ll_OK1 cX4_lineFor RX4 (some .int) false ll_mN ll_mR ll_mK ll_cnt L xs false 82 (.inr (.inr 1)) := ⟨(fun h => by cases h), (fun _ => ⟨(by decide +kernel), rfl⟩), fun h => by cases h⟩
theorem ok_35 (L : Nat) (xs : Nat → Int32) : ∀ q ∈ cd_35, ll_OK1 cX4_lineFor RX4 (some .int) false ll_mN ll_mR ll_mK ll_cnt L xs false q.1 q.2 :=
  List.forall_mem_cons.mpr ⟨k_35_0 L xs, List.forall_mem_cons.mpr ⟨k_35_1 L xs, List.forall_mem_cons.mpr ⟨k_35_4 L xs, List.forall_mem_cons.mpr ⟨k_35_5 L xs, List.forall_mem_cons.mpr ⟨k_35_8 L xs, List.forall_mem_cons.mpr ⟨k_35_11 L xs, List.forall_mem_cons.mpr ⟨k_35_12 L xs, List.forall_mem_cons.mpr ⟨k_35_13 L xs, List.forall_mem_cons.mpr ⟨k_35_14 L xs, List.forall_mem_cons.mpr ⟨k_35_17 L xs, List.forall_mem_cons.mpr ⟨k_35_18 L xs, List.forall_mem_cons.mpr ⟨k_35_19 L xs, List.forall_mem_cons.mpr ⟨k_35_21 L xs, List.forall_mem_cons.mpr ⟨k_35_22 L xs, List.forall_mem_cons.mpr ⟨k_35_24 L xs, List.forall_mem_cons.mpr ⟨k_35_26 L xs, List.forall_mem_cons.mpr ⟨k_35_29 L xs, List.forall_mem_cons.mpr ⟨k_35_32 L xs, List.forall_mem_cons.mpr ⟨k_35_34 L xs, List.forall_mem_cons.mpr ⟨k_35_35 L xs, List.forall_mem_cons.mpr ⟨k_35_38 L xs, List.forall_mem_cons.mpr ⟨k_35_39 L xs, List.forall_mem_cons.mpr ⟨k_35_42 L xs, List.forall_mem_cons.mpr ⟨k_35_45 L xs, List.forall_mem_cons.mpr ⟨k_35_47 L xs, List.forall_mem_cons.mpr ⟨k_35_48 L xs, List.forall_mem_cons.mpr ⟨k_35_49 L xs, List.forall_mem_cons.mpr ⟨k_35_50 L xs, List.forall_mem_cons.mpr ⟨k_35_51 L xs, List.forall_mem_cons.mpr ⟨k_35_52 L xs, List.forall_mem_cons.mpr ⟨k_35_55 L xs, List.forall_mem_cons.mpr ⟨k_35_57 L xs, List.forall_mem_cons.mpr ⟨k_35_58 L xs, List.forall_mem_cons.mpr ⟨k_35_59 L xs, List.forall_mem_cons.mpr ⟨k_35_62 L xs, List.forall_mem_cons.mpr ⟨k_35_64 L xs, List.forall_mem_cons.mpr ⟨k_35_65 L xs, List.forall_mem_cons.mpr ⟨k_35_67 L xs, List.forall_mem_cons.mpr ⟨k_35_70 L xs, List.forall_mem_cons.mpr ⟨k_35_73 L xs, List.forall_mem_cons.mpr ⟨k_35_74 L xs, List.forall_mem_cons.mpr ⟨k_35_75 L xs, List.forall_mem_cons.mpr ⟨k_35_76 L xs, List.forall_mem_cons.mpr ⟨k_35_77 L xs, List.forall_mem_cons.mpr ⟨k_35_79 L xs, List.forall_mem_cons.mpr ⟨k_35_82 L xs, fun _ h => absurd h List.not_mem_nil⟩⟩⟩⟩⟩⟩⟩⟩⟩⟩⟩⟩⟩⟩⟩⟩⟩⟩⟩⟩⟩⟩⟩⟩⟩⟩⟩⟩⟩⟩⟩⟩⟩⟩⟩⟩⟩⟩⟩⟩⟩⟩⟩⟩⟩⟩
/-- InclusionProver$Search.comeTo.(IIII)I -/
def cd_36 : List (Nat × ll_O) := [
  (0, .inl (lo_aload 1 0)),
  (1, .inl (lo_getf 4 4 9)),
  (4, .inl (lo_iload 5 1)),
  (5, .inl (lo_iload 6 2)),
  (6, .inr (.inl (13, 3, 9))),
  (9, .inl (lo_istore 11 5)),
  (11, .inl (lo_iload 13 5)),
  (13, .inl (lo_push 14 (.int (-1)))),
  (14, .inl (lo_cmp 19 17 (fun x y => decide (¬ x = y)))),
  (17, .inl (lo_push 18 (.int (-1)))),
  (18, .inr (.inr 1)),
  (19, .inl (lo_aload 20 0)),
  (20, .inl (lo_getf 23 4 0)),
  (23, .inl (lo_iload 25 5)),
  (25, .inl (lo_iload 26 3)),
  (26, .inl (lo_ast 27 0)),
  (27, .inl (lo_aload 28 0)),
  (28, .inl (lo_getf 31 4 1)),
  (31, .inl (lo_iload 33 5)),
  (33, .inl (lo_iload 35 4)),
  (35, .inl (lo_ast 36 0)),
  (36, .inl (lo_aload 37 0)),
  (37, .inl (lo_getf 40 4 2)),
  (40, .inl (lo_iload 42 5)),
  (42, .inl (lo_iload 43 3)),
  (43, .inl (lo_push 44 (.int (-1)))),
  (44, .inl (lo_cmp 51 47 (fun x y => decide (¬ x = y)))),
  (47, .inl (lo_push 48 (.int 0))),
  (48, .inl (lo_goto 59)),
  (51, .inl (lo_aload 52 0)),
  (52, .inl (lo_getf 55 4 2)),
  (55, .inl (lo_iload 56 3)),
  (56, .inl (lo_ald 57 0)),
  (57, .inl (lo_push 58 (.int 1))),
  (58, .inl (lo_bin 59 (fun x y => x + y))),
  (59, .inl (lo_ast 60 0)),
  (60, .inl (lo_aload 61 0)),
  (61, .inl (lo_getf 64 4 9)),
  (64, .inl (lo_aload 65 0)),
  (65, .inl (lo_getf 68 4 9)),
  (68, .inl (lo_getf 71 1 10)),
  (71, .inl (lo_aload 72 0)),
  (72, .inl (lo_getf 75 4 2)),
  (75, .inl (lo_iload 77 5)),
  (77, .inl (lo_ald 78 0)),
  (78, .inl (lo_mm 81 (fun x y => if x < y then y else x))),
  (81, .inl (lo_putf 84 1 10 0)),
  (84, .inl (lo_aload 85 0)),
  (85, .inl (lo_getf 88 4 5)),
  (88, .inl (lo_iload 90 5)),
  (90, .inl (lo_push 91 (.int (-1)))),
  (91, .inl (lo_ast 92 0)),
  (92, .inl (lo_aload 93 0)),
  (93, .inl (lo_getf 96 4 3)),
  (96, .inl (lo_iload 97 1)),
  (97, .inl (lo_ald 98 0)),
  (98, .inl (lo_push 99 (.int (-1)))),
  (99, .inl (lo_cmp 113 102 (fun x y => decide (¬ x = y)))),
  (102, .inl (lo_aload 103 0)),
  (103, .inl (lo_getf 106 4 3)),
  (106, .inl (lo_iload 107 1)),
  (107, .inl (lo_iload 109 5)),
  (109, .inl (lo_ast 110 0)),
  (110, .inl (lo_goto 126)),
  (113, .inl (lo_aload 114 0)),
  (114, .inl (lo_getf 117 4 5)),
  (117, .inl (lo_aload 118 0)),
  (118, .inl (lo_getf 121 4 4)),
  (121, .inl (lo_iload 122 1)),
  (122, .inl (lo_ald 123 0)),
  (123, .inl (lo_iload 125 5)),
  (125, .inl (lo_ast 126 0)),
  (126, .inl (lo_aload 127 0)),
  (127, .inl (lo_getf 130 4 4)),
  (130, .inl (lo_iload 131 1)),
  (131, .inl (lo_iload 133 5)),
  (133, .inl (lo_ast 134 0)),
  (134, .inl (lo_iload 136 5)),
  (136, .inr (.inr 1))]
theorem k_36_0 (L : Nat) (xs : Nat → Int32) : ll_OK1 cX4_comeTo RX4 (some .int) false ll_mN ll_mR ll_mK ll_cnt L xs false 0 (.inl (lo_aload 1 0)) := lk_aload_n (k := 0) (by decide +kernel) rfl
theorem k_36_1 (L : Nat) (xs : Nat → Int32) : ll_OK1 cX4_comeTo RX4 (some .int) false ll_mN ll_mR ll_mK ll_cnt L xs false 1 (.inl (lo_getf 4 4 9)) := lk_getf (ix := 40) (ci := 4) (k := 9) (C := RX4) (T := TX4) (N := 10) (by decide +kernel) rfl in_4 (by decide) tb_177
theorem k_36_4 (L : Nat) (xs : Nat → Int32) : ll_OK1 cX4_comeTo RX4 (some .int) false ll_mN ll_mR ll_mK ll_cnt L xs false 4 (.inl (lo_iload 5 1)) := lk_iload_n (k := 1) (by decide +kernel) rfl
theorem k_36_5 (L : Nat) (xs : Nat → Int32) : ll_OK1 cX4_comeTo RX4 (some .int) false ll_mN ll_mR ll_mK ll_cnt L xs false 5 (.inl (lo_iload 6 2)) := lk_iload_n (k := 2) (by decide +kernel) rfl
theorem k_36_6 (L : Nat) (xs : Nat → Int32) : ll_OK1 cX4_comeTo RX4 (some .int) false ll_mN ll_mR ll_mK ll_cnt L xs false 6 (.inr (.inl (13, 3, 9))) := ⟨rfl, by decide, by rw [mN_13, mK_13, mR_13]; exact lj_v 118 2 1 (RX1, TX1, 12) (by decide +kernel) tb_214 tb_215 tb_216 rfl rfl rfl rfl (by decide +kernel)⟩
theorem k_36_9 (L : Nat) (xs : Nat → Int32) : ll_OK1 cX4_comeTo RX4 (some .int) false ll_mN ll_mR ll_mK ll_cnt L xs false 9 (.inl (lo_istore 11 5)) := lk_istore (by decide +kernel)
theorem k_36_11 (L : Nat) (xs : Nat → Int32) : ll_OK1 cX4_comeTo RX4 (some .int) false ll_mN ll_mR ll_mK ll_cnt L xs false 11 (.inl (lo_iload 13 5)) := lk_iload (by decide +kernel)
theorem k_36_13 (L : Nat) (xs : Nat → Int32) : ll_OK1 cX4_comeTo RX4 (some .int) false ll_mN ll_mR ll_mK ll_cnt L xs false 13 (.inl (lo_push 14 (.int (-1)))) := lk_iconst (n := (-1)) (by decide +kernel) (by decide)
theorem k_36_14 (L : Nat) (xs : Nat → Int32) : ll_OK1 cX4_comeTo RX4 (some .int) false ll_mN ll_mR ll_mK ll_cnt L xs false 14 (.inl (lo_cmp 19 17 (fun x y => decide (¬ x = y)))) := lk_icmp_ne (off := 5) (by decide +kernel) rfl
theorem k_36_17 (L : Nat) (xs : Nat → Int32) : ll_OK1 cX4_comeTo RX4 (some .int) false ll_mN ll_mR ll_mK ll_cnt L xs false 17 (.inl (lo_push 18 (.int (-1)))) := lk_iconst (n := (-1)) (by decide +kernel) (by decide)
theorem k_36_18 (L : Nat) (xs : Nat → Int32) : ll_OK1 cX4_comeTo RX4 (some .int) false ll_mN ll_mR ll_mK ll_cnt L xs false 18 (.inr (.inr 1)) := ⟨(fun h => by cases h), (fun _ => ⟨(by decide +kernel), rfl⟩), fun h => by cases h⟩
theorem k_36_19 (L : Nat) (xs : Nat → Int32) : ll_OK1 cX4_comeTo RX4 (some .int) false ll_mN ll_mR ll_mK ll_cnt L xs false 19 (.inl (lo_aload 20 0)) := lk_aload_n (k := 0) (by decide +kernel) rfl
theorem k_36_20 (L : Nat) (xs : Nat → Int32) : ll_OK1 cX4_comeTo RX4 (some .int) false ll_mN ll_mR ll_mK ll_cnt L xs false 20 (.inl (lo_getf 23 4 0)) := lk_getf (ix := 9) (ci := 4) (k := 0) (C := RX4) (T := TX4) (N := 10) (by decide +kernel) rfl in_4 (by decide) tb_168
theorem k_36_23 (L : Nat) (xs : Nat → Int32) : ll_OK1 cX4_comeTo RX4 (some .int) false ll_mN ll_mR ll_mK ll_cnt L xs false 23 (.inl (lo_iload 25 5)) := lk_iload (by decide +kernel)
theorem k_36_25 (L : Nat) (xs : Nat → Int32) : ll_OK1 cX4_comeTo RX4 (some .int) false ll_mN ll_mR ll_mK ll_cnt L xs false 25 (.inl (lo_iload 26 3)) := lk_iload_n (k := 3) (by decide +kernel) rfl
theorem k_36_26 (L : Nat) (xs : Nat → Int32) : ll_OK1 cX4_comeTo RX4 (some .int) false ll_mN ll_mR ll_mK ll_cnt L xs false 26 (.inl (lo_ast 27 0)) := lk_iast (by decide +kernel)
theorem k_36_27 (L : Nat) (xs : Nat → Int32) : ll_OK1 cX4_comeTo RX4 (some .int) false ll_mN ll_mR ll_mK ll_cnt L xs false 27 (.inl (lo_aload 28 0)) := lk_aload_n (k := 0) (by decide +kernel) rfl
theorem k_36_28 (L : Nat) (xs : Nat → Int32) : ll_OK1 cX4_comeTo RX4 (some .int) false ll_mN ll_mR ll_mK ll_cnt L xs false 28 (.inl (lo_getf 31 4 1)) := lk_getf (ix := 15) (ci := 4) (k := 1) (C := RX4) (T := TX4) (N := 10) (by decide +kernel) rfl in_4 (by decide) tb_169
theorem k_36_31 (L : Nat) (xs : Nat → Int32) : ll_OK1 cX4_comeTo RX4 (some .int) false ll_mN ll_mR ll_mK ll_cnt L xs false 31 (.inl (lo_iload 33 5)) := lk_iload (by decide +kernel)
theorem k_36_33 (L : Nat) (xs : Nat → Int32) : ll_OK1 cX4_comeTo RX4 (some .int) false ll_mN ll_mR ll_mK ll_cnt L xs false 33 (.inl (lo_iload 35 4)) := lk_iload (by decide +kernel)
theorem k_36_35 (L : Nat) (xs : Nat → Int32) : ll_OK1 cX4_comeTo RX4 (some .int) false ll_mN ll_mR ll_mK ll_cnt L xs false 35 (.inl (lo_ast 36 0)) := lk_iast (by decide +kernel)
theorem k_36_36 (L : Nat) (xs : Nat → Int32) : ll_OK1 cX4_comeTo RX4 (some .int) false ll_mN ll_mR ll_mK ll_cnt L xs false 36 (.inl (lo_aload 37 0)) := lk_aload_n (k := 0) (by decide +kernel) rfl
theorem k_36_37 (L : Nat) (xs : Nat → Int32) : ll_OK1 cX4_comeTo RX4 (some .int) false ll_mN ll_mR ll_mK ll_cnt L xs false 37 (.inl (lo_getf 40 4 2)) := lk_getf (ix := 18) (ci := 4) (k := 2) (C := RX4) (T := TX4) (N := 10) (by decide +kernel) rfl in_4 (by decide) tb_170
theorem k_36_40 (L : Nat) (xs : Nat → Int32) : ll_OK1 cX4_comeTo RX4 (some .int) false ll_mN ll_mR ll_mK ll_cnt L xs false 40 (.inl (lo_iload 42 5)) := lk_iload (by decide +kernel)
theorem k_36_42 (L : Nat) (xs : Nat → Int32) : ll_OK1 cX4_comeTo RX4 (some .int) false ll_mN ll_mR ll_mK ll_cnt L xs false 42 (.inl (lo_iload 43 3)) := lk_iload_n (k := 3) (by decide +kernel) rfl
theorem k_36_43 (L : Nat) (xs : Nat → Int32) : ll_OK1 cX4_comeTo RX4 (some .int) false ll_mN ll_mR ll_mK ll_cnt L xs false 43 (.inl (lo_push 44 (.int (-1)))) := lk_iconst (n := (-1)) (by decide +kernel) (by decide)
theorem k_36_44 (L : Nat) (xs : Nat → Int32) : ll_OK1 cX4_comeTo RX4 (some .int) false ll_mN ll_mR ll_mK ll_cnt L xs false 44 (.inl (lo_cmp 51 47 (fun x y => decide (¬ x = y)))) := lk_icmp_ne (off := 7) (by decide +kernel) rfl
theorem k_36_47 (L : Nat) (xs : Nat → Int32) : ll_OK1 cX4_comeTo RX4 (some .int) false ll_mN ll_mR ll_mK ll_cnt L xs false 47 (.inl (lo_push 48 (.int 0))) := lk_iconst (n := 0) (by decide +kernel) (by decide)
theorem k_36_48 (L : Nat) (xs : Nat → Int32) : ll_OK1 cX4_comeTo RX4 (some .int) false ll_mN ll_mR ll_mK ll_cnt L xs false 48 (.inl (lo_goto 59)) := lk_goto (off := 11) (by decide +kernel) rfl
theorem k_36_51 (L : Nat) (xs : Nat → Int32) : ll_OK1 cX4_comeTo RX4 (some .int) false ll_mN ll_mR ll_mK ll_cnt L xs false 51 (.inl (lo_aload 52 0)) := lk_aload_n (k := 0) (by decide +kernel) rfl
theorem k_36_52 (L : Nat) (xs : Nat → Int32) : ll_OK1 cX4_comeTo RX4 (some .int) false ll_mN ll_mR ll_mK ll_cnt L xs false 52 (.inl (lo_getf 55 4 2)) := lk_getf (ix := 18) (ci := 4) (k := 2) (C := RX4) (T := TX4) (N := 10) (by decide +kernel) rfl in_4 (by decide) tb_170
theorem k_36_55 (L : Nat) (xs : Nat → Int32) : ll_OK1 cX4_comeTo RX4 (some .int) false ll_mN ll_mR ll_mK ll_cnt L xs false 55 (.inl (lo_iload 56 3)) := lk_iload_n (k := 3) (by decide +kernel) rfl
theorem k_36_56 (L : Nat) (xs : Nat → Int32) : ll_OK1 cX4_comeTo RX4 (some .int) false ll_mN ll_mR ll_mK ll_cnt L xs false 56 (.inl (lo_ald 57 0)) := lk_iald (by decide +kernel)
theorem k_36_57 (L : Nat) (xs : Nat → Int32) : ll_OK1 cX4_comeTo RX4 (some .int) false ll_mN ll_mR ll_mK ll_cnt L xs false 57 (.inl (lo_push 58 (.int 1))) := lk_iconst (n := 1) (by decide +kernel) (by decide)
theorem k_36_58 (L : Nat) (xs : Nat → Int32) : ll_OK1 cX4_comeTo RX4 (some .int) false ll_mN ll_mR ll_mK ll_cnt L xs false 58 (.inl (lo_bin 59 (fun x y => x + y))) := lk_iadd (by decide +kernel)
theorem k_36_59 (L : Nat) (xs : Nat → Int32) : ll_OK1 cX4_comeTo RX4 (some .int) false ll_mN ll_mR ll_mK ll_cnt L xs false 59 (.inl (lo_ast 60 0)) := lk_iast (by decide +kernel)
theorem k_36_60 (L : Nat) (xs : Nat → Int32) : ll_OK1 cX4_comeTo RX4 (some .int) false ll_mN ll_mR ll_mK ll_cnt L xs false 60 (.inl (lo_aload 61 0)) := lk_aload_n (k := 0) (by decide +kernel) rfl
theorem k_36_61 (L : Nat) (xs : Nat → Int32) : ll_OK1 cX4_comeTo RX4 (some .int) false ll_mN ll_mR ll_mK ll_cnt L xs false 61 (.inl (lo_getf 64 4 9)) := lk_getf (ix := 40) (ci := 4) (k := 9) (C := RX4) (T := TX4) (N := 10) (by decide +kernel) rfl in_4 (by decide) tb_177
theorem k_36_64 (L : Nat) (xs : Nat → Int32) : ll_OK1 cX4_comeTo RX4 (some .int) false ll_mN ll_mR ll_mK ll_cnt L xs false 64 (.inl (lo_aload 65 0)) := lk_aload_n (k := 0) (by decide +kernel) rfl
theorem k_36_65 (L : Nat) (xs : Nat → Int32) : ll_OK1 cX4_comeTo RX4 (some .int) false ll_mN ll_mR ll_mK ll_cnt L xs false 65 (.inl (lo_getf 68 4 9)) := lk_getf (ix := 40) (ci := 4) (k := 9) (C := RX4) (T := TX4) (N := 10) (by decide +kernel) rfl in_4 (by decide) tb_177
theorem k_36_68 (L : Nat) (xs : Nat → Int32) : ll_OK1 cX4_comeTo RX4 (some .int) false ll_mN ll_mR ll_mK ll_cnt L xs false 68 (.inl (lo_getf 71 1 10)) := lk_getf (ix := 121) (ci := 1) (k := 10) (C := RX1) (T := TX1) (N := 12) (by decide +kernel) rfl in_1 (by decide) tb_217
theorem k_36_71 (L : Nat) (xs : Nat → Int32) : ll_OK1 cX4_comeTo RX4 (some .int) false ll_mN ll_mR ll_mK ll_cnt L xs false 71 (.inl (lo_aload 72 0)) := lk_aload_n (k := 0) (by decide +kernel) rfl
theorem k_36_72 (L : Nat) (xs : Nat → Int32) : ll_OK1 cX4_comeTo RX4 (some .int) false ll_mN ll_mR ll_mK ll_cnt L xs false 72 (.inl (lo_getf 75 4 2)) := lk_getf (ix := 18) (ci := 4) (k := 2) (C := RX4) (T := TX4) (N := 10) (by decide +kernel) rfl in_4 (by decide) tb_170
theorem k_36_75 (L : Nat) (xs : Nat → Int32) : ll_OK1 cX4_comeTo RX4 (some .int) false ll_mN ll_mR ll_mK ll_cnt L xs false 75 (.inl (lo_iload 77 5)) := lk_iload (by decide +kernel)
theorem k_36_77 (L : Nat) (xs : Nat → Int32) : ll_OK1 cX4_comeTo RX4 (some .int) false ll_mN ll_mR ll_mK ll_cnt L xs false 77 (.inl (lo_ald 78 0)) := lk_iald (by decide +kernel)
theorem k_36_78 (L : Nat) (xs : Nat → Int32) : ll_OK1 cX4_comeTo RX4 (some .int) false ll_mN ll_mR ll_mK ll_cnt L xs false 78 (.inl (lo_mm 81 (fun x y => if x < y then y else x))) := lk_max (ix := 124) (by decide +kernel) tb_218 tb_219 tb_220 tb_221
theorem k_36_81 (L : Nat) (xs : Nat → Int32) : ll_OK1 cX4_comeTo RX4 (some .int) false ll_mN ll_mR ll_mK ll_cnt L xs false 81 (.inl (lo_putf 84 1 10 0)) := lk_putf (ix := 121) (ci := 1) (k := 10) (C := RX1) (T := TX1) (N := 12) (ty0 := tyX1) (by decide +kernel) rfl in_1 tyX1_ok nmX1 (by decide) tb_217 (fun B adr v w h1 h2 => ll_fit_int (B := B) (adr := adr) h1 h2) (Or.inl rfl)
theorem k_36_84 (L : Nat) (xs : Nat → Int32) : ll_OK1 cX4_comeTo RX4 (some .int) false ll_mN ll_mR ll_mK ll_cnt L xs false 84 (.inl (lo_aload 85 0)) := lk_aload_n (k := 0) (by decide +kernel) rfl
theorem k_36_85 (L : Nat) (xs : Nat → Int32) : ll_OK1 cX4_comeTo RX4 (some .int) false ll_mN ll_mR ll_mK ll_cnt L xs false 85 (.inl (lo_getf 88 4 5)) := lk_getf (ix := 27) (ci := 4) (k := 5) (C := RX4) (T := TX4) (N := 10) (by decide +kernel) rfl in_4 (by decide) tb_173
theorem k_36_88 (L : Nat) (xs : Nat → Int32) : ll_OK1 cX4_comeTo RX4 (some .int) false ll_mN ll_mR ll_mK ll_cnt L xs false 88 (.inl (lo_iload 90 5)) := lk_iload (by decide +kernel)
theorem k_36_90 (L : Nat) (xs : Nat → Int32) : ll_OK1 cX4_comeTo RX4 (some .int) false ll_mN ll_mR ll_mK ll_cnt L xs false 90 (.inl (lo_push 91 (.int (-1)))) := lk_iconst (n := (-1)) (by decide +kernel) (by decide)
theorem k_36_91 (L : Nat) (xs : Nat → Int32) : ll_OK1 cX4_comeTo RX4 (some .int) false ll_mN ll_mR ll_mK ll_cnt L xs false 91 (.inl (lo_ast 92 0)) := lk_iast (by decide +kernel)
theorem k_36_92 (L : Nat) (xs : Nat → Int32) : ll_OK1 cX4_comeTo RX4 (some .int) false ll_mN ll_mR ll_mK ll_cnt L xs false 92 (.inl (lo_aload 93 0)) := lk_aload_n (k := 0) (by decide +kernel) rfl
theorem k_36_93 (L : Nat) (xs : Nat → Int32) : ll_OK1 cX4_comeTo RX4 (some .int) false ll_mN ll_mR ll_mK ll_cnt L xs false 93 (.inl (lo_getf 96 4 3)) := lk_getf (ix := 21) (ci := 4) (k := 3) (C := RX4) (T := TX4) (N := 10) (by decide +kernel) rfl in_4 (by decide) tb_171
theorem k_36_96 (L : Nat) (xs : Nat → Int32) : ll_OK1 cX4_comeTo RX4 (some .int) false ll_mN ll_mR ll_mK ll_cnt L xs false 96 (.inl (lo_iload 97 1)) := lk_iload_n (k := 1) (by decide +kernel) rfl
theorem k_36_97 (L : Nat) (xs : Nat → Int32) : ll_OK1 cX4_comeTo RX4 (some .int) false ll_mN ll_mR ll_mK ll_cnt L xs false 97 (.inl (lo_ald 98 0)) := lk_iald (by decide +kernel)
theorem k_36_98 (L : Nat) (xs : Nat → Int32) : ll_OK1 cX4_comeTo RX4 (some .int) false ll_mN ll_mR ll_mK ll_cnt L xs false 98 (.inl (lo_push 99 (.int (-1)))) := lk_iconst (n := (-1)) (by decide +kernel) (by decide)
theorem k_36_99 (L : Nat) (xs : Nat → Int32) : ll_OK1 cX4_comeTo RX4 (some .int) false ll_mN ll_mR ll_mK ll_cnt L xs false 99 (.inl (lo_cmp 113 102 (fun x y => decide (¬ x = y)))) := lk_icmp_ne (off := 14) (by decide +kernel) rfl
theorem k_36_102 (L : Nat) (xs : Nat → Int32) : ll_OK1 cX4_comeTo RX4 (some .int) false ll_mN ll_mR ll_mK ll_cnt L xs false 102 (.inl (lo_aload 103 0)) := lk_aload_n (k := 0) (by decide +kernel) rfl
theorem k_36_103 (L : Nat) (xs : Nat → Int32) : ll_OK1 cX4_comeTo RX4 (some .int) false ll_mN ll_mR ll_mK ll_cnt L xs false 103 (.inl (lo_getf 106 4 3)) := lk_getf (ix := 21) (ci := 4) (k := 3) (C := RX4) (T := TX4) (N := 10) (by decide +kernel) rfl in_4 (by decide) tb_171
theorem k_36_106 (L : Nat) (xs : Nat → Int32) : ll_OK1 cX4_comeTo RX4 (some .int) false ll_mN ll_mR ll_mK ll_cnt L xs false 106 (.inl (lo_iload 107 1)) := lk_iload_n (k := 1) (by decide +kernel) rfl
theorem k_36_107 (L : Nat) (xs : Nat → Int32) : ll_OK1 cX4_comeTo RX4 (some .int) false ll_mN ll_mR ll_mK ll_cnt L xs false 107 (.inl (lo_iload 109 5)) := lk_iload (by decide +kernel)
theorem k_36_109 (L : Nat) (xs : Nat → Int32) : ll_OK1 cX4_comeTo RX4 (some .int) false ll_mN ll_mR ll_mK ll_cnt L xs false 109 (.inl (lo_ast 110 0)) := lk_iast (by decide +kernel)
theorem k_36_110 (L : Nat) (xs : Nat → Int32) : ll_OK1 cX4_comeTo RX4 (some .int) false ll_mN ll_mR ll_mK ll_cnt L xs false 110 (.inl (lo_goto 126)) := lk_goto (off := 16) (by decide +kernel) rfl
theorem k_36_113 (L : Nat) (xs : Nat → Int32) : ll_OK1 cX4_comeTo RX4 (some .int) false ll_mN ll_mR ll_mK ll_cnt L xs false 113 (.inl (lo_aload 114 0)) := lk_aload_n (k := 0) (by decide +kernel) rfl
theorem k_36_114 (L : Nat) (xs : Nat → Int32) : ll_OK1 cX4_comeTo RX4 (some .int) false ll_mN ll_mR ll_mK ll_cnt L xs false 114 (.inl (lo_getf 117 4 5)) := lk_getf (ix := 27) (ci := 4) (k := 5) (C := RX4) (T := TX4) (N := 10) (by decide +kernel) rfl in_4 (by decide) tb_173
theorem k_36_117 (L : Nat) (xs : Nat → Int32) : ll_OK1 cX4_comeTo RX4 (some .int) false ll_mN ll_mR ll_mK ll_cnt L xs false 117 (.inl (lo_aload 118 0)) := lk_aload_n (k := 0) (by decide +kernel) rfl
theorem k_36_118 (L : Nat) (xs : Nat → Int32) : ll_OK1 cX4_comeTo RX4 (some .int) false ll_mN ll_mR ll_mK ll_cnt L xs false 118 (.inl (lo_getf 121 4 4)) := lk_getf (ix := 24) (ci := 4) (k := 4) (C := RX4) (T := TX4) (N := 10) (by decide +kernel) rfl in_4 (by decide) tb_172
theorem k_36_121 (L : Nat) (xs : Nat → Int32) : ll_OK1 cX4_comeTo RX4 (some .int) false ll_mN ll_mR ll_mK ll_cnt L xs false 121 (.inl (lo_iload 122 1)) := lk_iload_n (k := 1) (by decide +kernel) rfl
theorem k_36_122 (L : Nat) (xs : Nat → Int32) : ll_OK1 cX4_comeTo RX4 (some .int) false ll_mN ll_mR ll_mK ll_cnt L xs false 122 (.inl (lo_ald 123 0)) := lk_iald (by decide +kernel)
theorem k_36_123 (L : Nat) (xs : Nat → Int32) : ll_OK1 cX4_comeTo RX4 (some .int) false ll_mN ll_mR ll_mK ll_cnt L xs false 123 (.inl (lo_iload 125 5)) := lk_iload (by decide +kernel)
theorem k_36_125 (L : Nat) (xs : Nat → Int32) : ll_OK1 cX4_comeTo RX4 (some .int) false ll_mN ll_mR ll_mK ll_cnt L xs false 125 (.inl (lo_ast 126 0)) := lk_iast (by decide +kernel)
theorem k_36_126 (L : Nat) (xs : Nat → Int32) : ll_OK1 cX4_comeTo RX4 (some .int) false ll_mN ll_mR ll_mK ll_cnt L xs false 126 (.inl (lo_aload 127 0)) := lk_aload_n (k := 0) (by decide +kernel) rfl
theorem k_36_127 (L : Nat) (xs : Nat → Int32) : ll_OK1 cX4_comeTo RX4 (some .int) false ll_mN ll_mR ll_mK ll_cnt L xs false 127 (.inl (lo_getf 130 4 4)) := lk_getf (ix := 24) (ci := 4) (k := 4) (C := RX4) (T := TX4) (N := 10) (by decide +kernel) rfl in_4 (by decide) tb_172
theorem k_36_130 (L : Nat) (xs : Nat → Int32) : ll_OK1 cX4_comeTo RX4 (some .int) false ll_mN ll_mR ll_mK ll_cnt L xs false 130 (.inl (lo_iload 131 1)) := lk_iload_n (k := 1) (by decide +kernel) rfl
theorem k_36_131 (L : Nat) (xs : Nat → Int32) : ll_OK1 cX4_comeTo RX4 (some .int) false ll_mN ll_mR ll_mK ll_cnt L xs false 131 (.inl (lo_iload 133 5)) := lk_iload (by decide +kernel)
theorem k_36_133 (L : Nat) (xs : Nat → Int32) : ll_OK1 cX4_comeTo RX4 (some .int) false ll_mN ll_mR ll_mK ll_cnt L xs false 133 (.inl (lo_ast 134 0)) := lk_iast (by decide +kernel)
theorem k_36_134 (L : Nat) (xs : Nat → Int32) : ll_OK1 cX4_comeTo RX4 (some .int) false ll_mN ll_mR ll_mK ll_cnt L xs false 134 (.inl (lo_iload 136 5)) := lk_iload (by decide +kernel)
theorem k_36_136 (L : Nat) (xs : Nat → Int32) : ll_OK1 cX4_comeTo RX4 (some .int) false ll_mN ll_mR ll_mK ll_cnt L xs false 136 (.inr (.inr 1)) := ⟨(fun h => by cases h), (fun _ => ⟨(by decide +kernel), rfl⟩), fun h => by cases h⟩
theorem ok_36 (L : Nat) (xs : Nat → Int32) : ∀ q ∈ cd_36, ll_OK1 cX4_comeTo RX4 (some .int) false ll_mN ll_mR ll_mK ll_cnt L xs false q.1 q.2 :=
  List.forall_mem_cons.mpr ⟨k_36_0 L xs, List.forall_mem_cons.mpr ⟨k_36_1 L xs, List.forall_mem_cons.mpr ⟨k_36_4 L xs, List.forall_mem_cons.mpr ⟨k_36_5 L xs, List.forall_mem_cons.mpr ⟨k_36_6 L xs, List.forall_mem_cons.mpr ⟨k_36_9 L xs, List.forall_mem_cons.mpr ⟨k_36_11 L xs, List.forall_mem_cons.mpr ⟨k_36_13 L xs, List.forall_mem_cons.mpr ⟨k_36_14 L xs, List.forall_mem_cons.mpr ⟨k_36_17 L xs, List.forall_mem_cons.mpr ⟨k_36_18 L xs, List.forall_mem_cons.mpr ⟨k_36_19 L xs, List.forall_mem_cons.mpr ⟨k_36_20 L xs, List.forall_mem_cons.mpr ⟨k_36_23 L xs, List.forall_mem_cons.mpr ⟨k_36_25 L xs, List.forall_mem_cons.mpr ⟨k_36_26 L xs, List.forall_mem_cons.mpr ⟨k_36_27 L xs, List.forall_mem_cons.mpr ⟨k_36_28 L xs, List.forall_mem_cons.mpr ⟨k_36_31 L xs, List.forall_mem_cons.mpr ⟨k_36_33 L xs, List.forall_mem_cons.mpr ⟨k_36_35 L xs, List.forall_mem_cons.mpr ⟨k_36_36 L xs, List.forall_mem_cons.mpr ⟨k_36_37 L xs, List.forall_mem_cons.mpr ⟨k_36_40 L xs, List.forall_mem_cons.mpr ⟨k_36_42 L xs, List.forall_mem_cons.mpr ⟨k_36_43 L xs, List.forall_mem_cons.mpr ⟨k_36_44 L xs, List.forall_mem_cons.mpr ⟨k_36_47 L xs, List.forall_mem_cons.mpr ⟨k_36_48 L xs, List.forall_mem_cons.mpr ⟨k_36_51 L xs, List.forall_mem_cons.mpr ⟨k_36_52 L xs, List.forall_mem_cons.mpr ⟨k_36_55 L xs, List.forall_mem_cons.mpr ⟨k_36_56 L xs, List.forall_mem_cons.mpr ⟨k_36_57 L xs, List.forall_mem_cons.mpr ⟨k_36_58 L xs, List.forall_mem_cons.mpr ⟨k_36_59 L xs, List.forall_mem_cons.mpr ⟨k_36_60 L xs, List.forall_mem_cons.mpr ⟨k_36_61 L xs, List.forall_mem_cons.mpr ⟨k_36_64 L xs, List.forall_mem_cons.mpr ⟨k_36_65 L xs, List.forall_mem_cons.mpr ⟨k_36_68 L xs, List.forall_mem_cons.mpr ⟨k_36_71 L xs, List.forall_mem_cons.mpr ⟨k_36_72 L xs, List.forall_mem_cons.mpr ⟨k_36_75 L xs, List.forall_mem_cons.mpr ⟨k_36_77 L xs, List.forall_mem_cons.mpr ⟨k_36_78 L xs, List.forall_mem_cons.mpr ⟨k_36_81 L xs, List.forall_mem_cons.mpr ⟨k_36_84 L xs, List.forall_mem_cons.mpr ⟨k_36_85 L xs, List.forall_mem_cons.mpr ⟨k_36_88 L xs, List.forall_mem_cons.mpr ⟨k_36_90 L xs, List.forall_mem_cons.mpr ⟨k_36_91 L xs, List.forall_mem_cons.mpr ⟨k_36_92 L xs, List.forall_mem_cons.mpr ⟨k_36_93 L xs, List.forall_mem_cons.mpr ⟨k_36_96 L xs, List.forall_mem_cons.mpr ⟨k_36_97 L xs, List.forall_mem_cons.mpr ⟨k_36_98 L xs, List.forall_mem_cons.mpr ⟨k_36_99 L xs, List.forall_mem_cons.mpr ⟨k_36_102 L xs, List.forall_mem_cons.mpr ⟨k_36_103 L xs, List.forall_mem_cons.mpr ⟨k_36_106 L xs, List.forall_mem_cons.mpr ⟨k_36_107 L xs, List.forall_mem_cons.mpr ⟨k_36_109 L xs, List.forall_mem_cons.mpr ⟨k_36_110 L xs, List.forall_mem_cons.mpr ⟨k_36_113 L xs, List.forall_mem_cons.mpr ⟨k_36_114 L xs, List.forall_mem_cons.mpr ⟨k_36_117 L xs, List.forall_mem_cons.mpr ⟨k_36_118 L xs, List.forall_mem_cons.mpr ⟨k_36_121 L xs, List.forall_mem_cons.mpr ⟨k_36_122 L xs, List.forall_mem_cons.mpr ⟨k_36_123 L xs, List.forall_mem_cons.mpr ⟨k_36_125 L xs, List.forall_mem_cons.mpr ⟨k_36_126 L xs, List.forall_mem_cons.mpr ⟨k_36_127 L xs, List.forall_mem_cons.mpr ⟨k_36_130 L xs, List.forall_mem_cons.mpr ⟨k_36_131 L xs, List.forall_mem_cons.mpr ⟨k_36_133 L xs, List.forall_mem_cons.mpr ⟨k_36_134 L xs, List.forall_mem_cons.mpr ⟨k_36_136 L xs, fun _ h => absurd h List.not_mem_nil⟩⟩⟩⟩⟩⟩⟩⟩⟩⟩⟩⟩⟩⟩⟩⟩⟩⟩⟩⟩⟩⟩⟩⟩⟩⟩⟩⟩⟩⟩⟩⟩⟩⟩⟩⟩⟩⟩⟩⟩⟩⟩⟩⟩⟩⟩⟩⟩⟩⟩⟩⟩⟩⟩⟩⟩⟩⟩⟩⟩⟩⟩⟩⟩⟩⟩⟩⟩⟩⟩⟩⟩⟩⟩⟩⟩⟩⟩⟩
/-- InclusionProver$Search.tellApart.(I)V -/
def cd_37 : List (Nat × ll_O) := [
  (0, .inl (lo_aload 1 0)),
  (1, .inl (lo_getf 4 4 9)),
  (4, .inl (lo_getf 7 1 6)),
  (7, .inl (lo_astore 8 2)),
  (8, .inl (lo_aload 9 0)),
  (9, .inl (lo_getf 12 4 9)),
  (12, .inl (lo_push 13 (.int 1))),
  (13, .inl (lo_putf 16 1 11 1)),
  (16, .inl (lo_push 17 (.int 0))),
  (17, .inl (lo_istore 18 3)),
  (18, .inl (lo_iload 19 3)),
  (19, .inl (lo_aload 20 0)),
  (20, .inl (lo_getf 23 4 2)),
  (23, .inl (lo_iload 24 1)),
  (24, .inl (lo_ald 25 0)),
  (25, .inl (lo_cmp 39 28 (fun x y => decide (y ≤ x)))),
  (28, .inl (lo_aload 29 2)),
  (29, .inl (lo_push 30 (.int 0))),
  (30, .inr (.inl (72, 2, 33))),
  (33, .inl (lo_iinc 36 3 1)),
  (36, .inl (lo_goto 18)),
  (39, .inl (lo_iload 40 1)),
  (40, .inl (lo_istore 41 3)),
  (41, .inl (lo_aload 42 0)),
  (42, .inl (lo_getf 45 4 2)),
  (45, .inl (lo_iload 46 1)),
  (46, .inl (lo_ald 47 0)),
  (47, .inl (lo_push 48 (.int 1))),
  (48, .inl (lo_bin 49 (fun x y => x - y))),
  (49, .inl (lo_istore 51 4)),
  (51, .inl (lo_iload 53 4)),
  (53, .inl (lo_if 83 56 (fun x => decide (x < 0)))),
  (56, .inl (lo_aload 57 2)),
  (57, .inl (lo_iload 59 4)),
  (59, .inl (lo_aload 60 0)),
  (60, .inl (lo_getf 63 4 1)),
  (63, .inl (lo_iload 64 3)),
  (64, .inl (lo_ald 65 0)),
  (65, .inl (lo_push 66 (.int 1))),
  (66, .inl (lo_bin 67 (fun x y => x + y))),
  (67, .inr (.inl (76, 3, 70))),
  (70, .inl (lo_aload 71 0)),
  (71, .inl (lo_getf 74 4 0)),
  (74, .inl (lo_iload 75 3)),
  (75, .inl (lo_ald 76 0)),
  (76, .inl (lo_istore 77 3)),
  (77, .inl (lo_iinc 80 4 (-1))),
  (80, .inl (lo_goto 51)),
  (83, .inr (.inr 0))]
theorem k_37_0 (L : Nat) (xs : Nat → Int32) : ll_OK1 cX4_tellApart RX4 none false ll_mN ll_mR ll_mK ll_cnt L xs false 0 (.inl (lo_aload 1 0)) := lk_aload_n (k := 0) (by decide +kernel) rfl
theorem k_37_1 (L : Nat) (xs : Nat → Int32) : ll_OK1 cX4_tellApart RX4 none false ll_mN ll_mR ll_mK ll_cnt L xs false 1 (.inl (lo_getf 4 4 9)) := lk_getf (ix := 40) (ci := 4) (k := 9) (C := RX4) (T := TX4) (N := 10) (by decide +kernel) rfl in_4 (by decide) tb_177
theorem k_37_4 (L : Nat) (xs : Nat → Int32) : ll_OK1 cX4_tellApart RX4 none false ll_mN ll_mR ll_mK ll_cnt L xs false 4 (.inl (lo_getf 7 1 6)) := lk_getf (ix := 129) (ci := 1) (k := 6) (C := RX1) (T := TX1) (N := 12) (by decide +kernel) rfl in_1 (by decide) tb_222
theorem k_37_7 (L : Nat) (xs : Nat → Int32) : ll_OK1 cX4_tellApart RX4 none false ll_mN ll_mR ll_mK ll_cnt L xs false 7 (.inl (lo_astore 8 2)) := lk_astore_n (k := 2) (by decide +kernel) rfl
theorem k_37_8 (L : Nat) (xs : Nat → Int32) : ll_OK1 cX4_tellApart RX4 none false ll_mN ll_mR ll_mK ll_cnt L xs false 8 (.inl (lo_aload 9 0)) := lk_aload_n (k := 0) (by decide +kernel) rfl
theorem k_37_9 (L : Nat) (xs : Nat → Int32) : ll_OK1 cX4_tellApart RX4 none false ll_mN ll_mR ll_mK ll_cnt L xs false 9 (.inl (lo_getf 12 4 9)) := lk_getf (ix := 40) (ci := 4) (k := 9) (C := RX4) (T := TX4) (N := 10) (by decide +kernel) rfl in_4 (by decide) tb_177
theorem k_37_12 (L : Nat) (xs : Nat → Int32) : ll_OK1 cX4_tellApart RX4 none false ll_mN ll_mR ll_mK ll_cnt L xs false 12 (.inl (lo_push 13 (.int 1))) := lk_iconst (n := 1) (by decide +kernel) (by decide)
theorem k_37_13 (L : Nat) (xs : Nat → Int32) : ll_OK1 cX4_tellApart RX4 none false ll_mN ll_mR ll_mK ll_cnt L xs false 13 (.inl (lo_putf 16 1 11 1)) := lk_putf (ix := 133) (ci := 1) (k := 11) (C := RX1) (T := TX1) (N := 12) (ty0 := tyX1) (by decide +kernel) rfl in_1 tyX1_ok nmX1 (by decide) tb_223 (fun B adr v w h1 h2 => ll_fit_bool (B := B) (adr := adr) h1 h2) (Or.inl rfl)
theorem k_37_16 (L : Nat) (xs : Nat → Int32) : ll_OK1 cX4_tellApart RX4 none false ll_mN ll_mR ll_mK ll_cnt L xs false 16 (.inl (lo_push 17 (.int 0))) := lk_iconst (n := 0) (by decide +kernel) (by decide)
theorem k_37_17 (L : Nat) (xs : Nat → Int32) : ll_OK1 cX4_tellApart RX4 none false ll_mN ll_mR ll_mK ll_cnt L xs false 17 (.inl (lo_istore 18 3)) := lk_istore_n (k := 3) (by decide +kernel) rfl
theorem k_37_18 (L : Nat) (xs : Nat → Int32) : ll_OK1 cX4_tellApart RX4 none false ll_mN ll_mR ll_mK ll_cnt L xs false 18 (.inl (lo_iload 19 3)) := lk_iload_n (k := 3) (by decide +kernel) rfl
theorem k_37_19 (L : Nat) (xs : Nat → Int32) : ll_OK1 cX4_tellApart RX4 none false ll_mN ll_mR ll_mK ll_cnt L xs false 19 (.inl (lo_aload 20 0)) := lk_aload_n (k := 0) (by decide +kernel) rfl
theorem k_37_20 (L : Nat) (xs : Nat → Int32) : ll_OK1 cX4_tellApart RX4 none false ll_mN ll_mR ll_mK ll_cnt L xs false 20 (.inl (lo_getf 23 4 2)) := lk_getf (ix := 18) (ci := 4) (k := 2) (C := RX4) (T := TX4) (N := 10) (by decide +kernel) rfl in_4 (by decide) tb_170
theorem k_37_23 (L : Nat) (xs : Nat → Int32) : ll_OK1 cX4_tellApart RX4 none false ll_mN ll_mR ll_mK ll_cnt L xs false 23 (.inl (lo_iload 24 1)) := lk_iload_n (k := 1) (by decide +kernel) rfl
theorem k_37_24 (L : Nat) (xs : Nat → Int32) : ll_OK1 cX4_tellApart RX4 none false ll_mN ll_mR ll_mK ll_cnt L xs false 24 (.inl (lo_ald 25 0)) := lk_iald (by decide +kernel)
theorem k_37_25 (L : Nat) (xs : Nat → Int32) : ll_OK1 cX4_tellApart RX4 none false ll_mN ll_mR ll_mK ll_cnt L xs false 25 (.inl (lo_cmp 39 28 (fun x y => decide (y ≤ x)))) := lk_icmp_ge (off := 14) (by decide +kernel) rfl
theorem k_37_28 (L : Nat) (xs : Nat → Int32) : ll_OK1 cX4_tellApart RX4 none false ll_mN ll_mR ll_mK ll_cnt L xs false 28 (.inl (lo_aload 29 2)) := lk_aload_n (k := 2) (by decide +kernel) rfl
theorem k_37_29 (L : Nat) (xs : Nat → Int32) : ll_OK1 cX4_tellApart RX4 none false ll_mN ll_mR ll_mK ll_cnt L xs false 29 (.inl (lo_push 30 (.int 0))) := lk_iconst (n := 0) (by decide +kernel) (by decide)
theorem k_37_30 (L : Nat) (xs : Nat → Int32) : ll_OK1 cX4_tellApart RX4 none false ll_mN ll_mR ll_mK ll_cnt L xs false 30 (.inr (.inl (72, 2, 33))) := ⟨rfl, by decide, by rw [mN_72, mK_72, mR_72]; exact lj_v 137 1 7 (RX7, TX7, 2) (by decide +kernel) tb_224 tb_225 tb_226 rfl rfl rfl rfl (by decide +kernel)⟩
theorem k_37_33 (L : Nat) (xs : Nat → Int32) : ll_OK1 cX4_tellApart RX4 none false ll_mN ll_mR ll_mK ll_cnt L xs false 33 (.inl (lo_iinc 36 3 1)) := lk_iinc (n := 1) (by decide +kernel) (by decide)
theorem k_37_36 (L : Nat) (xs : Nat → Int32) : ll_OK1 cX4_tellApart RX4 none false ll_mN ll_mR ll_mK ll_cnt L xs false 36 (.inl (lo_goto 18)) := lk_goto (off := (-18)) (by decide +kernel) rfl
theorem k_37_39 (L : Nat) (xs : Nat → Int32) : ll_OK1 cX4_tellApart RX4 none false ll_mN ll_mR ll_mK ll_cnt L xs false 39 (.inl (lo_iload 40 1)) := lk_iload_n (k := 1) (by decide +kernel) rfl
theorem k_37_40 (L : Nat) (xs : Nat → Int32) : ll_OK1 cX4_tellApart RX4 none false ll_mN ll_mR ll_mK ll_cnt L xs false 40 (.inl (lo_istore 41 3)) := lk_istore_n (k := 3) (by decide +kernel) rfl
theorem k_37_41 (L : Nat) (xs : Nat → Int32) : ll_OK1 cX4_tellApart RX4 none false ll_mN ll_mR ll_mK ll_cnt L xs false 41 (.inl (lo_aload 42 0)) := lk_aload_n (k := 0) (by decide +kernel) rfl
theorem k_37_42 (L : Nat) (xs : Nat → Int32) : ll_OK1 cX4_tellApart RX4 none false ll_mN ll_mR ll_mK ll_cnt L xs false 42 (.inl (lo_getf 45 4 2)) := lk_getf (ix := 18) (ci := 4) (k := 2) (C := RX4) (T := TX4) (N := 10) (by decide +kernel) rfl in_4 (by decide) tb_170
theorem k_37_45 (L : Nat) (xs : Nat → Int32) : ll_OK1 cX4_tellApart RX4 none false ll_mN ll_mR ll_mK ll_cnt L xs false 45 (.inl (lo_iload 46 1)) := lk_iload_n (k := 1) (by decide +kernel) rfl
theorem k_37_46 (L : Nat) (xs : Nat → Int32) : ll_OK1 cX4_tellApart RX4 none false ll_mN ll_mR ll_mK ll_cnt L xs false 46 (.inl (lo_ald 47 0)) := lk_iald (by decide +kernel)
theorem k_37_47 (L : Nat) (xs : Nat → Int32) : ll_OK1 cX4_tellApart RX4 none false ll_mN ll_mR ll_mK ll_cnt L xs false 47 (.inl (lo_push 48 (.int 1))) := lk_iconst (n := 1) (by decide +kernel) (by decide)
theorem k_37_48 (L : Nat) (xs : Nat → Int32) : ll_OK1 cX4_tellApart RX4 none false ll_mN ll_mR ll_mK ll_cnt L xs false 48 (.inl (lo_bin 49 (fun x y => x - y))) := lk_isub (by decide +kernel)
theorem k_37_49 (L : Nat) (xs : Nat → Int32) : ll_OK1 cX4_tellApart RX4 none false ll_mN ll_mR ll_mK ll_cnt L xs false 49 (.inl (lo_istore 51 4)) := lk_istore (by decide +kernel)
theorem k_37_51 (L : Nat) (xs : Nat → Int32) : ll_OK1 cX4_tellApart RX4 none false ll_mN ll_mR ll_mK ll_cnt L xs false 51 (.inl (lo_iload 53 4)) := lk_iload (by decide +kernel)
theorem k_37_53 (L : Nat) (xs : Nat → Int32) : ll_OK1 cX4_tellApart RX4 none false ll_mN ll_mR ll_mK ll_cnt L xs false 53 (.inl (lo_if 83 56 (fun x => decide (x < 0)))) := lk_if_lt (off := 30) (by decide +kernel) rfl
theorem k_37_56 (L : Nat) (xs : Nat → Int32) : ll_OK1 cX4_tellApart RX4 none false ll_mN ll_mR ll_mK ll_cnt L xs false 56 (.inl (lo_aload 57 2)) := lk_aload_n (k := 2) (by decide +kernel) rfl
theorem k_37_57 (L : Nat) (xs : Nat → Int32) : ll_OK1 cX4_tellApart RX4 none false ll_mN ll_mR ll_mK ll_cnt L xs false 57 (.inl (lo_iload 59 4)) := lk_iload (by decide +kernel)
theorem k_37_59 (L : Nat) (xs : Nat → Int32) : ll_OK1 cX4_tellApart RX4 none false ll_mN ll_mR ll_mK ll_cnt L xs false 59 (.inl (lo_aload 60 0)) := lk_aload_n (k := 0) (by decide +kernel) rfl
theorem k_37_60 (L : Nat) (xs : Nat → Int32) : ll_OK1 cX4_tellApart RX4 none false ll_mN ll_mR ll_mK ll_cnt L xs false 60 (.inl (lo_getf 63 4 1)) := lk_getf (ix := 15) (ci := 4) (k := 1) (C := RX4) (T := TX4) (N := 10) (by decide +kernel) rfl in_4 (by decide) tb_169
theorem k_37_63 (L : Nat) (xs : Nat → Int32) : ll_OK1 cX4_tellApart RX4 none false ll_mN ll_mR ll_mK ll_cnt L xs false 63 (.inl (lo_iload 64 3)) := lk_iload_n (k := 3) (by decide +kernel) rfl
theorem k_37_64 (L : Nat) (xs : Nat → Int32) : ll_OK1 cX4_tellApart RX4 none false ll_mN ll_mR ll_mK ll_cnt L xs false 64 (.inl (lo_ald 65 0)) := lk_iald (by decide +kernel)
theorem k_37_65 (L : Nat) (xs : Nat → Int32) : ll_OK1 cX4_tellApart RX4 none false ll_mN ll_mR ll_mK ll_cnt L xs false 65 (.inl (lo_push 66 (.int 1))) := lk_iconst (n := 1) (by decide +kernel) (by decide)
theorem k_37_66 (L : Nat) (xs : Nat → Int32) : ll_OK1 cX4_tellApart RX4 none false ll_mN ll_mR ll_mK ll_cnt L xs false 66 (.inl (lo_bin 67 (fun x y => x + y))) := lk_iadd (by decide +kernel)
theorem k_37_67 (L : Nat) (xs : Nat → Int32) : ll_OK1 cX4_tellApart RX4 none false ll_mN ll_mR ll_mK ll_cnt L xs false 67 (.inr (.inl (76, 3, 70))) := ⟨rfl, by decide, by rw [mN_76, mK_76, mR_76]; exact lj_v 142 2 7 (RX7, TX7, 2) (by decide +kernel) tb_227 tb_228 tb_229 rfl rfl rfl rfl (by decide +kernel)⟩
theorem k_37_70 (L : Nat) (xs : Nat → Int32) : ll_OK1 cX4_tellApart RX4 none false ll_mN ll_mR ll_mK ll_cnt L xs false 70 (.inl (lo_aload 71 0)) := lk_aload_n (k := 0) (by decide +kernel) rfl
theorem k_37_71 (L : Nat) (xs : Nat → Int32) : ll_OK1 cX4_tellApart RX4 none false ll_mN ll_mR ll_mK ll_cnt L xs false 71 (.inl (lo_getf 74 4 0)) := lk_getf (ix := 9) (ci := 4) (k := 0) (C := RX4) (T := TX4) (N := 10) (by decide +kernel) rfl in_4 (by decide) tb_168
theorem k_37_74 (L : Nat) (xs : Nat → Int32) : ll_OK1 cX4_tellApart RX4 none false ll_mN ll_mR ll_mK ll_cnt L xs false 74 (.inl (lo_iload 75 3)) := lk_iload_n (k := 3) (by decide +kernel) rfl
theorem k_37_75 (L : Nat) (xs : Nat → Int32) : ll_OK1 cX4_tellApart RX4 none false ll_mN ll_mR ll_mK ll_cnt L xs false 75 (.inl (lo_ald 76 0)) := lk_iald (by decide +kernel)
theorem k_37_76 (L : Nat) (xs : Nat → Int32) : ll_OK1 cX4_tellApart RX4 none false ll_mN ll_mR ll_mK ll_cnt L xs false 76 (.inl (lo_istore 77 3)) := lk_istore_n (k := 3) (by decide +kernel) rfl
theorem k_37_77 (L : Nat) (xs : Nat → Int32) : ll_OK1 cX4_tellApart RX4 none false ll_mN ll_mR ll_mK ll_cnt L xs false 77 (.inl (lo_iinc 80 4 (-1))) := lk_iinc (n := (-1)) (by decide +kernel) (by decide)
theorem k_37_80 (L : Nat) (xs : Nat → Int32) : ll_OK1 cX4_tellApart RX4 none false ll_mN ll_mR ll_mK ll_cnt L xs false 80 (.inl (lo_goto 51)) := lk_goto (off := (-29)) (by decide +kernel) rfl
theorem k_37_83 (L : Nat) (xs : Nat → Int32) : ll_OK1 cX4_tellApart RX4 none false ll_mN ll_mR ll_mK ll_cnt L xs false 83 (.inr (.inr 0)) := ⟨fun _ => ⟨(by decide +kernel), rfl⟩, (fun h => by cases h), fun h => by cases h⟩
theorem ok_37 (L : Nat) (xs : Nat → Int32) : ∀ q ∈ cd_37, ll_OK1 cX4_tellApart RX4 none false ll_mN ll_mR ll_mK ll_cnt L xs false q.1 q.2 :=
  List.forall_mem_cons.mpr ⟨k_37_0 L xs, List.forall_mem_cons.mpr ⟨k_37_1 L xs, List.forall_mem_cons.mpr ⟨k_37_4 L xs, List.forall_mem_cons.mpr ⟨k_37_7 L xs, List.forall_mem_cons.mpr ⟨k_37_8 L xs, List.forall_mem_cons.mpr ⟨k_37_9 L xs, List.forall_mem_cons.mpr ⟨k_37_12 L xs, List.forall_mem_cons.mpr ⟨k_37_13 L xs, List.forall_mem_cons.mpr ⟨k_37_16 L xs, List.forall_mem_cons.mpr ⟨k_37_17 L xs, List.forall_mem_cons.mpr ⟨k_37_18 L xs, List.forall_mem_cons.mpr ⟨k_37_19 L xs, List.forall_mem_cons.mpr ⟨k_37_20 L xs, List.forall_mem_cons.mpr ⟨k_37_23 L xs, List.forall_mem_cons.mpr ⟨k_37_24 L xs, List.forall_mem_cons.mpr ⟨k_37_25 L xs, List.forall_mem_cons.mpr ⟨k_37_28 L xs, List.forall_mem_cons.mpr ⟨k_37_29 L xs, List.forall_mem_cons.mpr ⟨k_37_30 L xs, List.forall_mem_cons.mpr ⟨k_37_33 L xs, List.forall_mem_cons.mpr ⟨k_37_36 L xs, List.forall_mem_cons.mpr ⟨k_37_39 L xs, List.forall_mem_cons.mpr ⟨k_37_40 L xs, List.forall_mem_cons.mpr ⟨k_37_41 L xs, List.forall_mem_cons.mpr ⟨k_37_42 L xs, List.forall_mem_cons.mpr ⟨k_37_45 L xs, List.forall_mem_cons.mpr ⟨k_37_46 L xs, List.forall_mem_cons.mpr ⟨k_37_47 L xs, List.forall_mem_cons.mpr ⟨k_37_48 L xs, List.forall_mem_cons.mpr ⟨k_37_49 L xs, List.forall_mem_cons.mpr ⟨k_37_51 L xs, List.forall_mem_cons.mpr ⟨k_37_53 L xs, List.forall_mem_cons.mpr ⟨k_37_56 L xs, List.forall_mem_cons.mpr ⟨k_37_57 L xs, List.forall_mem_cons.mpr ⟨k_37_59 L xs, List.forall_mem_cons.mpr ⟨k_37_60 L xs, List.forall_mem_cons.mpr ⟨k_37_63 L xs, List.forall_mem_cons.mpr ⟨k_37_64 L xs, List.forall_mem_cons.mpr ⟨k_37_65 L xs, List.forall_mem_cons.mpr ⟨k_37_66 L xs, List.forall_mem_cons.mpr ⟨k_37_67 L xs, List.forall_mem_cons.mpr ⟨k_37_70 L xs, List.forall_mem_cons.mpr ⟨k_37_71 L xs, List.forall_mem_cons.mpr ⟨k_37_74 L xs, List.forall_mem_cons.mpr ⟨k_37_75 L xs, List.forall_mem_cons.mpr ⟨k_37_76 L xs, List.forall_mem_cons.mpr ⟨k_37_77 L xs, List.forall_mem_cons.mpr ⟨k_37_80 L xs, List.forall_mem_cons.mpr ⟨k_37_83 L xs, fun _ h => absurd h List.not_mem_nil⟩⟩⟩⟩⟩⟩⟩⟩⟩⟩⟩⟩⟩⟩⟩⟩⟩⟩⟩⟩⟩⟩⟩⟩⟩⟩⟩⟩⟩⟩⟩⟩⟩⟩⟩⟩⟩⟩⟩⟩⟩⟩⟩⟩⟩⟩⟩⟩⟩
/-- InclusionProver$Side.<init>.()V -/
def cd_38 : List (Nat × ll_O) := [
  (0, .inl (lo_aload 1 0)),
  (1, .inl (lo_init 4)),
  (4, .inl (lo_aload 5 0)),
  (5, .inl (lo_new 8 7 2 [.null, .int 0])),
  (8, .inl (lo_dup 9)),
  (9, .inl (lo_push 11 (.int 30))),
  (11, .inr (.inl (70, 2, 14))),
  (14, .inl (lo_putf 17 5 0 2)),
  (17, .inl (lo_aload 18 0)),
  (18, .inl (lo_new 21 7 2 [.null, .int 0])),
  (21, .inl (lo_dup 22)),
  (22, .inl (lo_push 25 (.int 4960))),
  (25, .inr (.inl (70, 2, 28))),
  (28, .inl (lo_putf 31 5 1 2)),
  (31, .inl (lo_aload 32 0)),
  (32, .inl (lo_push 34 (.int 31))),
  (34, .inl (lo_newa 36 0)),
  (36, .inl (lo_putf 39 5 2 2)),
  (39, .inl (lo_aload 40 0)),
  (40, .inl (lo_push 42 (.int 93))),
  (42, .inl (lo_newa 44 0)),
  (44, .inl (lo_putf 47 5 3 2)),
  (47, .inl (lo_aload 48 0)),
  (48, .inl (lo_push 50 (.int 94))),
  (50, .inl (lo_newa 52 0)),
  (52, .inl (lo_putf 55 5 4 2)),
  (55, .inl (lo_aload 56 0)),
  (56, .inl (lo_push 59 (.int 961))),
  (59, .inl (lo_newa 61 0)),
  (61, .inl (lo_putf 64 5 5 2)),
  (64, .inr (.inr 0))]
theorem k_38_0 (L : Nat) (xs : Nat → Int32) : ll_OK1 cX5_init RX5 none true ll_mN ll_mR ll_mK ll_cnt L xs false 0 (.inl (lo_aload 1 0)) := lk_aload_n (k := 0) (by decide +kernel) rfl
theorem k_38_1 (L : Nat) (xs : Nat → Int32) : ll_OK1 cX5_init RX5 none true ll_mN ll_mR ll_mK ll_cnt L xs false 1 (.inl (lo_init 4)) := lk_init (ix := 3) (by decide +kernel) tb_230 tb_1 tb_2
theorem k_38_4 (L : Nat) (xs : Nat → Int32) : ll_OK1 cX5_init RX5 none true ll_mN ll_mR ll_mK ll_cnt L xs false 4 (.inl (lo_aload 5 0)) := lk_aload_n (k := 0) (by decide +kernel) rfl
theorem k_38_5 (L : Nat) (xs : Nat → Int32) : ll_OK1 cX5_init RX5 none true ll_mN ll_mR ll_mK ll_cnt L xs false 5 (.inl (lo_new 8 7 2 [.null, .int 0])) := lk_new (ix := 9) (ci := 7) (N := 2) (C := RX7) (T := TX7) (ty0 := tyX7) (by decide +kernel) rfl in_7 tyX7_ok tb_231 tb_69 tb_70 rfl (by decide +kernel) (by decide +kernel)
theorem k_38_8 (L : Nat) (xs : Nat → Int32) : ll_OK1 cX5_init RX5 none true ll_mN ll_mR ll_mK ll_cnt L xs false 8 (.inl (lo_dup 9)) := lk_dup (by decide +kernel)
theorem k_38_9 (L : Nat) (xs : Nat → Int32) : ll_OK1 cX5_init RX5 none true ll_mN ll_mR ll_mK ll_cnt L xs false 9 (.inl (lo_push 11 (.int 30))) := lk_bipush (n := 30) (by decide +kernel) (by decide)
theorem k_38_11 (L : Nat) (xs : Nat → Int32) : ll_OK1 cX5_init RX5 none true ll_mN ll_mR ll_mK ll_cnt L xs false 11 (.inr (.inl (70, 2, 14))) := ⟨rfl, by decide, by rw [mN_70, mK_70, mR_70]; exact lj_i 11 1 7 (by decide +kernel) (Or.inl tb_232) tb_72 rfl rfl rfl (by decide +kernel) rfl⟩
theorem k_38_14 (L : Nat) (xs : Nat → Int32) : ll_OK1 cX5_init RX5 none true ll_mN ll_mR ll_mK ll_cnt L xs false 14 (.inl (lo_putf 17 5 0 2)) := lk_putf (ix := 14) (ci := 5) (k := 0) (C := RX5) (T := TX5) (N := 11) (ty0 := tyX5) (by decide +kernel) rfl in_5 tyX5_ok nmX5 (by decide) tb_233 (fun B adr v w h1 h2 => ll_fit_obj (B := B) (adr := adr) h1 h2) (Or.inr ⟨rfl, rfl, rfl⟩)
theorem k_38_17 (L : Nat) (xs : Nat → Int32) : ll_OK1 cX5_init RX5 none true ll_mN ll_mR ll_mK ll_cnt L xs false 17 (.inl (lo_aload 18 0)) := lk_aload_n (k := 0) (by decide +kernel) rfl
theorem k_38_18 (L : Nat) (xs : Nat → Int32) : ll_OK1 cX5_init RX5 none true ll_mN ll_mR ll_mK ll_cnt L xs false 18 (.inl (lo_new 21 7 2 [.null, .int 0])) := lk_new (ix := 9) (ci := 7) (N := 2) (C := RX7) (T := TX7) (ty0 := tyX7) (by decide +kernel) rfl in_7 tyX7_ok tb_231 tb_69 tb_70 rfl (by decide +kernel) (by decide +kernel)
theorem k_38_21 (L : Nat) (xs : Nat → Int32) : ll_OK1 cX5_init RX5 none true ll_mN ll_mR ll_mK ll_cnt L xs false 21 (.inl (lo_dup 22)) := lk_dup (by decide +kernel)
theorem k_38_22 (L : Nat) (xs : Nat → Int32) : ll_OK1 cX5_init RX5 none true ll_mN ll_mR ll_mK ll_cnt L xs false 22 (.inl (lo_push 25 (.int 4960))) := lk_sipush (n := 4960) (by decide +kernel) (by decide)
theorem k_38_25 (L : Nat) (xs : Nat → Int32) : ll_OK1 cX5_init RX5 none true ll_mN ll_mR ll_mK ll_cnt L xs false 25 (.inr (.inl (70, 2, 28))) := ⟨rfl, by decide, by rw [mN_70, mK_70, mR_70]; exact lj_i 11 1 7 (by decide +kernel) (Or.inl tb_232) tb_72 rfl rfl rfl (by decide +kernel) rfl⟩
theorem k_38_28 (L : Nat) (xs : Nat → Int32) : ll_OK1 cX5_init RX5 none true ll_mN ll_mR ll_mK ll_cnt L xs false 28 (.inl (lo_putf 31 5 1 2)) := lk_putf (ix := 20) (ci := 5) (k := 1) (C := RX5) (T := TX5) (N := 11) (ty0 := tyX5) (by decide +kernel) rfl in_5 tyX5_ok nmX5 (by decide) tb_234 (fun B adr v w h1 h2 => ll_fit_obj (B := B) (adr := adr) h1 h2) (Or.inr ⟨rfl, rfl, rfl⟩)
theorem k_38_31 (L : Nat) (xs : Nat → Int32) : ll_OK1 cX5_init RX5 none true ll_mN ll_mR ll_mK ll_cnt L xs false 31 (.inl (lo_aload 32 0)) := lk_aload_n (k := 0) (by decide +kernel) rfl
theorem k_38_32 (L : Nat) (xs : Nat → Int32) : ll_OK1 cX5_init RX5 none true ll_mN ll_mR ll_mK ll_cnt L xs false 32 (.inl (lo_push 34 (.int 31))) := lk_bipush (n := 31) (by decide +kernel) (by decide)
theorem k_38_34 (L : Nat) (xs : Nat → Int32) : ll_OK1 cX5_init RX5 none true ll_mN ll_mR ll_mK ll_cnt L xs false 34 (.inl (lo_newa 36 0)) := lk_newa_int (by decide +kernel) tb_61
theorem k_38_36 (L : Nat) (xs : Nat → Int32) : ll_OK1 cX5_init RX5 none true ll_mN ll_mR ll_mK ll_cnt L xs false 36 (.inl (lo_putf 39 5 2 2)) := lk_putf (ix := 23) (ci := 5) (k := 2) (C := RX5) (T := TX5) (N := 11) (ty0 := tyX5) (by decide +kernel) rfl in_5 tyX5_ok nmX5 (by decide) tb_235 (fun B adr v w h1 h2 => ll_fit_arr (B := B) (adr := adr) h1 h2) (Or.inr ⟨rfl, rfl, rfl⟩)
theorem k_38_39 (L : Nat) (xs : Nat → Int32) : ll_OK1 cX5_init RX5 none true ll_mN ll_mR ll_mK ll_cnt L xs false 39 (.inl (lo_aload 40 0)) := lk_aload_n (k := 0) (by decide +kernel) rfl
theorem k_38_40 (L : Nat) (xs : Nat → Int32) : ll_OK1 cX5_init RX5 none true ll_mN ll_mR ll_mK ll_cnt L xs false 40 (.inl (lo_push 42 (.int 93))) := lk_bipush (n := 93) (by decide +kernel) (by decide)
theorem k_38_42 (L : Nat) (xs : Nat → Int32) : ll_OK1 cX5_init RX5 none true ll_mN ll_mR ll_mK ll_cnt L xs false 42 (.inl (lo_newa 44 0)) := lk_newa_int (by decide +kernel) tb_61
theorem k_38_44 (L : Nat) (xs : Nat → Int32) : ll_OK1 cX5_init RX5 none true ll_mN ll_mR ll_mK ll_cnt L xs false 44 (.inl (lo_putf 47 5 3 2)) := lk_putf (ix := 27) (ci := 5) (k := 3) (C := RX5) (T := TX5) (N := 11) (ty0 := tyX5) (by decide +kernel) rfl in_5 tyX5_ok nmX5 (by decide) tb_236 (fun B adr v w h1 h2 => ll_fit_arr (B := B) (adr := adr) h1 h2) (Or.inr ⟨rfl, rfl, rfl⟩)
theorem k_38_47 (L : Nat) (xs : Nat → Int32) : ll_OK1 cX5_init RX5 none true ll_mN ll_mR ll_mK ll_cnt L xs false 47 (.inl (lo_aload 48 0)) := lk_aload_n (k := 0) (by decide +kernel) rfl
theorem k_38_48 (L : Nat) (xs : Nat → Int32) : ll_OK1 cX5_init RX5 none true ll_mN ll_mR ll_mK ll_cnt L xs false 48 (.inl (lo_push 50 (.int 94))) := lk_bipush (n := 94) (by decide +kernel) (by decide)
theorem k_38_50 (L : Nat) (xs : Nat → Int32) : ll_OK1 cX5_init RX5 none true ll_mN ll_mR ll_mK ll_cnt L xs false 50 (.inl (lo_newa 52 0)) := lk_newa_int (by decide +kernel) tb_61
theorem k_38_52 (L : Nat) (xs : Nat → Int32) : ll_OK1 cX5_init RX5 none true ll_mN ll_mR ll_mK ll_cnt L xs false 52 (.inl (lo_putf 55 5 4 2)) := lk_putf (ix := 30) (ci := 5) (k := 4) (C := RX5) (T := TX5) (N := 11) (ty0 := tyX5) (by decide +kernel) rfl in_5 tyX5_ok nmX5 (by decide) tb_237 (fun B adr v w h1 h2 => ll_fit_arr (B := B) (adr := adr) h1 h2) (Or.inr ⟨rfl, rfl, rfl⟩)
theorem k_38_55 (L : Nat) (xs : Nat → Int32) : ll_OK1 cX5_init RX5 none true ll_mN ll_mR ll_mK ll_cnt L xs false 55 (.inl (lo_aload 56 0)) := lk_aload_n (k := 0) (by decide +kernel) rfl
theorem k_38_56 (L : Nat) (xs : Nat → Int32) : ll_OK1 cX5_init RX5 none true ll_mN ll_mR ll_mK ll_cnt L xs false 56 (.inl (lo_push 59 (.int 961))) := lk_sipush (n := 961) (by decide +kernel) (by decide)
theorem k_38_59 (L : Nat) (xs : Nat → Int32) : ll_OK1 cX5_init RX5 none true ll_mN ll_mR ll_mK ll_cnt L xs false 59 (.inl (lo_newa 61 0)) := lk_newa_int (by decide +kernel) tb_61
theorem k_38_61 (L : Nat) (xs : Nat → Int32) : ll_OK1 cX5_init RX5 none true ll_mN ll_mR ll_mK ll_cnt L xs false 61 (.inl (lo_putf 64 5 5 2)) := lk_putf (ix := 33) (ci := 5) (k := 5) (C := RX5) (T := TX5) (N := 11) (ty0 := tyX5) (by decide +kernel) rfl in_5 tyX5_ok nmX5 (by decide) tb_238 (fun B adr v w h1 h2 => ll_fit_arr (B := B) (adr := adr) h1 h2) (Or.inr ⟨rfl, rfl, rfl⟩)
theorem k_38_64 (L : Nat) (xs : Nat → Int32) : ll_OK1 cX5_init RX5 none true ll_mN ll_mR ll_mK ll_cnt L xs false 64 (.inr (.inr 0)) := ⟨fun _ => ⟨(by decide +kernel), rfl⟩, (fun h => by cases h), fun h => by cases h⟩
theorem ok_38 (L : Nat) (xs : Nat → Int32) : ∀ q ∈ cd_38, ll_OK1 cX5_init RX5 none true ll_mN ll_mR ll_mK ll_cnt L xs false q.1 q.2 :=
  List.forall_mem_cons.mpr ⟨k_38_0 L xs, List.forall_mem_cons.mpr ⟨k_38_1 L xs, List.forall_mem_cons.mpr ⟨k_38_4 L xs, List.forall_mem_cons.mpr ⟨k_38_5 L xs, List.forall_mem_cons.mpr ⟨k_38_8 L xs, List.forall_mem_cons.mpr ⟨k_38_9 L xs, List.forall_mem_cons.mpr ⟨k_38_11 L xs, List.forall_mem_cons.mpr ⟨k_38_14 L xs, List.forall_mem_cons.mpr ⟨k_38_17 L xs, List.forall_mem_cons.mpr ⟨k_38_18 L xs, List.forall_mem_cons.mpr ⟨k_38_21 L xs, List.forall_mem_cons.mpr ⟨k_38_22 L xs, List.forall_mem_cons.mpr ⟨k_38_25 L xs, List.forall_mem_cons.mpr ⟨k_38_28 L xs, List.forall_mem_cons.mpr ⟨k_38_31 L xs, List.forall_mem_cons.mpr ⟨k_38_32 L xs, List.forall_mem_cons.mpr ⟨k_38_34 L xs, List.forall_mem_cons.mpr ⟨k_38_36 L xs, List.forall_mem_cons.mpr ⟨k_38_39 L xs, List.forall_mem_cons.mpr ⟨k_38_40 L xs, List.forall_mem_cons.mpr ⟨k_38_42 L xs, List.forall_mem_cons.mpr ⟨k_38_44 L xs, List.forall_mem_cons.mpr ⟨k_38_47 L xs, List.forall_mem_cons.mpr ⟨k_38_48 L xs, List.forall_mem_cons.mpr ⟨k_38_50 L xs, List.forall_mem_cons.mpr ⟨k_38_52 L xs, List.forall_mem_cons.mpr ⟨k_38_55 L xs, List.forall_mem_cons.mpr ⟨k_38_56 L xs, List.forall_mem_cons.mpr ⟨k_38_59 L xs, List.forall_mem_cons.mpr ⟨k_38_61 L xs, List.forall_mem_cons.mpr ⟨k_38_64 L xs, fun _ h => absurd h List.not_mem_nil⟩⟩⟩⟩⟩⟩⟩⟩⟩⟩⟩⟩⟩⟩⟩⟩⟩⟩⟩⟩⟩⟩⟩⟩⟩⟩⟩⟩⟩⟩⟩
/-- InclusionProver$Side.clear.()V -/
def cd_39 : List (Nat × ll_O) := [
  (0, .inl (lo_aload 1 0)),
  (1, .inl (lo_getf 4 5 0)),
  (4, .inr (.inl (71, 1, 7))),
  (7, .inl (lo_aload 8 0)),
  (8, .inl (lo_getf 11 5 1)),
  (11, .inr (.inl (71, 1, 14))),
  (14, .inl (lo_aload 15 0)),
  (15, .inl (lo_push 16 (.int 0))),
  (16, .inl (lo_putf 19 5 6 0)),
  (19, .inl (lo_aload 20 0)),
  (20, .inl (lo_push 21 (.int (-1)))),
  (21, .inl (lo_putf 24 5 7 0)),
  (24, .inl (lo_aload 25 0)),
  (25, .inl (lo_push 26 (.int 0))),
  (26, .inl (lo_putf 29 5 8 0)),
  (29, .inl (lo_aload 30 0)),
  (30, .inl (lo_push 31 (.int 0))),
  (31, .inl (lo_putf 34 5 9 0)),
  (34, .inl (lo_aload 35 0)),
  (35, .inl (lo_push 36 (.int 0))),
  (36, .inl (lo_putf 39 5 10 0)),
  (39, .inr (.inr 0))]
theorem k_39_0 (L : Nat) (xs : Nat → Int32) : ll_OK1 cX5_clear RX5 none false ll_mN ll_mR ll_mK ll_cnt L xs false 0 (.inl (lo_aload 1 0)) := lk_aload_n (k := 0) (by decide +kernel) rfl
theorem k_39_1 (L : Nat) (xs : Nat → Int32) : ll_OK1 cX5_clear RX5 none false ll_mN ll_mR ll_mK ll_cnt L xs false 1 (.inl (lo_getf 4 5 0)) := lk_getf (ix := 14) (ci := 5) (k := 0) (C := RX5) (T := TX5) (N := 11) (by decide +kernel) rfl in_5 (by decide) tb_233
theorem k_39_4 (L : Nat) (xs : Nat → Int32) : ll_OK1 cX5_clear RX5 none false ll_mN ll_mR ll_mK ll_cnt L xs false 4 (.inr (.inl (71, 1, 7))) := ⟨rfl, by decide, by rw [mN_71, mK_71, mR_71]; exact lj_v 36 0 7 (RX7, TX7, 2) (by decide +kernel) tb_239 tb_80 tb_81 rfl rfl rfl rfl (by decide +kernel)⟩
theorem k_39_7 (L : Nat) (xs : Nat → Int32) : ll_OK1 cX5_clear RX5 none false ll_mN ll_mR ll_mK ll_cnt L xs false 7 (.inl (lo_aload 8 0)) := lk_aload_n (k := 0) (by decide +kernel) rfl
theorem k_39_8 (L : Nat) (xs : Nat → Int32) : ll_OK1 cX5_clear RX5 none false ll_mN ll_mR ll_mK ll_cnt L xs false 8 (.inl (lo_getf 11 5 1)) := lk_getf (ix := 20) (ci := 5) (k := 1) (C := RX5) (T := TX5) (N := 11) (by decide +kernel) rfl in_5 (by decide) tb_234
theorem k_39_11 (L : Nat) (xs : Nat → Int32) : ll_OK1 cX5_clear RX5 none false ll_mN ll_mR ll_mK ll_cnt L xs false 11 (.inr (.inl (71, 1, 14))) := ⟨rfl, by decide, by rw [mN_71, mK_71, mR_71]; exact lj_v 36 0 7 (RX7, TX7, 2) (by decide +kernel) tb_239 tb_80 tb_81 rfl rfl rfl rfl (by decide +kernel)⟩
theorem k_39_14 (L : Nat) (xs : Nat → Int32) : ll_OK1 cX5_clear RX5 none false ll_mN ll_mR ll_mK ll_cnt L xs false 14 (.inl (lo_aload 15 0)) := lk_aload_n (k := 0) (by decide +kernel) rfl
theorem k_39_15 (L : Nat) (xs : Nat → Int32) : ll_OK1 cX5_clear RX5 none false ll_mN ll_mR ll_mK ll_cnt L xs false 15 (.inl (lo_push 16 (.int 0))) := lk_iconst (n := 0) (by decide +kernel) (by decide)
theorem k_39_16 (L : Nat) (xs : Nat → Int32) : ll_OK1 cX5_clear RX5 none false ll_mN ll_mR ll_mK ll_cnt L xs false 16 (.inl (lo_putf 19 5 6 0)) := lk_putf (ix := 39) (ci := 5) (k := 6) (C := RX5) (T := TX5) (N := 11) (ty0 := tyX5) (by decide +kernel) rfl in_5 tyX5_ok nmX5 (by decide) tb_240 (fun B adr v w h1 h2 => ll_fit_int (B := B) (adr := adr) h1 h2) (Or.inl rfl)
theorem k_39_19 (L : Nat) (xs : Nat → Int32) : ll_OK1 cX5_clear RX5 none false ll_mN ll_mR ll_mK ll_cnt L xs false 19 (.inl (lo_aload 20 0)) := lk_aload_n (k := 0) (by decide +kernel) rfl
theorem k_39_20 (L : Nat) (xs : Nat → Int32) : ll_OK1 cX5_clear RX5 none false ll_mN ll_mR ll_mK ll_cnt L xs false 20 (.inl (lo_push 21 (.int (-1)))) := lk_iconst (n := (-1)) (by decide +kernel) (by decide)
theorem k_39_21 (L : Nat) (xs : Nat → Int32) : ll_OK1 cX5_clear RX5 none false ll_mN ll_mR ll_mK ll_cnt L xs false 21 (.inl (lo_putf 24 5 7 0)) := lk_putf (ix := 43) (ci := 5) (k := 7) (C := RX5) (T := TX5) (N := 11) (ty0 := tyX5) (by decide +kernel) rfl in_5 tyX5_ok nmX5 (by decide) tb_241 (fun B adr v w h1 h2 => ll_fit_int (B := B) (adr := adr) h1 h2) (Or.inl rfl)
theorem k_39_24 (L : Nat) (xs : Nat → Int32) : ll_OK1 cX5_clear RX5 none false ll_mN ll_mR ll_mK ll_cnt L xs false 24 (.inl (lo_aload 25 0)) := lk_aload_n (k := 0) (by decide +kernel) rfl
theorem k_39_25 (L : Nat) (xs : Nat → Int32) : ll_OK1 cX5_clear RX5 none false ll_mN ll_mR ll_mK ll_cnt L xs false 25 (.inl (lo_push 26 (.int 0))) := lk_iconst (n := 0) (by decide +kernel) (by decide)
theorem k_39_26 (L : Nat) (xs : Nat → Int32) : ll_OK1 cX5_clear RX5 none false ll_mN ll_mR ll_mK ll_cnt L xs false 26 (.inl (lo_putf 29 5 8 0)) := lk_putf (ix := 46) (ci := 5) (k := 8) (C := RX5) (T := TX5) (N := 11) (ty0 := tyX5) (by decide +kernel) rfl in_5 tyX5_ok nmX5 (by decide) tb_242 (fun B adr v w h1 h2 => ll_fit_int (B := B) (adr := adr) h1 h2) (Or.inl rfl)
theorem k_39_29 (L : Nat) (xs : Nat → Int32) : ll_OK1 cX5_clear RX5 none false ll_mN ll_mR ll_mK ll_cnt L xs false 29 (.inl (lo_aload 30 0)) := lk_aload_n (k := 0) (by decide +kernel) rfl
theorem k_39_30 (L : Nat) (xs : Nat → Int32) : ll_OK1 cX5_clear RX5 none false ll_mN ll_mR ll_mK ll_cnt L xs false 30 (.inl (lo_push 31 (.int 0))) := lk_iconst (n := 0) (by decide +kernel) (by decide)
theorem k_39_31 (L : Nat) (xs : Nat → Int32) : ll_OK1 cX5_clear RX5 none false ll_mN ll_mR ll_mK ll_cnt L xs false 31 (.inl (lo_putf 34 5 9 0)) := lk_putf (ix := 49) (ci := 5) (k := 9) (C := RX5) (T := TX5) (N := 11) (ty0 := tyX5) (by decide +kernel) rfl in_5 tyX5_ok nmX5 (by decide) tb_243 (fun B adr v w h1 h2 => ll_fit_int (B := B) (adr := adr) h1 h2) (Or.inl rfl)
theorem k_39_34 (L : Nat) (xs : Nat → Int32) : ll_OK1 cX5_clear RX5 none false ll_mN ll_mR ll_mK ll_cnt L xs false 34 (.inl (lo_aload 35 0)) := lk_aload_n (k := 0) (by decide +kernel) rfl
theorem k_39_35 (L : Nat) (xs : Nat → Int32) : ll_OK1 cX5_clear RX5 none false ll_mN ll_mR ll_mK ll_cnt L xs false 35 (.inl (lo_push 36 (.int 0))) := lk_iconst (n := 0) (by decide +kernel) (by decide)
theorem k_39_36 (L : Nat) (xs : Nat → Int32) : ll_OK1 cX5_clear RX5 none false ll_mN ll_mR ll_mK ll_cnt L xs false 36 (.inl (lo_putf 39 5 10 0)) := lk_putf (ix := 52) (ci := 5) (k := 10) (C := RX5) (T := TX5) (N := 11) (ty0 := tyX5) (by decide +kernel) rfl in_5 tyX5_ok nmX5 (by decide) tb_244 (fun B adr v w h1 h2 => ll_fit_int (B := B) (adr := adr) h1 h2) (Or.inl rfl)
theorem k_39_39 (L : Nat) (xs : Nat → Int32) : ll_OK1 cX5_clear RX5 none false ll_mN ll_mR ll_mK ll_cnt L xs false 39 (.inr (.inr 0)) := ⟨fun _ => ⟨(by decide +kernel), rfl⟩, (fun h => by cases h), fun h => by cases h⟩
theorem ok_39 (L : Nat) (xs : Nat → Int32) : ∀ q ∈ cd_39, ll_OK1 cX5_clear RX5 none false ll_mN ll_mR ll_mK ll_cnt L xs false q.1 q.2 :=
  List.forall_mem_cons.mpr ⟨k_39_0 L xs, List.forall_mem_cons.mpr ⟨k_39_1 L xs, List.forall_mem_cons.mpr ⟨k_39_4 L xs, List.forall_mem_cons.mpr ⟨k_39_7 L xs, List.forall_mem_cons.mpr ⟨k_39_8 L xs, List.forall_mem_cons.mpr ⟨k_39_11 L xs, List.forall_mem_cons.mpr ⟨k_39_14 L xs, List.forall_mem_cons.mpr ⟨k_39_15 L xs, List.forall_mem_cons.mpr ⟨k_39_16 L xs, List.forall_mem_cons.mpr ⟨k_39_19 L xs, List.forall_mem_cons.mpr ⟨k_39_20 L xs, List.forall_mem_cons.mpr ⟨k_39_21 L xs, List.forall_mem_cons.mpr ⟨k_39_24 L xs, List.forall_mem_cons.mpr ⟨k_39_25 L xs, List.forall_mem_cons.mpr ⟨k_39_26 L xs, List.forall_mem_cons.mpr ⟨k_39_29 L xs, List.forall_mem_cons.mpr ⟨k_39_30 L xs, List.forall_mem_cons.mpr ⟨k_39_31 L xs, List.forall_mem_cons.mpr ⟨k_39_34 L xs, List.forall_mem_cons.mpr ⟨k_39_35 L xs, List.forall_mem_cons.mpr ⟨k_39_36 L xs, List.forall_mem_cons.mpr ⟨k_39_39 L xs, fun _ h => absurd h List.not_mem_nil⟩⟩⟩⟩⟩⟩⟩⟩⟩⟩⟩⟩⟩⟩⟩⟩⟩⟩⟩⟩⟩⟩
/-- InclusionProver$Side.openTerm.(Z)V -/
def cd_40 : List (Nat × ll_O) := [
  (0, .inl (lo_aload 1 0)),
  (1, .inl (lo_getf 4 5 2)),
  (4, .inl (lo_aload 5 0)),
  (5, .inl (lo_getf 8 5 6)),
  (8, .inl (lo_aload 9 0)),
  (9, .inl (lo_getf 12 5 1)),
  (12, .inl (lo_getf 15 7 1)),
  (15, .inl (lo_ast 16 0)),
  (16, .inl (lo_iload 17 1)),
  (17, .inl (lo_if 35 20 (fun x => decide (x = 0)))),
  (20, .inl (lo_aload 21 0)),
  (21, .inl (lo_dup 22)),
  (22, .inl (lo_getf 25 5 9)),
  (25, .inl (lo_push 26 (.int 1))),
  (26, .inl (lo_aload 27 0)),
  (27, .inl (lo_getf 30 5 6)),
  (30, .inl (lo_bin 31 (fun x y => x <<< (y &&& 31)))),
  (31, .inl (lo_bin 32 (fun x y => x ||| y))),
  (32, .inl (lo_putf 35 5 9 0)),
  (35, .inr (.inr 0))]
theorem k_40_0 (L : Nat) (xs : Nat → Int32) : ll_OK1 cX5_openTerm RX5 none false ll_mN ll_mR ll_mK ll_cnt L xs false 0 (.inl (lo_aload 1 0)) := lk_aload_n (k := 0) (by decide +kernel) rfl
theorem k_40_1 (L : Nat) (xs : Nat → Int32) : ll_OK1 cX5_openTerm RX5 none false ll_mN ll_mR ll_mK ll_cnt L xs false 1 (.inl (lo_getf 4 5 2)) := lk_getf (ix := 23) (ci := 5) (k := 2) (C := RX5) (T := TX5) (N := 11) (by decide +kernel) rfl in_5 (by decide) tb_235
theorem k_40_4 (L : Nat) (xs : Nat → Int32) : ll_OK1 cX5_openTerm RX5 none false ll_mN ll_mR ll_mK ll_cnt L xs false 4 (.inl (lo_aload 5 0)) := lk_aload_n (k := 0) (by decide +kernel) rfl
theorem k_40_5 (L : Nat) (xs : Nat → Int32) : ll_OK1 cX5_openTerm RX5 none false ll_mN ll_mR ll_mK ll_cnt L xs false 5 (.inl (lo_getf 8 5 6)) := lk_getf (ix := 39) (ci := 5) (k := 6) (C := RX5) (T := TX5) (N := 11) (by decide +kernel) rfl in_5 (by decide) tb_240
theorem k_40_8 (L : Nat) (xs : Nat → Int32) : ll_OK1 cX5_openTerm RX5 none false ll_mN ll_mR ll_mK ll_cnt L xs false 8 (.inl (lo_aload 9 0)) := lk_aload_n (k := 0) (by decide +kernel) rfl
theorem k_40_9 (L : Nat) (xs : Nat → Int32) : ll_OK1 cX5_openTerm RX5 none false ll_mN ll_mR ll_mK ll_cnt L xs false 9 (.inl (lo_getf 12 5 1)) := lk_getf (ix := 20) (ci := 5) (k := 1) (C := RX5) (T := TX5) (N := 11) (by decide +kernel) rfl in_5 (by decide) tb_234
theorem k_40_12 (L : Nat) (xs : Nat → Int32) : ll_OK1 cX5_openTerm RX5 none false ll_mN ll_mR ll_mK ll_cnt L xs false 12 (.inl (lo_getf 15 7 1)) := lk_getf (ix := 55) (ci := 7) (k := 1) (C := RX7) (T := TX7) (N := 2) (by decide +kernel) rfl in_7 (by decide) tb_245
theorem k_40_15 (L : Nat) (xs : Nat → Int32) : ll_OK1 cX5_openTerm RX5 none false ll_mN ll_mR ll_mK ll_cnt L xs false 15 (.inl (lo_ast 16 0)) := lk_iast (by decide +kernel)
theorem k_40_16 (L : Nat) (xs : Nat → Int32) : ll_OK1 cX5_openTerm RX5 none false ll_mN ll_mR ll_mK ll_cnt L xs false 16 (.inl (lo_iload 17 1)) := lk_iload_n (k := 1) (by decide +kernel) rfl
theorem k_40_17 (L : Nat) (xs : Nat → Int32) : ll_OK1 cX5_openTerm RX5 none false ll_mN ll_mR ll_mK ll_cnt L xs false 17 (.inl (lo_if 35 20 (fun x => decide (x = 0)))) := lk_if_eq (off := 18) (by decide +kernel) rfl
theorem k_40_20 (L : Nat) (xs : Nat → Int32) : ll_OK1 cX5_openTerm RX5 none false ll_mN ll_mR ll_mK ll_cnt L xs false 20 (.inl (lo_aload 21 0)) := lk_aload_n (k := 0) (by decide +kernel) rfl
theorem k_40_21 (L : Nat) (xs : Nat → Int32) : ll_OK1 cX5_openTerm RX5 none false ll_mN ll_mR ll_mK ll_cnt L xs false 21 (.inl (lo_dup 22)) := lk_dup (by decide +kernel)
theorem k_40_22 (L : Nat) (xs : Nat → Int32) : ll_OK1 cX5_openTerm RX5 none false ll_mN ll_mR ll_mK ll_cnt L xs false 22 (.inl (lo_getf 25 5 9)) := lk_getf (ix := 49) (ci := 5) (k := 9) (C := RX5) (T := TX5) (N := 11) (by decide +kernel) rfl in_5 (by decide) tb_243
theorem k_40_25 (L : Nat) (xs : Nat → Int32) : ll_OK1 cX5_openTerm RX5 none false ll_mN ll_mR ll_mK ll_cnt L xs false 25 (.inl (lo_push 26 (.int 1))) := lk_iconst (n := 1) (by decide +kernel) (by decide)
theorem k_40_26 (L : Nat) (xs : Nat → Int32) : ll_OK1 cX5_openTerm RX5 none false ll_mN ll_mR ll_mK ll_cnt L xs false 26 (.inl (lo_aload 27 0)) := lk_aload_n (k := 0) (by decide +kernel) rfl
theorem k_40_27 (L : Nat) (xs : Nat → Int32) : ll_OK1 cX5_openTerm RX5 none false ll_mN ll_mR ll_mK ll_cnt L xs false 27 (.inl (lo_getf 30 5 6)) := lk_getf (ix := 39) (ci := 5) (k := 6) (C := RX5) (T := TX5) (N := 11) (by decide +kernel) rfl in_5 (by decide) tb_240
theorem k_40_30 (L : Nat) (xs : Nat → Int32) : ll_OK1 cX5_openTerm RX5 none false ll_mN ll_mR ll_mK ll_cnt L xs false 30 (.inl (lo_bin 31 (fun x y => x <<< (y &&& 31)))) := lk_ishl (by decide +kernel)
theorem k_40_31 (L : Nat) (xs : Nat → Int32) : ll_OK1 cX5_openTerm RX5 none false ll_mN ll_mR ll_mK ll_cnt L xs false 31 (.inl (lo_bin 32 (fun x y => x ||| y))) := lk_ior (by decide +kernel)
theorem k_40_32 (L : Nat) (xs : Nat → Int32) : ll_OK1 cX5_openTerm RX5 none false ll_mN ll_mR ll_mK ll_cnt L xs false 32 (.inl (lo_putf 35 5 9 0)) := lk_putf (ix := 49) (ci := 5) (k := 9) (C := RX5) (T := TX5) (N := 11) (ty0 := tyX5) (by decide +kernel) rfl in_5 tyX5_ok nmX5 (by decide) tb_243 (fun B adr v w h1 h2 => ll_fit_int (B := B) (adr := adr) h1 h2) (Or.inl rfl)
theorem k_40_35 (L : Nat) (xs : Nat → Int32) : ll_OK1 cX5_openTerm RX5 none false ll_mN ll_mR ll_mK ll_cnt L xs false 35 (.inr (.inr 0)) := ⟨fun _ => ⟨(by decide +kernel), rfl⟩, (fun h => by cases h), fun h => by cases h⟩
theorem ok_40 (L : Nat) (xs : Nat → Int32) : ∀ q ∈ cd_40, ll_OK1 cX5_openTerm RX5 none false ll_mN ll_mR ll_mK ll_cnt L xs false q.1 q.2 :=
  List.forall_mem_cons.mpr ⟨k_40_0 L xs, List.forall_mem_cons.mpr ⟨k_40_1 L xs, List.forall_mem_cons.mpr ⟨k_40_4 L xs, List.forall_mem_cons.mpr ⟨k_40_5 L xs, List.forall_mem_cons.mpr ⟨k_40_8 L xs, List.forall_mem_cons.mpr ⟨k_40_9 L xs, List.forall_mem_cons.mpr ⟨k_40_12 L xs, List.forall_mem_cons.mpr ⟨k_40_15 L xs, List.forall_mem_cons.mpr ⟨k_40_16 L xs, List.forall_mem_cons.mpr ⟨k_40_17 L xs, List.forall_mem_cons.mpr ⟨k_40_20 L xs, List.forall_mem_cons.mpr ⟨k_40_21 L xs, List.forall_mem_cons.mpr ⟨k_40_22 L xs, List.forall_mem_cons.mpr ⟨k_40_25 L xs, List.forall_mem_cons.mpr ⟨k_40_26 L xs, List.forall_mem_cons.mpr ⟨k_40_27 L xs, List.forall_mem_cons.mpr ⟨k_40_30 L xs, List.forall_mem_cons.mpr ⟨k_40_31 L xs, List.forall_mem_cons.mpr ⟨k_40_32 L xs, List.forall_mem_cons.mpr ⟨k_40_35 L xs, fun _ h => absurd h List.not_mem_nil⟩⟩⟩⟩⟩⟩⟩⟩⟩⟩⟩⟩⟩⟩⟩⟩⟩⟩⟩⟩
/-- InclusionProver$Side.openParts.(I)V -/
def cd_41 : List (Nat × ll_O) := [
  (0, .inl (lo_aload 1 0)),
  (1, .inl (lo_aload 2 0)),
  (2, .inl (lo_getf 5 5 6)),
  (5, .inl (lo_push 6 (.int 3))),
  (6, .inl (lo_bin 7 (fun x y => x * y))),
  (7, .inl (lo_iload 8 1)),
  (8, .inl (lo_bin 9 (fun x y => x + y))),
  (9, .inl (lo_putf 12 5 10 0)),
  (12, .inl (lo_aload 13 0)),
  (13, .inl (lo_getf 16 5 3)),
  (16, .inl (lo_aload 17 0)),
  (17, .inl (lo_getf 20 5 10)),
  (20, .inl (lo_push 21 (.int 0))),
  (21, .inl (lo_ast 22 0)),
  (22, .inl (lo_aload 23 0)),
  (23, .inl (lo_getf 26 5 4)),
  (26, .inl (lo_aload 27 0)),
  (27, .inl (lo_getf 30 5 10)),
  (30, .inl (lo_push 31 (.int 1))),
  (31, .inl (lo_bin 32 (fun x y => x + y))),
  (32, .inl (lo_aload 33 0)),
  (33, .inl (lo_getf 36 5 4)),
  (36, .inl (lo_aload 37 0)),
  (37, .inl (lo_getf 40 5 10)),
  (40, .inl (lo_ald 41 0)),
  (41, .inl (lo_ast 42 0)),
  (42, .inr (.inr 0))]
theorem k_41_0 (L : Nat) (xs : Nat → Int32) : ll_OK1 cX5_openParts RX5 none false ll_mN ll_mR ll_mK ll_cnt L xs false 0 (.inl (lo_aload 1 0)) := lk_aload_n (k := 0) (by decide +kernel) rfl
theorem k_41_1 (L : Nat) (xs : Nat → Int32) : ll_OK1 cX5_openParts RX5 none false ll_mN ll_mR ll_mK ll_cnt L xs false 1 (.inl (lo_aload 2 0)) := lk_aload_n (k := 0) (by decide +kernel) rfl
theorem k_41_2 (L : Nat) (xs : Nat → Int32) : ll_OK1 cX5_openParts RX5 none false ll_mN ll_mR ll_mK ll_cnt L xs false 2 (.inl (lo_getf 5 5 6)) := lk_getf (ix := 39) (ci := 5) (k := 6) (C := RX5) (T := TX5) (N := 11) (by decide +kernel) rfl in_5 (by decide) tb_240
theorem k_41_5 (L : Nat) (xs : Nat → Int32) : ll_OK1 cX5_openParts RX5 none false ll_mN ll_mR ll_mK ll_cnt L xs false 5 (.inl (lo_push 6 (.int 3))) := lk_iconst (n := 3) (by decide +kernel) (by decide)
theorem k_41_6 (L : Nat) (xs : Nat → Int32) : ll_OK1 cX5_openParts RX5 none false ll_mN ll_mR ll_mK ll_cnt L xs false 6 (.inl (lo_bin 7 (fun x y => x * y))) := lk_imul (by decide +kernel)
theorem k_41_7 (L : Nat) (xs : Nat → Int32) : ll_OK1 cX5_openParts RX5 none false ll_mN ll_mR ll_mK ll_cnt L xs false 7 (.inl (lo_iload 8 1)) := lk_iload_n (k := 1) (by decide +kernel) rfl
theorem k_41_8 (L : Nat) (xs : Nat → Int32) : ll_OK1 cX5_openParts RX5 none false ll_mN ll_mR ll_mK ll_cnt L xs false 8 (.inl (lo_bin 9 (fun x y => x + y))) := lk_iadd (by decide +kernel)
theorem k_41_9 (L : Nat) (xs : Nat → Int32) : ll_OK1 cX5_openParts RX5 none false ll_mN ll_mR ll_mK ll_cnt L xs false 9 (.inl (lo_putf 12 5 10 0)) := lk_putf (ix := 52) (ci := 5) (k := 10) (C := RX5) (T := TX5) (N := 11) (ty0 := tyX5) (by decide +kernel) rfl in_5 tyX5_ok nmX5 (by decide) tb_244 (fun B adr v w h1 h2 => ll_fit_int (B := B) (adr := adr) h1 h2) (Or.inl rfl)
theorem k_41_12 (L : Nat) (xs : Nat → Int32) : ll_OK1 cX5_openParts RX5 none false ll_mN ll_mR ll_mK ll_cnt L xs false 12 (.inl (lo_aload 13 0)) := lk_aload_n (k := 0) (by decide +kernel) rfl
theorem k_41_13 (L : Nat) (xs : Nat → Int32) : ll_OK1 cX5_openParts RX5 none false ll_mN ll_mR ll_mK ll_cnt L xs false 13 (.inl (lo_getf 16 5 3)) := lk_getf (ix := 27) (ci := 5) (k := 3) (C := RX5) (T := TX5) (N := 11) (by decide +kernel) rfl in_5 (by decide) tb_236
theorem k_41_16 (L : Nat) (xs : Nat → Int32) : ll_OK1 cX5_openParts RX5 none false ll_mN ll_mR ll_mK ll_cnt L xs false 16 (.inl (lo_aload 17 0)) := lk_aload_n (k := 0) (by decide +kernel) rfl
theorem k_41_17 (L : Nat) (xs : Nat → Int32) : ll_OK1 cX5_openParts RX5 none false ll_mN ll_mR ll_mK ll_cnt L xs false 17 (.inl (lo_getf 20 5 10)) := lk_getf (ix := 52) (ci := 5) (k := 10) (C := RX5) (T := TX5) (N := 11) (by decide +kernel) rfl in_5 (by decide) tb_244
theorem k_41_20 (L : Nat) (xs : Nat → Int32) : ll_OK1 cX5_openParts RX5 none false ll_mN ll_mR ll_mK ll_cnt L xs false 20 (.inl (lo_push 21 (.int 0))) := lk_iconst (n := 0) (by decide +kernel) (by decide)
theorem k_41_21 (L : Nat) (xs : Nat → Int32) : ll_OK1 cX5_openParts RX5 none false ll_mN ll_mR ll_mK ll_cnt L xs false 21 (.inl (lo_ast 22 0)) := lk_iast (by decide +kernel)
theorem k_41_22 (L : Nat) (xs : Nat → Int32) : ll_OK1 cX5_openParts RX5 none false ll_mN ll_mR ll_mK ll_cnt L xs false 22 (.inl (lo_aload 23 0)) := lk_aload_n (k := 0) (by decide +kernel) rfl
theorem k_41_23 (L : Nat) (xs : Nat → Int32) : ll_OK1 cX5_openParts RX5 none false ll_mN ll_mR ll_mK ll_cnt L xs false 23 (.inl (lo_getf 26 5 4)) := lk_getf (ix := 30) (ci := 5) (k := 4) (C := RX5) (T := TX5) (N := 11) (by decide +kernel) rfl in_5 (by decide) tb_237
theorem k_41_26 (L : Nat) (xs : Nat → Int32) : ll_OK1 cX5_openParts RX5 none false ll_mN ll_mR ll_mK ll_cnt L xs false 26 (.inl (lo_aload 27 0)) := lk_aload_n (k := 0) (by decide +kernel) rfl
theorem k_41_27 (L : Nat) (xs : Nat → Int32) : ll_OK1 cX5_openParts RX5 none false ll_mN ll_mR ll_mK ll_cnt L xs false 27 (.inl (lo_getf 30 5 10)) := lk_getf (ix := 52) (ci := 5) (k := 10) (C := RX5) (T := TX5) (N := 11) (by decide +kernel) rfl in_5 (by decide) tb_244
theorem k_41_30 (L : Nat) (xs : Nat → Int32) : ll_OK1 cX5_openParts RX5 none false ll_mN ll_mR ll_mK ll_cnt L xs false 30 (.inl (lo_push 31 (.int 1))) := lk_iconst (n := 1) (by decide +kernel) (by decide)
theorem k_41_31 (L : Nat) (xs : Nat → Int32) : ll_OK1 cX5_openParts RX5 none false ll_mN ll_mR ll_mK ll_cnt L xs false 31 (.inl (lo_bin 32 (fun x y => x + y))) := lk_iadd (by decide +kernel)
theorem k_41_32 (L : Nat) (xs : Nat → Int32) : ll_OK1 cX5_openParts RX5 none false ll_mN ll_mR ll_mK ll_cnt L xs false 32 (.inl (lo_aload 33 0)) := lk_aload_n (k := 0) (by decide +kernel) rfl
theorem k_41_33 (L : Nat) (xs : Nat → Int32) : ll_OK1 cX5_openParts RX5 none false ll_mN ll_mR ll_mK ll_cnt L xs false 33 (.inl (lo_getf 36 5 4)) := lk_getf (ix := 30) (ci := 5) (k := 4) (C := RX5) (T := TX5) (N := 11) (by decide +kernel) rfl in_5 (by decide) tb_237
theorem k_41_36 (L : Nat) (xs : Nat → Int32) : ll_OK1 cX5_openParts RX5 none false ll_mN ll_mR ll_mK ll_cnt L xs false 36 (.inl (lo_aload 37 0)) := lk_aload_n (k := 0) (by decide +kernel) rfl
theorem k_41_37 (L : Nat) (xs : Nat → Int32) : ll_OK1 cX5_openParts RX5 none false ll_mN ll_mR ll_mK ll_cnt L xs false 37 (.inl (lo_getf 40 5 10)) := lk_getf (ix := 52) (ci := 5) (k := 10) (C := RX5) (T := TX5) (N := 11) (by decide +kernel) rfl in_5 (by decide) tb_244
theorem k_41_40 (L : Nat) (xs : Nat → Int32) : ll_OK1 cX5_openParts RX5 none false ll_mN ll_mR ll_mK ll_cnt L xs false 40 (.inl (lo_ald 41 0)) := lk_iald (by decide +kernel)
theorem k_41_41 (L : Nat) (xs : Nat → Int32) : ll_OK1 cX5_openParts RX5 none false ll_mN ll_mR ll_mK ll_cnt L xs false 41 (.inl (lo_ast 42 0)) := lk_iast (by decide +kernel)
theorem k_41_42 (L : Nat) (xs : Nat → Int32) : ll_OK1 cX5_openParts RX5 none false ll_mN ll_mR ll_mK ll_cnt L xs false 42 (.inr (.inr 0)) := ⟨fun _ => ⟨(by decide +kernel), rfl⟩, (fun h => by cases h), fun h => by cases h⟩
theorem ok_41 (L : Nat) (xs : Nat → Int32) : ∀ q ∈ cd_41, ll_OK1 cX5_openParts RX5 none false ll_mN ll_mR ll_mK ll_cnt L xs false q.1 q.2 :=
  List.forall_mem_cons.mpr ⟨k_41_0 L xs, List.forall_mem_cons.mpr ⟨k_41_1 L xs, List.forall_mem_cons.mpr ⟨k_41_2 L xs, List.forall_mem_cons.mpr ⟨k_41_5 L xs, List.forall_mem_cons.mpr ⟨k_41_6 L xs, List.forall_mem_cons.mpr ⟨k_41_7 L xs, List.forall_mem_cons.mpr ⟨k_41_8 L xs, List.forall_mem_cons.mpr ⟨k_41_9 L xs, List.forall_mem_cons.mpr ⟨k_41_12 L xs, List.forall_mem_cons.mpr ⟨k_41_13 L xs, List.forall_mem_cons.mpr ⟨k_41_16 L xs, List.forall_mem_cons.mpr ⟨k_41_17 L xs, List.forall_mem_cons.mpr ⟨k_41_20 L xs, List.forall_mem_cons.mpr ⟨k_41_21 L xs, List.forall_mem_cons.mpr ⟨k_41_22 L xs, List.forall_mem_cons.mpr ⟨k_41_23 L xs, List.forall_mem_cons.mpr ⟨k_41_26 L xs, List.forall_mem_cons.mpr ⟨k_41_27 L xs, List.forall_mem_cons.mpr ⟨k_41_30 L xs, List.forall_mem_cons.mpr ⟨k_41_31 L xs, List.forall_mem_cons.mpr ⟨k_41_32 L xs, List.forall_mem_cons.mpr ⟨k_41_33 L xs, List.forall_mem_cons.mpr ⟨k_41_36 L xs, List.forall_mem_cons.mpr ⟨k_41_37 L xs, List.forall_mem_cons.mpr ⟨k_41_40 L xs, List.forall_mem_cons.mpr ⟨k_41_41 L xs, List.forall_mem_cons.mpr ⟨k_41_42 L xs, fun _ h => absurd h List.not_mem_nil⟩⟩⟩⟩⟩⟩⟩⟩⟩⟩⟩⟩⟩⟩⟩⟩⟩⟩⟩⟩⟩⟩⟩⟩⟩⟩⟩
/-- InclusionProver$Side.addPart.(I)V -/
def cd_42 : List (Nat × ll_O) := [
  (0, .inl (lo_aload 1 0)),
  (1, .inl (lo_getf 4 5 4)),
  (4, .inl (lo_aload 5 0)),
  (5, .inl (lo_getf 8 5 10)),
  (8, .inl (lo_push 9 (.int 1))),
  (9, .inl (lo_bin 10 (fun x y => x + y))),
  (10, .inl (lo_ald 11 0)),
  (11, .inl (lo_istore 12 2)),
  (12, .inl (lo_iload 13 1)),
  (13, .inl (lo_if 41 16 (fun x => decide (x < 0)))),
  (16, .inl (lo_iload 17 2)),
  (17, .inl (lo_aload 18 0)),
  (18, .inl (lo_getf 21 5 5)),
  (21, .inl (lo_alen 22)),
  (22, .inl (lo_cmp 41 25 (fun x y => decide (y ≤ x)))),
  (25, .inl (lo_aload 26 0)),
  (26, .inl (lo_getf 29 5 3)),
  (29, .inl (lo_aload 30 0)),
  (30, .inl (lo_getf 33 5 10)),
  (33, .inl (lo_ald 34 0)),
  (34, .inl (lo_iload 35 1)),
  (35, .inl (lo_bin 36 (fun x y => x >>> (y &&& 31)))),
  (36, .inl (lo_push 37 (.int 1))),
  (37, .inl (lo_bin 38 (fun x y => x &&& y))),
  (38, .inl (lo_if 42 41 (fun x => decide (x = 0)))),
  (41, .inr (.inr 0)),
  (42, .inl (lo_aload 43 0)),
  (43, .inl (lo_getf 46 5 3)),
  (46, .inl (lo_aload 47 0)),
  (47, .inl (lo_getf 50 5 10)),
  (50, .inl (lo_dup2 51)),
  (51, .inl (lo_ald 52 0)),
  (52, .inl (lo_push 53 (.int 1))),
  (53, .inl (lo_iload 54 1)),
  (54, .inl (lo_bin 55 (fun x y => x <<< (y &&& 31)))),
  (55, .inl (lo_bin 56 (fun x y => x ||| y))),
  (56, .inl (lo_ast 57 0)),
  (57, .inl (lo_aload 58 0)),
  (58, .inl (lo_getf 61 5 5)),
  (61, .inl (lo_iload 62 2)),
  (62, .inl (lo_iload 63 1)),
  (63, .inl (lo_ast 64 0)),
  (64, .inl (lo_aload 65 0)),
  (65, .inl (lo_getf 68 5 4)),
  (68, .inl (lo_aload 69 0)),
  (69, .inl (lo_getf 72 5 10)),
  (72, .inl (lo_push 73 (.int 1))),
  (73, .inl (lo_bin 74 (fun x y => x + y))),
  (74, .inl (lo_iload 75 2)),
  (75, .inl (lo_push 76 (.int 1))),
  (76, .inl (lo_bin 77 (fun x y => x + y))),
  (77, .inl (lo_ast 78 0)),
  (78, .inr (.inr 0))]
theorem k_42_0 (L : Nat) (xs : Nat → Int32) : ll_OK1 cX5_addPart RX5 none false ll_mN ll_mR ll_mK ll_cnt L xs false 0 (.inl (lo_aload 1 0)) := lk_aload_n (k := 0) (by decide +kernel) rfl
theorem k_42_1 (L : Nat) (xs : Nat → Int32) : ll_OK1 cX5_addPart RX5 none false ll_mN ll_mR ll_mK ll_cnt L xs false 1 (.inl (lo_getf 4 5 4)) := lk_getf (ix := 30) (ci := 5) (k := 4) (C := RX5) (T := TX5) (N := 11) (by decide +kernel) rfl in_5 (by decide) tb_237
theorem k_42_4 (L : Nat) (xs : Nat → Int32) : ll_OK1 cX5_addPart RX5 none false ll_mN ll_mR ll_mK ll_cnt L xs false 4 (.inl (lo_aload 5 0)) := lk_aload_n (k := 0) (by decide +kernel) rfl
theorem k_42_5 (L : Nat) (xs : Nat → Int32) : ll_OK1 cX5_addPart RX5 none false ll_mN ll_mR ll_mK ll_cnt L xs false 5 (.inl (lo_getf 8 5 10)) := lk_getf (ix := 52) (ci := 5) (k := 10) (C := RX5) (T := TX5) (N := 11) (by decide +kernel) rfl in_5 (by decide) tb_244
theorem k_42_8 (L : Nat) (xs : Nat → Int32) : ll_OK1 cX5_addPart RX5 none false ll_mN ll_mR ll_mK ll_cnt L xs false 8 (.inl (lo_push 9 (.int 1))) := lk_iconst (n := 1) (by decide +kernel) (by decide)
theorem k_42_9 (L : Nat) (xs : Nat → Int32) : ll_OK1 cX5_addPart RX5 none false ll_mN ll_mR ll_mK ll_cnt L xs false 9 (.inl (lo_bin 10 (fun x y => x + y))) := lk_iadd (by decide +kernel)
theorem k_42_10 (L : Nat) (xs : Nat → Int32) : ll_OK1 cX5_addPart RX5 none false ll_mN ll_mR ll_mK ll_cnt L xs false 10 (.inl (lo_ald 11 0)) := lk_iald (by decide +kernel)
theorem k_42_11 (L : Nat) (xs : Nat → Int32) : ll_OK1 cX5_addPart RX5 none false ll_mN ll_mR ll_mK ll_cnt L xs false 11 (.inl (lo_istore 12 2)) := lk_istore_n (k := 2) (by decide +kernel) rfl
theorem k_42_12 (L : Nat) (xs : Nat → Int32) : ll_OK1 cX5_addPart RX5 none false ll_mN ll_mR ll_mK ll_cnt L xs false 12 (.inl (lo_iload 13 1)) := lk_iload_n (k := 1) (by decide +kernel) rfl
theorem k_42_13 (L : Nat) (xs : Nat → Int32) : ll_OK1 cX5_addPart RX5 none false ll_mN ll_mR ll_mK ll_cnt L xs false 13 (.inl (lo_if 41 16 (fun x => decide (x < 0)))) := lk_if_lt (off := 28) (by decide +kernel) rfl
theorem k_42_16 (L : Nat) (xs : Nat → Int32) : ll_OK1 cX5_addPart RX5 none false ll_mN ll_mR ll_mK ll_cnt L xs false 16 (.inl (lo_iload 17 2)) := lk_iload_n (k := 2) (by decide +kernel) rfl
theorem k_42_17 (L : Nat) (xs : Nat → Int32) : ll_OK1 cX5_addPart RX5 none false ll_mN ll_mR ll_mK ll_cnt L xs false 17 (.inl (lo_aload 18 0)) := lk_aload_n (k := 0) (by decide +kernel) rfl
theorem k_42_18 (L : Nat) (xs : Nat → Int32) : ll_OK1 cX5_addPart RX5 none false ll_mN ll_mR ll_mK ll_cnt L xs false 18 (.inl (lo_getf 21 5 5)) := lk_getf (ix := 33) (ci := 5) (k := 5) (C := RX5) (T := TX5) (N := 11) (by decide +kernel) rfl in_5 (by decide) tb_238
theorem k_42_21 (L : Nat) (xs : Nat → Int32) : ll_OK1 cX5_addPart RX5 none false ll_mN ll_mR ll_mK ll_cnt L xs false 21 (.inl (lo_alen 22)) := lk_alen (by decide +kernel)
theorem k_42_22 (L : Nat) (xs : Nat → Int32) : ll_OK1 cX5_addPart RX5 none false ll_mN ll_mR ll_mK ll_cnt L xs false 22 (.inl (lo_cmp 41 25 (fun x y => decide (y ≤ x)))) := lk_icmp_ge (off := 19) (by decide +kernel) rfl
theorem k_42_25 (L : Nat) (xs : Nat → Int32) : ll_OK1 cX5_addPart RX5 none false ll_mN ll_mR ll_mK ll_cnt L xs false 25 (.inl (lo_aload 26 0)) := lk_aload_n (k := 0) (by decide +kernel) rfl
theorem k_42_26 (L : Nat) (xs : Nat → Int32) : ll_OK1 cX5_addPart RX5 none false ll_mN ll_mR ll_mK ll_cnt L xs false 26 (.inl (lo_getf 29 5 3)) := lk_getf (ix := 27) (ci := 5) (k := 3) (C := RX5) (T := TX5) (N := 11) (by decide +kernel) rfl in_5 (by decide) tb_236
theorem k_42_29 (L : Nat) (xs : Nat → Int32) : ll_OK1 cX5_addPart RX5 none false ll_mN ll_mR ll_mK ll_cnt L xs false 29 (.inl (lo_aload 30 0)) := lk_aload_n (k := 0) (by decide +kernel) rfl
theorem k_42_30 (L : Nat) (xs : Nat → Int32) : ll_OK1 cX5_addPart RX5 none false ll_mN ll_mR ll_mK ll_cnt L xs false 30 (.inl (lo_getf 33 5 10)) := lk_getf (ix := 52) (ci := 5) (k := 10) (C := RX5) (T := TX5) (N := 11) (by decide +kernel) rfl in_5 (by decide) tb_244
theorem k_42_33 (L : Nat) (xs : Nat → Int32) : ll_OK1 cX5_addPart RX5 none false ll_mN ll_mR ll_mK ll_cnt L xs false 33 (.inl (lo_ald 34 0)) := lk_iald (by decide +kernel)
theorem k_42_34 (L : Nat) (xs : Nat → Int32) : ll_OK1 cX5_addPart RX5 none false ll_mN ll_mR ll_mK ll_cnt L xs false 34 (.inl (lo_iload 35 1)) := lk_iload_n (k := 1) (by decide +kernel) rfl
theorem k_42_35 (L : Nat) (xs : Nat → Int32) : ll_OK1 cX5_addPart RX5 none false ll_mN ll_mR ll_mK ll_cnt L xs false 35 (.inl (lo_bin 36 (fun x y => x >>> (y &&& 31)))) := lk_ishr (by decide +kernel)
theorem k_42_36 (L : Nat) (xs : Nat → Int32) : ll_OK1 cX5_addPart RX5 none false ll_mN ll_mR ll_mK ll_cnt L xs false 36 (.inl (lo_push 37 (.int 1))) := lk_iconst (n := 1) (by decide +kernel) (by decide)
theorem k_42_37 (L : Nat) (xs : Nat → Int32) : ll_OK1 cX5_addPart RX5 none false ll_mN ll_mR ll_mK ll_cnt L xs false 37 (.inl (lo_bin 38 (fun x y => x &&& y))) := lk_iand (by decide +kernel)
theorem k_42_38 (L : Nat) (xs : Nat → Int32) : ll_OK1 cX5_addPart RX5 none false ll_mN ll_mR ll_mK ll_cnt L xs false 38 (.inl (lo_if 42 41 (fun x => decide (x = 0)))) := lk_if_eq (off := 4) (by decide +kernel) rfl
theorem k_42_41 (L : Nat) (xs : Nat → Int32) : ll_OK1 cX5_addPart RX5 none false ll_mN ll_mR ll_mK ll_cnt L xs false 41 (.inr (.inr 0)) := ⟨fun _ => ⟨(by decide +kernel), rfl⟩, (fun h => by cases h), fun h => by cases h⟩
theorem k_42_42 (L : Nat) (xs : Nat → Int32) : ll_OK1 cX5_addPart RX5 none false ll_mN ll_mR ll_mK ll_cnt L xs false 42 (.inl (lo_aload 43 0)) := lk_aload_n (k := 0) (by decide +kernel) rfl
theorem k_42_43 (L : Nat) (xs : Nat → Int32) : ll_OK1 cX5_addPart RX5 none false ll_mN ll_mR ll_mK ll_cnt L xs false 43 (.inl (lo_getf 46 5 3)) := lk_getf (ix := 27) (ci := 5) (k := 3) (C := RX5) (T := TX5) (N := 11) (by decide +kernel) rfl in_5 (by decide) tb_236
theorem k_42_46 (L : Nat) (xs : Nat → Int32) : ll_OK1 cX5_addPart RX5 none false ll_mN ll_mR ll_mK ll_cnt L xs false 46 (.inl (lo_aload 47 0)) := lk_aload_n (k := 0) (by decide +kernel) rfl
theorem k_42_47 (L : Nat) (xs : Nat → Int32) : ll_OK1 cX5_addPart RX5 none false ll_mN ll_mR ll_mK ll_cnt L xs false 47 (.inl (lo_getf 50 5 10)) := lk_getf (ix := 52) (ci := 5) (k := 10) (C := RX5) (T := TX5) (N := 11) (by decide +kernel) rfl in_5 (by decide) tb_244
theorem k_42_50 (L : Nat) (xs : Nat → Int32) : ll_OK1 cX5_addPart RX5 none false ll_mN ll_mR ll_mK ll_cnt L xs false 50 (.inl (lo_dup2 51)) := lk_dup2 (by decide +kernel)
theorem k_42_51 (L : Nat) (xs : Nat → Int32) : ll_OK1 cX5_addPart RX5 none false ll_mN ll_mR ll_mK ll_cnt L xs false 51 (.inl (lo_ald 52 0)) := lk_iald (by decide +kernel)
theorem k_42_52 (L : Nat) (xs : Nat → Int32) : ll_OK1 cX5_addPart RX5 none false ll_mN ll_mR ll_mK ll_cnt L xs false 52 (.inl (lo_push 53 (.int 1))) := lk_iconst (n := 1) (by decide +kernel) (by decide)
theorem k_42_53 (L : Nat) (xs : Nat → Int32) : ll_OK1 cX5_addPart RX5 none false ll_mN ll_mR ll_mK ll_cnt L xs false 53 (.inl (lo_iload 54 1)) := lk_iload_n (k := 1) (by decide +kernel) rfl
theorem k_42_54 (L : Nat) (xs : Nat → Int32) : ll_OK1 cX5_addPart RX5 none false ll_mN ll_mR ll_mK ll_cnt L xs false 54 (.inl (lo_bin 55 (fun x y => x <<< (y &&& 31)))) := lk_ishl (by decide +kernel)
theorem k_42_55 (L : Nat) (xs : Nat → Int32) : ll_OK1 cX5_addPart RX5 none false ll_mN ll_mR ll_mK ll_cnt L xs false 55 (.inl (lo_bin 56 (fun x y => x ||| y))) := lk_ior (by decide +kernel)
theorem k_42_56 (L : Nat) (xs : Nat → Int32) : ll_OK1 cX5_addPart RX5 none false ll_mN ll_mR ll_mK ll_cnt L xs false 56 (.inl (lo_ast 57 0)) := lk_iast (by decide +kernel)
theorem k_42_57 (L : Nat) (xs : Nat → Int32) : ll_OK1 cX5_addPart RX5 none false ll_mN ll_mR ll_mK ll_cnt L xs false 57 (.inl (lo_aload 58 0)) := lk_aload_n (k := 0) (by decide +kernel) rfl
theorem k_42_58 (L : Nat) (xs : Nat → Int32) : ll_OK1 cX5_addPart RX5 none false ll_mN ll_mR ll_mK ll_cnt L xs false 58 (.inl (lo_getf 61 5 5)) := lk_getf (ix := 33) (ci := 5) (k := 5) (C := RX5) (T := TX5) (N := 11) (by decide +kernel) rfl in_5 (by decide) tb_238
theorem k_42_61 (L : Nat) (xs : Nat → Int32) : ll_OK1 cX5_addPart RX5 none false ll_mN ll_mR ll_mK ll_cnt L xs false 61 (.inl (lo_iload 62 2)) := lk_iload_n (k := 2) (by decide +kernel) rfl
theorem k_42_62 (L : Nat) (xs : Nat → Int32) : ll_OK1 cX5_addPart RX5 none false ll_mN ll_mR ll_mK ll_cnt L xs false 62 (.inl (lo_iload 63 1)) := lk_iload_n (k := 1) (by decide +kernel) rfl
theorem k_42_63 (L : Nat) (xs : Nat → Int32) : ll_OK1 cX5_addPart RX5 none false ll_mN ll_mR ll_mK ll_cnt L xs false 63 (.inl (lo_ast 64 0)) := lk_iast (by decide +kernel)
theorem k_42_64 (L : Nat) (xs : Nat → Int32) : ll_OK1 cX5_addPart RX5 none false ll_mN ll_mR ll_mK ll_cnt L xs false 64 (.inl (lo_aload 65 0)) := lk_aload_n (k := 0) (by decide +kernel) rfl
theorem k_42_65 (L : Nat) (xs : Nat → Int32) : ll_OK1 cX5_addPart RX5 none false ll_mN ll_mR ll_mK ll_cnt L xs false 65 (.inl (lo_getf 68 5 4)) := lk_getf (ix := 30) (ci := 5) (k := 4) (C := RX5) (T := TX5) (N := 11) (by decide +kernel) rfl in_5 (by decide) tb_237
theorem k_42_68 (L : Nat) (xs : Nat → Int32) : ll_OK1 cX5_addPart RX5 none false ll_mN ll_mR ll_mK ll_cnt L xs false 68 (.inl (lo_aload 69 0)) := lk_aload_n (k := 0) (by decide +kernel) rfl
theorem k_42_69 (L : Nat) (xs : Nat → Int32) : ll_OK1 cX5_addPart RX5 none false ll_mN ll_mR ll_mK ll_cnt L xs false 69 (.inl (lo_getf 72 5 10)) := lk_getf (ix := 52) (ci := 5) (k := 10) (C := RX5) (T := TX5) (N := 11) (by decide +kernel) rfl in_5 (by decide) tb_244
theorem k_42_72 (L : Nat) (xs : Nat → Int32) : ll_OK1 cX5_addPart RX5 none false ll_mN ll_mR ll_mK ll_cnt L xs false 72 (.inl (lo_push 73 (.int 1))) := lk_iconst (n := 1) (by decide +kernel) (by decide)
theorem k_42_73 (L : Nat) (xs : Nat → Int32) : ll_OK1 cX5_addPart RX5 none false ll_mN ll_mR ll_mK ll_cnt L xs false 73 (.inl (lo_bin 74 (fun x y => x + y))) := lk_iadd (by decide +kernel)
theorem k_42_74 (L : Nat) (xs : Nat → Int32) : ll_OK1 cX5_addPart RX5 none false ll_mN ll_mR ll_mK ll_cnt L xs false 74 (.inl (lo_iload 75 2)) := lk_iload_n (k := 2) (by decide +kernel) rfl
theorem k_42_75 (L : Nat) (xs : Nat → Int32) : ll_OK1 cX5_addPart RX5 none false ll_mN ll_mR ll_mK ll_cnt L xs false 75 (.inl (lo_push 76 (.int 1))) := lk_iconst (n := 1) (by decide +kernel) (by decide)
theorem k_42_76 (L : Nat) (xs : Nat → Int32) : ll_OK1 cX5_addPart RX5 none false ll_mN ll_mR ll_mK ll_cnt L xs false 76 (.inl (lo_bin 77 (fun x y => x + y))) := lk_iadd (by decide +kernel)
theorem k_42_77 (L : Nat) (xs : Nat → Int32) : ll_OK1 cX5_addPart RX5 none false ll_mN ll_mR ll_mK ll_cnt L xs false 77 (.inl (lo_ast 78 0)) := lk_iast (by decide +kernel)
theorem k_42_78 (L : Nat) (xs : Nat → Int32) : ll_OK1 cX5_addPart RX5 none false ll_mN ll_mR ll_mK ll_cnt L xs false 78 (.inr (.inr 0)) := ⟨fun _ => ⟨(by decide +kernel), rfl⟩, (fun h => by cases h), fun h => by cases h⟩
theorem ok_42 (L : Nat) (xs : Nat → Int32) : ∀ q ∈ cd_42, ll_OK1 cX5_addPart RX5 none false ll_mN ll_mR ll_mK ll_cnt L xs false q.1 q.2 :=
  List.forall_mem_cons.mpr ⟨k_42_0 L xs, List.forall_mem_cons.mpr ⟨k_42_1 L xs, List.forall_mem_cons.mpr ⟨k_42_4 L xs, List.forall_mem_cons.mpr ⟨k_42_5 L xs, List.forall_mem_cons.mpr ⟨k_42_8 L xs, List.forall_mem_cons.mpr ⟨k_42_9 L xs, List.forall_mem_cons.mpr ⟨k_42_10 L xs, List.forall_mem_cons.mpr ⟨k_42_11 L xs, List.forall_mem_cons.mpr ⟨k_42_12 L xs, List.forall_mem_cons.mpr ⟨k_42_13 L xs, List.forall_mem_cons.mpr ⟨k_42_16 L xs, List.forall_mem_cons.mpr ⟨k_42_17 L xs, List.forall_mem_cons.mpr ⟨k_42_18 L xs, List.forall_mem_cons.mpr ⟨k_42_21 L xs, List.forall_mem_cons.mpr ⟨k_42_22 L xs, List.forall_mem_cons.mpr ⟨k_42_25 L xs, List.forall_mem_cons.mpr ⟨k_42_26 L xs, List.forall_mem_cons.mpr ⟨k_42_29 L xs, List.forall_mem_cons.mpr ⟨k_42_30 L xs, List.forall_mem_cons.mpr ⟨k_42_33 L xs, List.forall_mem_cons.mpr ⟨k_42_34 L xs, List.forall_mem_cons.mpr ⟨k_42_35 L xs, List.forall_mem_cons.mpr ⟨k_42_36 L xs, List.forall_mem_cons.mpr ⟨k_42_37 L xs, List.forall_mem_cons.mpr ⟨k_42_38 L xs, List.forall_mem_cons.mpr ⟨k_42_41 L xs, List.forall_mem_cons.mpr ⟨k_42_42 L xs, List.forall_mem_cons.mpr ⟨k_42_43 L xs, List.forall_mem_cons.mpr ⟨k_42_46 L xs, List.forall_mem_cons.mpr ⟨k_42_47 L xs, List.forall_mem_cons.mpr ⟨k_42_50 L xs, List.forall_mem_cons.mpr ⟨k_42_51 L xs, List.forall_mem_cons.mpr ⟨k_42_52 L xs, List.forall_mem_cons.mpr ⟨k_42_53 L xs, List.forall_mem_cons.mpr ⟨k_42_54 L xs, List.forall_mem_cons.mpr ⟨k_42_55 L xs, List.forall_mem_cons.mpr ⟨k_42_56 L xs, List.forall_mem_cons.mpr ⟨k_42_57 L xs, List.forall_mem_cons.mpr ⟨k_42_58 L xs, List.forall_mem_cons.mpr ⟨k_42_61 L xs, List.forall_mem_cons.mpr ⟨k_42_62 L xs, List.forall_mem_cons.mpr ⟨k_42_63 L xs, List.forall_mem_cons.mpr ⟨k_42_64 L xs, List.forall_mem_cons.mpr ⟨k_42_65 L xs, List.forall_mem_cons.mpr ⟨k_42_68 L xs, List.forall_mem_cons.mpr ⟨k_42_69 L xs, List.forall_mem_cons.mpr ⟨k_42_72 L xs, List.forall_mem_cons.mpr ⟨k_42_73 L xs, List.forall_mem_cons.mpr ⟨k_42_74 L xs, List.forall_mem_cons.mpr ⟨k_42_75 L xs, List.forall_mem_cons.mpr ⟨k_42_76 L xs, List.forall_mem_cons.mpr ⟨k_42_77 L xs, List.forall_mem_cons.mpr ⟨k_42_78 L xs, fun _ h => absurd h List.not_mem_nil⟩⟩⟩⟩⟩⟩⟩⟩⟩⟩⟩⟩⟩⟩⟩⟩⟩⟩⟩⟩⟩⟩⟩⟩⟩⟩⟩⟩⟩⟩⟩⟩⟩⟩⟩⟩⟩⟩⟩⟩⟩⟩⟩⟩⟩⟩⟩⟩⟩⟩⟩⟩⟩
/-- InclusionProver$Side.closeTerm.()V -/
def cd_43 : List (Nat × ll_O) := [
  (0, .inl (lo_aload 1 0)),
  (1, .inl (lo_dup 2)),
  (2, .inl (lo_getf 5 5 6)),
  (5, .inl (lo_push 6 (.int 1))),
  (6, .inl (lo_bin 7 (fun x y => x + y))),
  (7, .inl (lo_putf 10 5 6 0)),
  (10, .inr (.inr 0))]
theorem k_43_0 (L : Nat) (xs : Nat → Int32) : ll_OK1 cX5_closeTerm RX5 none false ll_mN ll_mR ll_mK ll_cnt L xs false 0 (.inl (lo_aload 1 0)) := lk_aload_n (k := 0) (by decide +kernel) rfl
theorem k_43_1 (L : Nat) (xs : Nat → Int32) : ll_OK1 cX5_closeTerm RX5 none false ll_mN ll_mR ll_mK ll_cnt L xs false 1 (.inl (lo_dup 2)) := lk_dup (by decide +kernel)
theorem k_43_2 (L : Nat) (xs : Nat → Int32) : ll_OK1 cX5_closeTerm RX5 none false ll_mN ll_mR ll_mK ll_cnt L xs false 2 (.inl (lo_getf 5 5 6)) := lk_getf (ix := 39) (ci := 5) (k := 6) (C := RX5) (T := TX5) (N := 11) (by decide +kernel) rfl in_5 (by decide) tb_240
theorem k_43_5 (L : Nat) (xs : Nat → Int32) : ll_OK1 cX5_closeTerm RX5 none false ll_mN ll_mR ll_mK ll_cnt L xs false 5 (.inl (lo_push 6 (.int 1))) := lk_iconst (n := 1) (by decide +kernel) (by decide)
theorem k_43_6 (L : Nat) (xs : Nat → Int32) : ll_OK1 cX5_closeTerm RX5 none false ll_mN ll_mR ll_mK ll_cnt L xs false 6 (.inl (lo_bin 7 (fun x y => x + y))) := lk_iadd (by decide +kernel)
theorem k_43_7 (L : Nat) (xs : Nat → Int32) : ll_OK1 cX5_closeTerm RX5 none false ll_mN ll_mR ll_mK ll_cnt L xs false 7 (.inl (lo_putf 10 5 6 0)) := lk_putf (ix := 39) (ci := 5) (k := 6) (C := RX5) (T := TX5) (N := 11) (ty0 := tyX5) (by decide +kernel) rfl in_5 tyX5_ok nmX5 (by decide) tb_240 (fun B adr v w h1 h2 => ll_fit_int (B := B) (adr := adr) h1 h2) (Or.inl rfl)
theorem k_43_10 (L : Nat) (xs : Nat → Int32) : ll_OK1 cX5_closeTerm RX5 none false ll_mN ll_mR ll_mK ll_cnt L xs false 10 (.inr (.inr 0)) := ⟨fun _ => ⟨(by decide +kernel), rfl⟩, (fun h => by cases h), fun h => by cases h⟩
theorem ok_43 (L : Nat) (xs : Nat → Int32) : ∀ q ∈ cd_43, ll_OK1 cX5_closeTerm RX5 none false ll_mN ll_mR ll_mK ll_cnt L xs false q.1 q.2 :=
  List.forall_mem_cons.mpr ⟨k_43_0 L xs, List.forall_mem_cons.mpr ⟨k_43_1 L xs, List.forall_mem_cons.mpr ⟨k_43_2 L xs, List.forall_mem_cons.mpr ⟨k_43_5 L xs, List.forall_mem_cons.mpr ⟨k_43_6 L xs, List.forall_mem_cons.mpr ⟨k_43_7 L xs, List.forall_mem_cons.mpr ⟨k_43_10 L xs, fun _ h => absurd h List.not_mem_nil⟩⟩⟩⟩⟩⟩⟩
/-- InclusionProver$Side.become.(LInclusionProver$Side;)V -/
def cd_44 : List (Nat × ll_O) := [
  (0, .inl (lo_aload 1 0)),
  (1, .inl (lo_getf 4 5 0)),
  (4, .inl (lo_aload 5 1)),
  (5, .inl (lo_getf 8 5 0)),
  (8, .inr (.inl (75, 2, 11))),
  (11, .inl (lo_aload 12 0)),
  (12, .inl (lo_getf 15 5 1)),
  (15, .inl (lo_aload 16 1)),
  (16, .inl (lo_getf 19 5 1)),
  (19, .inr (.inl (75, 2, 22))),
  (22, .inl (lo_aload 23 0)),
  (23, .inl (lo_aload 24 1)),
  (24, .inl (lo_getf 27 5 6)),
  (27, .inl (lo_putf 30 5 6 0)),
  (30, .inl (lo_aload 31 0)),
  (31, .inl (lo_aload 32 1)),
  (32, .inl (lo_getf 35 5 7)),
  (35, .inl (lo_putf 38 5 7 0)),
  (38, .inl (lo_aload 39 0)),
  (39, .inl (lo_aload 40 1)),
  (40, .inl (lo_getf 43 5 8)),
  (43, .inl (lo_putf 46 5 8 0)),
  (46, .inl (lo_aload 47 0)),
  (47, .inl (lo_aload 48 1)),
  (48, .inl (lo_getf 51 5 9)),
  (51, .inl (lo_putf 54 5 9 0)),
  (54, .inl (lo_aload 55 0)),
  (55, .inl (lo_aload 56 1)),
  (56, .inl (lo_getf 59 5 10)),
  (59, .inl (lo_putf 62 5 10 0)),
  (62, .inl (lo_aload 63 0)),
  (63, .inl (lo_getf 66 5 6)),
  (66, .inl (lo_push 67 (.int 3))),
  (67, .inl (lo_bin 68 (fun x y => x * y))),
  (68, .inl (lo_istore 69 2)),
  (69, .inl (lo_aload 70 1)),
  (70, .inl (lo_getf 73 5 2)),
  (73, .inl (lo_push 74 (.int 0))),
  (74, .inl (lo_aload 75 0)),
  (75, .inl (lo_getf 78 5 2)),
  (78, .inl (lo_push 79 (.int 0))),
  (79, .inl (lo_aload 80 0)),
  (80, .inl (lo_getf 83 5 6)),
  (83, .inl (lo_copy 86)),
  (86, .inl (lo_aload 87 1)),
  (87, .inl (lo_getf 90 5 3)),
  (90, .inl (lo_push 91 (.int 0))),
  (91, .inl (lo_aload 92 0)),
  (92, .inl (lo_getf 95 5 3)),
  (95, .inl (lo_push 96 (.int 0))),
  (96, .inl (lo_iload 97 2)),
  (97, .inl (lo_copy 100)),
  (100, .inl (lo_aload 101 1)),
  (101, .inl (lo_getf 104 5 4)),
  (104, .inl (lo_push 105 (.int 0))),
  (105, .inl (lo_aload 106 0)),
  (106, .inl (lo_getf 109 5 4)),
  (109, .inl (lo_push 110 (.int 0))),
  (110, .inl (lo_iload 111 2)),
  (111, .inl (lo_push 112 (.int 1))),
  (112, .inl (lo_bin 113 (fun x y => x + y))),
  (113, .inl (lo_copy 116)),
  (116, .inl (lo_aload 117 1)),
  (117, .inl (lo_getf 120 5 5)),
  (120, .inl (lo_push 121 (.int 0))),
  (121, .inl (lo_aload 122 0)),
  (122, .inl (lo_getf 125 5 5)),
  (125, .inl (lo_push 126 (.int 0))),
  (126, .inl (lo_aload 127 0)),
  (127, .inl (lo_getf 130 5 4)),
  (130, .inl (lo_iload 131 2)),
  (131, .inl (lo_ald 132 0)),
  (132, .inl (lo_copy 135)),
  (135, .inr (.inr 0))]
theorem k_44_0 (L : Nat) (xs : Nat → Int32) : ll_OK1 cX5_become RX5 none false ll_mN ll_mR ll_mK ll_cnt L xs false 0 (.inl (lo_aload 1 0)) := lk_aload_n (k := 0) (by decide +kernel) rfl
theorem k_44_1 (L : Nat) (xs : Nat → Int32) : ll_OK1 cX5_become RX5 none false ll_mN ll_mR ll_mK ll_cnt L xs false 1 (.inl (lo_getf 4 5 0)) := lk_getf (ix := 14) (ci := 5) (k := 0) (C := RX5) (T := TX5) (N := 11) (by decide +kernel) rfl in_5 (by decide) tb_233
theorem k_44_4 (L : Nat) (xs : Nat → Int32) : ll_OK1 cX5_become RX5 none false ll_mN ll_mR ll_mK ll_cnt L xs false 4 (.inl (lo_aload 5 1)) := lk_aload_n (k := 1) (by decide +kernel) rfl
theorem k_44_5 (L : Nat) (xs : Nat → Int32) : ll_OK1 cX5_become RX5 none false ll_mN ll_mR ll_mK ll_cnt L xs false 5 (.inl (lo_getf 8 5 0)) := lk_getf (ix := 14) (ci := 5) (k := 0) (C := RX5) (T := TX5) (N := 11) (by decide +kernel) rfl in_5 (by decide) tb_233
theorem k_44_8 (L : Nat) (xs : Nat → Int32) : ll_OK1 cX5_become RX5 none false ll_mN ll_mR ll_mK ll_cnt L xs false 8 (.inr (.inl (75, 2, 11))) := ⟨rfl, by decide, by rw [mN_75, mK_75, mR_75]; exact lj_v 58 1 7 (RX7, TX7, 2) (by decide +kernel) tb_246 tb_89 tb_90 rfl rfl rfl rfl (by decide +kernel)⟩
theorem k_44_11 (L : Nat) (xs : Nat → Int32) : ll_OK1 cX5_become RX5 none false ll_mN ll_mR ll_mK ll_cnt L xs false 11 (.inl (lo_aload 12 0)) := lk_aload_n (k := 0) (by decide +kernel) rfl
theorem k_44_12 (L : Nat) (xs : Nat → Int32) : ll_OK1 cX5_become RX5 none false ll_mN ll_mR ll_mK ll_cnt L xs false 12 (.inl (lo_getf 15 5 1)) := lk_getf (ix := 20) (ci := 5) (k := 1) (C := RX5) (T := TX5) (N := 11) (by decide +kernel) rfl in_5 (by decide) tb_234
theorem k_44_15 (L : Nat) (xs : Nat → Int32) : ll_OK1 cX5_become RX5 none false ll_mN ll_mR ll_mK ll_cnt L xs false 15 (.inl (lo_aload 16 1)) := lk_aload_n (k := 1) (by decide +kernel) rfl
theorem k_44_16 (L : Nat) (xs : Nat → Int32) : ll_OK1 cX5_become RX5 none false ll_mN ll_mR ll_mK ll_cnt L xs false 16 (.inl (lo_getf 19 5 1)) := lk_getf (ix := 20) (ci := 5) (k := 1) (C := RX5) (T := TX5) (N := 11) (by decide +kernel) rfl in_5 (by decide) tb_234
theorem k_44_19 (L : Nat) (xs : Nat → Int32) : ll_OK1 cX5_become RX5 none false ll_mN ll_mR ll_mK ll_cnt L xs false 19 (.inr (.inl (75, 2, 22))) := ⟨rfl, by decide, by rw [mN_75, mK_75, mR_75]; exact lj_v 58 1 7 (RX7, TX7, 2) (by decide +kernel) tb_246 tb_89 tb_90 rfl rfl rfl rfl (by decide +kernel)⟩
theorem k_44_22 (L : Nat) (xs : Nat → Int32) : ll_OK1 cX5_become RX5 none false ll_mN ll_mR ll_mK ll_cnt L xs false 22 (.inl (lo_aload 23 0)) := lk_aload_n (k := 0) (by decide +kernel) rfl
theorem k_44_23 (L : Nat) (xs : Nat → Int32) : ll_OK1 cX5_become RX5 none false ll_mN ll_mR ll_mK ll_cnt L xs false 23 (.inl (lo_aload 24 1)) := lk_aload_n (k := 1) (by decide +kernel) rfl
theorem k_44_24 (L : Nat) (xs : Nat → Int32) : ll_OK1 cX5_become RX5 none false ll_mN ll_mR ll_mK ll_cnt L xs false 24 (.inl (lo_getf 27 5 6)) := lk_getf (ix := 39) (ci := 5) (k := 6) (C := RX5) (T := TX5) (N := 11) (by decide +kernel) rfl in_5 (by decide) tb_240
theorem k_44_27 (L : Nat) (xs : Nat → Int32) : ll_OK1 cX5_become RX5 none false ll_mN ll_mR ll_mK ll_cnt L xs false 27 (.inl (lo_putf 30 5 6 0)) := lk_putf (ix := 39) (ci := 5) (k := 6) (C := RX5) (T := TX5) (N := 11) (ty0 := tyX5) (by decide +kernel) rfl in_5 tyX5_ok nmX5 (by decide) tb_240 (fun B adr v w h1 h2 => ll_fit_int (B := B) (adr := adr) h1 h2) (Or.inl rfl)
theorem k_44_30 (L : Nat) (xs : Nat → Int32) : ll_OK1 cX5_become RX5 none false ll_mN ll_mR ll_mK ll_cnt L xs false 30 (.inl (lo_aload 31 0)) := lk_aload_n (k := 0) (by decide +kernel) rfl
theorem k_44_31 (L : Nat) (xs : Nat → Int32) : ll_OK1 cX5_become RX5 none false ll_mN ll_mR ll_mK ll_cnt L xs false 31 (.inl (lo_aload 32 1)) := lk_aload_n (k := 1) (by decide +kernel) rfl
theorem k_44_32 (L : Nat) (xs : Nat → Int32) : ll_OK1 cX5_become RX5 none false ll_mN ll_mR ll_mK ll_cnt L xs false 32 (.inl (lo_getf 35 5 7)) := lk_getf (ix := 43) (ci := 5) (k := 7) (C := RX5) (T := TX5) (N := 11) (by decide +kernel) rfl in_5 (by decide) tb_241
theorem k_44_35 (L : Nat) (xs : Nat → Int32) : ll_OK1 cX5_become RX5 none false ll_mN ll_mR ll_mK ll_cnt L xs false 35 (.inl (lo_putf 38 5 7 0)) := lk_putf (ix := 43) (ci := 5) (k := 7) (C := RX5) (T := TX5) (N := 11) (ty0 := tyX5) (by decide +kernel) rfl in_5 tyX5_ok nmX5 (by decide) tb_241 (fun B adr v w h1 h2 => ll_fit_int (B := B) (adr := adr) h1 h2) (Or.inl rfl)
theorem k_44_38 (L : Nat) (xs : Nat → Int32) : ll_OK1 cX5_become RX5 none false ll_mN ll_mR ll_mK ll_cnt L xs false 38 (.inl (lo_aload 39 0)) := lk_aload_n (k := 0) (by decide +kernel) rfl
theorem k_44_39 (L : Nat) (xs : Nat → Int32) : ll_OK1 cX5_become RX5 none false ll_mN ll_mR ll_mK ll_cnt L xs false 39 (.inl (lo_aload 40 1)) := lk_aload_n (k := 1) (by decide +kernel) rfl
theorem k_44_40 (L : Nat) (xs : Nat → Int32) : ll_OK1 cX5_become RX5 none false ll_mN ll_mR ll_mK ll_cnt L xs false 40 (.inl (lo_getf 43 5 8)) := lk_getf (ix := 46) (ci := 5) (k := 8) (C := RX5) (T := TX5) (N := 11) (by decide +kernel) rfl in_5 (by decide) tb_242
theorem k_44_43 (L : Nat) (xs : Nat → Int32) : ll_OK1 cX5_become RX5 none false ll_mN ll_mR ll_mK ll_cnt L xs false 43 (.inl (lo_putf 46 5 8 0)) := lk_putf (ix := 46) (ci := 5) (k := 8) (C := RX5) (T := TX5) (N := 11) (ty0 := tyX5) (by decide +kernel) rfl in_5 tyX5_ok nmX5 (by decide) tb_242 (fun B adr v w h1 h2 => ll_fit_int (B := B) (adr := adr) h1 h2) (Or.inl rfl)
theorem k_44_46 (L : Nat) (xs : Nat → Int32) : ll_OK1 cX5_become RX5 none false ll_mN ll_mR ll_mK ll_cnt L xs false 46 (.inl (lo_aload 47 0)) := lk_aload_n (k := 0) (by decide +kernel) rfl
theorem k_44_47 (L : Nat) (xs : Nat → Int32) : ll_OK1 cX5_become RX5 none false ll_mN ll_mR ll_mK ll_cnt L xs false 47 (.inl (lo_aload 48 1)) := lk_aload_n (k := 1) (by decide +kernel) rfl
theorem k_44_48 (L : Nat) (xs : Nat → Int32) : ll_OK1 cX5_become RX5 none false ll_mN ll_mR ll_mK ll_cnt L xs false 48 (.inl (lo_getf 51 5 9)) := lk_getf (ix := 49) (ci := 5) (k := 9) (C := RX5) (T := TX5) (N := 11) (by decide +kernel) rfl in_5 (by decide) tb_243
theorem k_44_51 (L : Nat) (xs : Nat → Int32) : ll_OK1 cX5_become RX5 none false ll_mN ll_mR ll_mK ll_cnt L xs false 51 (.inl (lo_putf 54 5 9 0)) := lk_putf (ix := 49) (ci := 5) (k := 9) (C := RX5) (T := TX5) (N := 11) (ty0 := tyX5) (by decide +kernel) rfl in_5 tyX5_ok nmX5 (by decide) tb_243 (fun B adr v w h1 h2 => ll_fit_int (B := B) (adr := adr) h1 h2) (Or.inl rfl)
theorem k_44_54 (L : Nat) (xs : Nat → Int32) : ll_OK1 cX5_become RX5 none false ll_mN ll_mR ll_mK ll_cnt L xs false 54 (.inl (lo_aload 55 0)) := lk_aload_n (k := 0) (by decide +kernel) rfl
theorem k_44_55 (L : Nat) (xs : Nat → Int32) : ll_OK1 cX5_become RX5 none false ll_mN ll_mR ll_mK ll_cnt L xs false 55 (.inl (lo_aload 56 1)) := lk_aload_n (k := 1) (by decide +kernel) rfl
theorem k_44_56 (L : Nat) (xs : Nat → Int32) : ll_OK1 cX5_become RX5 none false ll_mN ll_mR ll_mK ll_cnt L xs false 56 (.inl (lo_getf 59 5 10)) := lk_getf (ix := 52) (ci := 5) (k := 10) (C := RX5) (T := TX5) (N := 11) (by decide +kernel) rfl in_5 (by decide) tb_244
theorem k_44_59 (L : Nat) (xs : Nat → Int32) : ll_OK1 cX5_become RX5 none false ll_mN ll_mR ll_mK ll_cnt L xs false 59 (.inl (lo_putf 62 5 10 0)) := lk_putf (ix := 52) (ci := 5) (k := 10) (C := RX5) (T := TX5) (N := 11) (ty0 := tyX5) (by decide +kernel) rfl in_5 tyX5_ok nmX5 (by decide) tb_244 (fun B adr v w h1 h2 => ll_fit_int (B := B) (adr := adr) h1 h2) (Or.inl rfl)
theorem k_44_62 (L : Nat) (xs : Nat → Int32) : ll_OK1 cX5_become RX5 none false ll_mN ll_mR ll_mK ll_cnt L xs false 62 (.inl (lo_aload 63 0)) := lk_aload_n (k := 0) (by decide +kernel) rfl
theorem k_44_63 (L : Nat) (xs : Nat → Int32) : ll_OK1 cX5_become RX5 none false ll_mN ll_mR ll_mK ll_cnt L xs false 63 (.inl (lo_getf 66 5 6)) := lk_getf (ix := 39) (ci := 5) (k := 6) (C := RX5) (T := TX5) (N := 11) (by decide +kernel) rfl in_5 (by decide) tb_240
theorem k_44_66 (L : Nat) (xs : Nat → Int32) : ll_OK1 cX5_become RX5 none false ll_mN ll_mR ll_mK ll_cnt L xs false 66 (.inl (lo_push 67 (.int 3))) := lk_iconst (n := 3) (by decide +kernel) (by decide)
theorem k_44_67 (L : Nat) (xs : Nat → Int32) : ll_OK1 cX5_become RX5 none false ll_mN ll_mR ll_mK ll_cnt L xs false 67 (.inl (lo_bin 68 (fun x y => x * y))) := lk_imul (by decide +kernel)
theorem k_44_68 (L : Nat) (xs : Nat → Int32) : ll_OK1 cX5_become RX5 none false ll_mN ll_mR ll_mK ll_cnt L xs false 68 (.inl (lo_istore 69 2)) := lk_istore_n (k := 2) (by decide +kernel) rfl
theorem k_44_69 (L : Nat) (xs : Nat → Int32) : ll_OK1 cX5_become RX5 none false ll_mN ll_mR ll_mK ll_cnt L xs false 69 (.inl (lo_aload 70 1)) := lk_aload_n (k := 1) (by decide +kernel) rfl
theorem k_44_70 (L : Nat) (xs : Nat → Int32) : ll_OK1 cX5_become RX5 none false ll_mN ll_mR ll_mK ll_cnt L xs false 70 (.inl (lo_getf 73 5 2)) := lk_getf (ix := 23) (ci := 5) (k := 2) (C := RX5) (T := TX5) (N := 11) (by decide +kernel) rfl in_5 (by decide) tb_235
theorem k_44_73 (L : Nat) (xs : Nat → Int32) : ll_OK1 cX5_become RX5 none false ll_mN ll_mR ll_mK ll_cnt L xs false 73 (.inl (lo_push 74 (.int 0))) := lk_iconst (n := 0) (by decide +kernel) (by decide)
theorem k_44_74 (L : Nat) (xs : Nat → Int32) : ll_OK1 cX5_become RX5 none false ll_mN ll_mR ll_mK ll_cnt L xs false 74 (.inl (lo_aload 75 0)) := lk_aload_n (k := 0) (by decide +kernel) rfl
theorem k_44_75 (L : Nat) (xs : Nat → Int32) : ll_OK1 cX5_become RX5 none false ll_mN ll_mR ll_mK ll_cnt L xs false 75 (.inl (lo_getf 78 5 2)) := lk_getf (ix := 23) (ci := 5) (k := 2) (C := RX5) (T := TX5) (N := 11) (by decide +kernel) rfl in_5 (by decide) tb_235
theorem k_44_78 (L : Nat) (xs : Nat → Int32) : ll_OK1 cX5_become RX5 none false ll_mN ll_mR ll_mK ll_cnt L xs false 78 (.inl (lo_push 79 (.int 0))) := lk_iconst (n := 0) (by decide +kernel) (by decide)
theorem k_44_79 (L : Nat) (xs : Nat → Int32) : ll_OK1 cX5_become RX5 none false ll_mN ll_mR ll_mK ll_cnt L xs false 79 (.inl (lo_aload 80 0)) := lk_aload_n (k := 0) (by decide +kernel) rfl
theorem k_44_80 (L : Nat) (xs : Nat → Int32) : ll_OK1 cX5_become RX5 none false ll_mN ll_mR ll_mK ll_cnt L xs false 80 (.inl (lo_getf 83 5 6)) := lk_getf (ix := 39) (ci := 5) (k := 6) (C := RX5) (T := TX5) (N := 11) (by decide +kernel) rfl in_5 (by decide) tb_240
theorem k_44_83 (L : Nat) (xs : Nat → Int32) : ll_OK1 cX5_become RX5 none false ll_mN ll_mR ll_mK ll_cnt L xs false 83 (.inl (lo_copy 86)) := lk_copy (ix := 62) (by decide +kernel) tb_247 tb_92 tb_93 tb_94
theorem k_44_86 (L : Nat) (xs : Nat → Int32) : ll_OK1 cX5_become RX5 none false ll_mN ll_mR ll_mK ll_cnt L xs false 86 (.inl (lo_aload 87 1)) := lk_aload_n (k := 1) (by decide +kernel) rfl
theorem k_44_87 (L : Nat) (xs : Nat → Int32) : ll_OK1 cX5_become RX5 none false ll_mN ll_mR ll_mK ll_cnt L xs false 87 (.inl (lo_getf 90 5 3)) := lk_getf (ix := 27) (ci := 5) (k := 3) (C := RX5) (T := TX5) (N := 11) (by decide +kernel) rfl in_5 (by decide) tb_236
theorem k_44_90 (L : Nat) (xs : Nat → Int32) : ll_OK1 cX5_become RX5 none false ll_mN ll_mR ll_mK ll_cnt L xs false 90 (.inl (lo_push 91 (.int 0))) := lk_iconst (n := 0) (by decide +kernel) (by decide)
theorem k_44_91 (L : Nat) (xs : Nat → Int32) : ll_OK1 cX5_become RX5 none false ll_mN ll_mR ll_mK ll_cnt L xs false 91 (.inl (lo_aload 92 0)) := lk_aload_n (k := 0) (by decide +kernel) rfl
theorem k_44_92 (L : Nat) (xs : Nat → Int32) : ll_OK1 cX5_become RX5 none false ll_mN ll_mR ll_mK ll_cnt L xs false 92 (.inl (lo_getf 95 5 3)) := lk_getf (ix := 27) (ci := 5) (k := 3) (C := RX5) (T := TX5) (N := 11) (by decide +kernel) rfl in_5 (by decide) tb_236
theorem k_44_95 (L : Nat) (xs : Nat → Int32) : ll_OK1 cX5_become RX5 none false ll_mN ll_mR ll_mK ll_cnt L xs false 95 (.inl (lo_push 96 (.int 0))) := lk_iconst (n := 0) (by decide +kernel) (by decide)
theorem k_44_96 (L : Nat) (xs : Nat → Int32) : ll_OK1 cX5_become RX5 none false ll_mN ll_mR ll_mK ll_cnt L xs false 96 (.inl (lo_iload 97 2)) := lk_iload_n (k := 2) (by decide +kernel) rfl
theorem k_44_97 (L : Nat) (xs : Nat → Int32) : ll_OK1 cX5_become RX5 none false ll_mN ll_mR ll_mK ll_cnt L xs false 97 (.inl (lo_copy 100)) := lk_copy (ix := 62) (by decide +kernel) tb_247 tb_92 tb_93 tb_94
theorem k_44_100 (L : Nat) (xs : Nat → Int32) : ll_OK1 cX5_become RX5 none false ll_mN ll_mR ll_mK ll_cnt L xs false 100 (.inl (lo_aload 101 1)) := lk_aload_n (k := 1) (by decide +kernel) rfl
theorem k_44_101 (L : Nat) (xs : Nat → Int32) : ll_OK1 cX5_become RX5 none false ll_mN ll_mR ll_mK ll_cnt L xs false 101 (.inl (lo_getf 104 5 4)) := lk_getf (ix := 30) (ci := 5) (k := 4) (C := RX5) (T := TX5) (N := 11) (by decide +kernel) rfl in_5 (by decide) tb_237
theorem k_44_104 (L : Nat) (xs : Nat → Int32) : ll_OK1 cX5_become RX5 none false ll_mN ll_mR ll_mK ll_cnt L xs false 104 (.inl (lo_push 105 (.int 0))) := lk_iconst (n := 0) (by decide +kernel) (by decide)
theorem k_44_105 (L : Nat) (xs : Nat → Int32) : ll_OK1 cX5_become RX5 none false ll_mN ll_mR ll_mK ll_cnt L xs false 105 (.inl (lo_aload 106 0)) := lk_aload_n (k := 0) (by decide +kernel) rfl
theorem k_44_106 (L : Nat) (xs : Nat → Int32) : ll_OK1 cX5_become RX5 none false ll_mN ll_mR ll_mK ll_cnt L xs false 106 (.inl (lo_getf 109 5 4)) := lk_getf (ix := 30) (ci := 5) (k := 4) (C := RX5) (T := TX5) (N := 11) (by decide +kernel) rfl in_5 (by decide) tb_237
theorem k_44_109 (L : Nat) (xs : Nat → Int32) : ll_OK1 cX5_become RX5 none false ll_mN ll_mR ll_mK ll_cnt L xs false 109 (.inl (lo_push 110 (.int 0))) := lk_iconst (n := 0) (by decide +kernel) (by decide)
theorem k_44_110 (L : Nat) (xs : Nat → Int32) : ll_OK1 cX5_become RX5 none false ll_mN ll_mR ll_mK ll_cnt L xs false 110 (.inl (lo_iload 111 2)) := lk_iload_n (k := 2) (by decide +kernel) rfl
theorem k_44_111 (L : Nat) (xs : Nat → Int32) : ll_OK1 cX5_become RX5 none false ll_mN ll_mR ll_mK ll_cnt L xs false 111 (.inl (lo_push 112 (.int 1))) := lk_iconst (n := 1) (by decide +kernel) (by decide)
theorem k_44_112 (L : Nat) (xs : Nat → Int32) : ll_OK1 cX5_become RX5 none false ll_mN ll_mR ll_mK ll_cnt L xs false 112 (.inl (lo_bin 113 (fun x y => x + y))) := lk_iadd (by decide +kernel)
theorem k_44_113 (L : Nat) (xs : Nat → Int32) : ll_OK1 cX5_become RX5 none false ll_mN ll_mR ll_mK ll_cnt L xs false 113 (.inl (lo_copy 116)) := lk_copy (ix := 62) (by decide +kernel) tb_247 tb_92 tb_93 tb_94
theorem k_44_116 (L : Nat) (xs : Nat → Int32) : ll_OK1 cX5_become RX5 none false ll_mN ll_mR ll_mK ll_cnt L xs false 116 (.inl (lo_aload 117 1)) := lk_aload_n (k := 1) (by decide +kernel) rfl
theorem k_44_117 (L : Nat) (xs : Nat → Int32) : ll_OK1 cX5_become RX5 none false ll_mN ll_mR ll_mK ll_cnt L xs false 117 (.inl (lo_getf 120 5 5)) := lk_getf (ix := 33) (ci := 5) (k := 5) (C := RX5) (T := TX5) (N := 11) (by decide +kernel) rfl in_5 (by decide) tb_238
theorem k_44_120 (L : Nat) (xs : Nat → Int32) : ll_OK1 cX5_become RX5 none false ll_mN ll_mR ll_mK ll_cnt L xs false 120 (.inl (lo_push 121 (.int 0))) := lk_iconst (n := 0) (by decide +kernel) (by decide)
theorem k_44_121 (L : Nat) (xs : Nat → Int32) : ll_OK1 cX5_become RX5 none false ll_mN ll_mR ll_mK ll_cnt L xs false 121 (.inl (lo_aload 122 0)) := lk_aload_n (k := 0) (by decide +kernel) rfl
theorem k_44_122 (L : Nat) (xs : Nat → Int32) : ll_OK1 cX5_become RX5 none false ll_mN ll_mR ll_mK ll_cnt L xs false 122 (.inl (lo_getf 125 5 5)) := lk_getf (ix := 33) (ci := 5) (k := 5) (C := RX5) (T := TX5) (N := 11) (by decide +kernel) rfl in_5 (by decide) tb_238
theorem k_44_125 (L : Nat) (xs : Nat → Int32) : ll_OK1 cX5_become RX5 none false ll_mN ll_mR ll_mK ll_cnt L xs false 125 (.inl (lo_push 126 (.int 0))) := lk_iconst (n := 0) (by decide +kernel) (by decide)
theorem k_44_126 (L : Nat) (xs : Nat → Int32) : ll_OK1 cX5_become RX5 none false ll_mN ll_mR ll_mK ll_cnt L xs false 126 (.inl (lo_aload 127 0)) := lk_aload_n (k := 0) (by decide +kernel) rfl
theorem k_44_127 (L : Nat) (xs : Nat → Int32) : ll_OK1 cX5_become RX5 none false ll_mN ll_mR ll_mK ll_cnt L xs false 127 (.inl (lo_getf 130 5 4)) := lk_getf (ix := 30) (ci := 5) (k := 4) (C := RX5) (T := TX5) (N := 11) (by decide +kernel) rfl in_5 (by decide) tb_237
theorem k_44_130 (L : Nat) (xs : Nat → Int32) : ll_OK1 cX5_become RX5 none false ll_mN ll_mR ll_mK ll_cnt L xs false 130 (.inl (lo_iload 131 2)) := lk_iload_n (k := 2) (by decide +kernel) rfl
theorem k_44_131 (L : Nat) (xs : Nat → Int32) : ll_OK1 cX5_become RX5 none false ll_mN ll_mR ll_mK ll_cnt L xs false 131 (.inl (lo_ald 132 0)) := lk_iald (by decide +kernel)
theorem k_44_132 (L : Nat) (xs : Nat → Int32) : ll_OK1 cX5_become RX5 none false ll_mN ll_mR ll_mK ll_cnt L xs false 132 (.inl (lo_copy 135)) := lk_copy (ix := 62) (by decide +kernel) tb_247 tb_92 tb_93 tb_94
theorem k_44_135 (L : Nat) (xs : Nat → Int32) : ll_OK1 cX5_become RX5 none false ll_mN ll_mR ll_mK ll_cnt L xs false 135 (.inr (.inr 0)) := ⟨fun _ => ⟨(by decide +kernel), rfl⟩, (fun h => by cases h), fun h => by cases h⟩
theorem ok_44 (L : Nat) (xs : Nat → Int32) : ∀ q ∈ cd_44, ll_OK1 cX5_become RX5 none false ll_mN ll_mR ll_mK ll_cnt L xs false q.1 q.2 :=
  List.forall_mem_cons.mpr ⟨k_44_0 L xs, List.forall_mem_cons.mpr ⟨k_44_1 L xs, List.forall_mem_cons.mpr ⟨k_44_4 L xs, List.forall_mem_cons.mpr ⟨k_44_5 L xs, List.forall_mem_cons.mpr ⟨k_44_8 L xs, List.forall_mem_cons.mpr ⟨k_44_11 L xs, List.forall_mem_cons.mpr ⟨k_44_12 L xs, List.forall_mem_cons.mpr ⟨k_44_15 L xs, List.forall_mem_cons.mpr ⟨k_44_16 L xs, List.forall_mem_cons.mpr ⟨k_44_19 L xs, List.forall_mem_cons.mpr ⟨k_44_22 L xs, List.forall_mem_cons.mpr ⟨k_44_23 L xs, List.forall_mem_cons.mpr ⟨k_44_24 L xs, List.forall_mem_cons.mpr ⟨k_44_27 L xs, List.forall_mem_cons.mpr ⟨k_44_30 L xs, List.forall_mem_cons.mpr ⟨k_44_31 L xs, List.forall_mem_cons.mpr ⟨k_44_32 L xs, List.forall_mem_cons.mpr ⟨k_44_35 L xs, List.forall_mem_cons.mpr ⟨k_44_38 L xs, List.forall_mem_cons.mpr ⟨k_44_39 L xs, List.forall_mem_cons.mpr ⟨k_44_40 L xs, List.forall_mem_cons.mpr ⟨k_44_43 L xs, List.forall_mem_cons.mpr ⟨k_44_46 L xs, List.forall_mem_cons.mpr ⟨k_44_47 L xs, List.forall_mem_cons.mpr ⟨k_44_48 L xs, List.forall_mem_cons.mpr ⟨k_44_51 L xs, List.forall_mem_cons.mpr ⟨k_44_54 L xs, List.forall_mem_cons.mpr ⟨k_44_55 L xs, List.forall_mem_cons.mpr ⟨k_44_56 L xs, List.forall_mem_cons.mpr ⟨k_44_59 L xs, List.forall_mem_cons.mpr ⟨k_44_62 L xs, List.forall_mem_cons.mpr ⟨k_44_63 L xs, List.forall_mem_cons.mpr ⟨k_44_66 L xs, List.forall_mem_cons.mpr ⟨k_44_67 L xs, List.forall_mem_cons.mpr ⟨k_44_68 L xs, List.forall_mem_cons.mpr ⟨k_44_69 L xs, List.forall_mem_cons.mpr ⟨k_44_70 L xs, List.forall_mem_cons.mpr ⟨k_44_73 L xs, List.forall_mem_cons.mpr ⟨k_44_74 L xs, List.forall_mem_cons.mpr ⟨k_44_75 L xs, List.forall_mem_cons.mpr ⟨k_44_78 L xs, List.forall_mem_cons.mpr ⟨k_44_79 L xs, List.forall_mem_cons.mpr ⟨k_44_80 L xs, List.forall_mem_cons.mpr ⟨k_44_83 L xs, List.forall_mem_cons.mpr ⟨k_44_86 L xs, List.forall_mem_cons.mpr ⟨k_44_87 L xs, List.forall_mem_cons.mpr ⟨k_44_90 L xs, List.forall_mem_cons.mpr ⟨k_44_91 L xs, List.forall_mem_cons.mpr ⟨k_44_92 L xs, List.forall_mem_cons.mpr ⟨k_44_95 L xs, List.forall_mem_cons.mpr ⟨k_44_96 L xs, List.forall_mem_cons.mpr ⟨k_44_97 L xs, List.forall_mem_cons.mpr ⟨k_44_100 L xs, List.forall_mem_cons.mpr ⟨k_44_101 L xs, List.forall_mem_cons.mpr ⟨k_44_104 L xs, List.forall_mem_cons.mpr ⟨k_44_105 L xs, List.forall_mem_cons.mpr ⟨k_44_106 L xs, List.forall_mem_cons.mpr ⟨k_44_109 L xs, List.forall_mem_cons.mpr ⟨k_44_110 L xs, List.forall_mem_cons.mpr ⟨k_44_111 L xs, List.forall_mem_cons.mpr ⟨k_44_112 L xs, List.forall_mem_cons.mpr ⟨k_44_113 L xs, List.forall_mem_cons.mpr ⟨k_44_116 L xs, List.forall_mem_cons.mpr ⟨k_44_117 L xs, List.forall_mem_cons.mpr ⟨k_44_120 L xs, List.forall_mem_cons.mpr ⟨k_44_121 L xs, List.forall_mem_cons.mpr ⟨k_44_122 L xs, List.forall_mem_cons.mpr ⟨k_44_125 L xs, List.forall_mem_cons.mpr ⟨k_44_126 L xs, List.forall_mem_cons.mpr ⟨k_44_127 L xs, List.forall_mem_cons.mpr ⟨k_44_130 L xs, List.forall_mem_cons.mpr ⟨k_44_131 L xs, List.forall_mem_cons.mpr ⟨k_44_132 L xs, List.forall_mem_cons.mpr ⟨k_44_135 L xs, fun _ h => absurd h List.not_mem_nil⟩⟩⟩⟩⟩⟩⟩⟩⟩⟩⟩⟩⟩⟩⟩⟩⟩⟩⟩⟩⟩⟩⟩⟩⟩⟩⟩⟩⟩⟩⟩⟩⟩⟩⟩⟩⟩⟩⟩⟩⟩⟩⟩⟩⟩⟩⟩⟩⟩⟩⟩⟩⟩⟩⟩⟩⟩⟩⟩⟩⟩⟩⟩⟩⟩⟩⟩⟩⟩⟩⟩⟩⟩⟩
/-- InclusionProver$Side.isTerm.(I)Z -/
def cd_45 : List (Nat × ll_O) := [
  (0, .inl (lo_iload 1 1)),
  (1, .inl (lo_if 16 4 (fun x => decide (x < 0)))),
  (4, .inl (lo_iload 5 1)),
  (5, .inl (lo_aload 6 0)),
  (6, .inl (lo_getf 9 5 6)),
  (9, .inl (lo_cmp 16 12 (fun x y => decide (y ≤ x)))),
  (12, .inl (lo_push 13 (.int 1))),
  (13, .inl (lo_goto 17)),
  (16, .inl (lo_push 17 (.int 0))),
  (17, .inr (.inr 2))]
theorem k_45_0 (L : Nat) (xs : Nat → Int32) : ll_OK1 cX5_isTerm RX5 (some .boolean) false ll_mN ll_mR ll_mK ll_cnt L xs false 0 (.inl (lo_iload 1 1)) := lk_iload_n (k := 1) (by decide +kernel) rfl
theorem k_45_1 (L : Nat) (xs : Nat → Int32) : ll_OK1 cX5_isTerm RX5 (some .boolean) false ll_mN ll_mR ll_mK ll_cnt L xs false 1 (.inl (lo_if 16 4 (fun x => decide (x < 0)))) := lk_if_lt (off := 15) (by decide +kernel) rfl
theorem k_45_4 (L : Nat) (xs : Nat → Int32) : ll_OK1 cX5_isTerm RX5 (some .boolean) false ll_mN ll_mR ll_mK ll_cnt L xs false 4 (.inl (lo_iload 5 1)) := lk_iload_n (k := 1) (by decide +kernel) rfl
theorem k_45_5 (L : Nat) (xs : Nat → Int32) : ll_OK1 cX5_isTerm RX5 (some .boolean) false ll_mN ll_mR ll_mK ll_cnt L xs false 5 (.inl (lo_aload 6 0)) := lk_aload_n (k := 0) (by decide +kernel) rfl
theorem k_45_6 (L : Nat) (xs : Nat → Int32) : ll_OK1 cX5_isTerm RX5 (some .boolean) false ll_mN ll_mR ll_mK ll_cnt L xs false 6 (.inl (lo_getf 9 5 6)) := lk_getf (ix := 39) (ci := 5) (k := 6) (C := RX5) (T := TX5) (N := 11) (by decide +kernel) rfl in_5 (by decide) tb_240
theorem k_45_9 (L : Nat) (xs : Nat → Int32) : ll_OK1 cX5_isTerm RX5 (some .boolean) false ll_mN ll_mR ll_mK ll_cnt L xs false 9 (.inl (lo_cmp 16 12 (fun x y => decide (y ≤ x)))) := lk_icmp_ge (off := 7) (by decide +kernel) rfl
theorem k_45_12 (L : Nat) (xs : Nat → Int32) : ll_OK1 cX5_isTerm RX5 (some .boolean) false ll_mN ll_mR ll_mK ll_cnt L xs false 12 (.inl (lo_push 13 (.int 1))) := lk_iconst (n := 1) (by decide +kernel) (by decide)
theorem k_45_13 (L : Nat) (xs : Nat → Int32) : ll_OK1 cX5_isTerm RX5 (some .boolean) false ll_mN ll_mR ll_mK ll_cnt L xs false 13 (.inl (lo_goto 17)) := lk_goto (off := 4) (by decide +kernel) rfl
theorem k_45_16 (L : Nat) (xs : Nat → Int32) : ll_OK1 cX5_isTerm RX5 (some .boolean) false ll_mN ll_mR ll_mK ll_cnt L xs false 16 (.inl (lo_push 17 (.int 0))) := lk_iconst (n := 0) (by decide +kernel) (by decide)
theorem k_45_17 (L : Nat) (xs : Nat → Int32) : ll_OK1 cX5_isTerm RX5 (some .boolean) false ll_mN ll_mR ll_mK ll_cnt L xs false 17 (.inr (.inr 2)) := ⟨(fun h => by cases h), (fun h => by cases h), fun _ => ⟨(by decide +kernel), rfl⟩⟩
theorem ok_45 (L : Nat) (xs : Nat → Int32) : ∀ q ∈ cd_45, ll_OK1 cX5_isTerm RX5 (some .boolean) false ll_mN ll_mR ll_mK ll_cnt L xs false q.1 q.2 :=
  List.forall_mem_cons.mpr ⟨k_45_0 L xs, List.forall_mem_cons.mpr ⟨k_45_1 L xs, List.forall_mem_cons.mpr ⟨k_45_4 L xs, List.forall_mem_cons.mpr ⟨k_45_5 L xs, List.forall_mem_cons.mpr ⟨k_45_6 L xs, List.forall_mem_cons.mpr ⟨k_45_9 L xs, List.forall_mem_cons.mpr ⟨k_45_12 L xs, List.forall_mem_cons.mpr ⟨k_45_13 L xs, List.forall_mem_cons.mpr ⟨k_45_16 L xs, List.forall_mem_cons.mpr ⟨k_45_17 L xs, fun _ h => absurd h List.not_mem_nil⟩⟩⟩⟩⟩⟩⟩⟩⟩⟩
/-- InclusionProver$Side.isSet.(I)Z -/
def cd_46 : List (Nat × ll_O) := [
  (0, .inl (lo_iload 1 1)),
  (1, .inl (lo_push 2 (.int 1))),
  (2, .inl (lo_aload 3 0)),
  (3, .inl (lo_getf 6 5 6)),
  (6, .inl (lo_bin 7 (fun x y => x <<< (y &&& 31)))),
  (7, .inl (lo_push 8 (.int 1))),
  (8, .inl (lo_bin 9 (fun x y => x - y))),
  (9, .inl (lo_push 10 (.int (-1)))),
  (10, .inl (lo_bin 11 (fun x y => x ^^^ y))),
  (11, .inl (lo_bin 12 (fun x y => x &&& y))),
  (12, .inl (lo_if 19 15 (fun x => decide (¬ x = 0)))),
  (15, .inl (lo_push 16 (.int 1))),
  (16, .inl (lo_goto 20)),
  (19, .inl (lo_push 20 (.int 0))),
  (20, .inr (.inr 2))]
theorem k_46_0 (L : Nat) (xs : Nat → Int32) : ll_OK1 cX5_isSet RX5 (some .boolean) false ll_mN ll_mR ll_mK ll_cnt L xs false 0 (.inl (lo_iload 1 1)) := lk_iload_n (k := 1) (by decide +kernel) rfl
theorem k_46_1 (L : Nat) (xs : Nat → Int32) : ll_OK1 cX5_isSet RX5 (some .boolean) false ll_mN ll_mR ll_mK ll_cnt L xs false 1 (.inl (lo_push 2 (.int 1))) := lk_iconst (n := 1) (by decide +kernel) (by decide)
theorem k_46_2 (L : Nat) (xs : Nat → Int32) : ll_OK1 cX5_isSet RX5 (some .boolean) false ll_mN ll_mR ll_mK ll_cnt L xs false 2 (.inl (lo_aload 3 0)) := lk_aload_n (k := 0) (by decide +kernel) rfl
theorem k_46_3 (L : Nat) (xs : Nat → Int32) : ll_OK1 cX5_isSet RX5 (some .boolean) false ll_mN ll_mR ll_mK ll_cnt L xs false 3 (.inl (lo_getf 6 5 6)) := lk_getf (ix := 39) (ci := 5) (k := 6) (C := RX5) (T := TX5) (N := 11) (by decide +kernel) rfl in_5 (by decide) tb_240
theorem k_46_6 (L : Nat) (xs : Nat → Int32) : ll_OK1 cX5_isSet RX5 (some .boolean) false ll_mN ll_mR ll_mK ll_cnt L xs false 6 (.inl (lo_bin 7 (fun x y => x <<< (y &&& 31)))) := lk_ishl (by decide +kernel)
theorem k_46_7 (L : Nat) (xs : Nat → Int32) : ll_OK1 cX5_isSet RX5 (some .boolean) false ll_mN ll_mR ll_mK ll_cnt L xs false 7 (.inl (lo_push 8 (.int 1))) := lk_iconst (n := 1) (by decide +kernel) (by decide)
theorem k_46_8 (L : Nat) (xs : Nat → Int32) : ll_OK1 cX5_isSet RX5 (some .boolean) false ll_mN ll_mR ll_mK ll_cnt L xs false 8 (.inl (lo_bin 9 (fun x y => x - y))) := lk_isub (by decide +kernel)
theorem k_46_9 (L : Nat) (xs : Nat → Int32) : ll_OK1 cX5_isSet RX5 (some .boolean) false ll_mN ll_mR ll_mK ll_cnt L xs false 9 (.inl (lo_push 10 (.int (-1)))) := lk_iconst (n := (-1)) (by decide +kernel) (by decide)
theorem k_46_10 (L : Nat) (xs : Nat → Int32) : ll_OK1 cX5_isSet RX5 (some .boolean) false ll_mN ll_mR ll_mK ll_cnt L xs false 10 (.inl (lo_bin 11 (fun x y => x ^^^ y))) := lk_ixor (by decide +kernel)
theorem k_46_11 (L : Nat) (xs : Nat → Int32) : ll_OK1 cX5_isSet RX5 (some .boolean) false ll_mN ll_mR ll_mK ll_cnt L xs false 11 (.inl (lo_bin 12 (fun x y => x &&& y))) := lk_iand (by decide +kernel)
theorem k_46_12 (L : Nat) (xs : Nat → Int32) : ll_OK1 cX5_isSet RX5 (some .boolean) false ll_mN ll_mR ll_mK ll_cnt L xs false 12 (.inl (lo_if 19 15 (fun x => decide (¬ x = 0)))) := lk_if_ne (off := 7) (by decide +kernel) rfl
theorem k_46_15 (L : Nat) (xs : Nat → Int32) : ll_OK1 cX5_isSet RX5 (some .boolean) false ll_mN ll_mR ll_mK ll_cnt L xs false 15 (.inl (lo_push 16 (.int 1))) := lk_iconst (n := 1) (by decide +kernel) (by decide)
theorem k_46_16 (L : Nat) (xs : Nat → Int32) : ll_OK1 cX5_isSet RX5 (some .boolean) false ll_mN ll_mR ll_mK ll_cnt L xs false 16 (.inl (lo_goto 20)) := lk_goto (off := 4) (by decide +kernel) rfl
theorem k_46_19 (L : Nat) (xs : Nat → Int32) : ll_OK1 cX5_isSet RX5 (some .boolean) false ll_mN ll_mR ll_mK ll_cnt L xs false 19 (.inl (lo_push 20 (.int 0))) := lk_iconst (n := 0) (by decide +kernel) (by decide)
theorem k_46_20 (L : Nat) (xs : Nat → Int32) : ll_OK1 cX5_isSet RX5 (some .boolean) false ll_mN ll_mR ll_mK ll_cnt L xs false 20 (.inr (.inr 2)) := ⟨(fun h => by cases h), (fun h => by cases h), fun _ => ⟨(by decide +kernel), rfl⟩⟩
theorem ok_46 (L : Nat) (xs : Nat → Int32) : ∀ q ∈ cd_46, ll_OK1 cX5_isSet RX5 (some .boolean) false ll_mN ll_mR ll_mK ll_cnt L xs false q.1 q.2 :=
  List.forall_mem_cons.mpr ⟨k_46_0 L xs, List.forall_mem_cons.mpr ⟨k_46_1 L xs, List.forall_mem_cons.mpr ⟨k_46_2 L xs, List.forall_mem_cons.mpr ⟨k_46_3 L xs, List.forall_mem_cons.mpr ⟨k_46_6 L xs, List.forall_mem_cons.mpr ⟨k_46_7 L xs, List.forall_mem_cons.mpr ⟨k_46_8 L xs, List.forall_mem_cons.mpr ⟨k_46_9 L xs, List.forall_mem_cons.mpr ⟨k_46_10 L xs, List.forall_mem_cons.mpr ⟨k_46_11 L xs, List.forall_mem_cons.mpr ⟨k_46_12 L xs, List.forall_mem_cons.mpr ⟨k_46_15 L xs, List.forall_mem_cons.mpr ⟨k_46_16 L xs, List.forall_mem_cons.mpr ⟨k_46_19 L xs, List.forall_mem_cons.mpr ⟨k_46_20 L xs, fun _ h => absurd h List.not_mem_nil⟩⟩⟩⟩⟩⟩⟩⟩⟩⟩⟩⟩⟩⟩⟩
/-- InclusionProver$Side.anyFull.(I)Z -/
def cd_47 : List (Nat × ll_O) := [
  (0, .inl (lo_iload 1 1)),
  (1, .inl (lo_aload 2 0)),
  (2, .inl (lo_getf 5 5 9)),
  (5, .inl (lo_bin 6 (fun x y => x &&& y))),
  (6, .inl (lo_if 13 9 (fun x => decide (x = 0)))),
  (9, .inl (lo_push 10 (.int 1))),
  (10, .inl (lo_goto 14)),
  (13, .inl (lo_push 14 (.int 0))),
  (14, .inr (.inr 2))]
theorem k_47_0 (L : Nat) (xs : Nat → Int32) : ll_OK1 cX5_anyFull RX5 (some .boolean) false ll_mN ll_mR ll_mK ll_cnt L xs false 0 (.inl (lo_iload 1 1)) := lk_iload_n (k := 1) (by decide +kernel) rfl
theorem k_47_1 (L : Nat) (xs : Nat → Int32) : ll_OK1 cX5_anyFull RX5 (some .boolean) false ll_mN ll_mR ll_mK ll_cnt L xs false 1 (.inl (lo_aload 2 0)) := lk_aload_n (k := 0) (by decide +kernel) rfl
theorem k_47_2 (L : Nat) (xs : Nat → Int32) : ll_OK1 cX5_anyFull RX5 (some .boolean) false ll_mN ll_mR ll_mK ll_cnt L xs false 2 (.inl (lo_getf 5 5 9)) := lk_getf (ix := 49) (ci := 5) (k := 9) (C := RX5) (T := TX5) (N := 11) (by decide +kernel) rfl in_5 (by decide) tb_243
theorem k_47_5 (L : Nat) (xs : Nat → Int32) : ll_OK1 cX5_anyFull RX5 (some .boolean) false ll_mN ll_mR ll_mK ll_cnt L xs false 5 (.inl (lo_bin 6 (fun x y => x &&& y))) := lk_iand (by decide +kernel)
theorem k_47_6 (L : Nat) (xs : Nat → Int32) : ll_OK1 cX5_anyFull RX5 (some .boolean) false ll_mN ll_mR ll_mK ll_cnt L xs false 6 (.inl (lo_if 13 9 (fun x => decide (x = 0)))) := lk_if_eq (off := 7) (by decide +kernel) rfl
theorem k_47_9 (L : Nat) (xs : Nat → Int32) : ll_OK1 cX5_anyFull RX5 (some .boolean) false ll_mN ll_mR ll_mK ll_cnt L xs false 9 (.inl (lo_push 10 (.int 1))) := lk_iconst (n := 1) (by decide +kernel) (by decide)
theorem k_47_10 (L : Nat) (xs : Nat → Int32) : ll_OK1 cX5_anyFull RX5 (some .boolean) false ll_mN ll_mR ll_mK ll_cnt L xs false 10 (.inl (lo_goto 14)) := lk_goto (off := 4) (by decide +kernel) rfl
theorem k_47_13 (L : Nat) (xs : Nat → Int32) : ll_OK1 cX5_anyFull RX5 (some .boolean) false ll_mN ll_mR ll_mK ll_cnt L xs false 13 (.inl (lo_push 14 (.int 0))) := lk_iconst (n := 0) (by decide +kernel) (by decide)
theorem k_47_14 (L : Nat) (xs : Nat → Int32) : ll_OK1 cX5_anyFull RX5 (some .boolean) false ll_mN ll_mR ll_mK ll_cnt L xs false 14 (.inr (.inr 2)) := ⟨(fun h => by cases h), (fun h => by cases h), fun _ => ⟨(by decide +kernel), rfl⟩⟩
theorem ok_47 (L : Nat) (xs : Nat → Int32) : ∀ q ∈ cd_47, ll_OK1 cX5_anyFull RX5 (some .boolean) false ll_mN ll_mR ll_mK ll_cnt L xs false q.1 q.2 :=
  List.forall_mem_cons.mpr ⟨k_47_0 L xs, List.forall_mem_cons.mpr ⟨k_47_1 L xs, List.forall_mem_cons.mpr ⟨k_47_2 L xs, List.forall_mem_cons.mpr ⟨k_47_5 L xs, List.forall_mem_cons.mpr ⟨k_47_6 L xs, List.forall_mem_cons.mpr ⟨k_47_9 L xs, List.forall_mem_cons.mpr ⟨k_47_10 L xs, List.forall_mem_cons.mpr ⟨k_47_13 L xs, List.forall_mem_cons.mpr ⟨k_47_14 L xs, fun _ h => absurd h List.not_mem_nil⟩⟩⟩⟩⟩⟩⟩⟩⟩
/-- InclusionProver$Side.lettersSpelt.()I -/
def cd_48 : List (Nat × ll_O) := [
  (0, .inl (lo_push 1 (.int 0))),
  (1, .inl (lo_istore 2 1)),
  (2, .inl (lo_push 3 (.int 0))),
  (3, .inl (lo_istore 4 2)),
  (4, .inl (lo_iload 5 2)),
  (5, .inl (lo_push 6 (.int 3))),
  (6, .inl (lo_cmp 29 9 (fun x y => decide (y ≤ x)))),
  (9, .inl (lo_iload 10 1)),
  (10, .inl (lo_aload 11 0)),
  (11, .inl (lo_getf 14 5 0)),
  (14, .inl (lo_push 16 (.int 97))),
  (16, .inl (lo_iload 17 2)),
  (17, .inl (lo_bin 18 (fun x y => x + y))),
  (18, .inr (.inl (78, 2, 21))),
  (21, .inl (lo_bin 22 (fun x y => x + y))),
  (22, .inl (lo_istore 23 1)),
  (23, .inl (lo_iinc 26 2 1)),
  (26, .inl (lo_goto 4)),
  (29, .inl (lo_iload 30 1)),
  (30, .inr (.inr 1))]
theorem k_48_0 (L : Nat) (xs : Nat → Int32) : ll_OK1 cX5_lettersSpelt RX5 (some .int) false ll_mN ll_mR ll_mK ll_cnt L xs false 0 (.inl (lo_push 1 (.int 0))) := lk_iconst (n := 0) (by decide +kernel) (by decide)
theorem k_48_1 (L : Nat) (xs : Nat → Int32) : ll_OK1 cX5_lettersSpelt RX5 (some .int) false ll_mN ll_mR ll_mK ll_cnt L xs false 1 (.inl (lo_istore 2 1)) := lk_istore_n (k := 1) (by decide +kernel) rfl
theorem k_48_2 (L : Nat) (xs : Nat → Int32) : ll_OK1 cX5_lettersSpelt RX5 (some .int) false ll_mN ll_mR ll_mK ll_cnt L xs false 2 (.inl (lo_push 3 (.int 0))) := lk_iconst (n := 0) (by decide +kernel) (by decide)
theorem k_48_3 (L : Nat) (xs : Nat → Int32) : ll_OK1 cX5_lettersSpelt RX5 (some .int) false ll_mN ll_mR ll_mK ll_cnt L xs false 3 (.inl (lo_istore 4 2)) := lk_istore_n (k := 2) (by decide +kernel) rfl
theorem k_48_4 (L : Nat) (xs : Nat → Int32) : ll_OK1 cX5_lettersSpelt RX5 (some .int) false ll_mN ll_mR ll_mK ll_cnt L xs false 4 (.inl (lo_iload 5 2)) := lk_iload_n (k := 2) (by decide +kernel) rfl
theorem k_48_5 (L : Nat) (xs : Nat → Int32) : ll_OK1 cX5_lettersSpelt RX5 (some .int) false ll_mN ll_mR ll_mK ll_cnt L xs false 5 (.inl (lo_push 6 (.int 3))) := lk_iconst (n := 3) (by decide +kernel) (by decide)
theorem k_48_6 (L : Nat) (xs : Nat → Int32) : ll_OK1 cX5_lettersSpelt RX5 (some .int) false ll_mN ll_mR ll_mK ll_cnt L xs false 6 (.inl (lo_cmp 29 9 (fun x y => decide (y ≤ x)))) := lk_icmp_ge (off := 23) (by decide +kernel) rfl
theorem k_48_9 (L : Nat) (xs : Nat → Int32) : ll_OK1 cX5_lettersSpelt RX5 (some .int) false ll_mN ll_mR ll_mK ll_cnt L xs false 9 (.inl (lo_iload 10 1)) := lk_iload_n (k := 1) (by decide +kernel) rfl
theorem k_48_10 (L : Nat) (xs : Nat → Int32) : ll_OK1 cX5_lettersSpelt RX5 (some .int) false ll_mN ll_mR ll_mK ll_cnt L xs false 10 (.inl (lo_aload 11 0)) := lk_aload_n (k := 0) (by decide +kernel) rfl
theorem k_48_11 (L : Nat) (xs : Nat → Int32) : ll_OK1 cX5_lettersSpelt RX5 (some .int) false ll_mN ll_mR ll_mK ll_cnt L xs false 11 (.inl (lo_getf 14 5 0)) := lk_getf (ix := 14) (ci := 5) (k := 0) (C := RX5) (T := TX5) (N := 11) (by decide +kernel) rfl in_5 (by decide) tb_233
theorem k_48_14 (L : Nat) (xs : Nat → Int32) : ll_OK1 cX5_lettersSpelt RX5 (some .int) false ll_mN ll_mR ll_mK ll_cnt L xs false 14 (.inl (lo_push 16 (.int 97))) := lk_bipush (n := 97) (by decide +kernel) (by decide)
theorem k_48_16 (L : Nat) (xs : Nat → Int32) : ll_OK1 cX5_lettersSpelt RX5 (some .int) false ll_mN ll_mR ll_mK ll_cnt L xs false 16 (.inl (lo_iload 17 2)) := lk_iload_n (k := 2) (by decide +kernel) rfl
theorem k_48_17 (L : Nat) (xs : Nat → Int32) : ll_OK1 cX5_lettersSpelt RX5 (some .int) false ll_mN ll_mR ll_mK ll_cnt L xs false 17 (.inl (lo_bin 18 (fun x y => x + y))) := lk_iadd (by decide +kernel)
theorem k_48_18 (L : Nat) (xs : Nat → Int32) : ll_OK1 cX5_lettersSpelt RX5 (some .int) false ll_mN ll_mR ll_mK ll_cnt L xs false 18 (.inr (.inl (78, 2, 21))) := ⟨rfl, by decide, by rw [mN_78, mK_78, mR_78]; exact lj_v 68 1 7 (RX7, TX7, 2) (by decide +kernel) tb_248 tb_249 tb_250 rfl rfl rfl rfl (by decide +kernel)⟩
theorem k_48_21 (L : Nat) (xs : Nat → Int32) : ll_OK1 cX5_lettersSpelt RX5 (some .int) false ll_mN ll_mR ll_mK ll_cnt L xs false 21 (.inl (lo_bin 22 (fun x y => x + y))) := lk_iadd (by decide +kernel)
theorem k_48_22 (L : Nat) (xs : Nat → Int32) : ll_OK1 cX5_lettersSpelt RX5 (some .int) false ll_mN ll_mR ll_mK ll_cnt L xs false 22 (.inl (lo_istore 23 1)) := lk_istore_n (k := 1) (by decide +kernel) rfl
theorem k_48_23 (L : Nat) (xs : Nat → Int32) : ll_OK1 cX5_lettersSpelt RX5 (some .int) false ll_mN ll_mR ll_mK ll_cnt L xs false 23 (.inl (lo_iinc 26 2 1)) := lk_iinc (n := 1) (by decide +kernel) (by decide)
theorem k_48_26 (L : Nat) (xs : Nat → Int32) : ll_OK1 cX5_lettersSpelt RX5 (some .int) false ll_mN ll_mR ll_mK ll_cnt L xs false 26 (.inl (lo_goto 4)) := lk_goto (off := (-22)) (by decide +kernel) rfl
theorem k_48_29 (L : Nat) (xs : Nat → Int32) : ll_OK1 cX5_lettersSpelt RX5 (some .int) false ll_mN ll_mR ll_mK ll_cnt L xs false 29 (.inl (lo_iload 30 1)) := lk_iload_n (k := 1) (by decide +kernel) rfl
theorem k_48_30 (L : Nat) (xs : Nat → Int32) : ll_OK1 cX5_lettersSpelt RX5 (some .int) false ll_mN ll_mR ll_mK ll_cnt L xs false 30 (.inr (.inr 1)) := ⟨(fun h => by cases h), (fun _ => ⟨(by decide +kernel), rfl⟩), fun h => by cases h⟩
theorem ok_48 (L : Nat) (xs : Nat → Int32) : ∀ q ∈ cd_48, ll_OK1 cX5_lettersSpelt RX5 (some .int) false ll_mN ll_mR ll_mK ll_cnt L xs false q.1 q.2 :=
  List.forall_mem_cons.mpr ⟨k_48_0 L xs, List.forall_mem_cons.mpr ⟨k_48_1 L xs, List.forall_mem_cons.mpr ⟨k_48_2 L xs, List.forall_mem_cons.mpr ⟨k_48_3 L xs, List.forall_mem_cons.mpr ⟨k_48_4 L xs, List.forall_mem_cons.mpr ⟨k_48_5 L xs, List.forall_mem_cons.mpr ⟨k_48_6 L xs, List.forall_mem_cons.mpr ⟨k_48_9 L xs, List.forall_mem_cons.mpr ⟨k_48_10 L xs, List.forall_mem_cons.mpr ⟨k_48_11 L xs, List.forall_mem_cons.mpr ⟨k_48_14 L xs, List.forall_mem_cons.mpr ⟨k_48_16 L xs, List.forall_mem_cons.mpr ⟨k_48_17 L xs, List.forall_mem_cons.mpr ⟨k_48_18 L xs, List.forall_mem_cons.mpr ⟨k_48_21 L xs, List.forall_mem_cons.mpr ⟨k_48_22 L xs, List.forall_mem_cons.mpr ⟨k_48_23 L xs, List.forall_mem_cons.mpr ⟨k_48_26 L xs, List.forall_mem_cons.mpr ⟨k_48_29 L xs, List.forall_mem_cons.mpr ⟨k_48_30 L xs, fun _ h => absurd h List.not_mem_nil⟩⟩⟩⟩⟩⟩⟩⟩⟩⟩⟩⟩⟩⟩⟩⟩⟩⟩⟩⟩
/-- InclusionProver$Side.termBytes.(I)I -/
def cd_49 : List (Nat × ll_O) := [
  (0, .inl (lo_aload 1 0)),
  (1, .inl (lo_iload 2 1)),
  (2, .inr (.inl (45, 2, 5))),
  (5, .inl (lo_if 23 8 (fun x => decide (x = 0)))),
  (8, .inl (lo_aload 9 0)),
  (9, .inl (lo_getf 12 5 2)),
  (12, .inl (lo_iload 13 1)),
  (13, .inl (lo_ald 14 0)),
  (14, .inl (lo_aload 15 0)),
  (15, .inl (lo_iload 16 1)),
  (16, .inr (.inl (57, 2, 19))),
  (19, .inl (lo_bin 20 (fun x y => x - y))),
  (20, .inl (lo_goto 24)),
  (23, .inl (lo_push 24 (.int (-1)))),
  (24, .inr (.inr 1))]
theorem k_49_0 (L : Nat) (xs : Nat → Int32) : ll_OK1 cX5_termBytes RX5 (some .int) false ll_mN ll_mR ll_mK ll_cnt L xs false 0 (.inl (lo_aload 1 0)) := lk_aload_n (k := 0) (by decide +kernel) rfl
theorem k_49_1 (L : Nat) (xs : Nat → Int32) : ll_OK1 cX5_termBytes RX5 (some .int) false ll_mN ll_mR ll_mK ll_cnt L xs false 1 (.inl (lo_iload 2 1)) := lk_iload_n (k := 1) (by decide +kernel) rfl
theorem k_49_2 (L : Nat) (xs : Nat → Int32) : ll_OK1 cX5_termBytes RX5 (some .int) false ll_mN ll_mR ll_mK ll_cnt L xs false 2 (.inr (.inl (45, 2, 5))) := ⟨rfl, by decide, by rw [mN_45, mK_45, mR_45]; exact lj_v 72 1 5 (RX5, TX5, 11) (by decide +kernel) tb_251 tb_21 tb_22 rfl rfl rfl rfl (by decide +kernel)⟩
theorem k_49_5 (L : Nat) (xs : Nat → Int32) : ll_OK1 cX5_termBytes RX5 (some .int) false ll_mN ll_mR ll_mK ll_cnt L xs false 5 (.inl (lo_if 23 8 (fun x => decide (x = 0)))) := lk_if_eq (off := 18) (by decide +kernel) rfl
theorem k_49_8 (L : Nat) (xs : Nat → Int32) : ll_OK1 cX5_termBytes RX5 (some .int) false ll_mN ll_mR ll_mK ll_cnt L xs false 8 (.inl (lo_aload 9 0)) := lk_aload_n (k := 0) (by decide +kernel) rfl
theorem k_49_9 (L : Nat) (xs : Nat → Int32) : ll_OK1 cX5_termBytes RX5 (some .int) false ll_mN ll_mR ll_mK ll_cnt L xs false 9 (.inl (lo_getf 12 5 2)) := lk_getf (ix := 23) (ci := 5) (k := 2) (C := RX5) (T := TX5) (N := 11) (by decide +kernel) rfl in_5 (by decide) tb_235
theorem k_49_12 (L : Nat) (xs : Nat → Int32) : ll_OK1 cX5_termBytes RX5 (some .int) false ll_mN ll_mR ll_mK ll_cnt L xs false 12 (.inl (lo_iload 13 1)) := lk_iload_n (k := 1) (by decide +kernel) rfl
theorem k_49_13 (L : Nat) (xs : Nat → Int32) : ll_OK1 cX5_termBytes RX5 (some .int) false ll_mN ll_mR ll_mK ll_cnt L xs false 13 (.inl (lo_ald 14 0)) := lk_iald (by decide +kernel)
theorem k_49_14 (L : Nat) (xs : Nat → Int32) : ll_OK1 cX5_termBytes RX5 (some .int) false ll_mN ll_mR ll_mK ll_cnt L xs false 14 (.inl (lo_aload 15 0)) := lk_aload_n (k := 0) (by decide +kernel) rfl
theorem k_49_15 (L : Nat) (xs : Nat → Int32) : ll_OK1 cX5_termBytes RX5 (some .int) false ll_mN ll_mR ll_mK ll_cnt L xs false 15 (.inl (lo_iload 16 1)) := lk_iload_n (k := 1) (by decide +kernel) rfl
theorem k_49_16 (L : Nat) (xs : Nat → Int32) : ll_OK1 cX5_termBytes RX5 (some .int) false ll_mN ll_mR ll_mK ll_cnt L xs false 16 (.inr (.inl (57, 2, 19))) := ⟨rfl, by decide, by rw [mN_57, mK_57, mR_57]; exact lj_v 76 1 5 (RX5, TX5, 11) (by decide +kernel) tb_252 tb_253 tb_254 rfl rfl rfl rfl (by decide +kernel)⟩
theorem k_49_19 (L : Nat) (xs : Nat → Int32) : ll_OK1 cX5_termBytes RX5 (some .int) false ll_mN ll_mR ll_mK ll_cnt L xs false 19 (.inl (lo_bin 20 (fun x y => x - y))) := lk_isub (by decide +kernel)
theorem k_49_20 (L : Nat) (xs : Nat → Int32) : ll_OK1 cX5_termBytes RX5 (some .int) false ll_mN ll_mR ll_mK ll_cnt L xs false 20 (.inl (lo_goto 24)) := lk_goto (off := 4) (by decide +kernel) rfl
theorem k_49_23 (L : Nat) (xs : Nat → Int32) : ll_OK1 cX5_termBytes RX5 (some .int) false ll_mN ll_mR ll_mK ll_cnt L xs false 23 (.inl (lo_push 24 (.int (-1)))) := lk_iconst (n := (-1)) (by decide +kernel) (by decide)
theorem k_49_24 (L : Nat) (xs : Nat → Int32) : ll_OK1 cX5_termBytes RX5 (some .int) false ll_mN ll_mR ll_mK ll_cnt L xs false 24 (.inr (.inr 1)) := ⟨(fun h => by cases h), (fun _ => ⟨(by decide +kernel), rfl⟩), fun h => by cases h⟩
theorem ok_49 (L : Nat) (xs : Nat → Int32) : ∀ q ∈ cd_49, ll_OK1 cX5_termBytes RX5 (some .int) false ll_mN ll_mR ll_mK ll_cnt L xs false q.1 q.2 :=
  List.forall_mem_cons.mpr ⟨k_49_0 L xs, List.forall_mem_cons.mpr ⟨k_49_1 L xs, List.forall_mem_cons.mpr ⟨k_49_2 L xs, List.forall_mem_cons.mpr ⟨k_49_5 L xs, List.forall_mem_cons.mpr ⟨k_49_8 L xs, List.forall_mem_cons.mpr ⟨k_49_9 L xs, List.forall_mem_cons.mpr ⟨k_49_12 L xs, List.forall_mem_cons.mpr ⟨k_49_13 L xs, List.forall_mem_cons.mpr ⟨k_49_14 L xs, List.forall_mem_cons.mpr ⟨k_49_15 L xs, List.forall_mem_cons.mpr ⟨k_49_16 L xs, List.forall_mem_cons.mpr ⟨k_49_19 L xs, List.forall_mem_cons.mpr ⟨k_49_20 L xs, List.forall_mem_cons.mpr ⟨k_49_23 L xs, List.forall_mem_cons.mpr ⟨k_49_24 L xs, fun _ h => absurd h List.not_mem_nil⟩⟩⟩⟩⟩⟩⟩⟩⟩⟩⟩⟩⟩⟩⟩
/-- InclusionProver$Side.termByte.(II)I -/
def cd_50 : List (Nat × ll_O) := [
  (0, .inl (lo_iload 1 2)),
  (1, .inl (lo_if 30 4 (fun x => decide (x < 0)))),
  (4, .inl (lo_iload 5 2)),
  (5, .inl (lo_aload 6 0)),
  (6, .inl (lo_iload 7 1)),
  (7, .inr (.inl (49, 2, 10))),
  (10, .inl (lo_cmp 30 13 (fun x y => decide (y ≤ x)))),
  (13, .inl (lo_aload 14 0)),
  (14, .inl (lo_getf 17 5 1)),
  (17, .inl (lo_aload 18 0)),
  (18, .inl (lo_iload 19 1)),
  (19, .inr (.inl (57, 2, 22))),
  (22, .inl (lo_iload 23 2)),
  (23, .inl (lo_bin 24 (fun x y => x + y))),
  (24, .inr (.inl (77, 2, 27))),
  (27, .inl (lo_goto 31)),
  (30, .inl (lo_push 31 (.int (-1)))),
  (31, .inr (.inr 1))]
theorem k_50_0 (L : Nat) (xs : Nat → Int32) : ll_OK1 cX5_termByte RX5 (some .int) false ll_mN ll_mR ll_mK ll_cnt L xs false 0 (.inl (lo_iload 1 2)) := lk_iload_n (k := 2) (by decide +kernel) rfl
theorem k_50_1 (L : Nat) (xs : Nat → Int32) : ll_OK1 cX5_termByte RX5 (some .int) false ll_mN ll_mR ll_mK ll_cnt L xs false 1 (.inl (lo_if 30 4 (fun x => decide (x < 0)))) := lk_if_lt (off := 29) (by decide +kernel) rfl
theorem k_50_4 (L : Nat) (xs : Nat → Int32) : ll_OK1 cX5_termByte RX5 (some .int) false ll_mN ll_mR ll_mK ll_cnt L xs false 4 (.inl (lo_iload 5 2)) := lk_iload_n (k := 2) (by decide +kernel) rfl
theorem k_50_5 (L : Nat) (xs : Nat → Int32) : ll_OK1 cX5_termByte RX5 (some .int) false ll_mN ll_mR ll_mK ll_cnt L xs false 5 (.inl (lo_aload 6 0)) := lk_aload_n (k := 0) (by decide +kernel) rfl
theorem k_50_6 (L : Nat) (xs : Nat → Int32) : ll_OK1 cX5_termByte RX5 (some .int) false ll_mN ll_mR ll_mK ll_cnt L xs false 6 (.inl (lo_iload 7 1)) := lk_iload_n (k := 1) (by decide +kernel) rfl
theorem k_50_7 (L : Nat) (xs : Nat → Int32) : ll_OK1 cX5_termByte RX5 (some .int) false ll_mN ll_mR ll_mK ll_cnt L xs false 7 (.inr (.inl (49, 2, 10))) := ⟨rfl, by decide, by rw [mN_49, mK_49, mR_49]; exact lj_v 79 1 5 (RX5, TX5, 11) (by decide +kernel) tb_255 tb_256 tb_257 rfl rfl rfl rfl (by decide +kernel)⟩
theorem k_50_10 (L : Nat) (xs : Nat → Int32) : ll_OK1 cX5_termByte RX5 (some .int) false ll_mN ll_mR ll_mK ll_cnt L xs false 10 (.inl (lo_cmp 30 13 (fun x y => decide (y ≤ x)))) := lk_icmp_ge (off := 20) (by decide +kernel) rfl
theorem k_50_13 (L : Nat) (xs : Nat → Int32) : ll_OK1 cX5_termByte RX5 (some .int) false ll_mN ll_mR ll_mK ll_cnt L xs false 13 (.inl (lo_aload 14 0)) := lk_aload_n (k := 0) (by decide +kernel) rfl
theorem k_50_14 (L : Nat) (xs : Nat → Int32) : ll_OK1 cX5_termByte RX5 (some .int) false ll_mN ll_mR ll_mK ll_cnt L xs false 14 (.inl (lo_getf 17 5 1)) := lk_getf (ix := 20) (ci := 5) (k := 1) (C := RX5) (T := TX5) (N := 11) (by decide +kernel) rfl in_5 (by decide) tb_234
theorem k_50_17 (L : Nat) (xs : Nat → Int32) : ll_OK1 cX5_termByte RX5 (some .int) false ll_mN ll_mR ll_mK ll_cnt L xs false 17 (.inl (lo_aload 18 0)) := lk_aload_n (k := 0) (by decide +kernel) rfl
theorem k_50_18 (L : Nat) (xs : Nat → Int32) : ll_OK1 cX5_termByte RX5 (some .int) false ll_mN ll_mR ll_mK ll_cnt L xs false 18 (.inl (lo_iload 19 1)) := lk_iload_n (k := 1) (by decide +kernel) rfl
theorem k_50_19 (L : Nat) (xs : Nat → Int32) : ll_OK1 cX5_termByte RX5 (some .int) false ll_mN ll_mR ll_mK ll_cnt L xs false 19 (.inr (.inl (57, 2, 22))) := ⟨rfl, by decide, by rw [mN_57, mK_57, mR_57]; exact lj_v 76 1 5 (RX5, TX5, 11) (by decide +kernel) tb_252 tb_253 tb_254 rfl rfl rfl rfl (by decide +kernel)⟩
theorem k_50_22 (L : Nat) (xs : Nat → Int32) : ll_OK1 cX5_termByte RX5 (some .int) false ll_mN ll_mR ll_mK ll_cnt L xs false 22 (.inl (lo_iload 23 2)) := lk_iload_n (k := 2) (by decide +kernel) rfl
theorem k_50_23 (L : Nat) (xs : Nat → Int32) : ll_OK1 cX5_termByte RX5 (some .int) false ll_mN ll_mR ll_mK ll_cnt L xs false 23 (.inl (lo_bin 24 (fun x y => x + y))) := lk_iadd (by decide +kernel)
theorem k_50_24 (L : Nat) (xs : Nat → Int32) : ll_OK1 cX5_termByte RX5 (some .int) false ll_mN ll_mR ll_mK ll_cnt L xs false 24 (.inr (.inl (77, 2, 27))) := ⟨rfl, by decide, by rw [mN_77, mK_77, mR_77]; exact lj_v 82 1 7 (RX7, TX7, 2) (by decide +kernel) tb_258 tb_140 tb_141 rfl rfl rfl rfl (by decide +kernel)⟩
theorem k_50_27 (L : Nat) (xs : Nat → Int32) : ll_OK1 cX5_termByte RX5 (some .int) false ll_mN ll_mR ll_mK ll_cnt L xs false 27 (.inl (lo_goto 31)) := lk_goto (off := 4) (by decide +kernel) rfl
theorem k_50_30 (L : Nat) (xs : Nat → Int32) : ll_OK1 cX5_termByte RX5 (some .int) false ll_mN ll_mR ll_mK ll_cnt L xs false 30 (.inl (lo_push 31 (.int (-1)))) := lk_iconst (n := (-1)) (by decide +kernel) (by decide)
theorem k_50_31 (L : Nat) (xs : Nat → Int32) : ll_OK1 cX5_termByte RX5 (some .int) false ll_mN ll_mR ll_mK ll_cnt L xs false 31 (.inr (.inr 1)) := ⟨(fun h => by cases h), (fun _ => ⟨(by decide +kernel), rfl⟩), fun h => by cases h⟩
theorem ok_50 (L : Nat) (xs : Nat → Int32) : ∀ q ∈ cd_50, ll_OK1 cX5_termByte RX5 (some .int) false ll_mN ll_mR ll_mK ll_cnt L xs false q.1 q.2 :=
  List.forall_mem_cons.mpr ⟨k_50_0 L xs, List.forall_mem_cons.mpr ⟨k_50_1 L xs, List.forall_mem_cons.mpr ⟨k_50_4 L xs, List.forall_mem_cons.mpr ⟨k_50_5 L xs, List.forall_mem_cons.mpr ⟨k_50_6 L xs, List.forall_mem_cons.mpr ⟨k_50_7 L xs, List.forall_mem_cons.mpr ⟨k_50_10 L xs, List.forall_mem_cons.mpr ⟨k_50_13 L xs, List.forall_mem_cons.mpr ⟨k_50_14 L xs, List.forall_mem_cons.mpr ⟨k_50_17 L xs, List.forall_mem_cons.mpr ⟨k_50_18 L xs, List.forall_mem_cons.mpr ⟨k_50_19 L xs, List.forall_mem_cons.mpr ⟨k_50_22 L xs, List.forall_mem_cons.mpr ⟨k_50_23 L xs, List.forall_mem_cons.mpr ⟨k_50_24 L xs, List.forall_mem_cons.mpr ⟨k_50_27 L xs, List.forall_mem_cons.mpr ⟨k_50_30 L xs, List.forall_mem_cons.mpr ⟨k_50_31 L xs, fun _ h => absurd h List.not_mem_nil⟩⟩⟩⟩⟩⟩⟩⟩⟩⟩⟩⟩⟩⟩⟩⟩⟩⟩
/-- InclusionProver$Side.partSet.(II)I -/
def cd_51 : List (Nat × ll_O) := [
  (0, .inl (lo_aload 1 0)),
  (1, .inl (lo_iload 2 1)),
  (2, .inr (.inl (45, 2, 5))),
  (5, .inl (lo_if 28 8 (fun x => decide (x = 0)))),
  (8, .inl (lo_iload 9 2)),
  (9, .inr (.inl (56, 1, 12))),
  (12, .inl (lo_if 28 15 (fun x => decide (x = 0)))),
  (15, .inl (lo_aload 16 0)),
  (16, .inl (lo_getf 19 5 3)),
  (19, .inl (lo_iload 20 1)),
  (20, .inl (lo_push 21 (.int 3))),
  (21, .inl (lo_bin 22 (fun x y => x * y))),
  (22, .inl (lo_iload 23 2)),
  (23, .inl (lo_bin 24 (fun x y => x + y))),
  (24, .inl (lo_ald 25 0)),
  (25, .inl (lo_goto 29)),
  (28, .inl (lo_push 29 (.int 0))),
  (29, .inr (.inr 1))]
theorem k_51_0 (L : Nat) (xs : Nat → Int32) : ll_OK1 cX5_partSet RX5 (some .int) false ll_mN ll_mR ll_mK ll_cnt L xs false 0 (.inl (lo_aload 1 0)) := lk_aload_n (k := 0) (by decide +kernel) rfl
theorem k_51_1 (L : Nat) (xs : Nat → Int32) : ll_OK1 cX5_partSet RX5 (some .int) false ll_mN ll_mR ll_mK ll_cnt L xs false 1 (.inl (lo_iload 2 1)) := lk_iload_n (k := 1) (by decide +kernel) rfl
theorem k_51_2 (L : Nat) (xs : Nat → Int32) : ll_OK1 cX5_partSet RX5 (some .int) false ll_mN ll_mR ll_mK ll_cnt L xs false 2 (.inr (.inl (45, 2, 5))) := ⟨rfl, by decide, by rw [mN_45, mK_45, mR_45]; exact lj_v 72 1 5 (RX5, TX5, 11) (by decide +kernel) tb_251 tb_21 tb_22 rfl rfl rfl rfl (by decide +kernel)⟩
theorem k_51_5 (L : Nat) (xs : Nat → Int32) : ll_OK1 cX5_partSet RX5 (some .int) false ll_mN ll_mR ll_mK ll_cnt L xs false 5 (.inl (lo_if 28 8 (fun x => decide (x = 0)))) := lk_if_eq (off := 23) (by decide +kernel) rfl
theorem k_51_8 (L : Nat) (xs : Nat → Int32) : ll_OK1 cX5_partSet RX5 (some .int) false ll_mN ll_mR ll_mK ll_cnt L xs false 8 (.inl (lo_iload 9 2)) := lk_iload_n (k := 2) (by decide +kernel) rfl
theorem k_51_9 (L : Nat) (xs : Nat → Int32) : ll_OK1 cX5_partSet RX5 (some .int) false ll_mN ll_mR ll_mK ll_cnt L xs false 9 (.inr (.inl (56, 1, 12))) := ⟨rfl, by decide, by rw [mN_56, mK_56, mR_56]; exact lj_s 85 (by decide +kernel) tb_259 tb_260 (by decide +kernel)⟩
theorem k_51_12 (L : Nat) (xs : Nat → Int32) : ll_OK1 cX5_partSet RX5 (some .int) false ll_mN ll_mR ll_mK ll_cnt L xs false 12 (.inl (lo_if 28 15 (fun x => decide (x = 0)))) := lk_if_eq (off := 16) (by decide +kernel) rfl
theorem k_51_15 (L : Nat) (xs : Nat → Int32) : ll_OK1 cX5_partSet RX5 (some .int) false ll_mN ll_mR ll_mK ll_cnt L xs false 15 (.inl (lo_aload 16 0)) := lk_aload_n (k := 0) (by decide +kernel) rfl
theorem k_51_16 (L : Nat) (xs : Nat → Int32) : ll_OK1 cX5_partSet RX5 (some .int) false ll_mN ll_mR ll_mK ll_cnt L xs false 16 (.inl (lo_getf 19 5 3)) := lk_getf (ix := 27) (ci := 5) (k := 3) (C := RX5) (T := TX5) (N := 11) (by decide +kernel) rfl in_5 (by decide) tb_236
theorem k_51_19 (L : Nat) (xs : Nat → Int32) : ll_OK1 cX5_partSet RX5 (some .int) false ll_mN ll_mR ll_mK ll_cnt L xs false 19 (.inl (lo_iload 20 1)) := lk_iload_n (k := 1) (by decide +kernel) rfl
theorem k_51_20 (L : Nat) (xs : Nat → Int32) : ll_OK1 cX5_partSet RX5 (some .int) false ll_mN ll_mR ll_mK ll_cnt L xs false 20 (.inl (lo_push 21 (.int 3))) := lk_iconst (n := 3) (by decide +kernel) (by decide)
theorem k_51_21 (L : Nat) (xs : Nat → Int32) : ll_OK1 cX5_partSet RX5 (some .int) false ll_mN ll_mR ll_mK ll_cnt L xs false 21 (.inl (lo_bin 22 (fun x y => x * y))) := lk_imul (by decide +kernel)
theorem k_51_22 (L : Nat) (xs : Nat → Int32) : ll_OK1 cX5_partSet RX5 (some .int) false ll_mN ll_mR ll_mK ll_cnt L xs false 22 (.inl (lo_iload 23 2)) := lk_iload_n (k := 2) (by decide +kernel) rfl
theorem k_51_23 (L : Nat) (xs : Nat → Int32) : ll_OK1 cX5_partSet RX5 (some .int) false ll_mN ll_mR ll_mK ll_cnt L xs false 23 (.inl (lo_bin 24 (fun x y => x + y))) := lk_iadd (by decide +kernel)
theorem k_51_24 (L : Nat) (xs : Nat → Int32) : ll_OK1 cX5_partSet RX5 (some .int) false ll_mN ll_mR ll_mK ll_cnt L xs false 24 (.inl (lo_ald 25 0)) := lk_iald (by decide +kernel)
theorem k_51_25 (L : Nat) (xs : Nat → Int32) : ll_OK1 cX5_partSet RX5 (some .int) false ll_mN ll_mR ll_mK ll_cnt L xs false 25 (.inl (lo_goto 29)) := lk_goto (off := 4) (by decide +kernel) rfl
theorem k_51_28 (L : Nat) (xs : Nat → Int32) : ll_OK1 cX5_partSet RX5 (some .int) false ll_mN ll_mR ll_mK ll_cnt L xs false 28 (.inl (lo_push 29 (.int 0))) := lk_iconst (n := 0) (by decide +kernel) (by decide)
theorem k_51_29 (L : Nat) (xs : Nat → Int32) : ll_OK1 cX5_partSet RX5 (some .int) false ll_mN ll_mR ll_mK ll_cnt L xs false 29 (.inr (.inr 1)) := ⟨(fun h => by cases h), (fun _ => ⟨(by decide +kernel), rfl⟩), fun h => by cases h⟩
theorem ok_51 (L : Nat) (xs : Nat → Int32) : ∀ q ∈ cd_51, ll_OK1 cX5_partSet RX5 (some .int) false ll_mN ll_mR ll_mK ll_cnt L xs false q.1 q.2 :=
  List.forall_mem_cons.mpr ⟨k_51_0 L xs, List.forall_mem_cons.mpr ⟨k_51_1 L xs, List.forall_mem_cons.mpr ⟨k_51_2 L xs, List.forall_mem_cons.mpr ⟨k_51_5 L xs, List.forall_mem_cons.mpr ⟨k_51_8 L xs, List.forall_mem_cons.mpr ⟨k_51_9 L xs, List.forall_mem_cons.mpr ⟨k_51_12 L xs, List.forall_mem_cons.mpr ⟨k_51_15 L xs, List.forall_mem_cons.mpr ⟨k_51_16 L xs, List.forall_mem_cons.mpr ⟨k_51_19 L xs, List.forall_mem_cons.mpr ⟨k_51_20 L xs, List.forall_mem_cons.mpr ⟨k_51_21 L xs, List.forall_mem_cons.mpr ⟨k_51_22 L xs, List.forall_mem_cons.mpr ⟨k_51_23 L xs, List.forall_mem_cons.mpr ⟨k_51_24 L xs, List.forall_mem_cons.mpr ⟨k_51_25 L xs, List.forall_mem_cons.mpr ⟨k_51_28 L xs, List.forall_mem_cons.mpr ⟨k_51_29 L xs, fun _ h => absurd h List.not_mem_nil⟩⟩⟩⟩⟩⟩⟩⟩⟩⟩⟩⟩⟩⟩⟩⟩⟩⟩
/-- InclusionProver$Side.partsOf.(II)I -/
def cd_52 : List (Nat × ll_O) := [
  (0, .inl (lo_aload 1 0)),
  (1, .inl (lo_iload 2 1)),
  (2, .inr (.inl (45, 2, 5))),
  (5, .inl (lo_if 15 8 (fun x => decide (x = 0)))),
  (8, .inl (lo_iload 9 2)),
  (9, .inr (.inl (56, 1, 12))),
  (12, .inl (lo_if 17 15 (fun x => decide (¬ x = 0)))),
  (15, .inl (lo_push 16 (.int 0))),
  (16, .inr (.inr 1)),
  (17, .inl (lo_iload 18 1)),
  (18, .inl (lo_push 19 (.int 3))),
  (19, .inl (lo_bin 20 (fun x y => x * y))),
  (20, .inl (lo_iload 21 2)),
  (21, .inl (lo_bin 22 (fun x y => x + y))),
  (22, .inl (lo_istore 23 3)),
  (23, .inl (lo_aload 24 0)),
  (24, .inl (lo_getf 27 5 4)),
  (27, .inl (lo_iload 28 3)),
  (28, .inl (lo_push 29 (.int 1))),
  (29, .inl (lo_bin 30 (fun x y => x + y))),
  (30, .inl (lo_ald 31 0)),
  (31, .inl (lo_aload 32 0)),
  (32, .inl (lo_getf 35 5 4)),
  (35, .inl (lo_iload 36 3)),
  (36, .inl (lo_ald 37 0)),
  (37, .inl (lo_bin 38 (fun x y => x - y))),
  (38, .inr (.inr 1))]
theorem k_52_0 (L : Nat) (xs : Nat → Int32) : ll_OK1 cX5_partsOf RX5 (some .int) false ll_mN ll_mR ll_mK ll_cnt L xs false 0 (.inl (lo_aload 1 0)) := lk_aload_n (k := 0) (by decide +kernel) rfl
theorem k_52_1 (L : Nat) (xs : Nat → Int32) : ll_OK1 cX5_partsOf RX5 (some .int) false ll_mN ll_mR ll_mK ll_cnt L xs false 1 (.inl (lo_iload 2 1)) := lk_iload_n (k := 1) (by decide +kernel) rfl
theorem k_52_2 (L : Nat) (xs : Nat → Int32) : ll_OK1 cX5_partsOf RX5 (some .int) false ll_mN ll_mR ll_mK ll_cnt L xs false 2 (.inr (.inl (45, 2, 5))) := ⟨rfl, by decide, by rw [mN_45, mK_45, mR_45]; exact lj_v 72 1 5 (RX5, TX5, 11) (by decide +kernel) tb_251 tb_21 tb_22 rfl rfl rfl rfl (by decide +kernel)⟩
theorem k_52_5 (L : Nat) (xs : Nat → Int32) : ll_OK1 cX5_partsOf RX5 (some .int) false ll_mN ll_mR ll_mK ll_cnt L xs false 5 (.inl (lo_if 15 8 (fun x => decide (x = 0)))) := lk_if_eq (off := 10) (by decide +kernel) rfl
theorem k_52_8 (L : Nat) (xs : Nat → Int32) : ll_OK1 cX5_partsOf RX5 (some .int) false ll_mN ll_mR ll_mK ll_cnt L xs false 8 (.inl (lo_iload 9 2)) := lk_iload_n (k := 2) (by decide +kernel) rfl
theorem k_52_9 (L : Nat) (xs : Nat → Int32) : ll_OK1 cX5_partsOf RX5 (some .int) false ll_mN ll_mR ll_mK ll_cnt L xs false 9 (.inr (.inl (56, 1, 12))) := ⟨rfl, by decide, by rw [mN_56, mK_56, mR_56]; exact lj_s 85 (by decide +kernel) tb_259 tb_260 (by decide +kernel)⟩
theorem k_52_12 (L : Nat) (xs : Nat → Int32) : ll_OK1 cX5_partsOf RX5 (some .int) false ll_mN ll_mR ll_mK ll_cnt L xs false 12 (.inl (lo_if 17 15 (fun x => decide (¬ x = 0)))) := lk_if_ne (off := 5) (by decide +kernel) rfl
theorem k_52_15 (L : Nat) (xs : Nat → Int32) : ll_OK1 cX5_partsOf RX5 (some .int) false ll_mN ll_mR ll_mK ll_cnt L xs false 15 (.inl (lo_push 16 (.int 0))) := lk_iconst (n := 0) (by decide +kernel) (by decide)
theorem k_52_16 (L : Nat) (xs : Nat → Int32) : ll_OK1 cX5_partsOf RX5 (some .int) false ll_mN ll_mR ll_mK ll_cnt L xs false 16 (.inr (.inr 1)) := ⟨(fun h => by cases h), (fun _ => ⟨(by decide +kernel), rfl⟩), fun h => by cases h⟩
theorem k_52_17 (L : Nat) (xs : Nat → Int32) : ll_OK1 cX5_partsOf RX5 (some .int) false ll_mN ll_mR ll_mK ll_cnt L xs false 17 (.inl (lo_iload 18 1)) := lk_iload_n (k := 1) (by decide +kernel) rfl
theorem k_52_18 (L : Nat) (xs : Nat → Int32) : ll_OK1 cX5_partsOf RX5 (some .int) false ll_mN ll_mR ll_mK ll_cnt L xs false 18 (.inl (lo_push 19 (.int 3))) := lk_iconst (n := 3) (by decide +kernel) (by decide)
theorem k_52_19 (L : Nat) (xs : Nat → Int32) : ll_OK1 cX5_partsOf RX5 (some .int) false ll_mN ll_mR ll_mK ll_cnt L xs false 19 (.inl (lo_bin 20 (fun x y => x * y))) := lk_imul (by decide +kernel)
theorem k_52_20 (L : Nat) (xs : Nat → Int32) : ll_OK1 cX5_partsOf RX5 (some .int) false ll_mN ll_mR ll_mK ll_cnt L xs false 20 (.inl (lo_iload 21 2)) := lk_iload_n (k := 2) (by decide +kernel) rfl
theorem k_52_21 (L : Nat) (xs : Nat → Int32) : ll_OK1 cX5_partsOf RX5 (some .int) false ll_mN ll_mR ll_mK ll_cnt L xs false 21 (.inl (lo_bin 22 (fun x y => x + y))) := lk_iadd (by decide +kernel)
theorem k_52_22 (L : Nat) (xs : Nat → Int32) : ll_OK1 cX5_partsOf RX5 (some .int) false ll_mN ll_mR ll_mK ll_cnt L xs false 22 (.inl (lo_istore 23 3)) := lk_istore_n (k := 3) (by decide +kernel) rfl
theorem k_52_23 (L : Nat) (xs : Nat → Int32) : ll_OK1 cX5_partsOf RX5 (some .int) false ll_mN ll_mR ll_mK ll_cnt L xs false 23 (.inl (lo_aload 24 0)) := lk_aload_n (k := 0) (by decide +kernel) rfl
theorem k_52_24 (L : Nat) (xs : Nat → Int32) : ll_OK1 cX5_partsOf RX5 (some .int) false ll_mN ll_mR ll_mK ll_cnt L xs false 24 (.inl (lo_getf 27 5 4)) := lk_getf (ix := 30) (ci := 5) (k := 4) (C := RX5) (T := TX5) (N := 11) (by decide +kernel) rfl in_5 (by decide) tb_237
theorem k_52_27 (L : Nat) (xs : Nat → Int32) : ll_OK1 cX5_partsOf RX5 (some .int) false ll_mN ll_mR ll_mK ll_cnt L xs false 27 (.inl (lo_iload 28 3)) := lk_iload_n (k := 3) (by decide +kernel) rfl
theorem k_52_28 (L : Nat) (xs : Nat → Int32) : ll_OK1 cX5_partsOf RX5 (some .int) false ll_mN ll_mR ll_mK ll_cnt L xs false 28 (.inl (lo_push 29 (.int 1))) := lk_iconst (n := 1) (by decide +kernel) (by decide)
theorem k_52_29 (L : Nat) (xs : Nat → Int32) : ll_OK1 cX5_partsOf RX5 (some .int) false ll_mN ll_mR ll_mK ll_cnt L xs false 29 (.inl (lo_bin 30 (fun x y => x + y))) := lk_iadd (by decide +kernel)
theorem k_52_30 (L : Nat) (xs : Nat → Int32) : ll_OK1 cX5_partsOf RX5 (some .int) false ll_mN ll_mR ll_mK ll_cnt L xs false 30 (.inl (lo_ald 31 0)) := lk_iald (by decide +kernel)
theorem k_52_31 (L : Nat) (xs : Nat → Int32) : ll_OK1 cX5_partsOf RX5 (some .int) false ll_mN ll_mR ll_mK ll_cnt L xs false 31 (.inl (lo_aload 32 0)) := lk_aload_n (k := 0) (by decide +kernel) rfl
theorem k_52_32 (L : Nat) (xs : Nat → Int32) : ll_OK1 cX5_partsOf RX5 (some .int) false ll_mN ll_mR ll_mK ll_cnt L xs false 32 (.inl (lo_getf 35 5 4)) := lk_getf (ix := 30) (ci := 5) (k := 4) (C := RX5) (T := TX5) (N := 11) (by decide +kernel) rfl in_5 (by decide) tb_237
theorem k_52_35 (L : Nat) (xs : Nat → Int32) : ll_OK1 cX5_partsOf RX5 (some .int) false ll_mN ll_mR ll_mK ll_cnt L xs false 35 (.inl (lo_iload 36 3)) := lk_iload_n (k := 3) (by decide +kernel) rfl
theorem k_52_36 (L : Nat) (xs : Nat → Int32) : ll_OK1 cX5_partsOf RX5 (some .int) false ll_mN ll_mR ll_mK ll_cnt L xs false 36 (.inl (lo_ald 37 0)) := lk_iald (by decide +kernel)
theorem k_52_37 (L : Nat) (xs : Nat → Int32) : ll_OK1 cX5_partsOf RX5 (some .int) false ll_mN ll_mR ll_mK ll_cnt L xs false 37 (.inl (lo_bin 38 (fun x y => x - y))) := lk_isub (by decide +kernel)
theorem k_52_38 (L : Nat) (xs : Nat → Int32) : ll_OK1 cX5_partsOf RX5 (some .int) false ll_mN ll_mR ll_mK ll_cnt L xs false 38 (.inr (.inr 1)) := ⟨(fun h => by cases h), (fun _ => ⟨(by decide +kernel), rfl⟩), fun h => by cases h⟩
theorem ok_52 (L : Nat) (xs : Nat → Int32) : ∀ q ∈ cd_52, ll_OK1 cX5_partsOf RX5 (some .int) false ll_mN ll_mR ll_mK ll_cnt L xs false q.1 q.2 :=
  List.forall_mem_cons.mpr ⟨k_52_0 L xs, List.forall_mem_cons.mpr ⟨k_52_1 L xs, List.forall_mem_cons.mpr ⟨k_52_2 L xs, List.forall_mem_cons.mpr ⟨k_52_5 L xs, List.forall_mem_cons.mpr ⟨k_52_8 L xs, List.forall_mem_cons.mpr ⟨k_52_9 L xs, List.forall_mem_cons.mpr ⟨k_52_12 L xs, List.forall_mem_cons.mpr ⟨k_52_15 L xs, List.forall_mem_cons.mpr ⟨k_52_16 L xs, List.forall_mem_cons.mpr ⟨k_52_17 L xs, List.forall_mem_cons.mpr ⟨k_52_18 L xs, List.forall_mem_cons.mpr ⟨k_52_19 L xs, List.forall_mem_cons.mpr ⟨k_52_20 L xs, List.forall_mem_cons.mpr ⟨k_52_21 L xs, List.forall_mem_cons.mpr ⟨k_52_22 L xs, List.forall_mem_cons.mpr ⟨k_52_23 L xs, List.forall_mem_cons.mpr ⟨k_52_24 L xs, List.forall_mem_cons.mpr ⟨k_52_27 L xs, List.forall_mem_cons.mpr ⟨k_52_28 L xs, List.forall_mem_cons.mpr ⟨k_52_29 L xs, List.forall_mem_cons.mpr ⟨k_52_30 L xs, List.forall_mem_cons.mpr ⟨k_52_31 L xs, List.forall_mem_cons.mpr ⟨k_52_32 L xs, List.forall_mem_cons.mpr ⟨k_52_35 L xs, List.forall_mem_cons.mpr ⟨k_52_36 L xs, List.forall_mem_cons.mpr ⟨k_52_37 L xs, List.forall_mem_cons.mpr ⟨k_52_38 L xs, fun _ h => absurd h List.not_mem_nil⟩⟩⟩⟩⟩⟩⟩⟩⟩⟩⟩⟩⟩⟩⟩⟩⟩⟩⟩⟩⟩⟩⟩⟩⟩⟩⟩
/-- InclusionProver$Side.partOf.(III)I -/
def cd_53 : List (Nat × ll_O) := [
  (0, .inl (lo_iload 1 3)),
  (1, .inl (lo_if 34 4 (fun x => decide (x < 0)))),
  (4, .inl (lo_iload 5 3)),
  (5, .inl (lo_aload 6 0)),
  (6, .inl (lo_iload 7 1)),
  (7, .inl (lo_iload 8 2)),
  (8, .inr (.inl (52, 3, 11))),
  (11, .inl (lo_cmp 34 14 (fun x y => decide (y ≤ x)))),
  (14, .inl (lo_aload 15 0)),
  (15, .inl (lo_getf 18 5 5)),
  (18, .inl (lo_aload 19 0)),
  (19, .inl (lo_getf 22 5 4)),
  (22, .inl (lo_iload 23 1)),
  (23, .inl (lo_push 24 (.int 3))),
  (24, .inl (lo_bin 25 (fun x y => x * y))),
  (25, .inl (lo_iload 26 2)),
  (26, .inl (lo_bin 27 (fun x y => x + y))),
  (27, .inl (lo_ald 28 0)),
  (28, .inl (lo_iload 29 3)),
  (29, .inl (lo_bin 30 (fun x y => x + y))),
  (30, .inl (lo_ald 31 0)),
  (31, .inl (lo_goto 35)),
  (34, .inl (lo_push 35 (.int (-1)))),
  (35, .inr (.inr 1))]
theorem k_53_0 (L : Nat) (xs : Nat → Int32) : ll_OK1 cX5_partOf RX5 (some .int) false ll_mN ll_mR ll_mK ll_cnt L xs false 0 (.inl (lo_iload 1 3)) := lk_iload_n (k := 3) (by decide +kernel) rfl
theorem k_53_1 (L : Nat) (xs : Nat → Int32) : ll_OK1 cX5_partOf RX5 (some .int) false ll_mN ll_mR ll_mK ll_cnt L xs false 1 (.inl (lo_if 34 4 (fun x => decide (x < 0)))) := lk_if_lt (off := 33) (by decide +kernel) rfl
theorem k_53_4 (L : Nat) (xs : Nat → Int32) : ll_OK1 cX5_partOf RX5 (some .int) false ll_mN ll_mR ll_mK ll_cnt L xs false 4 (.inl (lo_iload 5 3)) := lk_iload_n (k := 3) (by decide +kernel) rfl
theorem k_53_5 (L : Nat) (xs : Nat → Int32) : ll_OK1 cX5_partOf RX5 (some .int) false ll_mN ll_mR ll_mK ll_cnt L xs false 5 (.inl (lo_aload 6 0)) := lk_aload_n (k := 0) (by decide +kernel) rfl
theorem k_53_6 (L : Nat) (xs : Nat → Int32) : ll_OK1 cX5_partOf RX5 (some .int) false ll_mN ll_mR ll_mK ll_cnt L xs false 6 (.inl (lo_iload 7 1)) := lk_iload_n (k := 1) (by decide +kernel) rfl
theorem k_53_7 (L : Nat) (xs : Nat → Int32) : ll_OK1 cX5_partOf RX5 (some .int) false ll_mN ll_mR ll_mK ll_cnt L xs false 7 (.inl (lo_iload 8 2)) := lk_iload_n (k := 2) (by decide +kernel) rfl
theorem k_53_8 (L : Nat) (xs : Nat → Int32) : ll_OK1 cX5_partOf RX5 (some .int) false ll_mN ll_mR ll_mK ll_cnt L xs false 8 (.inr (.inl (52, 3, 11))) := ⟨rfl, by decide, by rw [mN_52, mK_52, mR_52]; exact lj_v 88 2 5 (RX5, TX5, 11) (by decide +kernel) tb_261 tb_52 tb_53 rfl rfl rfl rfl (by decide +kernel)⟩
theorem k_53_11 (L : Nat) (xs : Nat → Int32) : ll_OK1 cX5_partOf RX5 (some .int) false ll_mN ll_mR ll_mK ll_cnt L xs false 11 (.inl (lo_cmp 34 14 (fun x y => decide (y ≤ x)))) := lk_icmp_ge (off := 23) (by decide +kernel) rfl
theorem k_53_14 (L : Nat) (xs : Nat → Int32) : ll_OK1 cX5_partOf RX5 (some .int) false ll_mN ll_mR ll_mK ll_cnt L xs false 14 (.inl (lo_aload 15 0)) := lk_aload_n (k := 0) (by decide +kernel) rfl
theorem k_53_15 (L : Nat) (xs : Nat → Int32) : ll_OK1 cX5_partOf RX5 (some .int) false ll_mN ll_mR ll_mK ll_cnt L xs false 15 (.inl (lo_getf 18 5 5)) := lk_getf (ix := 33) (ci := 5) (k := 5) (C := RX5) (T := TX5) (N := 11) (by decide +kernel) rfl in_5 (by decide) tb_238
theorem k_53_18 (L : Nat) (xs : Nat → Int32) : ll_OK1 cX5_partOf RX5 (some .int) false ll_mN ll_mR ll_mK ll_cnt L xs false 18 (.inl (lo_aload 19 0)) := lk_aload_n (k := 0) (by decide +kernel) rfl
theorem k_53_19 (L : Nat) (xs : Nat → Int32) : ll_OK1 cX5_partOf RX5 (some .int) false ll_mN ll_mR ll_mK ll_cnt L xs false 19 (.inl (lo_getf 22 5 4)) := lk_getf (ix := 30) (ci := 5) (k := 4) (C := RX5) (T := TX5) (N := 11) (by decide +kernel) rfl in_5 (by decide) tb_237
theorem k_53_22 (L : Nat) (xs : Nat → Int32) : ll_OK1 cX5_partOf RX5 (some .int) false ll_mN ll_mR ll_mK ll_cnt L xs false 22 (.inl (lo_iload 23 1)) := lk_iload_n (k := 1) (by decide +kernel) rfl
theorem k_53_23 (L : Nat) (xs : Nat → Int32) : ll_OK1 cX5_partOf RX5 (some .int) false ll_mN ll_mR ll_mK ll_cnt L xs false 23 (.inl (lo_push 24 (.int 3))) := lk_iconst (n := 3) (by decide +kernel) (by decide)
theorem k_53_24 (L : Nat) (xs : Nat → Int32) : ll_OK1 cX5_partOf RX5 (some .int) false ll_mN ll_mR ll_mK ll_cnt L xs false 24 (.inl (lo_bin 25 (fun x y => x * y))) := lk_imul (by decide +kernel)
theorem k_53_25 (L : Nat) (xs : Nat → Int32) : ll_OK1 cX5_partOf RX5 (some .int) false ll_mN ll_mR ll_mK ll_cnt L xs false 25 (.inl (lo_iload 26 2)) := lk_iload_n (k := 2) (by decide +kernel) rfl
theorem k_53_26 (L : Nat) (xs : Nat → Int32) : ll_OK1 cX5_partOf RX5 (some .int) false ll_mN ll_mR ll_mK ll_cnt L xs false 26 (.inl (lo_bin 27 (fun x y => x + y))) := lk_iadd (by decide +kernel)
theorem k_53_27 (L : Nat) (xs : Nat → Int32) : ll_OK1 cX5_partOf RX5 (some .int) false ll_mN ll_mR ll_mK ll_cnt L xs false 27 (.inl (lo_ald 28 0)) := lk_iald (by decide +kernel)
theorem k_53_28 (L : Nat) (xs : Nat → Int32) : ll_OK1 cX5_partOf RX5 (some .int) false ll_mN ll_mR ll_mK ll_cnt L xs false 28 (.inl (lo_iload 29 3)) := lk_iload_n (k := 3) (by decide +kernel) rfl
theorem k_53_29 (L : Nat) (xs : Nat → Int32) : ll_OK1 cX5_partOf RX5 (some .int) false ll_mN ll_mR ll_mK ll_cnt L xs false 29 (.inl (lo_bin 30 (fun x y => x + y))) := lk_iadd (by decide +kernel)
theorem k_53_30 (L : Nat) (xs : Nat → Int32) : ll_OK1 cX5_partOf RX5 (some .int) false ll_mN ll_mR ll_mK ll_cnt L xs false 30 (.inl (lo_ald 31 0)) := lk_iald (by decide +kernel)
theorem k_53_31 (L : Nat) (xs : Nat → Int32) : ll_OK1 cX5_partOf RX5 (some .int) false ll_mN ll_mR ll_mK ll_cnt L xs false 31 (.inl (lo_goto 35)) := lk_goto (off := 4) (by decide +kernel) rfl
theorem k_53_34 (L : Nat) (xs : Nat → Int32) : ll_OK1 cX5_partOf RX5 (some .int) false ll_mN ll_mR ll_mK ll_cnt L xs false 34 (.inl (lo_push 35 (.int (-1)))) := lk_iconst (n := (-1)) (by decide +kernel) (by decide)
theorem k_53_35 (L : Nat) (xs : Nat → Int32) : ll_OK1 cX5_partOf RX5 (some .int) false ll_mN ll_mR ll_mK ll_cnt L xs false 35 (.inr (.inr 1)) := ⟨(fun h => by cases h), (fun _ => ⟨(by decide +kernel), rfl⟩), fun h => by cases h⟩
theorem ok_53 (L : Nat) (xs : Nat → Int32) : ∀ q ∈ cd_53, ll_OK1 cX5_partOf RX5 (some .int) false ll_mN ll_mR ll_mK ll_cnt L xs false q.1 q.2 :=
  List.forall_mem_cons.mpr ⟨k_53_0 L xs, List.forall_mem_cons.mpr ⟨k_53_1 L xs, List.forall_mem_cons.mpr ⟨k_53_4 L xs, List.forall_mem_cons.mpr ⟨k_53_5 L xs, List.forall_mem_cons.mpr ⟨k_53_6 L xs, List.forall_mem_cons.mpr ⟨k_53_7 L xs, List.forall_mem_cons.mpr ⟨k_53_8 L xs, List.forall_mem_cons.mpr ⟨k_53_11 L xs, List.forall_mem_cons.mpr ⟨k_53_14 L xs, List.forall_mem_cons.mpr ⟨k_53_15 L xs, List.forall_mem_cons.mpr ⟨k_53_18 L xs, List.forall_mem_cons.mpr ⟨k_53_19 L xs, List.forall_mem_cons.mpr ⟨k_53_22 L xs, List.forall_mem_cons.mpr ⟨k_53_23 L xs, List.forall_mem_cons.mpr ⟨k_53_24 L xs, List.forall_mem_cons.mpr ⟨k_53_25 L xs, List.forall_mem_cons.mpr ⟨k_53_26 L xs, List.forall_mem_cons.mpr ⟨k_53_27 L xs, List.forall_mem_cons.mpr ⟨k_53_28 L xs, List.forall_mem_cons.mpr ⟨k_53_29 L xs, List.forall_mem_cons.mpr ⟨k_53_30 L xs, List.forall_mem_cons.mpr ⟨k_53_31 L xs, List.forall_mem_cons.mpr ⟨k_53_34 L xs, List.forall_mem_cons.mpr ⟨k_53_35 L xs, fun _ h => absurd h List.not_mem_nil⟩⟩⟩⟩⟩⟩⟩⟩⟩⟩⟩⟩⟩⟩⟩⟩⟩⟩⟩⟩⟩⟩⟩⟩
/-- InclusionProver$Side.partsOfSet.(II)I -/
def cd_54 : List (Nat × ll_O) := [
  (0, .inl (lo_push 1 (.int 0))),
  (1, .inl (lo_istore 2 3)),
  (2, .inl (lo_iload 3 1)),
  (3, .inl (lo_if 13 6 (fun x => decide (x = 0)))),
  (6, .inl (lo_iload 7 2)),
  (7, .inr (.inl (56, 1, 10))),
  (10, .inl (lo_if 15 13 (fun x => decide (¬ x = 0)))),
  (13, .inl (lo_iload 14 3)),
  (14, .inr (.inr 1)),
  (15, .inl (lo_push 16 (.int 0))),
  (16, .inl (lo_istore 18 4)),
  (18, .inl (lo_iload 20 4)),
  (20, .inl (lo_aload 21 0)),
  (21, .inl (lo_getf 24 5 6)),
  (24, .inl (lo_cmp 56 27 (fun x y => decide (y ≤ x)))),
  (27, .inl (lo_iload 28 1)),
  (28, .inl (lo_iload 30 4)),
  (30, .inl (lo_bin 31 (fun x y => x >>> (y &&& 31)))),
  (31, .inl (lo_push 32 (.int 1))),
  (32, .inl (lo_bin 33 (fun x y => x &&& y))),
  (33, .inl (lo_if 50 36 (fun x => decide (x = 0)))),
  (36, .inl (lo_iload 37 3)),
  (37, .inl (lo_aload 38 0)),
  (38, .inl (lo_getf 41 5 3)),
  (41, .inl (lo_iload 43 4)),
  (43, .inl (lo_push 44 (.int 3))),
  (44, .inl (lo_bin 45 (fun x y => x * y))),
  (45, .inl (lo_iload 46 2)),
  (46, .inl (lo_bin 47 (fun x y => x + y))),
  (47, .inl (lo_ald 48 0)),
  (48, .inl (lo_bin 49 (fun x y => x ||| y))),
  (49, .inl (lo_istore 50 3)),
  (50, .inl (lo_iinc 53 4 1)),
  (53, .inl (lo_goto 18)),
  (56, .inl (lo_iload 57 3)),
  (57, .inr (.inr 1))]
theorem k_54_0 (L : Nat) (xs : Nat → Int32) : ll_OK1 cX5_partsOfSet RX5 (some .int) false ll_mN ll_mR ll_mK ll_cnt L xs false 0 (.inl (lo_push 1 (.int 0))) := lk_iconst (n := 0) (by decide +kernel) (by decide)
theorem k_54_1 (L : Nat) (xs : Nat → Int32) : ll_OK1 cX5_partsOfSet RX5 (some .int) false ll_mN ll_mR ll_mK ll_cnt L xs false 1 (.inl (lo_istore 2 3)) := lk_istore_n (k := 3) (by decide +kernel) rfl
theorem k_54_2 (L : Nat) (xs : Nat → Int32) : ll_OK1 cX5_partsOfSet RX5 (some .int) false ll_mN ll_mR ll_mK ll_cnt L xs false 2 (.inl (lo_iload 3 1)) := lk_iload_n (k := 1) (by decide +kernel) rfl
theorem k_54_3 (L : Nat) (xs : Nat → Int32) : ll_OK1 cX5_partsOfSet RX5 (some .int) false ll_mN ll_mR ll_mK ll_cnt L xs false 3 (.inl (lo_if 13 6 (fun x => decide (x = 0)))) := lk_if_eq (off := 10) (by decide +kernel) rfl
theorem k_54_6 (L : Nat) (xs : Nat → Int32) : ll_OK1 cX5_partsOfSet RX5 (some .int) false ll_mN ll_mR ll_mK ll_cnt L xs false 6 (.inl (lo_iload 7 2)) := lk_iload_n (k := 2) (by decide +kernel) rfl
theorem k_54_7 (L : Nat) (xs : Nat → Int32) : ll_OK1 cX5_partsOfSet RX5 (some .int) false ll_mN ll_mR ll_mK ll_cnt L xs false 7 (.inr (.inl (56, 1, 10))) := ⟨rfl, by decide, by rw [mN_56, mK_56, mR_56]; exact lj_s 85 (by decide +kernel) tb_259 tb_260 (by decide +kernel)⟩
theorem k_54_10 (L : Nat) (xs : Nat → Int32) : ll_OK1 cX5_partsOfSet RX5 (some .int) false ll_mN ll_mR ll_mK ll_cnt L xs false 10 (.inl (lo_if 15 13 (fun x => decide (¬ x = 0)))) := lk_if_ne (off := 5) (by decide +kernel) rfl
theorem k_54_13 (L : Nat) (xs : Nat → Int32) : ll_OK1 cX5_partsOfSet RX5 (some .int) false ll_mN ll_mR ll_mK ll_cnt L xs false 13 (.inl (lo_iload 14 3)) := lk_iload_n (k := 3) (by decide +kernel) rfl
theorem k_54_14 (L : Nat) (xs : Nat → Int32) : ll_OK1 cX5_partsOfSet RX5 (some .int) false ll_mN ll_mR ll_mK ll_cnt L xs false 14 (.inr (.inr 1)) := ⟨(fun h => by cases h), (fun _ => ⟨(by decide +kernel), rfl⟩), fun h => by cases h⟩
theorem k_54_15 (L : Nat) (xs : Nat → Int32) : ll_OK1 cX5_partsOfSet RX5 (some .int) false ll_mN ll_mR ll_mK ll_cnt L xs false 15 (.inl (lo_push 16 (.int 0))) := lk_iconst (n := 0) (by decide +kernel) (by decide)
theorem k_54_16 (L : Nat) (xs : Nat → Int32) : ll_OK1 cX5_partsOfSet RX5 (some .int) false ll_mN ll_mR ll_mK ll_cnt L xs false 16 (.inl (lo_istore 18 4)) := lk_istore (by decide +kernel)
theorem k_54_18 (L : Nat) (xs : Nat → Int32) : ll_OK1 cX5_partsOfSet RX5 (some .int) false ll_mN ll_mR ll_mK ll_cnt L xs false 18 (.inl (lo_iload 20 4)) := lk_iload (by decide +kernel)
theorem k_54_20 (L : Nat) (xs : Nat → Int32) : ll_OK1 cX5_partsOfSet RX5 (some .int) false ll_mN ll_mR ll_mK ll_cnt L xs false 20 (.inl (lo_aload 21 0)) := lk_aload_n (k := 0) (by decide +kernel) rfl
theorem k_54_21 (L : Nat) (xs : Nat → Int32) : ll_OK1 cX5_partsOfSet RX5 (some .int) false ll_mN ll_mR ll_mK ll_cnt L xs false 21 (.inl (lo_getf 24 5 6)) := lk_getf (ix := 39) (ci := 5) (k := 6) (C := RX5) (T := TX5) (N := 11) (by decide +kernel) rfl in_5 (by decide) tb_240
theorem k_54_24 (L : Nat) (xs : Nat → Int32) : ll_OK1 cX5_partsOfSet RX5 (some .int) false ll_mN ll_mR ll_mK ll_cnt L xs false 24 (.inl (lo_cmp 56 27 (fun x y => decide (y ≤ x)))) := lk_icmp_ge (off := 32) (by decide +kernel) rfl
theorem k_54_27 (L : Nat) (xs : Nat → Int32) : ll_OK1 cX5_partsOfSet RX5 (some .int) false ll_mN ll_mR ll_mK ll_cnt L xs false 27 (.inl (lo_iload 28 1)) := lk_iload_n (k := 1) (by decide +kernel) rfl
theorem k_54_28 (L : Nat) (xs : Nat → Int32) : ll_OK1 cX5_partsOfSet RX5 (some .int) false ll_mN ll_mR ll_mK ll_cnt L xs false 28 (.inl (lo_iload 30 4)) := lk_iload (by decide +kernel)
theorem k_54_30 (L : Nat) (xs : Nat → Int32) : ll_OK1 cX5_partsOfSet RX5 (some .int) false ll_mN ll_mR ll_mK ll_cnt L xs false 30 (.inl (lo_bin 31 (fun x y => x >>> (y &&& 31)))) := lk_ishr (by decide +kernel)
theorem k_54_31 (L : Nat) (xs : Nat → Int32) : ll_OK1 cX5_partsOfSet RX5 (some .int) false ll_mN ll_mR ll_mK ll_cnt L xs false 31 (.inl (lo_push 32 (.int 1))) := lk_iconst (n := 1) (by decide +kernel) (by decide)
theorem k_54_32 (L : Nat) (xs : Nat → Int32) : ll_OK1 cX5_partsOfSet RX5 (some .int) false ll_mN ll_mR ll_mK ll_cnt L xs false 32 (.inl (lo_bin 33 (fun x y => x &&& y))) := lk_iand (by decide +kernel)
theorem k_54_33 (L : Nat) (xs : Nat → Int32) : ll_OK1 cX5_partsOfSet RX5 (some .int) false ll_mN ll_mR ll_mK ll_cnt L xs false 33 (.inl (lo_if 50 36 (fun x => decide (x = 0)))) := lk_if_eq (off := 17) (by decide +kernel) rfl
theorem k_54_36 (L : Nat) (xs : Nat → Int32) : ll_OK1 cX5_partsOfSet RX5 (some .int) false ll_mN ll_mR ll_mK ll_cnt L xs false 36 (.inl (lo_iload 37 3)) := lk_iload_n (k := 3) (by decide +kernel) rfl
theorem k_54_37 (L : Nat) (xs : Nat → Int32) : ll_OK1 cX5_partsOfSet RX5 (some .int) false ll_mN ll_mR ll_mK ll_cnt L xs false 37 (.inl (lo_aload 38 0)) := lk_aload_n (k := 0) (by decide +kernel) rfl
theorem k_54_38 (L : Nat) (xs : Nat → Int32) : ll_OK1 cX5_partsOfSet RX5 (some .int) false ll_mN ll_mR ll_mK ll_cnt L xs false 38 (.inl (lo_getf 41 5 3)) := lk_getf (ix := 27) (ci := 5) (k := 3) (C := RX5) (T := TX5) (N := 11) (by decide +kernel) rfl in_5 (by decide) tb_236
theorem k_54_41 (L : Nat) (xs : Nat → Int32) : ll_OK1 cX5_partsOfSet RX5 (some .int) false ll_mN ll_mR ll_mK ll_cnt L xs false 41 (.inl (lo_iload 43 4)) := lk_iload (by decide +kernel)
theorem k_54_43 (L : Nat) (xs : Nat → Int32) : ll_OK1 cX5_partsOfSet RX5 (some .int) false ll_mN ll_mR ll_mK ll_cnt L xs false 43 (.inl (lo_push 44 (.int 3))) := lk_iconst (n := 3) (by decide +kernel) (by decide)
theorem k_54_44 (L : Nat) (xs : Nat → Int32) : ll_OK1 cX5_partsOfSet RX5 (some .int) false ll_mN ll_mR ll_mK ll_cnt L xs false 44 (.inl (lo_bin 45 (fun x y => x * y))) := lk_imul (by decide +kernel)
theorem k_54_45 (L : Nat) (xs : Nat → Int32) : ll_OK1 cX5_partsOfSet RX5 (some .int) false ll_mN ll_mR ll_mK ll_cnt L xs false 45 (.inl (lo_iload 46 2)) := lk_iload_n (k := 2) (by decide +kernel) rfl
theorem k_54_46 (L : Nat) (xs : Nat → Int32) : ll_OK1 cX5_partsOfSet RX5 (some .int) false ll_mN ll_mR ll_mK ll_cnt L xs false 46 (.inl (lo_bin 47 (fun x y => x + y))) := lk_iadd (by decide +kernel)
theorem k_54_47 (L : Nat) (xs : Nat → Int32) : ll_OK1 cX5_partsOfSet RX5 (some .int) false ll_mN ll_mR ll_mK ll_cnt L xs false 47 (.inl (lo_ald 48 0)) := lk_iald (by decide +kernel)
theorem k_54_48 (L : Nat) (xs : Nat → Int32) : ll_OK1 cX5_partsOfSet RX5 (some .int) false ll_mN ll_mR ll_mK ll_cnt L xs false 48 (.inl (lo_bin 49 (fun x y => x ||| y))) := lk_ior (by decide +kernel)
theorem k_54_49 (L : Nat) (xs : Nat → Int32) : ll_OK1 cX5_partsOfSet RX5 (some .int) false ll_mN ll_mR ll_mK ll_cnt L xs false 49 (.inl (lo_istore 50 3)) := lk_istore_n (k := 3) (by decide +kernel) rfl
theorem k_54_50 (L : Nat) (xs : Nat → Int32) : ll_OK1 cX5_partsOfSet RX5 (some .int) false ll_mN ll_mR ll_mK ll_cnt L xs false 50 (.inl (lo_iinc 53 4 1)) := lk_iinc (n := 1) (by decide +kernel) (by decide)
theorem k_54_53 (L : Nat) (xs : Nat → Int32) : ll_OK1 cX5_partsOfSet RX5 (some .int) false ll_mN ll_mR ll_mK ll_cnt L xs false 53 (.inl (lo_goto 18)) := lk_goto (off := (-35)) (by decide +kernel) rfl
theorem k_54_56 (L : Nat) (xs : Nat → Int32) : ll_OK1 cX5_partsOfSet RX5 (some .int) false ll_mN ll_mR ll_mK ll_cnt L xs false 56 (.inl (lo_iload 57 3)) := lk_iload_n (k := 3) (by decide +kernel) rfl
theorem k_54_57 (L : Nat) (xs : Nat → Int32) : ll_OK1 cX5_partsOfSet RX5 (some .int) false ll_mN ll_mR ll_mK ll_cnt L xs false 57 (.inr (.inr 1)) := ⟨(fun h => by cases h), (fun _ => ⟨(by decide +kernel), rfl⟩), fun h => by cases h⟩
theorem ok_54 (L : Nat) (xs : Nat → Int32) : ∀ q ∈ cd_54, ll_OK1 cX5_partsOfSet RX5 (some .int) false ll_mN ll_mR ll_mK ll_cnt L xs false q.1 q.2 :=
  List.forall_mem_cons.mpr ⟨k_54_0 L xs, List.forall_mem_cons.mpr ⟨k_54_1 L xs, List.forall_mem_cons.mpr ⟨k_54_2 L xs, List.forall_mem_cons.mpr ⟨k_54_3 L xs, List.forall_mem_cons.mpr ⟨k_54_6 L xs, List.forall_mem_cons.mpr ⟨k_54_7 L xs, List.forall_mem_cons.mpr ⟨k_54_10 L xs, List.forall_mem_cons.mpr ⟨k_54_13 L xs, List.forall_mem_cons.mpr ⟨k_54_14 L xs, List.forall_mem_cons.mpr ⟨k_54_15 L xs, List.forall_mem_cons.mpr ⟨k_54_16 L xs, List.forall_mem_cons.mpr ⟨k_54_18 L xs, List.forall_mem_cons.mpr ⟨k_54_20 L xs, List.forall_mem_cons.mpr ⟨k_54_21 L xs, List.forall_mem_cons.mpr ⟨k_54_24 L xs, List.forall_mem_cons.mpr ⟨k_54_27 L xs, List.forall_mem_cons.mpr ⟨k_54_28 L xs, List.forall_mem_cons.mpr ⟨k_54_30 L xs, List.forall_mem_cons.mpr ⟨k_54_31 L xs, List.forall_mem_cons.mpr ⟨k_54_32 L xs, List.forall_mem_cons.mpr ⟨k_54_33 L xs, List.forall_mem_cons.mpr ⟨k_54_36 L xs, List.forall_mem_cons.mpr ⟨k_54_37 L xs, List.forall_mem_cons.mpr ⟨k_54_38 L xs, List.forall_mem_cons.mpr ⟨k_54_41 L xs, List.forall_mem_cons.mpr ⟨k_54_43 L xs, List.forall_mem_cons.mpr ⟨k_54_44 L xs, List.forall_mem_cons.mpr ⟨k_54_45 L xs, List.forall_mem_cons.mpr ⟨k_54_46 L xs, List.forall_mem_cons.mpr ⟨k_54_47 L xs, List.forall_mem_cons.mpr ⟨k_54_48 L xs, List.forall_mem_cons.mpr ⟨k_54_49 L xs, List.forall_mem_cons.mpr ⟨k_54_50 L xs, List.forall_mem_cons.mpr ⟨k_54_53 L xs, List.forall_mem_cons.mpr ⟨k_54_56 L xs, List.forall_mem_cons.mpr ⟨k_54_57 L xs, fun _ h => absurd h List.not_mem_nil⟩⟩⟩⟩⟩⟩⟩⟩⟩⟩⟩⟩⟩⟩⟩⟩⟩⟩⟩⟩⟩⟩⟩⟩⟩⟩⟩⟩⟩⟩⟩⟩⟩⟩⟩⟩
/-- InclusionProver$Side.alikeTerm.(LInclusionProver$Side;I)I -/
def cd_55 : List (Nat × ll_O) := [
  (0, .inl (lo_aload 1 1)),
  (1, .inl (lo_iload 2 2)),
  (2, .inr (.inl (45, 2, 5))),
  (5, .inl (lo_if 10 8 (fun x => decide (¬ x = 0)))),
  (8, .inl (lo_push 9 (.int (-1)))),
  (9, .inr (.inr 1)),
  (10, .inl (lo_push 11 (.int 0))),
  (11, .inl (lo_istore 12 3)),
  (12, .inl (lo_iload 13 3)),
  (13, .inl (lo_aload 14 0)),
  (14, .inl (lo_getf 17 5 6)),
  (17, .inl (lo_cmp 38 20 (fun x y => decide (y ≤ x)))),
  (20, .inl (lo_aload 21 0)),
  (21, .inl (lo_iload 22 3)),
  (22, .inl (lo_aload 23 1)),
  (23, .inl (lo_iload 24 2)),
  (24, .inr (.inl (58, 4, 27))),
  (27, .inl (lo_if 32 30 (fun x => decide (x = 0)))),
  (30, .inl (lo_iload 31 3)),
  (31, .inr (.inr 1)),
  (32, .inl (lo_iinc 35 3 1)),
  (35, .inl (lo_goto 12)),
  (38, .inl (lo_push 39 (.int (-1)))),
  (39, .inr (.inr 1))]
theorem k_55_0 (L : Nat) (xs : Nat → Int32) : ll_OK1 cX5_alikeTerm RX5 (some .int) false ll_mN ll_mR ll_mK ll_cnt L xs false 0 (.inl (lo_aload 1 1)) := lk_aload_n (k := 1) (by decide +kernel) rfl
theorem k_55_1 (L : Nat) (xs : Nat → Int32) : ll_OK1 cX5_alikeTerm RX5 (some .int) false ll_mN ll_mR ll_mK ll_cnt L xs false 1 (.inl (lo_iload 2 2)) := lk_iload_n (k := 2) (by decide +kernel) rfl
theorem k_55_2 (L : Nat) (xs : Nat → Int32) : ll_OK1 cX5_alikeTerm RX5 (some .int) false ll_mN ll_mR ll_mK ll_cnt L xs false 2 (.inr (.inl (45, 2, 5))) := ⟨rfl, by decide, by rw [mN_45, mK_45, mR_45]; exact lj_v 72 1 5 (RX5, TX5, 11) (by decide +kernel) tb_251 tb_21 tb_22 rfl rfl rfl rfl (by decide +kernel)⟩
theorem k_55_5 (L : Nat) (xs : Nat → Int32) : ll_OK1 cX5_alikeTerm RX5 (some .int) false ll_mN ll_mR ll_mK ll_cnt L xs false 5 (.inl (lo_if 10 8 (fun x => decide (¬ x = 0)))) := lk_if_ne (off := 5) (by decide +kernel) rfl
theorem k_55_8 (L : Nat) (xs : Nat → Int32) : ll_OK1 cX5_alikeTerm RX5 (some .int) false ll_mN ll_mR ll_mK ll_cnt L xs false 8 (.inl (lo_push 9 (.int (-1)))) := lk_iconst (n := (-1)) (by decide +kernel) (by decide)
theorem k_55_9 (L : Nat) (xs : Nat → Int32) : ll_OK1 cX5_alikeTerm RX5 (some .int) false ll_mN ll_mR ll_mK ll_cnt L xs false 9 (.inr (.inr 1)) := ⟨(fun h => by cases h), (fun _ => ⟨(by decide +kernel), rfl⟩), fun h => by cases h⟩
theorem k_55_10 (L : Nat) (xs : Nat → Int32) : ll_OK1 cX5_alikeTerm RX5 (some .int) false ll_mN ll_mR ll_mK ll_cnt L xs false 10 (.inl (lo_push 11 (.int 0))) := lk_iconst (n := 0) (by decide +kernel) (by decide)
theorem k_55_11 (L : Nat) (xs : Nat → Int32) : ll_OK1 cX5_alikeTerm RX5 (some .int) false ll_mN ll_mR ll_mK ll_cnt L xs false 11 (.inl (lo_istore 12 3)) := lk_istore_n (k := 3) (by decide +kernel) rfl
theorem k_55_12 (L : Nat) (xs : Nat → Int32) : ll_OK1 cX5_alikeTerm RX5 (some .int) false ll_mN ll_mR ll_mK ll_cnt L xs false 12 (.inl (lo_iload 13 3)) := lk_iload_n (k := 3) (by decide +kernel) rfl
theorem k_55_13 (L : Nat) (xs : Nat → Int32) : ll_OK1 cX5_alikeTerm RX5 (some .int) false ll_mN ll_mR ll_mK ll_cnt L xs false 13 (.inl (lo_aload 14 0)) := lk_aload_n (k := 0) (by decide +kernel) rfl
theorem k_55_14 (L : Nat) (xs : Nat → Int32) : ll_OK1 cX5_alikeTerm RX5 (some .int) false ll_mN ll_mR ll_mK ll_cnt L xs false 14 (.inl (lo_getf 17 5 6)) := lk_getf (ix := 39) (ci := 5) (k := 6) (C := RX5) (T := TX5) (N := 11) (by decide +kernel) rfl in_5 (by decide) tb_240
theorem k_55_17 (L : Nat) (xs : Nat → Int32) : ll_OK1 cX5_alikeTerm RX5 (some .int) false ll_mN ll_mR ll_mK ll_cnt L xs false 17 (.inl (lo_cmp 38 20 (fun x y => decide (y ≤ x)))) := lk_icmp_ge (off := 21) (by decide +kernel) rfl
theorem k_55_20 (L : Nat) (xs : Nat → Int32) : ll_OK1 cX5_alikeTerm RX5 (some .int) false ll_mN ll_mR ll_mK ll_cnt L xs false 20 (.inl (lo_aload 21 0)) := lk_aload_n (k := 0) (by decide +kernel) rfl
theorem k_55_21 (L : Nat) (xs : Nat → Int32) : ll_OK1 cX5_alikeTerm RX5 (some .int) false ll_mN ll_mR ll_mK ll_cnt L xs false 21 (.inl (lo_iload 22 3)) := lk_iload_n (k := 3) (by decide +kernel) rfl
theorem k_55_22 (L : Nat) (xs : Nat → Int32) : ll_OK1 cX5_alikeTerm RX5 (some .int) false ll_mN ll_mR ll_mK ll_cnt L xs false 22 (.inl (lo_aload 23 1)) := lk_aload_n (k := 1) (by decide +kernel) rfl
theorem k_55_23 (L : Nat) (xs : Nat → Int32) : ll_OK1 cX5_alikeTerm RX5 (some .int) false ll_mN ll_mR ll_mK ll_cnt L xs false 23 (.inl (lo_iload 24 2)) := lk_iload_n (k := 2) (by decide +kernel) rfl
theorem k_55_24 (L : Nat) (xs : Nat → Int32) : ll_OK1 cX5_alikeTerm RX5 (some .int) false ll_mN ll_mR ll_mK ll_cnt L xs false 24 (.inr (.inl (58, 4, 27))) := ⟨rfl, by decide, by rw [mN_58, mK_58, mR_58]; exact lj_v 92 3 5 (RX5, TX5, 11) (by decide +kernel) tb_262 tb_263 tb_264 rfl rfl rfl rfl (by decide +kernel)⟩
theorem k_55_27 (L : Nat) (xs : Nat → Int32) : ll_OK1 cX5_alikeTerm RX5 (some .int) false ll_mN ll_mR ll_mK ll_cnt L xs false 27 (.inl (lo_if 32 30 (fun x => decide (x = 0)))) := lk_if_eq (off := 5) (by decide +kernel) rfl
theorem k_55_30 (L : Nat) (xs : Nat → Int32) : ll_OK1 cX5_alikeTerm RX5 (some .int) false ll_mN ll_mR ll_mK ll_cnt L xs false 30 (.inl (lo_iload 31 3)) := lk_iload_n (k := 3) (by decide +kernel) rfl
theorem k_55_31 (L : Nat) (xs : Nat → Int32) : ll_OK1 cX5_alikeTerm RX5 (some .int) false ll_mN ll_mR ll_mK ll_cnt L xs false 31 (.inr (.inr 1)) := ⟨(fun h => by cases h), (fun _ => ⟨(by decide +kernel), rfl⟩), fun h => by cases h⟩
theorem k_55_32 (L : Nat) (xs : Nat → Int32) : ll_OK1 cX5_alikeTerm RX5 (some .int) false ll_mN ll_mR ll_mK ll_cnt L xs false 32 (.inl (lo_iinc 35 3 1)) := lk_iinc (n := 1) (by decide +kernel) (by decide)
theorem k_55_35 (L : Nat) (xs : Nat → Int32) : ll_OK1 cX5_alikeTerm RX5 (some .int) false ll_mN ll_mR ll_mK ll_cnt L xs false 35 (.inl (lo_goto 12)) := lk_goto (off := (-23)) (by decide +kernel) rfl
theorem k_55_38 (L : Nat) (xs : Nat → Int32) : ll_OK1 cX5_alikeTerm RX5 (some .int) false ll_mN ll_mR ll_mK ll_cnt L xs false 38 (.inl (lo_push 39 (.int (-1)))) := lk_iconst (n := (-1)) (by decide +kernel) (by decide)
theorem k_55_39 (L : Nat) (xs : Nat → Int32) : ll_OK1 cX5_alikeTerm RX5 (some .int) false ll_mN ll_mR ll_mK ll_cnt L xs false 39 (.inr (.inr 1)) := ⟨(fun h => by cases h), (fun _ => ⟨(by decide +kernel), rfl⟩), fun h => by cases h⟩
theorem ok_55 (L : Nat) (xs : Nat → Int32) : ∀ q ∈ cd_55, ll_OK1 cX5_alikeTerm RX5 (some .int) false ll_mN ll_mR ll_mK ll_cnt L xs false q.1 q.2 :=
  List.forall_mem_cons.mpr ⟨k_55_0 L xs, List.forall_mem_cons.mpr ⟨k_55_1 L xs, List.forall_mem_cons.mpr ⟨k_55_2 L xs, List.forall_mem_cons.mpr ⟨k_55_5 L xs, List.forall_mem_cons.mpr ⟨k_55_8 L xs, List.forall_mem_cons.mpr ⟨k_55_9 L xs, List.forall_mem_cons.mpr ⟨k_55_10 L xs, List.forall_mem_cons.mpr ⟨k_55_11 L xs, List.forall_mem_cons.mpr ⟨k_55_12 L xs, List.forall_mem_cons.mpr ⟨k_55_13 L xs, List.forall_mem_cons.mpr ⟨k_55_14 L xs, List.forall_mem_cons.mpr ⟨k_55_17 L xs, List.forall_mem_cons.mpr ⟨k_55_20 L xs, List.forall_mem_cons.mpr ⟨k_55_21 L xs, List.forall_mem_cons.mpr ⟨k_55_22 L xs, List.forall_mem_cons.mpr ⟨k_55_23 L xs, List.forall_mem_cons.mpr ⟨k_55_24 L xs, List.forall_mem_cons.mpr ⟨k_55_27 L xs, List.forall_mem_cons.mpr ⟨k_55_30 L xs, List.forall_mem_cons.mpr ⟨k_55_31 L xs, List.forall_mem_cons.mpr ⟨k_55_32 L xs, List.forall_mem_cons.mpr ⟨k_55_35 L xs, List.forall_mem_cons.mpr ⟨k_55_38 L xs, List.forall_mem_cons.mpr ⟨k_55_39 L xs, fun _ h => absurd h List.not_mem_nil⟩⟩⟩⟩⟩⟩⟩⟩⟩⟩⟩⟩⟩⟩⟩⟩⟩⟩⟩⟩⟩⟩⟩⟩
/-- InclusionProver$Side.isLetter.(I)Z -/
def cd_56 : List (Nat × ll_O) := [
  (0, .inl (lo_iload 1 0)),
  (1, .inl (lo_if 13 4 (fun x => decide (x < 0)))),
  (4, .inl (lo_iload 5 0)),
  (5, .inl (lo_push 6 (.int 3))),
  (6, .inl (lo_cmp 13 9 (fun x y => decide (y ≤ x)))),
  (9, .inl (lo_push 10 (.int 1))),
  (10, .inl (lo_goto 14)),
  (13, .inl (lo_push 14 (.int 0))),
  (14, .inr (.inr 2))]
theorem k_56_0 (L : Nat) (xs : Nat → Int32) : ll_OK1 cX5_isLetter RX5 (some .boolean) false ll_mN ll_mR ll_mK ll_cnt L xs false 0 (.inl (lo_iload 1 0)) := lk_iload_n (k := 0) (by decide +kernel) rfl
theorem k_56_1 (L : Nat) (xs : Nat → Int32) : ll_OK1 cX5_isLetter RX5 (some .boolean) false ll_mN ll_mR ll_mK ll_cnt L xs false 1 (.inl (lo_if 13 4 (fun x => decide (x < 0)))) := lk_if_lt (off := 12) (by decide +kernel) rfl
theorem k_56_4 (L : Nat) (xs : Nat → Int32) : ll_OK1 cX5_isLetter RX5 (some .boolean) false ll_mN ll_mR ll_mK ll_cnt L xs false 4 (.inl (lo_iload 5 0)) := lk_iload_n (k := 0) (by decide +kernel) rfl
theorem k_56_5 (L : Nat) (xs : Nat → Int32) : ll_OK1 cX5_isLetter RX5 (some .boolean) false ll_mN ll_mR ll_mK ll_cnt L xs false 5 (.inl (lo_push 6 (.int 3))) := lk_iconst (n := 3) (by decide +kernel) (by decide)
theorem k_56_6 (L : Nat) (xs : Nat → Int32) : ll_OK1 cX5_isLetter RX5 (some .boolean) false ll_mN ll_mR ll_mK ll_cnt L xs false 6 (.inl (lo_cmp 13 9 (fun x y => decide (y ≤ x)))) := lk_icmp_ge (off := 7) (by decide +kernel) rfl
theorem k_56_9 (L : Nat) (xs : Nat → Int32) : ll_OK1 cX5_isLetter RX5 (some .boolean) false ll_mN ll_mR ll_mK ll_cnt L xs false 9 (.inl (lo_push 10 (.int 1))) := lk_iconst (n := 1) (by decide +kernel) (by decide)
theorem k_56_10 (L : Nat) (xs : Nat → Int32) : ll_OK1 cX5_isLetter RX5 (some .boolean) false ll_mN ll_mR ll_mK ll_cnt L xs false 10 (.inl (lo_goto 14)) := lk_goto (off := 4) (by decide +kernel) rfl
theorem k_56_13 (L : Nat) (xs : Nat → Int32) : ll_OK1 cX5_isLetter RX5 (some .boolean) false ll_mN ll_mR ll_mK ll_cnt L xs false 13 (.inl (lo_push 14 (.int 0))) := lk_iconst (n := 0) (by decide +kernel) (by decide)
theorem k_56_14 (L : Nat) (xs : Nat → Int32) : ll_OK1 cX5_isLetter RX5 (some .boolean) false ll_mN ll_mR ll_mK ll_cnt L xs false 14 (.inr (.inr 2)) := ⟨(fun h => by cases h), (fun h => by cases h), fun _ => ⟨(by decide +kernel), rfl⟩⟩
theorem ok_56 (L : Nat) (xs : Nat → Int32) : ∀ q ∈ cd_56, ll_OK1 cX5_isLetter RX5 (some .boolean) false ll_mN ll_mR ll_mK ll_cnt L xs false q.1 q.2 :=
  List.forall_mem_cons.mpr ⟨k_56_0 L xs, List.forall_mem_cons.mpr ⟨k_56_1 L xs, List.forall_mem_cons.mpr ⟨k_56_4 L xs, List.forall_mem_cons.mpr ⟨k_56_5 L xs, List.forall_mem_cons.mpr ⟨k_56_6 L xs, List.forall_mem_cons.mpr ⟨k_56_9 L xs, List.forall_mem_cons.mpr ⟨k_56_10 L xs, List.forall_mem_cons.mpr ⟨k_56_13 L xs, List.forall_mem_cons.mpr ⟨k_56_14 L xs, fun _ h => absurd h List.not_mem_nil⟩⟩⟩⟩⟩⟩⟩⟩⟩
/-- InclusionProver$Side.signsStart.(I)I -/
def cd_57 : List (Nat × ll_O) := [
  (0, .inl (lo_iload 1 1)),
  (1, .inl (lo_if 8 4 (fun x => decide (¬ x = 0)))),
  (4, .inl (lo_push 5 (.int 0))),
  (5, .inl (lo_goto 16)),
  (8, .inl (lo_aload 9 0)),
  (9, .inl (lo_getf 12 5 2)),
  (12, .inl (lo_iload 13 1)),
  (13, .inl (lo_push 14 (.int 1))),
  (14, .inl (lo_bin 15 (fun x y => x - y))),
  (15, .inl (lo_ald 16 0)),
  (16, .inr (.inr 1))]
theorem k_57_0 (L : Nat) (xs : Nat → Int32) : ll_OK1 cX5_signsStart RX5 (some .int) false ll_mN ll_mR ll_mK ll_cnt L xs false 0 (.inl (lo_iload 1 1)) := lk_iload_n (k := 1) (by decide +kernel) rfl
theorem k_57_1 (L : Nat) (xs : Nat → Int32) : ll_OK1 cX5_signsStart RX5 (some .int) false ll_mN ll_mR ll_mK ll_cnt L xs false 1 (.inl (lo_if 8 4 (fun x => decide (¬ x = 0)))) := lk_if_ne (off := 7) (by decide +kernel) rfl
theorem k_57_4 (L : Nat) (xs : Nat → Int32) : ll_OK1 cX5_signsStart RX5 (some .int) false ll_mN ll_mR ll_mK ll_cnt L xs false 4 (.inl (lo_push 5 (.int 0))) := lk_iconst (n := 0) (by decide +kernel) (by decide)
theorem k_57_5 (L : Nat) (xs : Nat → Int32) : ll_OK1 cX5_signsStart RX5 (some .int) false ll_mN ll_mR ll_mK ll_cnt L xs false 5 (.inl (lo_goto 16)) := lk_goto (off := 11) (by decide +kernel) rfl
theorem k_57_8 (L : Nat) (xs : Nat → Int32) : ll_OK1 cX5_signsStart RX5 (some .int) false ll_mN ll_mR ll_mK ll_cnt L xs false 8 (.inl (lo_aload 9 0)) := lk_aload_n (k := 0) (by decide +kernel) rfl
theorem k_57_9 (L : Nat) (xs : Nat → Int32) : ll_OK1 cX5_signsStart RX5 (some .int) false ll_mN ll_mR ll_mK ll_cnt L xs false 9 (.inl (lo_getf 12 5 2)) := lk_getf (ix := 23) (ci := 5) (k := 2) (C := RX5) (T := TX5) (N := 11) (by decide +kernel) rfl in_5 (by decide) tb_235
theorem k_57_12 (L : Nat) (xs : Nat → Int32) : ll_OK1 cX5_signsStart RX5 (some .int) false ll_mN ll_mR ll_mK ll_cnt L xs false 12 (.inl (lo_iload 13 1)) := lk_iload_n (k := 1) (by decide +kernel) rfl
theorem k_57_13 (L : Nat) (xs : Nat → Int32) : ll_OK1 cX5_signsStart RX5 (some .int) false ll_mN ll_mR ll_mK ll_cnt L xs false 13 (.inl (lo_push 14 (.int 1))) := lk_iconst (n := 1) (by decide +kernel) (by decide)
theorem k_57_14 (L : Nat) (xs : Nat → Int32) : ll_OK1 cX5_signsStart RX5 (some .int) false ll_mN ll_mR ll_mK ll_cnt L xs false 14 (.inl (lo_bin 15 (fun x y => x - y))) := lk_isub (by decide +kernel)
theorem k_57_15 (L : Nat) (xs : Nat → Int32) : ll_OK1 cX5_signsStart RX5 (some .int) false ll_mN ll_mR ll_mK ll_cnt L xs false 15 (.inl (lo_ald 16 0)) := lk_iald (by decide +kernel)
theorem k_57_16 (L : Nat) (xs : Nat → Int32) : ll_OK1 cX5_signsStart RX5 (some .int) false ll_mN ll_mR ll_mK ll_cnt L xs false 16 (.inr (.inr 1)) := ⟨(fun h => by cases h), (fun _ => ⟨(by decide +kernel), rfl⟩), fun h => by cases h⟩
theorem ok_57 (L : Nat) (xs : Nat → Int32) : ∀ q ∈ cd_57, ll_OK1 cX5_signsStart RX5 (some .int) false ll_mN ll_mR ll_mK ll_cnt L xs false q.1 q.2 :=
  List.forall_mem_cons.mpr ⟨k_57_0 L xs, List.forall_mem_cons.mpr ⟨k_57_1 L xs, List.forall_mem_cons.mpr ⟨k_57_4 L xs, List.forall_mem_cons.mpr ⟨k_57_5 L xs, List.forall_mem_cons.mpr ⟨k_57_8 L xs, List.forall_mem_cons.mpr ⟨k_57_9 L xs, List.forall_mem_cons.mpr ⟨k_57_12 L xs, List.forall_mem_cons.mpr ⟨k_57_13 L xs, List.forall_mem_cons.mpr ⟨k_57_14 L xs, List.forall_mem_cons.mpr ⟨k_57_15 L xs, List.forall_mem_cons.mpr ⟨k_57_16 L xs, fun _ h => absurd h List.not_mem_nil⟩⟩⟩⟩⟩⟩⟩⟩⟩⟩⟩
/-- InclusionProver$Side.isAlike.(ILInclusionProver$Side;I)Z -/
def cd_58 : List (Nat × ll_O) := [
  (0, .inl (lo_aload 1 0)),
  (1, .inl (lo_iload 2 1)),
  (2, .inr (.inl (49, 2, 5))),
  (5, .inl (lo_istore 7 4)),
  (7, .inl (lo_iload 9 4)),
  (9, .inl (lo_aload 10 2)),
  (10, .inl (lo_iload 11 3)),
  (11, .inr (.inl (49, 2, 14))),
  (14, .inl (lo_cmp 19 17 (fun x y => decide (x = y)))),
  (17, .inl (lo_push 18 (.int 0))),
  (18, .inr (.inr 2)),
  (19, .inl (lo_aload 20 0)),
  (20, .inl (lo_iload 21 1)),
  (21, .inr (.inl (57, 2, 24))),
  (24, .inl (lo_istore 26 5)),
  (26, .inl (lo_aload 27 2)),
  (27, .inl (lo_iload 28 3)),
  (28, .inr (.inl (57, 2, 31))),
  (31, .inl (lo_istore 33 6)),
  (33, .inl (lo_push 34 (.int 0))),
  (34, .inl (lo_istore 36 7)),
  (36, .inl (lo_iload 38 7)),
  (38, .inl (lo_iload 40 4)),
  (40, .inl (lo_cmp 78 43 (fun x y => decide (y ≤ x)))),
  (43, .inl (lo_aload 44 0)),
  (44, .inl (lo_getf 47 5 1)),
  (47, .inl (lo_iload 49 5)),
  (49, .inl (lo_iload 51 7)),
  (51, .inl (lo_bin 52 (fun x y => x + y))),
  (52, .inr (.inl (77, 2, 55))),
  (55, .inl (lo_aload 56 2)),
  (56, .inl (lo_getf 59 5 1)),
  (59, .inl (lo_iload 61 6)),
  (61, .inl (lo_iload 63 7)),
  (63, .inl (lo_bin 64 (fun x y => x + y))),
  (64, .inr (.inl (77, 2, 67))),
  (67, .inl (lo_cmp 72 70 (fun x y => decide (x = y)))),
  (70, .inl (lo_push 71 (.int 0))),
  (71, .inr (.inr 2)),
  (72, .inl (lo_iinc 75 7 1)),
  (75, .inl (lo_goto 36)),
  (78, .inl (lo_push 79 (.int 1))),
  (79, .inr (.inr 2))]
theorem k_58_0 (L : Nat) (xs : Nat → Int32) : ll_OK1 cX5_isAlike RX5 (some .boolean) false ll_mN ll_mR ll_mK ll_cnt L xs false 0 (.inl (lo_aload 1 0)) := lk_aload_n (k := 0) (by decide +kernel) rfl
theorem k_58_1 (L : Nat) (xs : Nat → Int32) : ll_OK1 cX5_isAlike RX5 (some .boolean) false ll_mN ll_mR ll_mK ll_cnt L xs false 1 (.inl (lo_iload 2 1)) := lk_iload_n (k := 1) (by decide +kernel) rfl
theorem k_58_2 (L : Nat) (xs : Nat → Int32) : ll_OK1 cX5_isAlike RX5 (some .boolean) false ll_mN ll_mR ll_mK ll_cnt L xs false 2 (.inr (.inl (49, 2, 5))) := ⟨rfl, by decide, by rw [mN_49, mK_49, mR_49]; exact lj_v 79 1 5 (RX5, TX5, 11) (by decide +kernel) tb_255 tb_256 tb_257 rfl rfl rfl rfl (by decide +kernel)⟩
theorem k_58_5 (L : Nat) (xs : Nat → Int32) : ll_OK1 cX5_isAlike RX5 (some .boolean) false ll_mN ll_mR ll_mK ll_cnt L xs false 5 (.inl (lo_istore 7 4)) := lk_istore (by decide +kernel)
theorem k_58_7 (L : Nat) (xs : Nat → Int32) : ll_OK1 cX5_isAlike RX5 (some .boolean) false ll_mN ll_mR ll_mK ll_cnt L xs false 7 (.inl (lo_iload 9 4)) := lk_iload (by decide +kernel)
theorem k_58_9 (L : Nat) (xs : Nat → Int32) : ll_OK1 cX5_isAlike RX5 (some .boolean) false ll_mN ll_mR ll_mK ll_cnt L xs false 9 (.inl (lo_aload 10 2)) := lk_aload_n (k := 2) (by decide +kernel) rfl
theorem k_58_10 (L : Nat) (xs : Nat → Int32) : ll_OK1 cX5_isAlike RX5 (some .boolean) false ll_mN ll_mR ll_mK ll_cnt L xs false 10 (.inl (lo_iload 11 3)) := lk_iload_n (k := 3) (by decide +kernel) rfl
theorem k_58_11 (L : Nat) (xs : Nat → Int32) : ll_OK1 cX5_isAlike RX5 (some .boolean) false ll_mN ll_mR ll_mK ll_cnt L xs false 11 (.inr (.inl (49, 2, 14))) := ⟨rfl, by decide, by rw [mN_49, mK_49, mR_49]; exact lj_v 79 1 5 (RX5, TX5, 11) (by decide +kernel) tb_255 tb_256 tb_257 rfl rfl rfl rfl (by decide +kernel)⟩
theorem k_58_14 (L : Nat) (xs : Nat → Int32) : ll_OK1 cX5_isAlike RX5 (some .boolean) false ll_mN ll_mR ll_mK ll_cnt L xs false 14 (.inl (lo_cmp 19 17 (fun x y => decide (x = y)))) := lk_icmp_eq (off := 5) (by decide +kernel) rfl
theorem k_58_17 (L : Nat) (xs : Nat → Int32) : ll_OK1 cX5_isAlike RX5 (some .boolean) false ll_mN ll_mR ll_mK ll_cnt L xs false 17 (.inl (lo_push 18 (.int 0))) := lk_iconst (n := 0) (by decide +kernel) (by decide)
theorem k_58_18 (L : Nat) (xs : Nat → Int32) : ll_OK1 cX5_isAlike RX5 (some .boolean) false ll_mN ll_mR ll_mK ll_cnt L xs false 18 (.inr (.inr 2)) := ⟨(fun h => by cases h), (fun h => by cases h), fun _ => ⟨(by decide +kernel), rfl⟩⟩
theorem k_58_19 (L : Nat) (xs : Nat → Int32) : ll_OK1 cX5_isAlike RX5 (some .boolean) false ll_mN ll_mR ll_mK ll_cnt L xs false 19 (.inl (lo_aload 20 0)) := lk_aload_n (k := 0) (by decide +kernel) rfl
theorem k_58_20 (L : Nat) (xs : Nat → Int32) : ll_OK1 cX5_isAlike RX5 (some .boolean) false ll_mN ll_mR ll_mK ll_cnt L xs false 20 (.inl (lo_iload 21 1)) := lk_iload_n (k := 1) (by decide +kernel) rfl
theorem k_58_21 (L : Nat) (xs : Nat → Int32) : ll_OK1 cX5_isAlike RX5 (some .boolean) false ll_mN ll_mR ll_mK ll_cnt L xs false 21 (.inr (.inl (57, 2, 24))) := ⟨rfl, by decide, by rw [mN_57, mK_57, mR_57]; exact lj_v 76 1 5 (RX5, TX5, 11) (by decide +kernel) tb_252 tb_253 tb_254 rfl rfl rfl rfl (by decide +kernel)⟩
theorem k_58_24 (L : Nat) (xs : Nat → Int32) : ll_OK1 cX5_isAlike RX5 (some .boolean) false ll_mN ll_mR ll_mK ll_cnt L xs false 24 (.inl (lo_istore 26 5)) := lk_istore (by decide +kernel)
theorem k_58_26 (L : Nat) (xs : Nat → Int32) : ll_OK1 cX5_isAlike RX5 (some .boolean) false ll_mN ll_mR ll_mK ll_cnt L xs false 26 (.inl (lo_aload 27 2)) := lk_aload_n (k := 2) (by decide +kernel) rfl
theorem k_58_27 (L : Nat) (xs : Nat → Int32) : ll_OK1 cX5_isAlike RX5 (some .boolean) false ll_mN ll_mR ll_mK ll_cnt L xs false 27 (.inl (lo_iload 28 3)) := lk_iload_n (k := 3) (by decide +kernel) rfl
theorem k_58_28 (L : Nat) (xs : Nat → Int32) : ll_OK1 cX5_isAlike RX5 (some .boolean) false ll_mN ll_mR ll_mK ll_cnt L xs false 28 (.inr (.inl (57, 2, 31))) := ⟨rfl, by decide, by rw [mN_57, mK_57, mR_57]; exact lj_v 76 1 5 (RX5, TX5, 11) (by decide +kernel) tb_252 tb_253 tb_254 rfl rfl rfl rfl (by decide +kernel)⟩
theorem k_58_31 (L : Nat) (xs : Nat → Int32) : ll_OK1 cX5_isAlike RX5 (some .boolean) false ll_mN ll_mR ll_mK ll_cnt L xs false 31 (.inl (lo_istore 33 6)) := lk_istore (by decide +kernel)
theorem k_58_33 (L : Nat) (xs : Nat → Int32) : ll_OK1 cX5_isAlike RX5 (some .boolean) false ll_mN ll_mR ll_mK ll_cnt L xs false 33 (.inl (lo_push 34 (.int 0))) := lk_iconst (n := 0) (by decide +kernel) (by decide)
theorem k_58_34 (L : Nat) (xs : Nat → Int32) : ll_OK1 cX5_isAlike RX5 (some .boolean) false ll_mN ll_mR ll_mK ll_cnt L xs false 34 (.inl (lo_istore 36 7)) := lk_istore (by decide +kernel)
theorem k_58_36 (L : Nat) (xs : Nat → Int32) : ll_OK1 cX5_isAlike RX5 (some .boolean) false ll_mN ll_mR ll_mK ll_cnt L xs false 36 (.inl (lo_iload 38 7)) := lk_iload (by decide +kernel)
theorem k_58_38 (L : Nat) (xs : Nat → Int32) : ll_OK1 cX5_isAlike RX5 (some .boolean) false ll_mN ll_mR ll_mK ll_cnt L xs false 38 (.inl (lo_iload 40 4)) := lk_iload (by decide +kernel)
theorem k_58_40 (L : Nat) (xs : Nat → Int32) : ll_OK1 cX5_isAlike RX5 (some .boolean) false ll_mN ll_mR ll_mK ll_cnt L xs false 40 (.inl (lo_cmp 78 43 (fun x y => decide (y ≤ x)))) := lk_icmp_ge (off := 38) (by decide +kernel) rfl
theorem k_58_43 (L : Nat) (xs : Nat → Int32) : ll_OK1 cX5_isAlike RX5 (some .boolean) false ll_mN ll_mR ll_mK ll_cnt L xs false 43 (.inl (lo_aload 44 0)) := lk_aload_n (k := 0) (by decide +kernel) rfl
theorem k_58_44 (L : Nat) (xs : Nat → Int32) : ll_OK1 cX5_isAlike RX5 (some .boolean) false ll_mN ll_mR ll_mK ll_cnt L xs false 44 (.inl (lo_getf 47 5 1)) := lk_getf (ix := 20) (ci := 5) (k := 1) (C := RX5) (T := TX5) (N := 11) (by decide +kernel) rfl in_5 (by decide) tb_234
theorem k_58_47 (L : Nat) (xs : Nat → Int32) : ll_OK1 cX5_isAlike RX5 (some .boolean) false ll_mN ll_mR ll_mK ll_cnt L xs false 47 (.inl (lo_iload 49 5)) := lk_iload (by decide +kernel)
theorem k_58_49 (L : Nat) (xs : Nat → Int32) : ll_OK1 cX5_isAlike RX5 (some .boolean) false ll_mN ll_mR ll_mK ll_cnt L xs false 49 (.inl (lo_iload 51 7)) := lk_iload (by decide +kernel)
theorem k_58_51 (L : Nat) (xs : Nat → Int32) : ll_OK1 cX5_isAlike RX5 (some .boolean) false ll_mN ll_mR ll_mK ll_cnt L xs false 51 (.inl (lo_bin 52 (fun x y => x + y))) := lk_iadd (by decide +kernel)
theorem k_58_52 (L : Nat) (xs : Nat → Int32) : ll_OK1 cX5_isAlike RX5 (some .boolean) false ll_mN ll_mR ll_mK ll_cnt L xs false 52 (.inr (.inl (77, 2, 55))) := ⟨rfl, by decide, by rw [mN_77, mK_77, mR_77]; exact lj_v 82 1 7 (RX7, TX7, 2) (by decide +kernel) tb_258 tb_140 tb_141 rfl rfl rfl rfl (by decide +kernel)⟩
theorem k_58_55 (L : Nat) (xs : Nat → Int32) : ll_OK1 cX5_isAlike RX5 (some .boolean) false ll_mN ll_mR ll_mK ll_cnt L xs false 55 (.inl (lo_aload 56 2)) := lk_aload_n (k := 2) (by decide +kernel) rfl
theorem k_58_56 (L : Nat) (xs : Nat → Int32) : ll_OK1 cX5_isAlike RX5 (some .boolean) false ll_mN ll_mR ll_mK ll_cnt L xs false 56 (.inl (lo_getf 59 5 1)) := lk_getf (ix := 20) (ci := 5) (k := 1) (C := RX5) (T := TX5) (N := 11) (by decide +kernel) rfl in_5 (by decide) tb_234
theorem k_58_59 (L : Nat) (xs : Nat → Int32) : ll_OK1 cX5_isAlike RX5 (some .boolean) false ll_mN ll_mR ll_mK ll_cnt L xs false 59 (.inl (lo_iload 61 6)) := lk_iload (by decide +kernel)
theorem k_58_61 (L : Nat) (xs : Nat → Int32) : ll_OK1 cX5_isAlike RX5 (some .boolean) false ll_mN ll_mR ll_mK ll_cnt L xs false 61 (.inl (lo_iload 63 7)) := lk_iload (by decide +kernel)
theorem k_58_63 (L : Nat) (xs : Nat → Int32) : ll_OK1 cX5_isAlike RX5 (some .boolean) false ll_mN ll_mR ll_mK ll_cnt L xs false 63 (.inl (lo_bin 64 (fun x y => x + y))) := lk_iadd (by decide +kernel)
theorem k_58_64 (L : Nat) (xs : Nat → Int32) : ll_OK1 cX5_isAlike RX5 (some .boolean) false ll_mN ll_mR ll_mK ll_cnt L xs false 64 (.inr (.inl (77, 2, 67))) := ⟨rfl, by decide, by rw [mN_77, mK_77, mR_77]; exact lj_v 82 1 7 (RX7, TX7, 2) (by decide +kernel) tb_258 tb_140 tb_141 rfl rfl rfl rfl (by decide +kernel)⟩
theorem k_58_67 (L : Nat) (xs : Nat → Int32) : ll_OK1 cX5_isAlike RX5 (some .boolean) false ll_mN ll_mR ll_mK ll_cnt L xs false 67 (.inl (lo_cmp 72 70 (fun x y => decide (x = y)))) := lk_icmp_eq (off := 5) (by decide +kernel) rfl
theorem k_58_70 (L : Nat) (xs : Nat → Int32) : ll_OK1 cX5_isAlike RX5 (some .boolean) false ll_mN ll_mR ll_mK ll_cnt L xs false 70 (.inl (lo_push 71 (.int 0))) := lk_iconst (n := 0) (by decide +kernel) (by decide)
theorem k_58_71 (L : Nat) (xs : Nat → Int32) : ll_OK1 cX5_isAlike RX5 (some .boolean) false ll_mN ll_mR ll_mK ll_cnt L xs false 71 (.inr (.inr 2)) := ⟨(fun h => by cases h), (fun h => by cases h), fun _ => ⟨(by decide +kernel), rfl⟩⟩
theorem k_58_72 (L : Nat) (xs : Nat → Int32) : ll_OK1 cX5_isAlike RX5 (some .boolean) false ll_mN ll_mR ll_mK ll_cnt L xs false 72 (.inl (lo_iinc 75 7 1)) := lk_iinc (n := 1) (by decide +kernel) (by decide)
theorem k_58_75 (L : Nat) (xs : Nat → Int32) : ll_OK1 cX5_isAlike RX5 (some .boolean) false ll_mN ll_mR ll_mK ll_cnt L xs false 75 (.inl (lo_goto 36)) := lk_goto (off := (-39)) (by decide +kernel) rfl
theorem k_58_78 (L : Nat) (xs : Nat → Int32) : ll_OK1 cX5_isAlike RX5 (some .boolean) false ll_mN ll_mR ll_mK ll_cnt L xs false 78 (.inl (lo_push 79 (.int 1))) := lk_iconst (n := 1) (by decide +kernel) (by decide)
theorem k_58_79 (L : Nat) (xs : Nat → Int32) : ll_OK1 cX5_isAlike RX5 (some .boolean) false ll_mN ll_mR ll_mK ll_cnt L xs false 79 (.inr (.inr 2)) := ⟨(fun h => by cases h), (fun h => by cases h), fun _ => ⟨(by decide +kernel), rfl⟩⟩
theorem ok_58 (L : Nat) (xs : Nat → Int32) : ∀ q ∈ cd_58, ll_OK1 cX5_isAlike RX5 (some .boolean) false ll_mN ll_mR ll_mK ll_cnt L xs false q.1 q.2 :=
  List.forall_mem_cons.mpr ⟨k_58_0 L xs, List.forall_mem_cons.mpr ⟨k_58_1 L xs, List.forall_mem_cons.mpr ⟨k_58_2 L xs, List.forall_mem_cons.mpr ⟨k_58_5 L xs, List.forall_mem_cons.mpr ⟨k_58_7 L xs, List.forall_mem_cons.mpr ⟨k_58_9 L xs, List.forall_mem_cons.mpr ⟨k_58_10 L xs, List.forall_mem_cons.mpr ⟨k_58_11 L xs, List.forall_mem_cons.mpr ⟨k_58_14 L xs, List.forall_mem_cons.mpr ⟨k_58_17 L xs, List.forall_mem_cons.mpr ⟨k_58_18 L xs, List.forall_mem_cons.mpr ⟨k_58_19 L xs, List.forall_mem_cons.mpr ⟨k_58_20 L xs, List.forall_mem_cons.mpr ⟨k_58_21 L xs, List.forall_mem_cons.mpr ⟨k_58_24 L xs, List.forall_mem_cons.mpr ⟨k_58_26 L xs, List.forall_mem_cons.mpr ⟨k_58_27 L xs, List.forall_mem_cons.mpr ⟨k_58_28 L xs, List.forall_mem_cons.mpr ⟨k_58_31 L xs, List.forall_mem_cons.mpr ⟨k_58_33 L xs, List.forall_mem_cons.mpr ⟨k_58_34 L xs, List.forall_mem_cons.mpr ⟨k_58_36 L xs, List.forall_mem_cons.mpr ⟨k_58_38 L xs, List.forall_mem_cons.mpr ⟨k_58_40 L xs, List.forall_mem_cons.mpr ⟨k_58_43 L xs, List.forall_mem_cons.mpr ⟨k_58_44 L xs, List.forall_mem_cons.mpr ⟨k_58_47 L xs, List.forall_mem_cons.mpr ⟨k_58_49 L xs, List.forall_mem_cons.mpr ⟨k_58_51 L xs, List.forall_mem_cons.mpr ⟨k_58_52 L xs, List.forall_mem_cons.mpr ⟨k_58_55 L xs, List.forall_mem_cons.mpr ⟨k_58_56 L xs, List.forall_mem_cons.mpr ⟨k_58_59 L xs, List.forall_mem_cons.mpr ⟨k_58_61 L xs, List.forall_mem_cons.mpr ⟨k_58_63 L xs, List.forall_mem_cons.mpr ⟨k_58_64 L xs, List.forall_mem_cons.mpr ⟨k_58_67 L xs, List.forall_mem_cons.mpr ⟨k_58_70 L xs, List.forall_mem_cons.mpr ⟨k_58_71 L xs, List.forall_mem_cons.mpr ⟨k_58_72 L xs, List.forall_mem_cons.mpr ⟨k_58_75 L xs, List.forall_mem_cons.mpr ⟨k_58_78 L xs, List.forall_mem_cons.mpr ⟨k_58_79 L xs, fun _ h => absurd h List.not_mem_nil⟩⟩⟩⟩⟩⟩⟩⟩⟩⟩⟩⟩⟩⟩⟩⟩⟩⟩⟩⟩⟩⟩⟩⟩⟩⟩⟩⟩⟩⟩⟩⟩⟩⟩⟩⟩⟩⟩⟩⟩⟩⟩⟩
/-- InclusionProver$TermFinder.<init>.(LInclusionProver$Tree;)V -/
def cd_59 : List (Nat × ll_O) := [
  (0, .inl (lo_aload 1 0)),
  (1, .inl (lo_init 4)),
  (4, .inl (lo_aload 5 0)),
  (5, .inl (lo_push 8 (.int 1984))),
  (8, .inl (lo_newa 10 0)),
  (10, .inl (lo_putf 13 6 1 2)),
  (13, .inl (lo_aload 14 0)),
  (14, .inl (lo_push 16 (.int 31))),
  (16, .inl (lo_newa 18 0)),
  (18, .inl (lo_putf 21 6 2 2)),
  (21, .inl (lo_aload 22 0)),
  (22, .inl (lo_push 25 (.int 192))),
  (25, .inl (lo_newa 27 0)),
  (27, .inl (lo_putf 30 6 3 2)),
  (30, .inl (lo_aload 31 0)),
  (31, .inl (lo_new 34 7 2 [.null, .int 0])),
  (34, .inl (lo_dup 35)),
  (35, .inl (lo_push 37 (.int 68))),
  (37, .inr (.inl (70, 2, 40))),
  (40, .inl (lo_putf 43 6 4 2)),
  (43, .inl (lo_aload 44 0)),
  (44, .inl (lo_aload 45 1)),
  (45, .inl (lo_putf 48 6 0 2)),
  (48, .inr (.inr 0))]
theorem k_59_0 (L : Nat) (xs : Nat → Int32) : ll_OK1 cX6_init RX6 none true ll_mN ll_mR ll_mK ll_cnt L xs false 0 (.inl (lo_aload 1 0)) := lk_aload_n (k := 0) (by decide +kernel) rfl
theorem k_59_1 (L : Nat) (xs : Nat → Int32) : ll_OK1 cX6_init RX6 none true ll_mN ll_mR ll_mK ll_cnt L xs false 1 (.inl (lo_init 4)) := lk_init (ix := 3) (by decide +kernel) tb_265 tb_1 tb_2
theorem k_59_4 (L : Nat) (xs : Nat → Int32) : ll_OK1 cX6_init RX6 none true ll_mN ll_mR ll_mK ll_cnt L xs false 4 (.inl (lo_aload 5 0)) := lk_aload_n (k := 0) (by decide +kernel) rfl
theorem k_59_5 (L : Nat) (xs : Nat → Int32) : ll_OK1 cX6_init RX6 none true ll_mN ll_mR ll_mK ll_cnt L xs false 5 (.inl (lo_push 8 (.int 1984))) := lk_sipush (n := 1984) (by decide +kernel) (by decide)
theorem k_59_8 (L : Nat) (xs : Nat → Int32) : ll_OK1 cX6_init RX6 none true ll_mN ll_mR ll_mK ll_cnt L xs false 8 (.inl (lo_newa 10 0)) := lk_newa_int (by decide +kernel) tb_61
theorem k_59_10 (L : Nat) (xs : Nat → Int32) : ll_OK1 cX6_init RX6 none true ll_mN ll_mR ll_mK ll_cnt L xs false 10 (.inl (lo_putf 13 6 1 2)) := lk_putf (ix := 11) (ci := 6) (k := 1) (C := RX6) (T := TX6) (N := 8) (ty0 := tyX6) (by decide +kernel) rfl in_6 tyX6_ok nmX6 (by decide) tb_266 (fun B adr v w h1 h2 => ll_fit_arr (B := B) (adr := adr) h1 h2) (Or.inr ⟨rfl, rfl, rfl⟩)
theorem k_59_13 (L : Nat) (xs : Nat → Int32) : ll_OK1 cX6_init RX6 none true ll_mN ll_mR ll_mK ll_cnt L xs false 13 (.inl (lo_aload 14 0)) := lk_aload_n (k := 0) (by decide +kernel) rfl
theorem k_59_14 (L : Nat) (xs : Nat → Int32) : ll_OK1 cX6_init RX6 none true ll_mN ll_mR ll_mK ll_cnt L xs false 14 (.inl (lo_push 16 (.int 31))) := lk_bipush (n := 31) (by decide +kernel) (by decide)
theorem k_59_16 (L : Nat) (xs : Nat → Int32) : ll_OK1 cX6_init RX6 none true ll_mN ll_mR ll_mK ll_cnt L xs false 16 (.inl (lo_newa 18 0)) := lk_newa_int (by decide +kernel) tb_61
theorem k_59_18 (L : Nat) (xs : Nat → Int32) : ll_OK1 cX6_init RX6 none true ll_mN ll_mR ll_mK ll_cnt L xs false 18 (.inl (lo_putf 21 6 2 2)) := lk_putf (ix := 15) (ci := 6) (k := 2) (C := RX6) (T := TX6) (N := 8) (ty0 := tyX6) (by decide +kernel) rfl in_6 tyX6_ok nmX6 (by decide) tb_267 (fun B adr v w h1 h2 => ll_fit_arr (B := B) (adr := adr) h1 h2) (Or.inr ⟨rfl, rfl, rfl⟩)
theorem k_59_21 (L : Nat) (xs : Nat → Int32) : ll_OK1 cX6_init RX6 none true ll_mN ll_mR ll_mK ll_cnt L xs false 21 (.inl (lo_aload 22 0)) := lk_aload_n (k := 0) (by decide +kernel) rfl
theorem k_59_22 (L : Nat) (xs : Nat → Int32) : ll_OK1 cX6_init RX6 none true ll_mN ll_mR ll_mK ll_cnt L xs false 22 (.inl (lo_push 25 (.int 192))) := lk_sipush (n := 192) (by decide +kernel) (by decide)
theorem k_59_25 (L : Nat) (xs : Nat → Int32) : ll_OK1 cX6_init RX6 none true ll_mN ll_mR ll_mK ll_cnt L xs false 25 (.inl (lo_newa 27 0)) := lk_newa_int (by decide +kernel) tb_61
theorem k_59_27 (L : Nat) (xs : Nat → Int32) : ll_OK1 cX6_init RX6 none true ll_mN ll_mR ll_mK ll_cnt L xs false 27 (.inl (lo_putf 30 6 3 2)) := lk_putf (ix := 18) (ci := 6) (k := 3) (C := RX6) (T := TX6) (N := 8) (ty0 := tyX6) (by decide +kernel) rfl in_6 tyX6_ok nmX6 (by decide) tb_268 (fun B adr v w h1 h2 => ll_fit_arr (B := B) (adr := adr) h1 h2) (Or.inr ⟨rfl, rfl, rfl⟩)
theorem k_59_30 (L : Nat) (xs : Nat → Int32) : ll_OK1 cX6_init RX6 none true ll_mN ll_mR ll_mK ll_cnt L xs false 30 (.inl (lo_aload 31 0)) := lk_aload_n (k := 0) (by decide +kernel) rfl
theorem k_59_31 (L : Nat) (xs : Nat → Int32) : ll_OK1 cX6_init RX6 none true ll_mN ll_mR ll_mK ll_cnt L xs false 31 (.inl (lo_new 34 7 2 [.null, .int 0])) := lk_new (ix := 21) (ci := 7) (N := 2) (C := RX7) (T := TX7) (ty0 := tyX7) (by decide +kernel) rfl in_7 tyX7_ok tb_269 tb_69 tb_70 rfl (by decide +kernel) (by decide +kernel)
theorem k_59_34 (L : Nat) (xs : Nat → Int32) : ll_OK1 cX6_init RX6 none true ll_mN ll_mR ll_mK ll_cnt L xs false 34 (.inl (lo_dup 35)) := lk_dup (by decide +kernel)
theorem k_59_35 (L : Nat) (xs : Nat → Int32) : ll_OK1 cX6_init RX6 none true ll_mN ll_mR ll_mK ll_cnt L xs false 35 (.inl (lo_push 37 (.int 68))) := lk_bipush (n := 68) (by decide +kernel) (by decide)
theorem k_59_37 (L : Nat) (xs : Nat → Int32) : ll_OK1 cX6_init RX6 none true ll_mN ll_mR ll_mK ll_cnt L xs false 37 (.inr (.inl (70, 2, 40))) := ⟨rfl, by decide, by rw [mN_70, mK_70, mR_70]; exact lj_i 23 1 7 (by decide +kernel) (Or.inl tb_270) tb_72 rfl rfl rfl (by decide +kernel) rfl⟩
theorem k_59_40 (L : Nat) (xs : Nat → Int32) : ll_OK1 cX6_init RX6 none true ll_mN ll_mR ll_mK ll_cnt L xs false 40 (.inl (lo_putf 43 6 4 2)) := lk_putf (ix := 26) (ci := 6) (k := 4) (C := RX6) (T := TX6) (N := 8) (ty0 := tyX6) (by decide +kernel) rfl in_6 tyX6_ok nmX6 (by decide) tb_271 (fun B adr v w h1 h2 => ll_fit_obj (B := B) (adr := adr) h1 h2) (Or.inr ⟨rfl, rfl, rfl⟩)
theorem k_59_43 (L : Nat) (xs : Nat → Int32) : ll_OK1 cX6_init RX6 none true ll_mN ll_mR ll_mK ll_cnt L xs false 43 (.inl (lo_aload 44 0)) := lk_aload_n (k := 0) (by decide +kernel) rfl
theorem k_59_44 (L : Nat) (xs : Nat → Int32) : ll_OK1 cX6_init RX6 none true ll_mN ll_mR ll_mK ll_cnt L xs false 44 (.inl (lo_aload 45 1)) := lk_aload_n (k := 1) (by decide +kernel) rfl
theorem k_59_45 (L : Nat) (xs : Nat → Int32) : ll_OK1 cX6_init RX6 none true ll_mN ll_mR ll_mK ll_cnt L xs false 45 (.inl (lo_putf 48 6 0 2)) := lk_putf (ix := 30) (ci := 6) (k := 0) (C := RX6) (T := TX6) (N := 8) (ty0 := tyX6) (by decide +kernel) rfl in_6 tyX6_ok nmX6 (by decide) tb_272 (fun B adr v w h1 h2 => ll_fit_obj (B := B) (adr := adr) h1 h2) (Or.inr ⟨rfl, rfl, rfl⟩)
theorem k_59_48 (L : Nat) (xs : Nat → Int32) : ll_OK1 cX6_init RX6 none true ll_mN ll_mR ll_mK ll_cnt L xs false 48 (.inr (.inr 0)) := ⟨fun _ => ⟨(by decide +kernel), rfl⟩, (fun h => by cases h), fun h => by cases h⟩
theorem ok_59 (L : Nat) (xs : Nat → Int32) : ∀ q ∈ cd_59, ll_OK1 cX6_init RX6 none true ll_mN ll_mR ll_mK ll_cnt L xs false q.1 q.2 :=
  List.forall_mem_cons.mpr ⟨k_59_0 L xs, List.forall_mem_cons.mpr ⟨k_59_1 L xs, List.forall_mem_cons.mpr ⟨k_59_4 L xs, List.forall_mem_cons.mpr ⟨k_59_5 L xs, List.forall_mem_cons.mpr ⟨k_59_8 L xs, List.forall_mem_cons.mpr ⟨k_59_10 L xs, List.forall_mem_cons.mpr ⟨k_59_13 L xs, List.forall_mem_cons.mpr ⟨k_59_14 L xs, List.forall_mem_cons.mpr ⟨k_59_16 L xs, List.forall_mem_cons.mpr ⟨k_59_18 L xs, List.forall_mem_cons.mpr ⟨k_59_21 L xs, List.forall_mem_cons.mpr ⟨k_59_22 L xs, List.forall_mem_cons.mpr ⟨k_59_25 L xs, List.forall_mem_cons.mpr ⟨k_59_27 L xs, List.forall_mem_cons.mpr ⟨k_59_30 L xs, List.forall_mem_cons.mpr ⟨k_59_31 L xs, List.forall_mem_cons.mpr ⟨k_59_34 L xs, List.forall_mem_cons.mpr ⟨k_59_35 L xs, List.forall_mem_cons.mpr ⟨k_59_37 L xs, List.forall_mem_cons.mpr ⟨k_59_40 L xs, List.forall_mem_cons.mpr ⟨k_59_43 L xs, List.forall_mem_cons.mpr ⟨k_59_44 L xs, List.forall_mem_cons.mpr ⟨k_59_45 L xs, List.forall_mem_cons.mpr ⟨k_59_48 L xs, fun _ h => absurd h List.not_mem_nil⟩⟩⟩⟩⟩⟩⟩⟩⟩⟩⟩⟩⟩⟩⟩⟩⟩⟩⟩⟩⟩⟩⟩⟩
/-- InclusionProver$TermFinder.speltBytes.(I)I -/
def cd_60 : List (Nat × ll_O) := [
  (0, .inl (lo_aload 1 0)),
  (1, .inl (lo_getf 4 6 4)),
  (4, .inr (.inl (71, 1, 7))),
  (7, .inl (lo_aload 8 0)),
  (8, .inl (lo_getf 11 6 0)),
  (11, .inl (lo_iload 12 1)),
  (12, .inl (lo_push 13 (.int 0))),
  (13, .inl (lo_aload 14 0)),
  (14, .inl (lo_getf 17 6 4)),
  (17, .inr (.inl (93, 4, 20))),
  (20, .inl (lo_aload 21 0)),
  (21, .inl (lo_getf 24 6 4)),
  (24, .inl (lo_getf 27 7 1)),
  (27, .inr (.inr 1))]
theorem k_60_0 (L : Nat) (xs : Nat → Int32) : ll_OK1 cX6_speltBytes RX6 (some .int) false ll_mN ll_mR ll_mK ll_cnt L xs false 0 (.inl (lo_aload 1 0)) := lk_aload_n (k := 0) (by decide +kernel) rfl
theorem k_60_1 (L : Nat) (xs : Nat → Int32) : ll_OK1 cX6_speltBytes RX6 (some .int) false ll_mN ll_mR ll_mK ll_cnt L xs false 1 (.inl (lo_getf 4 6 4)) := lk_getf (ix := 26) (ci := 6) (k := 4) (C := RX6) (T := TX6) (N := 8) (by decide +kernel) rfl in_6 (by decide) tb_271
theorem k_60_4 (L : Nat) (xs : Nat → Int32) : ll_OK1 cX6_speltBytes RX6 (some .int) false ll_mN ll_mR ll_mK ll_cnt L xs false 4 (.inr (.inl (71, 1, 7))) := ⟨rfl, by decide, by rw [mN_71, mK_71, mR_71]; exact lj_v 34 0 7 (RX7, TX7, 2) (by decide +kernel) tb_273 tb_80 tb_81 rfl rfl rfl rfl (by decide +kernel)⟩
theorem k_60_7 (L : Nat) (xs : Nat → Int32) : ll_OK1 cX6_speltBytes RX6 (some .int) false ll_mN ll_mR ll_mK ll_cnt L xs false 7 (.inl (lo_aload 8 0)) := lk_aload_n (k := 0) (by decide +kernel) rfl
theorem k_60_8 (L : Nat) (xs : Nat → Int32) : ll_OK1 cX6_speltBytes RX6 (some .int) false ll_mN ll_mR ll_mK ll_cnt L xs false 8 (.inl (lo_getf 11 6 0)) := lk_getf (ix := 30) (ci := 6) (k := 0) (C := RX6) (T := TX6) (N := 8) (by decide +kernel) rfl in_6 (by decide) tb_272
theorem k_60_11 (L : Nat) (xs : Nat → Int32) : ll_OK1 cX6_speltBytes RX6 (some .int) false ll_mN ll_mR ll_mK ll_cnt L xs false 11 (.inl (lo_iload 12 1)) := lk_iload_n (k := 1) (by decide +kernel) rfl
theorem k_60_12 (L : Nat) (xs : Nat → Int32) : ll_OK1 cX6_speltBytes RX6 (some .int) false ll_mN ll_mR ll_mK ll_cnt L xs false 12 (.inl (lo_push 13 (.int 0))) := lk_iconst (n := 0) (by decide +kernel) (by decide)
theorem k_60_13 (L : Nat) (xs : Nat → Int32) : ll_OK1 cX6_speltBytes RX6 (some .int) false ll_mN ll_mR ll_mK ll_cnt L xs false 13 (.inl (lo_aload 14 0)) := lk_aload_n (k := 0) (by decide +kernel) rfl
theorem k_60_14 (L : Nat) (xs : Nat → Int32) : ll_OK1 cX6_speltBytes RX6 (some .int) false ll_mN ll_mR ll_mK ll_cnt L xs false 14 (.inl (lo_getf 17 6 4)) := lk_getf (ix := 26) (ci := 6) (k := 4) (C := RX6) (T := TX6) (N := 8) (by decide +kernel) rfl in_6 (by decide) tb_271
theorem k_60_17 (L : Nat) (xs : Nat → Int32) : ll_OK1 cX6_speltBytes RX6 (some .int) false ll_mN ll_mR ll_mK ll_cnt L xs false 17 (.inr (.inl (93, 4, 20))) := ⟨rfl, by decide, by rw [mN_93, mK_93, mR_93]; exact lj_v 39 3 8 (RX8, TX8, 10) (by decide +kernel) tb_274 tb_275 tb_276 rfl rfl rfl rfl (by decide +kernel)⟩
theorem k_60_20 (L : Nat) (xs : Nat → Int32) : ll_OK1 cX6_speltBytes RX6 (some .int) false ll_mN ll_mR ll_mK ll_cnt L xs false 20 (.inl (lo_aload 21 0)) := lk_aload_n (k := 0) (by decide +kernel) rfl
theorem k_60_21 (L : Nat) (xs : Nat → Int32) : ll_OK1 cX6_speltBytes RX6 (some .int) false ll_mN ll_mR ll_mK ll_cnt L xs false 21 (.inl (lo_getf 24 6 4)) := lk_getf (ix := 26) (ci := 6) (k := 4) (C := RX6) (T := TX6) (N := 8) (by decide +kernel) rfl in_6 (by decide) tb_271
theorem k_60_24 (L : Nat) (xs : Nat → Int32) : ll_OK1 cX6_speltBytes RX6 (some .int) false ll_mN ll_mR ll_mK ll_cnt L xs false 24 (.inl (lo_getf 27 7 1)) := lk_getf (ix := 43) (ci := 7) (k := 1) (C := RX7) (T := TX7) (N := 2) (by decide +kernel) rfl in_7 (by decide) tb_277
theorem k_60_27 (L : Nat) (xs : Nat → Int32) : ll_OK1 cX6_speltBytes RX6 (some .int) false ll_mN ll_mR ll_mK ll_cnt L xs false 27 (.inr (.inr 1)) := ⟨(fun h => by cases h), (fun _ => ⟨(by decide +kernel), rfl⟩), fun h => by cases h⟩
theorem ok_60 (L : Nat) (xs : Nat → Int32) : ∀ q ∈ cd_60, ll_OK1 cX6_speltBytes RX6 (some .int) false ll_mN ll_mR ll_mK ll_cnt L xs false q.1 q.2 :=
  List.forall_mem_cons.mpr ⟨k_60_0 L xs, List.forall_mem_cons.mpr ⟨k_60_1 L xs, List.forall_mem_cons.mpr ⟨k_60_4 L xs, List.forall_mem_cons.mpr ⟨k_60_7 L xs, List.forall_mem_cons.mpr ⟨k_60_8 L xs, List.forall_mem_cons.mpr ⟨k_60_11 L xs, List.forall_mem_cons.mpr ⟨k_60_12 L xs, List.forall_mem_cons.mpr ⟨k_60_13 L xs, List.forall_mem_cons.mpr ⟨k_60_14 L xs, List.forall_mem_cons.mpr ⟨k_60_17 L xs, List.forall_mem_cons.mpr ⟨k_60_20 L xs, List.forall_mem_cons.mpr ⟨k_60_21 L xs, List.forall_mem_cons.mpr ⟨k_60_24 L xs, List.forall_mem_cons.mpr ⟨k_60_27 L xs, fun _ h => absurd h List.not_mem_nil⟩⟩⟩⟩⟩⟩⟩⟩⟩⟩⟩⟩⟩⟩
/-- InclusionProver$TermFinder.findTerms.(ILInclusionProver$Side;)V -/
def cd_61 : List (Nat × ll_O) := [
  (0, .inl (lo_aload 1 2)),
  (1, .inr (.inl (39, 1, 4))),
  (4, .inl (lo_aload 5 0)),
  (5, .inl (lo_getf 8 6 0)),
  (8, .inl (lo_iload 9 1)),
  (9, .inl (lo_push 10 (.int 0))),
  (10, .inl (lo_aload 11 2)),
  (11, .inl (lo_getf 14 5 0)),
  (14, .inr (.inl (93, 4, 17))),
  (17, .inl (lo_aload 18 2)),
  (18, .inl (lo_aload 19 0)),
  (19, .inl (lo_getf 22 6 0)),
  (22, .inl (lo_iload 23 1)),
  (23, .inr (.inl (84, 2, 26))),
  (26, .inl (lo_putf 29 5 7 0)),
  (29, .inl (lo_aload 30 2)),
  (30, .inl (lo_aload 31 0)),
  (31, .inl (lo_getf 34 6 0)),
  (34, .inl (lo_iload 35 1)),
  (35, .inr (.inl (85, 2, 38))),
  (38, .inl (lo_putf 41 5 8 0)),
  (41, .inl (lo_aload 42 0)),
  (42, .inl (lo_push 43 (.int 0))),
  (43, .inl (lo_putf 46 6 6 0)),
  (46, .inl (lo_aload 47 0)),
  (47, .inl (lo_push 48 (.int 0))),
  (48, .inl (lo_putf 51 6 5 0)),
  (51, .inl (lo_aload 52 0)),
  (52, .inl (lo_iload 53 1)),
  (53, .inr (.inl (66, 2, 56))),
  (56, .inl (lo_aload 57 0)),
  (57, .inr (.inl (68, 1, 60))),
  (60, .inl (lo_pop 61)),
  (61, .inl (lo_push 62 (.int 0))),
  (62, .inl (lo_istore 63 3)),
  (63, .inl (lo_iload 64 3)),
  (64, .inl (lo_push 66 (.int 31))),
  (66, .inl (lo_cmp 116 69 (fun x y => decide (y ≤ x)))),
  (69, .inl (lo_iload 70 3)),
  (70, .inl (lo_aload 71 0)),
  (71, .inl (lo_getf 74 6 6)),
  (74, .inl (lo_cmp 116 77 (fun x y => decide (y ≤ x)))),
  (77, .inl (lo_aload 78 0)),
  (78, .inl (lo_iload 79 3)),
  (79, .inl (lo_aload 80 2)),
  (80, .inr (.inl (62, 3, 83))),
  (83, .inl (lo_push 84 (.int 0))),
  (84, .inl (lo_istore 86 4)),
  (86, .inl (lo_iload 88 4)),
  (88, .inl (lo_push 89 (.int 3))),
  (89, .inl (lo_cmp 106 92 (fun x y => decide (y ≤ x)))),
  (92, .inl (lo_aload 93 0)),
  (93, .inl (lo_iload 94 3)),
  (94, .inl (lo_iload 96 4)),
  (96, .inl (lo_aload 97 2)),
  (97, .inr (.inl (63, 4, 100))),
  (100, .inl (lo_iinc 103 4 1)),
  (103, .inl (lo_goto 86)),
  (106, .inl (lo_aload 107 2)),
  (107, .inr (.inl (43, 1, 110))),
  (110, .inl (lo_iinc 113 3 1)),
  (113, .inl (lo_goto 63)),
  (116, .inr (.inr 0))]
theorem k_61_0 (L : Nat) (xs : Nat → Int32) : ll_OK1 cX6_findTerms RX6 none false ll_mN ll_mR ll_mK ll_cnt L xs false 0 (.inl (lo_aload 1 2)) := lk_aload_n (k := 2) (by decide +kernel) rfl
theorem k_61_1 (L : Nat) (xs : Nat → Int32) : ll_OK1 cX6_findTerms RX6 none false ll_mN ll_mR ll_mK ll_cnt L xs false 1 (.inr (.inl (39, 1, 4))) := ⟨rfl, by decide, by rw [mN_39, mK_39, mR_39]; exact lj_v 47 0 5 (RX5, TX5, 11) (by decide +kernel) tb_278 tb_279 tb_280 rfl rfl rfl rfl (by decide +kernel)⟩
theorem k_61_4 (L : Nat) (xs : Nat → Int32) : ll_OK1 cX6_findTerms RX6 none false ll_mN ll_mR ll_mK ll_cnt L xs false 4 (.inl (lo_aload 5 0)) := lk_aload_n (k := 0) (by decide +kernel) rfl
theorem k_61_5 (L : Nat) (xs : Nat → Int32) : ll_OK1 cX6_findTerms RX6 none false ll_mN ll_mR ll_mK ll_cnt L xs false 5 (.inl (lo_getf 8 6 0)) := lk_getf (ix := 30) (ci := 6) (k := 0) (C := RX6) (T := TX6) (N := 8) (by decide +kernel) rfl in_6 (by decide) tb_272
theorem k_61_8 (L : Nat) (xs : Nat → Int32) : ll_OK1 cX6_findTerms RX6 none false ll_mN ll_mR ll_mK ll_cnt L xs false 8 (.inl (lo_iload 9 1)) := lk_iload_n (k := 1) (by decide +kernel) rfl
theorem k_61_9 (L : Nat) (xs : Nat → Int32) : ll_OK1 cX6_findTerms RX6 none false ll_mN ll_mR ll_mK ll_cnt L xs false 9 (.inl (lo_push 10 (.int 0))) := lk_iconst (n := 0) (by decide +kernel) (by decide)
theorem k_61_10 (L : Nat) (xs : Nat → Int32) : ll_OK1 cX6_findTerms RX6 none false ll_mN ll_mR ll_mK ll_cnt L xs false 10 (.inl (lo_aload 11 2)) := lk_aload_n (k := 2) (by decide +kernel) rfl
theorem k_61_11 (L : Nat) (xs : Nat → Int32) : ll_OK1 cX6_findTerms RX6 none false ll_mN ll_mR ll_mK ll_cnt L xs false 11 (.inl (lo_getf 14 5 0)) := lk_getf (ix := 50) (ci := 5) (k := 0) (C := RX5) (T := TX5) (N := 11) (by decide +kernel) rfl in_5 (by decide) tb_281
theorem k_61_14 (L : Nat) (xs : Nat → Int32) : ll_OK1 cX6_findTerms RX6 none false ll_mN ll_mR ll_mK ll_cnt L xs false 14 (.inr (.inl (93, 4, 17))) := ⟨rfl, by decide, by rw [mN_93, mK_93, mR_93]; exact lj_v 39 3 8 (RX8, TX8, 10) (by decide +kernel) tb_274 tb_275 tb_276 rfl rfl rfl rfl (by decide +kernel)⟩
theorem k_61_17 (L : Nat) (xs : Nat → Int32) : ll_OK1 cX6_findTerms RX6 none false ll_mN ll_mR ll_mK ll_cnt L xs false 17 (.inl (lo_aload 18 2)) := lk_aload_n (k := 2) (by decide +kernel) rfl
theorem k_61_18 (L : Nat) (xs : Nat → Int32) : ll_OK1 cX6_findTerms RX6 none false ll_mN ll_mR ll_mK ll_cnt L xs false 18 (.inl (lo_aload 19 0)) := lk_aload_n (k := 0) (by decide +kernel) rfl
theorem k_61_19 (L : Nat) (xs : Nat → Int32) : ll_OK1 cX6_findTerms RX6 none false ll_mN ll_mR ll_mK ll_cnt L xs false 19 (.inl (lo_getf 22 6 0)) := lk_getf (ix := 30) (ci := 6) (k := 0) (C := RX6) (T := TX6) (N := 8) (by decide +kernel) rfl in_6 (by decide) tb_272
theorem k_61_22 (L : Nat) (xs : Nat → Int32) : ll_OK1 cX6_findTerms RX6 none false ll_mN ll_mR ll_mK ll_cnt L xs false 22 (.inl (lo_iload 23 1)) := lk_iload_n (k := 1) (by decide +kernel) rfl
theorem k_61_23 (L : Nat) (xs : Nat → Int32) : ll_OK1 cX6_findTerms RX6 none false ll_mN ll_mR ll_mK ll_cnt L xs false 23 (.inr (.inl (84, 2, 26))) := ⟨rfl, by decide, by rw [mN_84, mK_84, mR_84]; exact lj_v 53 1 8 (RX8, TX8, 10) (by decide +kernel) tb_282 tb_283 tb_284 rfl rfl rfl rfl (by decide +kernel)⟩
theorem k_61_26 (L : Nat) (xs : Nat → Int32) : ll_OK1 cX6_findTerms RX6 none false ll_mN ll_mR ll_mK ll_cnt L xs false 26 (.inl (lo_putf 29 5 7 0)) := lk_putf (ix := 57) (ci := 5) (k := 7) (C := RX5) (T := TX5) (N := 11) (ty0 := tyX5) (by decide +kernel) rfl in_5 tyX5_ok nmX5 (by decide) tb_285 (fun B adr v w h1 h2 => ll_fit_int (B := B) (adr := adr) h1 h2) (Or.inl rfl)
theorem k_61_29 (L : Nat) (xs : Nat → Int32) : ll_OK1 cX6_findTerms RX6 none false ll_mN ll_mR ll_mK ll_cnt L xs false 29 (.inl (lo_aload 30 2)) := lk_aload_n (k := 2) (by decide +kernel) rfl
theorem k_61_30 (L : Nat) (xs : Nat → Int32) : ll_OK1 cX6_findTerms RX6 none false ll_mN ll_mR ll_mK ll_cnt L xs false 30 (.inl (lo_aload 31 0)) := lk_aload_n (k := 0) (by decide +kernel) rfl
theorem k_61_31 (L : Nat) (xs : Nat → Int32) : ll_OK1 cX6_findTerms RX6 none false ll_mN ll_mR ll_mK ll_cnt L xs false 31 (.inl (lo_getf 34 6 0)) := lk_getf (ix := 30) (ci := 6) (k := 0) (C := RX6) (T := TX6) (N := 8) (by decide +kernel) rfl in_6 (by decide) tb_272
theorem k_61_34 (L : Nat) (xs : Nat → Int32) : ll_OK1 cX6_findTerms RX6 none false ll_mN ll_mR ll_mK ll_cnt L xs false 34 (.inl (lo_iload 35 1)) := lk_iload_n (k := 1) (by decide +kernel) rfl
theorem k_61_35 (L : Nat) (xs : Nat → Int32) : ll_OK1 cX6_findTerms RX6 none false ll_mN ll_mR ll_mK ll_cnt L xs false 35 (.inr (.inl (85, 2, 38))) := ⟨rfl, by decide, by rw [mN_85, mK_85, mR_85]; exact lj_v 60 1 8 (RX8, TX8, 10) (by decide +kernel) tb_286 tb_287 tb_288 rfl rfl rfl rfl (by decide +kernel)⟩
theorem k_61_38 (L : Nat) (xs : Nat → Int32) : ll_OK1 cX6_findTerms RX6 none false ll_mN ll_mR ll_mK ll_cnt L xs false 38 (.inl (lo_putf 41 5 8 0)) := lk_putf (ix := 63) (ci := 5) (k := 8) (C := RX5) (T := TX5) (N := 11) (ty0 := tyX5) (by decide +kernel) rfl in_5 tyX5_ok nmX5 (by decide) tb_289 (fun B adr v w h1 h2 => ll_fit_int (B := B) (adr := adr) h1 h2) (Or.inl rfl)
theorem k_61_41 (L : Nat) (xs : Nat → Int32) : ll_OK1 cX6_findTerms RX6 none false ll_mN ll_mR ll_mK ll_cnt L xs false 41 (.inl (lo_aload 42 0)) := lk_aload_n (k := 0) (by decide +kernel) rfl
theorem k_61_42 (L : Nat) (xs : Nat → Int32) : ll_OK1 cX6_findTerms RX6 none false ll_mN ll_mR ll_mK ll_cnt L xs false 42 (.inl (lo_push 43 (.int 0))) := lk_iconst (n := 0) (by decide +kernel) (by decide)
theorem k_61_43 (L : Nat) (xs : Nat → Int32) : ll_OK1 cX6_findTerms RX6 none false ll_mN ll_mR ll_mK ll_cnt L xs false 43 (.inl (lo_putf 46 6 6 0)) := lk_putf (ix := 66) (ci := 6) (k := 6) (C := RX6) (T := TX6) (N := 8) (ty0 := tyX6) (by decide +kernel) rfl in_6 tyX6_ok nmX6 (by decide) tb_290 (fun B adr v w h1 h2 => ll_fit_int (B := B) (adr := adr) h1 h2) (Or.inl rfl)
theorem k_61_46 (L : Nat) (xs : Nat → Int32) : ll_OK1 cX6_findTerms RX6 none false ll_mN ll_mR ll_mK ll_cnt L xs false 46 (.inl (lo_aload 47 0)) := lk_aload_n (k := 0) (by decide +kernel) rfl
theorem k_61_47 (L : Nat) (xs : Nat → Int32) : ll_OK1 cX6_findTerms RX6 none false ll_mN ll_mR ll_mK ll_cnt L xs false 47 (.inl (lo_push 48 (.int 0))) := lk_iconst (n := 0) (by decide +kernel) (by decide)
theorem k_61_48 (L : Nat) (xs : Nat → Int32) : ll_OK1 cX6_findTerms RX6 none false ll_mN ll_mR ll_mK ll_cnt L xs false 48 (.inl (lo_putf 51 6 5 0)) := lk_putf (ix := 69) (ci := 6) (k := 5) (C := RX6) (T := TX6) (N := 8) (ty0 := tyX6) (by decide +kernel) rfl in_6 tyX6_ok nmX6 (by decide) tb_291 (fun B adr v w h1 h2 => ll_fit_int (B := B) (adr := adr) h1 h2) (Or.inl rfl)
theorem k_61_51 (L : Nat) (xs : Nat → Int32) : ll_OK1 cX6_findTerms RX6 none false ll_mN ll_mR ll_mK ll_cnt L xs false 51 (.inl (lo_aload 52 0)) := lk_aload_n (k := 0) (by decide +kernel) rfl
theorem k_61_52 (L : Nat) (xs : Nat → Int32) : ll_OK1 cX6_findTerms RX6 none false ll_mN ll_mR ll_mK ll_cnt L xs false 52 (.inl (lo_iload 53 1)) := lk_iload_n (k := 1) (by decide +kernel) rfl
theorem k_61_53 (L : Nat) (xs : Nat → Int32) : ll_OK1 cX6_findTerms RX6 none false ll_mN ll_mR ll_mK ll_cnt L xs false 53 (.inr (.inl (66, 2, 56))) := ⟨rfl, by decide, by rw [mN_66, mK_66, mR_66]; exact lj_v 72 1 6 (RX6, TX6, 8) (by decide +kernel) tb_292 tb_293 tb_294 rfl rfl rfl rfl (by decide +kernel)⟩
theorem k_61_56 (L : Nat) (xs : Nat → Int32) : ll_OK1 cX6_findTerms RX6 none false ll_mN ll_mR ll_mK ll_cnt L xs false 56 (.inl (lo_aload 57 0)) := lk_aload_n (k := 0) (by decide +kernel) rfl
theorem k_61_57 (L : Nat) (xs : Nat → Int32) : ll_OK1 cX6_findTerms RX6 none false ll_mN ll_mR ll_mK ll_cnt L xs false 57 (.inr (.inl (68, 1, 60))) := ⟨rfl, by decide, by rw [mN_68, mK_68, mR_68]; exact lj_v 75 0 6 (RX6, TX6, 8) (by decide +kernel) tb_295 tb_296 tb_297 rfl rfl rfl rfl (by decide +kernel)⟩
theorem k_61_60 (L : Nat) (xs : Nat → Int32) : ll_OK1 cX6_findTerms RX6 none false ll_mN ll_mR ll_mK ll_cnt L xs false 60 (.inl (lo_pop 61)) := lk_pop (by decide +kernel)
theorem k_61_61 (L : Nat) (xs : Nat → Int32) : ll_OK1 cX6_findTerms RX6 none false ll_mN ll_mR ll_mK ll_cnt L xs false 61 (.inl (lo_push 62 (.int 0))) := lk_iconst (n := 0) (by decide +kernel) (by decide)
theorem k_61_62 (L : Nat) (xs : Nat → Int32) : ll_OK1 cX6_findTerms RX6 none false ll_mN ll_mR ll_mK ll_cnt L xs false 62 (.inl (lo_istore 63 3)) := lk_istore_n (k := 3) (by decide +kernel) rfl
theorem k_61_63 (L : Nat) (xs : Nat → Int32) : ll_OK1 cX6_findTerms RX6 none false ll_mN ll_mR ll_mK ll_cnt L xs false 63 (.inl (lo_iload 64 3)) := lk_iload_n (k := 3) (by decide +kernel) rfl
theorem k_61_64 (L : Nat) (xs : Nat → Int32) : ll_OK1 cX6_findTerms RX6 none false ll_mN ll_mR ll_mK ll_cnt L xs false 64 (.inl (lo_push 66 (.int 31))) := lk_bipush (n := 31) (by decide +kernel) (by decide)
theorem k_61_66 (L : Nat) (xs : Nat → Int32) : ll_OK1 cX6_findTerms RX6 none false ll_mN ll_mR ll_mK ll_cnt L xs false 66 (.inl (lo_cmp 116 69 (fun x y => decide (y ≤ x)))) := lk_icmp_ge (off := 50) (by decide +kernel) rfl
theorem k_61_69 (L : Nat) (xs : Nat → Int32) : ll_OK1 cX6_findTerms RX6 none false ll_mN ll_mR ll_mK ll_cnt L xs false 69 (.inl (lo_iload 70 3)) := lk_iload_n (k := 3) (by decide +kernel) rfl
theorem k_61_70 (L : Nat) (xs : Nat → Int32) : ll_OK1 cX6_findTerms RX6 none false ll_mN ll_mR ll_mK ll_cnt L xs false 70 (.inl (lo_aload 71 0)) := lk_aload_n (k := 0) (by decide +kernel) rfl
theorem k_61_71 (L : Nat) (xs : Nat → Int32) : ll_OK1 cX6_findTerms RX6 none false ll_mN ll_mR ll_mK ll_cnt L xs false 71 (.inl (lo_getf 74 6 6)) := lk_getf (ix := 66) (ci := 6) (k := 6) (C := RX6) (T := TX6) (N := 8) (by decide +kernel) rfl in_6 (by decide) tb_290
theorem k_61_74 (L : Nat) (xs : Nat → Int32) : ll_OK1 cX6_findTerms RX6 none false ll_mN ll_mR ll_mK ll_cnt L xs false 74 (.inl (lo_cmp 116 77 (fun x y => decide (y ≤ x)))) := lk_icmp_ge (off := 42) (by decide +kernel) rfl
theorem k_61_77 (L : Nat) (xs : Nat → Int32) : ll_OK1 cX6_findTerms RX6 none false ll_mN ll_mR ll_mK ll_cnt L xs false 77 (.inl (lo_aload 78 0)) := lk_aload_n (k := 0) (by decide +kernel) rfl
theorem k_61_78 (L : Nat) (xs : Nat → Int32) : ll_OK1 cX6_findTerms RX6 none false ll_mN ll_mR ll_mK ll_cnt L xs false 78 (.inl (lo_iload 79 3)) := lk_iload_n (k := 3) (by decide +kernel) rfl
theorem k_61_79 (L : Nat) (xs : Nat → Int32) : ll_OK1 cX6_findTerms RX6 none false ll_mN ll_mR ll_mK ll_cnt L xs false 79 (.inl (lo_aload 80 2)) := lk_aload_n (k := 2) (by decide +kernel) rfl
theorem k_61_80 (L : Nat) (xs : Nat → Int32) : ll_OK1 cX6_findTerms RX6 none false ll_mN ll_mR ll_mK ll_cnt L xs false 80 (.inr (.inl (62, 3, 83))) := ⟨rfl, by decide, by rw [mN_62, mK_62, mR_62]; exact lj_v 79 2 6 (RX6, TX6, 8) (by decide +kernel) tb_298 tb_299 tb_300 rfl rfl rfl rfl (by decide +kernel)⟩
theorem k_61_83 (L : Nat) (xs : Nat → Int32) : ll_OK1 cX6_findTerms RX6 none false ll_mN ll_mR ll_mK ll_cnt L xs false 83 (.inl (lo_push 84 (.int 0))) := lk_iconst (n := 0) (by decide +kernel) (by decide)
theorem k_61_84 (L : Nat) (xs : Nat → Int32) : ll_OK1 cX6_findTerms RX6 none false ll_mN ll_mR ll_mK ll_cnt L xs false 84 (.inl (lo_istore 86 4)) := lk_istore (by decide +kernel)
theorem k_61_86 (L : Nat) (xs : Nat → Int32) : ll_OK1 cX6_findTerms RX6 none false ll_mN ll_mR ll_mK ll_cnt L xs false 86 (.inl (lo_iload 88 4)) := lk_iload (by decide +kernel)
theorem k_61_88 (L : Nat) (xs : Nat → Int32) : ll_OK1 cX6_findTerms RX6 none false ll_mN ll_mR ll_mK ll_cnt L xs false 88 (.inl (lo_push 89 (.int 3))) := lk_iconst (n := 3) (by decide +kernel) (by decide)
theorem k_61_89 (L : Nat) (xs : Nat → Int32) : ll_OK1 cX6_findTerms RX6 none false ll_mN ll_mR ll_mK ll_cnt L xs false 89 (.inl (lo_cmp 106 92 (fun x y => decide (y ≤ x)))) := lk_icmp_ge (off := 17) (by decide +kernel) rfl
theorem k_61_92 (L : Nat) (xs : Nat → Int32) : ll_OK1 cX6_findTerms RX6 none false ll_mN ll_mR ll_mK ll_cnt L xs false 92 (.inl (lo_aload 93 0)) := lk_aload_n (k := 0) (by decide +kernel) rfl
theorem k_61_93 (L : Nat) (xs : Nat → Int32) : ll_OK1 cX6_findTerms RX6 none false ll_mN ll_mR ll_mK ll_cnt L xs false 93 (.inl (lo_iload 94 3)) := lk_iload_n (k := 3) (by decide +kernel) rfl
theorem k_61_94 (L : Nat) (xs : Nat → Int32) : ll_OK1 cX6_findTerms RX6 none false ll_mN ll_mR ll_mK ll_cnt L xs false 94 (.inl (lo_iload 96 4)) := lk_iload (by decide +kernel)
theorem k_61_96 (L : Nat) (xs : Nat → Int32) : ll_OK1 cX6_findTerms RX6 none false ll_mN ll_mR ll_mK ll_cnt L xs false 96 (.inl (lo_aload 97 2)) := lk_aload_n (k := 2) (by decide +kernel) rfl
theorem k_61_97 (L : Nat) (xs : Nat → Int32) : ll_OK1 cX6_findTerms RX6 none false ll_mN ll_mR ll_mK ll_cnt L xs false 97 (.inr (.inl (63, 4, 100))) := ⟨rfl, by decide, by rw [mN_63, mK_63, mR_63]; exact lj_v 83 3 6 (RX6, TX6, 8) (by decide +kernel) tb_301 tb_302 tb_303 rfl rfl rfl rfl (by decide +kernel)⟩
theorem k_61_100 (L : Nat) (xs : Nat → Int32) : ll_OK1 cX6_findTerms RX6 none false ll_mN ll_mR ll_mK ll_cnt L xs false 100 (.inl (lo_iinc 103 4 1)) := lk_iinc (n := 1) (by decide +kernel) (by decide)
theorem k_61_103 (L : Nat) (xs : Nat → Int32) : ll_OK1 cX6_findTerms RX6 none false ll_mN ll_mR ll_mK ll_cnt L xs false 103 (.inl (lo_goto 86)) := lk_goto (off := (-17)) (by decide +kernel) rfl
theorem k_61_106 (L : Nat) (xs : Nat → Int32) : ll_OK1 cX6_findTerms RX6 none false ll_mN ll_mR ll_mK ll_cnt L xs false 106 (.inl (lo_aload 107 2)) := lk_aload_n (k := 2) (by decide +kernel) rfl
theorem k_61_107 (L : Nat) (xs : Nat → Int32) : ll_OK1 cX6_findTerms RX6 none false ll_mN ll_mR ll_mK ll_cnt L xs false 107 (.inr (.inl (43, 1, 110))) := ⟨rfl, by decide, by rw [mN_43, mK_43, mR_43]; exact lj_v 87 0 5 (RX5, TX5, 11) (by decide +kernel) tb_304 tb_305 tb_306 rfl rfl rfl rfl (by decide +kernel)⟩
theorem k_61_110 (L : Nat) (xs : Nat → Int32) : ll_OK1 cX6_findTerms RX6 none false ll_mN ll_mR ll_mK ll_cnt L xs false 110 (.inl (lo_iinc 113 3 1)) := lk_iinc (n := 1) (by decide +kernel) (by decide)
theorem k_61_113 (L : Nat) (xs : Nat → Int32) : ll_OK1 cX6_findTerms RX6 none false ll_mN ll_mR ll_mK ll_cnt L xs false 113 (.inl (lo_goto 63)) := lk_goto (off := (-50)) (by decide +kernel) rfl
theorem k_61_116 (L : Nat) (xs : Nat → Int32) : ll_OK1 cX6_findTerms RX6 none false ll_mN ll_mR ll_mK ll_cnt L xs false 116 (.inr (.inr 0)) := ⟨fun _ => ⟨(by decide +kernel), rfl⟩, (fun h => by cases h), fun h => by cases h⟩
theorem ok_61 (L : Nat) (xs : Nat → Int32) : ∀ q ∈ cd_61, ll_OK1 cX6_findTerms RX6 none false ll_mN ll_mR ll_mK ll_cnt L xs false q.1 q.2 :=
  List.forall_mem_cons.mpr ⟨k_61_0 L xs, List.forall_mem_cons.mpr ⟨k_61_1 L xs, List.forall_mem_cons.mpr ⟨k_61_4 L xs, List.forall_mem_cons.mpr ⟨k_61_5 L xs, List.forall_mem_cons.mpr ⟨k_61_8 L xs, List.forall_mem_cons.mpr ⟨k_61_9 L xs, List.forall_mem_cons.mpr ⟨k_61_10 L xs, List.forall_mem_cons.mpr ⟨k_61_11 L xs, List.forall_mem_cons.mpr ⟨k_61_14 L xs, List.forall_mem_cons.mpr ⟨k_61_17 L xs, List.forall_mem_cons.mpr ⟨k_61_18 L xs, List.forall_mem_cons.mpr ⟨k_61_19 L xs, List.forall_mem_cons.mpr ⟨k_61_22 L xs, List.forall_mem_cons.mpr ⟨k_61_23 L xs, List.forall_mem_cons.mpr ⟨k_61_26 L xs, List.forall_mem_cons.mpr ⟨k_61_29 L xs, List.forall_mem_cons.mpr ⟨k_61_30 L xs, List.forall_mem_cons.mpr ⟨k_61_31 L xs, List.forall_mem_cons.mpr ⟨k_61_34 L xs, List.forall_mem_cons.mpr ⟨k_61_35 L xs, List.forall_mem_cons.mpr ⟨k_61_38 L xs, List.forall_mem_cons.mpr ⟨k_61_41 L xs, List.forall_mem_cons.mpr ⟨k_61_42 L xs, List.forall_mem_cons.mpr ⟨k_61_43 L xs, List.forall_mem_cons.mpr ⟨k_61_46 L xs, List.forall_mem_cons.mpr ⟨k_61_47 L xs, List.forall_mem_cons.mpr ⟨k_61_48 L xs, List.forall_mem_cons.mpr ⟨k_61_51 L xs, List.forall_mem_cons.mpr ⟨k_61_52 L xs, List.forall_mem_cons.mpr ⟨k_61_53 L xs, List.forall_mem_cons.mpr ⟨k_61_56 L xs, List.forall_mem_cons.mpr ⟨k_61_57 L xs, List.forall_mem_cons.mpr ⟨k_61_60 L xs, List.forall_mem_cons.mpr ⟨k_61_61 L xs, List.forall_mem_cons.mpr ⟨k_61_62 L xs, List.forall_mem_cons.mpr ⟨k_61_63 L xs, List.forall_mem_cons.mpr ⟨k_61_64 L xs, List.forall_mem_cons.mpr ⟨k_61_66 L xs, List.forall_mem_cons.mpr ⟨k_61_69 L xs, List.forall_mem_cons.mpr ⟨k_61_70 L xs, List.forall_mem_cons.mpr ⟨k_61_71 L xs, List.forall_mem_cons.mpr ⟨k_61_74 L xs, List.forall_mem_cons.mpr ⟨k_61_77 L xs, List.forall_mem_cons.mpr ⟨k_61_78 L xs, List.forall_mem_cons.mpr ⟨k_61_79 L xs, List.forall_mem_cons.mpr ⟨k_61_80 L xs, List.forall_mem_cons.mpr ⟨k_61_83 L xs, List.forall_mem_cons.mpr ⟨k_61_84 L xs, List.forall_mem_cons.mpr ⟨k_61_86 L xs, List.forall_mem_cons.mpr ⟨k_61_88 L xs, List.forall_mem_cons.mpr ⟨k_61_89 L xs, List.forall_mem_cons.mpr ⟨k_61_92 L xs, List.forall_mem_cons.mpr ⟨k_61_93 L xs, List.forall_mem_cons.mpr ⟨k_61_94 L xs, List.forall_mem_cons.mpr ⟨k_61_96 L xs, List.forall_mem_cons.mpr ⟨k_61_97 L xs, List.forall_mem_cons.mpr ⟨k_61_100 L xs, List.forall_mem_cons.mpr ⟨k_61_103 L xs, List.forall_mem_cons.mpr ⟨k_61_106 L xs, List.forall_mem_cons.mpr ⟨k_61_107 L xs, List.forall_mem_cons.mpr ⟨k_61_110 L xs, List.forall_mem_cons.mpr ⟨k_61_113 L xs, List.forall_mem_cons.mpr ⟨k_61_116 L xs, fun _ h => absurd h List.not_mem_nil⟩⟩⟩⟩⟩⟩⟩⟩⟩⟩⟩⟩⟩⟩⟩⟩⟩⟩⟩⟩⟩⟩⟩⟩⟩⟩⟩⟩⟩⟩⟩⟩⟩⟩⟩⟩⟩⟩⟩⟩⟩⟩⟩⟩⟩⟩⟩⟩⟩⟩⟩⟩⟩⟩⟩⟩⟩⟩⟩⟩⟩⟩⟩
/-- InclusionProver$TermFinder.tellTerm.(ILInclusionProver$Side;)V -/
def cd_62 : List (Nat × ll_O) := [
  (0, .inl (lo_aload 1 0)),
  (1, .inl (lo_getf 4 6 2)),
  (4, .inl (lo_iload 5 1)),
  (5, .inl (lo_ald 6 0)),
  (6, .inl (lo_istore 7 3)),
  (7, .inl (lo_push 8 (.int 1))),
  (8, .inl (lo_istore 10 4)),
  (10, .inl (lo_iload 11 3)),
  (11, .inl (lo_if 27 14 (fun x => decide (¬ x = 0)))),
  (14, .inl (lo_aload 15 0)),
  (15, .inl (lo_getf 18 6 0)),
  (18, .inl (lo_push 19 (.int 1))),
  (19, .inl (lo_push 20 (.int 0))),
  (20, .inl (lo_aload 21 2)),
  (21, .inl (lo_getf 24 5 1)),
  (24, .inr (.inl (93, 4, 27))),
  (27, .inl (lo_push 28 (.int 0))),
  (28, .inl (lo_istore 30 5)),
  (30, .inl (lo_iload 32 5)),
  (32, .inl (lo_iload 33 3)),
  (33, .inl (lo_cmp 103 36 (fun x y => decide (y ≤ x)))),
  (36, .inl (lo_aload 37 0)),
  (37, .inl (lo_getf 40 6 1)),
  (40, .inl (lo_iload 41 1)),
  (41, .inl (lo_push 43 (.int 64))),
  (43, .inl (lo_bin 44 (fun x y => x * y))),
  (44, .inl (lo_iload 46 5)),
  (46, .inl (lo_bin 47 (fun x y => x + y))),
  (47, .inl (lo_ald 48 0)),
  (48, .inl (lo_istore 50 6)),
  (50, .inl (lo_iload 52 4)),
  (52, .inl (lo_if 71 55 (fun x => decide (x = 0)))),
  (55, .inl (lo_aload 56 0)),
  (56, .inl (lo_getf 59 6 0)),
  (59, .inl (lo_iload 61 6)),
  (61, .inr (.inl (86, 2, 64))),
  (64, .inl (lo_if 71 67 (fun x => decide (x = 0)))),
  (67, .inl (lo_push 68 (.int 1))),
  (68, .inl (lo_goto 72)),
  (71, .inl (lo_push 72 (.int 0))),
  (72, .inl (lo_istore 74 4)),
  (74, .inl (lo_aload 75 0)),
  (75, .inl (lo_getf 78 6 0)),
  (78, .inl (lo_iload 80 6)),
  (80, .inl (lo_iload 81 3)),
  (81, .inl (lo_push 82 (.int 1))),
  (82, .inl (lo_cmp 89 85 (fun x y => decide (¬ x = y)))),
  (85, .inl (lo_push 86 (.int 0))),
  (86, .inl (lo_goto 90)),
  (89, .inl (lo_push 90 (.int 1))),
  (90, .inl (lo_aload 91 2)),
  (91, .inl (lo_getf 94 5 1)),
  (94, .inr (.inl (93, 4, 97))),
  (97, .inl (lo_iinc 100 5 1)),
  (100, .inl (lo_goto 30)),
  (103, .inl (lo_aload 104 2)),
  (104, .inl (lo_iload 106 4)),
  (106, .inr (.inl (40, 2, 109))),
  (109, .inr (.inr 0))]
theorem k_62_0 (L : Nat) (xs : Nat → Int32) : ll_OK1 cX6_tellTerm RX6 none false ll_mN ll_mR ll_mK ll_cnt L xs false 0 (.inl (lo_aload 1 0)) := lk_aload_n (k := 0) (by decide +kernel) rfl
theorem k_62_1 (L : Nat) (xs : Nat → Int32) : ll_OK1 cX6_tellTerm RX6 none false ll_mN ll_mR ll_mK ll_cnt L xs false 1 (.inl (lo_getf 4 6 2)) := lk_getf (ix := 15) (ci := 6) (k := 2) (C := RX6) (T := TX6) (N := 8) (by decide +kernel) rfl in_6 (by decide) tb_267
theorem k_62_4 (L : Nat) (xs : Nat → Int32) : ll_OK1 cX6_tellTerm RX6 none false ll_mN ll_mR ll_mK ll_cnt L xs false 4 (.inl (lo_iload 5 1)) := lk_iload_n (k := 1) (by decide +kernel) rfl
theorem k_62_5 (L : Nat) (xs : Nat → Int32) : ll_OK1 cX6_tellTerm RX6 none false ll_mN ll_mR ll_mK ll_cnt L xs false 5 (.inl (lo_ald 6 0)) := lk_iald (by decide +kernel)
theorem k_62_6 (L : Nat) (xs : Nat → Int32) : ll_OK1 cX6_tellTerm RX6 none false ll_mN ll_mR ll_mK ll_cnt L xs false 6 (.inl (lo_istore 7 3)) := lk_istore_n (k := 3) (by decide +kernel) rfl
theorem k_62_7 (L : Nat) (xs : Nat → Int32) : ll_OK1 cX6_tellTerm RX6 none false ll_mN ll_mR ll_mK ll_cnt L xs false 7 (.inl (lo_push 8 (.int 1))) := lk_iconst (n := 1) (by decide +kernel) (by decide)
theorem k_62_8 (L : Nat) (xs : Nat → Int32) : ll_OK1 cX6_tellTerm RX6 none false ll_mN ll_mR ll_mK ll_cnt L xs false 8 (.inl (lo_istore 10 4)) := lk_istore (by decide +kernel)
theorem k_62_10 (L : Nat) (xs : Nat → Int32) : ll_OK1 cX6_tellTerm RX6 none false ll_mN ll_mR ll_mK ll_cnt L xs false 10 (.inl (lo_iload 11 3)) := lk_iload_n (k := 3) (by decide +kernel) rfl
theorem k_62_11 (L : Nat) (xs : Nat → Int32) : ll_OK1 cX6_tellTerm RX6 none false ll_mN ll_mR ll_mK ll_cnt L xs false 11 (.inl (lo_if 27 14 (fun x => decide (¬ x = 0)))) := lk_if_ne (off := 16) (by decide +kernel) rfl
theorem k_62_14 (L : Nat) (xs : Nat → Int32) : ll_OK1 cX6_tellTerm RX6 none false ll_mN ll_mR ll_mK ll_cnt L xs false 14 (.inl (lo_aload 15 0)) := lk_aload_n (k := 0) (by decide +kernel) rfl
theorem k_62_15 (L : Nat) (xs : Nat → Int32) : ll_OK1 cX6_tellTerm RX6 none false ll_mN ll_mR ll_mK ll_cnt L xs false 15 (.inl (lo_getf 18 6 0)) := lk_getf (ix := 30) (ci := 6) (k := 0) (C := RX6) (T := TX6) (N := 8) (by decide +kernel) rfl in_6 (by decide) tb_272
theorem k_62_18 (L : Nat) (xs : Nat → Int32) : ll_OK1 cX6_tellTerm RX6 none false ll_mN ll_mR ll_mK ll_cnt L xs false 18 (.inl (lo_push 19 (.int 1))) := lk_iconst (n := 1) (by decide +kernel) (by decide)
theorem k_62_19 (L : Nat) (xs : Nat → Int32) : ll_OK1 cX6_tellTerm RX6 none false ll_mN ll_mR ll_mK ll_cnt L xs false 19 (.inl (lo_push 20 (.int 0))) := lk_iconst (n := 0) (by decide +kernel) (by decide)
theorem k_62_20 (L : Nat) (xs : Nat → Int32) : ll_OK1 cX6_tellTerm RX6 none false ll_mN ll_mR ll_mK ll_cnt L xs false 20 (.inl (lo_aload 21 2)) := lk_aload_n (k := 2) (by decide +kernel) rfl
theorem k_62_21 (L : Nat) (xs : Nat → Int32) : ll_OK1 cX6_tellTerm RX6 none false ll_mN ll_mR ll_mK ll_cnt L xs false 21 (.inl (lo_getf 24 5 1)) := lk_getf (ix := 90) (ci := 5) (k := 1) (C := RX5) (T := TX5) (N := 11) (by decide +kernel) rfl in_5 (by decide) tb_307
theorem k_62_24 (L : Nat) (xs : Nat → Int32) : ll_OK1 cX6_tellTerm RX6 none false ll_mN ll_mR ll_mK ll_cnt L xs false 24 (.inr (.inl (93, 4, 27))) := ⟨rfl, by decide, by rw [mN_93, mK_93, mR_93]; exact lj_v 39 3 8 (RX8, TX8, 10) (by decide +kernel) tb_274 tb_275 tb_276 rfl rfl rfl rfl (by decide +kernel)⟩
theorem k_62_27 (L : Nat) (xs : Nat → Int32) : ll_OK1 cX6_tellTerm RX6 none false ll_mN ll_mR ll_mK ll_cnt L xs false 27 (.inl (lo_push 28 (.int 0))) := lk_iconst (n := 0) (by decide +kernel) (by decide)
theorem k_62_28 (L : Nat) (xs : Nat → Int32) : ll_OK1 cX6_tellTerm RX6 none false ll_mN ll_mR ll_mK ll_cnt L xs false 28 (.inl (lo_istore 30 5)) := lk_istore (by decide +kernel)
theorem k_62_30 (L : Nat) (xs : Nat → Int32) : ll_OK1 cX6_tellTerm RX6 none false ll_mN ll_mR ll_mK ll_cnt L xs false 30 (.inl (lo_iload 32 5)) := lk_iload (by decide +kernel)
theorem k_62_32 (L : Nat) (xs : Nat → Int32) : ll_OK1 cX6_tellTerm RX6 none false ll_mN ll_mR ll_mK ll_cnt L xs false 32 (.inl (lo_iload 33 3)) := lk_iload_n (k := 3) (by decide +kernel) rfl
theorem k_62_33 (L : Nat) (xs : Nat → Int32) : ll_OK1 cX6_tellTerm RX6 none false ll_mN ll_mR ll_mK ll_cnt L xs false 33 (.inl (lo_cmp 103 36 (fun x y => decide (y ≤ x)))) := lk_icmp_ge (off := 70) (by decide +kernel) rfl
theorem k_62_36 (L : Nat) (xs : Nat → Int32) : ll_OK1 cX6_tellTerm RX6 none false ll_mN ll_mR ll_mK ll_cnt L xs false 36 (.inl (lo_aload 37 0)) := lk_aload_n (k := 0) (by decide +kernel) rfl
theorem k_62_37 (L : Nat) (xs : Nat → Int32) : ll_OK1 cX6_tellTerm RX6 none false ll_mN ll_mR ll_mK ll_cnt L xs false 37 (.inl (lo_getf 40 6 1)) := lk_getf (ix := 11) (ci := 6) (k := 1) (C := RX6) (T := TX6) (N := 8) (by decide +kernel) rfl in_6 (by decide) tb_266
theorem k_62_40 (L : Nat) (xs : Nat → Int32) : ll_OK1 cX6_tellTerm RX6 none false ll_mN ll_mR ll_mK ll_cnt L xs false 40 (.inl (lo_iload 41 1)) := lk_iload_n (k := 1) (by decide +kernel) rfl
theorem k_62_41 (L : Nat) (xs : Nat → Int32) : ll_OK1 cX6_tellTerm RX6 none false ll_mN ll_mR ll_mK ll_cnt L xs false 41 (.inl (lo_push 43 (.int 64))) := lk_bipush (n := 64) (by decide +kernel) (by decide)
theorem k_62_43 (L : Nat) (xs : Nat → Int32) : ll_OK1 cX6_tellTerm RX6 none false ll_mN ll_mR ll_mK ll_cnt L xs false 43 (.inl (lo_bin 44 (fun x y => x * y))) := lk_imul (by decide +kernel)
theorem k_62_44 (L : Nat) (xs : Nat → Int32) : ll_OK1 cX6_tellTerm RX6 none false ll_mN ll_mR ll_mK ll_cnt L xs false 44 (.inl (lo_iload 46 5)) := lk_iload (by decide +kernel)
theorem k_62_46 (L : Nat) (xs : Nat → Int32) : ll_OK1 cX6_tellTerm RX6 none false ll_mN ll_mR ll_mK ll_cnt L xs false 46 (.inl (lo_bin 47 (fun x y => x + y))) := lk_iadd (by decide +kernel)
theorem k_62_47 (L : Nat) (xs : Nat → Int32) : ll_OK1 cX6_tellTerm RX6 none false ll_mN ll_mR ll_mK ll_cnt L xs false 47 (.inl (lo_ald 48 0)) := lk_iald (by decide +kernel)
theorem k_62_48 (L : Nat) (xs : Nat → Int32) : ll_OK1 cX6_tellTerm RX6 none false ll_mN ll_mR ll_mK ll_cnt L xs false 48 (.inl (lo_istore 50 6)) := lk_istore (by decide +kernel)
theorem k_62_50 (L : Nat) (xs : Nat → Int32) : ll_OK1 cX6_tellTerm RX6 none false ll_mN ll_mR ll_mK ll_cnt L xs false 50 (.inl (lo_iload 52 4)) := lk_iload (by decide +kernel)
theorem k_62_52 (L : Nat) (xs : Nat → Int32) : ll_OK1 cX6_tellTerm RX6 none false ll_mN ll_mR ll_mK ll_cnt L xs false 52 (.inl (lo_if 71 55 (fun x => decide (x = 0)))) := lk_if_eq (off := 19) (by decide +kernel) rfl
theorem k_62_55 (L : Nat) (xs : Nat → Int32) : ll_OK1 cX6_tellTerm RX6 none false ll_mN ll_mR ll_mK ll_cnt L xs false 55 (.inl (lo_aload 56 0)) := lk_aload_n (k := 0) (by decide +kernel) rfl
theorem k_62_56 (L : Nat) (xs : Nat → Int32) : ll_OK1 cX6_tellTerm RX6 none false ll_mN ll_mR ll_mK ll_cnt L xs false 56 (.inl (lo_getf 59 6 0)) := lk_getf (ix := 30) (ci := 6) (k := 0) (C := RX6) (T := TX6) (N := 8) (by decide +kernel) rfl in_6 (by decide) tb_272
theorem k_62_59 (L : Nat) (xs : Nat → Int32) : ll_OK1 cX6_tellTerm RX6 none false ll_mN ll_mR ll_mK ll_cnt L xs false 59 (.inl (lo_iload 61 6)) := lk_iload (by decide +kernel)
theorem k_62_61 (L : Nat) (xs : Nat → Int32) : ll_OK1 cX6_tellTerm RX6 none false ll_mN ll_mR ll_mK ll_cnt L xs false 61 (.inr (.inl (86, 2, 64))) := ⟨rfl, by decide, by rw [mN_86, mK_86, mR_86]; exact lj_v 93 1 8 (RX8, TX8, 10) (by decide +kernel) tb_308 tb_309 tb_310 rfl rfl rfl rfl (by decide +kernel)⟩
theorem k_62_64 (L : Nat) (xs : Nat → Int32) : ll_OK1 cX6_tellTerm RX6 none false ll_mN ll_mR ll_mK ll_cnt L xs false 64 (.inl (lo_if 71 67 (fun x => decide (x = 0)))) := lk_if_eq (off := 7) (by decide +kernel) rfl
theorem k_62_67 (L : Nat) (xs : Nat → Int32) : ll_OK1 cX6_tellTerm RX6 none false ll_mN ll_mR ll_mK ll_cnt L xs false 67 (.inl (lo_push 68 (.int 1))) := lk_iconst (n := 1) (by decide +kernel) (by decide)
theorem k_62_68 (L : Nat) (xs : Nat → Int32) : ll_OK1 cX6_tellTerm RX6 none false ll_mN ll_mR ll_mK ll_cnt L xs false 68 (.inl (lo_goto 72)) := lk_goto (off := 4) (by decide +kernel) rfl
theorem k_62_71 (L : Nat) (xs : Nat → Int32) : ll_OK1 cX6_tellTerm RX6 none false ll_mN ll_mR ll_mK ll_cnt L xs false 71 (.inl (lo_push 72 (.int 0))) := lk_iconst (n := 0) (by decide +kernel) (by decide)
theorem k_62_72 (L : Nat) (xs : Nat → Int32) : ll_OK1 cX6_tellTerm RX6 none false ll_mN ll_mR ll_mK ll_cnt L xs false 72 (.inl (lo_istore 74 4)) := lk_istore (by decide +kernel)
theorem k_62_74 (L : Nat) (xs : Nat → Int32) : ll_OK1 cX6_tellTerm RX6 none false ll_mN ll_mR ll_mK ll_cnt L xs false 74 (.inl (lo_aload 75 0)) := lk_aload_n (k := 0) (by decide +kernel) rfl
theorem k_62_75 (L : Nat) (xs : Nat → Int32) : ll_OK1 cX6_tellTerm RX6 none false ll_mN ll_mR ll_mK ll_cnt L xs false 75 (.inl (lo_getf 78 6 0)) := lk_getf (ix := 30) (ci := 6) (k := 0) (C := RX6) (T := TX6) (N := 8) (by decide +kernel) rfl in_6 (by decide) tb_272
theorem k_62_78 (L : Nat) (xs : Nat → Int32) : ll_OK1 cX6_tellTerm RX6 none false ll_mN ll_mR ll_mK ll_cnt L xs false 78 (.inl (lo_iload 80 6)) := lk_iload (by decide +kernel)
theorem k_62_80 (L : Nat) (xs : Nat → Int32) : ll_OK1 cX6_tellTerm RX6 none false ll_mN ll_mR ll_mK ll_cnt L xs false 80 (.inl (lo_iload 81 3)) := lk_iload_n (k := 3) (by decide +kernel) rfl
theorem k_62_81 (L : Nat) (xs : Nat → Int32) : ll_OK1 cX6_tellTerm RX6 none false ll_mN ll_mR ll_mK ll_cnt L xs false 81 (.inl (lo_push 82 (.int 1))) := lk_iconst (n := 1) (by decide +kernel) (by decide)
theorem k_62_82 (L : Nat) (xs : Nat → Int32) : ll_OK1 cX6_tellTerm RX6 none false ll_mN ll_mR ll_mK ll_cnt L xs false 82 (.inl (lo_cmp 89 85 (fun x y => decide (¬ x = y)))) := lk_icmp_ne (off := 7) (by decide +kernel) rfl
theorem k_62_85 (L : Nat) (xs : Nat → Int32) : ll_OK1 cX6_tellTerm RX6 none false ll_mN ll_mR ll_mK ll_cnt L xs false 85 (.inl (lo_push 86 (.int 0))) := lk_iconst (n := 0) (by decide +kernel) (by decide)
theorem k_62_86 (L : Nat) (xs : Nat → Int32) : ll_OK1 cX6_tellTerm RX6 none false ll_mN ll_mR ll_mK ll_cnt L xs false 86 (.inl (lo_goto 90)) := lk_goto (off := 4) (by decide +kernel) rfl
theorem k_62_89 (L : Nat) (xs : Nat → Int32) : ll_OK1 cX6_tellTerm RX6 none false ll_mN ll_mR ll_mK ll_cnt L xs false 89 (.inl (lo_push 90 (.int 1))) := lk_iconst (n := 1) (by decide +kernel) (by decide)
theorem k_62_90 (L : Nat) (xs : Nat → Int32) : ll_OK1 cX6_tellTerm RX6 none false ll_mN ll_mR ll_mK ll_cnt L xs false 90 (.inl (lo_aload 91 2)) := lk_aload_n (k := 2) (by decide +kernel) rfl
theorem k_62_91 (L : Nat) (xs : Nat → Int32) : ll_OK1 cX6_tellTerm RX6 none false ll_mN ll_mR ll_mK ll_cnt L xs false 91 (.inl (lo_getf 94 5 1)) := lk_getf (ix := 90) (ci := 5) (k := 1) (C := RX5) (T := TX5) (N := 11) (by decide +kernel) rfl in_5 (by decide) tb_307
theorem k_62_94 (L : Nat) (xs : Nat → Int32) : ll_OK1 cX6_tellTerm RX6 none false ll_mN ll_mR ll_mK ll_cnt L xs false 94 (.inr (.inl (93, 4, 97))) := ⟨rfl, by decide, by rw [mN_93, mK_93, mR_93]; exact lj_v 39 3 8 (RX8, TX8, 10) (by decide +kernel) tb_274 tb_275 tb_276 rfl rfl rfl rfl (by decide +kernel)⟩
theorem k_62_97 (L : Nat) (xs : Nat → Int32) : ll_OK1 cX6_tellTerm RX6 none false ll_mN ll_mR ll_mK ll_cnt L xs false 97 (.inl (lo_iinc 100 5 1)) := lk_iinc (n := 1) (by decide +kernel) (by decide)
theorem k_62_100 (L : Nat) (xs : Nat → Int32) : ll_OK1 cX6_tellTerm RX6 none false ll_mN ll_mR ll_mK ll_cnt L xs false 100 (.inl (lo_goto 30)) := lk_goto (off := (-70)) (by decide +kernel) rfl
theorem k_62_103 (L : Nat) (xs : Nat → Int32) : ll_OK1 cX6_tellTerm RX6 none false ll_mN ll_mR ll_mK ll_cnt L xs false 103 (.inl (lo_aload 104 2)) := lk_aload_n (k := 2) (by decide +kernel) rfl
theorem k_62_104 (L : Nat) (xs : Nat → Int32) : ll_OK1 cX6_tellTerm RX6 none false ll_mN ll_mR ll_mK ll_cnt L xs false 104 (.inl (lo_iload 106 4)) := lk_iload (by decide +kernel)
theorem k_62_106 (L : Nat) (xs : Nat → Int32) : ll_OK1 cX6_tellTerm RX6 none false ll_mN ll_mR ll_mK ll_cnt L xs false 106 (.inr (.inl (40, 2, 109))) := ⟨rfl, by decide, by rw [mN_40, mK_40, mR_40]; exact lj_v 97 1 5 (RX5, TX5, 11) (by decide +kernel) tb_311 tb_312 tb_313 rfl rfl rfl rfl (by decide +kernel)⟩
theorem k_62_109 (L : Nat) (xs : Nat → Int32) : ll_OK1 cX6_tellTerm RX6 none false ll_mN ll_mR ll_mK ll_cnt L xs false 109 (.inr (.inr 0)) := ⟨fun _ => ⟨(by decide +kernel), rfl⟩, (fun h => by cases h), fun h => by cases h⟩
theorem ok_62 (L : Nat) (xs : Nat → Int32) : ∀ q ∈ cd_62, ll_OK1 cX6_tellTerm RX6 none false ll_mN ll_mR ll_mK ll_cnt L xs false q.1 q.2 :=
  List.forall_mem_cons.mpr ⟨k_62_0 L xs, List.forall_mem_cons.mpr ⟨k_62_1 L xs, List.forall_mem_cons.mpr ⟨k_62_4 L xs, List.forall_mem_cons.mpr ⟨k_62_5 L xs, List.forall_mem_cons.mpr ⟨k_62_6 L xs, List.forall_mem_cons.mpr ⟨k_62_7 L xs, List.forall_mem_cons.mpr ⟨k_62_8 L xs, List.forall_mem_cons.mpr ⟨k_62_10 L xs, List.forall_mem_cons.mpr ⟨k_62_11 L xs, List.forall_mem_cons.mpr ⟨k_62_14 L xs, List.forall_mem_cons.mpr ⟨k_62_15 L xs, List.forall_mem_cons.mpr ⟨k_62_18 L xs, List.forall_mem_cons.mpr ⟨k_62_19 L xs, List.forall_mem_cons.mpr ⟨k_62_20 L xs, List.forall_mem_cons.mpr ⟨k_62_21 L xs, List.forall_mem_cons.mpr ⟨k_62_24 L xs, List.forall_mem_cons.mpr ⟨k_62_27 L xs, List.forall_mem_cons.mpr ⟨k_62_28 L xs, List.forall_mem_cons.mpr ⟨k_62_30 L xs, List.forall_mem_cons.mpr ⟨k_62_32 L xs, List.forall_mem_cons.mpr ⟨k_62_33 L xs, List.forall_mem_cons.mpr ⟨k_62_36 L xs, List.forall_mem_cons.mpr ⟨k_62_37 L xs, List.forall_mem_cons.mpr ⟨k_62_40 L xs, List.forall_mem_cons.mpr ⟨k_62_41 L xs, List.forall_mem_cons.mpr ⟨k_62_43 L xs, List.forall_mem_cons.mpr ⟨k_62_44 L xs, List.forall_mem_cons.mpr ⟨k_62_46 L xs, List.forall_mem_cons.mpr ⟨k_62_47 L xs, List.forall_mem_cons.mpr ⟨k_62_48 L xs, List.forall_mem_cons.mpr ⟨k_62_50 L xs, List.forall_mem_cons.mpr ⟨k_62_52 L xs, List.forall_mem_cons.mpr ⟨k_62_55 L xs, List.forall_mem_cons.mpr ⟨k_62_56 L xs, List.forall_mem_cons.mpr ⟨k_62_59 L xs, List.forall_mem_cons.mpr ⟨k_62_61 L xs, List.forall_mem_cons.mpr ⟨k_62_64 L xs, List.forall_mem_cons.mpr ⟨k_62_67 L xs, List.forall_mem_cons.mpr ⟨k_62_68 L xs, List.forall_mem_cons.mpr ⟨k_62_71 L xs, List.forall_mem_cons.mpr ⟨k_62_72 L xs, List.forall_mem_cons.mpr ⟨k_62_74 L xs, List.forall_mem_cons.mpr ⟨k_62_75 L xs, List.forall_mem_cons.mpr ⟨k_62_78 L xs, List.forall_mem_cons.mpr ⟨k_62_80 L xs, List.forall_mem_cons.mpr ⟨k_62_81 L xs, List.forall_mem_cons.mpr ⟨k_62_82 L xs, List.forall_mem_cons.mpr ⟨k_62_85 L xs, List.forall_mem_cons.mpr ⟨k_62_86 L xs, List.forall_mem_cons.mpr ⟨k_62_89 L xs, List.forall_mem_cons.mpr ⟨k_62_90 L xs, List.forall_mem_cons.mpr ⟨k_62_91 L xs, List.forall_mem_cons.mpr ⟨k_62_94 L xs, List.forall_mem_cons.mpr ⟨k_62_97 L xs, List.forall_mem_cons.mpr ⟨k_62_100 L xs, List.forall_mem_cons.mpr ⟨k_62_103 L xs, List.forall_mem_cons.mpr ⟨k_62_104 L xs, List.forall_mem_cons.mpr ⟨k_62_106 L xs, List.forall_mem_cons.mpr ⟨k_62_109 L xs, fun _ h => absurd h List.not_mem_nil⟩⟩⟩⟩⟩⟩⟩⟩⟩⟩⟩⟩⟩⟩⟩⟩⟩⟩⟩⟩⟩⟩⟩⟩⟩⟩⟩⟩⟩⟩⟩⟩⟩⟩⟩⟩⟩⟩⟩⟩⟩⟩⟩⟩⟩⟩⟩⟩⟩⟩⟩⟩⟩⟩⟩⟩⟩⟩⟩
/-- InclusionProver$TermFinder.findParts.(IILInclusionProver$Side;)V -/
def cd_63 : List (Nat × ll_O) := [
  (0, .inl (lo_aload 1 0)),
  (1, .inl (lo_push 2 (.int 2))),
  (2, .inl (lo_iload 3 2)),
  (3, .inl (lo_bin 4 (fun x y => x + y))),
  (4, .inl (lo_putf 7 6 7 0)),
  (7, .inl (lo_aload 8 3)),
  (8, .inl (lo_iload 9 2)),
  (9, .inr (.inl (41, 2, 12))),
  (12, .inl (lo_aload 13 0)),
  (13, .inl (lo_push 14 (.int 0))),
  (14, .inl (lo_putf 17 6 5 0)),
  (17, .inl (lo_aload 18 0)),
  (18, .inl (lo_getf 21 6 2)),
  (21, .inl (lo_iload 22 1)),
  (22, .inl (lo_ald 23 0)),
  (23, .inl (lo_push 24 (.int 1))),
  (24, .inl (lo_bin 25 (fun x y => x - y))),
  (25, .inl (lo_istore 27 4)),
  (27, .inl (lo_iload 29 4)),
  (29, .inl (lo_if 54 32 (fun x => decide (x < 0)))),
  (32, .inl (lo_aload 33 0)),
  (33, .inl (lo_aload 34 0)),
  (34, .inl (lo_getf 37 6 1)),
  (37, .inl (lo_iload 38 1)),
  (38, .inl (lo_push 40 (.int 64))),
  (40, .inl (lo_bin 41 (fun x y => x * y))),
  (41, .inl (lo_iload 43 4)),
  (43, .inl (lo_bin 44 (fun x y => x + y))),
  (44, .inl (lo_ald 45 0)),
  (45, .inr (.inl (67, 2, 48))),
  (48, .inl (lo_iinc 51 4 (-1))),
  (51, .inl (lo_goto 27)),
  (54, .inl (lo_aload 55 0)),
  (55, .inl (lo_push 56 (.int 0))),
  (56, .inl (lo_aload 57 3)),
  (57, .inl (lo_push 58 (.int 0))),
  (58, .inr (.inl (64, 4, 61))),
  (61, .inr (.inr 0))]
theorem k_63_0 (L : Nat) (xs : Nat → Int32) : ll_OK1 cX6_findParts RX6 none false ll_mN ll_mR ll_mK ll_cnt L xs false 0 (.inl (lo_aload 1 0)) := lk_aload_n (k := 0) (by decide +kernel) rfl
theorem k_63_1 (L : Nat) (xs : Nat → Int32) : ll_OK1 cX6_findParts RX6 none false ll_mN ll_mR ll_mK ll_cnt L xs false 1 (.inl (lo_push 2 (.int 2))) := lk_iconst (n := 2) (by decide +kernel) (by decide)
theorem k_63_2 (L : Nat) (xs : Nat → Int32) : ll_OK1 cX6_findParts RX6 none false ll_mN ll_mR ll_mK ll_cnt L xs false 2 (.inl (lo_iload 3 2)) := lk_iload_n (k := 2) (by decide +kernel) rfl
theorem k_63_3 (L : Nat) (xs : Nat → Int32) : ll_OK1 cX6_findParts RX6 none false ll_mN ll_mR ll_mK ll_cnt L xs false 3 (.inl (lo_bin 4 (fun x y => x + y))) := lk_iadd (by decide +kernel)
theorem k_63_4 (L : Nat) (xs : Nat → Int32) : ll_OK1 cX6_findParts RX6 none false ll_mN ll_mR ll_mK ll_cnt L xs false 4 (.inl (lo_putf 7 6 7 0)) := lk_putf (ix := 101) (ci := 6) (k := 7) (C := RX6) (T := TX6) (N := 8) (ty0 := tyX6) (by decide +kernel) rfl in_6 tyX6_ok nmX6 (by decide) tb_314 (fun B adr v w h1 h2 => ll_fit_int (B := B) (adr := adr) h1 h2) (Or.inl rfl)
theorem k_63_7 (L : Nat) (xs : Nat → Int32) : ll_OK1 cX6_findParts RX6 none false ll_mN ll_mR ll_mK ll_cnt L xs false 7 (.inl (lo_aload 8 3)) := lk_aload_n (k := 3) (by decide +kernel) rfl
theorem k_63_8 (L : Nat) (xs : Nat → Int32) : ll_OK1 cX6_findParts RX6 none false ll_mN ll_mR ll_mK ll_cnt L xs false 8 (.inl (lo_iload 9 2)) := lk_iload_n (k := 2) (by decide +kernel) rfl
theorem k_63_9 (L : Nat) (xs : Nat → Int32) : ll_OK1 cX6_findParts RX6 none false ll_mN ll_mR ll_mK ll_cnt L xs false 9 (.inr (.inl (41, 2, 12))) := ⟨rfl, by decide, by rw [mN_41, mK_41, mR_41]; exact lj_v 104 1 5 (RX5, TX5, 11) (by decide +kernel) tb_315 tb_316 tb_317 rfl rfl rfl rfl (by decide +kernel)⟩
theorem k_63_12 (L : Nat) (xs : Nat → Int32) : ll_OK1 cX6_findParts RX6 none false ll_mN ll_mR ll_mK ll_cnt L xs false 12 (.inl (lo_aload 13 0)) := lk_aload_n (k := 0) (by decide +kernel) rfl
theorem k_63_13 (L : Nat) (xs : Nat → Int32) : ll_OK1 cX6_findParts RX6 none false ll_mN ll_mR ll_mK ll_cnt L xs false 13 (.inl (lo_push 14 (.int 0))) := lk_iconst (n := 0) (by decide +kernel) (by decide)
theorem k_63_14 (L : Nat) (xs : Nat → Int32) : ll_OK1 cX6_findParts RX6 none false ll_mN ll_mR ll_mK ll_cnt L xs false 14 (.inl (lo_putf 17 6 5 0)) := lk_putf (ix := 69) (ci := 6) (k := 5) (C := RX6) (T := TX6) (N := 8) (ty0 := tyX6) (by decide +kernel) rfl in_6 tyX6_ok nmX6 (by decide) tb_291 (fun B adr v w h1 h2 => ll_fit_int (B := B) (adr := adr) h1 h2) (Or.inl rfl)
theorem k_63_17 (L : Nat) (xs : Nat → Int32) : ll_OK1 cX6_findParts RX6 none false ll_mN ll_mR ll_mK ll_cnt L xs false 17 (.inl (lo_aload 18 0)) := lk_aload_n (k := 0) (by decide +kernel) rfl
theorem k_63_18 (L : Nat) (xs : Nat → Int32) : ll_OK1 cX6_findParts RX6 none false ll_mN ll_mR ll_mK ll_cnt L xs false 18 (.inl (lo_getf 21 6 2)) := lk_getf (ix := 15) (ci := 6) (k := 2) (C := RX6) (T := TX6) (N := 8) (by decide +kernel) rfl in_6 (by decide) tb_267
theorem k_63_21 (L : Nat) (xs : Nat → Int32) : ll_OK1 cX6_findParts RX6 none false ll_mN ll_mR ll_mK ll_cnt L xs false 21 (.inl (lo_iload 22 1)) := lk_iload_n (k := 1) (by decide +kernel) rfl
theorem k_63_22 (L : Nat) (xs : Nat → Int32) : ll_OK1 cX6_findParts RX6 none false ll_mN ll_mR ll_mK ll_cnt L xs false 22 (.inl (lo_ald 23 0)) := lk_iald (by decide +kernel)
theorem k_63_23 (L : Nat) (xs : Nat → Int32) : ll_OK1 cX6_findParts RX6 none false ll_mN ll_mR ll_mK ll_cnt L xs false 23 (.inl (lo_push 24 (.int 1))) := lk_iconst (n := 1) (by decide +kernel) (by decide)
theorem k_63_24 (L : Nat) (xs : Nat → Int32) : ll_OK1 cX6_findParts RX6 none false ll_mN ll_mR ll_mK ll_cnt L xs false 24 (.inl (lo_bin 25 (fun x y => x - y))) := lk_isub (by decide +kernel)
theorem k_63_25 (L : Nat) (xs : Nat → Int32) : ll_OK1 cX6_findParts RX6 none false ll_mN ll_mR ll_mK ll_cnt L xs false 25 (.inl (lo_istore 27 4)) := lk_istore (by decide +kernel)
theorem k_63_27 (L : Nat) (xs : Nat → Int32) : ll_OK1 cX6_findParts RX6 none false ll_mN ll_mR ll_mK ll_cnt L xs false 27 (.inl (lo_iload 29 4)) := lk_iload (by decide +kernel)
theorem k_63_29 (L : Nat) (xs : Nat → Int32) : ll_OK1 cX6_findParts RX6 none false ll_mN ll_mR ll_mK ll_cnt L xs false 29 (.inl (lo_if 54 32 (fun x => decide (x < 0)))) := lk_if_lt (off := 25) (by decide +kernel) rfl
theorem k_63_32 (L : Nat) (xs : Nat → Int32) : ll_OK1 cX6_findParts RX6 none false ll_mN ll_mR ll_mK ll_cnt L xs false 32 (.inl (lo_aload 33 0)) := lk_aload_n (k := 0) (by decide +kernel) rfl
theorem k_63_33 (L : Nat) (xs : Nat → Int32) : ll_OK1 cX6_findParts RX6 none false ll_mN ll_mR ll_mK ll_cnt L xs false 33 (.inl (lo_aload 34 0)) := lk_aload_n (k := 0) (by decide +kernel) rfl
theorem k_63_34 (L : Nat) (xs : Nat → Int32) : ll_OK1 cX6_findParts RX6 none false ll_mN ll_mR ll_mK ll_cnt L xs false 34 (.inl (lo_getf 37 6 1)) := lk_getf (ix := 11) (ci := 6) (k := 1) (C := RX6) (T := TX6) (N := 8) (by decide +kernel) rfl in_6 (by decide) tb_266
theorem k_63_37 (L : Nat) (xs : Nat → Int32) : ll_OK1 cX6_findParts RX6 none false ll_mN ll_mR ll_mK ll_cnt L xs false 37 (.inl (lo_iload 38 1)) := lk_iload_n (k := 1) (by decide +kernel) rfl
theorem k_63_38 (L : Nat) (xs : Nat → Int32) : ll_OK1 cX6_findParts RX6 none false ll_mN ll_mR ll_mK ll_cnt L xs false 38 (.inl (lo_push 40 (.int 64))) := lk_bipush (n := 64) (by decide +kernel) (by decide)
theorem k_63_40 (L : Nat) (xs : Nat → Int32) : ll_OK1 cX6_findParts RX6 none false ll_mN ll_mR ll_mK ll_cnt L xs false 40 (.inl (lo_bin 41 (fun x y => x * y))) := lk_imul (by decide +kernel)
theorem k_63_41 (L : Nat) (xs : Nat → Int32) : ll_OK1 cX6_findParts RX6 none false ll_mN ll_mR ll_mK ll_cnt L xs false 41 (.inl (lo_iload 43 4)) := lk_iload (by decide +kernel)
theorem k_63_43 (L : Nat) (xs : Nat → Int32) : ll_OK1 cX6_findParts RX6 none false ll_mN ll_mR ll_mK ll_cnt L xs false 43 (.inl (lo_bin 44 (fun x y => x + y))) := lk_iadd (by decide +kernel)
theorem k_63_44 (L : Nat) (xs : Nat → Int32) : ll_OK1 cX6_findParts RX6 none false ll_mN ll_mR ll_mK ll_cnt L xs false 44 (.inl (lo_ald 45 0)) := lk_iald (by decide +kernel)
theorem k_63_45 (L : Nat) (xs : Nat → Int32) : ll_OK1 cX6_findParts RX6 none false ll_mN ll_mR ll_mK ll_cnt L xs false 45 (.inr (.inl (67, 2, 48))) := ⟨rfl, by decide, by rw [mN_67, mK_67, mR_67]; exact lj_v 107 1 6 (RX6, TX6, 8) (by decide +kernel) tb_318 tb_319 tb_320 rfl rfl rfl rfl (by decide +kernel)⟩
theorem k_63_48 (L : Nat) (xs : Nat → Int32) : ll_OK1 cX6_findParts RX6 none false ll_mN ll_mR ll_mK ll_cnt L xs false 48 (.inl (lo_iinc 51 4 (-1))) := lk_iinc (n := (-1)) (by decide +kernel) (by decide)
theorem k_63_51 (L : Nat) (xs : Nat → Int32) : ll_OK1 cX6_findParts RX6 none false ll_mN ll_mR ll_mK ll_cnt L xs false 51 (.inl (lo_goto 27)) := lk_goto (off := (-24)) (by decide +kernel) rfl
theorem k_63_54 (L : Nat) (xs : Nat → Int32) : ll_OK1 cX6_findParts RX6 none false ll_mN ll_mR ll_mK ll_cnt L xs false 54 (.inl (lo_aload 55 0)) := lk_aload_n (k := 0) (by decide +kernel) rfl
theorem k_63_55 (L : Nat) (xs : Nat → Int32) : ll_OK1 cX6_findParts RX6 none false ll_mN ll_mR ll_mK ll_cnt L xs false 55 (.inl (lo_push 56 (.int 0))) := lk_iconst (n := 0) (by decide +kernel) (by decide)
theorem k_63_56 (L : Nat) (xs : Nat → Int32) : ll_OK1 cX6_findParts RX6 none false ll_mN ll_mR ll_mK ll_cnt L xs false 56 (.inl (lo_aload 57 3)) := lk_aload_n (k := 3) (by decide +kernel) rfl
theorem k_63_57 (L : Nat) (xs : Nat → Int32) : ll_OK1 cX6_findParts RX6 none false ll_mN ll_mR ll_mK ll_cnt L xs false 57 (.inl (lo_push 58 (.int 0))) := lk_iconst (n := 0) (by decide +kernel) (by decide)
theorem k_63_58 (L : Nat) (xs : Nat → Int32) : ll_OK1 cX6_findParts RX6 none false ll_mN ll_mR ll_mK ll_cnt L xs false 58 (.inr (.inl (64, 4, 61))) := ⟨rfl, by decide, by rw [mN_64, mK_64, mR_64]; exact lj_v 110 3 6 (RX6, TX6, 8) (by decide +kernel) tb_321 tb_322 tb_323 rfl rfl rfl rfl (by decide +kernel)⟩
theorem k_63_61 (L : Nat) (xs : Nat → Int32) : ll_OK1 cX6_findParts RX6 none false ll_mN ll_mR ll_mK ll_cnt L xs false 61 (.inr (.inr 0)) := ⟨fun _ => ⟨(by decide +kernel), rfl⟩, (fun h => by cases h), fun h => by cases h⟩
theorem ok_63 (L : Nat) (xs : Nat → Int32) : ∀ q ∈ cd_63, ll_OK1 cX6_findParts RX6 none false ll_mN ll_mR ll_mK ll_cnt L xs false q.1 q.2 :=
  List.forall_mem_cons.mpr ⟨k_63_0 L xs, List.forall_mem_cons.mpr ⟨k_63_1 L xs, List.forall_mem_cons.mpr ⟨k_63_2 L xs, List.forall_mem_cons.mpr ⟨k_63_3 L xs, List.forall_mem_cons.mpr ⟨k_63_4 L xs, List.forall_mem_cons.mpr ⟨k_63_7 L xs, List.forall_mem_cons.mpr ⟨k_63_8 L xs, List.forall_mem_cons.mpr ⟨k_63_9 L xs, List.forall_mem_cons.mpr ⟨k_63_12 L xs, List.forall_mem_cons.mpr ⟨k_63_13 L xs, List.forall_mem_cons.mpr ⟨k_63_14 L xs, List.forall_mem_cons.mpr ⟨k_63_17 L xs, List.forall_mem_cons.mpr ⟨k_63_18 L xs, List.forall_mem_cons.mpr ⟨k_63_21 L xs, List.forall_mem_cons.mpr ⟨k_63_22 L xs, List.forall_mem_cons.mpr ⟨k_63_23 L xs, List.forall_mem_cons.mpr ⟨k_63_24 L xs, List.forall_mem_cons.mpr ⟨k_63_25 L xs, List.forall_mem_cons.mpr ⟨k_63_27 L xs, List.forall_mem_cons.mpr ⟨k_63_29 L xs, List.forall_mem_cons.mpr ⟨k_63_32 L xs, List.forall_mem_cons.mpr ⟨k_63_33 L xs, List.forall_mem_cons.mpr ⟨k_63_34 L xs, List.forall_mem_cons.mpr ⟨k_63_37 L xs, List.forall_mem_cons.mpr ⟨k_63_38 L xs, List.forall_mem_cons.mpr ⟨k_63_40 L xs, List.forall_mem_cons.mpr ⟨k_63_41 L xs, List.forall_mem_cons.mpr ⟨k_63_43 L xs, List.forall_mem_cons.mpr ⟨k_63_44 L xs, List.forall_mem_cons.mpr ⟨k_63_45 L xs, List.forall_mem_cons.mpr ⟨k_63_48 L xs, List.forall_mem_cons.mpr ⟨k_63_51 L xs, List.forall_mem_cons.mpr ⟨k_63_54 L xs, List.forall_mem_cons.mpr ⟨k_63_55 L xs, List.forall_mem_cons.mpr ⟨k_63_56 L xs, List.forall_mem_cons.mpr ⟨k_63_57 L xs, List.forall_mem_cons.mpr ⟨k_63_58 L xs, List.forall_mem_cons.mpr ⟨k_63_61 L xs, fun _ h => absurd h List.not_mem_nil⟩⟩⟩⟩⟩⟩⟩⟩⟩⟩⟩⟩⟩⟩⟩⟩⟩⟩⟩⟩⟩⟩⟩⟩⟩⟩⟩⟩⟩⟩⟩⟩⟩⟩⟩⟩⟩⟩
/-- InclusionProver$TermFinder.gatherFactors.(ILInclusionProver$Side;I)V -/
def cd_64 : List (Nat × ll_O) := [
  (0, .inl (lo_push 1 (.int 1))),
  (1, .inl (lo_istore 3 4)),
  (3, .inl (lo_aload 4 0)),
  (4, .inl (lo_getf 7 6 5)),
  (7, .inl (lo_push 8 (.int 1))),
  (8, .inl (lo_bin 9 (fun x y => x - y))),
  (9, .inl (lo_istore 11 5)),
  (11, .inl (lo_iload 13 5)),
  (13, .inl (lo_iload 14 1)),
  (14, .inl (lo_cmp 62 17 (fun x y => decide (x < y)))),
  (17, .inl (lo_iload 19 4)),
  (19, .inl (lo_if 62 22 (fun x => decide (x = 0)))),
  (22, .inl (lo_aload 23 0)),
  (23, .inl (lo_getf 26 6 3)),
  (26, .inl (lo_iload 28 5)),
  (28, .inl (lo_ald 29 0)),
  (29, .inl (lo_istore 31 6)),
  (31, .inl (lo_aload 32 0)),
  (32, .inl (lo_iload 34 5)),
  (34, .inl (lo_putf 37 6 5 0)),
  (37, .inl (lo_aload 38 0)),
  (38, .inl (lo_iload 40 6)),
  (40, .inl (lo_aload 41 2)),
  (41, .inl (lo_iload 42 3)),
  (42, .inr (.inl (65, 4, 45))),
  (45, .inl (lo_aload 46 0)),
  (46, .inl (lo_getf 49 6 0)),
  (49, .inl (lo_iload 51 6)),
  (51, .inr (.inl (86, 2, 54))),
  (54, .inl (lo_istore 56 4)),
  (56, .inl (lo_iinc 59 5 (-1))),
  (59, .inl (lo_goto 11)),
  (62, .inl (lo_aload 63 0)),
  (63, .inl (lo_iload 64 1)),
  (64, .inl (lo_putf 67 6 5 0)),
  (67, .inr (.inr 0))]
theorem k_64_0 (L : Nat) (xs : Nat → Int32) : ll_OK1 cX6_gatherFactors RX6 none false ll_mN ll_mR ll_mK ll_cnt L xs false 0 (.inl (lo_push 1 (.int 1))) := lk_iconst (n := 1) (by decide +kernel) (by decide)
theorem k_64_1 (L : Nat) (xs : Nat → Int32) : ll_OK1 cX6_gatherFactors RX6 none false ll_mN ll_mR ll_mK ll_cnt L xs false 1 (.inl (lo_istore 3 4)) := lk_istore (by decide +kernel)
theorem k_64_3 (L : Nat) (xs : Nat → Int32) : ll_OK1 cX6_gatherFactors RX6 none false ll_mN ll_mR ll_mK ll_cnt L xs false 3 (.inl (lo_aload 4 0)) := lk_aload_n (k := 0) (by decide +kernel) rfl
theorem k_64_4 (L : Nat) (xs : Nat → Int32) : ll_OK1 cX6_gatherFactors RX6 none false ll_mN ll_mR ll_mK ll_cnt L xs false 4 (.inl (lo_getf 7 6 5)) := lk_getf (ix := 69) (ci := 6) (k := 5) (C := RX6) (T := TX6) (N := 8) (by decide +kernel) rfl in_6 (by decide) tb_291
theorem k_64_7 (L : Nat) (xs : Nat → Int32) : ll_OK1 cX6_gatherFactors RX6 none false ll_mN ll_mR ll_mK ll_cnt L xs false 7 (.inl (lo_push 8 (.int 1))) := lk_iconst (n := 1) (by decide +kernel) (by decide)
theorem k_64_8 (L : Nat) (xs : Nat → Int32) : ll_OK1 cX6_gatherFactors RX6 none false ll_mN ll_mR ll_mK ll_cnt L xs false 8 (.inl (lo_bin 9 (fun x y => x - y))) := lk_isub (by decide +kernel)
theorem k_64_9 (L : Nat) (xs : Nat → Int32) : ll_OK1 cX6_gatherFactors RX6 none false ll_mN ll_mR ll_mK ll_cnt L xs false 9 (.inl (lo_istore 11 5)) := lk_istore (by decide +kernel)
theorem k_64_11 (L : Nat) (xs : Nat → Int32) : ll_OK1 cX6_gatherFactors RX6 none false ll_mN ll_mR ll_mK ll_cnt L xs false 11 (.inl (lo_iload 13 5)) := lk_iload (by decide +kernel)
theorem k_64_13 (L : Nat) (xs : Nat → Int32) : ll_OK1 cX6_gatherFactors RX6 none false ll_mN ll_mR ll_mK ll_cnt L xs false 13 (.inl (lo_iload 14 1)) := lk_iload_n (k := 1) (by decide +kernel) rfl
theorem k_64_14 (L : Nat) (xs : Nat → Int32) : ll_OK1 cX6_gatherFactors RX6 none false ll_mN ll_mR ll_mK ll_cnt L xs false 14 (.inl (lo_cmp 62 17 (fun x y => decide (x < y)))) := lk_icmp_lt (off := 48) (by decide +kernel) rfl
theorem k_64_17 (L : Nat) (xs : Nat → Int32) : ll_OK1 cX6_gatherFactors RX6 none false ll_mN ll_mR ll_mK ll_cnt L xs false 17 (.inl (lo_iload 19 4)) := lk_iload (by decide +kernel)
theorem k_64_19 (L : Nat) (xs : Nat → Int32) : ll_OK1 cX6_gatherFactors RX6 none false ll_mN ll_mR ll_mK ll_cnt L xs false 19 (.inl (lo_if 62 22 (fun x => decide (x = 0)))) := lk_if_eq (off := 43) (by decide +kernel) rfl
theorem k_64_22 (L : Nat) (xs : Nat → Int32) : ll_OK1 cX6_gatherFactors RX6 none false ll_mN ll_mR ll_mK ll_cnt L xs false 22 (.inl (lo_aload 23 0)) := lk_aload_n (k := 0) (by decide +kernel) rfl
theorem k_64_23 (L : Nat) (xs : Nat → Int32) : ll_OK1 cX6_gatherFactors RX6 none false ll_mN ll_mR ll_mK ll_cnt L xs false 23 (.inl (lo_getf 26 6 3)) := lk_getf (ix := 18) (ci := 6) (k := 3) (C := RX6) (T := TX6) (N := 8) (by decide +kernel) rfl in_6 (by decide) tb_268
theorem k_64_26 (L : Nat) (xs : Nat → Int32) : ll_OK1 cX6_gatherFactors RX6 none false ll_mN ll_mR ll_mK ll_cnt L xs false 26 (.inl (lo_iload 28 5)) := lk_iload (by decide +kernel)
theorem k_64_28 (L : Nat) (xs : Nat → Int32) : ll_OK1 cX6_gatherFactors RX6 none false ll_mN ll_mR ll_mK ll_cnt L xs false 28 (.inl (lo_ald 29 0)) := lk_iald (by decide +kernel)
theorem k_64_29 (L : Nat) (xs : Nat → Int32) : ll_OK1 cX6_gatherFactors RX6 none false ll_mN ll_mR ll_mK ll_cnt L xs false 29 (.inl (lo_istore 31 6)) := lk_istore (by decide +kernel)
theorem k_64_31 (L : Nat) (xs : Nat → Int32) : ll_OK1 cX6_gatherFactors RX6 none false ll_mN ll_mR ll_mK ll_cnt L xs false 31 (.inl (lo_aload 32 0)) := lk_aload_n (k := 0) (by decide +kernel) rfl
theorem k_64_32 (L : Nat) (xs : Nat → Int32) : ll_OK1 cX6_gatherFactors RX6 none false ll_mN ll_mR ll_mK ll_cnt L xs false 32 (.inl (lo_iload 34 5)) := lk_iload (by decide +kernel)
theorem k_64_34 (L : Nat) (xs : Nat → Int32) : ll_OK1 cX6_gatherFactors RX6 none false ll_mN ll_mR ll_mK ll_cnt L xs false 34 (.inl (lo_putf 37 6 5 0)) := lk_putf (ix := 69) (ci := 6) (k := 5) (C := RX6) (T := TX6) (N := 8) (ty0 := tyX6) (by decide +kernel) rfl in_6 tyX6_ok nmX6 (by decide) tb_291 (fun B adr v w h1 h2 => ll_fit_int (B := B) (adr := adr) h1 h2) (Or.inl rfl)
theorem k_64_37 (L : Nat) (xs : Nat → Int32) : ll_OK1 cX6_gatherFactors RX6 none false ll_mN ll_mR ll_mK ll_cnt L xs false 37 (.inl (lo_aload 38 0)) := lk_aload_n (k := 0) (by decide +kernel) rfl
theorem k_64_38 (L : Nat) (xs : Nat → Int32) : ll_OK1 cX6_gatherFactors RX6 none false ll_mN ll_mR ll_mK ll_cnt L xs false 38 (.inl (lo_iload 40 6)) := lk_iload (by decide +kernel)
theorem k_64_40 (L : Nat) (xs : Nat → Int32) : ll_OK1 cX6_gatherFactors RX6 none false ll_mN ll_mR ll_mK ll_cnt L xs false 40 (.inl (lo_aload 41 2)) := lk_aload_n (k := 2) (by decide +kernel) rfl
theorem k_64_41 (L : Nat) (xs : Nat → Int32) : ll_OK1 cX6_gatherFactors RX6 none false ll_mN ll_mR ll_mK ll_cnt L xs false 41 (.inl (lo_iload 42 3)) := lk_iload_n (k := 3) (by decide +kernel) rfl
theorem k_64_42 (L : Nat) (xs : Nat → Int32) : ll_OK1 cX6_gatherFactors RX6 none false ll_mN ll_mR ll_mK ll_cnt L xs false 42 (.inr (.inl (65, 4, 45))) := ⟨rfl, by decide, by rw [mN_65, mK_65, mR_65]; exact lj_v 114 3 6 (RX6, TX6, 8) (by decide +kernel) tb_324 tb_325 tb_326 rfl rfl rfl rfl (by decide +kernel)⟩
theorem k_64_45 (L : Nat) (xs : Nat → Int32) : ll_OK1 cX6_gatherFactors RX6 none false ll_mN ll_mR ll_mK ll_cnt L xs false 45 (.inl (lo_aload 46 0)) := lk_aload_n (k := 0) (by decide +kernel) rfl
theorem k_64_46 (L : Nat) (xs : Nat → Int32) : ll_OK1 cX6_gatherFactors RX6 none false ll_mN ll_mR ll_mK ll_cnt L xs false 46 (.inl (lo_getf 49 6 0)) := lk_getf (ix := 30) (ci := 6) (k := 0) (C := RX6) (T := TX6) (N := 8) (by decide +kernel) rfl in_6 (by decide) tb_272
theorem k_64_49 (L : Nat) (xs : Nat → Int32) : ll_OK1 cX6_gatherFactors RX6 none false ll_mN ll_mR ll_mK ll_cnt L xs false 49 (.inl (lo_iload 51 6)) := lk_iload (by decide +kernel)
theorem k_64_51 (L : Nat) (xs : Nat → Int32) : ll_OK1 cX6_gatherFactors RX6 none false ll_mN ll_mR ll_mK ll_cnt L xs false 51 (.inr (.inl (86, 2, 54))) := ⟨rfl, by decide, by rw [mN_86, mK_86, mR_86]; exact lj_v 93 1 8 (RX8, TX8, 10) (by decide +kernel) tb_308 tb_309 tb_310 rfl rfl rfl rfl (by decide +kernel)⟩
theorem k_64_54 (L : Nat) (xs : Nat → Int32) : ll_OK1 cX6_gatherFactors RX6 none false ll_mN ll_mR ll_mK ll_cnt L xs false 54 (.inl (lo_istore 56 4)) := lk_istore (by decide +kernel)
theorem k_64_56 (L : Nat) (xs : Nat → Int32) : ll_OK1 cX6_gatherFactors RX6 none false ll_mN ll_mR ll_mK ll_cnt L xs false 56 (.inl (lo_iinc 59 5 (-1))) := lk_iinc (n := (-1)) (by decide +kernel) (by decide)
theorem k_64_59 (L : Nat) (xs : Nat → Int32) : ll_OK1 cX6_gatherFactors RX6 none false ll_mN ll_mR ll_mK ll_cnt L xs false 59 (.inl (lo_goto 11)) := lk_goto (off := (-48)) (by decide +kernel) rfl
theorem k_64_62 (L : Nat) (xs : Nat → Int32) : ll_OK1 cX6_gatherFactors RX6 none false ll_mN ll_mR ll_mK ll_cnt L xs false 62 (.inl (lo_aload 63 0)) := lk_aload_n (k := 0) (by decide +kernel) rfl
theorem k_64_63 (L : Nat) (xs : Nat → Int32) : ll_OK1 cX6_gatherFactors RX6 none false ll_mN ll_mR ll_mK ll_cnt L xs false 63 (.inl (lo_iload 64 1)) := lk_iload_n (k := 1) (by decide +kernel) rfl
theorem k_64_64 (L : Nat) (xs : Nat → Int32) : ll_OK1 cX6_gatherFactors RX6 none false ll_mN ll_mR ll_mK ll_cnt L xs false 64 (.inl (lo_putf 67 6 5 0)) := lk_putf (ix := 69) (ci := 6) (k := 5) (C := RX6) (T := TX6) (N := 8) (ty0 := tyX6) (by decide +kernel) rfl in_6 tyX6_ok nmX6 (by decide) tb_291 (fun B adr v w h1 h2 => ll_fit_int (B := B) (adr := adr) h1 h2) (Or.inl rfl)
theorem k_64_67 (L : Nat) (xs : Nat → Int32) : ll_OK1 cX6_gatherFactors RX6 none false ll_mN ll_mR ll_mK ll_cnt L xs false 67 (.inr (.inr 0)) := ⟨fun _ => ⟨(by decide +kernel), rfl⟩, (fun h => by cases h), fun h => by cases h⟩
theorem ok_64 (L : Nat) (xs : Nat → Int32) : ∀ q ∈ cd_64, ll_OK1 cX6_gatherFactors RX6 none false ll_mN ll_mR ll_mK ll_cnt L xs false q.1 q.2 :=
  List.forall_mem_cons.mpr ⟨k_64_0 L xs, List.forall_mem_cons.mpr ⟨k_64_1 L xs, List.forall_mem_cons.mpr ⟨k_64_3 L xs, List.forall_mem_cons.mpr ⟨k_64_4 L xs, List.forall_mem_cons.mpr ⟨k_64_7 L xs, List.forall_mem_cons.mpr ⟨k_64_8 L xs, List.forall_mem_cons.mpr ⟨k_64_9 L xs, List.forall_mem_cons.mpr ⟨k_64_11 L xs, List.forall_mem_cons.mpr ⟨k_64_13 L xs, List.forall_mem_cons.mpr ⟨k_64_14 L xs, List.forall_mem_cons.mpr ⟨k_64_17 L xs, List.forall_mem_cons.mpr ⟨k_64_19 L xs, List.forall_mem_cons.mpr ⟨k_64_22 L xs, List.forall_mem_cons.mpr ⟨k_64_23 L xs, List.forall_mem_cons.mpr ⟨k_64_26 L xs, List.forall_mem_cons.mpr ⟨k_64_28 L xs, List.forall_mem_cons.mpr ⟨k_64_29 L xs, List.forall_mem_cons.mpr ⟨k_64_31 L xs, List.forall_mem_cons.mpr ⟨k_64_32 L xs, List.forall_mem_cons.mpr ⟨k_64_34 L xs, List.forall_mem_cons.mpr ⟨k_64_37 L xs, List.forall_mem_cons.mpr ⟨k_64_38 L xs, List.forall_mem_cons.mpr ⟨k_64_40 L xs, List.forall_mem_cons.mpr ⟨k_64_41 L xs, List.forall_mem_cons.mpr ⟨k_64_42 L xs, List.forall_mem_cons.mpr ⟨k_64_45 L xs, List.forall_mem_cons.mpr ⟨k_64_46 L xs, List.forall_mem_cons.mpr ⟨k_64_49 L xs, List.forall_mem_cons.mpr ⟨k_64_51 L xs, List.forall_mem_cons.mpr ⟨k_64_54 L xs, List.forall_mem_cons.mpr ⟨k_64_56 L xs, List.forall_mem_cons.mpr ⟨k_64_59 L xs, List.forall_mem_cons.mpr ⟨k_64_62 L xs, List.forall_mem_cons.mpr ⟨k_64_63 L xs, List.forall_mem_cons.mpr ⟨k_64_64 L xs, List.forall_mem_cons.mpr ⟨k_64_67 L xs, fun _ h => absurd h List.not_mem_nil⟩⟩⟩⟩⟩⟩⟩⟩⟩⟩⟩⟩⟩⟩⟩⟩⟩⟩⟩⟩⟩⟩⟩⟩⟩⟩⟩⟩⟩⟩⟩⟩⟩⟩⟩⟩
