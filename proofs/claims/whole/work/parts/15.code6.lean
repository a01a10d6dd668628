/-! CODE TABLES, and that each row is the machine's (written by wip/whole/gen.py) -/
/-- InclusionProverModel.endsSum.()I -/
def cd_165 : List (Nat × ll_O) := [
  (0, .inl (lo_aload 1 0)),
  (1, .inr (.inl (164, 1, 4))),
  (4, .inl (lo_aload 5 0)),
  (5, .inl (lo_aload 6 0)),
  (6, .inl (lo_getf 9 11 21)),
  (9, .inl (lo_push 11 (.int 30))),
  (11, .inl (lo_aload 12 0)),
  (12, .inl (lo_getf 15 11 25)),
  (15, .inl (lo_bin 16 (fun x y => x * y))),
  (16, .inl (lo_aload 17 0)),
  (17, .inl (lo_getf 20 11 23)),
  (20, .inl (lo_aload 21 0)),
  (21, .inl (lo_getf 24 11 25)),
  (24, .inl (lo_ald 25 0)),
  (25, .inr (.inl (158, 4, 28))),
  (28, .inr (.inr 1))]
theorem k_165_0 (L : Nat) (xs : Nat → Int32) : ll_OK1 cX11_endsSum RX11 (some .int) false ll_mN ll_mR ll_mK ll_cnt L xs false 0 (.inl (lo_aload 1 0)) := lk_aload_n (k := 0) (by decide +kernel) rfl
theorem k_165_1 (L : Nat) (xs : Nat → Int32) : ll_OK1 cX11_endsSum RX11 (some .int) false ll_mN ll_mR ll_mK ll_cnt L xs false 1 (.inr (.inl (164, 1, 4))) := ⟨rfl, by decide, by rw [mN_164, mK_164, mR_164]; exact lj_v 151 0 11 (RX11, TX11, 46) (by decide +kernel) tb_663 tb_664 tb_665 rfl rfl rfl rfl (by decide +kernel)⟩
theorem k_165_4 (L : Nat) (xs : Nat → Int32) : ll_OK1 cX11_endsSum RX11 (some .int) false ll_mN ll_mR ll_mK ll_cnt L xs false 4 (.inl (lo_aload 5 0)) := lk_aload_n (k := 0) (by decide +kernel) rfl
theorem k_165_5 (L : Nat) (xs : Nat → Int32) : ll_OK1 cX11_endsSum RX11 (some .int) false ll_mN ll_mR ll_mK ll_cnt L xs false 5 (.inl (lo_aload 6 0)) := lk_aload_n (k := 0) (by decide +kernel) rfl
theorem k_165_6 (L : Nat) (xs : Nat → Int32) : ll_OK1 cX11_endsSum RX11 (some .int) false ll_mN ll_mR ll_mK ll_cnt L xs false 6 (.inl (lo_getf 9 11 21)) := lk_getf (ix := 62) (ci := 11) (k := 21) (C := RX11) (T := TX11) (N := 46) (by decide +kernel) rfl in_11 (by decide) tb_623
theorem k_165_9 (L : Nat) (xs : Nat → Int32) : ll_OK1 cX11_endsSum RX11 (some .int) false ll_mN ll_mR ll_mK ll_cnt L xs false 9 (.inl (lo_push 11 (.int 30))) := lk_bipush (n := 30) (by decide +kernel) (by decide)
theorem k_165_11 (L : Nat) (xs : Nat → Int32) : ll_OK1 cX11_endsSum RX11 (some .int) false ll_mN ll_mR ll_mK ll_cnt L xs false 11 (.inl (lo_aload 12 0)) := lk_aload_n (k := 0) (by decide +kernel) rfl
theorem k_165_12 (L : Nat) (xs : Nat → Int32) : ll_OK1 cX11_endsSum RX11 (some .int) false ll_mN ll_mR ll_mK ll_cnt L xs false 12 (.inl (lo_getf 15 11 25)) := lk_getf (ix := 148) (ci := 11) (k := 25) (C := RX11) (T := TX11) (N := 46) (by decide +kernel) rfl in_11 (by decide) tb_662
theorem k_165_15 (L : Nat) (xs : Nat → Int32) : ll_OK1 cX11_endsSum RX11 (some .int) false ll_mN ll_mR ll_mK ll_cnt L xs false 15 (.inl (lo_bin 16 (fun x y => x * y))) := lk_imul (by decide +kernel)
theorem k_165_16 (L : Nat) (xs : Nat → Int32) : ll_OK1 cX11_endsSum RX11 (some .int) false ll_mN ll_mR ll_mK ll_cnt L xs false 16 (.inl (lo_aload 17 0)) := lk_aload_n (k := 0) (by decide +kernel) rfl
theorem k_165_17 (L : Nat) (xs : Nat → Int32) : ll_OK1 cX11_endsSum RX11 (some .int) false ll_mN ll_mR ll_mK ll_cnt L xs false 17 (.inl (lo_getf 20 11 23)) := lk_getf (ix := 68) (ci := 11) (k := 23) (C := RX11) (T := TX11) (N := 46) (by decide +kernel) rfl in_11 (by decide) tb_625
theorem k_165_20 (L : Nat) (xs : Nat → Int32) : ll_OK1 cX11_endsSum RX11 (some .int) false ll_mN ll_mR ll_mK ll_cnt L xs false 20 (.inl (lo_aload 21 0)) := lk_aload_n (k := 0) (by decide +kernel) rfl
theorem k_165_21 (L : Nat) (xs : Nat → Int32) : ll_OK1 cX11_endsSum RX11 (some .int) false ll_mN ll_mR ll_mK ll_cnt L xs false 21 (.inl (lo_getf 24 11 25)) := lk_getf (ix := 148) (ci := 11) (k := 25) (C := RX11) (T := TX11) (N := 46) (by decide +kernel) rfl in_11 (by decide) tb_662
theorem k_165_24 (L : Nat) (xs : Nat → Int32) : ll_OK1 cX11_endsSum RX11 (some .int) false ll_mN ll_mR ll_mK ll_cnt L xs false 24 (.inl (lo_ald 25 0)) := lk_iald (by decide +kernel)
theorem k_165_25 (L : Nat) (xs : Nat → Int32) : ll_OK1 cX11_endsSum RX11 (some .int) false ll_mN ll_mR ll_mK ll_cnt L xs false 25 (.inr (.inl (158, 4, 28))) := ⟨rfl, by decide, by rw [mN_158, mK_158, mR_158]; exact lj_v 154 3 11 (RX11, TX11, 46) (by decide +kernel) tb_666 tb_667 tb_668 rfl rfl rfl rfl (by decide +kernel)⟩
theorem k_165_28 (L : Nat) (xs : Nat → Int32) : ll_OK1 cX11_endsSum RX11 (some .int) false ll_mN ll_mR ll_mK ll_cnt L xs false 28 (.inr (.inr 1)) := ⟨(fun h => by cases h), (fun _ => ⟨(by decide +kernel), rfl⟩), fun h => by cases h⟩
theorem ok_165 (L : Nat) (xs : Nat → Int32) : ∀ q ∈ cd_165, ll_OK1 cX11_endsSum RX11 (some .int) false ll_mN ll_mR ll_mK ll_cnt L xs false q.1 q.2 :=
  List.forall_mem_cons.mpr ⟨k_165_0 L xs, List.forall_mem_cons.mpr ⟨k_165_1 L xs, List.forall_mem_cons.mpr ⟨k_165_4 L xs, List.forall_mem_cons.mpr ⟨k_165_5 L xs, List.forall_mem_cons.mpr ⟨k_165_6 L xs, List.forall_mem_cons.mpr ⟨k_165_9 L xs, List.forall_mem_cons.mpr ⟨k_165_11 L xs, List.forall_mem_cons.mpr ⟨k_165_12 L xs, List.forall_mem_cons.mpr ⟨k_165_15 L xs, List.forall_mem_cons.mpr ⟨k_165_16 L xs, List.forall_mem_cons.mpr ⟨k_165_17 L xs, List.forall_mem_cons.mpr ⟨k_165_20 L xs, List.forall_mem_cons.mpr ⟨k_165_21 L xs, List.forall_mem_cons.mpr ⟨k_165_24 L xs, List.forall_mem_cons.mpr ⟨k_165_25 L xs, List.forall_mem_cons.mpr ⟨k_165_28 L xs, fun _ h => absurd h List.not_mem_nil⟩⟩⟩⟩⟩⟩⟩⟩⟩⟩⟩⟩⟩⟩⟩⟩
/-- InclusionProverModel.told.([III)I -/
def cd_166 : List (Nat × ll_O) := [
  (0, .inl (lo_aload 1 0)),
  (1, .inl (lo_push 2 (.int 0))),
  (2, .inl (lo_putf 5 11 25 0)),
  (5, .inl (lo_aload 6 0)),
  (6, .inl (lo_push 7 (.int (-1)))),
  (7, .inl (lo_putf 10 11 26 0)),
  (10, .inl (lo_aload 11 0)),
  (11, .inr (.inl (162, 1, 14))),
  (14, .inl (lo_push 15 (.int 1))),
  (15, .inl (lo_istore 17 4)),
  (17, .inl (lo_push 18 (.int 0))),
  (18, .inl (lo_istore 20 5)),
  (20, .inl (lo_iload 22 5)),
  (22, .inl (lo_iload 23 3)),
  (23, .inl (lo_cmp 280 26 (fun x y => decide (y ≤ x)))),
  (26, .inl (lo_aload 27 1)),
  (27, .inl (lo_iload 28 2)),
  (28, .inl (lo_iload 30 5)),
  (30, .inl (lo_bin 31 (fun x y => x + y))),
  (31, .inl (lo_ald 32 0)),
  (32, .inl (lo_istore 34 6)),
  (34, .inl (lo_iload 36 6)),
  (36, .inl (lo_push 38 (.int 32))),
  (38, .inl (lo_cmp 44 41 (fun x y => decide (¬ x = y)))),
  (41, .inl (lo_goto 274)),
  (44, .inl (lo_iload 46 6)),
  (46, .inl (lo_push 48 (.int 48))),
  (48, .inl (lo_cmp 70 51 (fun x y => decide (x = y)))),
  (51, .inl (lo_iload 53 6)),
  (53, .inl (lo_push 55 (.int 49))),
  (55, .inl (lo_cmp 70 58 (fun x y => decide (x = y)))),
  (58, .inl (lo_iload 60 6)),
  (60, .inl (lo_push 62 (.int 97))),
  (62, .inl (lo_push 64 (.int 99))),
  (64, .inr (.inl (151, 3, 67))),
  (67, .inl (lo_if 74 70 (fun x => decide (x = 0)))),
  (70, .inl (lo_push 71 (.int 1))),
  (71, .inl (lo_goto 75)),
  (74, .inl (lo_push 75 (.int 0))),
  (75, .inl (lo_istore 77 7)),
  (77, .inl (lo_iload 79 7)),
  (79, .inl (lo_if 121 82 (fun x => decide (x = 0)))),
  (82, .inl (lo_aload 83 0)),
  (83, .inl (lo_iload 85 6)),
  (85, .inl (lo_push 87 (.int 48))),
  (87, .inl (lo_cmp 94 90 (fun x y => decide (¬ x = y)))),
  (90, .inl (lo_push 91 (.int 0))),
  (91, .inl (lo_goto 112)),
  (94, .inl (lo_iload 96 6)),
  (96, .inl (lo_push 98 (.int 49))),
  (98, .inl (lo_cmp 105 101 (fun x y => decide (¬ x = y)))),
  (101, .inl (lo_push 102 (.int 1))),
  (102, .inl (lo_goto 112)),
  (105, .inl (lo_push 106 (.int 2))),
  (106, .inl (lo_iload 108 6)),
  (108, .inl (lo_bin 109 (fun x y => x + y))),
  (109, .inl (lo_push 111 (.int 97))),
  (111, .inl (lo_bin 112 (fun x y => x - y))),
  (112, .inr (.inl (163, 2, 115))),
  (115, .inl (lo_push 116 (.int 0))),
  (116, .inl (lo_istore 118 4)),
  (118, .inl (lo_goto 274)),
  (121, .inl (lo_iload 123 6)),
  (123, .inl (lo_push 125 (.int 40))),
  (125, .inl (lo_cmp 148 128 (fun x y => decide (¬ x = y)))),
  (128, .inl (lo_aload 129 0)),
  (129, .inl (lo_dup 130)),
  (130, .inl (lo_getf 133 11 25)),
  (133, .inl (lo_push 134 (.int 1))),
  (134, .inl (lo_bin 135 (fun x y => x + y))),
  (135, .inl (lo_putf 138 11 25 0)),
  (138, .inl (lo_aload 139 0)),
  (139, .inr (.inl (162, 1, 142))),
  (142, .inl (lo_push 143 (.int 1))),
  (143, .inl (lo_istore 145 4)),
  (145, .inl (lo_goto 274)),
  (148, .inl (lo_iload 150 4)),
  (150, .inl (lo_if 161 153 (fun x => decide (x = 0)))),
  (153, .inl (lo_aload 154 0)),
  (154, .inl (lo_iload 156 5)),
  (156, .inl (lo_putf 159 11 26 0)),
  (159, .inl (lo_push 160 (.int 0))),
  (160, .inr (.inr 1)),
  (161, .inl (lo_iload 163 6)),
  (163, .inl (lo_push 165 (.int 42))),
  (165, .inl (lo_cmp 210 168 (fun x y => decide (¬ x = y)))),
  (168, .inl (lo_push 170 (.int 30))),
  (170, .inl (lo_aload 171 0)),
  (171, .inl (lo_getf 174 11 25)),
  (174, .inl (lo_bin 175 (fun x y => x * y))),
  (175, .inl (lo_aload 176 0)),
  (176, .inl (lo_getf 179 11 24)),
  (179, .inl (lo_aload 180 0)),
  (180, .inl (lo_getf 183 11 25)),
  (183, .inl (lo_ald 184 0)),
  (184, .inl (lo_bin 185 (fun x y => x + y))),
  (185, .inl (lo_push 186 (.int 1))),
  (186, .inl (lo_bin 187 (fun x y => x - y))),
  (187, .inl (lo_istore 189 8)),
  (189, .inl (lo_aload 190 0)),
  (190, .inl (lo_getf 193 11 22)),
  (193, .inl (lo_iload 195 8)),
  (195, .inl (lo_aload 196 0)),
  (196, .inl (lo_aload 197 0)),
  (197, .inl (lo_getf 200 11 22)),
  (200, .inl (lo_iload 202 8)),
  (202, .inl (lo_ald 203 0)),
  (203, .inr (.inl (160, 2, 206))),
  (206, .inl (lo_ast 207 0)),
  (207, .inl (lo_goto 274)),
  (210, .inl (lo_iload 212 6)),
  (212, .inl (lo_push 214 (.int 43))),
  (214, .inl (lo_cmp 227 217 (fun x y => decide (¬ x = y)))),
  (217, .inl (lo_aload 218 0)),
  (218, .inr (.inl (164, 1, 221))),
  (221, .inl (lo_push 222 (.int 1))),
  (222, .inl (lo_istore 224 4)),
  (224, .inl (lo_goto 274)),
  (227, .inl (lo_iload 229 6)),
  (229, .inl (lo_push 231 (.int 41))),
  (231, .inl (lo_cmp 266 234 (fun x y => decide (¬ x = y)))),
  (234, .inl (lo_aload 235 0)),
  (235, .inl (lo_getf 238 11 25)),
  (238, .inl (lo_if 266 241 (fun x => decide (x ≤ 0)))),
  (241, .inl (lo_aload 242 0)),
  (242, .inr (.inl (165, 1, 245))),
  (245, .inl (lo_istore 247 8)),
  (247, .inl (lo_aload 248 0)),
  (248, .inl (lo_dup 249)),
  (249, .inl (lo_getf 252 11 25)),
  (252, .inl (lo_push 253 (.int 1))),
  (253, .inl (lo_bin 254 (fun x y => x - y))),
  (254, .inl (lo_putf 257 11 25 0)),
  (257, .inl (lo_aload 258 0)),
  (258, .inl (lo_iload 260 8)),
  (260, .inr (.inl (163, 2, 263))),
  (263, .inl (lo_goto 274)),
  (266, .inl (lo_aload 267 0)),
  (267, .inl (lo_iload 269 5)),
  (269, .inl (lo_putf 272 11 26 0)),
  (272, .inl (lo_push 273 (.int 0))),
  (273, .inr (.inr 1)),
  (274, .inl (lo_iinc 277 5 1)),
  (277, .inl (lo_goto 20)),
  (280, .inl (lo_iload 282 4)),
  (282, .inl (lo_if 292 285 (fun x => decide (¬ x = 0)))),
  (285, .inl (lo_aload 286 0)),
  (286, .inl (lo_getf 289 11 25)),
  (289, .inl (lo_if 299 292 (fun x => decide (x ≤ 0)))),
  (292, .inl (lo_aload 293 0)),
  (293, .inl (lo_iload 294 3)),
  (294, .inl (lo_putf 297 11 26 0)),
  (297, .inl (lo_push 298 (.int 0))),
  (298, .inr (.inr 1)),
  (299, .inl (lo_aload 300 0)),
  (300, .inr (.inl (165, 1, 303))),
  (303, .inr (.inr 1))]
theorem k_166_0 (L : Nat) (xs : Nat → Int32) : ll_OK1 cX11_told RX11 (some .int) false ll_mN ll_mR ll_mK ll_cnt L xs false 0 (.inl (lo_aload 1 0)) := lk_aload_n (k := 0) (by decide +kernel) rfl
theorem k_166_1 (L : Nat) (xs : Nat → Int32) : ll_OK1 cX11_told RX11 (some .int) false ll_mN ll_mR ll_mK ll_cnt L xs false 1 (.inl (lo_push 2 (.int 0))) := lk_iconst (n := 0) (by decide +kernel) (by decide)
theorem k_166_2 (L : Nat) (xs : Nat → Int32) : ll_OK1 cX11_told RX11 (some .int) false ll_mN ll_mR ll_mK ll_cnt L xs false 2 (.inl (lo_putf 5 11 25 0)) := lk_putf (ix := 148) (ci := 11) (k := 25) (C := RX11) (T := TX11) (N := 46) (ty0 := tyX11) (by decide +kernel) rfl in_11 tyX11_ok nmX11 (by decide) tb_662 (fun B adr v w h1 h2 => ll_fit_int (B := B) (adr := adr) h1 h2) (Or.inl rfl)
theorem k_166_5 (L : Nat) (xs : Nat → Int32) : ll_OK1 cX11_told RX11 (some .int) false ll_mN ll_mR ll_mK ll_cnt L xs false 5 (.inl (lo_aload 6 0)) := lk_aload_n (k := 0) (by decide +kernel) rfl
theorem k_166_6 (L : Nat) (xs : Nat → Int32) : ll_OK1 cX11_told RX11 (some .int) false ll_mN ll_mR ll_mK ll_cnt L xs false 6 (.inl (lo_push 7 (.int (-1)))) := lk_iconst (n := (-1)) (by decide +kernel) (by decide)
theorem k_166_7 (L : Nat) (xs : Nat → Int32) : ll_OK1 cX11_told RX11 (some .int) false ll_mN ll_mR ll_mK ll_cnt L xs false 7 (.inl (lo_putf 10 11 26 0)) := lk_putf (ix := 157) (ci := 11) (k := 26) (C := RX11) (T := TX11) (N := 46) (ty0 := tyX11) (by decide +kernel) rfl in_11 tyX11_ok nmX11 (by decide) tb_669 (fun B adr v w h1 h2 => ll_fit_int (B := B) (adr := adr) h1 h2) (Or.inl rfl)
theorem k_166_10 (L : Nat) (xs : Nat → Int32) : ll_OK1 cX11_told RX11 (some .int) false ll_mN ll_mR ll_mK ll_cnt L xs false 10 (.inl (lo_aload 11 0)) := lk_aload_n (k := 0) (by decide +kernel) rfl
theorem k_166_11 (L : Nat) (xs : Nat → Int32) : ll_OK1 cX11_told RX11 (some .int) false ll_mN ll_mR ll_mK ll_cnt L xs false 11 (.inr (.inl (162, 1, 14))) := ⟨rfl, by decide, by rw [mN_162, mK_162, mR_162]; exact lj_v 160 0 11 (RX11, TX11, 46) (by decide +kernel) tb_670 tb_671 tb_672 rfl rfl rfl rfl (by decide +kernel)⟩
theorem k_166_14 (L : Nat) (xs : Nat → Int32) : ll_OK1 cX11_told RX11 (some .int) false ll_mN ll_mR ll_mK ll_cnt L xs false 14 (.inl (lo_push 15 (.int 1))) := lk_iconst (n := 1) (by decide +kernel) (by decide)
theorem k_166_15 (L : Nat) (xs : Nat → Int32) : ll_OK1 cX11_told RX11 (some .int) false ll_mN ll_mR ll_mK ll_cnt L xs false 15 (.inl (lo_istore 17 4)) := lk_istore (by decide +kernel)
theorem k_166_17 (L : Nat) (xs : Nat → Int32) : ll_OK1 cX11_told RX11 (some .int) false ll_mN ll_mR ll_mK ll_cnt L xs false 17 (.inl (lo_push 18 (.int 0))) := lk_iconst (n := 0) (by decide +kernel) (by decide)
theorem k_166_18 (L : Nat) (xs : Nat → Int32) : ll_OK1 cX11_told RX11 (some .int) false ll_mN ll_mR ll_mK ll_cnt L xs false 18 (.inl (lo_istore 20 5)) := lk_istore (by decide +kernel)
theorem k_166_20 (L : Nat) (xs : Nat → Int32) : ll_OK1 cX11_told RX11 (some .int) false ll_mN ll_mR ll_mK ll_cnt L xs false 20 (.inl (lo_iload 22 5)) := lk_iload (by decide +kernel)
theorem k_166_22 (L : Nat) (xs : Nat → Int32) : ll_OK1 cX11_told RX11 (some .int) false ll_mN ll_mR ll_mK ll_cnt L xs false 22 (.inl (lo_iload 23 3)) := lk_iload_n (k := 3) (by decide +kernel) rfl
theorem k_166_23 (L : Nat) (xs : Nat → Int32) : ll_OK1 cX11_told RX11 (some .int) false ll_mN ll_mR ll_mK ll_cnt L xs false 23 (.inl (lo_cmp 280 26 (fun x y => decide (y ≤ x)))) := lk_icmp_ge (off := 257) (by decide +kernel) rfl
theorem k_166_26 (L : Nat) (xs : Nat → Int32) : ll_OK1 cX11_told RX11 (some .int) false ll_mN ll_mR ll_mK ll_cnt L xs false 26 (.inl (lo_aload 27 1)) := lk_aload_n (k := 1) (by decide +kernel) rfl
theorem k_166_27 (L : Nat) (xs : Nat → Int32) : ll_OK1 cX11_told RX11 (some .int) false ll_mN ll_mR ll_mK ll_cnt L xs false 27 (.inl (lo_iload 28 2)) := lk_iload_n (k := 2) (by decide +kernel) rfl
theorem k_166_28 (L : Nat) (xs : Nat → Int32) : ll_OK1 cX11_told RX11 (some .int) false ll_mN ll_mR ll_mK ll_cnt L xs false 28 (.inl (lo_iload 30 5)) := lk_iload (by decide +kernel)
theorem k_166_30 (L : Nat) (xs : Nat → Int32) : ll_OK1 cX11_told RX11 (some .int) false ll_mN ll_mR ll_mK ll_cnt L xs false 30 (.inl (lo_bin 31 (fun x y => x + y))) := lk_iadd (by decide +kernel)
theorem k_166_31 (L : Nat) (xs : Nat → Int32) : ll_OK1 cX11_told RX11 (some .int) false ll_mN ll_mR ll_mK ll_cnt L xs false 31 (.inl (lo_ald 32 0)) := lk_iald (by decide +kernel)
theorem k_166_32 (L : Nat) (xs : Nat → Int32) : ll_OK1 cX11_told RX11 (some .int) false ll_mN ll_mR ll_mK ll_cnt L xs false 32 (.inl (lo_istore 34 6)) := lk_istore (by decide +kernel)
theorem k_166_34 (L : Nat) (xs : Nat → Int32) : ll_OK1 cX11_told RX11 (some .int) false ll_mN ll_mR ll_mK ll_cnt L xs false 34 (.inl (lo_iload 36 6)) := lk_iload (by decide +kernel)
theorem k_166_36 (L : Nat) (xs : Nat → Int32) : ll_OK1 cX11_told RX11 (some .int) false ll_mN ll_mR ll_mK ll_cnt L xs false 36 (.inl (lo_push 38 (.int 32))) := lk_bipush (n := 32) (by decide +kernel) (by decide)
theorem k_166_38 (L : Nat) (xs : Nat → Int32) : ll_OK1 cX11_told RX11 (some .int) false ll_mN ll_mR ll_mK ll_cnt L xs false 38 (.inl (lo_cmp 44 41 (fun x y => decide (¬ x = y)))) := lk_icmp_ne (off := 6) (by decide +kernel) rfl
theorem k_166_41 (L : Nat) (xs : Nat → Int32) : ll_OK1 cX11_told RX11 (some .int) false ll_mN ll_mR ll_mK ll_cnt L xs false 41 (.inl (lo_goto 274)) := lk_goto (off := 233) (by decide +kernel) rfl
theorem k_166_44 (L : Nat) (xs : Nat → Int32) : ll_OK1 cX11_told RX11 (some .int) false ll_mN ll_mR ll_mK ll_cnt L xs false 44 (.inl (lo_iload 46 6)) := lk_iload (by decide +kernel)
theorem k_166_46 (L : Nat) (xs : Nat → Int32) : ll_OK1 cX11_told RX11 (some .int) false ll_mN ll_mR ll_mK ll_cnt L xs false 46 (.inl (lo_push 48 (.int 48))) := lk_bipush (n := 48) (by decide +kernel) (by decide)
theorem k_166_48 (L : Nat) (xs : Nat → Int32) : ll_OK1 cX11_told RX11 (some .int) false ll_mN ll_mR ll_mK ll_cnt L xs false 48 (.inl (lo_cmp 70 51 (fun x y => decide (x = y)))) := lk_icmp_eq (off := 22) (by decide +kernel) rfl
theorem k_166_51 (L : Nat) (xs : Nat → Int32) : ll_OK1 cX11_told RX11 (some .int) false ll_mN ll_mR ll_mK ll_cnt L xs false 51 (.inl (lo_iload 53 6)) := lk_iload (by decide +kernel)
theorem k_166_53 (L : Nat) (xs : Nat → Int32) : ll_OK1 cX11_told RX11 (some .int) false ll_mN ll_mR ll_mK ll_cnt L xs false 53 (.inl (lo_push 55 (.int 49))) := lk_bipush (n := 49) (by decide +kernel) (by decide)
theorem k_166_55 (L : Nat) (xs : Nat → Int32) : ll_OK1 cX11_told RX11 (some .int) false ll_mN ll_mR ll_mK ll_cnt L xs false 55 (.inl (lo_cmp 70 58 (fun x y => decide (x = y)))) := lk_icmp_eq (off := 15) (by decide +kernel) rfl
theorem k_166_58 (L : Nat) (xs : Nat → Int32) : ll_OK1 cX11_told RX11 (some .int) false ll_mN ll_mR ll_mK ll_cnt L xs false 58 (.inl (lo_iload 60 6)) := lk_iload (by decide +kernel)
theorem k_166_60 (L : Nat) (xs : Nat → Int32) : ll_OK1 cX11_told RX11 (some .int) false ll_mN ll_mR ll_mK ll_cnt L xs false 60 (.inl (lo_push 62 (.int 97))) := lk_bipush (n := 97) (by decide +kernel) (by decide)
theorem k_166_62 (L : Nat) (xs : Nat → Int32) : ll_OK1 cX11_told RX11 (some .int) false ll_mN ll_mR ll_mK ll_cnt L xs false 62 (.inl (lo_push 64 (.int 99))) := lk_bipush (n := 99) (by decide +kernel) (by decide)
theorem k_166_64 (L : Nat) (xs : Nat → Int32) : ll_OK1 cX11_told RX11 (some .int) false ll_mN ll_mR ll_mK ll_cnt L xs false 64 (.inr (.inl (151, 3, 67))) := ⟨rfl, by decide, by rw [mN_151, mK_151, mR_151]; exact lj_s 163 (by decide +kernel) tb_673 tb_674 (by decide +kernel)⟩
theorem k_166_67 (L : Nat) (xs : Nat → Int32) : ll_OK1 cX11_told RX11 (some .int) false ll_mN ll_mR ll_mK ll_cnt L xs false 67 (.inl (lo_if 74 70 (fun x => decide (x = 0)))) := lk_if_eq (off := 7) (by decide +kernel) rfl
theorem k_166_70 (L : Nat) (xs : Nat → Int32) : ll_OK1 cX11_told RX11 (some .int) false ll_mN ll_mR ll_mK ll_cnt L xs false 70 (.inl (lo_push 71 (.int 1))) := lk_iconst (n := 1) (by decide +kernel) (by decide)
theorem k_166_71 (L : Nat) (xs : Nat → Int32) : ll_OK1 cX11_told RX11 (some .int) false ll_mN ll_mR ll_mK ll_cnt L xs false 71 (.inl (lo_goto 75)) := lk_goto (off := 4) (by decide +kernel) rfl
theorem k_166_74 (L : Nat) (xs : Nat → Int32) : ll_OK1 cX11_told RX11 (some .int) false ll_mN ll_mR ll_mK ll_cnt L xs false 74 (.inl (lo_push 75 (.int 0))) := lk_iconst (n := 0) (by decide +kernel) (by decide)
theorem k_166_75 (L : Nat) (xs : Nat → Int32) : ll_OK1 cX11_told RX11 (some .int) false ll_mN ll_mR ll_mK ll_cnt L xs false 75 (.inl (lo_istore 77 7)) := lk_istore (by decide +kernel)
theorem k_166_77 (L : Nat) (xs : Nat → Int32) : ll_OK1 cX11_told RX11 (some .int) false ll_mN ll_mR ll_mK ll_cnt L xs false 77 (.inl (lo_iload 79 7)) := lk_iload (by decide +kernel)
theorem k_166_79 (L : Nat) (xs : Nat → Int32) : ll_OK1 cX11_told RX11 (some .int) false ll_mN ll_mR ll_mK ll_cnt L xs false 79 (.inl (lo_if 121 82 (fun x => decide (x = 0)))) := lk_if_eq (off := 42) (by decide +kernel) rfl
theorem k_166_82 (L : Nat) (xs : Nat → Int32) : ll_OK1 cX11_told RX11 (some .int) false ll_mN ll_mR ll_mK ll_cnt L xs false 82 (.inl (lo_aload 83 0)) := lk_aload_n (k := 0) (by decide +kernel) rfl
theorem k_166_83 (L : Nat) (xs : Nat → Int32) : ll_OK1 cX11_told RX11 (some .int) false ll_mN ll_mR ll_mK ll_cnt L xs false 83 (.inl (lo_iload 85 6)) := lk_iload (by decide +kernel)
theorem k_166_85 (L : Nat) (xs : Nat → Int32) : ll_OK1 cX11_told RX11 (some .int) false ll_mN ll_mR ll_mK ll_cnt L xs false 85 (.inl (lo_push 87 (.int 48))) := lk_bipush (n := 48) (by decide +kernel) (by decide)
theorem k_166_87 (L : Nat) (xs : Nat → Int32) : ll_OK1 cX11_told RX11 (some .int) false ll_mN ll_mR ll_mK ll_cnt L xs false 87 (.inl (lo_cmp 94 90 (fun x y => decide (¬ x = y)))) := lk_icmp_ne (off := 7) (by decide +kernel) rfl
theorem k_166_90 (L : Nat) (xs : Nat → Int32) : ll_OK1 cX11_told RX11 (some .int) false ll_mN ll_mR ll_mK ll_cnt L xs false 90 (.inl (lo_push 91 (.int 0))) := lk_iconst (n := 0) (by decide +kernel) (by decide)
theorem k_166_91 (L : Nat) (xs : Nat → Int32) : ll_OK1 cX11_told RX11 (some .int) false ll_mN ll_mR ll_mK ll_cnt L xs false 91 (.inl (lo_goto 112)) := lk_goto (off := 21) (by decide +kernel) rfl
theorem k_166_94 (L : Nat) (xs : Nat → Int32) : ll_OK1 cX11_told RX11 (some .int) false ll_mN ll_mR ll_mK ll_cnt L xs false 94 (.inl (lo_iload 96 6)) := lk_iload (by decide +kernel)
theorem k_166_96 (L : Nat) (xs : Nat → Int32) : ll_OK1 cX11_told RX11 (some .int) false ll_mN ll_mR ll_mK ll_cnt L xs false 96 (.inl (lo_push 98 (.int 49))) := lk_bipush (n := 49) (by decide +kernel) (by decide)
theorem k_166_98 (L : Nat) (xs : Nat → Int32) : ll_OK1 cX11_told RX11 (some .int) false ll_mN ll_mR ll_mK ll_cnt L xs false 98 (.inl (lo_cmp 105 101 (fun x y => decide (¬ x = y)))) := lk_icmp_ne (off := 7) (by decide +kernel) rfl
theorem k_166_101 (L : Nat) (xs : Nat → Int32) : ll_OK1 cX11_told RX11 (some .int) false ll_mN ll_mR ll_mK ll_cnt L xs false 101 (.inl (lo_push 102 (.int 1))) := lk_iconst (n := 1) (by decide +kernel) (by decide)
theorem k_166_102 (L : Nat) (xs : Nat → Int32) : ll_OK1 cX11_told RX11 (some .int) false ll_mN ll_mR ll_mK ll_cnt L xs false 102 (.inl (lo_goto 112)) := lk_goto (off := 10) (by decide +kernel) rfl
theorem k_166_105 (L : Nat) (xs : Nat → Int32) : ll_OK1 cX11_told RX11 (some .int) false ll_mN ll_mR ll_mK ll_cnt L xs false 105 (.inl (lo_push 106 (.int 2))) := lk_iconst (n := 2) (by decide +kernel) (by decide)
theorem k_166_106 (L : Nat) (xs : Nat → Int32) : ll_OK1 cX11_told RX11 (some .int) false ll_mN ll_mR ll_mK ll_cnt L xs false 106 (.inl (lo_iload 108 6)) := lk_iload (by decide +kernel)
theorem k_166_108 (L : Nat) (xs : Nat → Int32) : ll_OK1 cX11_told RX11 (some .int) false ll_mN ll_mR ll_mK ll_cnt L xs false 108 (.inl (lo_bin 109 (fun x y => x + y))) := lk_iadd (by decide +kernel)
theorem k_166_109 (L : Nat) (xs : Nat → Int32) : ll_OK1 cX11_told RX11 (some .int) false ll_mN ll_mR ll_mK ll_cnt L xs false 109 (.inl (lo_push 111 (.int 97))) := lk_bipush (n := 97) (by decide +kernel) (by decide)
theorem k_166_111 (L : Nat) (xs : Nat → Int32) : ll_OK1 cX11_told RX11 (some .int) false ll_mN ll_mR ll_mK ll_cnt L xs false 111 (.inl (lo_bin 112 (fun x y => x - y))) := lk_isub (by decide +kernel)
theorem k_166_112 (L : Nat) (xs : Nat → Int32) : ll_OK1 cX11_told RX11 (some .int) false ll_mN ll_mR ll_mK ll_cnt L xs false 112 (.inr (.inl (163, 2, 115))) := ⟨rfl, by decide, by rw [mN_163, mK_163, mR_163]; exact lj_v 167 1 11 (RX11, TX11, 46) (by decide +kernel) tb_675 tb_676 tb_677 rfl rfl rfl rfl (by decide +kernel)⟩
theorem k_166_115 (L : Nat) (xs : Nat → Int32) : ll_OK1 cX11_told RX11 (some .int) false ll_mN ll_mR ll_mK ll_cnt L xs false 115 (.inl (lo_push 116 (.int 0))) := lk_iconst (n := 0) (by decide +kernel) (by decide)
theorem k_166_116 (L : Nat) (xs : Nat → Int32) : ll_OK1 cX11_told RX11 (some .int) false ll_mN ll_mR ll_mK ll_cnt L xs false 116 (.inl (lo_istore 118 4)) := lk_istore (by decide +kernel)
theorem k_166_118 (L : Nat) (xs : Nat → Int32) : ll_OK1 cX11_told RX11 (some .int) false ll_mN ll_mR ll_mK ll_cnt L xs false 118 (.inl (lo_goto 274)) := lk_goto (off := 156) (by decide +kernel) rfl
theorem k_166_121 (L : Nat) (xs : Nat → Int32) : ll_OK1 cX11_told RX11 (some .int) false ll_mN ll_mR ll_mK ll_cnt L xs false 121 (.inl (lo_iload 123 6)) := lk_iload (by decide +kernel)
theorem k_166_123 (L : Nat) (xs : Nat → Int32) : ll_OK1 cX11_told RX11 (some .int) false ll_mN ll_mR ll_mK ll_cnt L xs false 123 (.inl (lo_push 125 (.int 40))) := lk_bipush (n := 40) (by decide +kernel) (by decide)
theorem k_166_125 (L : Nat) (xs : Nat → Int32) : ll_OK1 cX11_told RX11 (some .int) false ll_mN ll_mR ll_mK ll_cnt L xs false 125 (.inl (lo_cmp 148 128 (fun x y => decide (¬ x = y)))) := lk_icmp_ne (off := 23) (by decide +kernel) rfl
theorem k_166_128 (L : Nat) (xs : Nat → Int32) : ll_OK1 cX11_told RX11 (some .int) false ll_mN ll_mR ll_mK ll_cnt L xs false 128 (.inl (lo_aload 129 0)) := lk_aload_n (k := 0) (by decide +kernel) rfl
theorem k_166_129 (L : Nat) (xs : Nat → Int32) : ll_OK1 cX11_told RX11 (some .int) false ll_mN ll_mR ll_mK ll_cnt L xs false 129 (.inl (lo_dup 130)) := lk_dup (by decide +kernel)
theorem k_166_130 (L : Nat) (xs : Nat → Int32) : ll_OK1 cX11_told RX11 (some .int) false ll_mN ll_mR ll_mK ll_cnt L xs false 130 (.inl (lo_getf 133 11 25)) := lk_getf (ix := 148) (ci := 11) (k := 25) (C := RX11) (T := TX11) (N := 46) (by decide +kernel) rfl in_11 (by decide) tb_662
theorem k_166_133 (L : Nat) (xs : Nat → Int32) : ll_OK1 cX11_told RX11 (some .int) false ll_mN ll_mR ll_mK ll_cnt L xs false 133 (.inl (lo_push 134 (.int 1))) := lk_iconst (n := 1) (by decide +kernel) (by decide)
theorem k_166_134 (L : Nat) (xs : Nat → Int32) : ll_OK1 cX11_told RX11 (some .int) false ll_mN ll_mR ll_mK ll_cnt L xs false 134 (.inl (lo_bin 135 (fun x y => x + y))) := lk_iadd (by decide +kernel)
theorem k_166_135 (L : Nat) (xs : Nat → Int32) : ll_OK1 cX11_told RX11 (some .int) false ll_mN ll_mR ll_mK ll_cnt L xs false 135 (.inl (lo_putf 138 11 25 0)) := lk_putf (ix := 148) (ci := 11) (k := 25) (C := RX11) (T := TX11) (N := 46) (ty0 := tyX11) (by decide +kernel) rfl in_11 tyX11_ok nmX11 (by decide) tb_662 (fun B adr v w h1 h2 => ll_fit_int (B := B) (adr := adr) h1 h2) (Or.inl rfl)
theorem k_166_138 (L : Nat) (xs : Nat → Int32) : ll_OK1 cX11_told RX11 (some .int) false ll_mN ll_mR ll_mK ll_cnt L xs false 138 (.inl (lo_aload 139 0)) := lk_aload_n (k := 0) (by decide +kernel) rfl
theorem k_166_139 (L : Nat) (xs : Nat → Int32) : ll_OK1 cX11_told RX11 (some .int) false ll_mN ll_mR ll_mK ll_cnt L xs false 139 (.inr (.inl (162, 1, 142))) := ⟨rfl, by decide, by rw [mN_162, mK_162, mR_162]; exact lj_v 160 0 11 (RX11, TX11, 46) (by decide +kernel) tb_670 tb_671 tb_672 rfl rfl rfl rfl (by decide +kernel)⟩
theorem k_166_142 (L : Nat) (xs : Nat → Int32) : ll_OK1 cX11_told RX11 (some .int) false ll_mN ll_mR ll_mK ll_cnt L xs false 142 (.inl (lo_push 143 (.int 1))) := lk_iconst (n := 1) (by decide +kernel) (by decide)
theorem k_166_143 (L : Nat) (xs : Nat → Int32) : ll_OK1 cX11_told RX11 (some .int) false ll_mN ll_mR ll_mK ll_cnt L xs false 143 (.inl (lo_istore 145 4)) := lk_istore (by decide +kernel)
theorem k_166_145 (L : Nat) (xs : Nat → Int32) : ll_OK1 cX11_told RX11 (some .int) false ll_mN ll_mR ll_mK ll_cnt L xs false 145 (.inl (lo_goto 274)) := lk_goto (off := 129) (by decide +kernel) rfl
theorem k_166_148 (L : Nat) (xs : Nat → Int32) : ll_OK1 cX11_told RX11 (some .int) false ll_mN ll_mR ll_mK ll_cnt L xs false 148 (.inl (lo_iload 150 4)) := lk_iload (by decide +kernel)
theorem k_166_150 (L : Nat) (xs : Nat → Int32) : ll_OK1 cX11_told RX11 (some .int) false ll_mN ll_mR ll_mK ll_cnt L xs false 150 (.inl (lo_if 161 153 (fun x => decide (x = 0)))) := lk_if_eq (off := 11) (by decide +kernel) rfl
theorem k_166_153 (L : Nat) (xs : Nat → Int32) : ll_OK1 cX11_told RX11 (some .int) false ll_mN ll_mR ll_mK ll_cnt L xs false 153 (.inl (lo_aload 154 0)) := lk_aload_n (k := 0) (by decide +kernel) rfl
theorem k_166_154 (L : Nat) (xs : Nat → Int32) : ll_OK1 cX11_told RX11 (some .int) false ll_mN ll_mR ll_mK ll_cnt L xs false 154 (.inl (lo_iload 156 5)) := lk_iload (by decide +kernel)
theorem k_166_156 (L : Nat) (xs : Nat → Int32) : ll_OK1 cX11_told RX11 (some .int) false ll_mN ll_mR ll_mK ll_cnt L xs false 156 (.inl (lo_putf 159 11 26 0)) := lk_putf (ix := 157) (ci := 11) (k := 26) (C := RX11) (T := TX11) (N := 46) (ty0 := tyX11) (by decide +kernel) rfl in_11 tyX11_ok nmX11 (by decide) tb_669 (fun B adr v w h1 h2 => ll_fit_int (B := B) (adr := adr) h1 h2) (Or.inl rfl)
theorem k_166_159 (L : Nat) (xs : Nat → Int32) : ll_OK1 cX11_told RX11 (some .int) false ll_mN ll_mR ll_mK ll_cnt L xs false 159 (.inl (lo_push 160 (.int 0))) := lk_iconst (n := 0) (by decide +kernel) (by decide)
theorem k_166_160 (L : Nat) (xs : Nat → Int32) : ll_OK1 cX11_told RX11 (some .int) false ll_mN ll_mR ll_mK ll_cnt L xs false 160 (.inr (.inr 1)) := ⟨(fun h => by cases h), (fun _ => ⟨(by decide +kernel), rfl⟩), fun h => by cases h⟩
theorem k_166_161 (L : Nat) (xs : Nat → Int32) : ll_OK1 cX11_told RX11 (some .int) false ll_mN ll_mR ll_mK ll_cnt L xs false 161 (.inl (lo_iload 163 6)) := lk_iload (by decide +kernel)
theorem k_166_163 (L : Nat) (xs : Nat → Int32) : ll_OK1 cX11_told RX11 (some .int) false ll_mN ll_mR ll_mK ll_cnt L xs false 163 (.inl (lo_push 165 (.int 42))) := lk_bipush (n := 42) (by decide +kernel) (by decide)
theorem k_166_165 (L : Nat) (xs : Nat → Int32) : ll_OK1 cX11_told RX11 (some .int) false ll_mN ll_mR ll_mK ll_cnt L xs false 165 (.inl (lo_cmp 210 168 (fun x y => decide (¬ x = y)))) := lk_icmp_ne (off := 45) (by decide +kernel) rfl
theorem k_166_168 (L : Nat) (xs : Nat → Int32) : ll_OK1 cX11_told RX11 (some .int) false ll_mN ll_mR ll_mK ll_cnt L xs false 168 (.inl (lo_push 170 (.int 30))) := lk_bipush (n := 30) (by decide +kernel) (by decide)
theorem k_166_170 (L : Nat) (xs : Nat → Int32) : ll_OK1 cX11_told RX11 (some .int) false ll_mN ll_mR ll_mK ll_cnt L xs false 170 (.inl (lo_aload 171 0)) := lk_aload_n (k := 0) (by decide +kernel) rfl
theorem k_166_171 (L : Nat) (xs : Nat → Int32) : ll_OK1 cX11_told RX11 (some .int) false ll_mN ll_mR ll_mK ll_cnt L xs false 171 (.inl (lo_getf 174 11 25)) := lk_getf (ix := 148) (ci := 11) (k := 25) (C := RX11) (T := TX11) (N := 46) (by decide +kernel) rfl in_11 (by decide) tb_662
theorem k_166_174 (L : Nat) (xs : Nat → Int32) : ll_OK1 cX11_told RX11 (some .int) false ll_mN ll_mR ll_mK ll_cnt L xs false 174 (.inl (lo_bin 175 (fun x y => x * y))) := lk_imul (by decide +kernel)
theorem k_166_175 (L : Nat) (xs : Nat → Int32) : ll_OK1 cX11_told RX11 (some .int) false ll_mN ll_mR ll_mK ll_cnt L xs false 175 (.inl (lo_aload 176 0)) := lk_aload_n (k := 0) (by decide +kernel) rfl
theorem k_166_176 (L : Nat) (xs : Nat → Int32) : ll_OK1 cX11_told RX11 (some .int) false ll_mN ll_mR ll_mK ll_cnt L xs false 176 (.inl (lo_getf 179 11 24)) := lk_getf (ix := 71) (ci := 11) (k := 24) (C := RX11) (T := TX11) (N := 46) (by decide +kernel) rfl in_11 (by decide) tb_626
theorem k_166_179 (L : Nat) (xs : Nat → Int32) : ll_OK1 cX11_told RX11 (some .int) false ll_mN ll_mR ll_mK ll_cnt L xs false 179 (.inl (lo_aload 180 0)) := lk_aload_n (k := 0) (by decide +kernel) rfl
theorem k_166_180 (L : Nat) (xs : Nat → Int32) : ll_OK1 cX11_told RX11 (some .int) false ll_mN ll_mR ll_mK ll_cnt L xs false 180 (.inl (lo_getf 183 11 25)) := lk_getf (ix := 148) (ci := 11) (k := 25) (C := RX11) (T := TX11) (N := 46) (by decide +kernel) rfl in_11 (by decide) tb_662
theorem k_166_183 (L : Nat) (xs : Nat → Int32) : ll_OK1 cX11_told RX11 (some .int) false ll_mN ll_mR ll_mK ll_cnt L xs false 183 (.inl (lo_ald 184 0)) := lk_iald (by decide +kernel)
theorem k_166_184 (L : Nat) (xs : Nat → Int32) : ll_OK1 cX11_told RX11 (some .int) false ll_mN ll_mR ll_mK ll_cnt L xs false 184 (.inl (lo_bin 185 (fun x y => x + y))) := lk_iadd (by decide +kernel)
theorem k_166_185 (L : Nat) (xs : Nat → Int32) : ll_OK1 cX11_told RX11 (some .int) false ll_mN ll_mR ll_mK ll_cnt L xs false 185 (.inl (lo_push 186 (.int 1))) := lk_iconst (n := 1) (by decide +kernel) (by decide)
theorem k_166_186 (L : Nat) (xs : Nat → Int32) : ll_OK1 cX11_told RX11 (some .int) false ll_mN ll_mR ll_mK ll_cnt L xs false 186 (.inl (lo_bin 187 (fun x y => x - y))) := lk_isub (by decide +kernel)
theorem k_166_187 (L : Nat) (xs : Nat → Int32) : ll_OK1 cX11_told RX11 (some .int) false ll_mN ll_mR ll_mK ll_cnt L xs false 187 (.inl (lo_istore 189 8)) := lk_istore (by decide +kernel)
theorem k_166_189 (L : Nat) (xs : Nat → Int32) : ll_OK1 cX11_told RX11 (some .int) false ll_mN ll_mR ll_mK ll_cnt L xs false 189 (.inl (lo_aload 190 0)) := lk_aload_n (k := 0) (by decide +kernel) rfl
theorem k_166_190 (L : Nat) (xs : Nat → Int32) : ll_OK1 cX11_told RX11 (some .int) false ll_mN ll_mR ll_mK ll_cnt L xs false 190 (.inl (lo_getf 193 11 22)) := lk_getf (ix := 65) (ci := 11) (k := 22) (C := RX11) (T := TX11) (N := 46) (by decide +kernel) rfl in_11 (by decide) tb_624
theorem k_166_193 (L : Nat) (xs : Nat → Int32) : ll_OK1 cX11_told RX11 (some .int) false ll_mN ll_mR ll_mK ll_cnt L xs false 193 (.inl (lo_iload 195 8)) := lk_iload (by decide +kernel)
theorem k_166_195 (L : Nat) (xs : Nat → Int32) : ll_OK1 cX11_told RX11 (some .int) false ll_mN ll_mR ll_mK ll_cnt L xs false 195 (.inl (lo_aload 196 0)) := lk_aload_n (k := 0) (by decide +kernel) rfl
theorem k_166_196 (L : Nat) (xs : Nat → Int32) : ll_OK1 cX11_told RX11 (some .int) false ll_mN ll_mR ll_mK ll_cnt L xs false 196 (.inl (lo_aload 197 0)) := lk_aload_n (k := 0) (by decide +kernel) rfl
theorem k_166_197 (L : Nat) (xs : Nat → Int32) : ll_OK1 cX11_told RX11 (some .int) false ll_mN ll_mR ll_mK ll_cnt L xs false 197 (.inl (lo_getf 200 11 22)) := lk_getf (ix := 65) (ci := 11) (k := 22) (C := RX11) (T := TX11) (N := 46) (by decide +kernel) rfl in_11 (by decide) tb_624
theorem k_166_200 (L : Nat) (xs : Nat → Int32) : ll_OK1 cX11_told RX11 (some .int) false ll_mN ll_mR ll_mK ll_cnt L xs false 200 (.inl (lo_iload 202 8)) := lk_iload (by decide +kernel)
theorem k_166_202 (L : Nat) (xs : Nat → Int32) : ll_OK1 cX11_told RX11 (some .int) false ll_mN ll_mR ll_mK ll_cnt L xs false 202 (.inl (lo_ald 203 0)) := lk_iald (by decide +kernel)
theorem k_166_203 (L : Nat) (xs : Nat → Int32) : ll_OK1 cX11_told RX11 (some .int) false ll_mN ll_mR ll_mK ll_cnt L xs false 203 (.inr (.inl (160, 2, 206))) := ⟨rfl, by decide, by rw [mN_160, mK_160, mR_160]; exact lj_v 170 1 11 (RX11, TX11, 46) (by decide +kernel) tb_678 tb_679 tb_680 rfl rfl rfl rfl (by decide +kernel)⟩
theorem k_166_206 (L : Nat) (xs : Nat → Int32) : ll_OK1 cX11_told RX11 (some .int) false ll_mN ll_mR ll_mK ll_cnt L xs false 206 (.inl (lo_ast 207 0)) := lk_iast (by decide +kernel)
theorem k_166_207 (L : Nat) (xs : Nat → Int32) : ll_OK1 cX11_told RX11 (some .int) false ll_mN ll_mR ll_mK ll_cnt L xs false 207 (.inl (lo_goto 274)) := lk_goto (off := 67) (by decide +kernel) rfl
theorem k_166_210 (L : Nat) (xs : Nat → Int32) : ll_OK1 cX11_told RX11 (some .int) false ll_mN ll_mR ll_mK ll_cnt L xs false 210 (.inl (lo_iload 212 6)) := lk_iload (by decide +kernel)
theorem k_166_212 (L : Nat) (xs : Nat → Int32) : ll_OK1 cX11_told RX11 (some .int) false ll_mN ll_mR ll_mK ll_cnt L xs false 212 (.inl (lo_push 214 (.int 43))) := lk_bipush (n := 43) (by decide +kernel) (by decide)
theorem k_166_214 (L : Nat) (xs : Nat → Int32) : ll_OK1 cX11_told RX11 (some .int) false ll_mN ll_mR ll_mK ll_cnt L xs false 214 (.inl (lo_cmp 227 217 (fun x y => decide (¬ x = y)))) := lk_icmp_ne (off := 13) (by decide +kernel) rfl
theorem k_166_217 (L : Nat) (xs : Nat → Int32) : ll_OK1 cX11_told RX11 (some .int) false ll_mN ll_mR ll_mK ll_cnt L xs false 217 (.inl (lo_aload 218 0)) := lk_aload_n (k := 0) (by decide +kernel) rfl
theorem k_166_218 (L : Nat) (xs : Nat → Int32) : ll_OK1 cX11_told RX11 (some .int) false ll_mN ll_mR ll_mK ll_cnt L xs false 218 (.inr (.inl (164, 1, 221))) := ⟨rfl, by decide, by rw [mN_164, mK_164, mR_164]; exact lj_v 151 0 11 (RX11, TX11, 46) (by decide +kernel) tb_663 tb_664 tb_665 rfl rfl rfl rfl (by decide +kernel)⟩
theorem k_166_221 (L : Nat) (xs : Nat → Int32) : ll_OK1 cX11_told RX11 (some .int) false ll_mN ll_mR ll_mK ll_cnt L xs false 221 (.inl (lo_push 222 (.int 1))) := lk_iconst (n := 1) (by decide +kernel) (by decide)
theorem k_166_222 (L : Nat) (xs : Nat → Int32) : ll_OK1 cX11_told RX11 (some .int) false ll_mN ll_mR ll_mK ll_cnt L xs false 222 (.inl (lo_istore 224 4)) := lk_istore (by decide +kernel)
theorem k_166_224 (L : Nat) (xs : Nat → Int32) : ll_OK1 cX11_told RX11 (some .int) false ll_mN ll_mR ll_mK ll_cnt L xs false 224 (.inl (lo_goto 274)) := lk_goto (off := 50) (by decide +kernel) rfl
theorem k_166_227 (L : Nat) (xs : Nat → Int32) : ll_OK1 cX11_told RX11 (some .int) false ll_mN ll_mR ll_mK ll_cnt L xs false 227 (.inl (lo_iload 229 6)) := lk_iload (by decide +kernel)
theorem k_166_229 (L : Nat) (xs : Nat → Int32) : ll_OK1 cX11_told RX11 (some .int) false ll_mN ll_mR ll_mK ll_cnt L xs false 229 (.inl (lo_push 231 (.int 41))) := lk_bipush (n := 41) (by decide +kernel) (by decide)
theorem k_166_231 (L : Nat) (xs : Nat → Int32) : ll_OK1 cX11_told RX11 (some .int) false ll_mN ll_mR ll_mK ll_cnt L xs false 231 (.inl (lo_cmp 266 234 (fun x y => decide (¬ x = y)))) := lk_icmp_ne (off := 35) (by decide +kernel) rfl
theorem k_166_234 (L : Nat) (xs : Nat → Int32) : ll_OK1 cX11_told RX11 (some .int) false ll_mN ll_mR ll_mK ll_cnt L xs false 234 (.inl (lo_aload 235 0)) := lk_aload_n (k := 0) (by decide +kernel) rfl
theorem k_166_235 (L : Nat) (xs : Nat → Int32) : ll_OK1 cX11_told RX11 (some .int) false ll_mN ll_mR ll_mK ll_cnt L xs false 235 (.inl (lo_getf 238 11 25)) := lk_getf (ix := 148) (ci := 11) (k := 25) (C := RX11) (T := TX11) (N := 46) (by decide +kernel) rfl in_11 (by decide) tb_662
theorem k_166_238 (L : Nat) (xs : Nat → Int32) : ll_OK1 cX11_told RX11 (some .int) false ll_mN ll_mR ll_mK ll_cnt L xs false 238 (.inl (lo_if 266 241 (fun x => decide (x ≤ 0)))) := lk_if_le (off := 28) (by decide +kernel) rfl
theorem k_166_241 (L : Nat) (xs : Nat → Int32) : ll_OK1 cX11_told RX11 (some .int) false ll_mN ll_mR ll_mK ll_cnt L xs false 241 (.inl (lo_aload 242 0)) := lk_aload_n (k := 0) (by decide +kernel) rfl
theorem k_166_242 (L : Nat) (xs : Nat → Int32) : ll_OK1 cX11_told RX11 (some .int) false ll_mN ll_mR ll_mK ll_cnt L xs false 242 (.inr (.inl (165, 1, 245))) := ⟨rfl, by decide, by rw [mN_165, mK_165, mR_165]; exact lj_v 174 0 11 (RX11, TX11, 46) (by decide +kernel) tb_681 tb_682 tb_683 rfl rfl rfl rfl (by decide +kernel)⟩
theorem k_166_245 (L : Nat) (xs : Nat → Int32) : ll_OK1 cX11_told RX11 (some .int) false ll_mN ll_mR ll_mK ll_cnt L xs false 245 (.inl (lo_istore 247 8)) := lk_istore (by decide +kernel)
theorem k_166_247 (L : Nat) (xs : Nat → Int32) : ll_OK1 cX11_told RX11 (some .int) false ll_mN ll_mR ll_mK ll_cnt L xs false 247 (.inl (lo_aload 248 0)) := lk_aload_n (k := 0) (by decide +kernel) rfl
theorem k_166_248 (L : Nat) (xs : Nat → Int32) : ll_OK1 cX11_told RX11 (some .int) false ll_mN ll_mR ll_mK ll_cnt L xs false 248 (.inl (lo_dup 249)) := lk_dup (by decide +kernel)
theorem k_166_249 (L : Nat) (xs : Nat → Int32) : ll_OK1 cX11_told RX11 (some .int) false ll_mN ll_mR ll_mK ll_cnt L xs false 249 (.inl (lo_getf 252 11 25)) := lk_getf (ix := 148) (ci := 11) (k := 25) (C := RX11) (T := TX11) (N := 46) (by decide +kernel) rfl in_11 (by decide) tb_662
theorem k_166_252 (L : Nat) (xs : Nat → Int32) : ll_OK1 cX11_told RX11 (some .int) false ll_mN ll_mR ll_mK ll_cnt L xs false 252 (.inl (lo_push 253 (.int 1))) := lk_iconst (n := 1) (by decide +kernel) (by decide)
theorem k_166_253 (L : Nat) (xs : Nat → Int32) : ll_OK1 cX11_told RX11 (some .int) false ll_mN ll_mR ll_mK ll_cnt L xs false 253 (.inl (lo_bin 254 (fun x y => x - y))) := lk_isub (by decide +kernel)
theorem k_166_254 (L : Nat) (xs : Nat → Int32) : ll_OK1 cX11_told RX11 (some .int) false ll_mN ll_mR ll_mK ll_cnt L xs false 254 (.inl (lo_putf 257 11 25 0)) := lk_putf (ix := 148) (ci := 11) (k := 25) (C := RX11) (T := TX11) (N := 46) (ty0 := tyX11) (by decide +kernel) rfl in_11 tyX11_ok nmX11 (by decide) tb_662 (fun B adr v w h1 h2 => ll_fit_int (B := B) (adr := adr) h1 h2) (Or.inl rfl)
theorem k_166_257 (L : Nat) (xs : Nat → Int32) : ll_OK1 cX11_told RX11 (some .int) false ll_mN ll_mR ll_mK ll_cnt L xs false 257 (.inl (lo_aload 258 0)) := lk_aload_n (k := 0) (by decide +kernel) rfl
theorem k_166_258 (L : Nat) (xs : Nat → Int32) : ll_OK1 cX11_told RX11 (some .int) false ll_mN ll_mR ll_mK ll_cnt L xs false 258 (.inl (lo_iload 260 8)) := lk_iload (by decide +kernel)
theorem k_166_260 (L : Nat) (xs : Nat → Int32) : ll_OK1 cX11_told RX11 (some .int) false ll_mN ll_mR ll_mK ll_cnt L xs false 260 (.inr (.inl (163, 2, 263))) := ⟨rfl, by decide, by rw [mN_163, mK_163, mR_163]; exact lj_v 167 1 11 (RX11, TX11, 46) (by decide +kernel) tb_675 tb_676 tb_677 rfl rfl rfl rfl (by decide +kernel)⟩
theorem k_166_263 (L : Nat) (xs : Nat → Int32) : ll_OK1 cX11_told RX11 (some .int) false ll_mN ll_mR ll_mK ll_cnt L xs false 263 (.inl (lo_goto 274)) := lk_goto (off := 11) (by decide +kernel) rfl
theorem k_166_266 (L : Nat) (xs : Nat → Int32) : ll_OK1 cX11_told RX11 (some .int) false ll_mN ll_mR ll_mK ll_cnt L xs false 266 (.inl (lo_aload 267 0)) := lk_aload_n (k := 0) (by decide +kernel) rfl
theorem k_166_267 (L : Nat) (xs : Nat → Int32) : ll_OK1 cX11_told RX11 (some .int) false ll_mN ll_mR ll_mK ll_cnt L xs false 267 (.inl (lo_iload 269 5)) := lk_iload (by decide +kernel)
theorem k_166_269 (L : Nat) (xs : Nat → Int32) : ll_OK1 cX11_told RX11 (some .int) false ll_mN ll_mR ll_mK ll_cnt L xs false 269 (.inl (lo_putf 272 11 26 0)) := lk_putf (ix := 157) (ci := 11) (k := 26) (C := RX11) (T := TX11) (N := 46) (ty0 := tyX11) (by decide +kernel) rfl in_11 tyX11_ok nmX11 (by decide) tb_669 (fun B adr v w h1 h2 => ll_fit_int (B := B) (adr := adr) h1 h2) (Or.inl rfl)
theorem k_166_272 (L : Nat) (xs : Nat → Int32) : ll_OK1 cX11_told RX11 (some .int) false ll_mN ll_mR ll_mK ll_cnt L xs false 272 (.inl (lo_push 273 (.int 0))) := lk_iconst (n := 0) (by decide +kernel) (by decide)
theorem k_166_273 (L : Nat) (xs : Nat → Int32) : ll_OK1 cX11_told RX11 (some .int) false ll_mN ll_mR ll_mK ll_cnt L xs false 273 (.inr (.inr 1)) := ⟨(fun h => by cases h), (fun _ => ⟨(by decide +kernel), rfl⟩), fun h => by cases h⟩
theorem k_166_274 (L : Nat) (xs : Nat → Int32) : ll_OK1 cX11_told RX11 (some .int) false ll_mN ll_mR ll_mK ll_cnt L xs false 274 (.inl (lo_iinc 277 5 1)) := lk_iinc (n := 1) (by decide +kernel) (by decide)
theorem k_166_277 (L : Nat) (xs : Nat → Int32) : ll_OK1 cX11_told RX11 (some .int) false ll_mN ll_mR ll_mK ll_cnt L xs false 277 (.inl (lo_goto 20)) := lk_goto (off := (-257)) (by decide +kernel) rfl
theorem k_166_280 (L : Nat) (xs : Nat → Int32) : ll_OK1 cX11_told RX11 (some .int) false ll_mN ll_mR ll_mK ll_cnt L xs false 280 (.inl (lo_iload 282 4)) := lk_iload (by decide +kernel)
theorem k_166_282 (L : Nat) (xs : Nat → Int32) : ll_OK1 cX11_told RX11 (some .int) false ll_mN ll_mR ll_mK ll_cnt L xs false 282 (.inl (lo_if 292 285 (fun x => decide (¬ x = 0)))) := lk_if_ne (off := 10) (by decide +kernel) rfl
theorem k_166_285 (L : Nat) (xs : Nat → Int32) : ll_OK1 cX11_told RX11 (some .int) false ll_mN ll_mR ll_mK ll_cnt L xs false 285 (.inl (lo_aload 286 0)) := lk_aload_n (k := 0) (by decide +kernel) rfl
theorem k_166_286 (L : Nat) (xs : Nat → Int32) : ll_OK1 cX11_told RX11 (some .int) false ll_mN ll_mR ll_mK ll_cnt L xs false 286 (.inl (lo_getf 289 11 25)) := lk_getf (ix := 148) (ci := 11) (k := 25) (C := RX11) (T := TX11) (N := 46) (by decide +kernel) rfl in_11 (by decide) tb_662
theorem k_166_289 (L : Nat) (xs : Nat → Int32) : ll_OK1 cX11_told RX11 (some .int) false ll_mN ll_mR ll_mK ll_cnt L xs false 289 (.inl (lo_if 299 292 (fun x => decide (x ≤ 0)))) := lk_if_le (off := 10) (by decide +kernel) rfl
theorem k_166_292 (L : Nat) (xs : Nat → Int32) : ll_OK1 cX11_told RX11 (some .int) false ll_mN ll_mR ll_mK ll_cnt L xs false 292 (.inl (lo_aload 293 0)) := lk_aload_n (k := 0) (by decide +kernel) rfl
theorem k_166_293 (L : Nat) (xs : Nat → Int32) : ll_OK1 cX11_told RX11 (some .int) false ll_mN ll_mR ll_mK ll_cnt L xs false 293 (.inl (lo_iload 294 3)) := lk_iload_n (k := 3) (by decide +kernel) rfl
theorem k_166_294 (L : Nat) (xs : Nat → Int32) : ll_OK1 cX11_told RX11 (some .int) false ll_mN ll_mR ll_mK ll_cnt L xs false 294 (.inl (lo_putf 297 11 26 0)) := lk_putf (ix := 157) (ci := 11) (k := 26) (C := RX11) (T := TX11) (N := 46) (ty0 := tyX11) (by decide +kernel) rfl in_11 tyX11_ok nmX11 (by decide) tb_669 (fun B adr v w h1 h2 => ll_fit_int (B := B) (adr := adr) h1 h2) (Or.inl rfl)
theorem k_166_297 (L : Nat) (xs : Nat → Int32) : ll_OK1 cX11_told RX11 (some .int) false ll_mN ll_mR ll_mK ll_cnt L xs false 297 (.inl (lo_push 298 (.int 0))) := lk_iconst (n := 0) (by decide +kernel) (by decide)
theorem k_166_298 (L : Nat) (xs : Nat → Int32) : ll_OK1 cX11_told RX11 (some .int) false ll_mN ll_mR ll_mK ll_cnt L xs false 298 (.inr (.inr 1)) := ⟨(fun h => by cases h), (fun _ => ⟨(by decide +kernel), rfl⟩), fun h => by cases h⟩
theorem k_166_299 (L : Nat) (xs : Nat → Int32) : ll_OK1 cX11_told RX11 (some .int) false ll_mN ll_mR ll_mK ll_cnt L xs false 299 (.inl (lo_aload 300 0)) := lk_aload_n (k := 0) (by decide +kernel) rfl
theorem k_166_300 (L : Nat) (xs : Nat → Int32) : ll_OK1 cX11_told RX11 (some .int) false ll_mN ll_mR ll_mK ll_cnt L xs false 300 (.inr (.inl (165, 1, 303))) := ⟨rfl, by decide, by rw [mN_165, mK_165, mR_165]; exact lj_v 174 0 11 (RX11, TX11, 46) (by decide +kernel) tb_681 tb_682 tb_683 rfl rfl rfl rfl (by decide +kernel)⟩
theorem k_166_303 (L : Nat) (xs : Nat → Int32) : ll_OK1 cX11_told RX11 (some .int) false ll_mN ll_mR ll_mK ll_cnt L xs false 303 (.inr (.inr 1)) := ⟨(fun h => by cases h), (fun _ => ⟨(by decide +kernel), rfl⟩), fun h => by cases h⟩
theorem ok_166 (L : Nat) (xs : Nat → Int32) : ∀ q ∈ cd_166, ll_OK1 cX11_told RX11 (some .int) false ll_mN ll_mR ll_mK ll_cnt L xs false q.1 q.2 :=
  List.forall_mem_cons.mpr ⟨k_166_0 L xs, List.forall_mem_cons.mpr ⟨k_166_1 L xs, List.forall_mem_cons.mpr ⟨k_166_2 L xs, List.forall_mem_cons.mpr ⟨k_166_5 L xs, List.forall_mem_cons.mpr ⟨k_166_6 L xs, List.forall_mem_cons.mpr ⟨k_166_7 L xs, List.forall_mem_cons.mpr ⟨k_166_10 L xs, List.forall_mem_cons.mpr ⟨k_166_11 L xs, List.forall_mem_cons.mpr ⟨k_166_14 L xs, List.forall_mem_cons.mpr ⟨k_166_15 L xs, List.forall_mem_cons.mpr ⟨k_166_17 L xs, List.forall_mem_cons.mpr ⟨k_166_18 L xs, List.forall_mem_cons.mpr ⟨k_166_20 L xs, List.forall_mem_cons.mpr ⟨k_166_22 L xs, List.forall_mem_cons.mpr ⟨k_166_23 L xs, List.forall_mem_cons.mpr ⟨k_166_26 L xs, List.forall_mem_cons.mpr ⟨k_166_27 L xs, List.forall_mem_cons.mpr ⟨k_166_28 L xs, List.forall_mem_cons.mpr ⟨k_166_30 L xs, List.forall_mem_cons.mpr ⟨k_166_31 L xs, List.forall_mem_cons.mpr ⟨k_166_32 L xs, List.forall_mem_cons.mpr ⟨k_166_34 L xs, List.forall_mem_cons.mpr ⟨k_166_36 L xs, List.forall_mem_cons.mpr ⟨k_166_38 L xs, List.forall_mem_cons.mpr ⟨k_166_41 L xs, List.forall_mem_cons.mpr ⟨k_166_44 L xs, List.forall_mem_cons.mpr ⟨k_166_46 L xs, List.forall_mem_cons.mpr ⟨k_166_48 L xs, List.forall_mem_cons.mpr ⟨k_166_51 L xs, List.forall_mem_cons.mpr ⟨k_166_53 L xs, List.forall_mem_cons.mpr ⟨k_166_55 L xs, List.forall_mem_cons.mpr ⟨k_166_58 L xs, List.forall_mem_cons.mpr ⟨k_166_60 L xs, List.forall_mem_cons.mpr ⟨k_166_62 L xs, List.forall_mem_cons.mpr ⟨k_166_64 L xs, List.forall_mem_cons.mpr ⟨k_166_67 L xs, List.forall_mem_cons.mpr ⟨k_166_70 L xs, List.forall_mem_cons.mpr ⟨k_166_71 L xs, List.forall_mem_cons.mpr ⟨k_166_74 L xs, List.forall_mem_cons.mpr ⟨k_166_75 L xs, List.forall_mem_cons.mpr ⟨k_166_77 L xs, List.forall_mem_cons.mpr ⟨k_166_79 L xs, List.forall_mem_cons.mpr ⟨k_166_82 L xs, List.forall_mem_cons.mpr ⟨k_166_83 L xs, List.forall_mem_cons.mpr ⟨k_166_85 L xs, List.forall_mem_cons.mpr ⟨k_166_87 L xs, List.forall_mem_cons.mpr ⟨k_166_90 L xs, List.forall_mem_cons.mpr ⟨k_166_91 L xs, List.forall_mem_cons.mpr ⟨k_166_94 L xs, List.forall_mem_cons.mpr ⟨k_166_96 L xs, List.forall_mem_cons.mpr ⟨k_166_98 L xs, List.forall_mem_cons.mpr ⟨k_166_101 L xs, List.forall_mem_cons.mpr ⟨k_166_102 L xs, List.forall_mem_cons.mpr ⟨k_166_105 L xs, List.forall_mem_cons.mpr ⟨k_166_106 L xs, List.forall_mem_cons.mpr ⟨k_166_108 L xs, List.forall_mem_cons.mpr ⟨k_166_109 L xs, List.forall_mem_cons.mpr ⟨k_166_111 L xs, List.forall_mem_cons.mpr ⟨k_166_112 L xs, List.forall_mem_cons.mpr ⟨k_166_115 L xs, List.forall_mem_cons.mpr ⟨k_166_116 L xs, List.forall_mem_cons.mpr ⟨k_166_118 L xs, List.forall_mem_cons.mpr ⟨k_166_121 L xs, List.forall_mem_cons.mpr ⟨k_166_123 L xs, List.forall_mem_cons.mpr ⟨k_166_125 L xs, List.forall_mem_cons.mpr ⟨k_166_128 L xs, List.forall_mem_cons.mpr ⟨k_166_129 L xs, List.forall_mem_cons.mpr ⟨k_166_130 L xs, List.forall_mem_cons.mpr ⟨k_166_133 L xs, List.forall_mem_cons.mpr ⟨k_166_134 L xs, List.forall_mem_cons.mpr ⟨k_166_135 L xs, List.forall_mem_cons.mpr ⟨k_166_138 L xs, List.forall_mem_cons.mpr ⟨k_166_139 L xs, List.forall_mem_cons.mpr ⟨k_166_142 L xs, List.forall_mem_cons.mpr ⟨k_166_143 L xs, List.forall_mem_cons.mpr ⟨k_166_145 L xs, List.forall_mem_cons.mpr ⟨k_166_148 L xs, List.forall_mem_cons.mpr ⟨k_166_150 L xs, List.forall_mem_cons.mpr ⟨k_166_153 L xs, List.forall_mem_cons.mpr ⟨k_166_154 L xs, List.forall_mem_cons.mpr ⟨k_166_156 L xs, List.forall_mem_cons.mpr ⟨k_166_159 L xs, List.forall_mem_cons.mpr ⟨k_166_160 L xs, List.forall_mem_cons.mpr ⟨k_166_161 L xs, List.forall_mem_cons.mpr ⟨k_166_163 L xs, List.forall_mem_cons.mpr ⟨k_166_165 L xs, List.forall_mem_cons.mpr ⟨k_166_168 L xs, List.forall_mem_cons.mpr ⟨k_166_170 L xs, List.forall_mem_cons.mpr ⟨k_166_171 L xs, List.forall_mem_cons.mpr ⟨k_166_174 L xs, List.forall_mem_cons.mpr ⟨k_166_175 L xs, List.forall_mem_cons.mpr ⟨k_166_176 L xs, List.forall_mem_cons.mpr ⟨k_166_179 L xs, List.forall_mem_cons.mpr ⟨k_166_180 L xs, List.forall_mem_cons.mpr ⟨k_166_183 L xs, List.forall_mem_cons.mpr ⟨k_166_184 L xs, List.forall_mem_cons.mpr ⟨k_166_185 L xs, List.forall_mem_cons.mpr ⟨k_166_186 L xs, List.forall_mem_cons.mpr ⟨k_166_187 L xs, List.forall_mem_cons.mpr ⟨k_166_189 L xs, List.forall_mem_cons.mpr ⟨k_166_190 L xs, List.forall_mem_cons.mpr ⟨k_166_193 L xs, List.forall_mem_cons.mpr ⟨k_166_195 L xs, List.forall_mem_cons.mpr ⟨k_166_196 L xs, List.forall_mem_cons.mpr ⟨k_166_197 L xs, List.forall_mem_cons.mpr ⟨k_166_200 L xs, List.forall_mem_cons.mpr ⟨k_166_202 L xs, List.forall_mem_cons.mpr ⟨k_166_203 L xs, List.forall_mem_cons.mpr ⟨k_166_206 L xs, List.forall_mem_cons.mpr ⟨k_166_207 L xs, List.forall_mem_cons.mpr ⟨k_166_210 L xs, List.forall_mem_cons.mpr ⟨k_166_212 L xs, List.forall_mem_cons.mpr ⟨k_166_214 L xs, List.forall_mem_cons.mpr ⟨k_166_217 L xs, List.forall_mem_cons.mpr ⟨k_166_218 L xs, List.forall_mem_cons.mpr ⟨k_166_221 L xs, List.forall_mem_cons.mpr ⟨k_166_222 L xs, List.forall_mem_cons.mpr ⟨k_166_224 L xs, List.forall_mem_cons.mpr ⟨k_166_227 L xs, List.forall_mem_cons.mpr ⟨k_166_229 L xs, List.forall_mem_cons.mpr ⟨k_166_231 L xs, List.forall_mem_cons.mpr ⟨k_166_234 L xs, List.forall_mem_cons.mpr ⟨k_166_235 L xs, List.forall_mem_cons.mpr ⟨k_166_238 L xs, List.forall_mem_cons.mpr ⟨k_166_241 L xs, List.forall_mem_cons.mpr ⟨k_166_242 L xs, List.forall_mem_cons.mpr ⟨k_166_245 L xs, List.forall_mem_cons.mpr ⟨k_166_247 L xs, List.forall_mem_cons.mpr ⟨k_166_248 L xs, List.forall_mem_cons.mpr ⟨k_166_249 L xs, List.forall_mem_cons.mpr ⟨k_166_252 L xs, List.forall_mem_cons.mpr ⟨k_166_253 L xs, List.forall_mem_cons.mpr ⟨k_166_254 L xs, List.forall_mem_cons.mpr ⟨k_166_257 L xs, List.forall_mem_cons.mpr ⟨k_166_258 L xs, List.forall_mem_cons.mpr ⟨k_166_260 L xs, List.forall_mem_cons.mpr ⟨k_166_263 L xs, List.forall_mem_cons.mpr ⟨k_166_266 L xs, List.forall_mem_cons.mpr ⟨k_166_267 L xs, List.forall_mem_cons.mpr ⟨k_166_269 L xs, List.forall_mem_cons.mpr ⟨k_166_272 L xs, List.forall_mem_cons.mpr ⟨k_166_273 L xs, List.forall_mem_cons.mpr ⟨k_166_274 L xs, List.forall_mem_cons.mpr ⟨k_166_277 L xs, List.forall_mem_cons.mpr ⟨k_166_280 L xs, List.forall_mem_cons.mpr ⟨k_166_282 L xs, List.forall_mem_cons.mpr ⟨k_166_285 L xs, List.forall_mem_cons.mpr ⟨k_166_286 L xs, List.forall_mem_cons.mpr ⟨k_166_289 L xs, List.forall_mem_cons.mpr ⟨k_166_292 L xs, List.forall_mem_cons.mpr ⟨k_166_293 L xs, List.forall_mem_cons.mpr ⟨k_166_294 L xs, List.forall_mem_cons.mpr ⟨k_166_297 L xs, List.forall_mem_cons.mpr ⟨k_166_298 L xs, List.forall_mem_cons.mpr ⟨k_166_299 L xs, List.forall_mem_cons.mpr ⟨k_166_300 L xs, List.forall_mem_cons.mpr ⟨k_166_303 L xs, fun _ h => absurd h List.not_mem_nil⟩⟩⟩⟩⟩⟩⟩⟩⟩⟩⟩⟩⟩⟩⟩⟩⟩⟩⟩⟩⟩⟩⟩⟩⟩⟩⟩⟩⟩⟩⟩⟩⟩⟩⟩⟩⟩⟩⟩⟩⟩⟩⟩⟩⟩⟩⟩⟩⟩⟩⟩⟩⟩⟩⟩⟩⟩⟩⟩⟩⟩⟩⟩⟩⟩⟩⟩⟩⟩⟩⟩⟩⟩⟩⟩⟩⟩⟩⟩⟩⟩⟩⟩⟩⟩⟩⟩⟩⟩⟩⟩⟩⟩⟩⟩⟩⟩⟩⟩⟩⟩⟩⟩⟩⟩⟩⟩⟩⟩⟩⟩⟩⟩⟩⟩⟩⟩⟩⟩⟩⟩⟩⟩⟩⟩⟩⟩⟩⟩⟩⟩⟩⟩⟩⟩⟩⟩⟩⟩⟩⟩⟩⟩⟩⟩⟩⟩⟩⟩⟩⟩⟩⟩⟩⟩⟩⟩
/-- InclusionProverModel.pushes.(II)V -/
def cd_167 : List (Nat × ll_O) := [
  (0, .inl (lo_aload 1 0)),
  (1, .inl (lo_getf 4 11 27)),
  (4, .inl (lo_aload 5 0)),
  (5, .inl (lo_getf 8 11 29)),
  (8, .inl (lo_push 9 (.int 3))),
  (9, .inl (lo_iload 10 1)),
  (10, .inl (lo_bin 11 (fun x y => x * y))),
  (11, .inl (lo_iload 12 2)),
  (12, .inl (lo_bin 13 (fun x y => x + y))),
  (13, .inl (lo_ast 14 0)),
  (14, .inl (lo_aload 15 0)),
  (15, .inl (lo_dup 16)),
  (16, .inl (lo_getf 19 11 29)),
  (19, .inl (lo_push 20 (.int 1))),
  (20, .inl (lo_bin 21 (fun x y => x + y))),
  (21, .inl (lo_putf 24 11 29 0)),
  (24, .inr (.inr 0))]
theorem k_167_0 (L : Nat) (xs : Nat → Int32) : ll_OK1 cX11_pushes RX11 none false ll_mN ll_mR ll_mK ll_cnt L xs false 0 (.inl (lo_aload 1 0)) := lk_aload_n (k := 0) (by decide +kernel) rfl
theorem k_167_1 (L : Nat) (xs : Nat → Int32) : ll_OK1 cX11_pushes RX11 none false ll_mN ll_mR ll_mK ll_cnt L xs false 1 (.inl (lo_getf 4 11 27)) := lk_getf (ix := 74) (ci := 11) (k := 27) (C := RX11) (T := TX11) (N := 46) (by decide +kernel) rfl in_11 (by decide) tb_627
theorem k_167_4 (L : Nat) (xs : Nat → Int32) : ll_OK1 cX11_pushes RX11 none false ll_mN ll_mR ll_mK ll_cnt L xs false 4 (.inl (lo_aload 5 0)) := lk_aload_n (k := 0) (by decide +kernel) rfl
theorem k_167_5 (L : Nat) (xs : Nat → Int32) : ll_OK1 cX11_pushes RX11 none false ll_mN ll_mR ll_mK ll_cnt L xs false 5 (.inl (lo_getf 8 11 29)) := lk_getf (ix := 178) (ci := 11) (k := 29) (C := RX11) (T := TX11) (N := 46) (by decide +kernel) rfl in_11 (by decide) tb_684
theorem k_167_8 (L : Nat) (xs : Nat → Int32) : ll_OK1 cX11_pushes RX11 none false ll_mN ll_mR ll_mK ll_cnt L xs false 8 (.inl (lo_push 9 (.int 3))) := lk_iconst (n := 3) (by decide +kernel) (by decide)
theorem k_167_9 (L : Nat) (xs : Nat → Int32) : ll_OK1 cX11_pushes RX11 none false ll_mN ll_mR ll_mK ll_cnt L xs false 9 (.inl (lo_iload 10 1)) := lk_iload_n (k := 1) (by decide +kernel) rfl
theorem k_167_10 (L : Nat) (xs : Nat → Int32) : ll_OK1 cX11_pushes RX11 none false ll_mN ll_mR ll_mK ll_cnt L xs false 10 (.inl (lo_bin 11 (fun x y => x * y))) := lk_imul (by decide +kernel)
theorem k_167_11 (L : Nat) (xs : Nat → Int32) : ll_OK1 cX11_pushes RX11 none false ll_mN ll_mR ll_mK ll_cnt L xs false 11 (.inl (lo_iload 12 2)) := lk_iload_n (k := 2) (by decide +kernel) rfl
theorem k_167_12 (L : Nat) (xs : Nat → Int32) : ll_OK1 cX11_pushes RX11 none false ll_mN ll_mR ll_mK ll_cnt L xs false 12 (.inl (lo_bin 13 (fun x y => x + y))) := lk_iadd (by decide +kernel)
theorem k_167_13 (L : Nat) (xs : Nat → Int32) : ll_OK1 cX11_pushes RX11 none false ll_mN ll_mR ll_mK ll_cnt L xs false 13 (.inl (lo_ast 14 0)) := lk_iast (by decide +kernel)
theorem k_167_14 (L : Nat) (xs : Nat → Int32) : ll_OK1 cX11_pushes RX11 none false ll_mN ll_mR ll_mK ll_cnt L xs false 14 (.inl (lo_aload 15 0)) := lk_aload_n (k := 0) (by decide +kernel) rfl
theorem k_167_15 (L : Nat) (xs : Nat → Int32) : ll_OK1 cX11_pushes RX11 none false ll_mN ll_mR ll_mK ll_cnt L xs false 15 (.inl (lo_dup 16)) := lk_dup (by decide +kernel)
theorem k_167_16 (L : Nat) (xs : Nat → Int32) : ll_OK1 cX11_pushes RX11 none false ll_mN ll_mR ll_mK ll_cnt L xs false 16 (.inl (lo_getf 19 11 29)) := lk_getf (ix := 178) (ci := 11) (k := 29) (C := RX11) (T := TX11) (N := 46) (by decide +kernel) rfl in_11 (by decide) tb_684
theorem k_167_19 (L : Nat) (xs : Nat → Int32) : ll_OK1 cX11_pushes RX11 none false ll_mN ll_mR ll_mK ll_cnt L xs false 19 (.inl (lo_push 20 (.int 1))) := lk_iconst (n := 1) (by decide +kernel) (by decide)
theorem k_167_20 (L : Nat) (xs : Nat → Int32) : ll_OK1 cX11_pushes RX11 none false ll_mN ll_mR ll_mK ll_cnt L xs false 20 (.inl (lo_bin 21 (fun x y => x + y))) := lk_iadd (by decide +kernel)
theorem k_167_21 (L : Nat) (xs : Nat → Int32) : ll_OK1 cX11_pushes RX11 none false ll_mN ll_mR ll_mK ll_cnt L xs false 21 (.inl (lo_putf 24 11 29 0)) := lk_putf (ix := 178) (ci := 11) (k := 29) (C := RX11) (T := TX11) (N := 46) (ty0 := tyX11) (by decide +kernel) rfl in_11 tyX11_ok nmX11 (by decide) tb_684 (fun B adr v w h1 h2 => ll_fit_int (B := B) (adr := adr) h1 h2) (Or.inl rfl)
theorem k_167_24 (L : Nat) (xs : Nat → Int32) : ll_OK1 cX11_pushes RX11 none false ll_mN ll_mR ll_mK ll_cnt L xs false 24 (.inr (.inr 0)) := ⟨fun _ => ⟨(by decide +kernel), rfl⟩, (fun h => by cases h), fun h => by cases h⟩
theorem ok_167 (L : Nat) (xs : Nat → Int32) : ∀ q ∈ cd_167, ll_OK1 cX11_pushes RX11 none false ll_mN ll_mR ll_mK ll_cnt L xs false q.1 q.2 :=
  List.forall_mem_cons.mpr ⟨k_167_0 L xs, List.forall_mem_cons.mpr ⟨k_167_1 L xs, List.forall_mem_cons.mpr ⟨k_167_4 L xs, List.forall_mem_cons.mpr ⟨k_167_5 L xs, List.forall_mem_cons.mpr ⟨k_167_8 L xs, List.forall_mem_cons.mpr ⟨k_167_9 L xs, List.forall_mem_cons.mpr ⟨k_167_10 L xs, List.forall_mem_cons.mpr ⟨k_167_11 L xs, List.forall_mem_cons.mpr ⟨k_167_12 L xs, List.forall_mem_cons.mpr ⟨k_167_13 L xs, List.forall_mem_cons.mpr ⟨k_167_14 L xs, List.forall_mem_cons.mpr ⟨k_167_15 L xs, List.forall_mem_cons.mpr ⟨k_167_16 L xs, List.forall_mem_cons.mpr ⟨k_167_19 L xs, List.forall_mem_cons.mpr ⟨k_167_20 L xs, List.forall_mem_cons.mpr ⟨k_167_21 L xs, List.forall_mem_cons.mpr ⟨k_167_24 L xs, fun _ h => absurd h List.not_mem_nil⟩⟩⟩⟩⟩⟩⟩⟩⟩⟩⟩⟩⟩⟩⟩⟩⟩
/-- InclusionProverModel.pushesByte.(I)V -/
def cd_168 : List (Nat × ll_O) := [
  (0, .inl (lo_aload 1 0)),
  (1, .inl (lo_getf 4 11 27)),
  (4, .inl (lo_aload 5 0)),
  (5, .inl (lo_getf 8 11 29)),
  (8, .inl (lo_push 9 (.int (-1)))),
  (9, .inl (lo_iload 10 1)),
  (10, .inl (lo_bin 11 (fun x y => x - y))),
  (11, .inl (lo_ast 12 0)),
  (12, .inl (lo_aload 13 0)),
  (13, .inl (lo_dup 14)),
  (14, .inl (lo_getf 17 11 29)),
  (17, .inl (lo_push 18 (.int 1))),
  (18, .inl (lo_bin 19 (fun x y => x + y))),
  (19, .inl (lo_putf 22 11 29 0)),
  (22, .inr (.inr 0))]
theorem k_168_0 (L : Nat) (xs : Nat → Int32) : ll_OK1 cX11_pushesByte RX11 none false ll_mN ll_mR ll_mK ll_cnt L xs false 0 (.inl (lo_aload 1 0)) := lk_aload_n (k := 0) (by decide +kernel) rfl
theorem k_168_1 (L : Nat) (xs : Nat → Int32) : ll_OK1 cX11_pushesByte RX11 none false ll_mN ll_mR ll_mK ll_cnt L xs false 1 (.inl (lo_getf 4 11 27)) := lk_getf (ix := 74) (ci := 11) (k := 27) (C := RX11) (T := TX11) (N := 46) (by decide +kernel) rfl in_11 (by decide) tb_627
theorem k_168_4 (L : Nat) (xs : Nat → Int32) : ll_OK1 cX11_pushesByte RX11 none false ll_mN ll_mR ll_mK ll_cnt L xs false 4 (.inl (lo_aload 5 0)) := lk_aload_n (k := 0) (by decide +kernel) rfl
theorem k_168_5 (L : Nat) (xs : Nat → Int32) : ll_OK1 cX11_pushesByte RX11 none false ll_mN ll_mR ll_mK ll_cnt L xs false 5 (.inl (lo_getf 8 11 29)) := lk_getf (ix := 178) (ci := 11) (k := 29) (C := RX11) (T := TX11) (N := 46) (by decide +kernel) rfl in_11 (by decide) tb_684
theorem k_168_8 (L : Nat) (xs : Nat → Int32) : ll_OK1 cX11_pushesByte RX11 none false ll_mN ll_mR ll_mK ll_cnt L xs false 8 (.inl (lo_push 9 (.int (-1)))) := lk_iconst (n := (-1)) (by decide +kernel) (by decide)
theorem k_168_9 (L : Nat) (xs : Nat → Int32) : ll_OK1 cX11_pushesByte RX11 none false ll_mN ll_mR ll_mK ll_cnt L xs false 9 (.inl (lo_iload 10 1)) := lk_iload_n (k := 1) (by decide +kernel) rfl
theorem k_168_10 (L : Nat) (xs : Nat → Int32) : ll_OK1 cX11_pushesByte RX11 none false ll_mN ll_mR ll_mK ll_cnt L xs false 10 (.inl (lo_bin 11 (fun x y => x - y))) := lk_isub (by decide +kernel)
theorem k_168_11 (L : Nat) (xs : Nat → Int32) : ll_OK1 cX11_pushesByte RX11 none false ll_mN ll_mR ll_mK ll_cnt L xs false 11 (.inl (lo_ast 12 0)) := lk_iast (by decide +kernel)
theorem k_168_12 (L : Nat) (xs : Nat → Int32) : ll_OK1 cX11_pushesByte RX11 none false ll_mN ll_mR ll_mK ll_cnt L xs false 12 (.inl (lo_aload 13 0)) := lk_aload_n (k := 0) (by decide +kernel) rfl
theorem k_168_13 (L : Nat) (xs : Nat → Int32) : ll_OK1 cX11_pushesByte RX11 none false ll_mN ll_mR ll_mK ll_cnt L xs false 13 (.inl (lo_dup 14)) := lk_dup (by decide +kernel)
theorem k_168_14 (L : Nat) (xs : Nat → Int32) : ll_OK1 cX11_pushesByte RX11 none false ll_mN ll_mR ll_mK ll_cnt L xs false 14 (.inl (lo_getf 17 11 29)) := lk_getf (ix := 178) (ci := 11) (k := 29) (C := RX11) (T := TX11) (N := 46) (by decide +kernel) rfl in_11 (by decide) tb_684
theorem k_168_17 (L : Nat) (xs : Nat → Int32) : ll_OK1 cX11_pushesByte RX11 none false ll_mN ll_mR ll_mK ll_cnt L xs false 17 (.inl (lo_push 18 (.int 1))) := lk_iconst (n := 1) (by decide +kernel) (by decide)
theorem k_168_18 (L : Nat) (xs : Nat → Int32) : ll_OK1 cX11_pushesByte RX11 none false ll_mN ll_mR ll_mK ll_cnt L xs false 18 (.inl (lo_bin 19 (fun x y => x + y))) := lk_iadd (by decide +kernel)
theorem k_168_19 (L : Nat) (xs : Nat → Int32) : ll_OK1 cX11_pushesByte RX11 none false ll_mN ll_mR ll_mK ll_cnt L xs false 19 (.inl (lo_putf 22 11 29 0)) := lk_putf (ix := 178) (ci := 11) (k := 29) (C := RX11) (T := TX11) (N := 46) (ty0 := tyX11) (by decide +kernel) rfl in_11 tyX11_ok nmX11 (by decide) tb_684 (fun B adr v w h1 h2 => ll_fit_int (B := B) (adr := adr) h1 h2) (Or.inl rfl)
theorem k_168_22 (L : Nat) (xs : Nat → Int32) : ll_OK1 cX11_pushesByte RX11 none false ll_mN ll_mR ll_mK ll_cnt L xs false 22 (.inr (.inr 0)) := ⟨fun _ => ⟨(by decide +kernel), rfl⟩, (fun h => by cases h), fun h => by cases h⟩
theorem ok_168 (L : Nat) (xs : Nat → Int32) : ∀ q ∈ cd_168, ll_OK1 cX11_pushesByte RX11 none false ll_mN ll_mR ll_mK ll_cnt L xs false q.1 q.2 :=
  List.forall_mem_cons.mpr ⟨k_168_0 L xs, List.forall_mem_cons.mpr ⟨k_168_1 L xs, List.forall_mem_cons.mpr ⟨k_168_4 L xs, List.forall_mem_cons.mpr ⟨k_168_5 L xs, List.forall_mem_cons.mpr ⟨k_168_8 L xs, List.forall_mem_cons.mpr ⟨k_168_9 L xs, List.forall_mem_cons.mpr ⟨k_168_10 L xs, List.forall_mem_cons.mpr ⟨k_168_11 L xs, List.forall_mem_cons.mpr ⟨k_168_12 L xs, List.forall_mem_cons.mpr ⟨k_168_13 L xs, List.forall_mem_cons.mpr ⟨k_168_14 L xs, List.forall_mem_cons.mpr ⟨k_168_17 L xs, List.forall_mem_cons.mpr ⟨k_168_18 L xs, List.forall_mem_cons.mpr ⟨k_168_19 L xs, List.forall_mem_cons.mpr ⟨k_168_22 L xs, fun _ h => absurd h List.not_mem_nil⟩⟩⟩⟩⟩⟩⟩⟩⟩⟩⟩⟩⟩⟩⟩
/-- InclusionProverModel.spells.(I)V -/
def cd_169 : List (Nat × ll_O) := [
  (0, .inl (lo_aload 1 0)),
  (1, .inl (lo_push 2 (.int 0))),
  (2, .inl (lo_putf 5 11 29 0)),
  (5, .inl (lo_aload 6 0)),
  (6, .inl (lo_push 7 (.int 0))),
  (7, .inl (lo_putf 10 11 30 0)),
  (10, .inl (lo_aload 11 0)),
  (11, .inl (lo_iload 12 1)),
  (12, .inl (lo_push 13 (.int 0))),
  (13, .inr (.inl (167, 3, 16))),
  (16, .inl (lo_aload 17 0)),
  (17, .inl (lo_getf 20 11 29)),
  (20, .inl (lo_if 85 23 (fun x => decide (x ≤ 0)))),
  (23, .inl (lo_aload 24 0)),
  (24, .inl (lo_dup 25)),
  (25, .inl (lo_getf 28 11 29)),
  (28, .inl (lo_push 29 (.int 1))),
  (29, .inl (lo_bin 30 (fun x y => x - y))),
  (30, .inl (lo_putf 33 11 29 0)),
  (33, .inl (lo_aload 34 0)),
  (34, .inl (lo_getf 37 11 27)),
  (37, .inl (lo_aload 38 0)),
  (38, .inl (lo_getf 41 11 29)),
  (41, .inl (lo_ald 42 0)),
  (42, .inl (lo_istore 43 2)),
  (43, .inl (lo_iload 44 2)),
  (44, .inl (lo_if 72 47 (fun x => decide (0 ≤ x)))),
  (47, .inl (lo_aload 48 0)),
  (48, .inl (lo_getf 51 11 28)),
  (51, .inl (lo_aload 52 0)),
  (52, .inl (lo_getf 55 11 30)),
  (55, .inl (lo_push 56 (.int (-1)))),
  (56, .inl (lo_iload 57 2)),
  (57, .inl (lo_bin 58 (fun x y => x - y))),
  (58, .inl (lo_ast 59 0)),
  (59, .inl (lo_aload 60 0)),
  (60, .inl (lo_dup 61)),
  (61, .inl (lo_getf 64 11 30)),
  (64, .inl (lo_push 65 (.int 1))),
  (65, .inl (lo_bin 66 (fun x y => x + y))),
  (66, .inl (lo_putf 69 11 30 0)),
  (69, .inl (lo_goto 82)),
  (72, .inl (lo_aload 73 0)),
  (73, .inl (lo_iload 74 2)),
  (74, .inl (lo_push 75 (.int 3))),
  (75, .inl (lo_div 76 (fun x y => x / y))),
  (76, .inl (lo_iload 77 2)),
  (77, .inl (lo_push 78 (.int 3))),
  (78, .inl (lo_div 79 (fun x y => x - x / y * y))),
  (79, .inr (.inl (170, 3, 82))),
  (82, .inl (lo_goto 16)),
  (85, .inr (.inr 0))]
theorem k_169_0 (L : Nat) (xs : Nat → Int32) : ll_OK1 cX11_spells RX11 none false ll_mN ll_mR ll_mK ll_cnt L xs false 0 (.inl (lo_aload 1 0)) := lk_aload_n (k := 0) (by decide +kernel) rfl
theorem k_169_1 (L : Nat) (xs : Nat → Int32) : ll_OK1 cX11_spells RX11 none false ll_mN ll_mR ll_mK ll_cnt L xs false 1 (.inl (lo_push 2 (.int 0))) := lk_iconst (n := 0) (by decide +kernel) (by decide)
theorem k_169_2 (L : Nat) (xs : Nat → Int32) : ll_OK1 cX11_spells RX11 none false ll_mN ll_mR ll_mK ll_cnt L xs false 2 (.inl (lo_putf 5 11 29 0)) := lk_putf (ix := 178) (ci := 11) (k := 29) (C := RX11) (T := TX11) (N := 46) (ty0 := tyX11) (by decide +kernel) rfl in_11 tyX11_ok nmX11 (by decide) tb_684 (fun B adr v w h1 h2 => ll_fit_int (B := B) (adr := adr) h1 h2) (Or.inl rfl)
theorem k_169_5 (L : Nat) (xs : Nat → Int32) : ll_OK1 cX11_spells RX11 none false ll_mN ll_mR ll_mK ll_cnt L xs false 5 (.inl (lo_aload 6 0)) := lk_aload_n (k := 0) (by decide +kernel) rfl
theorem k_169_6 (L : Nat) (xs : Nat → Int32) : ll_OK1 cX11_spells RX11 none false ll_mN ll_mR ll_mK ll_cnt L xs false 6 (.inl (lo_push 7 (.int 0))) := lk_iconst (n := 0) (by decide +kernel) (by decide)
theorem k_169_7 (L : Nat) (xs : Nat → Int32) : ll_OK1 cX11_spells RX11 none false ll_mN ll_mR ll_mK ll_cnt L xs false 7 (.inl (lo_putf 10 11 30 0)) := lk_putf (ix := 181) (ci := 11) (k := 30) (C := RX11) (T := TX11) (N := 46) (ty0 := tyX11) (by decide +kernel) rfl in_11 tyX11_ok nmX11 (by decide) tb_685 (fun B adr v w h1 h2 => ll_fit_int (B := B) (adr := adr) h1 h2) (Or.inl rfl)
theorem k_169_10 (L : Nat) (xs : Nat → Int32) : ll_OK1 cX11_spells RX11 none false ll_mN ll_mR ll_mK ll_cnt L xs false 10 (.inl (lo_aload 11 0)) := lk_aload_n (k := 0) (by decide +kernel) rfl
theorem k_169_11 (L : Nat) (xs : Nat → Int32) : ll_OK1 cX11_spells RX11 none false ll_mN ll_mR ll_mK ll_cnt L xs false 11 (.inl (lo_iload 12 1)) := lk_iload_n (k := 1) (by decide +kernel) rfl
theorem k_169_12 (L : Nat) (xs : Nat → Int32) : ll_OK1 cX11_spells RX11 none false ll_mN ll_mR ll_mK ll_cnt L xs false 12 (.inl (lo_push 13 (.int 0))) := lk_iconst (n := 0) (by decide +kernel) (by decide)
theorem k_169_13 (L : Nat) (xs : Nat → Int32) : ll_OK1 cX11_spells RX11 none false ll_mN ll_mR ll_mK ll_cnt L xs false 13 (.inr (.inl (167, 3, 16))) := ⟨rfl, by decide, by rw [mN_167, mK_167, mR_167]; exact lj_v 184 2 11 (RX11, TX11, 46) (by decide +kernel) tb_686 tb_687 tb_688 rfl rfl rfl rfl (by decide +kernel)⟩
theorem k_169_16 (L : Nat) (xs : Nat → Int32) : ll_OK1 cX11_spells RX11 none false ll_mN ll_mR ll_mK ll_cnt L xs false 16 (.inl (lo_aload 17 0)) := lk_aload_n (k := 0) (by decide +kernel) rfl
theorem k_169_17 (L : Nat) (xs : Nat → Int32) : ll_OK1 cX11_spells RX11 none false ll_mN ll_mR ll_mK ll_cnt L xs false 17 (.inl (lo_getf 20 11 29)) := lk_getf (ix := 178) (ci := 11) (k := 29) (C := RX11) (T := TX11) (N := 46) (by decide +kernel) rfl in_11 (by decide) tb_684
theorem k_169_20 (L : Nat) (xs : Nat → Int32) : ll_OK1 cX11_spells RX11 none false ll_mN ll_mR ll_mK ll_cnt L xs false 20 (.inl (lo_if 85 23 (fun x => decide (x ≤ 0)))) := lk_if_le (off := 65) (by decide +kernel) rfl
theorem k_169_23 (L : Nat) (xs : Nat → Int32) : ll_OK1 cX11_spells RX11 none false ll_mN ll_mR ll_mK ll_cnt L xs false 23 (.inl (lo_aload 24 0)) := lk_aload_n (k := 0) (by decide +kernel) rfl
theorem k_169_24 (L : Nat) (xs : Nat → Int32) : ll_OK1 cX11_spells RX11 none false ll_mN ll_mR ll_mK ll_cnt L xs false 24 (.inl (lo_dup 25)) := lk_dup (by decide +kernel)
theorem k_169_25 (L : Nat) (xs : Nat → Int32) : ll_OK1 cX11_spells RX11 none false ll_mN ll_mR ll_mK ll_cnt L xs false 25 (.inl (lo_getf 28 11 29)) := lk_getf (ix := 178) (ci := 11) (k := 29) (C := RX11) (T := TX11) (N := 46) (by decide +kernel) rfl in_11 (by decide) tb_684
theorem k_169_28 (L : Nat) (xs : Nat → Int32) : ll_OK1 cX11_spells RX11 none false ll_mN ll_mR ll_mK ll_cnt L xs false 28 (.inl (lo_push 29 (.int 1))) := lk_iconst (n := 1) (by decide +kernel) (by decide)
theorem k_169_29 (L : Nat) (xs : Nat → Int32) : ll_OK1 cX11_spells RX11 none false ll_mN ll_mR ll_mK ll_cnt L xs false 29 (.inl (lo_bin 30 (fun x y => x - y))) := lk_isub (by decide +kernel)
theorem k_169_30 (L : Nat) (xs : Nat → Int32) : ll_OK1 cX11_spells RX11 none false ll_mN ll_mR ll_mK ll_cnt L xs false 30 (.inl (lo_putf 33 11 29 0)) := lk_putf (ix := 178) (ci := 11) (k := 29) (C := RX11) (T := TX11) (N := 46) (ty0 := tyX11) (by decide +kernel) rfl in_11 tyX11_ok nmX11 (by decide) tb_684 (fun B adr v w h1 h2 => ll_fit_int (B := B) (adr := adr) h1 h2) (Or.inl rfl)
theorem k_169_33 (L : Nat) (xs : Nat → Int32) : ll_OK1 cX11_spells RX11 none false ll_mN ll_mR ll_mK ll_cnt L xs false 33 (.inl (lo_aload 34 0)) := lk_aload_n (k := 0) (by decide +kernel) rfl
theorem k_169_34 (L : Nat) (xs : Nat → Int32) : ll_OK1 cX11_spells RX11 none false ll_mN ll_mR ll_mK ll_cnt L xs false 34 (.inl (lo_getf 37 11 27)) := lk_getf (ix := 74) (ci := 11) (k := 27) (C := RX11) (T := TX11) (N := 46) (by decide +kernel) rfl in_11 (by decide) tb_627
theorem k_169_37 (L : Nat) (xs : Nat → Int32) : ll_OK1 cX11_spells RX11 none false ll_mN ll_mR ll_mK ll_cnt L xs false 37 (.inl (lo_aload 38 0)) := lk_aload_n (k := 0) (by decide +kernel) rfl
theorem k_169_38 (L : Nat) (xs : Nat → Int32) : ll_OK1 cX11_spells RX11 none false ll_mN ll_mR ll_mK ll_cnt L xs false 38 (.inl (lo_getf 41 11 29)) := lk_getf (ix := 178) (ci := 11) (k := 29) (C := RX11) (T := TX11) (N := 46) (by decide +kernel) rfl in_11 (by decide) tb_684
theorem k_169_41 (L : Nat) (xs : Nat → Int32) : ll_OK1 cX11_spells RX11 none false ll_mN ll_mR ll_mK ll_cnt L xs false 41 (.inl (lo_ald 42 0)) := lk_iald (by decide +kernel)
theorem k_169_42 (L : Nat) (xs : Nat → Int32) : ll_OK1 cX11_spells RX11 none false ll_mN ll_mR ll_mK ll_cnt L xs false 42 (.inl (lo_istore 43 2)) := lk_istore_n (k := 2) (by decide +kernel) rfl
theorem k_169_43 (L : Nat) (xs : Nat → Int32) : ll_OK1 cX11_spells RX11 none false ll_mN ll_mR ll_mK ll_cnt L xs false 43 (.inl (lo_iload 44 2)) := lk_iload_n (k := 2) (by decide +kernel) rfl
theorem k_169_44 (L : Nat) (xs : Nat → Int32) : ll_OK1 cX11_spells RX11 none false ll_mN ll_mR ll_mK ll_cnt L xs false 44 (.inl (lo_if 72 47 (fun x => decide (0 ≤ x)))) := lk_if_ge (off := 28) (by decide +kernel) rfl
theorem k_169_47 (L : Nat) (xs : Nat → Int32) : ll_OK1 cX11_spells RX11 none false ll_mN ll_mR ll_mK ll_cnt L xs false 47 (.inl (lo_aload 48 0)) := lk_aload_n (k := 0) (by decide +kernel) rfl
theorem k_169_48 (L : Nat) (xs : Nat → Int32) : ll_OK1 cX11_spells RX11 none false ll_mN ll_mR ll_mK ll_cnt L xs false 48 (.inl (lo_getf 51 11 28)) := lk_getf (ix := 77) (ci := 11) (k := 28) (C := RX11) (T := TX11) (N := 46) (by decide +kernel) rfl in_11 (by decide) tb_628
theorem k_169_51 (L : Nat) (xs : Nat → Int32) : ll_OK1 cX11_spells RX11 none false ll_mN ll_mR ll_mK ll_cnt L xs false 51 (.inl (lo_aload 52 0)) := lk_aload_n (k := 0) (by decide +kernel) rfl
theorem k_169_52 (L : Nat) (xs : Nat → Int32) : ll_OK1 cX11_spells RX11 none false ll_mN ll_mR ll_mK ll_cnt L xs false 52 (.inl (lo_getf 55 11 30)) := lk_getf (ix := 181) (ci := 11) (k := 30) (C := RX11) (T := TX11) (N := 46) (by decide +kernel) rfl in_11 (by decide) tb_685
theorem k_169_55 (L : Nat) (xs : Nat → Int32) : ll_OK1 cX11_spells RX11 none false ll_mN ll_mR ll_mK ll_cnt L xs false 55 (.inl (lo_push 56 (.int (-1)))) := lk_iconst (n := (-1)) (by decide +kernel) (by decide)
theorem k_169_56 (L : Nat) (xs : Nat → Int32) : ll_OK1 cX11_spells RX11 none false ll_mN ll_mR ll_mK ll_cnt L xs false 56 (.inl (lo_iload 57 2)) := lk_iload_n (k := 2) (by decide +kernel) rfl
theorem k_169_57 (L : Nat) (xs : Nat → Int32) : ll_OK1 cX11_spells RX11 none false ll_mN ll_mR ll_mK ll_cnt L xs false 57 (.inl (lo_bin 58 (fun x y => x - y))) := lk_isub (by decide +kernel)
theorem k_169_58 (L : Nat) (xs : Nat → Int32) : ll_OK1 cX11_spells RX11 none false ll_mN ll_mR ll_mK ll_cnt L xs false 58 (.inl (lo_ast 59 0)) := lk_iast (by decide +kernel)
theorem k_169_59 (L : Nat) (xs : Nat → Int32) : ll_OK1 cX11_spells RX11 none false ll_mN ll_mR ll_mK ll_cnt L xs false 59 (.inl (lo_aload 60 0)) := lk_aload_n (k := 0) (by decide +kernel) rfl
theorem k_169_60 (L : Nat) (xs : Nat → Int32) : ll_OK1 cX11_spells RX11 none false ll_mN ll_mR ll_mK ll_cnt L xs false 60 (.inl (lo_dup 61)) := lk_dup (by decide +kernel)
theorem k_169_61 (L : Nat) (xs : Nat → Int32) : ll_OK1 cX11_spells RX11 none false ll_mN ll_mR ll_mK ll_cnt L xs false 61 (.inl (lo_getf 64 11 30)) := lk_getf (ix := 181) (ci := 11) (k := 30) (C := RX11) (T := TX11) (N := 46) (by decide +kernel) rfl in_11 (by decide) tb_685
theorem k_169_64 (L : Nat) (xs : Nat → Int32) : ll_OK1 cX11_spells RX11 none false ll_mN ll_mR ll_mK ll_cnt L xs false 64 (.inl (lo_push 65 (.int 1))) := lk_iconst (n := 1) (by decide +kernel) (by decide)
theorem k_169_65 (L : Nat) (xs : Nat → Int32) : ll_OK1 cX11_spells RX11 none false ll_mN ll_mR ll_mK ll_cnt L xs false 65 (.inl (lo_bin 66 (fun x y => x + y))) := lk_iadd (by decide +kernel)
theorem k_169_66 (L : Nat) (xs : Nat → Int32) : ll_OK1 cX11_spells RX11 none false ll_mN ll_mR ll_mK ll_cnt L xs false 66 (.inl (lo_putf 69 11 30 0)) := lk_putf (ix := 181) (ci := 11) (k := 30) (C := RX11) (T := TX11) (N := 46) (ty0 := tyX11) (by decide +kernel) rfl in_11 tyX11_ok nmX11 (by decide) tb_685 (fun B adr v w h1 h2 => ll_fit_int (B := B) (adr := adr) h1 h2) (Or.inl rfl)
theorem k_169_69 (L : Nat) (xs : Nat → Int32) : ll_OK1 cX11_spells RX11 none false ll_mN ll_mR ll_mK ll_cnt L xs false 69 (.inl (lo_goto 82)) := lk_goto (off := 13) (by decide +kernel) rfl
theorem k_169_72 (L : Nat) (xs : Nat → Int32) : ll_OK1 cX11_spells RX11 none false ll_mN ll_mR ll_mK ll_cnt L xs false 72 (.inl (lo_aload 73 0)) := lk_aload_n (k := 0) (by decide +kernel) rfl
theorem k_169_73 (L : Nat) (xs : Nat → Int32) : ll_OK1 cX11_spells RX11 none false ll_mN ll_mR ll_mK ll_cnt L xs false 73 (.inl (lo_iload 74 2)) := lk_iload_n (k := 2) (by decide +kernel) rfl
theorem k_169_74 (L : Nat) (xs : Nat → Int32) : ll_OK1 cX11_spells RX11 none false ll_mN ll_mR ll_mK ll_cnt L xs false 74 (.inl (lo_push 75 (.int 3))) := lk_iconst (n := 3) (by decide +kernel) (by decide)
theorem k_169_75 (L : Nat) (xs : Nat → Int32) : ll_OK1 cX11_spells RX11 none false ll_mN ll_mR ll_mK ll_cnt L xs false 75 (.inl (lo_div 76 (fun x y => x / y))) := lk_idiv (by decide +kernel)
theorem k_169_76 (L : Nat) (xs : Nat → Int32) : ll_OK1 cX11_spells RX11 none false ll_mN ll_mR ll_mK ll_cnt L xs false 76 (.inl (lo_iload 77 2)) := lk_iload_n (k := 2) (by decide +kernel) rfl
theorem k_169_77 (L : Nat) (xs : Nat → Int32) : ll_OK1 cX11_spells RX11 none false ll_mN ll_mR ll_mK ll_cnt L xs false 77 (.inl (lo_push 78 (.int 3))) := lk_iconst (n := 3) (by decide +kernel) (by decide)
theorem k_169_78 (L : Nat) (xs : Nat → Int32) : ll_OK1 cX11_spells RX11 none false ll_mN ll_mR ll_mK ll_cnt L xs false 78 (.inl (lo_div 79 (fun x y => x - x / y * y))) := lk_irem (by decide +kernel)
theorem k_169_79 (L : Nat) (xs : Nat → Int32) : ll_OK1 cX11_spells RX11 none false ll_mN ll_mR ll_mK ll_cnt L xs false 79 (.inr (.inl (170, 3, 82))) := ⟨rfl, by decide, by rw [mN_170, mK_170, mR_170]; exact lj_v 188 2 11 (RX11, TX11, 46) (by decide +kernel) tb_689 tb_690 tb_691 rfl rfl rfl rfl (by decide +kernel)⟩
theorem k_169_82 (L : Nat) (xs : Nat → Int32) : ll_OK1 cX11_spells RX11 none false ll_mN ll_mR ll_mK ll_cnt L xs false 82 (.inl (lo_goto 16)) := lk_goto (off := (-66)) (by decide +kernel) rfl
theorem k_169_85 (L : Nat) (xs : Nat → Int32) : ll_OK1 cX11_spells RX11 none false ll_mN ll_mR ll_mK ll_cnt L xs false 85 (.inr (.inr 0)) := ⟨fun _ => ⟨(by decide +kernel), rfl⟩, (fun h => by cases h), fun h => by cases h⟩
theorem ok_169 (L : Nat) (xs : Nat → Int32) : ∀ q ∈ cd_169, ll_OK1 cX11_spells RX11 none false ll_mN ll_mR ll_mK ll_cnt L xs false q.1 q.2 :=
  List.forall_mem_cons.mpr ⟨k_169_0 L xs, List.forall_mem_cons.mpr ⟨k_169_1 L xs, List.forall_mem_cons.mpr ⟨k_169_2 L xs, List.forall_mem_cons.mpr ⟨k_169_5 L xs, List.forall_mem_cons.mpr ⟨k_169_6 L xs, List.forall_mem_cons.mpr ⟨k_169_7 L xs, List.forall_mem_cons.mpr ⟨k_169_10 L xs, List.forall_mem_cons.mpr ⟨k_169_11 L xs, List.forall_mem_cons.mpr ⟨k_169_12 L xs, List.forall_mem_cons.mpr ⟨k_169_13 L xs, List.forall_mem_cons.mpr ⟨k_169_16 L xs, List.forall_mem_cons.mpr ⟨k_169_17 L xs, List.forall_mem_cons.mpr ⟨k_169_20 L xs, List.forall_mem_cons.mpr ⟨k_169_23 L xs, List.forall_mem_cons.mpr ⟨k_169_24 L xs, List.forall_mem_cons.mpr ⟨k_169_25 L xs, List.forall_mem_cons.mpr ⟨k_169_28 L xs, List.forall_mem_cons.mpr ⟨k_169_29 L xs, List.forall_mem_cons.mpr ⟨k_169_30 L xs, List.forall_mem_cons.mpr ⟨k_169_33 L xs, List.forall_mem_cons.mpr ⟨k_169_34 L xs, List.forall_mem_cons.mpr ⟨k_169_37 L xs, List.forall_mem_cons.mpr ⟨k_169_38 L xs, List.forall_mem_cons.mpr ⟨k_169_41 L xs, List.forall_mem_cons.mpr ⟨k_169_42 L xs, List.forall_mem_cons.mpr ⟨k_169_43 L xs, List.forall_mem_cons.mpr ⟨k_169_44 L xs, List.forall_mem_cons.mpr ⟨k_169_47 L xs, List.forall_mem_cons.mpr ⟨k_169_48 L xs, List.forall_mem_cons.mpr ⟨k_169_51 L xs, List.forall_mem_cons.mpr ⟨k_169_52 L xs, List.forall_mem_cons.mpr ⟨k_169_55 L xs, List.forall_mem_cons.mpr ⟨k_169_56 L xs, List.forall_mem_cons.mpr ⟨k_169_57 L xs, List.forall_mem_cons.mpr ⟨k_169_58 L xs, List.forall_mem_cons.mpr ⟨k_169_59 L xs, List.forall_mem_cons.mpr ⟨k_169_60 L xs, List.forall_mem_cons.mpr ⟨k_169_61 L xs, List.forall_mem_cons.mpr ⟨k_169_64 L xs, List.forall_mem_cons.mpr ⟨k_169_65 L xs, List.forall_mem_cons.mpr ⟨k_169_66 L xs, List.forall_mem_cons.mpr ⟨k_169_69 L xs, List.forall_mem_cons.mpr ⟨k_169_72 L xs, List.forall_mem_cons.mpr ⟨k_169_73 L xs, List.forall_mem_cons.mpr ⟨k_169_74 L xs, List.forall_mem_cons.mpr ⟨k_169_75 L xs, List.forall_mem_cons.mpr ⟨k_169_76 L xs, List.forall_mem_cons.mpr ⟨k_169_77 L xs, List.forall_mem_cons.mpr ⟨k_169_78 L xs, List.forall_mem_cons.mpr ⟨k_169_79 L xs, List.forall_mem_cons.mpr ⟨k_169_82 L xs, List.forall_mem_cons.mpr ⟨k_169_85 L xs, fun _ h => absurd h List.not_mem_nil⟩⟩⟩⟩⟩⟩⟩⟩⟩⟩⟩⟩⟩⟩⟩⟩⟩⟩⟩⟩⟩⟩⟩⟩⟩⟩⟩⟩⟩⟩⟩⟩⟩⟩⟩⟩⟩⟩⟩⟩⟩⟩⟩⟩⟩⟩⟩⟩⟩⟩⟩⟩
/-- InclusionProverModel.spellsOne.(II)V -/
def cd_170 : List (Nat × ll_O) := [
  (0, .inl (lo_aload 1 0)),
  (1, .inl (lo_getf 4 11 5)),
  (4, .inl (lo_iload 5 1)),
  (5, .inl (lo_ald 6 0)),
  (6, .inl (lo_istore 7 3)),
  (7, .inl (lo_iload 8 3)),
  (8, .inl (lo_push 9 (.int 3))),
  (9, .inl (lo_cmp 50 12 (fun x y => decide (y ≤ x)))),
  (12, .inl (lo_aload 13 0)),
  (13, .inl (lo_iload 14 3)),
  (14, .inl (lo_if 22 17 (fun x => decide (¬ x = 0)))),
  (17, .inl (lo_push 19 (.int 48))),
  (19, .inl (lo_goto 46)),
  (22, .inl (lo_iload 23 3)),
  (23, .inl (lo_push 24 (.int 1))),
  (24, .inl (lo_cmp 32 27 (fun x y => decide (¬ x = y)))),
  (27, .inl (lo_push 29 (.int 49))),
  (29, .inl (lo_goto 46)),
  (32, .inl (lo_push 34 (.int 97))),
  (34, .inl (lo_aload 35 0)),
  (35, .inl (lo_getf 38 11 10)),
  (38, .inl (lo_aload 39 0)),
  (39, .inl (lo_getf 42 11 6)),
  (42, .inl (lo_iload 43 1)),
  (43, .inl (lo_ald 44 0)),
  (44, .inl (lo_ald 45 0)),
  (45, .inl (lo_bin 46 (fun x y => x + y))),
  (46, .inr (.inl (168, 2, 49))),
  (49, .inr (.inr 0)),
  (50, .inl (lo_iload 51 3)),
  (51, .inl (lo_push 52 (.int 5))),
  (52, .inl (lo_cmp 78 55 (fun x y => decide (¬ x = y)))),
  (55, .inl (lo_aload 56 0)),
  (56, .inl (lo_push 58 (.int 42))),
  (58, .inr (.inl (168, 2, 61))),
  (61, .inl (lo_aload 62 0)),
  (62, .inl (lo_aload 63 0)),
  (63, .inl (lo_getf 66 11 10)),
  (66, .inl (lo_aload 67 0)),
  (67, .inl (lo_getf 70 11 6)),
  (70, .inl (lo_iload 71 1)),
  (71, .inl (lo_ald 72 0)),
  (72, .inl (lo_ald 73 0)),
  (73, .inl (lo_push 74 (.int 2))),
  (74, .inr (.inl (167, 3, 77))),
  (77, .inr (.inr 0)),
  (78, .inl (lo_iload 79 3)),
  (79, .inl (lo_push 80 (.int 3))),
  (80, .inl (lo_cmp 95 83 (fun x y => decide (¬ x = y)))),
  (83, .inl (lo_iload 84 2)),
  (84, .inl (lo_if 91 87 (fun x => decide (x ≤ 0)))),
  (87, .inl (lo_push 88 (.int 1))),
  (88, .inl (lo_goto 105)),
  (91, .inl (lo_push 92 (.int 0))),
  (92, .inl (lo_goto 105)),
  (95, .inl (lo_iload 96 2)),
  (96, .inl (lo_push 97 (.int 2))),
  (97, .inl (lo_cmp 104 100 (fun x y => decide (¬ x = y)))),
  (100, .inl (lo_push 101 (.int 1))),
  (101, .inl (lo_goto 105)),
  (104, .inl (lo_push 105 (.int 0))),
  (105, .inl (lo_istore 107 4)),
  (107, .inl (lo_iload 109 4)),
  (109, .inl (lo_if 118 112 (fun x => decide (x = 0)))),
  (112, .inl (lo_aload 113 0)),
  (113, .inl (lo_push 115 (.int 41))),
  (115, .inr (.inl (168, 2, 118))),
  (118, .inl (lo_aload 119 0)),
  (119, .inl (lo_getf 122 11 7)),
  (122, .inl (lo_iload 123 1)),
  (123, .inl (lo_ald 124 0)),
  (124, .inl (lo_push 125 (.int 1))),
  (125, .inl (lo_bin 126 (fun x y => x - y))),
  (126, .inl (lo_istore 128 5)),
  (128, .inl (lo_iload 130 5)),
  (130, .inl (lo_if 183 133 (fun x => decide (x < 0)))),
  (133, .inl (lo_aload 134 0)),
  (134, .inl (lo_aload 135 0)),
  (135, .inl (lo_getf 138 11 10)),
  (138, .inl (lo_aload 139 0)),
  (139, .inl (lo_getf 142 11 6)),
  (142, .inl (lo_iload 143 1)),
  (143, .inl (lo_ald 144 0)),
  (144, .inl (lo_iload 146 5)),
  (146, .inl (lo_bin 147 (fun x y => x + y))),
  (147, .inl (lo_ald 148 0)),
  (148, .inl (lo_iload 149 3)),
  (149, .inl (lo_push 150 (.int 4))),
  (150, .inl (lo_cmp 157 153 (fun x y => decide (¬ x = y)))),
  (153, .inl (lo_push 154 (.int 1))),
  (154, .inl (lo_goto 158)),
  (157, .inl (lo_push 158 (.int 0))),
  (158, .inr (.inl (167, 3, 161))),
  (161, .inl (lo_iload 163 5)),
  (163, .inl (lo_if 177 166 (fun x => decide (x ≤ 0)))),
  (166, .inl (lo_iload 167 3)),
  (167, .inl (lo_push 168 (.int 3))),
  (168, .inl (lo_cmp 177 171 (fun x y => decide (¬ x = y)))),
  (171, .inl (lo_aload 172 0)),
  (172, .inl (lo_push 174 (.int 43))),
  (174, .inr (.inl (168, 2, 177))),
  (177, .inl (lo_iinc 180 5 (-1))),
  (180, .inl (lo_goto 128)),
  (183, .inl (lo_iload 185 4)),
  (185, .inl (lo_if 194 188 (fun x => decide (x = 0)))),
  (188, .inl (lo_aload 189 0)),
  (189, .inl (lo_push 191 (.int 40))),
  (191, .inr (.inl (168, 2, 194))),
  (194, .inr (.inr 0))]
theorem k_170_0 (L : Nat) (xs : Nat → Int32) : ll_OK1 cX11_spellsOne RX11 none false ll_mN ll_mR ll_mK ll_cnt L xs false 0 (.inl (lo_aload 1 0)) := lk_aload_n (k := 0) (by decide +kernel) rfl
theorem k_170_1 (L : Nat) (xs : Nat → Int32) : ll_OK1 cX11_spellsOne RX11 none false ll_mN ll_mR ll_mK ll_cnt L xs false 1 (.inl (lo_getf 4 11 5)) := lk_getf (ix := 25) (ci := 11) (k := 5) (C := RX11) (T := TX11) (N := 46) (by decide +kernel) rfl in_11 (by decide) tb_610
theorem k_170_4 (L : Nat) (xs : Nat → Int32) : ll_OK1 cX11_spellsOne RX11 none false ll_mN ll_mR ll_mK ll_cnt L xs false 4 (.inl (lo_iload 5 1)) := lk_iload_n (k := 1) (by decide +kernel) rfl
theorem k_170_5 (L : Nat) (xs : Nat → Int32) : ll_OK1 cX11_spellsOne RX11 none false ll_mN ll_mR ll_mK ll_cnt L xs false 5 (.inl (lo_ald 6 0)) := lk_iald (by decide +kernel)
theorem k_170_6 (L : Nat) (xs : Nat → Int32) : ll_OK1 cX11_spellsOne RX11 none false ll_mN ll_mR ll_mK ll_cnt L xs false 6 (.inl (lo_istore 7 3)) := lk_istore_n (k := 3) (by decide +kernel) rfl
theorem k_170_7 (L : Nat) (xs : Nat → Int32) : ll_OK1 cX11_spellsOne RX11 none false ll_mN ll_mR ll_mK ll_cnt L xs false 7 (.inl (lo_iload 8 3)) := lk_iload_n (k := 3) (by decide +kernel) rfl
theorem k_170_8 (L : Nat) (xs : Nat → Int32) : ll_OK1 cX11_spellsOne RX11 none false ll_mN ll_mR ll_mK ll_cnt L xs false 8 (.inl (lo_push 9 (.int 3))) := lk_iconst (n := 3) (by decide +kernel) (by decide)
theorem k_170_9 (L : Nat) (xs : Nat → Int32) : ll_OK1 cX11_spellsOne RX11 none false ll_mN ll_mR ll_mK ll_cnt L xs false 9 (.inl (lo_cmp 50 12 (fun x y => decide (y ≤ x)))) := lk_icmp_ge (off := 41) (by decide +kernel) rfl
theorem k_170_12 (L : Nat) (xs : Nat → Int32) : ll_OK1 cX11_spellsOne RX11 none false ll_mN ll_mR ll_mK ll_cnt L xs false 12 (.inl (lo_aload 13 0)) := lk_aload_n (k := 0) (by decide +kernel) rfl
theorem k_170_13 (L : Nat) (xs : Nat → Int32) : ll_OK1 cX11_spellsOne RX11 none false ll_mN ll_mR ll_mK ll_cnt L xs false 13 (.inl (lo_iload 14 3)) := lk_iload_n (k := 3) (by decide +kernel) rfl
theorem k_170_14 (L : Nat) (xs : Nat → Int32) : ll_OK1 cX11_spellsOne RX11 none false ll_mN ll_mR ll_mK ll_cnt L xs false 14 (.inl (lo_if 22 17 (fun x => decide (¬ x = 0)))) := lk_if_ne (off := 8) (by decide +kernel) rfl
theorem k_170_17 (L : Nat) (xs : Nat → Int32) : ll_OK1 cX11_spellsOne RX11 none false ll_mN ll_mR ll_mK ll_cnt L xs false 17 (.inl (lo_push 19 (.int 48))) := lk_bipush (n := 48) (by decide +kernel) (by decide)
theorem k_170_19 (L : Nat) (xs : Nat → Int32) : ll_OK1 cX11_spellsOne RX11 none false ll_mN ll_mR ll_mK ll_cnt L xs false 19 (.inl (lo_goto 46)) := lk_goto (off := 27) (by decide +kernel) rfl
theorem k_170_22 (L : Nat) (xs : Nat → Int32) : ll_OK1 cX11_spellsOne RX11 none false ll_mN ll_mR ll_mK ll_cnt L xs false 22 (.inl (lo_iload 23 3)) := lk_iload_n (k := 3) (by decide +kernel) rfl
theorem k_170_23 (L : Nat) (xs : Nat → Int32) : ll_OK1 cX11_spellsOne RX11 none false ll_mN ll_mR ll_mK ll_cnt L xs false 23 (.inl (lo_push 24 (.int 1))) := lk_iconst (n := 1) (by decide +kernel) (by decide)
theorem k_170_24 (L : Nat) (xs : Nat → Int32) : ll_OK1 cX11_spellsOne RX11 none false ll_mN ll_mR ll_mK ll_cnt L xs false 24 (.inl (lo_cmp 32 27 (fun x y => decide (¬ x = y)))) := lk_icmp_ne (off := 8) (by decide +kernel) rfl
theorem k_170_27 (L : Nat) (xs : Nat → Int32) : ll_OK1 cX11_spellsOne RX11 none false ll_mN ll_mR ll_mK ll_cnt L xs false 27 (.inl (lo_push 29 (.int 49))) := lk_bipush (n := 49) (by decide +kernel) (by decide)
theorem k_170_29 (L : Nat) (xs : Nat → Int32) : ll_OK1 cX11_spellsOne RX11 none false ll_mN ll_mR ll_mK ll_cnt L xs false 29 (.inl (lo_goto 46)) := lk_goto (off := 17) (by decide +kernel) rfl
theorem k_170_32 (L : Nat) (xs : Nat → Int32) : ll_OK1 cX11_spellsOne RX11 none false ll_mN ll_mR ll_mK ll_cnt L xs false 32 (.inl (lo_push 34 (.int 97))) := lk_bipush (n := 97) (by decide +kernel) (by decide)
theorem k_170_34 (L : Nat) (xs : Nat → Int32) : ll_OK1 cX11_spellsOne RX11 none false ll_mN ll_mR ll_mK ll_cnt L xs false 34 (.inl (lo_aload 35 0)) := lk_aload_n (k := 0) (by decide +kernel) rfl
theorem k_170_35 (L : Nat) (xs : Nat → Int32) : ll_OK1 cX11_spellsOne RX11 none false ll_mN ll_mR ll_mK ll_cnt L xs false 35 (.inl (lo_getf 38 11 10)) := lk_getf (ix := 40) (ci := 11) (k := 10) (C := RX11) (T := TX11) (N := 46) (by decide +kernel) rfl in_11 (by decide) tb_615
theorem k_170_38 (L : Nat) (xs : Nat → Int32) : ll_OK1 cX11_spellsOne RX11 none false ll_mN ll_mR ll_mK ll_cnt L xs false 38 (.inl (lo_aload 39 0)) := lk_aload_n (k := 0) (by decide +kernel) rfl
theorem k_170_39 (L : Nat) (xs : Nat → Int32) : ll_OK1 cX11_spellsOne RX11 none false ll_mN ll_mR ll_mK ll_cnt L xs false 39 (.inl (lo_getf 42 11 6)) := lk_getf (ix := 28) (ci := 11) (k := 6) (C := RX11) (T := TX11) (N := 46) (by decide +kernel) rfl in_11 (by decide) tb_611
theorem k_170_42 (L : Nat) (xs : Nat → Int32) : ll_OK1 cX11_spellsOne RX11 none false ll_mN ll_mR ll_mK ll_cnt L xs false 42 (.inl (lo_iload 43 1)) := lk_iload_n (k := 1) (by decide +kernel) rfl
theorem k_170_43 (L : Nat) (xs : Nat → Int32) : ll_OK1 cX11_spellsOne RX11 none false ll_mN ll_mR ll_mK ll_cnt L xs false 43 (.inl (lo_ald 44 0)) := lk_iald (by decide +kernel)
theorem k_170_44 (L : Nat) (xs : Nat → Int32) : ll_OK1 cX11_spellsOne RX11 none false ll_mN ll_mR ll_mK ll_cnt L xs false 44 (.inl (lo_ald 45 0)) := lk_iald (by decide +kernel)
theorem k_170_45 (L : Nat) (xs : Nat → Int32) : ll_OK1 cX11_spellsOne RX11 none false ll_mN ll_mR ll_mK ll_cnt L xs false 45 (.inl (lo_bin 46 (fun x y => x + y))) := lk_iadd (by decide +kernel)
theorem k_170_46 (L : Nat) (xs : Nat → Int32) : ll_OK1 cX11_spellsOne RX11 none false ll_mN ll_mR ll_mK ll_cnt L xs false 46 (.inr (.inl (168, 2, 49))) := ⟨rfl, by decide, by rw [mN_168, mK_168, mR_168]; exact lj_v 191 1 11 (RX11, TX11, 46) (by decide +kernel) tb_692 tb_693 tb_694 rfl rfl rfl rfl (by decide +kernel)⟩
theorem k_170_49 (L : Nat) (xs : Nat → Int32) : ll_OK1 cX11_spellsOne RX11 none false ll_mN ll_mR ll_mK ll_cnt L xs false 49 (.inr (.inr 0)) := ⟨fun _ => ⟨(by decide +kernel), rfl⟩, (fun h => by cases h), fun h => by cases h⟩
theorem k_170_50 (L : Nat) (xs : Nat → Int32) : ll_OK1 cX11_spellsOne RX11 none false ll_mN ll_mR ll_mK ll_cnt L xs false 50 (.inl (lo_iload 51 3)) := lk_iload_n (k := 3) (by decide +kernel) rfl
theorem k_170_51 (L : Nat) (xs : Nat → Int32) : ll_OK1 cX11_spellsOne RX11 none false ll_mN ll_mR ll_mK ll_cnt L xs false 51 (.inl (lo_push 52 (.int 5))) := lk_iconst (n := 5) (by decide +kernel) (by decide)
theorem k_170_52 (L : Nat) (xs : Nat → Int32) : ll_OK1 cX11_spellsOne RX11 none false ll_mN ll_mR ll_mK ll_cnt L xs false 52 (.inl (lo_cmp 78 55 (fun x y => decide (¬ x = y)))) := lk_icmp_ne (off := 26) (by decide +kernel) rfl
theorem k_170_55 (L : Nat) (xs : Nat → Int32) : ll_OK1 cX11_spellsOne RX11 none false ll_mN ll_mR ll_mK ll_cnt L xs false 55 (.inl (lo_aload 56 0)) := lk_aload_n (k := 0) (by decide +kernel) rfl
theorem k_170_56 (L : Nat) (xs : Nat → Int32) : ll_OK1 cX11_spellsOne RX11 none false ll_mN ll_mR ll_mK ll_cnt L xs false 56 (.inl (lo_push 58 (.int 42))) := lk_bipush (n := 42) (by decide +kernel) (by decide)
theorem k_170_58 (L : Nat) (xs : Nat → Int32) : ll_OK1 cX11_spellsOne RX11 none false ll_mN ll_mR ll_mK ll_cnt L xs false 58 (.inr (.inl (168, 2, 61))) := ⟨rfl, by decide, by rw [mN_168, mK_168, mR_168]; exact lj_v 191 1 11 (RX11, TX11, 46) (by decide +kernel) tb_692 tb_693 tb_694 rfl rfl rfl rfl (by decide +kernel)⟩
theorem k_170_61 (L : Nat) (xs : Nat → Int32) : ll_OK1 cX11_spellsOne RX11 none false ll_mN ll_mR ll_mK ll_cnt L xs false 61 (.inl (lo_aload 62 0)) := lk_aload_n (k := 0) (by decide +kernel) rfl
theorem k_170_62 (L : Nat) (xs : Nat → Int32) : ll_OK1 cX11_spellsOne RX11 none false ll_mN ll_mR ll_mK ll_cnt L xs false 62 (.inl (lo_aload 63 0)) := lk_aload_n (k := 0) (by decide +kernel) rfl
theorem k_170_63 (L : Nat) (xs : Nat → Int32) : ll_OK1 cX11_spellsOne RX11 none false ll_mN ll_mR ll_mK ll_cnt L xs false 63 (.inl (lo_getf 66 11 10)) := lk_getf (ix := 40) (ci := 11) (k := 10) (C := RX11) (T := TX11) (N := 46) (by decide +kernel) rfl in_11 (by decide) tb_615
theorem k_170_66 (L : Nat) (xs : Nat → Int32) : ll_OK1 cX11_spellsOne RX11 none false ll_mN ll_mR ll_mK ll_cnt L xs false 66 (.inl (lo_aload 67 0)) := lk_aload_n (k := 0) (by decide +kernel) rfl
theorem k_170_67 (L : Nat) (xs : Nat → Int32) : ll_OK1 cX11_spellsOne RX11 none false ll_mN ll_mR ll_mK ll_cnt L xs false 67 (.inl (lo_getf 70 11 6)) := lk_getf (ix := 28) (ci := 11) (k := 6) (C := RX11) (T := TX11) (N := 46) (by decide +kernel) rfl in_11 (by decide) tb_611
theorem k_170_70 (L : Nat) (xs : Nat → Int32) : ll_OK1 cX11_spellsOne RX11 none false ll_mN ll_mR ll_mK ll_cnt L xs false 70 (.inl (lo_iload 71 1)) := lk_iload_n (k := 1) (by decide +kernel) rfl
theorem k_170_71 (L : Nat) (xs : Nat → Int32) : ll_OK1 cX11_spellsOne RX11 none false ll_mN ll_mR ll_mK ll_cnt L xs false 71 (.inl (lo_ald 72 0)) := lk_iald (by decide +kernel)
theorem k_170_72 (L : Nat) (xs : Nat → Int32) : ll_OK1 cX11_spellsOne RX11 none false ll_mN ll_mR ll_mK ll_cnt L xs false 72 (.inl (lo_ald 73 0)) := lk_iald (by decide +kernel)
theorem k_170_73 (L : Nat) (xs : Nat → Int32) : ll_OK1 cX11_spellsOne RX11 none false ll_mN ll_mR ll_mK ll_cnt L xs false 73 (.inl (lo_push 74 (.int 2))) := lk_iconst (n := 2) (by decide +kernel) (by decide)
theorem k_170_74 (L : Nat) (xs : Nat → Int32) : ll_OK1 cX11_spellsOne RX11 none false ll_mN ll_mR ll_mK ll_cnt L xs false 74 (.inr (.inl (167, 3, 77))) := ⟨rfl, by decide, by rw [mN_167, mK_167, mR_167]; exact lj_v 184 2 11 (RX11, TX11, 46) (by decide +kernel) tb_686 tb_687 tb_688 rfl rfl rfl rfl (by decide +kernel)⟩
theorem k_170_77 (L : Nat) (xs : Nat → Int32) : ll_OK1 cX11_spellsOne RX11 none false ll_mN ll_mR ll_mK ll_cnt L xs false 77 (.inr (.inr 0)) := ⟨fun _ => ⟨(by decide +kernel), rfl⟩, (fun h => by cases h), fun h => by cases h⟩
theorem k_170_78 (L : Nat) (xs : Nat → Int32) : ll_OK1 cX11_spellsOne RX11 none false ll_mN ll_mR ll_mK ll_cnt L xs false 78 (.inl (lo_iload 79 3)) := lk_iload_n (k := 3) (by decide +kernel) rfl
theorem k_170_79 (L : Nat) (xs : Nat → Int32) : ll_OK1 cX11_spellsOne RX11 none false ll_mN ll_mR ll_mK ll_cnt L xs false 79 (.inl (lo_push 80 (.int 3))) := lk_iconst (n := 3) (by decide +kernel) (by decide)
theorem k_170_80 (L : Nat) (xs : Nat → Int32) : ll_OK1 cX11_spellsOne RX11 none false ll_mN ll_mR ll_mK ll_cnt L xs false 80 (.inl (lo_cmp 95 83 (fun x y => decide (¬ x = y)))) := lk_icmp_ne (off := 15) (by decide +kernel) rfl
theorem k_170_83 (L : Nat) (xs : Nat → Int32) : ll_OK1 cX11_spellsOne RX11 none false ll_mN ll_mR ll_mK ll_cnt L xs false 83 (.inl (lo_iload 84 2)) := lk_iload_n (k := 2) (by decide +kernel) rfl
theorem k_170_84 (L : Nat) (xs : Nat → Int32) : ll_OK1 cX11_spellsOne RX11 none false ll_mN ll_mR ll_mK ll_cnt L xs false 84 (.inl (lo_if 91 87 (fun x => decide (x ≤ 0)))) := lk_if_le (off := 7) (by decide +kernel) rfl
theorem k_170_87 (L : Nat) (xs : Nat → Int32) : ll_OK1 cX11_spellsOne RX11 none false ll_mN ll_mR ll_mK ll_cnt L xs false 87 (.inl (lo_push 88 (.int 1))) := lk_iconst (n := 1) (by decide +kernel) (by decide)
theorem k_170_88 (L : Nat) (xs : Nat → Int32) : ll_OK1 cX11_spellsOne RX11 none false ll_mN ll_mR ll_mK ll_cnt L xs false 88 (.inl (lo_goto 105)) := lk_goto (off := 17) (by decide +kernel) rfl
theorem k_170_91 (L : Nat) (xs : Nat → Int32) : ll_OK1 cX11_spellsOne RX11 none false ll_mN ll_mR ll_mK ll_cnt L xs false 91 (.inl (lo_push 92 (.int 0))) := lk_iconst (n := 0) (by decide +kernel) (by decide)
theorem k_170_92 (L : Nat) (xs : Nat → Int32) : ll_OK1 cX11_spellsOne RX11 none false ll_mN ll_mR ll_mK ll_cnt L xs false 92 (.inl (lo_goto 105)) := lk_goto (off := 13) (by decide +kernel) rfl
theorem k_170_95 (L : Nat) (xs : Nat → Int32) : ll_OK1 cX11_spellsOne RX11 none false ll_mN ll_mR ll_mK ll_cnt L xs false 95 (.inl (lo_iload 96 2)) := lk_iload_n (k := 2) (by decide +kernel) rfl
theorem k_170_96 (L : Nat) (xs : Nat → Int32) : ll_OK1 cX11_spellsOne RX11 none false ll_mN ll_mR ll_mK ll_cnt L xs false 96 (.inl (lo_push 97 (.int 2))) := lk_iconst (n := 2) (by decide +kernel) (by decide)
theorem k_170_97 (L : Nat) (xs : Nat → Int32) : ll_OK1 cX11_spellsOne RX11 none false ll_mN ll_mR ll_mK ll_cnt L xs false 97 (.inl (lo_cmp 104 100 (fun x y => decide (¬ x = y)))) := lk_icmp_ne (off := 7) (by decide +kernel) rfl
theorem k_170_100 (L : Nat) (xs : Nat → Int32) : ll_OK1 cX11_spellsOne RX11 none false ll_mN ll_mR ll_mK ll_cnt L xs false 100 (.inl (lo_push 101 (.int 1))) := lk_iconst (n := 1) (by decide +kernel) (by decide)
theorem k_170_101 (L : Nat) (xs : Nat → Int32) : ll_OK1 cX11_spellsOne RX11 none false ll_mN ll_mR ll_mK ll_cnt L xs false 101 (.inl (lo_goto 105)) := lk_goto (off := 4) (by decide +kernel) rfl
theorem k_170_104 (L : Nat) (xs : Nat → Int32) : ll_OK1 cX11_spellsOne RX11 none false ll_mN ll_mR ll_mK ll_cnt L xs false 104 (.inl (lo_push 105 (.int 0))) := lk_iconst (n := 0) (by decide +kernel) (by decide)
theorem k_170_105 (L : Nat) (xs : Nat → Int32) : ll_OK1 cX11_spellsOne RX11 none false ll_mN ll_mR ll_mK ll_cnt L xs false 105 (.inl (lo_istore 107 4)) := lk_istore (by decide +kernel)
theorem k_170_107 (L : Nat) (xs : Nat → Int32) : ll_OK1 cX11_spellsOne RX11 none false ll_mN ll_mR ll_mK ll_cnt L xs false 107 (.inl (lo_iload 109 4)) := lk_iload (by decide +kernel)
theorem k_170_109 (L : Nat) (xs : Nat → Int32) : ll_OK1 cX11_spellsOne RX11 none false ll_mN ll_mR ll_mK ll_cnt L xs false 109 (.inl (lo_if 118 112 (fun x => decide (x = 0)))) := lk_if_eq (off := 9) (by decide +kernel) rfl
theorem k_170_112 (L : Nat) (xs : Nat → Int32) : ll_OK1 cX11_spellsOne RX11 none false ll_mN ll_mR ll_mK ll_cnt L xs false 112 (.inl (lo_aload 113 0)) := lk_aload_n (k := 0) (by decide +kernel) rfl
theorem k_170_113 (L : Nat) (xs : Nat → Int32) : ll_OK1 cX11_spellsOne RX11 none false ll_mN ll_mR ll_mK ll_cnt L xs false 113 (.inl (lo_push 115 (.int 41))) := lk_bipush (n := 41) (by decide +kernel) (by decide)
theorem k_170_115 (L : Nat) (xs : Nat → Int32) : ll_OK1 cX11_spellsOne RX11 none false ll_mN ll_mR ll_mK ll_cnt L xs false 115 (.inr (.inl (168, 2, 118))) := ⟨rfl, by decide, by rw [mN_168, mK_168, mR_168]; exact lj_v 191 1 11 (RX11, TX11, 46) (by decide +kernel) tb_692 tb_693 tb_694 rfl rfl rfl rfl (by decide +kernel)⟩
theorem k_170_118 (L : Nat) (xs : Nat → Int32) : ll_OK1 cX11_spellsOne RX11 none false ll_mN ll_mR ll_mK ll_cnt L xs false 118 (.inl (lo_aload 119 0)) := lk_aload_n (k := 0) (by decide +kernel) rfl
theorem k_170_119 (L : Nat) (xs : Nat → Int32) : ll_OK1 cX11_spellsOne RX11 none false ll_mN ll_mR ll_mK ll_cnt L xs false 119 (.inl (lo_getf 122 11 7)) := lk_getf (ix := 31) (ci := 11) (k := 7) (C := RX11) (T := TX11) (N := 46) (by decide +kernel) rfl in_11 (by decide) tb_612
theorem k_170_122 (L : Nat) (xs : Nat → Int32) : ll_OK1 cX11_spellsOne RX11 none false ll_mN ll_mR ll_mK ll_cnt L xs false 122 (.inl (lo_iload 123 1)) := lk_iload_n (k := 1) (by decide +kernel) rfl
theorem k_170_123 (L : Nat) (xs : Nat → Int32) : ll_OK1 cX11_spellsOne RX11 none false ll_mN ll_mR ll_mK ll_cnt L xs false 123 (.inl (lo_ald 124 0)) := lk_iald (by decide +kernel)
theorem k_170_124 (L : Nat) (xs : Nat → Int32) : ll_OK1 cX11_spellsOne RX11 none false ll_mN ll_mR ll_mK ll_cnt L xs false 124 (.inl (lo_push 125 (.int 1))) := lk_iconst (n := 1) (by decide +kernel) (by decide)
theorem k_170_125 (L : Nat) (xs : Nat → Int32) : ll_OK1 cX11_spellsOne RX11 none false ll_mN ll_mR ll_mK ll_cnt L xs false 125 (.inl (lo_bin 126 (fun x y => x - y))) := lk_isub (by decide +kernel)
theorem k_170_126 (L : Nat) (xs : Nat → Int32) : ll_OK1 cX11_spellsOne RX11 none false ll_mN ll_mR ll_mK ll_cnt L xs false 126 (.inl (lo_istore 128 5)) := lk_istore (by decide +kernel)
theorem k_170_128 (L : Nat) (xs : Nat → Int32) : ll_OK1 cX11_spellsOne RX11 none false ll_mN ll_mR ll_mK ll_cnt L xs false 128 (.inl (lo_iload 130 5)) := lk_iload (by decide +kernel)
theorem k_170_130 (L : Nat) (xs : Nat → Int32) : ll_OK1 cX11_spellsOne RX11 none false ll_mN ll_mR ll_mK ll_cnt L xs false 130 (.inl (lo_if 183 133 (fun x => decide (x < 0)))) := lk_if_lt (off := 53) (by decide +kernel) rfl
theorem k_170_133 (L : Nat) (xs : Nat → Int32) : ll_OK1 cX11_spellsOne RX11 none false ll_mN ll_mR ll_mK ll_cnt L xs false 133 (.inl (lo_aload 134 0)) := lk_aload_n (k := 0) (by decide +kernel) rfl
theorem k_170_134 (L : Nat) (xs : Nat → Int32) : ll_OK1 cX11_spellsOne RX11 none false ll_mN ll_mR ll_mK ll_cnt L xs false 134 (.inl (lo_aload 135 0)) := lk_aload_n (k := 0) (by decide +kernel) rfl
theorem k_170_135 (L : Nat) (xs : Nat → Int32) : ll_OK1 cX11_spellsOne RX11 none false ll_mN ll_mR ll_mK ll_cnt L xs false 135 (.inl (lo_getf 138 11 10)) := lk_getf (ix := 40) (ci := 11) (k := 10) (C := RX11) (T := TX11) (N := 46) (by decide +kernel) rfl in_11 (by decide) tb_615
theorem k_170_138 (L : Nat) (xs : Nat → Int32) : ll_OK1 cX11_spellsOne RX11 none false ll_mN ll_mR ll_mK ll_cnt L xs false 138 (.inl (lo_aload 139 0)) := lk_aload_n (k := 0) (by decide +kernel) rfl
theorem k_170_139 (L : Nat) (xs : Nat → Int32) : ll_OK1 cX11_spellsOne RX11 none false ll_mN ll_mR ll_mK ll_cnt L xs false 139 (.inl (lo_getf 142 11 6)) := lk_getf (ix := 28) (ci := 11) (k := 6) (C := RX11) (T := TX11) (N := 46) (by decide +kernel) rfl in_11 (by decide) tb_611
theorem k_170_142 (L : Nat) (xs : Nat → Int32) : ll_OK1 cX11_spellsOne RX11 none false ll_mN ll_mR ll_mK ll_cnt L xs false 142 (.inl (lo_iload 143 1)) := lk_iload_n (k := 1) (by decide +kernel) rfl
theorem k_170_143 (L : Nat) (xs : Nat → Int32) : ll_OK1 cX11_spellsOne RX11 none false ll_mN ll_mR ll_mK ll_cnt L xs false 143 (.inl (lo_ald 144 0)) := lk_iald (by decide +kernel)
theorem k_170_144 (L : Nat) (xs : Nat → Int32) : ll_OK1 cX11_spellsOne RX11 none false ll_mN ll_mR ll_mK ll_cnt L xs false 144 (.inl (lo_iload 146 5)) := lk_iload (by decide +kernel)
theorem k_170_146 (L : Nat) (xs : Nat → Int32) : ll_OK1 cX11_spellsOne RX11 none false ll_mN ll_mR ll_mK ll_cnt L xs false 146 (.inl (lo_bin 147 (fun x y => x + y))) := lk_iadd (by decide +kernel)
theorem k_170_147 (L : Nat) (xs : Nat → Int32) : ll_OK1 cX11_spellsOne RX11 none false ll_mN ll_mR ll_mK ll_cnt L xs false 147 (.inl (lo_ald 148 0)) := lk_iald (by decide +kernel)
theorem k_170_148 (L : Nat) (xs : Nat → Int32) : ll_OK1 cX11_spellsOne RX11 none false ll_mN ll_mR ll_mK ll_cnt L xs false 148 (.inl (lo_iload 149 3)) := lk_iload_n (k := 3) (by decide +kernel) rfl
theorem k_170_149 (L : Nat) (xs : Nat → Int32) : ll_OK1 cX11_spellsOne RX11 none false ll_mN ll_mR ll_mK ll_cnt L xs false 149 (.inl (lo_push 150 (.int 4))) := lk_iconst (n := 4) (by decide +kernel) (by decide)
theorem k_170_150 (L : Nat) (xs : Nat → Int32) : ll_OK1 cX11_spellsOne RX11 none false ll_mN ll_mR ll_mK ll_cnt L xs false 150 (.inl (lo_cmp 157 153 (fun x y => decide (¬ x = y)))) := lk_icmp_ne (off := 7) (by decide +kernel) rfl
theorem k_170_153 (L : Nat) (xs : Nat → Int32) : ll_OK1 cX11_spellsOne RX11 none false ll_mN ll_mR ll_mK ll_cnt L xs false 153 (.inl (lo_push 154 (.int 1))) := lk_iconst (n := 1) (by decide +kernel) (by decide)
theorem k_170_154 (L : Nat) (xs : Nat → Int32) : ll_OK1 cX11_spellsOne RX11 none false ll_mN ll_mR ll_mK ll_cnt L xs false 154 (.inl (lo_goto 158)) := lk_goto (off := 4) (by decide +kernel) rfl
theorem k_170_157 (L : Nat) (xs : Nat → Int32) : ll_OK1 cX11_spellsOne RX11 none false ll_mN ll_mR ll_mK ll_cnt L xs false 157 (.inl (lo_push 158 (.int 0))) := lk_iconst (n := 0) (by decide +kernel) (by decide)
theorem k_170_158 (L : Nat) (xs : Nat → Int32) : ll_OK1 cX11_spellsOne RX11 none false ll_mN ll_mR ll_mK ll_cnt L xs false 158 (.inr (.inl (167, 3, 161))) := ⟨rfl, by decide, by rw [mN_167, mK_167, mR_167]; exact lj_v 184 2 11 (RX11, TX11, 46) (by decide +kernel) tb_686 tb_687 tb_688 rfl rfl rfl rfl (by decide +kernel)⟩
theorem k_170_161 (L : Nat) (xs : Nat → Int32) : ll_OK1 cX11_spellsOne RX11 none false ll_mN ll_mR ll_mK ll_cnt L xs false 161 (.inl (lo_iload 163 5)) := lk_iload (by decide +kernel)
theorem k_170_163 (L : Nat) (xs : Nat → Int32) : ll_OK1 cX11_spellsOne RX11 none false ll_mN ll_mR ll_mK ll_cnt L xs false 163 (.inl (lo_if 177 166 (fun x => decide (x ≤ 0)))) := lk_if_le (off := 14) (by decide +kernel) rfl
theorem k_170_166 (L : Nat) (xs : Nat → Int32) : ll_OK1 cX11_spellsOne RX11 none false ll_mN ll_mR ll_mK ll_cnt L xs false 166 (.inl (lo_iload 167 3)) := lk_iload_n (k := 3) (by decide +kernel) rfl
theorem k_170_167 (L : Nat) (xs : Nat → Int32) : ll_OK1 cX11_spellsOne RX11 none false ll_mN ll_mR ll_mK ll_cnt L xs false 167 (.inl (lo_push 168 (.int 3))) := lk_iconst (n := 3) (by decide +kernel) (by decide)
theorem k_170_168 (L : Nat) (xs : Nat → Int32) : ll_OK1 cX11_spellsOne RX11 none false ll_mN ll_mR ll_mK ll_cnt L xs false 168 (.inl (lo_cmp 177 171 (fun x y => decide (¬ x = y)))) := lk_icmp_ne (off := 9) (by decide +kernel) rfl
theorem k_170_171 (L : Nat) (xs : Nat → Int32) : ll_OK1 cX11_spellsOne RX11 none false ll_mN ll_mR ll_mK ll_cnt L xs false 171 (.inl (lo_aload 172 0)) := lk_aload_n (k := 0) (by decide +kernel) rfl
theorem k_170_172 (L : Nat) (xs : Nat → Int32) : ll_OK1 cX11_spellsOne RX11 none false ll_mN ll_mR ll_mK ll_cnt L xs false 172 (.inl (lo_push 174 (.int 43))) := lk_bipush (n := 43) (by decide +kernel) (by decide)
theorem k_170_174 (L : Nat) (xs : Nat → Int32) : ll_OK1 cX11_spellsOne RX11 none false ll_mN ll_mR ll_mK ll_cnt L xs false 174 (.inr (.inl (168, 2, 177))) := ⟨rfl, by decide, by rw [mN_168, mK_168, mR_168]; exact lj_v 191 1 11 (RX11, TX11, 46) (by decide +kernel) tb_692 tb_693 tb_694 rfl rfl rfl rfl (by decide +kernel)⟩
theorem k_170_177 (L : Nat) (xs : Nat → Int32) : ll_OK1 cX11_spellsOne RX11 none false ll_mN ll_mR ll_mK ll_cnt L xs false 177 (.inl (lo_iinc 180 5 (-1))) := lk_iinc (n := (-1)) (by decide +kernel) (by decide)
theorem k_170_180 (L : Nat) (xs : Nat → Int32) : ll_OK1 cX11_spellsOne RX11 none false ll_mN ll_mR ll_mK ll_cnt L xs false 180 (.inl (lo_goto 128)) := lk_goto (off := (-52)) (by decide +kernel) rfl
theorem k_170_183 (L : Nat) (xs : Nat → Int32) : ll_OK1 cX11_spellsOne RX11 none false ll_mN ll_mR ll_mK ll_cnt L xs false 183 (.inl (lo_iload 185 4)) := lk_iload (by decide +kernel)
theorem k_170_185 (L : Nat) (xs : Nat → Int32) : ll_OK1 cX11_spellsOne RX11 none false ll_mN ll_mR ll_mK ll_cnt L xs false 185 (.inl (lo_if 194 188 (fun x => decide (x = 0)))) := lk_if_eq (off := 9) (by decide +kernel) rfl
theorem k_170_188 (L : Nat) (xs : Nat → Int32) : ll_OK1 cX11_spellsOne RX11 none false ll_mN ll_mR ll_mK ll_cnt L xs false 188 (.inl (lo_aload 189 0)) := lk_aload_n (k := 0) (by decide +kernel) rfl
theorem k_170_189 (L : Nat) (xs : Nat → Int32) : ll_OK1 cX11_spellsOne RX11 none false ll_mN ll_mR ll_mK ll_cnt L xs false 189 (.inl (lo_push 191 (.int 40))) := lk_bipush (n := 40) (by decide +kernel) (by decide)
theorem k_170_191 (L : Nat) (xs : Nat → Int32) : ll_OK1 cX11_spellsOne RX11 none false ll_mN ll_mR ll_mK ll_cnt L xs false 191 (.inr (.inl (168, 2, 194))) := ⟨rfl, by decide, by rw [mN_168, mK_168, mR_168]; exact lj_v 191 1 11 (RX11, TX11, 46) (by decide +kernel) tb_692 tb_693 tb_694 rfl rfl rfl rfl (by decide +kernel)⟩
theorem k_170_194 (L : Nat) (xs : Nat → Int32) : ll_OK1 cX11_spellsOne RX11 none false ll_mN ll_mR ll_mK ll_cnt L xs false 194 (.inr (.inr 0)) := ⟨fun _ => ⟨(by decide +kernel), rfl⟩, (fun h => by cases h), fun h => by cases h⟩
theorem ok_170 (L : Nat) (xs : Nat → Int32) : ∀ q ∈ cd_170, ll_OK1 cX11_spellsOne RX11 none false ll_mN ll_mR ll_mK ll_cnt L xs false q.1 q.2 :=
  List.forall_mem_cons.mpr ⟨k_170_0 L xs, List.forall_mem_cons.mpr ⟨k_170_1 L xs, List.forall_mem_cons.mpr ⟨k_170_4 L xs, List.forall_mem_cons.mpr ⟨k_170_5 L xs, List.forall_mem_cons.mpr ⟨k_170_6 L xs, List.forall_mem_cons.mpr ⟨k_170_7 L xs, List.forall_mem_cons.mpr ⟨k_170_8 L xs, List.forall_mem_cons.mpr ⟨k_170_9 L xs, List.forall_mem_cons.mpr ⟨k_170_12 L xs, List.forall_mem_cons.mpr ⟨k_170_13 L xs, List.forall_mem_cons.mpr ⟨k_170_14 L xs, List.forall_mem_cons.mpr ⟨k_170_17 L xs, List.forall_mem_cons.mpr ⟨k_170_19 L xs, List.forall_mem_cons.mpr ⟨k_170_22 L xs, List.forall_mem_cons.mpr ⟨k_170_23 L xs, List.forall_mem_cons.mpr ⟨k_170_24 L xs, List.forall_mem_cons.mpr ⟨k_170_27 L xs, List.forall_mem_cons.mpr ⟨k_170_29 L xs, List.forall_mem_cons.mpr ⟨k_170_32 L xs, List.forall_mem_cons.mpr ⟨k_170_34 L xs, List.forall_mem_cons.mpr ⟨k_170_35 L xs, List.forall_mem_cons.mpr ⟨k_170_38 L xs, List.forall_mem_cons.mpr ⟨k_170_39 L xs, List.forall_mem_cons.mpr ⟨k_170_42 L xs, List.forall_mem_cons.mpr ⟨k_170_43 L xs, List.forall_mem_cons.mpr ⟨k_170_44 L xs, List.forall_mem_cons.mpr ⟨k_170_45 L xs, List.forall_mem_cons.mpr ⟨k_170_46 L xs, List.forall_mem_cons.mpr ⟨k_170_49 L xs, List.forall_mem_cons.mpr ⟨k_170_50 L xs, List.forall_mem_cons.mpr ⟨k_170_51 L xs, List.forall_mem_cons.mpr ⟨k_170_52 L xs, List.forall_mem_cons.mpr ⟨k_170_55 L xs, List.forall_mem_cons.mpr ⟨k_170_56 L xs, List.forall_mem_cons.mpr ⟨k_170_58 L xs, List.forall_mem_cons.mpr ⟨k_170_61 L xs, List.forall_mem_cons.mpr ⟨k_170_62 L xs, List.forall_mem_cons.mpr ⟨k_170_63 L xs, List.forall_mem_cons.mpr ⟨k_170_66 L xs, List.forall_mem_cons.mpr ⟨k_170_67 L xs, List.forall_mem_cons.mpr ⟨k_170_70 L xs, List.forall_mem_cons.mpr ⟨k_170_71 L xs, List.forall_mem_cons.mpr ⟨k_170_72 L xs, List.forall_mem_cons.mpr ⟨k_170_73 L xs, List.forall_mem_cons.mpr ⟨k_170_74 L xs, List.forall_mem_cons.mpr ⟨k_170_77 L xs, List.forall_mem_cons.mpr ⟨k_170_78 L xs, List.forall_mem_cons.mpr ⟨k_170_79 L xs, List.forall_mem_cons.mpr ⟨k_170_80 L xs, List.forall_mem_cons.mpr ⟨k_170_83 L xs, List.forall_mem_cons.mpr ⟨k_170_84 L xs, List.forall_mem_cons.mpr ⟨k_170_87 L xs, List.forall_mem_cons.mpr ⟨k_170_88 L xs, List.forall_mem_cons.mpr ⟨k_170_91 L xs, List.forall_mem_cons.mpr ⟨k_170_92 L xs, List.forall_mem_cons.mpr ⟨k_170_95 L xs, List.forall_mem_cons.mpr ⟨k_170_96 L xs, List.forall_mem_cons.mpr ⟨k_170_97 L xs, List.forall_mem_cons.mpr ⟨k_170_100 L xs, List.forall_mem_cons.mpr ⟨k_170_101 L xs, List.forall_mem_cons.mpr ⟨k_170_104 L xs, List.forall_mem_cons.mpr ⟨k_170_105 L xs, List.forall_mem_cons.mpr ⟨k_170_107 L xs, List.forall_mem_cons.mpr ⟨k_170_109 L xs, List.forall_mem_cons.mpr ⟨k_170_112 L xs, List.forall_mem_cons.mpr ⟨k_170_113 L xs, List.forall_mem_cons.mpr ⟨k_170_115 L xs, List.forall_mem_cons.mpr ⟨k_170_118 L xs, List.forall_mem_cons.mpr ⟨k_170_119 L xs, List.forall_mem_cons.mpr ⟨k_170_122 L xs, List.forall_mem_cons.mpr ⟨k_170_123 L xs, List.forall_mem_cons.mpr ⟨k_170_124 L xs, List.forall_mem_cons.mpr ⟨k_170_125 L xs, List.forall_mem_cons.mpr ⟨k_170_126 L xs, List.forall_mem_cons.mpr ⟨k_170_128 L xs, List.forall_mem_cons.mpr ⟨k_170_130 L xs, List.forall_mem_cons.mpr ⟨k_170_133 L xs, List.forall_mem_cons.mpr ⟨k_170_134 L xs, List.forall_mem_cons.mpr ⟨k_170_135 L xs, List.forall_mem_cons.mpr ⟨k_170_138 L xs, List.forall_mem_cons.mpr ⟨k_170_139 L xs, List.forall_mem_cons.mpr ⟨k_170_142 L xs, List.forall_mem_cons.mpr ⟨k_170_143 L xs, List.forall_mem_cons.mpr ⟨k_170_144 L xs, List.forall_mem_cons.mpr ⟨k_170_146 L xs, List.forall_mem_cons.mpr ⟨k_170_147 L xs, List.forall_mem_cons.mpr ⟨k_170_148 L xs, List.forall_mem_cons.mpr ⟨k_170_149 L xs, List.forall_mem_cons.mpr ⟨k_170_150 L xs, List.forall_mem_cons.mpr ⟨k_170_153 L xs, List.forall_mem_cons.mpr ⟨k_170_154 L xs, List.forall_mem_cons.mpr ⟨k_170_157 L xs, List.forall_mem_cons.mpr ⟨k_170_158 L xs, List.forall_mem_cons.mpr ⟨k_170_161 L xs, List.forall_mem_cons.mpr ⟨k_170_163 L xs, List.forall_mem_cons.mpr ⟨k_170_166 L xs, List.forall_mem_cons.mpr ⟨k_170_167 L xs, List.forall_mem_cons.mpr ⟨k_170_168 L xs, List.forall_mem_cons.mpr ⟨k_170_171 L xs, List.forall_mem_cons.mpr ⟨k_170_172 L xs, List.forall_mem_cons.mpr ⟨k_170_174 L xs, List.forall_mem_cons.mpr ⟨k_170_177 L xs, List.forall_mem_cons.mpr ⟨k_170_180 L xs, List.forall_mem_cons.mpr ⟨k_170_183 L xs, List.forall_mem_cons.mpr ⟨k_170_185 L xs, List.forall_mem_cons.mpr ⟨k_170_188 L xs, List.forall_mem_cons.mpr ⟨k_170_189 L xs, List.forall_mem_cons.mpr ⟨k_170_191 L xs, List.forall_mem_cons.mpr ⟨k_170_194 L xs, fun _ h => absurd h List.not_mem_nil⟩⟩⟩⟩⟩⟩⟩⟩⟩⟩⟩⟩⟩⟩⟩⟩⟩⟩⟩⟩⟩⟩⟩⟩⟩⟩⟩⟩⟩⟩⟩⟩⟩⟩⟩⟩⟩⟩⟩⟩⟩⟩⟩⟩⟩⟩⟩⟩⟩⟩⟩⟩⟩⟩⟩⟩⟩⟩⟩⟩⟩⟩⟩⟩⟩⟩⟩⟩⟩⟩⟩⟩⟩⟩⟩⟩⟩⟩⟩⟩⟩⟩⟩⟩⟩⟩⟩⟩⟩⟩⟩⟩⟩⟩⟩⟩⟩⟩⟩⟩⟩⟩⟩⟩⟩⟩⟩⟩⟩
/-- InclusionProverModel.lacks.(II)I -/
def cd_171 : List (Nat × ll_O) := [
  (0, .inl (lo_aload 1 0)),
  (1, .inl (lo_getf 4 11 5)),
  (4, .inl (lo_iload 5 1)),
  (5, .inl (lo_ald 6 0)),
  (6, .inl (lo_push 7 (.int 3))),
  (7, .inl (lo_cmp 12 10 (fun x y => decide (y ≤ x)))),
  (10, .inl (lo_push 11 (.int (-1)))),
  (11, .inr (.inr 1)),
  (12, .inl (lo_aload 13 0)),
  (13, .inl (lo_getf 16 11 5)),
  (16, .inl (lo_iload 17 1)),
  (17, .inl (lo_ald 18 0)),
  (18, .inl (lo_push 19 (.int 3))),
  (19, .inl (lo_cmp 82 22 (fun x y => decide (¬ x = y)))),
  (22, .inl (lo_push 23 (.int 0))),
  (23, .inl (lo_istore 24 3)),
  (24, .inl (lo_iload 25 3)),
  (25, .inl (lo_aload 26 0)),
  (26, .inl (lo_getf 29 11 7)),
  (29, .inl (lo_iload 30 1)),
  (30, .inl (lo_ald 31 0)),
  (31, .inl (lo_cmp 80 34 (fun x y => decide (y ≤ x)))),
  (34, .inl (lo_aload 35 0)),
  (35, .inl (lo_getf 38 11 15)),
  (38, .inl (lo_push 39 (.int 3))),
  (39, .inl (lo_aload 40 0)),
  (40, .inl (lo_getf 43 11 10)),
  (43, .inl (lo_aload 44 0)),
  (44, .inl (lo_getf 47 11 6)),
  (47, .inl (lo_iload 48 1)),
  (48, .inl (lo_ald 49 0)),
  (49, .inl (lo_iload 50 3)),
  (50, .inl (lo_bin 51 (fun x y => x + y))),
  (51, .inl (lo_ald 52 0)),
  (52, .inl (lo_bin 53 (fun x y => x * y))),
  (53, .inl (lo_iload 54 2)),
  (54, .inl (lo_bin 55 (fun x y => x + y))),
  (55, .inl (lo_ald 56 0)),
  (56, .inl (lo_push 57 (.int (-1)))),
  (57, .inl (lo_cmp 74 60 (fun x y => decide (¬ x = y)))),
  (60, .inl (lo_aload 61 0)),
  (61, .inl (lo_getf 64 11 10)),
  (64, .inl (lo_aload 65 0)),
  (65, .inl (lo_getf 68 11 6)),
  (68, .inl (lo_iload 69 1)),
  (69, .inl (lo_ald 70 0)),
  (70, .inl (lo_iload 71 3)),
  (71, .inl (lo_bin 72 (fun x y => x + y))),
  (72, .inl (lo_ald 73 0)),
  (73, .inr (.inr 1)),
  (74, .inl (lo_iinc 77 3 1)),
  (77, .inl (lo_goto 24)),
  (80, .inl (lo_push 81 (.int (-1)))),
  (81, .inr (.inr 1)),
  (82, .inl (lo_aload 83 0)),
  (83, .inl (lo_getf 86 11 10)),
  (86, .inl (lo_aload 87 0)),
  (87, .inl (lo_getf 90 11 6)),
  (90, .inl (lo_iload 91 1)),
  (91, .inl (lo_ald 92 0)),
  (92, .inl (lo_ald 93 0)),
  (93, .inl (lo_istore 94 3)),
  (94, .inl (lo_aload 95 0)),
  (95, .inl (lo_getf 98 11 15)),
  (98, .inl (lo_push 99 (.int 3))),
  (99, .inl (lo_iload 100 3)),
  (100, .inl (lo_bin 101 (fun x y => x * y))),
  (101, .inl (lo_iload 102 2)),
  (102, .inl (lo_bin 103 (fun x y => x + y))),
  (103, .inl (lo_ald 104 0)),
  (104, .inl (lo_push 105 (.int (-1)))),
  (105, .inl (lo_cmp 110 108 (fun x y => decide (¬ x = y)))),
  (108, .inl (lo_iload 109 3)),
  (109, .inr (.inr 1)),
  (110, .inl (lo_aload 111 0)),
  (111, .inl (lo_getf 114 11 5)),
  (114, .inl (lo_iload 115 1)),
  (115, .inl (lo_ald 116 0)),
  (116, .inl (lo_push 117 (.int 5))),
  (117, .inl (lo_cmp 129 120 (fun x y => decide (x = y)))),
  (120, .inl (lo_aload 121 0)),
  (121, .inl (lo_getf 124 11 11)),
  (124, .inl (lo_iload 125 3)),
  (125, .inl (lo_ald 126 1)),
  (126, .inl (lo_if 131 129 (fun x => decide (¬ x = 0)))),
  (129, .inl (lo_push 130 (.int (-1)))),
  (130, .inr (.inr 1)),
  (131, .inl (lo_aload 132 0)),
  (132, .inl (lo_push 133 (.int 1))),
  (133, .inl (lo_iload 134 1)),
  (134, .inl (lo_push 135 (.int 1))),
  (135, .inr (.inl (161, 4, 138))),
  (138, .inl (lo_istore 140 4)),
  (140, .inl (lo_aload 141 0)),
  (141, .inl (lo_getf 144 11 15)),
  (144, .inl (lo_push 145 (.int 3))),
  (145, .inl (lo_iload 147 4)),
  (147, .inl (lo_bin 148 (fun x y => x * y))),
  (148, .inl (lo_iload 149 2)),
  (149, .inl (lo_bin 150 (fun x y => x + y))),
  (150, .inl (lo_ald 151 0)),
  (151, .inl (lo_push 152 (.int (-1)))),
  (152, .inl (lo_cmp 160 155 (fun x y => decide (¬ x = y)))),
  (155, .inl (lo_iload 157 4)),
  (157, .inl (lo_goto 161)),
  (160, .inl (lo_push 161 (.int (-1)))),
  (161, .inr (.inr 1))]
theorem k_171_0 (L : Nat) (xs : Nat → Int32) : ll_OK1 cX11_lacks RX11 (some .int) false ll_mN ll_mR ll_mK ll_cnt L xs false 0 (.inl (lo_aload 1 0)) := lk_aload_n (k := 0) (by decide +kernel) rfl
theorem k_171_1 (L : Nat) (xs : Nat → Int32) : ll_OK1 cX11_lacks RX11 (some .int) false ll_mN ll_mR ll_mK ll_cnt L xs false 1 (.inl (lo_getf 4 11 5)) := lk_getf (ix := 25) (ci := 11) (k := 5) (C := RX11) (T := TX11) (N := 46) (by decide +kernel) rfl in_11 (by decide) tb_610
theorem k_171_4 (L : Nat) (xs : Nat → Int32) : ll_OK1 cX11_lacks RX11 (some .int) false ll_mN ll_mR ll_mK ll_cnt L xs false 4 (.inl (lo_iload 5 1)) := lk_iload_n (k := 1) (by decide +kernel) rfl
theorem k_171_5 (L : Nat) (xs : Nat → Int32) : ll_OK1 cX11_lacks RX11 (some .int) false ll_mN ll_mR ll_mK ll_cnt L xs false 5 (.inl (lo_ald 6 0)) := lk_iald (by decide +kernel)
theorem k_171_6 (L : Nat) (xs : Nat → Int32) : ll_OK1 cX11_lacks RX11 (some .int) false ll_mN ll_mR ll_mK ll_cnt L xs false 6 (.inl (lo_push 7 (.int 3))) := lk_iconst (n := 3) (by decide +kernel) (by decide)
theorem k_171_7 (L : Nat) (xs : Nat → Int32) : ll_OK1 cX11_lacks RX11 (some .int) false ll_mN ll_mR ll_mK ll_cnt L xs false 7 (.inl (lo_cmp 12 10 (fun x y => decide (y ≤ x)))) := lk_icmp_ge (off := 5) (by decide +kernel) rfl
theorem k_171_10 (L : Nat) (xs : Nat → Int32) : ll_OK1 cX11_lacks RX11 (some .int) false ll_mN ll_mR ll_mK ll_cnt L xs false 10 (.inl (lo_push 11 (.int (-1)))) := lk_iconst (n := (-1)) (by decide +kernel) (by decide)
theorem k_171_11 (L : Nat) (xs : Nat → Int32) : ll_OK1 cX11_lacks RX11 (some .int) false ll_mN ll_mR ll_mK ll_cnt L xs false 11 (.inr (.inr 1)) := ⟨(fun h => by cases h), (fun _ => ⟨(by decide +kernel), rfl⟩), fun h => by cases h⟩
theorem k_171_12 (L : Nat) (xs : Nat → Int32) : ll_OK1 cX11_lacks RX11 (some .int) false ll_mN ll_mR ll_mK ll_cnt L xs false 12 (.inl (lo_aload 13 0)) := lk_aload_n (k := 0) (by decide +kernel) rfl
theorem k_171_13 (L : Nat) (xs : Nat → Int32) : ll_OK1 cX11_lacks RX11 (some .int) false ll_mN ll_mR ll_mK ll_cnt L xs false 13 (.inl (lo_getf 16 11 5)) := lk_getf (ix := 25) (ci := 11) (k := 5) (C := RX11) (T := TX11) (N := 46) (by decide +kernel) rfl in_11 (by decide) tb_610
theorem k_171_16 (L : Nat) (xs : Nat → Int32) : ll_OK1 cX11_lacks RX11 (some .int) false ll_mN ll_mR ll_mK ll_cnt L xs false 16 (.inl (lo_iload 17 1)) := lk_iload_n (k := 1) (by decide +kernel) rfl
theorem k_171_17 (L : Nat) (xs : Nat → Int32) : ll_OK1 cX11_lacks RX11 (some .int) false ll_mN ll_mR ll_mK ll_cnt L xs false 17 (.inl (lo_ald 18 0)) := lk_iald (by decide +kernel)
theorem k_171_18 (L : Nat) (xs : Nat → Int32) : ll_OK1 cX11_lacks RX11 (some .int) false ll_mN ll_mR ll_mK ll_cnt L xs false 18 (.inl (lo_push 19 (.int 3))) := lk_iconst (n := 3) (by decide +kernel) (by decide)
theorem k_171_19 (L : Nat) (xs : Nat → Int32) : ll_OK1 cX11_lacks RX11 (some .int) false ll_mN ll_mR ll_mK ll_cnt L xs false 19 (.inl (lo_cmp 82 22 (fun x y => decide (¬ x = y)))) := lk_icmp_ne (off := 63) (by decide +kernel) rfl
theorem k_171_22 (L : Nat) (xs : Nat → Int32) : ll_OK1 cX11_lacks RX11 (some .int) false ll_mN ll_mR ll_mK ll_cnt L xs false 22 (.inl (lo_push 23 (.int 0))) := lk_iconst (n := 0) (by decide +kernel) (by decide)
theorem k_171_23 (L : Nat) (xs : Nat → Int32) : ll_OK1 cX11_lacks RX11 (some .int) false ll_mN ll_mR ll_mK ll_cnt L xs false 23 (.inl (lo_istore 24 3)) := lk_istore_n (k := 3) (by decide +kernel) rfl
theorem k_171_24 (L : Nat) (xs : Nat → Int32) : ll_OK1 cX11_lacks RX11 (some .int) false ll_mN ll_mR ll_mK ll_cnt L xs false 24 (.inl (lo_iload 25 3)) := lk_iload_n (k := 3) (by decide +kernel) rfl
theorem k_171_25 (L : Nat) (xs : Nat → Int32) : ll_OK1 cX11_lacks RX11 (some .int) false ll_mN ll_mR ll_mK ll_cnt L xs false 25 (.inl (lo_aload 26 0)) := lk_aload_n (k := 0) (by decide +kernel) rfl
theorem k_171_26 (L : Nat) (xs : Nat → Int32) : ll_OK1 cX11_lacks RX11 (some .int) false ll_mN ll_mR ll_mK ll_cnt L xs false 26 (.inl (lo_getf 29 11 7)) := lk_getf (ix := 31) (ci := 11) (k := 7) (C := RX11) (T := TX11) (N := 46) (by decide +kernel) rfl in_11 (by decide) tb_612
theorem k_171_29 (L : Nat) (xs : Nat → Int32) : ll_OK1 cX11_lacks RX11 (some .int) false ll_mN ll_mR ll_mK ll_cnt L xs false 29 (.inl (lo_iload 30 1)) := lk_iload_n (k := 1) (by decide +kernel) rfl
theorem k_171_30 (L : Nat) (xs : Nat → Int32) : ll_OK1 cX11_lacks RX11 (some .int) false ll_mN ll_mR ll_mK ll_cnt L xs false 30 (.inl (lo_ald 31 0)) := lk_iald (by decide +kernel)
theorem k_171_31 (L : Nat) (xs : Nat → Int32) : ll_OK1 cX11_lacks RX11 (some .int) false ll_mN ll_mR ll_mK ll_cnt L xs false 31 (.inl (lo_cmp 80 34 (fun x y => decide (y ≤ x)))) := lk_icmp_ge (off := 49) (by decide +kernel) rfl
theorem k_171_34 (L : Nat) (xs : Nat → Int32) : ll_OK1 cX11_lacks RX11 (some .int) false ll_mN ll_mR ll_mK ll_cnt L xs false 34 (.inl (lo_aload 35 0)) := lk_aload_n (k := 0) (by decide +kernel) rfl
theorem k_171_35 (L : Nat) (xs : Nat → Int32) : ll_OK1 cX11_lacks RX11 (some .int) false ll_mN ll_mR ll_mK ll_cnt L xs false 35 (.inl (lo_getf 38 11 15)) := lk_getf (ix := 49) (ci := 11) (k := 15) (C := RX11) (T := TX11) (N := 46) (by decide +kernel) rfl in_11 (by decide) tb_618
theorem k_171_38 (L : Nat) (xs : Nat → Int32) : ll_OK1 cX11_lacks RX11 (some .int) false ll_mN ll_mR ll_mK ll_cnt L xs false 38 (.inl (lo_push 39 (.int 3))) := lk_iconst (n := 3) (by decide +kernel) (by decide)
theorem k_171_39 (L : Nat) (xs : Nat → Int32) : ll_OK1 cX11_lacks RX11 (some .int) false ll_mN ll_mR ll_mK ll_cnt L xs false 39 (.inl (lo_aload 40 0)) := lk_aload_n (k := 0) (by decide +kernel) rfl
theorem k_171_40 (L : Nat) (xs : Nat → Int32) : ll_OK1 cX11_lacks RX11 (some .int) false ll_mN ll_mR ll_mK ll_cnt L xs false 40 (.inl (lo_getf 43 11 10)) := lk_getf (ix := 40) (ci := 11) (k := 10) (C := RX11) (T := TX11) (N := 46) (by decide +kernel) rfl in_11 (by decide) tb_615
theorem k_171_43 (L : Nat) (xs : Nat → Int32) : ll_OK1 cX11_lacks RX11 (some .int) false ll_mN ll_mR ll_mK ll_cnt L xs false 43 (.inl (lo_aload 44 0)) := lk_aload_n (k := 0) (by decide +kernel) rfl
theorem k_171_44 (L : Nat) (xs : Nat → Int32) : ll_OK1 cX11_lacks RX11 (some .int) false ll_mN ll_mR ll_mK ll_cnt L xs false 44 (.inl (lo_getf 47 11 6)) := lk_getf (ix := 28) (ci := 11) (k := 6) (C := RX11) (T := TX11) (N := 46) (by decide +kernel) rfl in_11 (by decide) tb_611
theorem k_171_47 (L : Nat) (xs : Nat → Int32) : ll_OK1 cX11_lacks RX11 (some .int) false ll_mN ll_mR ll_mK ll_cnt L xs false 47 (.inl (lo_iload 48 1)) := lk_iload_n (k := 1) (by decide +kernel) rfl
theorem k_171_48 (L : Nat) (xs : Nat → Int32) : ll_OK1 cX11_lacks RX11 (some .int) false ll_mN ll_mR ll_mK ll_cnt L xs false 48 (.inl (lo_ald 49 0)) := lk_iald (by decide +kernel)
theorem k_171_49 (L : Nat) (xs : Nat → Int32) : ll_OK1 cX11_lacks RX11 (some .int) false ll_mN ll_mR ll_mK ll_cnt L xs false 49 (.inl (lo_iload 50 3)) := lk_iload_n (k := 3) (by decide +kernel) rfl
theorem k_171_50 (L : Nat) (xs : Nat → Int32) : ll_OK1 cX11_lacks RX11 (some .int) false ll_mN ll_mR ll_mK ll_cnt L xs false 50 (.inl (lo_bin 51 (fun x y => x + y))) := lk_iadd (by decide +kernel)
theorem k_171_51 (L : Nat) (xs : Nat → Int32) : ll_OK1 cX11_lacks RX11 (some .int) false ll_mN ll_mR ll_mK ll_cnt L xs false 51 (.inl (lo_ald 52 0)) := lk_iald (by decide +kernel)
theorem k_171_52 (L : Nat) (xs : Nat → Int32) : ll_OK1 cX11_lacks RX11 (some .int) false ll_mN ll_mR ll_mK ll_cnt L xs false 52 (.inl (lo_bin 53 (fun x y => x * y))) := lk_imul (by decide +kernel)
theorem k_171_53 (L : Nat) (xs : Nat → Int32) : ll_OK1 cX11_lacks RX11 (some .int) false ll_mN ll_mR ll_mK ll_cnt L xs false 53 (.inl (lo_iload 54 2)) := lk_iload_n (k := 2) (by decide +kernel) rfl
theorem k_171_54 (L : Nat) (xs : Nat → Int32) : ll_OK1 cX11_lacks RX11 (some .int) false ll_mN ll_mR ll_mK ll_cnt L xs false 54 (.inl (lo_bin 55 (fun x y => x + y))) := lk_iadd (by decide +kernel)
theorem k_171_55 (L : Nat) (xs : Nat → Int32) : ll_OK1 cX11_lacks RX11 (some .int) false ll_mN ll_mR ll_mK ll_cnt L xs false 55 (.inl (lo_ald 56 0)) := lk_iald (by decide +kernel)
theorem k_171_56 (L : Nat) (xs : Nat → Int32) : ll_OK1 cX11_lacks RX11 (some .int) false ll_mN ll_mR ll_mK ll_cnt L xs false 56 (.inl (lo_push 57 (.int (-1)))) := lk_iconst (n := (-1)) (by decide +kernel) (by decide)
theorem k_171_57 (L : Nat) (xs : Nat → Int32) : ll_OK1 cX11_lacks RX11 (some .int) false ll_mN ll_mR ll_mK ll_cnt L xs false 57 (.inl (lo_cmp 74 60 (fun x y => decide (¬ x = y)))) := lk_icmp_ne (off := 17) (by decide +kernel) rfl
theorem k_171_60 (L : Nat) (xs : Nat → Int32) : ll_OK1 cX11_lacks RX11 (some .int) false ll_mN ll_mR ll_mK ll_cnt L xs false 60 (.inl (lo_aload 61 0)) := lk_aload_n (k := 0) (by decide +kernel) rfl
theorem k_171_61 (L : Nat) (xs : Nat → Int32) : ll_OK1 cX11_lacks RX11 (some .int) false ll_mN ll_mR ll_mK ll_cnt L xs false 61 (.inl (lo_getf 64 11 10)) := lk_getf (ix := 40) (ci := 11) (k := 10) (C := RX11) (T := TX11) (N := 46) (by decide +kernel) rfl in_11 (by decide) tb_615
theorem k_171_64 (L : Nat) (xs : Nat → Int32) : ll_OK1 cX11_lacks RX11 (some .int) false ll_mN ll_mR ll_mK ll_cnt L xs false 64 (.inl (lo_aload 65 0)) := lk_aload_n (k := 0) (by decide +kernel) rfl
theorem k_171_65 (L : Nat) (xs : Nat → Int32) : ll_OK1 cX11_lacks RX11 (some .int) false ll_mN ll_mR ll_mK ll_cnt L xs false 65 (.inl (lo_getf 68 11 6)) := lk_getf (ix := 28) (ci := 11) (k := 6) (C := RX11) (T := TX11) (N := 46) (by decide +kernel) rfl in_11 (by decide) tb_611
theorem k_171_68 (L : Nat) (xs : Nat → Int32) : ll_OK1 cX11_lacks RX11 (some .int) false ll_mN ll_mR ll_mK ll_cnt L xs false 68 (.inl (lo_iload 69 1)) := lk_iload_n (k := 1) (by decide +kernel) rfl
theorem k_171_69 (L : Nat) (xs : Nat → Int32) : ll_OK1 cX11_lacks RX11 (some .int) false ll_mN ll_mR ll_mK ll_cnt L xs false 69 (.inl (lo_ald 70 0)) := lk_iald (by decide +kernel)
theorem k_171_70 (L : Nat) (xs : Nat → Int32) : ll_OK1 cX11_lacks RX11 (some .int) false ll_mN ll_mR ll_mK ll_cnt L xs false 70 (.inl (lo_iload 71 3)) := lk_iload_n (k := 3) (by decide +kernel) rfl
theorem k_171_71 (L : Nat) (xs : Nat → Int32) : ll_OK1 cX11_lacks RX11 (some .int) false ll_mN ll_mR ll_mK ll_cnt L xs false 71 (.inl (lo_bin 72 (fun x y => x + y))) := lk_iadd (by decide +kernel)
theorem k_171_72 (L : Nat) (xs : Nat → Int32) : ll_OK1 cX11_lacks RX11 (some .int) false ll_mN ll_mR ll_mK ll_cnt L xs false 72 (.inl (lo_ald 73 0)) := lk_iald (by decide +kernel)
theorem k_171_73 (L : Nat) (xs : Nat → Int32) : ll_OK1 cX11_lacks RX11 (some .int) false ll_mN ll_mR ll_mK ll_cnt L xs false 73 (.inr (.inr 1)) := ⟨(fun h => by cases h), (fun _ => ⟨(by decide +kernel), rfl⟩), fun h => by cases h⟩
theorem k_171_74 (L : Nat) (xs : Nat → Int32) : ll_OK1 cX11_lacks RX11 (some .int) false ll_mN ll_mR ll_mK ll_cnt L xs false 74 (.inl (lo_iinc 77 3 1)) := lk_iinc (n := 1) (by decide +kernel) (by decide)
theorem k_171_77 (L : Nat) (xs : Nat → Int32) : ll_OK1 cX11_lacks RX11 (some .int) false ll_mN ll_mR ll_mK ll_cnt L xs false 77 (.inl (lo_goto 24)) := lk_goto (off := (-53)) (by decide +kernel) rfl
theorem k_171_80 (L : Nat) (xs : Nat → Int32) : ll_OK1 cX11_lacks RX11 (some .int) false ll_mN ll_mR ll_mK ll_cnt L xs false 80 (.inl (lo_push 81 (.int (-1)))) := lk_iconst (n := (-1)) (by decide +kernel) (by decide)
theorem k_171_81 (L : Nat) (xs : Nat → Int32) : ll_OK1 cX11_lacks RX11 (some .int) false ll_mN ll_mR ll_mK ll_cnt L xs false 81 (.inr (.inr 1)) := ⟨(fun h => by cases h), (fun _ => ⟨(by decide +kernel), rfl⟩), fun h => by cases h⟩
theorem k_171_82 (L : Nat) (xs : Nat → Int32) : ll_OK1 cX11_lacks RX11 (some .int) false ll_mN ll_mR ll_mK ll_cnt L xs false 82 (.inl (lo_aload 83 0)) := lk_aload_n (k := 0) (by decide +kernel) rfl
theorem k_171_83 (L : Nat) (xs : Nat → Int32) : ll_OK1 cX11_lacks RX11 (some .int) false ll_mN ll_mR ll_mK ll_cnt L xs false 83 (.inl (lo_getf 86 11 10)) := lk_getf (ix := 40) (ci := 11) (k := 10) (C := RX11) (T := TX11) (N := 46) (by decide +kernel) rfl in_11 (by decide) tb_615
theorem k_171_86 (L : Nat) (xs : Nat → Int32) : ll_OK1 cX11_lacks RX11 (some .int) false ll_mN ll_mR ll_mK ll_cnt L xs false 86 (.inl (lo_aload 87 0)) := lk_aload_n (k := 0) (by decide +kernel) rfl
theorem k_171_87 (L : Nat) (xs : Nat → Int32) : ll_OK1 cX11_lacks RX11 (some .int) false ll_mN ll_mR ll_mK ll_cnt L xs false 87 (.inl (lo_getf 90 11 6)) := lk_getf (ix := 28) (ci := 11) (k := 6) (C := RX11) (T := TX11) (N := 46) (by decide +kernel) rfl in_11 (by decide) tb_611
theorem k_171_90 (L : Nat) (xs : Nat → Int32) : ll_OK1 cX11_lacks RX11 (some .int) false ll_mN ll_mR ll_mK ll_cnt L xs false 90 (.inl (lo_iload 91 1)) := lk_iload_n (k := 1) (by decide +kernel) rfl
theorem k_171_91 (L : Nat) (xs : Nat → Int32) : ll_OK1 cX11_lacks RX11 (some .int) false ll_mN ll_mR ll_mK ll_cnt L xs false 91 (.inl (lo_ald 92 0)) := lk_iald (by decide +kernel)
theorem k_171_92 (L : Nat) (xs : Nat → Int32) : ll_OK1 cX11_lacks RX11 (some .int) false ll_mN ll_mR ll_mK ll_cnt L xs false 92 (.inl (lo_ald 93 0)) := lk_iald (by decide +kernel)
theorem k_171_93 (L : Nat) (xs : Nat → Int32) : ll_OK1 cX11_lacks RX11 (some .int) false ll_mN ll_mR ll_mK ll_cnt L xs false 93 (.inl (lo_istore 94 3)) := lk_istore_n (k := 3) (by decide +kernel) rfl
theorem k_171_94 (L : Nat) (xs : Nat → Int32) : ll_OK1 cX11_lacks RX11 (some .int) false ll_mN ll_mR ll_mK ll_cnt L xs false 94 (.inl (lo_aload 95 0)) := lk_aload_n (k := 0) (by decide +kernel) rfl
theorem k_171_95 (L : Nat) (xs : Nat → Int32) : ll_OK1 cX11_lacks RX11 (some .int) false ll_mN ll_mR ll_mK ll_cnt L xs false 95 (.inl (lo_getf 98 11 15)) := lk_getf (ix := 49) (ci := 11) (k := 15) (C := RX11) (T := TX11) (N := 46) (by decide +kernel) rfl in_11 (by decide) tb_618
theorem k_171_98 (L : Nat) (xs : Nat → Int32) : ll_OK1 cX11_lacks RX11 (some .int) false ll_mN ll_mR ll_mK ll_cnt L xs false 98 (.inl (lo_push 99 (.int 3))) := lk_iconst (n := 3) (by decide +kernel) (by decide)
theorem k_171_99 (L : Nat) (xs : Nat → Int32) : ll_OK1 cX11_lacks RX11 (some .int) false ll_mN ll_mR ll_mK ll_cnt L xs false 99 (.inl (lo_iload 100 3)) := lk_iload_n (k := 3) (by decide +kernel) rfl
theorem k_171_100 (L : Nat) (xs : Nat → Int32) : ll_OK1 cX11_lacks RX11 (some .int) false ll_mN ll_mR ll_mK ll_cnt L xs false 100 (.inl (lo_bin 101 (fun x y => x * y))) := lk_imul (by decide +kernel)
theorem k_171_101 (L : Nat) (xs : Nat → Int32) : ll_OK1 cX11_lacks RX11 (some .int) false ll_mN ll_mR ll_mK ll_cnt L xs false 101 (.inl (lo_iload 102 2)) := lk_iload_n (k := 2) (by decide +kernel) rfl
theorem k_171_102 (L : Nat) (xs : Nat → Int32) : ll_OK1 cX11_lacks RX11 (some .int) false ll_mN ll_mR ll_mK ll_cnt L xs false 102 (.inl (lo_bin 103 (fun x y => x + y))) := lk_iadd (by decide +kernel)
theorem k_171_103 (L : Nat) (xs : Nat → Int32) : ll_OK1 cX11_lacks RX11 (some .int) false ll_mN ll_mR ll_mK ll_cnt L xs false 103 (.inl (lo_ald 104 0)) := lk_iald (by decide +kernel)
theorem k_171_104 (L : Nat) (xs : Nat → Int32) : ll_OK1 cX11_lacks RX11 (some .int) false ll_mN ll_mR ll_mK ll_cnt L xs false 104 (.inl (lo_push 105 (.int (-1)))) := lk_iconst (n := (-1)) (by decide +kernel) (by decide)
theorem k_171_105 (L : Nat) (xs : Nat → Int32) : ll_OK1 cX11_lacks RX11 (some .int) false ll_mN ll_mR ll_mK ll_cnt L xs false 105 (.inl (lo_cmp 110 108 (fun x y => decide (¬ x = y)))) := lk_icmp_ne (off := 5) (by decide +kernel) rfl
theorem k_171_108 (L : Nat) (xs : Nat → Int32) : ll_OK1 cX11_lacks RX11 (some .int) false ll_mN ll_mR ll_mK ll_cnt L xs false 108 (.inl (lo_iload 109 3)) := lk_iload_n (k := 3) (by decide +kernel) rfl
theorem k_171_109 (L : Nat) (xs : Nat → Int32) : ll_OK1 cX11_lacks RX11 (some .int) false ll_mN ll_mR ll_mK ll_cnt L xs false 109 (.inr (.inr 1)) := ⟨(fun h => by cases h), (fun _ => ⟨(by decide +kernel), rfl⟩), fun h => by cases h⟩
theorem k_171_110 (L : Nat) (xs : Nat → Int32) : ll_OK1 cX11_lacks RX11 (some .int) false ll_mN ll_mR ll_mK ll_cnt L xs false 110 (.inl (lo_aload 111 0)) := lk_aload_n (k := 0) (by decide +kernel) rfl
theorem k_171_111 (L : Nat) (xs : Nat → Int32) : ll_OK1 cX11_lacks RX11 (some .int) false ll_mN ll_mR ll_mK ll_cnt L xs false 111 (.inl (lo_getf 114 11 5)) := lk_getf (ix := 25) (ci := 11) (k := 5) (C := RX11) (T := TX11) (N := 46) (by decide +kernel) rfl in_11 (by decide) tb_610
theorem k_171_114 (L : Nat) (xs : Nat → Int32) : ll_OK1 cX11_lacks RX11 (some .int) false ll_mN ll_mR ll_mK ll_cnt L xs false 114 (.inl (lo_iload 115 1)) := lk_iload_n (k := 1) (by decide +kernel) rfl
theorem k_171_115 (L : Nat) (xs : Nat → Int32) : ll_OK1 cX11_lacks RX11 (some .int) false ll_mN ll_mR ll_mK ll_cnt L xs false 115 (.inl (lo_ald 116 0)) := lk_iald (by decide +kernel)
theorem k_171_116 (L : Nat) (xs : Nat → Int32) : ll_OK1 cX11_lacks RX11 (some .int) false ll_mN ll_mR ll_mK ll_cnt L xs false 116 (.inl (lo_push 117 (.int 5))) := lk_iconst (n := 5) (by decide +kernel) (by decide)
theorem k_171_117 (L : Nat) (xs : Nat → Int32) : ll_OK1 cX11_lacks RX11 (some .int) false ll_mN ll_mR ll_mK ll_cnt L xs false 117 (.inl (lo_cmp 129 120 (fun x y => decide (x = y)))) := lk_icmp_eq (off := 12) (by decide +kernel) rfl
theorem k_171_120 (L : Nat) (xs : Nat → Int32) : ll_OK1 cX11_lacks RX11 (some .int) false ll_mN ll_mR ll_mK ll_cnt L xs false 120 (.inl (lo_aload 121 0)) := lk_aload_n (k := 0) (by decide +kernel) rfl
theorem k_171_121 (L : Nat) (xs : Nat → Int32) : ll_OK1 cX11_lacks RX11 (some .int) false ll_mN ll_mR ll_mK ll_cnt L xs false 121 (.inl (lo_getf 124 11 11)) := lk_getf (ix := 43) (ci := 11) (k := 11) (C := RX11) (T := TX11) (N := 46) (by decide +kernel) rfl in_11 (by decide) tb_616
theorem k_171_124 (L : Nat) (xs : Nat → Int32) : ll_OK1 cX11_lacks RX11 (some .int) false ll_mN ll_mR ll_mK ll_cnt L xs false 124 (.inl (lo_iload 125 3)) := lk_iload_n (k := 3) (by decide +kernel) rfl
theorem k_171_125 (L : Nat) (xs : Nat → Int32) : ll_OK1 cX11_lacks RX11 (some .int) false ll_mN ll_mR ll_mK ll_cnt L xs false 125 (.inl (lo_ald 126 1)) := lk_zald (by decide +kernel)
theorem k_171_126 (L : Nat) (xs : Nat → Int32) : ll_OK1 cX11_lacks RX11 (some .int) false ll_mN ll_mR ll_mK ll_cnt L xs false 126 (.inl (lo_if 131 129 (fun x => decide (¬ x = 0)))) := lk_if_ne (off := 5) (by decide +kernel) rfl
theorem k_171_129 (L : Nat) (xs : Nat → Int32) : ll_OK1 cX11_lacks RX11 (some .int) false ll_mN ll_mR ll_mK ll_cnt L xs false 129 (.inl (lo_push 130 (.int (-1)))) := lk_iconst (n := (-1)) (by decide +kernel) (by decide)
theorem k_171_130 (L : Nat) (xs : Nat → Int32) : ll_OK1 cX11_lacks RX11 (some .int) false ll_mN ll_mR ll_mK ll_cnt L xs false 130 (.inr (.inr 1)) := ⟨(fun h => by cases h), (fun _ => ⟨(by decide +kernel), rfl⟩), fun h => by cases h⟩
theorem k_171_131 (L : Nat) (xs : Nat → Int32) : ll_OK1 cX11_lacks RX11 (some .int) false ll_mN ll_mR ll_mK ll_cnt L xs false 131 (.inl (lo_aload 132 0)) := lk_aload_n (k := 0) (by decide +kernel) rfl
theorem k_171_132 (L : Nat) (xs : Nat → Int32) : ll_OK1 cX11_lacks RX11 (some .int) false ll_mN ll_mR ll_mK ll_cnt L xs false 132 (.inl (lo_push 133 (.int 1))) := lk_iconst (n := 1) (by decide +kernel) (by decide)
theorem k_171_133 (L : Nat) (xs : Nat → Int32) : ll_OK1 cX11_lacks RX11 (some .int) false ll_mN ll_mR ll_mK ll_cnt L xs false 133 (.inl (lo_iload 134 1)) := lk_iload_n (k := 1) (by decide +kernel) rfl
theorem k_171_134 (L : Nat) (xs : Nat → Int32) : ll_OK1 cX11_lacks RX11 (some .int) false ll_mN ll_mR ll_mK ll_cnt L xs false 134 (.inl (lo_push 135 (.int 1))) := lk_iconst (n := 1) (by decide +kernel) (by decide)
theorem k_171_135 (L : Nat) (xs : Nat → Int32) : ll_OK1 cX11_lacks RX11 (some .int) false ll_mN ll_mR ll_mK ll_cnt L xs false 135 (.inr (.inl (161, 4, 138))) := ⟨rfl, by decide, by rw [mN_161, mK_161, mR_161]; exact lj_v 194 3 11 (RX11, TX11, 46) (by decide +kernel) tb_695 tb_696 tb_697 rfl rfl rfl rfl (by decide +kernel)⟩
theorem k_171_138 (L : Nat) (xs : Nat → Int32) : ll_OK1 cX11_lacks RX11 (some .int) false ll_mN ll_mR ll_mK ll_cnt L xs false 138 (.inl (lo_istore 140 4)) := lk_istore (by decide +kernel)
theorem k_171_140 (L : Nat) (xs : Nat → Int32) : ll_OK1 cX11_lacks RX11 (some .int) false ll_mN ll_mR ll_mK ll_cnt L xs false 140 (.inl (lo_aload 141 0)) := lk_aload_n (k := 0) (by decide +kernel) rfl
theorem k_171_141 (L : Nat) (xs : Nat → Int32) : ll_OK1 cX11_lacks RX11 (some .int) false ll_mN ll_mR ll_mK ll_cnt L xs false 141 (.inl (lo_getf 144 11 15)) := lk_getf (ix := 49) (ci := 11) (k := 15) (C := RX11) (T := TX11) (N := 46) (by decide +kernel) rfl in_11 (by decide) tb_618
theorem k_171_144 (L : Nat) (xs : Nat → Int32) : ll_OK1 cX11_lacks RX11 (some .int) false ll_mN ll_mR ll_mK ll_cnt L xs false 144 (.inl (lo_push 145 (.int 3))) := lk_iconst (n := 3) (by decide +kernel) (by decide)
theorem k_171_145 (L : Nat) (xs : Nat → Int32) : ll_OK1 cX11_lacks RX11 (some .int) false ll_mN ll_mR ll_mK ll_cnt L xs false 145 (.inl (lo_iload 147 4)) := lk_iload (by decide +kernel)
theorem k_171_147 (L : Nat) (xs : Nat → Int32) : ll_OK1 cX11_lacks RX11 (some .int) false ll_mN ll_mR ll_mK ll_cnt L xs false 147 (.inl (lo_bin 148 (fun x y => x * y))) := lk_imul (by decide +kernel)
theorem k_171_148 (L : Nat) (xs : Nat → Int32) : ll_OK1 cX11_lacks RX11 (some .int) false ll_mN ll_mR ll_mK ll_cnt L xs false 148 (.inl (lo_iload 149 2)) := lk_iload_n (k := 2) (by decide +kernel) rfl
theorem k_171_149 (L : Nat) (xs : Nat → Int32) : ll_OK1 cX11_lacks RX11 (some .int) false ll_mN ll_mR ll_mK ll_cnt L xs false 149 (.inl (lo_bin 150 (fun x y => x + y))) := lk_iadd (by decide +kernel)
theorem k_171_150 (L : Nat) (xs : Nat → Int32) : ll_OK1 cX11_lacks RX11 (some .int) false ll_mN ll_mR ll_mK ll_cnt L xs false 150 (.inl (lo_ald 151 0)) := lk_iald (by decide +kernel)
theorem k_171_151 (L : Nat) (xs : Nat → Int32) : ll_OK1 cX11_lacks RX11 (some .int) false ll_mN ll_mR ll_mK ll_cnt L xs false 151 (.inl (lo_push 152 (.int (-1)))) := lk_iconst (n := (-1)) (by decide +kernel) (by decide)
theorem k_171_152 (L : Nat) (xs : Nat → Int32) : ll_OK1 cX11_lacks RX11 (some .int) false ll_mN ll_mR ll_mK ll_cnt L xs false 152 (.inl (lo_cmp 160 155 (fun x y => decide (¬ x = y)))) := lk_icmp_ne (off := 8) (by decide +kernel) rfl
theorem k_171_155 (L : Nat) (xs : Nat → Int32) : ll_OK1 cX11_lacks RX11 (some .int) false ll_mN ll_mR ll_mK ll_cnt L xs false 155 (.inl (lo_iload 157 4)) := lk_iload (by decide +kernel)
theorem k_171_157 (L : Nat) (xs : Nat → Int32) : ll_OK1 cX11_lacks RX11 (some .int) false ll_mN ll_mR ll_mK ll_cnt L xs false 157 (.inl (lo_goto 161)) := lk_goto (off := 4) (by decide +kernel) rfl
theorem k_171_160 (L : Nat) (xs : Nat → Int32) : ll_OK1 cX11_lacks RX11 (some .int) false ll_mN ll_mR ll_mK ll_cnt L xs false 160 (.inl (lo_push 161 (.int (-1)))) := lk_iconst (n := (-1)) (by decide +kernel) (by decide)
theorem k_171_161 (L : Nat) (xs : Nat → Int32) : ll_OK1 cX11_lacks RX11 (some .int) false ll_mN ll_mR ll_mK ll_cnt L xs false 161 (.inr (.inr 1)) := ⟨(fun h => by cases h), (fun _ => ⟨(by decide +kernel), rfl⟩), fun h => by cases h⟩
theorem ok_171 (L : Nat) (xs : Nat → Int32) : ∀ q ∈ cd_171, ll_OK1 cX11_lacks RX11 (some .int) false ll_mN ll_mR ll_mK ll_cnt L xs false q.1 q.2 :=
  List.forall_mem_cons.mpr ⟨k_171_0 L xs, List.forall_mem_cons.mpr ⟨k_171_1 L xs, List.forall_mem_cons.mpr ⟨k_171_4 L xs, List.forall_mem_cons.mpr ⟨k_171_5 L xs, List.forall_mem_cons.mpr ⟨k_171_6 L xs, List.forall_mem_cons.mpr ⟨k_171_7 L xs, List.forall_mem_cons.mpr ⟨k_171_10 L xs, List.forall_mem_cons.mpr ⟨k_171_11 L xs, List.forall_mem_cons.mpr ⟨k_171_12 L xs, List.forall_mem_cons.mpr ⟨k_171_13 L xs, List.forall_mem_cons.mpr ⟨k_171_16 L xs, List.forall_mem_cons.mpr ⟨k_171_17 L xs, List.forall_mem_cons.mpr ⟨k_171_18 L xs, List.forall_mem_cons.mpr ⟨k_171_19 L xs, List.forall_mem_cons.mpr ⟨k_171_22 L xs, List.forall_mem_cons.mpr ⟨k_171_23 L xs, List.forall_mem_cons.mpr ⟨k_171_24 L xs, List.forall_mem_cons.mpr ⟨k_171_25 L xs, List.forall_mem_cons.mpr ⟨k_171_26 L xs, List.forall_mem_cons.mpr ⟨k_171_29 L xs, List.forall_mem_cons.mpr ⟨k_171_30 L xs, List.forall_mem_cons.mpr ⟨k_171_31 L xs, List.forall_mem_cons.mpr ⟨k_171_34 L xs, List.forall_mem_cons.mpr ⟨k_171_35 L xs, List.forall_mem_cons.mpr ⟨k_171_38 L xs, List.forall_mem_cons.mpr ⟨k_171_39 L xs, List.forall_mem_cons.mpr ⟨k_171_40 L xs, List.forall_mem_cons.mpr ⟨k_171_43 L xs, List.forall_mem_cons.mpr ⟨k_171_44 L xs, List.forall_mem_cons.mpr ⟨k_171_47 L xs, List.forall_mem_cons.mpr ⟨k_171_48 L xs, List.forall_mem_cons.mpr ⟨k_171_49 L xs, List.forall_mem_cons.mpr ⟨k_171_50 L xs, List.forall_mem_cons.mpr ⟨k_171_51 L xs, List.forall_mem_cons.mpr ⟨k_171_52 L xs, List.forall_mem_cons.mpr ⟨k_171_53 L xs, List.forall_mem_cons.mpr ⟨k_171_54 L xs, List.forall_mem_cons.mpr ⟨k_171_55 L xs, List.forall_mem_cons.mpr ⟨k_171_56 L xs, List.forall_mem_cons.mpr ⟨k_171_57 L xs, List.forall_mem_cons.mpr ⟨k_171_60 L xs, List.forall_mem_cons.mpr ⟨k_171_61 L xs, List.forall_mem_cons.mpr ⟨k_171_64 L xs, List.forall_mem_cons.mpr ⟨k_171_65 L xs, List.forall_mem_cons.mpr ⟨k_171_68 L xs, List.forall_mem_cons.mpr ⟨k_171_69 L xs, List.forall_mem_cons.mpr ⟨k_171_70 L xs, List.forall_mem_cons.mpr ⟨k_171_71 L xs, List.forall_mem_cons.mpr ⟨k_171_72 L xs, List.forall_mem_cons.mpr ⟨k_171_73 L xs, List.forall_mem_cons.mpr ⟨k_171_74 L xs, List.forall_mem_cons.mpr ⟨k_171_77 L xs, List.forall_mem_cons.mpr ⟨k_171_80 L xs, List.forall_mem_cons.mpr ⟨k_171_81 L xs, List.forall_mem_cons.mpr ⟨k_171_82 L xs, List.forall_mem_cons.mpr ⟨k_171_83 L xs, List.forall_mem_cons.mpr ⟨k_171_86 L xs, List.forall_mem_cons.mpr ⟨k_171_87 L xs, List.forall_mem_cons.mpr ⟨k_171_90 L xs, List.forall_mem_cons.mpr ⟨k_171_91 L xs, List.forall_mem_cons.mpr ⟨k_171_92 L xs, List.forall_mem_cons.mpr ⟨k_171_93 L xs, List.forall_mem_cons.mpr ⟨k_171_94 L xs, List.forall_mem_cons.mpr ⟨k_171_95 L xs, List.forall_mem_cons.mpr ⟨k_171_98 L xs, List.forall_mem_cons.mpr ⟨k_171_99 L xs, List.forall_mem_cons.mpr ⟨k_171_100 L xs, List.forall_mem_cons.mpr ⟨k_171_101 L xs, List.forall_mem_cons.mpr ⟨k_171_102 L xs, List.forall_mem_cons.mpr ⟨k_171_103 L xs, List.forall_mem_cons.mpr ⟨k_171_104 L xs, List.forall_mem_cons.mpr ⟨k_171_105 L xs, List.forall_mem_cons.mpr ⟨k_171_108 L xs, List.forall_mem_cons.mpr ⟨k_171_109 L xs, List.forall_mem_cons.mpr ⟨k_171_110 L xs, List.forall_mem_cons.mpr ⟨k_171_111 L xs, List.forall_mem_cons.mpr ⟨k_171_114 L xs, List.forall_mem_cons.mpr ⟨k_171_115 L xs, List.forall_mem_cons.mpr ⟨k_171_116 L xs, List.forall_mem_cons.mpr ⟨k_171_117 L xs, List.forall_mem_cons.mpr ⟨k_171_120 L xs, List.forall_mem_cons.mpr ⟨k_171_121 L xs, List.forall_mem_cons.mpr ⟨k_171_124 L xs, List.forall_mem_cons.mpr ⟨k_171_125 L xs, List.forall_mem_cons.mpr ⟨k_171_126 L xs, List.forall_mem_cons.mpr ⟨k_171_129 L xs, List.forall_mem_cons.mpr ⟨k_171_130 L xs, List.forall_mem_cons.mpr ⟨k_171_131 L xs, List.forall_mem_cons.mpr ⟨k_171_132 L xs, List.forall_mem_cons.mpr ⟨k_171_133 L xs, List.forall_mem_cons.mpr ⟨k_171_134 L xs, List.forall_mem_cons.mpr ⟨k_171_135 L xs, List.forall_mem_cons.mpr ⟨k_171_138 L xs, List.forall_mem_cons.mpr ⟨k_171_140 L xs, List.forall_mem_cons.mpr ⟨k_171_141 L xs, List.forall_mem_cons.mpr ⟨k_171_144 L xs, List.forall_mem_cons.mpr ⟨k_171_145 L xs, List.forall_mem_cons.mpr ⟨k_171_147 L xs, List.forall_mem_cons.mpr ⟨k_171_148 L xs, List.forall_mem_cons.mpr ⟨k_171_149 L xs, List.forall_mem_cons.mpr ⟨k_171_150 L xs, List.forall_mem_cons.mpr ⟨k_171_151 L xs, List.forall_mem_cons.mpr ⟨k_171_152 L xs, List.forall_mem_cons.mpr ⟨k_171_155 L xs, List.forall_mem_cons.mpr ⟨k_171_157 L xs, List.forall_mem_cons.mpr ⟨k_171_160 L xs, List.forall_mem_cons.mpr ⟨k_171_161 L xs, fun _ h => absurd h List.not_mem_nil⟩⟩⟩⟩⟩⟩⟩⟩⟩⟩⟩⟩⟩⟩⟩⟩⟩⟩⟩⟩⟩⟩⟩⟩⟩⟩⟩⟩⟩⟩⟩⟩⟩⟩⟩⟩⟩⟩⟩⟩⟩⟩⟩⟩⟩⟩⟩⟩⟩⟩⟩⟩⟩⟩⟩⟩⟩⟩⟩⟩⟩⟩⟩⟩⟩⟩⟩⟩⟩⟩⟩⟩⟩⟩⟩⟩⟩⟩⟩⟩⟩⟩⟩⟩⟩⟩⟩⟩⟩⟩⟩⟩⟩⟩⟩⟩⟩⟩⟩⟩⟩⟩⟩⟩⟩⟩⟩
/-- InclusionProverModel.lays.(I)V -/
def cd_172 : List (Nat × ll_O) := [
  (0, .inl (lo_push 1 (.int 0))),
  (1, .inl (lo_istore 2 2)),
  (2, .inl (lo_iload 3 2)),
  (3, .inl (lo_aload 4 0)),
  (4, .inl (lo_getf 7 11 33)),
  (7, .inl (lo_cmp 27 10 (fun x y => decide (y ≤ x)))),
  (10, .inl (lo_aload 11 0)),
  (11, .inl (lo_getf 14 11 32)),
  (14, .inl (lo_iload 15 2)),
  (15, .inl (lo_ald 16 0)),
  (16, .inl (lo_iload 17 1)),
  (17, .inl (lo_cmp 21 20 (fun x y => decide (¬ x = y)))),
  (20, .inr (.inr 0)),
  (21, .inl (lo_iinc 24 2 1)),
  (24, .inl (lo_goto 2)),
  (27, .inl (lo_aload 28 0)),
  (28, .inl (lo_getf 31 11 32)),
  (31, .inl (lo_aload 32 0)),
  (32, .inl (lo_getf 35 11 33)),
  (35, .inl (lo_iload 36 1)),
  (36, .inl (lo_ast 37 0)),
  (37, .inl (lo_aload 38 0)),
  (38, .inl (lo_dup 39)),
  (39, .inl (lo_getf 42 11 33)),
  (42, .inl (lo_push 43 (.int 1))),
  (43, .inl (lo_bin 44 (fun x y => x + y))),
  (44, .inl (lo_putf 47 11 33 0)),
  (47, .inr (.inr 0))]
theorem k_172_0 (L : Nat) (xs : Nat → Int32) : ll_OK1 cX11_lays RX11 none false ll_mN ll_mR ll_mK ll_cnt L xs false 0 (.inl (lo_push 1 (.int 0))) := lk_iconst (n := 0) (by decide +kernel) (by decide)
theorem k_172_1 (L : Nat) (xs : Nat → Int32) : ll_OK1 cX11_lays RX11 none false ll_mN ll_mR ll_mK ll_cnt L xs false 1 (.inl (lo_istore 2 2)) := lk_istore_n (k := 2) (by decide +kernel) rfl
theorem k_172_2 (L : Nat) (xs : Nat → Int32) : ll_OK1 cX11_lays RX11 none false ll_mN ll_mR ll_mK ll_cnt L xs false 2 (.inl (lo_iload 3 2)) := lk_iload_n (k := 2) (by decide +kernel) rfl
theorem k_172_3 (L : Nat) (xs : Nat → Int32) : ll_OK1 cX11_lays RX11 none false ll_mN ll_mR ll_mK ll_cnt L xs false 3 (.inl (lo_aload 4 0)) := lk_aload_n (k := 0) (by decide +kernel) rfl
theorem k_172_4 (L : Nat) (xs : Nat → Int32) : ll_OK1 cX11_lays RX11 none false ll_mN ll_mR ll_mK ll_cnt L xs false 4 (.inl (lo_getf 7 11 33)) := lk_getf (ix := 198) (ci := 11) (k := 33) (C := RX11) (T := TX11) (N := 46) (by decide +kernel) rfl in_11 (by decide) tb_698
theorem k_172_7 (L : Nat) (xs : Nat → Int32) : ll_OK1 cX11_lays RX11 none false ll_mN ll_mR ll_mK ll_cnt L xs false 7 (.inl (lo_cmp 27 10 (fun x y => decide (y ≤ x)))) := lk_icmp_ge (off := 20) (by decide +kernel) rfl
theorem k_172_10 (L : Nat) (xs : Nat → Int32) : ll_OK1 cX11_lays RX11 none false ll_mN ll_mR ll_mK ll_cnt L xs false 10 (.inl (lo_aload 11 0)) := lk_aload_n (k := 0) (by decide +kernel) rfl
theorem k_172_11 (L : Nat) (xs : Nat → Int32) : ll_OK1 cX11_lays RX11 none false ll_mN ll_mR ll_mK ll_cnt L xs false 11 (.inl (lo_getf 14 11 32)) := lk_getf (ix := 83) (ci := 11) (k := 32) (C := RX11) (T := TX11) (N := 46) (by decide +kernel) rfl in_11 (by decide) tb_630
theorem k_172_14 (L : Nat) (xs : Nat → Int32) : ll_OK1 cX11_lays RX11 none false ll_mN ll_mR ll_mK ll_cnt L xs false 14 (.inl (lo_iload 15 2)) := lk_iload_n (k := 2) (by decide +kernel) rfl
theorem k_172_15 (L : Nat) (xs : Nat → Int32) : ll_OK1 cX11_lays RX11 none false ll_mN ll_mR ll_mK ll_cnt L xs false 15 (.inl (lo_ald 16 0)) := lk_iald (by decide +kernel)
theorem k_172_16 (L : Nat) (xs : Nat → Int32) : ll_OK1 cX11_lays RX11 none false ll_mN ll_mR ll_mK ll_cnt L xs false 16 (.inl (lo_iload 17 1)) := lk_iload_n (k := 1) (by decide +kernel) rfl
theorem k_172_17 (L : Nat) (xs : Nat → Int32) : ll_OK1 cX11_lays RX11 none false ll_mN ll_mR ll_mK ll_cnt L xs false 17 (.inl (lo_cmp 21 20 (fun x y => decide (¬ x = y)))) := lk_icmp_ne (off := 4) (by decide +kernel) rfl
theorem k_172_20 (L : Nat) (xs : Nat → Int32) : ll_OK1 cX11_lays RX11 none false ll_mN ll_mR ll_mK ll_cnt L xs false 20 (.inr (.inr 0)) := ⟨fun _ => ⟨(by decide +kernel), rfl⟩, (fun h => by cases h), fun h => by cases h⟩
theorem k_172_21 (L : Nat) (xs : Nat → Int32) : ll_OK1 cX11_lays RX11 none false ll_mN ll_mR ll_mK ll_cnt L xs false 21 (.inl (lo_iinc 24 2 1)) := lk_iinc (n := 1) (by decide +kernel) (by decide)
theorem k_172_24 (L : Nat) (xs : Nat → Int32) : ll_OK1 cX11_lays RX11 none false ll_mN ll_mR ll_mK ll_cnt L xs false 24 (.inl (lo_goto 2)) := lk_goto (off := (-22)) (by decide +kernel) rfl
theorem k_172_27 (L : Nat) (xs : Nat → Int32) : ll_OK1 cX11_lays RX11 none false ll_mN ll_mR ll_mK ll_cnt L xs false 27 (.inl (lo_aload 28 0)) := lk_aload_n (k := 0) (by decide +kernel) rfl
theorem k_172_28 (L : Nat) (xs : Nat → Int32) : ll_OK1 cX11_lays RX11 none false ll_mN ll_mR ll_mK ll_cnt L xs false 28 (.inl (lo_getf 31 11 32)) := lk_getf (ix := 83) (ci := 11) (k := 32) (C := RX11) (T := TX11) (N := 46) (by decide +kernel) rfl in_11 (by decide) tb_630
theorem k_172_31 (L : Nat) (xs : Nat → Int32) : ll_OK1 cX11_lays RX11 none false ll_mN ll_mR ll_mK ll_cnt L xs false 31 (.inl (lo_aload 32 0)) := lk_aload_n (k := 0) (by decide +kernel) rfl
theorem k_172_32 (L : Nat) (xs : Nat → Int32) : ll_OK1 cX11_lays RX11 none false ll_mN ll_mR ll_mK ll_cnt L xs false 32 (.inl (lo_getf 35 11 33)) := lk_getf (ix := 198) (ci := 11) (k := 33) (C := RX11) (T := TX11) (N := 46) (by decide +kernel) rfl in_11 (by decide) tb_698
theorem k_172_35 (L : Nat) (xs : Nat → Int32) : ll_OK1 cX11_lays RX11 none false ll_mN ll_mR ll_mK ll_cnt L xs false 35 (.inl (lo_iload 36 1)) := lk_iload_n (k := 1) (by decide +kernel) rfl
theorem k_172_36 (L : Nat) (xs : Nat → Int32) : ll_OK1 cX11_lays RX11 none false ll_mN ll_mR ll_mK ll_cnt L xs false 36 (.inl (lo_ast 37 0)) := lk_iast (by decide +kernel)
theorem k_172_37 (L : Nat) (xs : Nat → Int32) : ll_OK1 cX11_lays RX11 none false ll_mN ll_mR ll_mK ll_cnt L xs false 37 (.inl (lo_aload 38 0)) := lk_aload_n (k := 0) (by decide +kernel) rfl
theorem k_172_38 (L : Nat) (xs : Nat → Int32) : ll_OK1 cX11_lays RX11 none false ll_mN ll_mR ll_mK ll_cnt L xs false 38 (.inl (lo_dup 39)) := lk_dup (by decide +kernel)
theorem k_172_39 (L : Nat) (xs : Nat → Int32) : ll_OK1 cX11_lays RX11 none false ll_mN ll_mR ll_mK ll_cnt L xs false 39 (.inl (lo_getf 42 11 33)) := lk_getf (ix := 198) (ci := 11) (k := 33) (C := RX11) (T := TX11) (N := 46) (by decide +kernel) rfl in_11 (by decide) tb_698
theorem k_172_42 (L : Nat) (xs : Nat → Int32) : ll_OK1 cX11_lays RX11 none false ll_mN ll_mR ll_mK ll_cnt L xs false 42 (.inl (lo_push 43 (.int 1))) := lk_iconst (n := 1) (by decide +kernel) (by decide)
theorem k_172_43 (L : Nat) (xs : Nat → Int32) : ll_OK1 cX11_lays RX11 none false ll_mN ll_mR ll_mK ll_cnt L xs false 43 (.inl (lo_bin 44 (fun x y => x + y))) := lk_iadd (by decide +kernel)
theorem k_172_44 (L : Nat) (xs : Nat → Int32) : ll_OK1 cX11_lays RX11 none false ll_mN ll_mR ll_mK ll_cnt L xs false 44 (.inl (lo_putf 47 11 33 0)) := lk_putf (ix := 198) (ci := 11) (k := 33) (C := RX11) (T := TX11) (N := 46) (ty0 := tyX11) (by decide +kernel) rfl in_11 tyX11_ok nmX11 (by decide) tb_698 (fun B adr v w h1 h2 => ll_fit_int (B := B) (adr := adr) h1 h2) (Or.inl rfl)
theorem k_172_47 (L : Nat) (xs : Nat → Int32) : ll_OK1 cX11_lays RX11 none false ll_mN ll_mR ll_mK ll_cnt L xs false 47 (.inr (.inr 0)) := ⟨fun _ => ⟨(by decide +kernel), rfl⟩, (fun h => by cases h), fun h => by cases h⟩
theorem ok_172 (L : Nat) (xs : Nat → Int32) : ∀ q ∈ cd_172, ll_OK1 cX11_lays RX11 none false ll_mN ll_mR ll_mK ll_cnt L xs false q.1 q.2 :=
  List.forall_mem_cons.mpr ⟨k_172_0 L xs, List.forall_mem_cons.mpr ⟨k_172_1 L xs, List.forall_mem_cons.mpr ⟨k_172_2 L xs, List.forall_mem_cons.mpr ⟨k_172_3 L xs, List.forall_mem_cons.mpr ⟨k_172_4 L xs, List.forall_mem_cons.mpr ⟨k_172_7 L xs, List.forall_mem_cons.mpr ⟨k_172_10 L xs, List.forall_mem_cons.mpr ⟨k_172_11 L xs, List.forall_mem_cons.mpr ⟨k_172_14 L xs, List.forall_mem_cons.mpr ⟨k_172_15 L xs, List.forall_mem_cons.mpr ⟨k_172_16 L xs, List.forall_mem_cons.mpr ⟨k_172_17 L xs, List.forall_mem_cons.mpr ⟨k_172_20 L xs, List.forall_mem_cons.mpr ⟨k_172_21 L xs, List.forall_mem_cons.mpr ⟨k_172_24 L xs, List.forall_mem_cons.mpr ⟨k_172_27 L xs, List.forall_mem_cons.mpr ⟨k_172_28 L xs, List.forall_mem_cons.mpr ⟨k_172_31 L xs, List.forall_mem_cons.mpr ⟨k_172_32 L xs, List.forall_mem_cons.mpr ⟨k_172_35 L xs, List.forall_mem_cons.mpr ⟨k_172_36 L xs, List.forall_mem_cons.mpr ⟨k_172_37 L xs, List.forall_mem_cons.mpr ⟨k_172_38 L xs, List.forall_mem_cons.mpr ⟨k_172_39 L xs, List.forall_mem_cons.mpr ⟨k_172_42 L xs, List.forall_mem_cons.mpr ⟨k_172_43 L xs, List.forall_mem_cons.mpr ⟨k_172_44 L xs, List.forall_mem_cons.mpr ⟨k_172_47 L xs, fun _ h => absurd h List.not_mem_nil⟩⟩⟩⟩⟩⟩⟩⟩⟩⟩⟩⟩⟩⟩⟩⟩⟩⟩⟩⟩⟩⟩⟩⟩⟩⟩⟩⟩
/-- InclusionProverModel.partOf.(III)I -/
def cd_173 : List (Nat × ll_O) := [
  (0, .inl (lo_aload 1 0)),
  (1, .inl (lo_getf 4 11 16)),
  (4, .inl (lo_aload 5 0)),
  (5, .inl (lo_getf 8 11 14)),
  (8, .inl (lo_push 9 (.int 3))),
  (9, .inl (lo_iload 10 1)),
  (10, .inl (lo_bin 11 (fun x y => x * y))),
  (11, .inl (lo_iload 12 2)),
  (12, .inl (lo_bin 13 (fun x y => x + y))),
  (13, .inl (lo_ald 14 0)),
  (14, .inl (lo_iload 15 3)),
  (15, .inl (lo_bin 16 (fun x y => x + y))),
  (16, .inl (lo_ald 17 0)),
  (17, .inr (.inr 1))]
theorem k_173_0 (L : Nat) (xs : Nat → Int32) : ll_OK1 cX11_partOf RX11 (some .int) false ll_mN ll_mR ll_mK ll_cnt L xs false 0 (.inl (lo_aload 1 0)) := lk_aload_n (k := 0) (by decide +kernel) rfl
theorem k_173_1 (L : Nat) (xs : Nat → Int32) : ll_OK1 cX11_partOf RX11 (some .int) false ll_mN ll_mR ll_mK ll_cnt L xs false 1 (.inl (lo_getf 4 11 16)) := lk_getf (ix := 53) (ci := 11) (k := 16) (C := RX11) (T := TX11) (N := 46) (by decide +kernel) rfl in_11 (by decide) tb_620
theorem k_173_4 (L : Nat) (xs : Nat → Int32) : ll_OK1 cX11_partOf RX11 (some .int) false ll_mN ll_mR ll_mK ll_cnt L xs false 4 (.inl (lo_aload 5 0)) := lk_aload_n (k := 0) (by decide +kernel) rfl
theorem k_173_5 (L : Nat) (xs : Nat → Int32) : ll_OK1 cX11_partOf RX11 (some .int) false ll_mN ll_mR ll_mK ll_cnt L xs false 5 (.inl (lo_getf 8 11 14)) := lk_getf (ix := 46) (ci := 11) (k := 14) (C := RX11) (T := TX11) (N := 46) (by decide +kernel) rfl in_11 (by decide) tb_617
theorem k_173_8 (L : Nat) (xs : Nat → Int32) : ll_OK1 cX11_partOf RX11 (some .int) false ll_mN ll_mR ll_mK ll_cnt L xs false 8 (.inl (lo_push 9 (.int 3))) := lk_iconst (n := 3) (by decide +kernel) (by decide)
theorem k_173_9 (L : Nat) (xs : Nat → Int32) : ll_OK1 cX11_partOf RX11 (some .int) false ll_mN ll_mR ll_mK ll_cnt L xs false 9 (.inl (lo_iload 10 1)) := lk_iload_n (k := 1) (by decide +kernel) rfl
theorem k_173_10 (L : Nat) (xs : Nat → Int32) : ll_OK1 cX11_partOf RX11 (some .int) false ll_mN ll_mR ll_mK ll_cnt L xs false 10 (.inl (lo_bin 11 (fun x y => x * y))) := lk_imul (by decide +kernel)
theorem k_173_11 (L : Nat) (xs : Nat → Int32) : ll_OK1 cX11_partOf RX11 (some .int) false ll_mN ll_mR ll_mK ll_cnt L xs false 11 (.inl (lo_iload 12 2)) := lk_iload_n (k := 2) (by decide +kernel) rfl
theorem k_173_12 (L : Nat) (xs : Nat → Int32) : ll_OK1 cX11_partOf RX11 (some .int) false ll_mN ll_mR ll_mK ll_cnt L xs false 12 (.inl (lo_bin 13 (fun x y => x + y))) := lk_iadd (by decide +kernel)
theorem k_173_13 (L : Nat) (xs : Nat → Int32) : ll_OK1 cX11_partOf RX11 (some .int) false ll_mN ll_mR ll_mK ll_cnt L xs false 13 (.inl (lo_ald 14 0)) := lk_iald (by decide +kernel)
theorem k_173_14 (L : Nat) (xs : Nat → Int32) : ll_OK1 cX11_partOf RX11 (some .int) false ll_mN ll_mR ll_mK ll_cnt L xs false 14 (.inl (lo_iload 15 3)) := lk_iload_n (k := 3) (by decide +kernel) rfl
theorem k_173_15 (L : Nat) (xs : Nat → Int32) : ll_OK1 cX11_partOf RX11 (some .int) false ll_mN ll_mR ll_mK ll_cnt L xs false 15 (.inl (lo_bin 16 (fun x y => x + y))) := lk_iadd (by decide +kernel)
theorem k_173_16 (L : Nat) (xs : Nat → Int32) : ll_OK1 cX11_partOf RX11 (some .int) false ll_mN ll_mR ll_mK ll_cnt L xs false 16 (.inl (lo_ald 17 0)) := lk_iald (by decide +kernel)
theorem k_173_17 (L : Nat) (xs : Nat → Int32) : ll_OK1 cX11_partOf RX11 (some .int) false ll_mN ll_mR ll_mK ll_cnt L xs false 17 (.inr (.inr 1)) := ⟨(fun h => by cases h), (fun _ => ⟨(by decide +kernel), rfl⟩), fun h => by cases h⟩
theorem ok_173 (L : Nat) (xs : Nat → Int32) : ∀ q ∈ cd_173, ll_OK1 cX11_partOf RX11 (some .int) false ll_mN ll_mR ll_mK ll_cnt L xs false q.1 q.2 :=
  List.forall_mem_cons.mpr ⟨k_173_0 L xs, List.forall_mem_cons.mpr ⟨k_173_1 L xs, List.forall_mem_cons.mpr ⟨k_173_4 L xs, List.forall_mem_cons.mpr ⟨k_173_5 L xs, List.forall_mem_cons.mpr ⟨k_173_8 L xs, List.forall_mem_cons.mpr ⟨k_173_9 L xs, List.forall_mem_cons.mpr ⟨k_173_10 L xs, List.forall_mem_cons.mpr ⟨k_173_11 L xs, List.forall_mem_cons.mpr ⟨k_173_12 L xs, List.forall_mem_cons.mpr ⟨k_173_13 L xs, List.forall_mem_cons.mpr ⟨k_173_14 L xs, List.forall_mem_cons.mpr ⟨k_173_15 L xs, List.forall_mem_cons.mpr ⟨k_173_16 L xs, List.forall_mem_cons.mpr ⟨k_173_17 L xs, fun _ h => absurd h List.not_mem_nil⟩⟩⟩⟩⟩⟩⟩⟩⟩⟩⟩⟩⟩⟩
/-- InclusionProverModel.laysParts.(II)V -/
def cd_174 : List (Nat × ll_O) := [
  (0, .inl (lo_aload 1 0)),
  (1, .inl (lo_push 2 (.int 0))),
  (2, .inl (lo_putf 5 11 33 0)),
  (5, .inl (lo_aload 6 0)),
  (6, .inl (lo_getf 9 11 5)),
  (9, .inl (lo_iload 10 1)),
  (10, .inl (lo_ald 11 0)),
  (11, .inl (lo_push 12 (.int 2))),
  (12, .inl (lo_cmp 35 15 (fun x y => decide (¬ x = y)))),
  (15, .inl (lo_aload 16 0)),
  (16, .inl (lo_getf 19 11 10)),
  (19, .inl (lo_aload 20 0)),
  (20, .inl (lo_getf 23 11 6)),
  (23, .inl (lo_iload 24 1)),
  (24, .inl (lo_ald 25 0)),
  (25, .inl (lo_ald 26 0)),
  (26, .inl (lo_iload 27 2)),
  (27, .inl (lo_cmp 35 30 (fun x y => decide (¬ x = y)))),
  (30, .inl (lo_aload 31 0)),
  (31, .inl (lo_push 32 (.int 1))),
  (32, .inr (.inl (172, 2, 35))),
  (35, .inl (lo_aload 36 0)),
  (36, .inl (lo_getf 39 11 5)),
  (39, .inl (lo_iload 40 1)),
  (40, .inl (lo_ald 41 0)),
  (41, .inl (lo_push 42 (.int 3))),
  (42, .inl (lo_cmp 116 45 (fun x y => decide (¬ x = y)))),
  (45, .inl (lo_push 46 (.int 0))),
  (46, .inl (lo_istore 47 3)),
  (47, .inl (lo_iload 48 3)),
  (48, .inl (lo_aload 49 0)),
  (49, .inl (lo_getf 52 11 7)),
  (52, .inl (lo_iload 53 1)),
  (53, .inl (lo_ald 54 0)),
  (54, .inl (lo_cmp 116 57 (fun x y => decide (y ≤ x)))),
  (57, .inl (lo_aload 58 0)),
  (58, .inl (lo_getf 61 11 10)),
  (61, .inl (lo_aload 62 0)),
  (62, .inl (lo_getf 65 11 6)),
  (65, .inl (lo_iload 66 1)),
  (66, .inl (lo_ald 67 0)),
  (67, .inl (lo_iload 68 3)),
  (68, .inl (lo_bin 69 (fun x y => x + y))),
  (69, .inl (lo_ald 70 0)),
  (70, .inl (lo_istore 72 4)),
  (72, .inl (lo_push 73 (.int 0))),
  (73, .inl (lo_istore 75 5)),
  (75, .inl (lo_iload 77 5)),
  (77, .inl (lo_aload 78 0)),
  (78, .inl (lo_getf 81 11 15)),
  (81, .inl (lo_push 82 (.int 3))),
  (82, .inl (lo_iload 84 4)),
  (84, .inl (lo_bin 85 (fun x y => x * y))),
  (85, .inl (lo_iload 86 2)),
  (86, .inl (lo_bin 87 (fun x y => x + y))),
  (87, .inl (lo_ald 88 0)),
  (88, .inl (lo_cmp 110 91 (fun x y => decide (y ≤ x)))),
  (91, .inl (lo_aload 92 0)),
  (92, .inl (lo_aload 93 0)),
  (93, .inl (lo_iload 95 4)),
  (95, .inl (lo_iload 96 2)),
  (96, .inl (lo_iload 98 5)),
  (98, .inr (.inl (173, 4, 101))),
  (101, .inr (.inl (172, 2, 104))),
  (104, .inl (lo_iinc 107 5 1)),
  (107, .inl (lo_goto 75)),
  (110, .inl (lo_iinc 113 3 1)),
  (113, .inl (lo_goto 47)),
  (116, .inl (lo_aload 117 0)),
  (117, .inl (lo_getf 120 11 5)),
  (120, .inl (lo_iload 121 1)),
  (121, .inl (lo_ald 122 0)),
  (122, .inl (lo_push 123 (.int 3))),
  (123, .inl (lo_cmp 272 126 (fun x y => decide (x ≤ y)))),
  (126, .inl (lo_aload 127 0)),
  (127, .inl (lo_getf 130 11 10)),
  (130, .inl (lo_aload 131 0)),
  (131, .inl (lo_getf 134 11 6)),
  (134, .inl (lo_iload 135 1)),
  (135, .inl (lo_ald 136 0)),
  (136, .inl (lo_ald 137 0)),
  (137, .inl (lo_istore 138 3)),
  (138, .inl (lo_push 139 (.int 0))),
  (139, .inl (lo_istore 141 4)),
  (141, .inl (lo_iload 143 4)),
  (143, .inl (lo_aload 144 0)),
  (144, .inl (lo_getf 147 11 15)),
  (147, .inl (lo_push 148 (.int 3))),
  (148, .inl (lo_iload 149 3)),
  (149, .inl (lo_bin 150 (fun x y => x * y))),
  (150, .inl (lo_iload 151 2)),
  (151, .inl (lo_bin 152 (fun x y => x + y))),
  (152, .inl (lo_ald 153 0)),
  (153, .inl (lo_cmp 206 156 (fun x y => decide (y ≤ x)))),
  (156, .inl (lo_aload 157 0)),
  (157, .inl (lo_aload 158 0)),
  (158, .inl (lo_getf 161 11 5)),
  (161, .inl (lo_iload 162 1)),
  (162, .inl (lo_ald 163 0)),
  (163, .inl (lo_push 164 (.int 5))),
  (164, .inl (lo_cmp 183 167 (fun x y => decide (¬ x = y)))),
  (167, .inl (lo_aload 168 0)),
  (168, .inl (lo_aload 169 0)),
  (169, .inl (lo_iload 170 3)),
  (170, .inl (lo_iload 171 2)),
  (171, .inl (lo_iload 173 4)),
  (173, .inr (.inl (173, 4, 176))),
  (176, .inl (lo_iload 177 1)),
  (177, .inr (.inl (175, 3, 180))),
  (180, .inl (lo_goto 197)),
  (183, .inl (lo_aload 184 0)),
  (184, .inl (lo_aload 185 0)),
  (185, .inl (lo_iload 186 3)),
  (186, .inl (lo_iload 187 2)),
  (187, .inl (lo_iload 189 4)),
  (189, .inr (.inl (173, 4, 192))),
  (192, .inl (lo_iload 193 1)),
  (193, .inl (lo_push 194 (.int 1))),
  (194, .inr (.inl (161, 4, 197))),
  (197, .inr (.inl (172, 2, 200))),
  (200, .inl (lo_iinc 203 4 1)),
  (203, .inl (lo_goto 141)),
  (206, .inl (lo_aload 207 0)),
  (207, .inl (lo_getf 210 11 5)),
  (210, .inl (lo_iload 211 1)),
  (211, .inl (lo_ald 212 0)),
  (212, .inl (lo_push 213 (.int 4))),
  (213, .inl (lo_cmp 272 216 (fun x y => decide (¬ x = y)))),
  (216, .inl (lo_aload 217 0)),
  (217, .inl (lo_getf 220 11 11)),
  (220, .inl (lo_iload 221 3)),
  (221, .inl (lo_ald 222 1)),
  (222, .inl (lo_if 272 225 (fun x => decide (x = 0)))),
  (225, .inl (lo_aload 226 0)),
  (226, .inl (lo_push 227 (.int 1))),
  (227, .inl (lo_iload 228 1)),
  (228, .inl (lo_push 229 (.int 1))),
  (229, .inr (.inl (161, 4, 232))),
  (232, .inl (lo_istore 234 4)),
  (234, .inl (lo_push 235 (.int 0))),
  (235, .inl (lo_istore 237 5)),
  (237, .inl (lo_iload 239 5)),
  (239, .inl (lo_aload 240 0)),
  (240, .inl (lo_getf 243 11 15)),
  (243, .inl (lo_push 244 (.int 3))),
  (244, .inl (lo_iload 246 4)),
  (246, .inl (lo_bin 247 (fun x y => x * y))),
  (247, .inl (lo_iload 248 2)),
  (248, .inl (lo_bin 249 (fun x y => x + y))),
  (249, .inl (lo_ald 250 0)),
  (250, .inl (lo_cmp 272 253 (fun x y => decide (y ≤ x)))),
  (253, .inl (lo_aload 254 0)),
  (254, .inl (lo_aload 255 0)),
  (255, .inl (lo_iload 257 4)),
  (257, .inl (lo_iload 258 2)),
  (258, .inl (lo_iload 260 5)),
  (260, .inr (.inl (173, 4, 263))),
  (263, .inr (.inl (172, 2, 266))),
  (266, .inl (lo_iinc 269 5 1)),
  (269, .inl (lo_goto 237)),
  (272, .inl (lo_aload 273 0)),
  (273, .inl (lo_getf 276 11 14)),
  (276, .inl (lo_push 277 (.int 3))),
  (277, .inl (lo_iload 278 1)),
  (278, .inl (lo_bin 279 (fun x y => x * y))),
  (279, .inl (lo_iload 280 2)),
  (280, .inl (lo_bin 281 (fun x y => x + y))),
  (281, .inl (lo_aload 282 0)),
  (282, .inl (lo_getf 285 11 17)),
  (285, .inl (lo_ast 286 0)),
  (286, .inl (lo_aload 287 0)),
  (287, .inl (lo_getf 290 11 15)),
  (290, .inl (lo_push 291 (.int 3))),
  (291, .inl (lo_iload 292 1)),
  (292, .inl (lo_bin 293 (fun x y => x * y))),
  (293, .inl (lo_iload 294 2)),
  (294, .inl (lo_bin 295 (fun x y => x + y))),
  (295, .inl (lo_aload 296 0)),
  (296, .inl (lo_getf 299 11 33)),
  (299, .inl (lo_ast 300 0)),
  (300, .inl (lo_push 301 (.int 0))),
  (301, .inl (lo_istore 302 3)),
  (302, .inl (lo_iload 303 3)),
  (303, .inl (lo_aload 304 0)),
  (304, .inl (lo_getf 307 11 33)),
  (307, .inl (lo_cmp 333 310 (fun x y => decide (y ≤ x)))),
  (310, .inl (lo_aload 311 0)),
  (311, .inl (lo_getf 314 11 16)),
  (314, .inl (lo_aload 315 0)),
  (315, .inl (lo_getf 318 11 17)),
  (318, .inl (lo_iload 319 3)),
  (319, .inl (lo_bin 320 (fun x y => x + y))),
  (320, .inl (lo_aload 321 0)),
  (321, .inl (lo_getf 324 11 32)),
  (324, .inl (lo_iload 325 3)),
  (325, .inl (lo_ald 326 0)),
  (326, .inl (lo_ast 327 0)),
  (327, .inl (lo_iinc 330 3 1)),
  (330, .inl (lo_goto 302)),
  (333, .inl (lo_aload 334 0)),
  (334, .inl (lo_dup 335)),
  (335, .inl (lo_getf 338 11 17)),
  (338, .inl (lo_aload 339 0)),
  (339, .inl (lo_getf 342 11 33)),
  (342, .inl (lo_bin 343 (fun x y => x + y))),
  (343, .inl (lo_putf 346 11 17 0)),
  (346, .inr (.inr 0))]
theorem k_174_0 (L : Nat) (xs : Nat → Int32) : ll_OK1 cX11_laysParts RX11 none false ll_mN ll_mR ll_mK ll_cnt L xs false 0 (.inl (lo_aload 1 0)) := lk_aload_n (k := 0) (by decide +kernel) rfl
theorem k_174_1 (L : Nat) (xs : Nat → Int32) : ll_OK1 cX11_laysParts RX11 none false ll_mN ll_mR ll_mK ll_cnt L xs false 1 (.inl (lo_push 2 (.int 0))) := lk_iconst (n := 0) (by decide +kernel) (by decide)
theorem k_174_2 (L : Nat) (xs : Nat → Int32) : ll_OK1 cX11_laysParts RX11 none false ll_mN ll_mR ll_mK ll_cnt L xs false 2 (.inl (lo_putf 5 11 33 0)) := lk_putf (ix := 198) (ci := 11) (k := 33) (C := RX11) (T := TX11) (N := 46) (ty0 := tyX11) (by decide +kernel) rfl in_11 tyX11_ok nmX11 (by decide) tb_698 (fun B adr v w h1 h2 => ll_fit_int (B := B) (adr := adr) h1 h2) (Or.inl rfl)
theorem k_174_5 (L : Nat) (xs : Nat → Int32) : ll_OK1 cX11_laysParts RX11 none false ll_mN ll_mR ll_mK ll_cnt L xs false 5 (.inl (lo_aload 6 0)) := lk_aload_n (k := 0) (by decide +kernel) rfl
theorem k_174_6 (L : Nat) (xs : Nat → Int32) : ll_OK1 cX11_laysParts RX11 none false ll_mN ll_mR ll_mK ll_cnt L xs false 6 (.inl (lo_getf 9 11 5)) := lk_getf (ix := 25) (ci := 11) (k := 5) (C := RX11) (T := TX11) (N := 46) (by decide +kernel) rfl in_11 (by decide) tb_610
theorem k_174_9 (L : Nat) (xs : Nat → Int32) : ll_OK1 cX11_laysParts RX11 none false ll_mN ll_mR ll_mK ll_cnt L xs false 9 (.inl (lo_iload 10 1)) := lk_iload_n (k := 1) (by decide +kernel) rfl
theorem k_174_10 (L : Nat) (xs : Nat → Int32) : ll_OK1 cX11_laysParts RX11 none false ll_mN ll_mR ll_mK ll_cnt L xs false 10 (.inl (lo_ald 11 0)) := lk_iald (by decide +kernel)
theorem k_174_11 (L : Nat) (xs : Nat → Int32) : ll_OK1 cX11_laysParts RX11 none false ll_mN ll_mR ll_mK ll_cnt L xs false 11 (.inl (lo_push 12 (.int 2))) := lk_iconst (n := 2) (by decide +kernel) (by decide)
theorem k_174_12 (L : Nat) (xs : Nat → Int32) : ll_OK1 cX11_laysParts RX11 none false ll_mN ll_mR ll_mK ll_cnt L xs false 12 (.inl (lo_cmp 35 15 (fun x y => decide (¬ x = y)))) := lk_icmp_ne (off := 23) (by decide +kernel) rfl
theorem k_174_15 (L : Nat) (xs : Nat → Int32) : ll_OK1 cX11_laysParts RX11 none false ll_mN ll_mR ll_mK ll_cnt L xs false 15 (.inl (lo_aload 16 0)) := lk_aload_n (k := 0) (by decide +kernel) rfl
theorem k_174_16 (L : Nat) (xs : Nat → Int32) : ll_OK1 cX11_laysParts RX11 none false ll_mN ll_mR ll_mK ll_cnt L xs false 16 (.inl (lo_getf 19 11 10)) := lk_getf (ix := 40) (ci := 11) (k := 10) (C := RX11) (T := TX11) (N := 46) (by decide +kernel) rfl in_11 (by decide) tb_615
theorem k_174_19 (L : Nat) (xs : Nat → Int32) : ll_OK1 cX11_laysParts RX11 none false ll_mN ll_mR ll_mK ll_cnt L xs false 19 (.inl (lo_aload 20 0)) := lk_aload_n (k := 0) (by decide +kernel) rfl
theorem k_174_20 (L : Nat) (xs : Nat → Int32) : ll_OK1 cX11_laysParts RX11 none false ll_mN ll_mR ll_mK ll_cnt L xs false 20 (.inl (lo_getf 23 11 6)) := lk_getf (ix := 28) (ci := 11) (k := 6) (C := RX11) (T := TX11) (N := 46) (by decide +kernel) rfl in_11 (by decide) tb_611
theorem k_174_23 (L : Nat) (xs : Nat → Int32) : ll_OK1 cX11_laysParts RX11 none false ll_mN ll_mR ll_mK ll_cnt L xs false 23 (.inl (lo_iload 24 1)) := lk_iload_n (k := 1) (by decide +kernel) rfl
theorem k_174_24 (L : Nat) (xs : Nat → Int32) : ll_OK1 cX11_laysParts RX11 none false ll_mN ll_mR ll_mK ll_cnt L xs false 24 (.inl (lo_ald 25 0)) := lk_iald (by decide +kernel)
theorem k_174_25 (L : Nat) (xs : Nat → Int32) : ll_OK1 cX11_laysParts RX11 none false ll_mN ll_mR ll_mK ll_cnt L xs false 25 (.inl (lo_ald 26 0)) := lk_iald (by decide +kernel)
theorem k_174_26 (L : Nat) (xs : Nat → Int32) : ll_OK1 cX11_laysParts RX11 none false ll_mN ll_mR ll_mK ll_cnt L xs false 26 (.inl (lo_iload 27 2)) := lk_iload_n (k := 2) (by decide +kernel) rfl
theorem k_174_27 (L : Nat) (xs : Nat → Int32) : ll_OK1 cX11_laysParts RX11 none false ll_mN ll_mR ll_mK ll_cnt L xs false 27 (.inl (lo_cmp 35 30 (fun x y => decide (¬ x = y)))) := lk_icmp_ne (off := 8) (by decide +kernel) rfl
theorem k_174_30 (L : Nat) (xs : Nat → Int32) : ll_OK1 cX11_laysParts RX11 none false ll_mN ll_mR ll_mK ll_cnt L xs false 30 (.inl (lo_aload 31 0)) := lk_aload_n (k := 0) (by decide +kernel) rfl
theorem k_174_31 (L : Nat) (xs : Nat → Int32) : ll_OK1 cX11_laysParts RX11 none false ll_mN ll_mR ll_mK ll_cnt L xs false 31 (.inl (lo_push 32 (.int 1))) := lk_iconst (n := 1) (by decide +kernel) (by decide)
theorem k_174_32 (L : Nat) (xs : Nat → Int32) : ll_OK1 cX11_laysParts RX11 none false ll_mN ll_mR ll_mK ll_cnt L xs false 32 (.inr (.inl (172, 2, 35))) := ⟨rfl, by decide, by rw [mN_172, mK_172, mR_172]; exact lj_v 201 1 11 (RX11, TX11, 46) (by decide +kernel) tb_699 tb_700 tb_701 rfl rfl rfl rfl (by decide +kernel)⟩
theorem k_174_35 (L : Nat) (xs : Nat → Int32) : ll_OK1 cX11_laysParts RX11 none false ll_mN ll_mR ll_mK ll_cnt L xs false 35 (.inl (lo_aload 36 0)) := lk_aload_n (k := 0) (by decide +kernel) rfl
theorem k_174_36 (L : Nat) (xs : Nat → Int32) : ll_OK1 cX11_laysParts RX11 none false ll_mN ll_mR ll_mK ll_cnt L xs false 36 (.inl (lo_getf 39 11 5)) := lk_getf (ix := 25) (ci := 11) (k := 5) (C := RX11) (T := TX11) (N := 46) (by decide +kernel) rfl in_11 (by decide) tb_610
theorem k_174_39 (L : Nat) (xs : Nat → Int32) : ll_OK1 cX11_laysParts RX11 none false ll_mN ll_mR ll_mK ll_cnt L xs false 39 (.inl (lo_iload 40 1)) := lk_iload_n (k := 1) (by decide +kernel) rfl
theorem k_174_40 (L : Nat) (xs : Nat → Int32) : ll_OK1 cX11_laysParts RX11 none false ll_mN ll_mR ll_mK ll_cnt L xs false 40 (.inl (lo_ald 41 0)) := lk_iald (by decide +kernel)
theorem k_174_41 (L : Nat) (xs : Nat → Int32) : ll_OK1 cX11_laysParts RX11 none false ll_mN ll_mR ll_mK ll_cnt L xs false 41 (.inl (lo_push 42 (.int 3))) := lk_iconst (n := 3) (by decide +kernel) (by decide)
theorem k_174_42 (L : Nat) (xs : Nat → Int32) : ll_OK1 cX11_laysParts RX11 none false ll_mN ll_mR ll_mK ll_cnt L xs false 42 (.inl (lo_cmp 116 45 (fun x y => decide (¬ x = y)))) := lk_icmp_ne (off := 74) (by decide +kernel) rfl
theorem k_174_45 (L : Nat) (xs : Nat → Int32) : ll_OK1 cX11_laysParts RX11 none false ll_mN ll_mR ll_mK ll_cnt L xs false 45 (.inl (lo_push 46 (.int 0))) := lk_iconst (n := 0) (by decide +kernel) (by decide)
theorem k_174_46 (L : Nat) (xs : Nat → Int32) : ll_OK1 cX11_laysParts RX11 none false ll_mN ll_mR ll_mK ll_cnt L xs false 46 (.inl (lo_istore 47 3)) := lk_istore_n (k := 3) (by decide +kernel) rfl
theorem k_174_47 (L : Nat) (xs : Nat → Int32) : ll_OK1 cX11_laysParts RX11 none false ll_mN ll_mR ll_mK ll_cnt L xs false 47 (.inl (lo_iload 48 3)) := lk_iload_n (k := 3) (by decide +kernel) rfl
theorem k_174_48 (L : Nat) (xs : Nat → Int32) : ll_OK1 cX11_laysParts RX11 none false ll_mN ll_mR ll_mK ll_cnt L xs false 48 (.inl (lo_aload 49 0)) := lk_aload_n (k := 0) (by decide +kernel) rfl
theorem k_174_49 (L : Nat) (xs : Nat → Int32) : ll_OK1 cX11_laysParts RX11 none false ll_mN ll_mR ll_mK ll_cnt L xs false 49 (.inl (lo_getf 52 11 7)) := lk_getf (ix := 31) (ci := 11) (k := 7) (C := RX11) (T := TX11) (N := 46) (by decide +kernel) rfl in_11 (by decide) tb_612
theorem k_174_52 (L : Nat) (xs : Nat → Int32) : ll_OK1 cX11_laysParts RX11 none false ll_mN ll_mR ll_mK ll_cnt L xs false 52 (.inl (lo_iload 53 1)) := lk_iload_n (k := 1) (by decide +kernel) rfl
theorem k_174_53 (L : Nat) (xs : Nat → Int32) : ll_OK1 cX11_laysParts RX11 none false ll_mN ll_mR ll_mK ll_cnt L xs false 53 (.inl (lo_ald 54 0)) := lk_iald (by decide +kernel)
theorem k_174_54 (L : Nat) (xs : Nat → Int32) : ll_OK1 cX11_laysParts RX11 none false ll_mN ll_mR ll_mK ll_cnt L xs false 54 (.inl (lo_cmp 116 57 (fun x y => decide (y ≤ x)))) := lk_icmp_ge (off := 62) (by decide +kernel) rfl
theorem k_174_57 (L : Nat) (xs : Nat → Int32) : ll_OK1 cX11_laysParts RX11 none false ll_mN ll_mR ll_mK ll_cnt L xs false 57 (.inl (lo_aload 58 0)) := lk_aload_n (k := 0) (by decide +kernel) rfl
theorem k_174_58 (L : Nat) (xs : Nat → Int32) : ll_OK1 cX11_laysParts RX11 none false ll_mN ll_mR ll_mK ll_cnt L xs false 58 (.inl (lo_getf 61 11 10)) := lk_getf (ix := 40) (ci := 11) (k := 10) (C := RX11) (T := TX11) (N := 46) (by decide +kernel) rfl in_11 (by decide) tb_615
theorem k_174_61 (L : Nat) (xs : Nat → Int32) : ll_OK1 cX11_laysParts RX11 none false ll_mN ll_mR ll_mK ll_cnt L xs false 61 (.inl (lo_aload 62 0)) := lk_aload_n (k := 0) (by decide +kernel) rfl
theorem k_174_62 (L : Nat) (xs : Nat → Int32) : ll_OK1 cX11_laysParts RX11 none false ll_mN ll_mR ll_mK ll_cnt L xs false 62 (.inl (lo_getf 65 11 6)) := lk_getf (ix := 28) (ci := 11) (k := 6) (C := RX11) (T := TX11) (N := 46) (by decide +kernel) rfl in_11 (by decide) tb_611
theorem k_174_65 (L : Nat) (xs : Nat → Int32) : ll_OK1 cX11_laysParts RX11 none false ll_mN ll_mR ll_mK ll_cnt L xs false 65 (.inl (lo_iload 66 1)) := lk_iload_n (k := 1) (by decide +kernel) rfl
theorem k_174_66 (L : Nat) (xs : Nat → Int32) : ll_OK1 cX11_laysParts RX11 none false ll_mN ll_mR ll_mK ll_cnt L xs false 66 (.inl (lo_ald 67 0)) := lk_iald (by decide +kernel)
theorem k_174_67 (L : Nat) (xs : Nat → Int32) : ll_OK1 cX11_laysParts RX11 none false ll_mN ll_mR ll_mK ll_cnt L xs false 67 (.inl (lo_iload 68 3)) := lk_iload_n (k := 3) (by decide +kernel) rfl
theorem k_174_68 (L : Nat) (xs : Nat → Int32) : ll_OK1 cX11_laysParts RX11 none false ll_mN ll_mR ll_mK ll_cnt L xs false 68 (.inl (lo_bin 69 (fun x y => x + y))) := lk_iadd (by decide +kernel)
theorem k_174_69 (L : Nat) (xs : Nat → Int32) : ll_OK1 cX11_laysParts RX11 none false ll_mN ll_mR ll_mK ll_cnt L xs false 69 (.inl (lo_ald 70 0)) := lk_iald (by decide +kernel)
theorem k_174_70 (L : Nat) (xs : Nat → Int32) : ll_OK1 cX11_laysParts RX11 none false ll_mN ll_mR ll_mK ll_cnt L xs false 70 (.inl (lo_istore 72 4)) := lk_istore (by decide +kernel)
theorem k_174_72 (L : Nat) (xs : Nat → Int32) : ll_OK1 cX11_laysParts RX11 none false ll_mN ll_mR ll_mK ll_cnt L xs false 72 (.inl (lo_push 73 (.int 0))) := lk_iconst (n := 0) (by decide +kernel) (by decide)
theorem k_174_73 (L : Nat) (xs : Nat → Int32) : ll_OK1 cX11_laysParts RX11 none false ll_mN ll_mR ll_mK ll_cnt L xs false 73 (.inl (lo_istore 75 5)) := lk_istore (by decide +kernel)
theorem k_174_75 (L : Nat) (xs : Nat → Int32) : ll_OK1 cX11_laysParts RX11 none false ll_mN ll_mR ll_mK ll_cnt L xs false 75 (.inl (lo_iload 77 5)) := lk_iload (by decide +kernel)
theorem k_174_77 (L : Nat) (xs : Nat → Int32) : ll_OK1 cX11_laysParts RX11 none false ll_mN ll_mR ll_mK ll_cnt L xs false 77 (.inl (lo_aload 78 0)) := lk_aload_n (k := 0) (by decide +kernel) rfl
theorem k_174_78 (L : Nat) (xs : Nat → Int32) : ll_OK1 cX11_laysParts RX11 none false ll_mN ll_mR ll_mK ll_cnt L xs false 78 (.inl (lo_getf 81 11 15)) := lk_getf (ix := 49) (ci := 11) (k := 15) (C := RX11) (T := TX11) (N := 46) (by decide +kernel) rfl in_11 (by decide) tb_618
theorem k_174_81 (L : Nat) (xs : Nat → Int32) : ll_OK1 cX11_laysParts RX11 none false ll_mN ll_mR ll_mK ll_cnt L xs false 81 (.inl (lo_push 82 (.int 3))) := lk_iconst (n := 3) (by decide +kernel) (by decide)
theorem k_174_82 (L : Nat) (xs : Nat → Int32) : ll_OK1 cX11_laysParts RX11 none false ll_mN ll_mR ll_mK ll_cnt L xs false 82 (.inl (lo_iload 84 4)) := lk_iload (by decide +kernel)
theorem k_174_84 (L : Nat) (xs : Nat → Int32) : ll_OK1 cX11_laysParts RX11 none false ll_mN ll_mR ll_mK ll_cnt L xs false 84 (.inl (lo_bin 85 (fun x y => x * y))) := lk_imul (by decide +kernel)
theorem k_174_85 (L : Nat) (xs : Nat → Int32) : ll_OK1 cX11_laysParts RX11 none false ll_mN ll_mR ll_mK ll_cnt L xs false 85 (.inl (lo_iload 86 2)) := lk_iload_n (k := 2) (by decide +kernel) rfl
theorem k_174_86 (L : Nat) (xs : Nat → Int32) : ll_OK1 cX11_laysParts RX11 none false ll_mN ll_mR ll_mK ll_cnt L xs false 86 (.inl (lo_bin 87 (fun x y => x + y))) := lk_iadd (by decide +kernel)
theorem k_174_87 (L : Nat) (xs : Nat → Int32) : ll_OK1 cX11_laysParts RX11 none false ll_mN ll_mR ll_mK ll_cnt L xs false 87 (.inl (lo_ald 88 0)) := lk_iald (by decide +kernel)
theorem k_174_88 (L : Nat) (xs : Nat → Int32) : ll_OK1 cX11_laysParts RX11 none false ll_mN ll_mR ll_mK ll_cnt L xs false 88 (.inl (lo_cmp 110 91 (fun x y => decide (y ≤ x)))) := lk_icmp_ge (off := 22) (by decide +kernel) rfl
theorem k_174_91 (L : Nat) (xs : Nat → Int32) : ll_OK1 cX11_laysParts RX11 none false ll_mN ll_mR ll_mK ll_cnt L xs false 91 (.inl (lo_aload 92 0)) := lk_aload_n (k := 0) (by decide +kernel) rfl
theorem k_174_92 (L : Nat) (xs : Nat → Int32) : ll_OK1 cX11_laysParts RX11 none false ll_mN ll_mR ll_mK ll_cnt L xs false 92 (.inl (lo_aload 93 0)) := lk_aload_n (k := 0) (by decide +kernel) rfl
theorem k_174_93 (L : Nat) (xs : Nat → Int32) : ll_OK1 cX11_laysParts RX11 none false ll_mN ll_mR ll_mK ll_cnt L xs false 93 (.inl (lo_iload 95 4)) := lk_iload (by decide +kernel)
theorem k_174_95 (L : Nat) (xs : Nat → Int32) : ll_OK1 cX11_laysParts RX11 none false ll_mN ll_mR ll_mK ll_cnt L xs false 95 (.inl (lo_iload 96 2)) := lk_iload_n (k := 2) (by decide +kernel) rfl
theorem k_174_96 (L : Nat) (xs : Nat → Int32) : ll_OK1 cX11_laysParts RX11 none false ll_mN ll_mR ll_mK ll_cnt L xs false 96 (.inl (lo_iload 98 5)) := lk_iload (by decide +kernel)
theorem k_174_98 (L : Nat) (xs : Nat → Int32) : ll_OK1 cX11_laysParts RX11 none false ll_mN ll_mR ll_mK ll_cnt L xs false 98 (.inr (.inl (173, 4, 101))) := ⟨rfl, by decide, by rw [mN_173, mK_173, mR_173]; exact lj_v 204 3 11 (RX11, TX11, 46) (by decide +kernel) tb_702 tb_703 tb_704 rfl rfl rfl rfl (by decide +kernel)⟩
theorem k_174_101 (L : Nat) (xs : Nat → Int32) : ll_OK1 cX11_laysParts RX11 none false ll_mN ll_mR ll_mK ll_cnt L xs false 101 (.inr (.inl (172, 2, 104))) := ⟨rfl, by decide, by rw [mN_172, mK_172, mR_172]; exact lj_v 201 1 11 (RX11, TX11, 46) (by decide +kernel) tb_699 tb_700 tb_701 rfl rfl rfl rfl (by decide +kernel)⟩
theorem k_174_104 (L : Nat) (xs : Nat → Int32) : ll_OK1 cX11_laysParts RX11 none false ll_mN ll_mR ll_mK ll_cnt L xs false 104 (.inl (lo_iinc 107 5 1)) := lk_iinc (n := 1) (by decide +kernel) (by decide)
theorem k_174_107 (L : Nat) (xs : Nat → Int32) : ll_OK1 cX11_laysParts RX11 none false ll_mN ll_mR ll_mK ll_cnt L xs false 107 (.inl (lo_goto 75)) := lk_goto (off := (-32)) (by decide +kernel) rfl
theorem k_174_110 (L : Nat) (xs : Nat → Int32) : ll_OK1 cX11_laysParts RX11 none false ll_mN ll_mR ll_mK ll_cnt L xs false 110 (.inl (lo_iinc 113 3 1)) := lk_iinc (n := 1) (by decide +kernel) (by decide)
theorem k_174_113 (L : Nat) (xs : Nat → Int32) : ll_OK1 cX11_laysParts RX11 none false ll_mN ll_mR ll_mK ll_cnt L xs false 113 (.inl (lo_goto 47)) := lk_goto (off := (-66)) (by decide +kernel) rfl
theorem k_174_116 (L : Nat) (xs : Nat → Int32) : ll_OK1 cX11_laysParts RX11 none false ll_mN ll_mR ll_mK ll_cnt L xs false 116 (.inl (lo_aload 117 0)) := lk_aload_n (k := 0) (by decide +kernel) rfl
theorem k_174_117 (L : Nat) (xs : Nat → Int32) : ll_OK1 cX11_laysParts RX11 none false ll_mN ll_mR ll_mK ll_cnt L xs false 117 (.inl (lo_getf 120 11 5)) := lk_getf (ix := 25) (ci := 11) (k := 5) (C := RX11) (T := TX11) (N := 46) (by decide +kernel) rfl in_11 (by decide) tb_610
theorem k_174_120 (L : Nat) (xs : Nat → Int32) : ll_OK1 cX11_laysParts RX11 none false ll_mN ll_mR ll_mK ll_cnt L xs false 120 (.inl (lo_iload 121 1)) := lk_iload_n (k := 1) (by decide +kernel) rfl
theorem k_174_121 (L : Nat) (xs : Nat → Int32) : ll_OK1 cX11_laysParts RX11 none false ll_mN ll_mR ll_mK ll_cnt L xs false 121 (.inl (lo_ald 122 0)) := lk_iald (by decide +kernel)
theorem k_174_122 (L : Nat) (xs : Nat → Int32) : ll_OK1 cX11_laysParts RX11 none false ll_mN ll_mR ll_mK ll_cnt L xs false 122 (.inl (lo_push 123 (.int 3))) := lk_iconst (n := 3) (by decide +kernel) (by decide)
theorem k_174_123 (L : Nat) (xs : Nat → Int32) : ll_OK1 cX11_laysParts RX11 none false ll_mN ll_mR ll_mK ll_cnt L xs false 123 (.inl (lo_cmp 272 126 (fun x y => decide (x ≤ y)))) := lk_icmp_le (off := 149) (by decide +kernel) rfl
theorem k_174_126 (L : Nat) (xs : Nat → Int32) : ll_OK1 cX11_laysParts RX11 none false ll_mN ll_mR ll_mK ll_cnt L xs false 126 (.inl (lo_aload 127 0)) := lk_aload_n (k := 0) (by decide +kernel) rfl
theorem k_174_127 (L : Nat) (xs : Nat → Int32) : ll_OK1 cX11_laysParts RX11 none false ll_mN ll_mR ll_mK ll_cnt L xs false 127 (.inl (lo_getf 130 11 10)) := lk_getf (ix := 40) (ci := 11) (k := 10) (C := RX11) (T := TX11) (N := 46) (by decide +kernel) rfl in_11 (by decide) tb_615
theorem k_174_130 (L : Nat) (xs : Nat → Int32) : ll_OK1 cX11_laysParts RX11 none false ll_mN ll_mR ll_mK ll_cnt L xs false 130 (.inl (lo_aload 131 0)) := lk_aload_n (k := 0) (by decide +kernel) rfl
theorem k_174_131 (L : Nat) (xs : Nat → Int32) : ll_OK1 cX11_laysParts RX11 none false ll_mN ll_mR ll_mK ll_cnt L xs false 131 (.inl (lo_getf 134 11 6)) := lk_getf (ix := 28) (ci := 11) (k := 6) (C := RX11) (T := TX11) (N := 46) (by decide +kernel) rfl in_11 (by decide) tb_611
theorem k_174_134 (L : Nat) (xs : Nat → Int32) : ll_OK1 cX11_laysParts RX11 none false ll_mN ll_mR ll_mK ll_cnt L xs false 134 (.inl (lo_iload 135 1)) := lk_iload_n (k := 1) (by decide +kernel) rfl
theorem k_174_135 (L : Nat) (xs : Nat → Int32) : ll_OK1 cX11_laysParts RX11 none false ll_mN ll_mR ll_mK ll_cnt L xs false 135 (.inl (lo_ald 136 0)) := lk_iald (by decide +kernel)
theorem k_174_136 (L : Nat) (xs : Nat → Int32) : ll_OK1 cX11_laysParts RX11 none false ll_mN ll_mR ll_mK ll_cnt L xs false 136 (.inl (lo_ald 137 0)) := lk_iald (by decide +kernel)
theorem k_174_137 (L : Nat) (xs : Nat → Int32) : ll_OK1 cX11_laysParts RX11 none false ll_mN ll_mR ll_mK ll_cnt L xs false 137 (.inl (lo_istore 138 3)) := lk_istore_n (k := 3) (by decide +kernel) rfl
theorem k_174_138 (L : Nat) (xs : Nat → Int32) : ll_OK1 cX11_laysParts RX11 none false ll_mN ll_mR ll_mK ll_cnt L xs false 138 (.inl (lo_push 139 (.int 0))) := lk_iconst (n := 0) (by decide +kernel) (by decide)
theorem k_174_139 (L : Nat) (xs : Nat → Int32) : ll_OK1 cX11_laysParts RX11 none false ll_mN ll_mR ll_mK ll_cnt L xs false 139 (.inl (lo_istore 141 4)) := lk_istore (by decide +kernel)
theorem k_174_141 (L : Nat) (xs : Nat → Int32) : ll_OK1 cX11_laysParts RX11 none false ll_mN ll_mR ll_mK ll_cnt L xs false 141 (.inl (lo_iload 143 4)) := lk_iload (by decide +kernel)
theorem k_174_143 (L : Nat) (xs : Nat → Int32) : ll_OK1 cX11_laysParts RX11 none false ll_mN ll_mR ll_mK ll_cnt L xs false 143 (.inl (lo_aload 144 0)) := lk_aload_n (k := 0) (by decide +kernel) rfl
theorem k_174_144 (L : Nat) (xs : Nat → Int32) : ll_OK1 cX11_laysParts RX11 none false ll_mN ll_mR ll_mK ll_cnt L xs false 144 (.inl (lo_getf 147 11 15)) := lk_getf (ix := 49) (ci := 11) (k := 15) (C := RX11) (T := TX11) (N := 46) (by decide +kernel) rfl in_11 (by decide) tb_618
theorem k_174_147 (L : Nat) (xs : Nat → Int32) : ll_OK1 cX11_laysParts RX11 none false ll_mN ll_mR ll_mK ll_cnt L xs false 147 (.inl (lo_push 148 (.int 3))) := lk_iconst (n := 3) (by decide +kernel) (by decide)
theorem k_174_148 (L : Nat) (xs : Nat → Int32) : ll_OK1 cX11_laysParts RX11 none false ll_mN ll_mR ll_mK ll_cnt L xs false 148 (.inl (lo_iload 149 3)) := lk_iload_n (k := 3) (by decide +kernel) rfl
theorem k_174_149 (L : Nat) (xs : Nat → Int32) : ll_OK1 cX11_laysParts RX11 none false ll_mN ll_mR ll_mK ll_cnt L xs false 149 (.inl (lo_bin 150 (fun x y => x * y))) := lk_imul (by decide +kernel)
theorem k_174_150 (L : Nat) (xs : Nat → Int32) : ll_OK1 cX11_laysParts RX11 none false ll_mN ll_mR ll_mK ll_cnt L xs false 150 (.inl (lo_iload 151 2)) := lk_iload_n (k := 2) (by decide +kernel) rfl
theorem k_174_151 (L : Nat) (xs : Nat → Int32) : ll_OK1 cX11_laysParts RX11 none false ll_mN ll_mR ll_mK ll_cnt L xs false 151 (.inl (lo_bin 152 (fun x y => x + y))) := lk_iadd (by decide +kernel)
theorem k_174_152 (L : Nat) (xs : Nat → Int32) : ll_OK1 cX11_laysParts RX11 none false ll_mN ll_mR ll_mK ll_cnt L xs false 152 (.inl (lo_ald 153 0)) := lk_iald (by decide +kernel)
theorem k_174_153 (L : Nat) (xs : Nat → Int32) : ll_OK1 cX11_laysParts RX11 none false ll_mN ll_mR ll_mK ll_cnt L xs false 153 (.inl (lo_cmp 206 156 (fun x y => decide (y ≤ x)))) := lk_icmp_ge (off := 53) (by decide +kernel) rfl
theorem k_174_156 (L : Nat) (xs : Nat → Int32) : ll_OK1 cX11_laysParts RX11 none false ll_mN ll_mR ll_mK ll_cnt L xs false 156 (.inl (lo_aload 157 0)) := lk_aload_n (k := 0) (by decide +kernel) rfl
theorem k_174_157 (L : Nat) (xs : Nat → Int32) : ll_OK1 cX11_laysParts RX11 none false ll_mN ll_mR ll_mK ll_cnt L xs false 157 (.inl (lo_aload 158 0)) := lk_aload_n (k := 0) (by decide +kernel) rfl
theorem k_174_158 (L : Nat) (xs : Nat → Int32) : ll_OK1 cX11_laysParts RX11 none false ll_mN ll_mR ll_mK ll_cnt L xs false 158 (.inl (lo_getf 161 11 5)) := lk_getf (ix := 25) (ci := 11) (k := 5) (C := RX11) (T := TX11) (N := 46) (by decide +kernel) rfl in_11 (by decide) tb_610
theorem k_174_161 (L : Nat) (xs : Nat → Int32) : ll_OK1 cX11_laysParts RX11 none false ll_mN ll_mR ll_mK ll_cnt L xs false 161 (.inl (lo_iload 162 1)) := lk_iload_n (k := 1) (by decide +kernel) rfl
theorem k_174_162 (L : Nat) (xs : Nat → Int32) : ll_OK1 cX11_laysParts RX11 none false ll_mN ll_mR ll_mK ll_cnt L xs false 162 (.inl (lo_ald 163 0)) := lk_iald (by decide +kernel)
theorem k_174_163 (L : Nat) (xs : Nat → Int32) : ll_OK1 cX11_laysParts RX11 none false ll_mN ll_mR ll_mK ll_cnt L xs false 163 (.inl (lo_push 164 (.int 5))) := lk_iconst (n := 5) (by decide +kernel) (by decide)
theorem k_174_164 (L : Nat) (xs : Nat → Int32) : ll_OK1 cX11_laysParts RX11 none false ll_mN ll_mR ll_mK ll_cnt L xs false 164 (.inl (lo_cmp 183 167 (fun x y => decide (¬ x = y)))) := lk_icmp_ne (off := 19) (by decide +kernel) rfl
theorem k_174_167 (L : Nat) (xs : Nat → Int32) : ll_OK1 cX11_laysParts RX11 none false ll_mN ll_mR ll_mK ll_cnt L xs false 167 (.inl (lo_aload 168 0)) := lk_aload_n (k := 0) (by decide +kernel) rfl
theorem k_174_168 (L : Nat) (xs : Nat → Int32) : ll_OK1 cX11_laysParts RX11 none false ll_mN ll_mR ll_mK ll_cnt L xs false 168 (.inl (lo_aload 169 0)) := lk_aload_n (k := 0) (by decide +kernel) rfl
theorem k_174_169 (L : Nat) (xs : Nat → Int32) : ll_OK1 cX11_laysParts RX11 none false ll_mN ll_mR ll_mK ll_cnt L xs false 169 (.inl (lo_iload 170 3)) := lk_iload_n (k := 3) (by decide +kernel) rfl
theorem k_174_170 (L : Nat) (xs : Nat → Int32) : ll_OK1 cX11_laysParts RX11 none false ll_mN ll_mR ll_mK ll_cnt L xs false 170 (.inl (lo_iload 171 2)) := lk_iload_n (k := 2) (by decide +kernel) rfl
theorem k_174_171 (L : Nat) (xs : Nat → Int32) : ll_OK1 cX11_laysParts RX11 none false ll_mN ll_mR ll_mK ll_cnt L xs false 171 (.inl (lo_iload 173 4)) := lk_iload (by decide +kernel)
theorem k_174_173 (L : Nat) (xs : Nat → Int32) : ll_OK1 cX11_laysParts RX11 none false ll_mN ll_mR ll_mK ll_cnt L xs false 173 (.inr (.inl (173, 4, 176))) := ⟨rfl, by decide, by rw [mN_173, mK_173, mR_173]; exact lj_v 204 3 11 (RX11, TX11, 46) (by decide +kernel) tb_702 tb_703 tb_704 rfl rfl rfl rfl (by decide +kernel)⟩
theorem k_174_176 (L : Nat) (xs : Nat → Int32) : ll_OK1 cX11_laysParts RX11 none false ll_mN ll_mR ll_mK ll_cnt L xs false 176 (.inl (lo_iload 177 1)) := lk_iload_n (k := 1) (by decide +kernel) rfl
theorem k_174_177 (L : Nat) (xs : Nat → Int32) : ll_OK1 cX11_laysParts RX11 none false ll_mN ll_mR ll_mK ll_cnt L xs false 177 (.inr (.inl (175, 3, 180))) := ⟨rfl, by decide, by rw [mN_175, mK_175, mR_175]; exact lj_v 207 2 11 (RX11, TX11, 46) (by decide +kernel) tb_705 tb_706 tb_707 rfl rfl rfl rfl (by decide +kernel)⟩
theorem k_174_180 (L : Nat) (xs : Nat → Int32) : ll_OK1 cX11_laysParts RX11 none false ll_mN ll_mR ll_mK ll_cnt L xs false 180 (.inl (lo_goto 197)) := lk_goto (off := 17) (by decide +kernel) rfl
theorem k_174_183 (L : Nat) (xs : Nat → Int32) : ll_OK1 cX11_laysParts RX11 none false ll_mN ll_mR ll_mK ll_cnt L xs false 183 (.inl (lo_aload 184 0)) := lk_aload_n (k := 0) (by decide +kernel) rfl
theorem k_174_184 (L : Nat) (xs : Nat → Int32) : ll_OK1 cX11_laysParts RX11 none false ll_mN ll_mR ll_mK ll_cnt L xs false 184 (.inl (lo_aload 185 0)) := lk_aload_n (k := 0) (by decide +kernel) rfl
theorem k_174_185 (L : Nat) (xs : Nat → Int32) : ll_OK1 cX11_laysParts RX11 none false ll_mN ll_mR ll_mK ll_cnt L xs false 185 (.inl (lo_iload 186 3)) := lk_iload_n (k := 3) (by decide +kernel) rfl
theorem k_174_186 (L : Nat) (xs : Nat → Int32) : ll_OK1 cX11_laysParts RX11 none false ll_mN ll_mR ll_mK ll_cnt L xs false 186 (.inl (lo_iload 187 2)) := lk_iload_n (k := 2) (by decide +kernel) rfl
theorem k_174_187 (L : Nat) (xs : Nat → Int32) : ll_OK1 cX11_laysParts RX11 none false ll_mN ll_mR ll_mK ll_cnt L xs false 187 (.inl (lo_iload 189 4)) := lk_iload (by decide +kernel)
theorem k_174_189 (L : Nat) (xs : Nat → Int32) : ll_OK1 cX11_laysParts RX11 none false ll_mN ll_mR ll_mK ll_cnt L xs false 189 (.inr (.inl (173, 4, 192))) := ⟨rfl, by decide, by rw [mN_173, mK_173, mR_173]; exact lj_v 204 3 11 (RX11, TX11, 46) (by decide +kernel) tb_702 tb_703 tb_704 rfl rfl rfl rfl (by decide +kernel)⟩
theorem k_174_192 (L : Nat) (xs : Nat → Int32) : ll_OK1 cX11_laysParts RX11 none false ll_mN ll_mR ll_mK ll_cnt L xs false 192 (.inl (lo_iload 193 1)) := lk_iload_n (k := 1) (by decide +kernel) rfl
theorem k_174_193 (L : Nat) (xs : Nat → Int32) : ll_OK1 cX11_laysParts RX11 none false ll_mN ll_mR ll_mK ll_cnt L xs false 193 (.inl (lo_push 194 (.int 1))) := lk_iconst (n := 1) (by decide +kernel) (by decide)
theorem k_174_194 (L : Nat) (xs : Nat → Int32) : ll_OK1 cX11_laysParts RX11 none false ll_mN ll_mR ll_mK ll_cnt L xs false 194 (.inr (.inl (161, 4, 197))) := ⟨rfl, by decide, by rw [mN_161, mK_161, mR_161]; exact lj_v 194 3 11 (RX11, TX11, 46) (by decide +kernel) tb_695 tb_696 tb_697 rfl rfl rfl rfl (by decide +kernel)⟩
theorem k_174_197 (L : Nat) (xs : Nat → Int32) : ll_OK1 cX11_laysParts RX11 none false ll_mN ll_mR ll_mK ll_cnt L xs false 197 (.inr (.inl (172, 2, 200))) := ⟨rfl, by decide, by rw [mN_172, mK_172, mR_172]; exact lj_v 201 1 11 (RX11, TX11, 46) (by decide +kernel) tb_699 tb_700 tb_701 rfl rfl rfl rfl (by decide +kernel)⟩
theorem k_174_200 (L : Nat) (xs : Nat → Int32) : ll_OK1 cX11_laysParts RX11 none false ll_mN ll_mR ll_mK ll_cnt L xs false 200 (.inl (lo_iinc 203 4 1)) := lk_iinc (n := 1) (by decide +kernel) (by decide)
theorem k_174_203 (L : Nat) (xs : Nat → Int32) : ll_OK1 cX11_laysParts RX11 none false ll_mN ll_mR ll_mK ll_cnt L xs false 203 (.inl (lo_goto 141)) := lk_goto (off := (-62)) (by decide +kernel) rfl
theorem k_174_206 (L : Nat) (xs : Nat → Int32) : ll_OK1 cX11_laysParts RX11 none false ll_mN ll_mR ll_mK ll_cnt L xs false 206 (.inl (lo_aload 207 0)) := lk_aload_n (k := 0) (by decide +kernel) rfl
theorem k_174_207 (L : Nat) (xs : Nat → Int32) : ll_OK1 cX11_laysParts RX11 none false ll_mN ll_mR ll_mK ll_cnt L xs false 207 (.inl (lo_getf 210 11 5)) := lk_getf (ix := 25) (ci := 11) (k := 5) (C := RX11) (T := TX11) (N := 46) (by decide +kernel) rfl in_11 (by decide) tb_610
theorem k_174_210 (L : Nat) (xs : Nat → Int32) : ll_OK1 cX11_laysParts RX11 none false ll_mN ll_mR ll_mK ll_cnt L xs false 210 (.inl (lo_iload 211 1)) := lk_iload_n (k := 1) (by decide +kernel) rfl
theorem k_174_211 (L : Nat) (xs : Nat → Int32) : ll_OK1 cX11_laysParts RX11 none false ll_mN ll_mR ll_mK ll_cnt L xs false 211 (.inl (lo_ald 212 0)) := lk_iald (by decide +kernel)
theorem k_174_212 (L : Nat) (xs : Nat → Int32) : ll_OK1 cX11_laysParts RX11 none false ll_mN ll_mR ll_mK ll_cnt L xs false 212 (.inl (lo_push 213 (.int 4))) := lk_iconst (n := 4) (by decide +kernel) (by decide)
theorem k_174_213 (L : Nat) (xs : Nat → Int32) : ll_OK1 cX11_laysParts RX11 none false ll_mN ll_mR ll_mK ll_cnt L xs false 213 (.inl (lo_cmp 272 216 (fun x y => decide (¬ x = y)))) := lk_icmp_ne (off := 59) (by decide +kernel) rfl
theorem k_174_216 (L : Nat) (xs : Nat → Int32) : ll_OK1 cX11_laysParts RX11 none false ll_mN ll_mR ll_mK ll_cnt L xs false 216 (.inl (lo_aload 217 0)) := lk_aload_n (k := 0) (by decide +kernel) rfl
theorem k_174_217 (L : Nat) (xs : Nat → Int32) : ll_OK1 cX11_laysParts RX11 none false ll_mN ll_mR ll_mK ll_cnt L xs false 217 (.inl (lo_getf 220 11 11)) := lk_getf (ix := 43) (ci := 11) (k := 11) (C := RX11) (T := TX11) (N := 46) (by decide +kernel) rfl in_11 (by decide) tb_616
theorem k_174_220 (L : Nat) (xs : Nat → Int32) : ll_OK1 cX11_laysParts RX11 none false ll_mN ll_mR ll_mK ll_cnt L xs false 220 (.inl (lo_iload 221 3)) := lk_iload_n (k := 3) (by decide +kernel) rfl
theorem k_174_221 (L : Nat) (xs : Nat → Int32) : ll_OK1 cX11_laysParts RX11 none false ll_mN ll_mR ll_mK ll_cnt L xs false 221 (.inl (lo_ald 222 1)) := lk_zald (by decide +kernel)
theorem k_174_222 (L : Nat) (xs : Nat → Int32) : ll_OK1 cX11_laysParts RX11 none false ll_mN ll_mR ll_mK ll_cnt L xs false 222 (.inl (lo_if 272 225 (fun x => decide (x = 0)))) := lk_if_eq (off := 50) (by decide +kernel) rfl
theorem k_174_225 (L : Nat) (xs : Nat → Int32) : ll_OK1 cX11_laysParts RX11 none false ll_mN ll_mR ll_mK ll_cnt L xs false 225 (.inl (lo_aload 226 0)) := lk_aload_n (k := 0) (by decide +kernel) rfl
theorem k_174_226 (L : Nat) (xs : Nat → Int32) : ll_OK1 cX11_laysParts RX11 none false ll_mN ll_mR ll_mK ll_cnt L xs false 226 (.inl (lo_push 227 (.int 1))) := lk_iconst (n := 1) (by decide +kernel) (by decide)
theorem k_174_227 (L : Nat) (xs : Nat → Int32) : ll_OK1 cX11_laysParts RX11 none false ll_mN ll_mR ll_mK ll_cnt L xs false 227 (.inl (lo_iload 228 1)) := lk_iload_n (k := 1) (by decide +kernel) rfl
theorem k_174_228 (L : Nat) (xs : Nat → Int32) : ll_OK1 cX11_laysParts RX11 none false ll_mN ll_mR ll_mK ll_cnt L xs false 228 (.inl (lo_push 229 (.int 1))) := lk_iconst (n := 1) (by decide +kernel) (by decide)
theorem k_174_229 (L : Nat) (xs : Nat → Int32) : ll_OK1 cX11_laysParts RX11 none false ll_mN ll_mR ll_mK ll_cnt L xs false 229 (.inr (.inl (161, 4, 232))) := ⟨rfl, by decide, by rw [mN_161, mK_161, mR_161]; exact lj_v 194 3 11 (RX11, TX11, 46) (by decide +kernel) tb_695 tb_696 tb_697 rfl rfl rfl rfl (by decide +kernel)⟩
theorem k_174_232 (L : Nat) (xs : Nat → Int32) : ll_OK1 cX11_laysParts RX11 none false ll_mN ll_mR ll_mK ll_cnt L xs false 232 (.inl (lo_istore 234 4)) := lk_istore (by decide +kernel)
theorem k_174_234 (L : Nat) (xs : Nat → Int32) : ll_OK1 cX11_laysParts RX11 none false ll_mN ll_mR ll_mK ll_cnt L xs false 234 (.inl (lo_push 235 (.int 0))) := lk_iconst (n := 0) (by decide +kernel) (by decide)
theorem k_174_235 (L : Nat) (xs : Nat → Int32) : ll_OK1 cX11_laysParts RX11 none false ll_mN ll_mR ll_mK ll_cnt L xs false 235 (.inl (lo_istore 237 5)) := lk_istore (by decide +kernel)
theorem k_174_237 (L : Nat) (xs : Nat → Int32) : ll_OK1 cX11_laysParts RX11 none false ll_mN ll_mR ll_mK ll_cnt L xs false 237 (.inl (lo_iload 239 5)) := lk_iload (by decide +kernel)
theorem k_174_239 (L : Nat) (xs : Nat → Int32) : ll_OK1 cX11_laysParts RX11 none false ll_mN ll_mR ll_mK ll_cnt L xs false 239 (.inl (lo_aload 240 0)) := lk_aload_n (k := 0) (by decide +kernel) rfl
theorem k_174_240 (L : Nat) (xs : Nat → Int32) : ll_OK1 cX11_laysParts RX11 none false ll_mN ll_mR ll_mK ll_cnt L xs false 240 (.inl (lo_getf 243 11 15)) := lk_getf (ix := 49) (ci := 11) (k := 15) (C := RX11) (T := TX11) (N := 46) (by decide +kernel) rfl in_11 (by decide) tb_618
theorem k_174_243 (L : Nat) (xs : Nat → Int32) : ll_OK1 cX11_laysParts RX11 none false ll_mN ll_mR ll_mK ll_cnt L xs false 243 (.inl (lo_push 244 (.int 3))) := lk_iconst (n := 3) (by decide +kernel) (by decide)
theorem k_174_244 (L : Nat) (xs : Nat → Int32) : ll_OK1 cX11_laysParts RX11 none false ll_mN ll_mR ll_mK ll_cnt L xs false 244 (.inl (lo_iload 246 4)) := lk_iload (by decide +kernel)
theorem k_174_246 (L : Nat) (xs : Nat → Int32) : ll_OK1 cX11_laysParts RX11 none false ll_mN ll_mR ll_mK ll_cnt L xs false 246 (.inl (lo_bin 247 (fun x y => x * y))) := lk_imul (by decide +kernel)
theorem k_174_247 (L : Nat) (xs : Nat → Int32) : ll_OK1 cX11_laysParts RX11 none false ll_mN ll_mR ll_mK ll_cnt L xs false 247 (.inl (lo_iload 248 2)) := lk_iload_n (k := 2) (by decide +kernel) rfl
theorem k_174_248 (L : Nat) (xs : Nat → Int32) : ll_OK1 cX11_laysParts RX11 none false ll_mN ll_mR ll_mK ll_cnt L xs false 248 (.inl (lo_bin 249 (fun x y => x + y))) := lk_iadd (by decide +kernel)
theorem k_174_249 (L : Nat) (xs : Nat → Int32) : ll_OK1 cX11_laysParts RX11 none false ll_mN ll_mR ll_mK ll_cnt L xs false 249 (.inl (lo_ald 250 0)) := lk_iald (by decide +kernel)
theorem k_174_250 (L : Nat) (xs : Nat → Int32) : ll_OK1 cX11_laysParts RX11 none false ll_mN ll_mR ll_mK ll_cnt L xs false 250 (.inl (lo_cmp 272 253 (fun x y => decide (y ≤ x)))) := lk_icmp_ge (off := 22) (by decide +kernel) rfl
theorem k_174_253 (L : Nat) (xs : Nat → Int32) : ll_OK1 cX11_laysParts RX11 none false ll_mN ll_mR ll_mK ll_cnt L xs false 253 (.inl (lo_aload 254 0)) := lk_aload_n (k := 0) (by decide +kernel) rfl
theorem k_174_254 (L : Nat) (xs : Nat → Int32) : ll_OK1 cX11_laysParts RX11 none false ll_mN ll_mR ll_mK ll_cnt L xs false 254 (.inl (lo_aload 255 0)) := lk_aload_n (k := 0) (by decide +kernel) rfl
theorem k_174_255 (L : Nat) (xs : Nat → Int32) : ll_OK1 cX11_laysParts RX11 none false ll_mN ll_mR ll_mK ll_cnt L xs false 255 (.inl (lo_iload 257 4)) := lk_iload (by decide +kernel)
theorem k_174_257 (L : Nat) (xs : Nat → Int32) : ll_OK1 cX11_laysParts RX11 none false ll_mN ll_mR ll_mK ll_cnt L xs false 257 (.inl (lo_iload 258 2)) := lk_iload_n (k := 2) (by decide +kernel) rfl
theorem k_174_258 (L : Nat) (xs : Nat → Int32) : ll_OK1 cX11_laysParts RX11 none false ll_mN ll_mR ll_mK ll_cnt L xs false 258 (.inl (lo_iload 260 5)) := lk_iload (by decide +kernel)
theorem k_174_260 (L : Nat) (xs : Nat → Int32) : ll_OK1 cX11_laysParts RX11 none false ll_mN ll_mR ll_mK ll_cnt L xs false 260 (.inr (.inl (173, 4, 263))) := ⟨rfl, by decide, by rw [mN_173, mK_173, mR_173]; exact lj_v 204 3 11 (RX11, TX11, 46) (by decide +kernel) tb_702 tb_703 tb_704 rfl rfl rfl rfl (by decide +kernel)⟩
theorem k_174_263 (L : Nat) (xs : Nat → Int32) : ll_OK1 cX11_laysParts RX11 none false ll_mN ll_mR ll_mK ll_cnt L xs false 263 (.inr (.inl (172, 2, 266))) := ⟨rfl, by decide, by rw [mN_172, mK_172, mR_172]; exact lj_v 201 1 11 (RX11, TX11, 46) (by decide +kernel) tb_699 tb_700 tb_701 rfl rfl rfl rfl (by decide +kernel)⟩
theorem k_174_266 (L : Nat) (xs : Nat → Int32) : ll_OK1 cX11_laysParts RX11 none false ll_mN ll_mR ll_mK ll_cnt L xs false 266 (.inl (lo_iinc 269 5 1)) := lk_iinc (n := 1) (by decide +kernel) (by decide)
theorem k_174_269 (L : Nat) (xs : Nat → Int32) : ll_OK1 cX11_laysParts RX11 none false ll_mN ll_mR ll_mK ll_cnt L xs false 269 (.inl (lo_goto 237)) := lk_goto (off := (-32)) (by decide +kernel) rfl
theorem k_174_272 (L : Nat) (xs : Nat → Int32) : ll_OK1 cX11_laysParts RX11 none false ll_mN ll_mR ll_mK ll_cnt L xs false 272 (.inl (lo_aload 273 0)) := lk_aload_n (k := 0) (by decide +kernel) rfl
theorem k_174_273 (L : Nat) (xs : Nat → Int32) : ll_OK1 cX11_laysParts RX11 none false ll_mN ll_mR ll_mK ll_cnt L xs false 273 (.inl (lo_getf 276 11 14)) := lk_getf (ix := 46) (ci := 11) (k := 14) (C := RX11) (T := TX11) (N := 46) (by decide +kernel) rfl in_11 (by decide) tb_617
theorem k_174_276 (L : Nat) (xs : Nat → Int32) : ll_OK1 cX11_laysParts RX11 none false ll_mN ll_mR ll_mK ll_cnt L xs false 276 (.inl (lo_push 277 (.int 3))) := lk_iconst (n := 3) (by decide +kernel) (by decide)
theorem k_174_277 (L : Nat) (xs : Nat → Int32) : ll_OK1 cX11_laysParts RX11 none false ll_mN ll_mR ll_mK ll_cnt L xs false 277 (.inl (lo_iload 278 1)) := lk_iload_n (k := 1) (by decide +kernel) rfl
theorem k_174_278 (L : Nat) (xs : Nat → Int32) : ll_OK1 cX11_laysParts RX11 none false ll_mN ll_mR ll_mK ll_cnt L xs false 278 (.inl (lo_bin 279 (fun x y => x * y))) := lk_imul (by decide +kernel)
theorem k_174_279 (L : Nat) (xs : Nat → Int32) : ll_OK1 cX11_laysParts RX11 none false ll_mN ll_mR ll_mK ll_cnt L xs false 279 (.inl (lo_iload 280 2)) := lk_iload_n (k := 2) (by decide +kernel) rfl
theorem k_174_280 (L : Nat) (xs : Nat → Int32) : ll_OK1 cX11_laysParts RX11 none false ll_mN ll_mR ll_mK ll_cnt L xs false 280 (.inl (lo_bin 281 (fun x y => x + y))) := lk_iadd (by decide +kernel)
theorem k_174_281 (L : Nat) (xs : Nat → Int32) : ll_OK1 cX11_laysParts RX11 none false ll_mN ll_mR ll_mK ll_cnt L xs false 281 (.inl (lo_aload 282 0)) := lk_aload_n (k := 0) (by decide +kernel) rfl
theorem k_174_282 (L : Nat) (xs : Nat → Int32) : ll_OK1 cX11_laysParts RX11 none false ll_mN ll_mR ll_mK ll_cnt L xs false 282 (.inl (lo_getf 285 11 17)) := lk_getf (ix := 123) (ci := 11) (k := 17) (C := RX11) (T := TX11) (N := 46) (by decide +kernel) rfl in_11 (by decide) tb_645
theorem k_174_285 (L : Nat) (xs : Nat → Int32) : ll_OK1 cX11_laysParts RX11 none false ll_mN ll_mR ll_mK ll_cnt L xs false 285 (.inl (lo_ast 286 0)) := lk_iast (by decide +kernel)
theorem k_174_286 (L : Nat) (xs : Nat → Int32) : ll_OK1 cX11_laysParts RX11 none false ll_mN ll_mR ll_mK ll_cnt L xs false 286 (.inl (lo_aload 287 0)) := lk_aload_n (k := 0) (by decide +kernel) rfl
theorem k_174_287 (L : Nat) (xs : Nat → Int32) : ll_OK1 cX11_laysParts RX11 none false ll_mN ll_mR ll_mK ll_cnt L xs false 287 (.inl (lo_getf 290 11 15)) := lk_getf (ix := 49) (ci := 11) (k := 15) (C := RX11) (T := TX11) (N := 46) (by decide +kernel) rfl in_11 (by decide) tb_618
theorem k_174_290 (L : Nat) (xs : Nat → Int32) : ll_OK1 cX11_laysParts RX11 none false ll_mN ll_mR ll_mK ll_cnt L xs false 290 (.inl (lo_push 291 (.int 3))) := lk_iconst (n := 3) (by decide +kernel) (by decide)
theorem k_174_291 (L : Nat) (xs : Nat → Int32) : ll_OK1 cX11_laysParts RX11 none false ll_mN ll_mR ll_mK ll_cnt L xs false 291 (.inl (lo_iload 292 1)) := lk_iload_n (k := 1) (by decide +kernel) rfl
theorem k_174_292 (L : Nat) (xs : Nat → Int32) : ll_OK1 cX11_laysParts RX11 none false ll_mN ll_mR ll_mK ll_cnt L xs false 292 (.inl (lo_bin 293 (fun x y => x * y))) := lk_imul (by decide +kernel)
theorem k_174_293 (L : Nat) (xs : Nat → Int32) : ll_OK1 cX11_laysParts RX11 none false ll_mN ll_mR ll_mK ll_cnt L xs false 293 (.inl (lo_iload 294 2)) := lk_iload_n (k := 2) (by decide +kernel) rfl
theorem k_174_294 (L : Nat) (xs : Nat → Int32) : ll_OK1 cX11_laysParts RX11 none false ll_mN ll_mR ll_mK ll_cnt L xs false 294 (.inl (lo_bin 295 (fun x y => x + y))) := lk_iadd (by decide +kernel)
theorem k_174_295 (L : Nat) (xs : Nat → Int32) : ll_OK1 cX11_laysParts RX11 none false ll_mN ll_mR ll_mK ll_cnt L xs false 295 (.inl (lo_aload 296 0)) := lk_aload_n (k := 0) (by decide +kernel) rfl
theorem k_174_296 (L : Nat) (xs : Nat → Int32) : ll_OK1 cX11_laysParts RX11 none false ll_mN ll_mR ll_mK ll_cnt L xs false 296 (.inl (lo_getf 299 11 33)) := lk_getf (ix := 198) (ci := 11) (k := 33) (C := RX11) (T := TX11) (N := 46) (by decide +kernel) rfl in_11 (by decide) tb_698
theorem k_174_299 (L : Nat) (xs : Nat → Int32) : ll_OK1 cX11_laysParts RX11 none false ll_mN ll_mR ll_mK ll_cnt L xs false 299 (.inl (lo_ast 300 0)) := lk_iast (by decide +kernel)
theorem k_174_300 (L : Nat) (xs : Nat → Int32) : ll_OK1 cX11_laysParts RX11 none false ll_mN ll_mR ll_mK ll_cnt L xs false 300 (.inl (lo_push 301 (.int 0))) := lk_iconst (n := 0) (by decide +kernel) (by decide)
theorem k_174_301 (L : Nat) (xs : Nat → Int32) : ll_OK1 cX11_laysParts RX11 none false ll_mN ll_mR ll_mK ll_cnt L xs false 301 (.inl (lo_istore 302 3)) := lk_istore_n (k := 3) (by decide +kernel) rfl
theorem k_174_302 (L : Nat) (xs : Nat → Int32) : ll_OK1 cX11_laysParts RX11 none false ll_mN ll_mR ll_mK ll_cnt L xs false 302 (.inl (lo_iload 303 3)) := lk_iload_n (k := 3) (by decide +kernel) rfl
theorem k_174_303 (L : Nat) (xs : Nat → Int32) : ll_OK1 cX11_laysParts RX11 none false ll_mN ll_mR ll_mK ll_cnt L xs false 303 (.inl (lo_aload 304 0)) := lk_aload_n (k := 0) (by decide +kernel) rfl
theorem k_174_304 (L : Nat) (xs : Nat → Int32) : ll_OK1 cX11_laysParts RX11 none false ll_mN ll_mR ll_mK ll_cnt L xs false 304 (.inl (lo_getf 307 11 33)) := lk_getf (ix := 198) (ci := 11) (k := 33) (C := RX11) (T := TX11) (N := 46) (by decide +kernel) rfl in_11 (by decide) tb_698
theorem k_174_307 (L : Nat) (xs : Nat → Int32) : ll_OK1 cX11_laysParts RX11 none false ll_mN ll_mR ll_mK ll_cnt L xs false 307 (.inl (lo_cmp 333 310 (fun x y => decide (y ≤ x)))) := lk_icmp_ge (off := 26) (by decide +kernel) rfl
theorem k_174_310 (L : Nat) (xs : Nat → Int32) : ll_OK1 cX11_laysParts RX11 none false ll_mN ll_mR ll_mK ll_cnt L xs false 310 (.inl (lo_aload 311 0)) := lk_aload_n (k := 0) (by decide +kernel) rfl
theorem k_174_311 (L : Nat) (xs : Nat → Int32) : ll_OK1 cX11_laysParts RX11 none false ll_mN ll_mR ll_mK ll_cnt L xs false 311 (.inl (lo_getf 314 11 16)) := lk_getf (ix := 53) (ci := 11) (k := 16) (C := RX11) (T := TX11) (N := 46) (by decide +kernel) rfl in_11 (by decide) tb_620
theorem k_174_314 (L : Nat) (xs : Nat → Int32) : ll_OK1 cX11_laysParts RX11 none false ll_mN ll_mR ll_mK ll_cnt L xs false 314 (.inl (lo_aload 315 0)) := lk_aload_n (k := 0) (by decide +kernel) rfl
theorem k_174_315 (L : Nat) (xs : Nat → Int32) : ll_OK1 cX11_laysParts RX11 none false ll_mN ll_mR ll_mK ll_cnt L xs false 315 (.inl (lo_getf 318 11 17)) := lk_getf (ix := 123) (ci := 11) (k := 17) (C := RX11) (T := TX11) (N := 46) (by decide +kernel) rfl in_11 (by decide) tb_645
theorem k_174_318 (L : Nat) (xs : Nat → Int32) : ll_OK1 cX11_laysParts RX11 none false ll_mN ll_mR ll_mK ll_cnt L xs false 318 (.inl (lo_iload 319 3)) := lk_iload_n (k := 3) (by decide +kernel) rfl
theorem k_174_319 (L : Nat) (xs : Nat → Int32) : ll_OK1 cX11_laysParts RX11 none false ll_mN ll_mR ll_mK ll_cnt L xs false 319 (.inl (lo_bin 320 (fun x y => x + y))) := lk_iadd (by decide +kernel)
theorem k_174_320 (L : Nat) (xs : Nat → Int32) : ll_OK1 cX11_laysParts RX11 none false ll_mN ll_mR ll_mK ll_cnt L xs false 320 (.inl (lo_aload 321 0)) := lk_aload_n (k := 0) (by decide +kernel) rfl
theorem k_174_321 (L : Nat) (xs : Nat → Int32) : ll_OK1 cX11_laysParts RX11 none false ll_mN ll_mR ll_mK ll_cnt L xs false 321 (.inl (lo_getf 324 11 32)) := lk_getf (ix := 83) (ci := 11) (k := 32) (C := RX11) (T := TX11) (N := 46) (by decide +kernel) rfl in_11 (by decide) tb_630
theorem k_174_324 (L : Nat) (xs : Nat → Int32) : ll_OK1 cX11_laysParts RX11 none false ll_mN ll_mR ll_mK ll_cnt L xs false 324 (.inl (lo_iload 325 3)) := lk_iload_n (k := 3) (by decide +kernel) rfl
theorem k_174_325 (L : Nat) (xs : Nat → Int32) : ll_OK1 cX11_laysParts RX11 none false ll_mN ll_mR ll_mK ll_cnt L xs false 325 (.inl (lo_ald 326 0)) := lk_iald (by decide +kernel)
theorem k_174_326 (L : Nat) (xs : Nat → Int32) : ll_OK1 cX11_laysParts RX11 none false ll_mN ll_mR ll_mK ll_cnt L xs false 326 (.inl (lo_ast 327 0)) := lk_iast (by decide +kernel)
theorem k_174_327 (L : Nat) (xs : Nat → Int32) : ll_OK1 cX11_laysParts RX11 none false ll_mN ll_mR ll_mK ll_cnt L xs false 327 (.inl (lo_iinc 330 3 1)) := lk_iinc (n := 1) (by decide +kernel) (by decide)
theorem k_174_330 (L : Nat) (xs : Nat → Int32) : ll_OK1 cX11_laysParts RX11 none false ll_mN ll_mR ll_mK ll_cnt L xs false 330 (.inl (lo_goto 302)) := lk_goto (off := (-28)) (by decide +kernel) rfl
theorem k_174_333 (L : Nat) (xs : Nat → Int32) : ll_OK1 cX11_laysParts RX11 none false ll_mN ll_mR ll_mK ll_cnt L xs false 333 (.inl (lo_aload 334 0)) := lk_aload_n (k := 0) (by decide +kernel) rfl
theorem k_174_334 (L : Nat) (xs : Nat → Int32) : ll_OK1 cX11_laysParts RX11 none false ll_mN ll_mR ll_mK ll_cnt L xs false 334 (.inl (lo_dup 335)) := lk_dup (by decide +kernel)
theorem k_174_335 (L : Nat) (xs : Nat → Int32) : ll_OK1 cX11_laysParts RX11 none false ll_mN ll_mR ll_mK ll_cnt L xs false 335 (.inl (lo_getf 338 11 17)) := lk_getf (ix := 123) (ci := 11) (k := 17) (C := RX11) (T := TX11) (N := 46) (by decide +kernel) rfl in_11 (by decide) tb_645
theorem k_174_338 (L : Nat) (xs : Nat → Int32) : ll_OK1 cX11_laysParts RX11 none false ll_mN ll_mR ll_mK ll_cnt L xs false 338 (.inl (lo_aload 339 0)) := lk_aload_n (k := 0) (by decide +kernel) rfl
theorem k_174_339 (L : Nat) (xs : Nat → Int32) : ll_OK1 cX11_laysParts RX11 none false ll_mN ll_mR ll_mK ll_cnt L xs false 339 (.inl (lo_getf 342 11 33)) := lk_getf (ix := 198) (ci := 11) (k := 33) (C := RX11) (T := TX11) (N := 46) (by decide +kernel) rfl in_11 (by decide) tb_698
theorem k_174_342 (L : Nat) (xs : Nat → Int32) : ll_OK1 cX11_laysParts RX11 none false ll_mN ll_mR ll_mK ll_cnt L xs false 342 (.inl (lo_bin 343 (fun x y => x + y))) := lk_iadd (by decide +kernel)
theorem k_174_343 (L : Nat) (xs : Nat → Int32) : ll_OK1 cX11_laysParts RX11 none false ll_mN ll_mR ll_mK ll_cnt L xs false 343 (.inl (lo_putf 346 11 17 0)) := lk_putf (ix := 123) (ci := 11) (k := 17) (C := RX11) (T := TX11) (N := 46) (ty0 := tyX11) (by decide +kernel) rfl in_11 tyX11_ok nmX11 (by decide) tb_645 (fun B adr v w h1 h2 => ll_fit_int (B := B) (adr := adr) h1 h2) (Or.inl rfl)
theorem k_174_346 (L : Nat) (xs : Nat → Int32) : ll_OK1 cX11_laysParts RX11 none false ll_mN ll_mR ll_mK ll_cnt L xs false 346 (.inr (.inr 0)) := ⟨fun _ => ⟨(by decide +kernel), rfl⟩, (fun h => by cases h), fun h => by cases h⟩
set_option maxRecDepth 100000 in
theorem ok_174 (L : Nat) (xs : Nat → Int32) : ∀ q ∈ cd_174, ll_OK1 cX11_laysParts RX11 none false ll_mN ll_mR ll_mK ll_cnt L xs false q.1 q.2 :=
  List.forall_mem_cons.mpr ⟨k_174_0 L xs, List.forall_mem_cons.mpr ⟨k_174_1 L xs, List.forall_mem_cons.mpr ⟨k_174_2 L xs, List.forall_mem_cons.mpr ⟨k_174_5 L xs, List.forall_mem_cons.mpr ⟨k_174_6 L xs, List.forall_mem_cons.mpr ⟨k_174_9 L xs, List.forall_mem_cons.mpr ⟨k_174_10 L xs, List.forall_mem_cons.mpr ⟨k_174_11 L xs, List.forall_mem_cons.mpr ⟨k_174_12 L xs, List.forall_mem_cons.mpr ⟨k_174_15 L xs, List.forall_mem_cons.mpr ⟨k_174_16 L xs, List.forall_mem_cons.mpr ⟨k_174_19 L xs, List.forall_mem_cons.mpr ⟨k_174_20 L xs, List.forall_mem_cons.mpr ⟨k_174_23 L xs, List.forall_mem_cons.mpr ⟨k_174_24 L xs, List.forall_mem_cons.mpr ⟨k_174_25 L xs, List.forall_mem_cons.mpr ⟨k_174_26 L xs, List.forall_mem_cons.mpr ⟨k_174_27 L xs, List.forall_mem_cons.mpr ⟨k_174_30 L xs, List.forall_mem_cons.mpr ⟨k_174_31 L xs, List.forall_mem_cons.mpr ⟨k_174_32 L xs, List.forall_mem_cons.mpr ⟨k_174_35 L xs, List.forall_mem_cons.mpr ⟨k_174_36 L xs, List.forall_mem_cons.mpr ⟨k_174_39 L xs, List.forall_mem_cons.mpr ⟨k_174_40 L xs, List.forall_mem_cons.mpr ⟨k_174_41 L xs, List.forall_mem_cons.mpr ⟨k_174_42 L xs, List.forall_mem_cons.mpr ⟨k_174_45 L xs, List.forall_mem_cons.mpr ⟨k_174_46 L xs, List.forall_mem_cons.mpr ⟨k_174_47 L xs, List.forall_mem_cons.mpr ⟨k_174_48 L xs, List.forall_mem_cons.mpr ⟨k_174_49 L xs, List.forall_mem_cons.mpr ⟨k_174_52 L xs, List.forall_mem_cons.mpr ⟨k_174_53 L xs, List.forall_mem_cons.mpr ⟨k_174_54 L xs, List.forall_mem_cons.mpr ⟨k_174_57 L xs, List.forall_mem_cons.mpr ⟨k_174_58 L xs, List.forall_mem_cons.mpr ⟨k_174_61 L xs, List.forall_mem_cons.mpr ⟨k_174_62 L xs, List.forall_mem_cons.mpr ⟨k_174_65 L xs, List.forall_mem_cons.mpr ⟨k_174_66 L xs, List.forall_mem_cons.mpr ⟨k_174_67 L xs, List.forall_mem_cons.mpr ⟨k_174_68 L xs, List.forall_mem_cons.mpr ⟨k_174_69 L xs, List.forall_mem_cons.mpr ⟨k_174_70 L xs, List.forall_mem_cons.mpr ⟨k_174_72 L xs, List.forall_mem_cons.mpr ⟨k_174_73 L xs, List.forall_mem_cons.mpr ⟨k_174_75 L xs, List.forall_mem_cons.mpr ⟨k_174_77 L xs, List.forall_mem_cons.mpr ⟨k_174_78 L xs, List.forall_mem_cons.mpr ⟨k_174_81 L xs, List.forall_mem_cons.mpr ⟨k_174_82 L xs, List.forall_mem_cons.mpr ⟨k_174_84 L xs, List.forall_mem_cons.mpr ⟨k_174_85 L xs, List.forall_mem_cons.mpr ⟨k_174_86 L xs, List.forall_mem_cons.mpr ⟨k_174_87 L xs, List.forall_mem_cons.mpr ⟨k_174_88 L xs, List.forall_mem_cons.mpr ⟨k_174_91 L xs, List.forall_mem_cons.mpr ⟨k_174_92 L xs, List.forall_mem_cons.mpr ⟨k_174_93 L xs, List.forall_mem_cons.mpr ⟨k_174_95 L xs, List.forall_mem_cons.mpr ⟨k_174_96 L xs, List.forall_mem_cons.mpr ⟨k_174_98 L xs, List.forall_mem_cons.mpr ⟨k_174_101 L xs, List.forall_mem_cons.mpr ⟨k_174_104 L xs, List.forall_mem_cons.mpr ⟨k_174_107 L xs, List.forall_mem_cons.mpr ⟨k_174_110 L xs, List.forall_mem_cons.mpr ⟨k_174_113 L xs, List.forall_mem_cons.mpr ⟨k_174_116 L xs, List.forall_mem_cons.mpr ⟨k_174_117 L xs, List.forall_mem_cons.mpr ⟨k_174_120 L xs, List.forall_mem_cons.mpr ⟨k_174_121 L xs, List.forall_mem_cons.mpr ⟨k_174_122 L xs, List.forall_mem_cons.mpr ⟨k_174_123 L xs, List.forall_mem_cons.mpr ⟨k_174_126 L xs, List.forall_mem_cons.mpr ⟨k_174_127 L xs, List.forall_mem_cons.mpr ⟨k_174_130 L xs, List.forall_mem_cons.mpr ⟨k_174_131 L xs, List.forall_mem_cons.mpr ⟨k_174_134 L xs, List.forall_mem_cons.mpr ⟨k_174_135 L xs, List.forall_mem_cons.mpr ⟨k_174_136 L xs, List.forall_mem_cons.mpr ⟨k_174_137 L xs, List.forall_mem_cons.mpr ⟨k_174_138 L xs, List.forall_mem_cons.mpr ⟨k_174_139 L xs, List.forall_mem_cons.mpr ⟨k_174_141 L xs, List.forall_mem_cons.mpr ⟨k_174_143 L xs, List.forall_mem_cons.mpr ⟨k_174_144 L xs, List.forall_mem_cons.mpr ⟨k_174_147 L xs, List.forall_mem_cons.mpr ⟨k_174_148 L xs, List.forall_mem_cons.mpr ⟨k_174_149 L xs, List.forall_mem_cons.mpr ⟨k_174_150 L xs, List.forall_mem_cons.mpr ⟨k_174_151 L xs, List.forall_mem_cons.mpr ⟨k_174_152 L xs, List.forall_mem_cons.mpr ⟨k_174_153 L xs, List.forall_mem_cons.mpr ⟨k_174_156 L xs, List.forall_mem_cons.mpr ⟨k_174_157 L xs, List.forall_mem_cons.mpr ⟨k_174_158 L xs, List.forall_mem_cons.mpr ⟨k_174_161 L xs, List.forall_mem_cons.mpr ⟨k_174_162 L xs, List.forall_mem_cons.mpr ⟨k_174_163 L xs, List.forall_mem_cons.mpr ⟨k_174_164 L xs, List.forall_mem_cons.mpr ⟨k_174_167 L xs, List.forall_mem_cons.mpr ⟨k_174_168 L xs, List.forall_mem_cons.mpr ⟨k_174_169 L xs, List.forall_mem_cons.mpr ⟨k_174_170 L xs, List.forall_mem_cons.mpr ⟨k_174_171 L xs, List.forall_mem_cons.mpr ⟨k_174_173 L xs, List.forall_mem_cons.mpr ⟨k_174_176 L xs, List.forall_mem_cons.mpr ⟨k_174_177 L xs, List.forall_mem_cons.mpr ⟨k_174_180 L xs, List.forall_mem_cons.mpr ⟨k_174_183 L xs, List.forall_mem_cons.mpr ⟨k_174_184 L xs, List.forall_mem_cons.mpr ⟨k_174_185 L xs, List.forall_mem_cons.mpr ⟨k_174_186 L xs, List.forall_mem_cons.mpr ⟨k_174_187 L xs, List.forall_mem_cons.mpr ⟨k_174_189 L xs, List.forall_mem_cons.mpr ⟨k_174_192 L xs, List.forall_mem_cons.mpr ⟨k_174_193 L xs, List.forall_mem_cons.mpr ⟨k_174_194 L xs, List.forall_mem_cons.mpr ⟨k_174_197 L xs, List.forall_mem_cons.mpr ⟨k_174_200 L xs, List.forall_mem_cons.mpr ⟨k_174_203 L xs, List.forall_mem_cons.mpr ⟨k_174_206 L xs, List.forall_mem_cons.mpr ⟨k_174_207 L xs, List.forall_mem_cons.mpr ⟨k_174_210 L xs, List.forall_mem_cons.mpr ⟨k_174_211 L xs, List.forall_mem_cons.mpr ⟨k_174_212 L xs, List.forall_mem_cons.mpr ⟨k_174_213 L xs, List.forall_mem_cons.mpr ⟨k_174_216 L xs, List.forall_mem_cons.mpr ⟨k_174_217 L xs, List.forall_mem_cons.mpr ⟨k_174_220 L xs, List.forall_mem_cons.mpr ⟨k_174_221 L xs, List.forall_mem_cons.mpr ⟨k_174_222 L xs, List.forall_mem_cons.mpr ⟨k_174_225 L xs, List.forall_mem_cons.mpr ⟨k_174_226 L xs, List.forall_mem_cons.mpr ⟨k_174_227 L xs, List.forall_mem_cons.mpr ⟨k_174_228 L xs, List.forall_mem_cons.mpr ⟨k_174_229 L xs, List.forall_mem_cons.mpr ⟨k_174_232 L xs, List.forall_mem_cons.mpr ⟨k_174_234 L xs, List.forall_mem_cons.mpr ⟨k_174_235 L xs, List.forall_mem_cons.mpr ⟨k_174_237 L xs, List.forall_mem_cons.mpr ⟨k_174_239 L xs, List.forall_mem_cons.mpr ⟨k_174_240 L xs, List.forall_mem_cons.mpr ⟨k_174_243 L xs, List.forall_mem_cons.mpr ⟨k_174_244 L xs, List.forall_mem_cons.mpr ⟨k_174_246 L xs, List.forall_mem_cons.mpr ⟨k_174_247 L xs, List.forall_mem_cons.mpr ⟨k_174_248 L xs, List.forall_mem_cons.mpr ⟨k_174_249 L xs, List.forall_mem_cons.mpr ⟨k_174_250 L xs, List.forall_mem_cons.mpr ⟨k_174_253 L xs, List.forall_mem_cons.mpr ⟨k_174_254 L xs, List.forall_mem_cons.mpr ⟨k_174_255 L xs, List.forall_mem_cons.mpr ⟨k_174_257 L xs, List.forall_mem_cons.mpr ⟨k_174_258 L xs, List.forall_mem_cons.mpr ⟨k_174_260 L xs, List.forall_mem_cons.mpr ⟨k_174_263 L xs, List.forall_mem_cons.mpr ⟨k_174_266 L xs, List.forall_mem_cons.mpr ⟨k_174_269 L xs, List.forall_mem_cons.mpr ⟨k_174_272 L xs, List.forall_mem_cons.mpr ⟨k_174_273 L xs, List.forall_mem_cons.mpr ⟨k_174_276 L xs, List.forall_mem_cons.mpr ⟨k_174_277 L xs, List.forall_mem_cons.mpr ⟨k_174_278 L xs, List.forall_mem_cons.mpr ⟨k_174_279 L xs, List.forall_mem_cons.mpr ⟨k_174_280 L xs, List.forall_mem_cons.mpr ⟨k_174_281 L xs, List.forall_mem_cons.mpr ⟨k_174_282 L xs, List.forall_mem_cons.mpr ⟨k_174_285 L xs, List.forall_mem_cons.mpr ⟨k_174_286 L xs, List.forall_mem_cons.mpr ⟨k_174_287 L xs, List.forall_mem_cons.mpr ⟨k_174_290 L xs, List.forall_mem_cons.mpr ⟨k_174_291 L xs, List.forall_mem_cons.mpr ⟨k_174_292 L xs, List.forall_mem_cons.mpr ⟨k_174_293 L xs, List.forall_mem_cons.mpr ⟨k_174_294 L xs, List.forall_mem_cons.mpr ⟨k_174_295 L xs, List.forall_mem_cons.mpr ⟨k_174_296 L xs, List.forall_mem_cons.mpr ⟨k_174_299 L xs, List.forall_mem_cons.mpr ⟨k_174_300 L xs, List.forall_mem_cons.mpr ⟨k_174_301 L xs, List.forall_mem_cons.mpr ⟨k_174_302 L xs, List.forall_mem_cons.mpr ⟨k_174_303 L xs, List.forall_mem_cons.mpr ⟨k_174_304 L xs, List.forall_mem_cons.mpr ⟨k_174_307 L xs, List.forall_mem_cons.mpr ⟨k_174_310 L xs, List.forall_mem_cons.mpr ⟨k_174_311 L xs, List.forall_mem_cons.mpr ⟨k_174_314 L xs, List.forall_mem_cons.mpr ⟨k_174_315 L xs, List.forall_mem_cons.mpr ⟨k_174_318 L xs, List.forall_mem_cons.mpr ⟨k_174_319 L xs, List.forall_mem_cons.mpr ⟨k_174_320 L xs, List.forall_mem_cons.mpr ⟨k_174_321 L xs, List.forall_mem_cons.mpr ⟨k_174_324 L xs, List.forall_mem_cons.mpr ⟨k_174_325 L xs, List.forall_mem_cons.mpr ⟨k_174_326 L xs, List.forall_mem_cons.mpr ⟨k_174_327 L xs, List.forall_mem_cons.mpr ⟨k_174_330 L xs, List.forall_mem_cons.mpr ⟨k_174_333 L xs, List.forall_mem_cons.mpr ⟨k_174_334 L xs, List.forall_mem_cons.mpr ⟨k_174_335 L xs, List.forall_mem_cons.mpr ⟨k_174_338 L xs, List.forall_mem_cons.mpr ⟨k_174_339 L xs, List.forall_mem_cons.mpr ⟨k_174_342 L xs, List.forall_mem_cons.mpr ⟨k_174_343 L xs, List.forall_mem_cons.mpr ⟨k_174_346 L xs, fun _ h => absurd h List.not_mem_nil⟩⟩⟩⟩⟩⟩⟩⟩⟩⟩⟩⟩⟩⟩⟩⟩⟩⟩⟩⟩⟩⟩⟩⟩⟩⟩⟩⟩⟩⟩⟩⟩⟩⟩⟩⟩⟩⟩⟩⟩⟩⟩⟩⟩⟩⟩⟩⟩⟩⟩⟩⟩⟩⟩⟩⟩⟩⟩⟩⟩⟩⟩⟩⟩⟩⟩⟩⟩⟩⟩⟩⟩⟩⟩⟩⟩⟩⟩⟩⟩⟩⟩⟩⟩⟩⟩⟩⟩⟩⟩⟩⟩⟩⟩⟩⟩⟩⟩⟩⟩⟩⟩⟩⟩⟩⟩⟩⟩⟩⟩⟩⟩⟩⟩⟩⟩⟩⟩⟩⟩⟩⟩⟩⟩⟩⟩⟩⟩⟩⟩⟩⟩⟩⟩⟩⟩⟩⟩⟩⟩⟩⟩⟩⟩⟩⟩⟩⟩⟩⟩⟩⟩⟩⟩⟩⟩⟩⟩⟩⟩⟩⟩⟩⟩⟩⟩⟩⟩⟩⟩⟩⟩⟩⟩⟩⟩⟩⟩⟩⟩⟩⟩⟩⟩⟩⟩⟩⟩⟩⟩⟩⟩⟩⟩⟩⟩⟩⟩⟩⟩⟩⟩⟩⟩⟩⟩⟩
/-- InclusionProverModel.withStar.(II)I -/
def cd_175 : List (Nat × ll_O) := [
  (0, .inl (lo_aload 1 0)),
  (1, .inl (lo_getf 4 11 20)),
  (4, .inl (lo_push 5 (.int 0))),
  (5, .inl (lo_iload 6 1)),
  (6, .inl (lo_ast 7 0)),
  (7, .inl (lo_aload 8 0)),
  (8, .inl (lo_getf 11 11 20)),
  (11, .inl (lo_push 12 (.int 1))),
  (12, .inl (lo_iload 13 2)),
  (13, .inl (lo_ast 14 0)),
  (14, .inl (lo_aload 15 0)),
  (15, .inl (lo_aload 16 0)),
  (16, .inl (lo_getf 19 11 20)),
  (19, .inl (lo_push 20 (.int 0))),
  (20, .inl (lo_push 21 (.int 2))),
  (21, .inr (.inl (159, 4, 24))),
  (24, .inr (.inr 1))]
theorem k_175_0 (L : Nat) (xs : Nat → Int32) : ll_OK1 cX11_withStar RX11 (some .int) false ll_mN ll_mR ll_mK ll_cnt L xs false 0 (.inl (lo_aload 1 0)) := lk_aload_n (k := 0) (by decide +kernel) rfl
theorem k_175_1 (L : Nat) (xs : Nat → Int32) : ll_OK1 cX11_withStar RX11 (some .int) false ll_mN ll_mR ll_mK ll_cnt L xs false 1 (.inl (lo_getf 4 11 20)) := lk_getf (ix := 59) (ci := 11) (k := 20) (C := RX11) (T := TX11) (N := 46) (by decide +kernel) rfl in_11 (by decide) tb_622
theorem k_175_4 (L : Nat) (xs : Nat → Int32) : ll_OK1 cX11_withStar RX11 (some .int) false ll_mN ll_mR ll_mK ll_cnt L xs false 4 (.inl (lo_push 5 (.int 0))) := lk_iconst (n := 0) (by decide +kernel) (by decide)
theorem k_175_5 (L : Nat) (xs : Nat → Int32) : ll_OK1 cX11_withStar RX11 (some .int) false ll_mN ll_mR ll_mK ll_cnt L xs false 5 (.inl (lo_iload 6 1)) := lk_iload_n (k := 1) (by decide +kernel) rfl
theorem k_175_6 (L : Nat) (xs : Nat → Int32) : ll_OK1 cX11_withStar RX11 (some .int) false ll_mN ll_mR ll_mK ll_cnt L xs false 6 (.inl (lo_ast 7 0)) := lk_iast (by decide +kernel)
theorem k_175_7 (L : Nat) (xs : Nat → Int32) : ll_OK1 cX11_withStar RX11 (some .int) false ll_mN ll_mR ll_mK ll_cnt L xs false 7 (.inl (lo_aload 8 0)) := lk_aload_n (k := 0) (by decide +kernel) rfl
theorem k_175_8 (L : Nat) (xs : Nat → Int32) : ll_OK1 cX11_withStar RX11 (some .int) false ll_mN ll_mR ll_mK ll_cnt L xs false 8 (.inl (lo_getf 11 11 20)) := lk_getf (ix := 59) (ci := 11) (k := 20) (C := RX11) (T := TX11) (N := 46) (by decide +kernel) rfl in_11 (by decide) tb_622
theorem k_175_11 (L : Nat) (xs : Nat → Int32) : ll_OK1 cX11_withStar RX11 (some .int) false ll_mN ll_mR ll_mK ll_cnt L xs false 11 (.inl (lo_push 12 (.int 1))) := lk_iconst (n := 1) (by decide +kernel) (by decide)
theorem k_175_12 (L : Nat) (xs : Nat → Int32) : ll_OK1 cX11_withStar RX11 (some .int) false ll_mN ll_mR ll_mK ll_cnt L xs false 12 (.inl (lo_iload 13 2)) := lk_iload_n (k := 2) (by decide +kernel) rfl
theorem k_175_13 (L : Nat) (xs : Nat → Int32) : ll_OK1 cX11_withStar RX11 (some .int) false ll_mN ll_mR ll_mK ll_cnt L xs false 13 (.inl (lo_ast 14 0)) := lk_iast (by decide +kernel)
theorem k_175_14 (L : Nat) (xs : Nat → Int32) : ll_OK1 cX11_withStar RX11 (some .int) false ll_mN ll_mR ll_mK ll_cnt L xs false 14 (.inl (lo_aload 15 0)) := lk_aload_n (k := 0) (by decide +kernel) rfl
theorem k_175_15 (L : Nat) (xs : Nat → Int32) : ll_OK1 cX11_withStar RX11 (some .int) false ll_mN ll_mR ll_mK ll_cnt L xs false 15 (.inl (lo_aload 16 0)) := lk_aload_n (k := 0) (by decide +kernel) rfl
theorem k_175_16 (L : Nat) (xs : Nat → Int32) : ll_OK1 cX11_withStar RX11 (some .int) false ll_mN ll_mR ll_mK ll_cnt L xs false 16 (.inl (lo_getf 19 11 20)) := lk_getf (ix := 59) (ci := 11) (k := 20) (C := RX11) (T := TX11) (N := 46) (by decide +kernel) rfl in_11 (by decide) tb_622
theorem k_175_19 (L : Nat) (xs : Nat → Int32) : ll_OK1 cX11_withStar RX11 (some .int) false ll_mN ll_mR ll_mK ll_cnt L xs false 19 (.inl (lo_push 20 (.int 0))) := lk_iconst (n := 0) (by decide +kernel) (by decide)
theorem k_175_20 (L : Nat) (xs : Nat → Int32) : ll_OK1 cX11_withStar RX11 (some .int) false ll_mN ll_mR ll_mK ll_cnt L xs false 20 (.inl (lo_push 21 (.int 2))) := lk_iconst (n := 2) (by decide +kernel) (by decide)
theorem k_175_21 (L : Nat) (xs : Nat → Int32) : ll_OK1 cX11_withStar RX11 (some .int) false ll_mN ll_mR ll_mK ll_cnt L xs false 21 (.inr (.inl (159, 4, 24))) := ⟨rfl, by decide, by rw [mN_159, mK_159, mR_159]; exact lj_v 144 3 11 (RX11, TX11, 46) (by decide +kernel) tb_659 tb_660 tb_661 rfl rfl rfl rfl (by decide +kernel)⟩
theorem k_175_24 (L : Nat) (xs : Nat → Int32) : ll_OK1 cX11_withStar RX11 (some .int) false ll_mN ll_mR ll_mK ll_cnt L xs false 24 (.inr (.inr 1)) := ⟨(fun h => by cases h), (fun _ => ⟨(by decide +kernel), rfl⟩), fun h => by cases h⟩
theorem ok_175 (L : Nat) (xs : Nat → Int32) : ∀ q ∈ cd_175, ll_OK1 cX11_withStar RX11 (some .int) false ll_mN ll_mR ll_mK ll_cnt L xs false q.1 q.2 :=
  List.forall_mem_cons.mpr ⟨k_175_0 L xs, List.forall_mem_cons.mpr ⟨k_175_1 L xs, List.forall_mem_cons.mpr ⟨k_175_4 L xs, List.forall_mem_cons.mpr ⟨k_175_5 L xs, List.forall_mem_cons.mpr ⟨k_175_6 L xs, List.forall_mem_cons.mpr ⟨k_175_7 L xs, List.forall_mem_cons.mpr ⟨k_175_8 L xs, List.forall_mem_cons.mpr ⟨k_175_11 L xs, List.forall_mem_cons.mpr ⟨k_175_12 L xs, List.forall_mem_cons.mpr ⟨k_175_13 L xs, List.forall_mem_cons.mpr ⟨k_175_14 L xs, List.forall_mem_cons.mpr ⟨k_175_15 L xs, List.forall_mem_cons.mpr ⟨k_175_16 L xs, List.forall_mem_cons.mpr ⟨k_175_19 L xs, List.forall_mem_cons.mpr ⟨k_175_20 L xs, List.forall_mem_cons.mpr ⟨k_175_21 L xs, List.forall_mem_cons.mpr ⟨k_175_24 L xs, fun _ h => absurd h List.not_mem_nil⟩⟩⟩⟩⟩⟩⟩⟩⟩⟩⟩⟩⟩⟩⟩⟩⟩
/-- InclusionProverModel.needs.(II)V -/
def cd_176 : List (Nat × ll_O) := [
  (0, .inl (lo_push 1 (.int 0))),
  (1, .inl (lo_istore 2 3)),
  (2, .inl (lo_aload 3 0)),
  (3, .inl (lo_getf 6 11 15)),
  (6, .inl (lo_push 7 (.int 3))),
  (7, .inl (lo_iload 8 1)),
  (8, .inl (lo_bin 9 (fun x y => x * y))),
  (9, .inl (lo_iload 10 2)),
  (10, .inl (lo_bin 11 (fun x y => x + y))),
  (11, .inl (lo_ald 12 0)),
  (12, .inl (lo_push 13 (.int (-1)))),
  (13, .inl (lo_cmp 17 16 (fun x y => decide (x = y)))),
  (16, .inr (.inr 0)),
  (17, .inl (lo_aload 18 0)),
  (18, .inl (lo_getf 21 11 31)),
  (21, .inl (lo_iload 22 3)),
  (22, .inl (lo_iload 23 1)),
  (23, .inl (lo_ast 24 0)),
  (24, .inl (lo_iinc 27 3 1)),
  (27, .inl (lo_iload 28 3)),
  (28, .inl (lo_if 83 31 (fun x => decide (x ≤ 0)))),
  (31, .inl (lo_aload 32 0)),
  (32, .inl (lo_aload 33 0)),
  (33, .inl (lo_getf 36 11 31)),
  (36, .inl (lo_iload 37 3)),
  (37, .inl (lo_push 38 (.int 1))),
  (38, .inl (lo_bin 39 (fun x y => x - y))),
  (39, .inl (lo_ald 40 0)),
  (40, .inl (lo_iload 41 2)),
  (41, .inr (.inl (171, 3, 44))),
  (44, .inl (lo_istore 46 4)),
  (46, .inl (lo_iload 48 4)),
  (48, .inl (lo_push 49 (.int (-1)))),
  (49, .inl (lo_cmp 66 52 (fun x y => decide (x = y)))),
  (52, .inl (lo_aload 53 0)),
  (53, .inl (lo_getf 56 11 31)),
  (56, .inl (lo_iload 57 3)),
  (57, .inl (lo_iload 59 4)),
  (59, .inl (lo_ast 60 0)),
  (60, .inl (lo_iinc 63 3 1)),
  (63, .inl (lo_goto 80)),
  (66, .inl (lo_iinc 69 3 (-1))),
  (69, .inl (lo_aload 70 0)),
  (70, .inl (lo_aload 71 0)),
  (71, .inl (lo_getf 74 11 31)),
  (74, .inl (lo_iload 75 3)),
  (75, .inl (lo_ald 76 0)),
  (76, .inl (lo_iload 77 2)),
  (77, .inr (.inl (174, 3, 80))),
  (80, .inl (lo_goto 27)),
  (83, .inr (.inr 0))]
theorem k_176_0 (L : Nat) (xs : Nat → Int32) : ll_OK1 cX11_needs RX11 none false ll_mN ll_mR ll_mK ll_cnt L xs false 0 (.inl (lo_push 1 (.int 0))) := lk_iconst (n := 0) (by decide +kernel) (by decide)
theorem k_176_1 (L : Nat) (xs : Nat → Int32) : ll_OK1 cX11_needs RX11 none false ll_mN ll_mR ll_mK ll_cnt L xs false 1 (.inl (lo_istore 2 3)) := lk_istore_n (k := 3) (by decide +kernel) rfl
theorem k_176_2 (L : Nat) (xs : Nat → Int32) : ll_OK1 cX11_needs RX11 none false ll_mN ll_mR ll_mK ll_cnt L xs false 2 (.inl (lo_aload 3 0)) := lk_aload_n (k := 0) (by decide +kernel) rfl
theorem k_176_3 (L : Nat) (xs : Nat → Int32) : ll_OK1 cX11_needs RX11 none false ll_mN ll_mR ll_mK ll_cnt L xs false 3 (.inl (lo_getf 6 11 15)) := lk_getf (ix := 49) (ci := 11) (k := 15) (C := RX11) (T := TX11) (N := 46) (by decide +kernel) rfl in_11 (by decide) tb_618
theorem k_176_6 (L : Nat) (xs : Nat → Int32) : ll_OK1 cX11_needs RX11 none false ll_mN ll_mR ll_mK ll_cnt L xs false 6 (.inl (lo_push 7 (.int 3))) := lk_iconst (n := 3) (by decide +kernel) (by decide)
theorem k_176_7 (L : Nat) (xs : Nat → Int32) : ll_OK1 cX11_needs RX11 none false ll_mN ll_mR ll_mK ll_cnt L xs false 7 (.inl (lo_iload 8 1)) := lk_iload_n (k := 1) (by decide +kernel) rfl
theorem k_176_8 (L : Nat) (xs : Nat → Int32) : ll_OK1 cX11_needs RX11 none false ll_mN ll_mR ll_mK ll_cnt L xs false 8 (.inl (lo_bin 9 (fun x y => x * y))) := lk_imul (by decide +kernel)
theorem k_176_9 (L : Nat) (xs : Nat → Int32) : ll_OK1 cX11_needs RX11 none false ll_mN ll_mR ll_mK ll_cnt L xs false 9 (.inl (lo_iload 10 2)) := lk_iload_n (k := 2) (by decide +kernel) rfl
theorem k_176_10 (L : Nat) (xs : Nat → Int32) : ll_OK1 cX11_needs RX11 none false ll_mN ll_mR ll_mK ll_cnt L xs false 10 (.inl (lo_bin 11 (fun x y => x + y))) := lk_iadd (by decide +kernel)
theorem k_176_11 (L : Nat) (xs : Nat → Int32) : ll_OK1 cX11_needs RX11 none false ll_mN ll_mR ll_mK ll_cnt L xs false 11 (.inl (lo_ald 12 0)) := lk_iald (by decide +kernel)
theorem k_176_12 (L : Nat) (xs : Nat → Int32) : ll_OK1 cX11_needs RX11 none false ll_mN ll_mR ll_mK ll_cnt L xs false 12 (.inl (lo_push 13 (.int (-1)))) := lk_iconst (n := (-1)) (by decide +kernel) (by decide)
theorem k_176_13 (L : Nat) (xs : Nat → Int32) : ll_OK1 cX11_needs RX11 none false ll_mN ll_mR ll_mK ll_cnt L xs false 13 (.inl (lo_cmp 17 16 (fun x y => decide (x = y)))) := lk_icmp_eq (off := 4) (by decide +kernel) rfl
theorem k_176_16 (L : Nat) (xs : Nat → Int32) : ll_OK1 cX11_needs RX11 none false ll_mN ll_mR ll_mK ll_cnt L xs false 16 (.inr (.inr 0)) := ⟨fun _ => ⟨(by decide +kernel), rfl⟩, (fun h => by cases h), fun h => by cases h⟩
theorem k_176_17 (L : Nat) (xs : Nat → Int32) : ll_OK1 cX11_needs RX11 none false ll_mN ll_mR ll_mK ll_cnt L xs false 17 (.inl (lo_aload 18 0)) := lk_aload_n (k := 0) (by decide +kernel) rfl
theorem k_176_18 (L : Nat) (xs : Nat → Int32) : ll_OK1 cX11_needs RX11 none false ll_mN ll_mR ll_mK ll_cnt L xs false 18 (.inl (lo_getf 21 11 31)) := lk_getf (ix := 80) (ci := 11) (k := 31) (C := RX11) (T := TX11) (N := 46) (by decide +kernel) rfl in_11 (by decide) tb_629
theorem k_176_21 (L : Nat) (xs : Nat → Int32) : ll_OK1 cX11_needs RX11 none false ll_mN ll_mR ll_mK ll_cnt L xs false 21 (.inl (lo_iload 22 3)) := lk_iload_n (k := 3) (by decide +kernel) rfl
theorem k_176_22 (L : Nat) (xs : Nat → Int32) : ll_OK1 cX11_needs RX11 none false ll_mN ll_mR ll_mK ll_cnt L xs false 22 (.inl (lo_iload 23 1)) := lk_iload_n (k := 1) (by decide +kernel) rfl
theorem k_176_23 (L : Nat) (xs : Nat → Int32) : ll_OK1 cX11_needs RX11 none false ll_mN ll_mR ll_mK ll_cnt L xs false 23 (.inl (lo_ast 24 0)) := lk_iast (by decide +kernel)
theorem k_176_24 (L : Nat) (xs : Nat → Int32) : ll_OK1 cX11_needs RX11 none false ll_mN ll_mR ll_mK ll_cnt L xs false 24 (.inl (lo_iinc 27 3 1)) := lk_iinc (n := 1) (by decide +kernel) (by decide)
theorem k_176_27 (L : Nat) (xs : Nat → Int32) : ll_OK1 cX11_needs RX11 none false ll_mN ll_mR ll_mK ll_cnt L xs false 27 (.inl (lo_iload 28 3)) := lk_iload_n (k := 3) (by decide +kernel) rfl
theorem k_176_28 (L : Nat) (xs : Nat → Int32) : ll_OK1 cX11_needs RX11 none false ll_mN ll_mR ll_mK ll_cnt L xs false 28 (.inl (lo_if 83 31 (fun x => decide (x ≤ 0)))) := lk_if_le (off := 55) (by decide +kernel) rfl
theorem k_176_31 (L : Nat) (xs : Nat → Int32) : ll_OK1 cX11_needs RX11 none false ll_mN ll_mR ll_mK ll_cnt L xs false 31 (.inl (lo_aload 32 0)) := lk_aload_n (k := 0) (by decide +kernel) rfl
theorem k_176_32 (L : Nat) (xs : Nat → Int32) : ll_OK1 cX11_needs RX11 none false ll_mN ll_mR ll_mK ll_cnt L xs false 32 (.inl (lo_aload 33 0)) := lk_aload_n (k := 0) (by decide +kernel) rfl
theorem k_176_33 (L : Nat) (xs : Nat → Int32) : ll_OK1 cX11_needs RX11 none false ll_mN ll_mR ll_mK ll_cnt L xs false 33 (.inl (lo_getf 36 11 31)) := lk_getf (ix := 80) (ci := 11) (k := 31) (C := RX11) (T := TX11) (N := 46) (by decide +kernel) rfl in_11 (by decide) tb_629
theorem k_176_36 (L : Nat) (xs : Nat → Int32) : ll_OK1 cX11_needs RX11 none false ll_mN ll_mR ll_mK ll_cnt L xs false 36 (.inl (lo_iload 37 3)) := lk_iload_n (k := 3) (by decide +kernel) rfl
theorem k_176_37 (L : Nat) (xs : Nat → Int32) : ll_OK1 cX11_needs RX11 none false ll_mN ll_mR ll_mK ll_cnt L xs false 37 (.inl (lo_push 38 (.int 1))) := lk_iconst (n := 1) (by decide +kernel) (by decide)
theorem k_176_38 (L : Nat) (xs : Nat → Int32) : ll_OK1 cX11_needs RX11 none false ll_mN ll_mR ll_mK ll_cnt L xs false 38 (.inl (lo_bin 39 (fun x y => x - y))) := lk_isub (by decide +kernel)
theorem k_176_39 (L : Nat) (xs : Nat → Int32) : ll_OK1 cX11_needs RX11 none false ll_mN ll_mR ll_mK ll_cnt L xs false 39 (.inl (lo_ald 40 0)) := lk_iald (by decide +kernel)
theorem k_176_40 (L : Nat) (xs : Nat → Int32) : ll_OK1 cX11_needs RX11 none false ll_mN ll_mR ll_mK ll_cnt L xs false 40 (.inl (lo_iload 41 2)) := lk_iload_n (k := 2) (by decide +kernel) rfl
theorem k_176_41 (L : Nat) (xs : Nat → Int32) : ll_OK1 cX11_needs RX11 none false ll_mN ll_mR ll_mK ll_cnt L xs false 41 (.inr (.inl (171, 3, 44))) := ⟨rfl, by decide, by rw [mN_171, mK_171, mR_171]; exact lj_v 210 2 11 (RX11, TX11, 46) (by decide +kernel) tb_708 tb_709 tb_710 rfl rfl rfl rfl (by decide +kernel)⟩
theorem k_176_44 (L : Nat) (xs : Nat → Int32) : ll_OK1 cX11_needs RX11 none false ll_mN ll_mR ll_mK ll_cnt L xs false 44 (.inl (lo_istore 46 4)) := lk_istore (by decide +kernel)
theorem k_176_46 (L : Nat) (xs : Nat → Int32) : ll_OK1 cX11_needs RX11 none false ll_mN ll_mR ll_mK ll_cnt L xs false 46 (.inl (lo_iload 48 4)) := lk_iload (by decide +kernel)
theorem k_176_48 (L : Nat) (xs : Nat → Int32) : ll_OK1 cX11_needs RX11 none false ll_mN ll_mR ll_mK ll_cnt L xs false 48 (.inl (lo_push 49 (.int (-1)))) := lk_iconst (n := (-1)) (by decide +kernel) (by decide)
theorem k_176_49 (L : Nat) (xs : Nat → Int32) : ll_OK1 cX11_needs RX11 none false ll_mN ll_mR ll_mK ll_cnt L xs false 49 (.inl (lo_cmp 66 52 (fun x y => decide (x = y)))) := lk_icmp_eq (off := 17) (by decide +kernel) rfl
theorem k_176_52 (L : Nat) (xs : Nat → Int32) : ll_OK1 cX11_needs RX11 none false ll_mN ll_mR ll_mK ll_cnt L xs false 52 (.inl (lo_aload 53 0)) := lk_aload_n (k := 0) (by decide +kernel) rfl
theorem k_176_53 (L : Nat) (xs : Nat → Int32) : ll_OK1 cX11_needs RX11 none false ll_mN ll_mR ll_mK ll_cnt L xs false 53 (.inl (lo_getf 56 11 31)) := lk_getf (ix := 80) (ci := 11) (k := 31) (C := RX11) (T := TX11) (N := 46) (by decide +kernel) rfl in_11 (by decide) tb_629
theorem k_176_56 (L : Nat) (xs : Nat → Int32) : ll_OK1 cX11_needs RX11 none false ll_mN ll_mR ll_mK ll_cnt L xs false 56 (.inl (lo_iload 57 3)) := lk_iload_n (k := 3) (by decide +kernel) rfl
theorem k_176_57 (L : Nat) (xs : Nat → Int32) : ll_OK1 cX11_needs RX11 none false ll_mN ll_mR ll_mK ll_cnt L xs false 57 (.inl (lo_iload 59 4)) := lk_iload (by decide +kernel)
theorem k_176_59 (L : Nat) (xs : Nat → Int32) : ll_OK1 cX11_needs RX11 none false ll_mN ll_mR ll_mK ll_cnt L xs false 59 (.inl (lo_ast 60 0)) := lk_iast (by decide +kernel)
theorem k_176_60 (L : Nat) (xs : Nat → Int32) : ll_OK1 cX11_needs RX11 none false ll_mN ll_mR ll_mK ll_cnt L xs false 60 (.inl (lo_iinc 63 3 1)) := lk_iinc (n := 1) (by decide +kernel) (by decide)
theorem k_176_63 (L : Nat) (xs : Nat → Int32) : ll_OK1 cX11_needs RX11 none false ll_mN ll_mR ll_mK ll_cnt L xs false 63 (.inl (lo_goto 80)) := lk_goto (off := 17) (by decide +kernel) rfl
theorem k_176_66 (L : Nat) (xs : Nat → Int32) : ll_OK1 cX11_needs RX11 none false ll_mN ll_mR ll_mK ll_cnt L xs false 66 (.inl (lo_iinc 69 3 (-1))) := lk_iinc (n := (-1)) (by decide +kernel) (by decide)
theorem k_176_69 (L : Nat) (xs : Nat → Int32) : ll_OK1 cX11_needs RX11 none false ll_mN ll_mR ll_mK ll_cnt L xs false 69 (.inl (lo_aload 70 0)) := lk_aload_n (k := 0) (by decide +kernel) rfl
theorem k_176_70 (L : Nat) (xs : Nat → Int32) : ll_OK1 cX11_needs RX11 none false ll_mN ll_mR ll_mK ll_cnt L xs false 70 (.inl (lo_aload 71 0)) := lk_aload_n (k := 0) (by decide +kernel) rfl
theorem k_176_71 (L : Nat) (xs : Nat → Int32) : ll_OK1 cX11_needs RX11 none false ll_mN ll_mR ll_mK ll_cnt L xs false 71 (.inl (lo_getf 74 11 31)) := lk_getf (ix := 80) (ci := 11) (k := 31) (C := RX11) (T := TX11) (N := 46) (by decide +kernel) rfl in_11 (by decide) tb_629
theorem k_176_74 (L : Nat) (xs : Nat → Int32) : ll_OK1 cX11_needs RX11 none false ll_mN ll_mR ll_mK ll_cnt L xs false 74 (.inl (lo_iload 75 3)) := lk_iload_n (k := 3) (by decide +kernel) rfl
theorem k_176_75 (L : Nat) (xs : Nat → Int32) : ll_OK1 cX11_needs RX11 none false ll_mN ll_mR ll_mK ll_cnt L xs false 75 (.inl (lo_ald 76 0)) := lk_iald (by decide +kernel)
theorem k_176_76 (L : Nat) (xs : Nat → Int32) : ll_OK1 cX11_needs RX11 none false ll_mN ll_mR ll_mK ll_cnt L xs false 76 (.inl (lo_iload 77 2)) := lk_iload_n (k := 2) (by decide +kernel) rfl
theorem k_176_77 (L : Nat) (xs : Nat → Int32) : ll_OK1 cX11_needs RX11 none false ll_mN ll_mR ll_mK ll_cnt L xs false 77 (.inr (.inl (174, 3, 80))) := ⟨rfl, by decide, by rw [mN_174, mK_174, mR_174]; exact lj_v 213 2 11 (RX11, TX11, 46) (by decide +kernel) tb_711 tb_712 tb_713 rfl rfl rfl rfl (by decide +kernel)⟩
theorem k_176_80 (L : Nat) (xs : Nat → Int32) : ll_OK1 cX11_needs RX11 none false ll_mN ll_mR ll_mK ll_cnt L xs false 80 (.inl (lo_goto 27)) := lk_goto (off := (-53)) (by decide +kernel) rfl
theorem k_176_83 (L : Nat) (xs : Nat → Int32) : ll_OK1 cX11_needs RX11 none false ll_mN ll_mR ll_mK ll_cnt L xs false 83 (.inr (.inr 0)) := ⟨fun _ => ⟨(by decide +kernel), rfl⟩, (fun h => by cases h), fun h => by cases h⟩
theorem ok_176 (L : Nat) (xs : Nat → Int32) : ∀ q ∈ cd_176, ll_OK1 cX11_needs RX11 none false ll_mN ll_mR ll_mK ll_cnt L xs false q.1 q.2 :=
  List.forall_mem_cons.mpr ⟨k_176_0 L xs, List.forall_mem_cons.mpr ⟨k_176_1 L xs, List.forall_mem_cons.mpr ⟨k_176_2 L xs, List.forall_mem_cons.mpr ⟨k_176_3 L xs, List.forall_mem_cons.mpr ⟨k_176_6 L xs, List.forall_mem_cons.mpr ⟨k_176_7 L xs, List.forall_mem_cons.mpr ⟨k_176_8 L xs, List.forall_mem_cons.mpr ⟨k_176_9 L xs, List.forall_mem_cons.mpr ⟨k_176_10 L xs, List.forall_mem_cons.mpr ⟨k_176_11 L xs, List.forall_mem_cons.mpr ⟨k_176_12 L xs, List.forall_mem_cons.mpr ⟨k_176_13 L xs, List.forall_mem_cons.mpr ⟨k_176_16 L xs, List.forall_mem_cons.mpr ⟨k_176_17 L xs, List.forall_mem_cons.mpr ⟨k_176_18 L xs, List.forall_mem_cons.mpr ⟨k_176_21 L xs, List.forall_mem_cons.mpr ⟨k_176_22 L xs, List.forall_mem_cons.mpr ⟨k_176_23 L xs, List.forall_mem_cons.mpr ⟨k_176_24 L xs, List.forall_mem_cons.mpr ⟨k_176_27 L xs, List.forall_mem_cons.mpr ⟨k_176_28 L xs, List.forall_mem_cons.mpr ⟨k_176_31 L xs, List.forall_mem_cons.mpr ⟨k_176_32 L xs, List.forall_mem_cons.mpr ⟨k_176_33 L xs, List.forall_mem_cons.mpr ⟨k_176_36 L xs, List.forall_mem_cons.mpr ⟨k_176_37 L xs, List.forall_mem_cons.mpr ⟨k_176_38 L xs, List.forall_mem_cons.mpr ⟨k_176_39 L xs, List.forall_mem_cons.mpr ⟨k_176_40 L xs, List.forall_mem_cons.mpr ⟨k_176_41 L xs, List.forall_mem_cons.mpr ⟨k_176_44 L xs, List.forall_mem_cons.mpr ⟨k_176_46 L xs, List.forall_mem_cons.mpr ⟨k_176_48 L xs, List.forall_mem_cons.mpr ⟨k_176_49 L xs, List.forall_mem_cons.mpr ⟨k_176_52 L xs, List.forall_mem_cons.mpr ⟨k_176_53 L xs, List.forall_mem_cons.mpr ⟨k_176_56 L xs, List.forall_mem_cons.mpr ⟨k_176_57 L xs, List.forall_mem_cons.mpr ⟨k_176_59 L xs, List.forall_mem_cons.mpr ⟨k_176_60 L xs, List.forall_mem_cons.mpr ⟨k_176_63 L xs, List.forall_mem_cons.mpr ⟨k_176_66 L xs, List.forall_mem_cons.mpr ⟨k_176_69 L xs, List.forall_mem_cons.mpr ⟨k_176_70 L xs, List.forall_mem_cons.mpr ⟨k_176_71 L xs, List.forall_mem_cons.mpr ⟨k_176_74 L xs, List.forall_mem_cons.mpr ⟨k_176_75 L xs, List.forall_mem_cons.mpr ⟨k_176_76 L xs, List.forall_mem_cons.mpr ⟨k_176_77 L xs, List.forall_mem_cons.mpr ⟨k_176_80 L xs, List.forall_mem_cons.mpr ⟨k_176_83 L xs, fun _ h => absurd h List.not_mem_nil⟩⟩⟩⟩⟩⟩⟩⟩⟩⟩⟩⟩⟩⟩⟩⟩⟩⟩⟩⟩⟩⟩⟩⟩⟩⟩⟩⟩⟩⟩⟩⟩⟩⟩⟩⟩⟩⟩⟩⟩⟩⟩⟩⟩⟩⟩⟩⟩⟩⟩⟩
/-- InclusionProverModel.termBy.(II)I -/
def cd_177 : List (Nat × ll_O) := [
  (0, .inl (lo_push 1 (.int 0))),
  (1, .inl (lo_istore 2 3)),
  (2, .inl (lo_iload 3 3)),
  (3, .inl (lo_aload 4 0)),
  (4, .inl (lo_getf 7 11 35)),
  (7, .inl (lo_iload 8 1)),
  (8, .inl (lo_ald 9 0)),
  (9, .inl (lo_cmp 35 12 (fun x y => decide (y ≤ x)))),
  (12, .inl (lo_aload 13 0)),
  (13, .inl (lo_getf 16 11 34)),
  (16, .inl (lo_push 18 (.int 31))),
  (18, .inl (lo_iload 19 1)),
  (19, .inl (lo_bin 20 (fun x y => x * y))),
  (20, .inl (lo_iload 21 3)),
  (21, .inl (lo_bin 22 (fun x y => x + y))),
  (22, .inl (lo_ald 23 0)),
  (23, .inl (lo_iload 24 2)),
  (24, .inl (lo_cmp 29 27 (fun x y => decide (¬ x = y)))),
  (27, .inl (lo_iload 28 3)),
  (28, .inr (.inr 1)),
  (29, .inl (lo_iinc 32 3 1)),
  (32, .inl (lo_goto 2)),
  (35, .inl (lo_push 36 (.int (-1)))),
  (36, .inr (.inr 1))]
theorem k_177_0 (L : Nat) (xs : Nat → Int32) : ll_OK1 cX11_termBy RX11 (some .int) false ll_mN ll_mR ll_mK ll_cnt L xs false 0 (.inl (lo_push 1 (.int 0))) := lk_iconst (n := 0) (by decide +kernel) (by decide)
theorem k_177_1 (L : Nat) (xs : Nat → Int32) : ll_OK1 cX11_termBy RX11 (some .int) false ll_mN ll_mR ll_mK ll_cnt L xs false 1 (.inl (lo_istore 2 3)) := lk_istore_n (k := 3) (by decide +kernel) rfl
theorem k_177_2 (L : Nat) (xs : Nat → Int32) : ll_OK1 cX11_termBy RX11 (some .int) false ll_mN ll_mR ll_mK ll_cnt L xs false 2 (.inl (lo_iload 3 3)) := lk_iload_n (k := 3) (by decide +kernel) rfl
theorem k_177_3 (L : Nat) (xs : Nat → Int32) : ll_OK1 cX11_termBy RX11 (some .int) false ll_mN ll_mR ll_mK ll_cnt L xs false 3 (.inl (lo_aload 4 0)) := lk_aload_n (k := 0) (by decide +kernel) rfl
theorem k_177_4 (L : Nat) (xs : Nat → Int32) : ll_OK1 cX11_termBy RX11 (some .int) false ll_mN ll_mR ll_mK ll_cnt L xs false 4 (.inl (lo_getf 7 11 35)) := lk_getf (ix := 89) (ci := 11) (k := 35) (C := RX11) (T := TX11) (N := 46) (by decide +kernel) rfl in_11 (by decide) tb_632
theorem k_177_7 (L : Nat) (xs : Nat → Int32) : ll_OK1 cX11_termBy RX11 (some .int) false ll_mN ll_mR ll_mK ll_cnt L xs false 7 (.inl (lo_iload 8 1)) := lk_iload_n (k := 1) (by decide +kernel) rfl
theorem k_177_8 (L : Nat) (xs : Nat → Int32) : ll_OK1 cX11_termBy RX11 (some .int) false ll_mN ll_mR ll_mK ll_cnt L xs false 8 (.inl (lo_ald 9 0)) := lk_iald (by decide +kernel)
theorem k_177_9 (L : Nat) (xs : Nat → Int32) : ll_OK1 cX11_termBy RX11 (some .int) false ll_mN ll_mR ll_mK ll_cnt L xs false 9 (.inl (lo_cmp 35 12 (fun x y => decide (y ≤ x)))) := lk_icmp_ge (off := 26) (by decide +kernel) rfl
theorem k_177_12 (L : Nat) (xs : Nat → Int32) : ll_OK1 cX11_termBy RX11 (some .int) false ll_mN ll_mR ll_mK ll_cnt L xs false 12 (.inl (lo_aload 13 0)) := lk_aload_n (k := 0) (by decide +kernel) rfl
theorem k_177_13 (L : Nat) (xs : Nat → Int32) : ll_OK1 cX11_termBy RX11 (some .int) false ll_mN ll_mR ll_mK ll_cnt L xs false 13 (.inl (lo_getf 16 11 34)) := lk_getf (ix := 86) (ci := 11) (k := 34) (C := RX11) (T := TX11) (N := 46) (by decide +kernel) rfl in_11 (by decide) tb_631
theorem k_177_16 (L : Nat) (xs : Nat → Int32) : ll_OK1 cX11_termBy RX11 (some .int) false ll_mN ll_mR ll_mK ll_cnt L xs false 16 (.inl (lo_push 18 (.int 31))) := lk_bipush (n := 31) (by decide +kernel) (by decide)
theorem k_177_18 (L : Nat) (xs : Nat → Int32) : ll_OK1 cX11_termBy RX11 (some .int) false ll_mN ll_mR ll_mK ll_cnt L xs false 18 (.inl (lo_iload 19 1)) := lk_iload_n (k := 1) (by decide +kernel) rfl
theorem k_177_19 (L : Nat) (xs : Nat → Int32) : ll_OK1 cX11_termBy RX11 (some .int) false ll_mN ll_mR ll_mK ll_cnt L xs false 19 (.inl (lo_bin 20 (fun x y => x * y))) := lk_imul (by decide +kernel)
theorem k_177_20 (L : Nat) (xs : Nat → Int32) : ll_OK1 cX11_termBy RX11 (some .int) false ll_mN ll_mR ll_mK ll_cnt L xs false 20 (.inl (lo_iload 21 3)) := lk_iload_n (k := 3) (by decide +kernel) rfl
theorem k_177_21 (L : Nat) (xs : Nat → Int32) : ll_OK1 cX11_termBy RX11 (some .int) false ll_mN ll_mR ll_mK ll_cnt L xs false 21 (.inl (lo_bin 22 (fun x y => x + y))) := lk_iadd (by decide +kernel)
theorem k_177_22 (L : Nat) (xs : Nat → Int32) : ll_OK1 cX11_termBy RX11 (some .int) false ll_mN ll_mR ll_mK ll_cnt L xs false 22 (.inl (lo_ald 23 0)) := lk_iald (by decide +kernel)
theorem k_177_23 (L : Nat) (xs : Nat → Int32) : ll_OK1 cX11_termBy RX11 (some .int) false ll_mN ll_mR ll_mK ll_cnt L xs false 23 (.inl (lo_iload 24 2)) := lk_iload_n (k := 2) (by decide +kernel) rfl
theorem k_177_24 (L : Nat) (xs : Nat → Int32) : ll_OK1 cX11_termBy RX11 (some .int) false ll_mN ll_mR ll_mK ll_cnt L xs false 24 (.inl (lo_cmp 29 27 (fun x y => decide (¬ x = y)))) := lk_icmp_ne (off := 5) (by decide +kernel) rfl
theorem k_177_27 (L : Nat) (xs : Nat → Int32) : ll_OK1 cX11_termBy RX11 (some .int) false ll_mN ll_mR ll_mK ll_cnt L xs false 27 (.inl (lo_iload 28 3)) := lk_iload_n (k := 3) (by decide +kernel) rfl
theorem k_177_28 (L : Nat) (xs : Nat → Int32) : ll_OK1 cX11_termBy RX11 (some .int) false ll_mN ll_mR ll_mK ll_cnt L xs false 28 (.inr (.inr 1)) := ⟨(fun h => by cases h), (fun _ => ⟨(by decide +kernel), rfl⟩), fun h => by cases h⟩
theorem k_177_29 (L : Nat) (xs : Nat → Int32) : ll_OK1 cX11_termBy RX11 (some .int) false ll_mN ll_mR ll_mK ll_cnt L xs false 29 (.inl (lo_iinc 32 3 1)) := lk_iinc (n := 1) (by decide +kernel) (by decide)
theorem k_177_32 (L : Nat) (xs : Nat → Int32) : ll_OK1 cX11_termBy RX11 (some .int) false ll_mN ll_mR ll_mK ll_cnt L xs false 32 (.inl (lo_goto 2)) := lk_goto (off := (-30)) (by decide +kernel) rfl
theorem k_177_35 (L : Nat) (xs : Nat → Int32) : ll_OK1 cX11_termBy RX11 (some .int) false ll_mN ll_mR ll_mK ll_cnt L xs false 35 (.inl (lo_push 36 (.int (-1)))) := lk_iconst (n := (-1)) (by decide +kernel) (by decide)
theorem k_177_36 (L : Nat) (xs : Nat → Int32) : ll_OK1 cX11_termBy RX11 (some .int) false ll_mN ll_mR ll_mK ll_cnt L xs false 36 (.inr (.inr 1)) := ⟨(fun h => by cases h), (fun _ => ⟨(by decide +kernel), rfl⟩), fun h => by cases h⟩
theorem ok_177 (L : Nat) (xs : Nat → Int32) : ∀ q ∈ cd_177, ll_OK1 cX11_termBy RX11 (some .int) false ll_mN ll_mR ll_mK ll_cnt L xs false q.1 q.2 :=
  List.forall_mem_cons.mpr ⟨k_177_0 L xs, List.forall_mem_cons.mpr ⟨k_177_1 L xs, List.forall_mem_cons.mpr ⟨k_177_2 L xs, List.forall_mem_cons.mpr ⟨k_177_3 L xs, List.forall_mem_cons.mpr ⟨k_177_4 L xs, List.forall_mem_cons.mpr ⟨k_177_7 L xs, List.forall_mem_cons.mpr ⟨k_177_8 L xs, List.forall_mem_cons.mpr ⟨k_177_9 L xs, List.forall_mem_cons.mpr ⟨k_177_12 L xs, List.forall_mem_cons.mpr ⟨k_177_13 L xs, List.forall_mem_cons.mpr ⟨k_177_16 L xs, List.forall_mem_cons.mpr ⟨k_177_18 L xs, List.forall_mem_cons.mpr ⟨k_177_19 L xs, List.forall_mem_cons.mpr ⟨k_177_20 L xs, List.forall_mem_cons.mpr ⟨k_177_21 L xs, List.forall_mem_cons.mpr ⟨k_177_22 L xs, List.forall_mem_cons.mpr ⟨k_177_23 L xs, List.forall_mem_cons.mpr ⟨k_177_24 L xs, List.forall_mem_cons.mpr ⟨k_177_27 L xs, List.forall_mem_cons.mpr ⟨k_177_28 L xs, List.forall_mem_cons.mpr ⟨k_177_29 L xs, List.forall_mem_cons.mpr ⟨k_177_32 L xs, List.forall_mem_cons.mpr ⟨k_177_35 L xs, List.forall_mem_cons.mpr ⟨k_177_36 L xs, fun _ h => absurd h List.not_mem_nil⟩⟩⟩⟩⟩⟩⟩⟩⟩⟩⟩⟩⟩⟩⟩⟩⟩⟩⟩⟩⟩⟩⟩⟩
/-- InclusionProverModel.laysTerms.(II)V -/
def cd_178 : List (Nat × ll_O) := [
  (0, .inl (lo_aload 1 0)),
  (1, .inl (lo_getf 4 11 34)),
  (4, .inl (lo_push 6 (.int 31))),
  (6, .inl (lo_iload 7 1)),
  (7, .inl (lo_bin 8 (fun x y => x * y))),
  (8, .inl (lo_iload 9 2)),
  (9, .inl (lo_ast 10 0)),
  (10, .inl (lo_aload 11 0)),
  (11, .inl (lo_getf 14 11 35)),
  (14, .inl (lo_iload 15 1)),
  (15, .inl (lo_push 16 (.int 1))),
  (16, .inl (lo_ast 17 0)),
  (17, .inl (lo_push 18 (.int 0))),
  (18, .inl (lo_istore 19 3)),
  (19, .inl (lo_iload 20 3)),
  (20, .inl (lo_aload 21 0)),
  (21, .inl (lo_getf 24 11 35)),
  (24, .inl (lo_iload 25 1)),
  (25, .inl (lo_ald 26 0)),
  (26, .inl (lo_cmp 58 29 (fun x y => decide (y ≤ x)))),
  (29, .inl (lo_push 30 (.int 0))),
  (30, .inl (lo_istore 32 4)),
  (32, .inl (lo_iload 34 4)),
  (34, .inl (lo_push 35 (.int 3))),
  (35, .inl (lo_cmp 52 38 (fun x y => decide (y ≤ x)))),
  (38, .inl (lo_aload 39 0)),
  (39, .inl (lo_iload 40 1)),
  (40, .inl (lo_iload 41 3)),
  (41, .inl (lo_iload 43 4)),
  (43, .inr (.inl (179, 4, 46))),
  (46, .inl (lo_iinc 49 4 1)),
  (49, .inl (lo_goto 32)),
  (52, .inl (lo_iinc 55 3 1)),
  (55, .inl (lo_goto 19)),
  (58, .inr (.inr 0))]
theorem k_178_0 (L : Nat) (xs : Nat → Int32) : ll_OK1 cX11_laysTerms RX11 none false ll_mN ll_mR ll_mK ll_cnt L xs false 0 (.inl (lo_aload 1 0)) := lk_aload_n (k := 0) (by decide +kernel) rfl
theorem k_178_1 (L : Nat) (xs : Nat → Int32) : ll_OK1 cX11_laysTerms RX11 none false ll_mN ll_mR ll_mK ll_cnt L xs false 1 (.inl (lo_getf 4 11 34)) := lk_getf (ix := 86) (ci := 11) (k := 34) (C := RX11) (T := TX11) (N := 46) (by decide +kernel) rfl in_11 (by decide) tb_631
theorem k_178_4 (L : Nat) (xs : Nat → Int32) : ll_OK1 cX11_laysTerms RX11 none false ll_mN ll_mR ll_mK ll_cnt L xs false 4 (.inl (lo_push 6 (.int 31))) := lk_bipush (n := 31) (by decide +kernel) (by decide)
theorem k_178_6 (L : Nat) (xs : Nat → Int32) : ll_OK1 cX11_laysTerms RX11 none false ll_mN ll_mR ll_mK ll_cnt L xs false 6 (.inl (lo_iload 7 1)) := lk_iload_n (k := 1) (by decide +kernel) rfl
theorem k_178_7 (L : Nat) (xs : Nat → Int32) : ll_OK1 cX11_laysTerms RX11 none false ll_mN ll_mR ll_mK ll_cnt L xs false 7 (.inl (lo_bin 8 (fun x y => x * y))) := lk_imul (by decide +kernel)
theorem k_178_8 (L : Nat) (xs : Nat → Int32) : ll_OK1 cX11_laysTerms RX11 none false ll_mN ll_mR ll_mK ll_cnt L xs false 8 (.inl (lo_iload 9 2)) := lk_iload_n (k := 2) (by decide +kernel) rfl
theorem k_178_9 (L : Nat) (xs : Nat → Int32) : ll_OK1 cX11_laysTerms RX11 none false ll_mN ll_mR ll_mK ll_cnt L xs false 9 (.inl (lo_ast 10 0)) := lk_iast (by decide +kernel)
theorem k_178_10 (L : Nat) (xs : Nat → Int32) : ll_OK1 cX11_laysTerms RX11 none false ll_mN ll_mR ll_mK ll_cnt L xs false 10 (.inl (lo_aload 11 0)) := lk_aload_n (k := 0) (by decide +kernel) rfl
theorem k_178_11 (L : Nat) (xs : Nat → Int32) : ll_OK1 cX11_laysTerms RX11 none false ll_mN ll_mR ll_mK ll_cnt L xs false 11 (.inl (lo_getf 14 11 35)) := lk_getf (ix := 89) (ci := 11) (k := 35) (C := RX11) (T := TX11) (N := 46) (by decide +kernel) rfl in_11 (by decide) tb_632
theorem k_178_14 (L : Nat) (xs : Nat → Int32) : ll_OK1 cX11_laysTerms RX11 none false ll_mN ll_mR ll_mK ll_cnt L xs false 14 (.inl (lo_iload 15 1)) := lk_iload_n (k := 1) (by decide +kernel) rfl
theorem k_178_15 (L : Nat) (xs : Nat → Int32) : ll_OK1 cX11_laysTerms RX11 none false ll_mN ll_mR ll_mK ll_cnt L xs false 15 (.inl (lo_push 16 (.int 1))) := lk_iconst (n := 1) (by decide +kernel) (by decide)
theorem k_178_16 (L : Nat) (xs : Nat → Int32) : ll_OK1 cX11_laysTerms RX11 none false ll_mN ll_mR ll_mK ll_cnt L xs false 16 (.inl (lo_ast 17 0)) := lk_iast (by decide +kernel)
theorem k_178_17 (L : Nat) (xs : Nat → Int32) : ll_OK1 cX11_laysTerms RX11 none false ll_mN ll_mR ll_mK ll_cnt L xs false 17 (.inl (lo_push 18 (.int 0))) := lk_iconst (n := 0) (by decide +kernel) (by decide)
theorem k_178_18 (L : Nat) (xs : Nat → Int32) : ll_OK1 cX11_laysTerms RX11 none false ll_mN ll_mR ll_mK ll_cnt L xs false 18 (.inl (lo_istore 19 3)) := lk_istore_n (k := 3) (by decide +kernel) rfl
theorem k_178_19 (L : Nat) (xs : Nat → Int32) : ll_OK1 cX11_laysTerms RX11 none false ll_mN ll_mR ll_mK ll_cnt L xs false 19 (.inl (lo_iload 20 3)) := lk_iload_n (k := 3) (by decide +kernel) rfl
theorem k_178_20 (L : Nat) (xs : Nat → Int32) : ll_OK1 cX11_laysTerms RX11 none false ll_mN ll_mR ll_mK ll_cnt L xs false 20 (.inl (lo_aload 21 0)) := lk_aload_n (k := 0) (by decide +kernel) rfl
theorem k_178_21 (L : Nat) (xs : Nat → Int32) : ll_OK1 cX11_laysTerms RX11 none false ll_mN ll_mR ll_mK ll_cnt L xs false 21 (.inl (lo_getf 24 11 35)) := lk_getf (ix := 89) (ci := 11) (k := 35) (C := RX11) (T := TX11) (N := 46) (by decide +kernel) rfl in_11 (by decide) tb_632
theorem k_178_24 (L : Nat) (xs : Nat → Int32) : ll_OK1 cX11_laysTerms RX11 none false ll_mN ll_mR ll_mK ll_cnt L xs false 24 (.inl (lo_iload 25 1)) := lk_iload_n (k := 1) (by decide +kernel) rfl
theorem k_178_25 (L : Nat) (xs : Nat → Int32) : ll_OK1 cX11_laysTerms RX11 none false ll_mN ll_mR ll_mK ll_cnt L xs false 25 (.inl (lo_ald 26 0)) := lk_iald (by decide +kernel)
theorem k_178_26 (L : Nat) (xs : Nat → Int32) : ll_OK1 cX11_laysTerms RX11 none false ll_mN ll_mR ll_mK ll_cnt L xs false 26 (.inl (lo_cmp 58 29 (fun x y => decide (y ≤ x)))) := lk_icmp_ge (off := 32) (by decide +kernel) rfl
theorem k_178_29 (L : Nat) (xs : Nat → Int32) : ll_OK1 cX11_laysTerms RX11 none false ll_mN ll_mR ll_mK ll_cnt L xs false 29 (.inl (lo_push 30 (.int 0))) := lk_iconst (n := 0) (by decide +kernel) (by decide)
theorem k_178_30 (L : Nat) (xs : Nat → Int32) : ll_OK1 cX11_laysTerms RX11 none false ll_mN ll_mR ll_mK ll_cnt L xs false 30 (.inl (lo_istore 32 4)) := lk_istore (by decide +kernel)
theorem k_178_32 (L : Nat) (xs : Nat → Int32) : ll_OK1 cX11_laysTerms RX11 none false ll_mN ll_mR ll_mK ll_cnt L xs false 32 (.inl (lo_iload 34 4)) := lk_iload (by decide +kernel)
theorem k_178_34 (L : Nat) (xs : Nat → Int32) : ll_OK1 cX11_laysTerms RX11 none false ll_mN ll_mR ll_mK ll_cnt L xs false 34 (.inl (lo_push 35 (.int 3))) := lk_iconst (n := 3) (by decide +kernel) (by decide)
theorem k_178_35 (L : Nat) (xs : Nat → Int32) : ll_OK1 cX11_laysTerms RX11 none false ll_mN ll_mR ll_mK ll_cnt L xs false 35 (.inl (lo_cmp 52 38 (fun x y => decide (y ≤ x)))) := lk_icmp_ge (off := 17) (by decide +kernel) rfl
theorem k_178_38 (L : Nat) (xs : Nat → Int32) : ll_OK1 cX11_laysTerms RX11 none false ll_mN ll_mR ll_mK ll_cnt L xs false 38 (.inl (lo_aload 39 0)) := lk_aload_n (k := 0) (by decide +kernel) rfl
theorem k_178_39 (L : Nat) (xs : Nat → Int32) : ll_OK1 cX11_laysTerms RX11 none false ll_mN ll_mR ll_mK ll_cnt L xs false 39 (.inl (lo_iload 40 1)) := lk_iload_n (k := 1) (by decide +kernel) rfl
theorem k_178_40 (L : Nat) (xs : Nat → Int32) : ll_OK1 cX11_laysTerms RX11 none false ll_mN ll_mR ll_mK ll_cnt L xs false 40 (.inl (lo_iload 41 3)) := lk_iload_n (k := 3) (by decide +kernel) rfl
theorem k_178_41 (L : Nat) (xs : Nat → Int32) : ll_OK1 cX11_laysTerms RX11 none false ll_mN ll_mR ll_mK ll_cnt L xs false 41 (.inl (lo_iload 43 4)) := lk_iload (by decide +kernel)
theorem k_178_43 (L : Nat) (xs : Nat → Int32) : ll_OK1 cX11_laysTerms RX11 none false ll_mN ll_mR ll_mK ll_cnt L xs false 43 (.inr (.inl (179, 4, 46))) := ⟨rfl, by decide, by rw [mN_179, mK_179, mR_179]; exact lj_v 216 3 11 (RX11, TX11, 46) (by decide +kernel) tb_714 tb_715 tb_716 rfl rfl rfl rfl (by decide +kernel)⟩
theorem k_178_46 (L : Nat) (xs : Nat → Int32) : ll_OK1 cX11_laysTerms RX11 none false ll_mN ll_mR ll_mK ll_cnt L xs false 46 (.inl (lo_iinc 49 4 1)) := lk_iinc (n := 1) (by decide +kernel) (by decide)
theorem k_178_49 (L : Nat) (xs : Nat → Int32) : ll_OK1 cX11_laysTerms RX11 none false ll_mN ll_mR ll_mK ll_cnt L xs false 49 (.inl (lo_goto 32)) := lk_goto (off := (-17)) (by decide +kernel) rfl
theorem k_178_52 (L : Nat) (xs : Nat → Int32) : ll_OK1 cX11_laysTerms RX11 none false ll_mN ll_mR ll_mK ll_cnt L xs false 52 (.inl (lo_iinc 55 3 1)) := lk_iinc (n := 1) (by decide +kernel) (by decide)
theorem k_178_55 (L : Nat) (xs : Nat → Int32) : ll_OK1 cX11_laysTerms RX11 none false ll_mN ll_mR ll_mK ll_cnt L xs false 55 (.inl (lo_goto 19)) := lk_goto (off := (-36)) (by decide +kernel) rfl
theorem k_178_58 (L : Nat) (xs : Nat → Int32) : ll_OK1 cX11_laysTerms RX11 none false ll_mN ll_mR ll_mK ll_cnt L xs false 58 (.inr (.inr 0)) := ⟨fun _ => ⟨(by decide +kernel), rfl⟩, (fun h => by cases h), fun h => by cases h⟩
theorem ok_178 (L : Nat) (xs : Nat → Int32) : ∀ q ∈ cd_178, ll_OK1 cX11_laysTerms RX11 none false ll_mN ll_mR ll_mK ll_cnt L xs false q.1 q.2 :=
  List.forall_mem_cons.mpr ⟨k_178_0 L xs, List.forall_mem_cons.mpr ⟨k_178_1 L xs, List.forall_mem_cons.mpr ⟨k_178_4 L xs, List.forall_mem_cons.mpr ⟨k_178_6 L xs, List.forall_mem_cons.mpr ⟨k_178_7 L xs, List.forall_mem_cons.mpr ⟨k_178_8 L xs, List.forall_mem_cons.mpr ⟨k_178_9 L xs, List.forall_mem_cons.mpr ⟨k_178_10 L xs, List.forall_mem_cons.mpr ⟨k_178_11 L xs, List.forall_mem_cons.mpr ⟨k_178_14 L xs, List.forall_mem_cons.mpr ⟨k_178_15 L xs, List.forall_mem_cons.mpr ⟨k_178_16 L xs, List.forall_mem_cons.mpr ⟨k_178_17 L xs, List.forall_mem_cons.mpr ⟨k_178_18 L xs, List.forall_mem_cons.mpr ⟨k_178_19 L xs, List.forall_mem_cons.mpr ⟨k_178_20 L xs, List.forall_mem_cons.mpr ⟨k_178_21 L xs, List.forall_mem_cons.mpr ⟨k_178_24 L xs, List.forall_mem_cons.mpr ⟨k_178_25 L xs, List.forall_mem_cons.mpr ⟨k_178_26 L xs, List.forall_mem_cons.mpr ⟨k_178_29 L xs, List.forall_mem_cons.mpr ⟨k_178_30 L xs, List.forall_mem_cons.mpr ⟨k_178_32 L xs, List.forall_mem_cons.mpr ⟨k_178_34 L xs, List.forall_mem_cons.mpr ⟨k_178_35 L xs, List.forall_mem_cons.mpr ⟨k_178_38 L xs, List.forall_mem_cons.mpr ⟨k_178_39 L xs, List.forall_mem_cons.mpr ⟨k_178_40 L xs, List.forall_mem_cons.mpr ⟨k_178_41 L xs, List.forall_mem_cons.mpr ⟨k_178_43 L xs, List.forall_mem_cons.mpr ⟨k_178_46 L xs, List.forall_mem_cons.mpr ⟨k_178_49 L xs, List.forall_mem_cons.mpr ⟨k_178_52 L xs, List.forall_mem_cons.mpr ⟨k_178_55 L xs, List.forall_mem_cons.mpr ⟨k_178_58 L xs, fun _ h => absurd h List.not_mem_nil⟩⟩⟩⟩⟩⟩⟩⟩⟩⟩⟩⟩⟩⟩⟩⟩⟩⟩⟩⟩⟩⟩⟩⟩⟩⟩⟩⟩⟩⟩⟩⟩⟩⟩⟩
/-- InclusionProverModel.laysRow.(III)V -/
def cd_179 : List (Nat × ll_O) := [
  (0, .inl (lo_aload 1 0)),
  (1, .inl (lo_getf 4 11 34)),
  (4, .inl (lo_push 6 (.int 31))),
  (6, .inl (lo_iload 7 1)),
  (7, .inl (lo_bin 8 (fun x y => x * y))),
  (8, .inl (lo_iload 9 2)),
  (9, .inl (lo_bin 10 (fun x y => x + y))),
  (10, .inl (lo_ald 11 0)),
  (11, .inl (lo_istore 13 4)),
  (13, .inl (lo_aload 14 0)),
  (14, .inl (lo_iload 16 4)),
  (16, .inl (lo_iload 17 3)),
  (17, .inr (.inl (176, 3, 20))),
  (20, .inl (lo_push 21 (.int 3))),
  (21, .inl (lo_push 23 (.int 31))),
  (23, .inl (lo_iload 24 1)),
  (24, .inl (lo_bin 25 (fun x y => x * y))),
  (25, .inl (lo_iload 26 2)),
  (26, .inl (lo_bin 27 (fun x y => x + y))),
  (27, .inl (lo_bin 28 (fun x y => x * y))),
  (28, .inl (lo_iload 29 3)),
  (29, .inl (lo_bin 30 (fun x y => x + y))),
  (30, .inl (lo_istore 32 5)),
  (32, .inl (lo_aload 33 0)),
  (33, .inl (lo_getf 36 11 36)),
  (36, .inl (lo_iload 38 5)),
  (38, .inl (lo_push 39 (.int 0))),
  (39, .inl (lo_ast 40 0)),
  (40, .inl (lo_aload 41 0)),
  (41, .inl (lo_getf 44 11 38)),
  (44, .inl (lo_iload 46 5)),
  (46, .inl (lo_aload 47 0)),
  (47, .inl (lo_getf 50 11 15)),
  (50, .inl (lo_push 51 (.int 3))),
  (51, .inl (lo_iload 53 4)),
  (53, .inl (lo_bin 54 (fun x y => x * y))),
  (54, .inl (lo_iload 55 3)),
  (55, .inl (lo_bin 56 (fun x y => x + y))),
  (56, .inl (lo_ald 57 0)),
  (57, .inl (lo_ast 58 0)),
  (58, .inl (lo_push 59 (.int 0))),
  (59, .inl (lo_istore 61 6)),
  (61, .inl (lo_iload 63 6)),
  (63, .inl (lo_aload 64 0)),
  (64, .inl (lo_getf 67 11 15)),
  (67, .inl (lo_push 68 (.int 3))),
  (68, .inl (lo_iload 70 4)),
  (70, .inl (lo_bin 71 (fun x y => x * y))),
  (71, .inl (lo_iload 72 3)),
  (72, .inl (lo_bin 73 (fun x y => x + y))),
  (73, .inl (lo_ald 74 0)),
  (74, .inl (lo_cmp 170 77 (fun x y => decide (y ≤ x)))),
  (77, .inl (lo_aload 78 0)),
  (78, .inl (lo_iload 80 4)),
  (80, .inl (lo_iload 81 3)),
  (81, .inl (lo_iload 83 6)),
  (83, .inr (.inl (173, 4, 86))),
  (86, .inl (lo_istore 88 7)),
  (88, .inl (lo_aload 89 0)),
  (89, .inl (lo_iload 90 1)),
  (90, .inl (lo_iload 92 7)),
  (92, .inr (.inl (177, 3, 95))),
  (95, .inl (lo_istore 97 8)),
  (97, .inl (lo_iload 99 8)),
  (99, .inl (lo_push 100 (.int (-1)))),
  (100, .inl (lo_cmp 135 103 (fun x y => decide (¬ x = y)))),
  (103, .inl (lo_aload 104 0)),
  (104, .inl (lo_getf 107 11 35)),
  (107, .inl (lo_iload 108 1)),
  (108, .inl (lo_ald 109 0)),
  (109, .inl (lo_istore 111 8)),
  (111, .inl (lo_aload 112 0)),
  (112, .inl (lo_getf 115 11 34)),
  (115, .inl (lo_push 117 (.int 31))),
  (117, .inl (lo_iload 118 1)),
  (118, .inl (lo_bin 119 (fun x y => x * y))),
  (119, .inl (lo_iload 121 8)),
  (121, .inl (lo_bin 122 (fun x y => x + y))),
  (122, .inl (lo_iload 124 7)),
  (124, .inl (lo_ast 125 0)),
  (125, .inl (lo_aload 126 0)),
  (126, .inl (lo_getf 129 11 35)),
  (129, .inl (lo_iload 130 1)),
  (130, .inl (lo_dup2 131)),
  (131, .inl (lo_ald 132 0)),
  (132, .inl (lo_push 133 (.int 1))),
  (133, .inl (lo_bin 134 (fun x y => x + y))),
  (134, .inl (lo_ast 135 0)),
  (135, .inl (lo_aload 136 0)),
  (136, .inl (lo_getf 139 11 37)),
  (139, .inl (lo_push 141 (.int 31))),
  (141, .inl (lo_iload 143 5)),
  (143, .inl (lo_bin 144 (fun x y => x * y))),
  (144, .inl (lo_iload 146 6)),
  (146, .inl (lo_bin 147 (fun x y => x + y))),
  (147, .inl (lo_iload 149 8)),
  (149, .inl (lo_ast 150 0)),
  (150, .inl (lo_aload 151 0)),
  (151, .inl (lo_getf 154 11 36)),
  (154, .inl (lo_iload 156 5)),
  (156, .inl (lo_dup2 157)),
  (157, .inl (lo_ald 158 0)),
  (158, .inl (lo_push 159 (.int 1))),
  (159, .inl (lo_iload 161 8)),
  (161, .inl (lo_bin 162 (fun x y => x <<< (y &&& 31)))),
  (162, .inl (lo_bin 163 (fun x y => x ||| y))),
  (163, .inl (lo_ast 164 0)),
  (164, .inl (lo_iinc 167 6 1)),
  (167, .inl (lo_goto 61)),
  (170, .inr (.inr 0))]
theorem k_179_0 (L : Nat) (xs : Nat → Int32) : ll_OK1 cX11_laysRow RX11 none false ll_mN ll_mR ll_mK ll_cnt L xs false 0 (.inl (lo_aload 1 0)) := lk_aload_n (k := 0) (by decide +kernel) rfl
theorem k_179_1 (L : Nat) (xs : Nat → Int32) : ll_OK1 cX11_laysRow RX11 none false ll_mN ll_mR ll_mK ll_cnt L xs false 1 (.inl (lo_getf 4 11 34)) := lk_getf (ix := 86) (ci := 11) (k := 34) (C := RX11) (T := TX11) (N := 46) (by decide +kernel) rfl in_11 (by decide) tb_631
theorem k_179_4 (L : Nat) (xs : Nat → Int32) : ll_OK1 cX11_laysRow RX11 none false ll_mN ll_mR ll_mK ll_cnt L xs false 4 (.inl (lo_push 6 (.int 31))) := lk_bipush (n := 31) (by decide +kernel) (by decide)
theorem k_179_6 (L : Nat) (xs : Nat → Int32) : ll_OK1 cX11_laysRow RX11 none false ll_mN ll_mR ll_mK ll_cnt L xs false 6 (.inl (lo_iload 7 1)) := lk_iload_n (k := 1) (by decide +kernel) rfl
theorem k_179_7 (L : Nat) (xs : Nat → Int32) : ll_OK1 cX11_laysRow RX11 none false ll_mN ll_mR ll_mK ll_cnt L xs false 7 (.inl (lo_bin 8 (fun x y => x * y))) := lk_imul (by decide +kernel)
theorem k_179_8 (L : Nat) (xs : Nat → Int32) : ll_OK1 cX11_laysRow RX11 none false ll_mN ll_mR ll_mK ll_cnt L xs false 8 (.inl (lo_iload 9 2)) := lk_iload_n (k := 2) (by decide +kernel) rfl
theorem k_179_9 (L : Nat) (xs : Nat → Int32) : ll_OK1 cX11_laysRow RX11 none false ll_mN ll_mR ll_mK ll_cnt L xs false 9 (.inl (lo_bin 10 (fun x y => x + y))) := lk_iadd (by decide +kernel)
theorem k_179_10 (L : Nat) (xs : Nat → Int32) : ll_OK1 cX11_laysRow RX11 none false ll_mN ll_mR ll_mK ll_cnt L xs false 10 (.inl (lo_ald 11 0)) := lk_iald (by decide +kernel)
theorem k_179_11 (L : Nat) (xs : Nat → Int32) : ll_OK1 cX11_laysRow RX11 none false ll_mN ll_mR ll_mK ll_cnt L xs false 11 (.inl (lo_istore 13 4)) := lk_istore (by decide +kernel)
theorem k_179_13 (L : Nat) (xs : Nat → Int32) : ll_OK1 cX11_laysRow RX11 none false ll_mN ll_mR ll_mK ll_cnt L xs false 13 (.inl (lo_aload 14 0)) := lk_aload_n (k := 0) (by decide +kernel) rfl
theorem k_179_14 (L : Nat) (xs : Nat → Int32) : ll_OK1 cX11_laysRow RX11 none false ll_mN ll_mR ll_mK ll_cnt L xs false 14 (.inl (lo_iload 16 4)) := lk_iload (by decide +kernel)
theorem k_179_16 (L : Nat) (xs : Nat → Int32) : ll_OK1 cX11_laysRow RX11 none false ll_mN ll_mR ll_mK ll_cnt L xs false 16 (.inl (lo_iload 17 3)) := lk_iload_n (k := 3) (by decide +kernel) rfl
theorem k_179_17 (L : Nat) (xs : Nat → Int32) : ll_OK1 cX11_laysRow RX11 none false ll_mN ll_mR ll_mK ll_cnt L xs false 17 (.inr (.inl (176, 3, 20))) := ⟨rfl, by decide, by rw [mN_176, mK_176, mR_176]; exact lj_v 219 2 11 (RX11, TX11, 46) (by decide +kernel) tb_717 tb_718 tb_719 rfl rfl rfl rfl (by decide +kernel)⟩
theorem k_179_20 (L : Nat) (xs : Nat → Int32) : ll_OK1 cX11_laysRow RX11 none false ll_mN ll_mR ll_mK ll_cnt L xs false 20 (.inl (lo_push 21 (.int 3))) := lk_iconst (n := 3) (by decide +kernel) (by decide)
theorem k_179_21 (L : Nat) (xs : Nat → Int32) : ll_OK1 cX11_laysRow RX11 none false ll_mN ll_mR ll_mK ll_cnt L xs false 21 (.inl (lo_push 23 (.int 31))) := lk_bipush (n := 31) (by decide +kernel) (by decide)
theorem k_179_23 (L : Nat) (xs : Nat → Int32) : ll_OK1 cX11_laysRow RX11 none false ll_mN ll_mR ll_mK ll_cnt L xs false 23 (.inl (lo_iload 24 1)) := lk_iload_n (k := 1) (by decide +kernel) rfl
theorem k_179_24 (L : Nat) (xs : Nat → Int32) : ll_OK1 cX11_laysRow RX11 none false ll_mN ll_mR ll_mK ll_cnt L xs false 24 (.inl (lo_bin 25 (fun x y => x * y))) := lk_imul (by decide +kernel)
theorem k_179_25 (L : Nat) (xs : Nat → Int32) : ll_OK1 cX11_laysRow RX11 none false ll_mN ll_mR ll_mK ll_cnt L xs false 25 (.inl (lo_iload 26 2)) := lk_iload_n (k := 2) (by decide +kernel) rfl
theorem k_179_26 (L : Nat) (xs : Nat → Int32) : ll_OK1 cX11_laysRow RX11 none false ll_mN ll_mR ll_mK ll_cnt L xs false 26 (.inl (lo_bin 27 (fun x y => x + y))) := lk_iadd (by decide +kernel)
theorem k_179_27 (L : Nat) (xs : Nat → Int32) : ll_OK1 cX11_laysRow RX11 none false ll_mN ll_mR ll_mK ll_cnt L xs false 27 (.inl (lo_bin 28 (fun x y => x * y))) := lk_imul (by decide +kernel)
theorem k_179_28 (L : Nat) (xs : Nat → Int32) : ll_OK1 cX11_laysRow RX11 none false ll_mN ll_mR ll_mK ll_cnt L xs false 28 (.inl (lo_iload 29 3)) := lk_iload_n (k := 3) (by decide +kernel) rfl
theorem k_179_29 (L : Nat) (xs : Nat → Int32) : ll_OK1 cX11_laysRow RX11 none false ll_mN ll_mR ll_mK ll_cnt L xs false 29 (.inl (lo_bin 30 (fun x y => x + y))) := lk_iadd (by decide +kernel)
theorem k_179_30 (L : Nat) (xs : Nat → Int32) : ll_OK1 cX11_laysRow RX11 none false ll_mN ll_mR ll_mK ll_cnt L xs false 30 (.inl (lo_istore 32 5)) := lk_istore (by decide +kernel)
theorem k_179_32 (L : Nat) (xs : Nat → Int32) : ll_OK1 cX11_laysRow RX11 none false ll_mN ll_mR ll_mK ll_cnt L xs false 32 (.inl (lo_aload 33 0)) := lk_aload_n (k := 0) (by decide +kernel) rfl
theorem k_179_33 (L : Nat) (xs : Nat → Int32) : ll_OK1 cX11_laysRow RX11 none false ll_mN ll_mR ll_mK ll_cnt L xs false 33 (.inl (lo_getf 36 11 36)) := lk_getf (ix := 92) (ci := 11) (k := 36) (C := RX11) (T := TX11) (N := 46) (by decide +kernel) rfl in_11 (by decide) tb_633
theorem k_179_36 (L : Nat) (xs : Nat → Int32) : ll_OK1 cX11_laysRow RX11 none false ll_mN ll_mR ll_mK ll_cnt L xs false 36 (.inl (lo_iload 38 5)) := lk_iload (by decide +kernel)
theorem k_179_38 (L : Nat) (xs : Nat → Int32) : ll_OK1 cX11_laysRow RX11 none false ll_mN ll_mR ll_mK ll_cnt L xs false 38 (.inl (lo_push 39 (.int 0))) := lk_iconst (n := 0) (by decide +kernel) (by decide)
theorem k_179_39 (L : Nat) (xs : Nat → Int32) : ll_OK1 cX11_laysRow RX11 none false ll_mN ll_mR ll_mK ll_cnt L xs false 39 (.inl (lo_ast 40 0)) := lk_iast (by decide +kernel)
theorem k_179_40 (L : Nat) (xs : Nat → Int32) : ll_OK1 cX11_laysRow RX11 none false ll_mN ll_mR ll_mK ll_cnt L xs false 40 (.inl (lo_aload 41 0)) := lk_aload_n (k := 0) (by decide +kernel) rfl
theorem k_179_41 (L : Nat) (xs : Nat → Int32) : ll_OK1 cX11_laysRow RX11 none false ll_mN ll_mR ll_mK ll_cnt L xs false 41 (.inl (lo_getf 44 11 38)) := lk_getf (ix := 98) (ci := 11) (k := 38) (C := RX11) (T := TX11) (N := 46) (by decide +kernel) rfl in_11 (by decide) tb_635
theorem k_179_44 (L : Nat) (xs : Nat → Int32) : ll_OK1 cX11_laysRow RX11 none false ll_mN ll_mR ll_mK ll_cnt L xs false 44 (.inl (lo_iload 46 5)) := lk_iload (by decide +kernel)
theorem k_179_46 (L : Nat) (xs : Nat → Int32) : ll_OK1 cX11_laysRow RX11 none false ll_mN ll_mR ll_mK ll_cnt L xs false 46 (.inl (lo_aload 47 0)) := lk_aload_n (k := 0) (by decide +kernel) rfl
theorem k_179_47 (L : Nat) (xs : Nat → Int32) : ll_OK1 cX11_laysRow RX11 none false ll_mN ll_mR ll_mK ll_cnt L xs false 47 (.inl (lo_getf 50 11 15)) := lk_getf (ix := 49) (ci := 11) (k := 15) (C := RX11) (T := TX11) (N := 46) (by decide +kernel) rfl in_11 (by decide) tb_618
theorem k_179_50 (L : Nat) (xs : Nat → Int32) : ll_OK1 cX11_laysRow RX11 none false ll_mN ll_mR ll_mK ll_cnt L xs false 50 (.inl (lo_push 51 (.int 3))) := lk_iconst (n := 3) (by decide +kernel) (by decide)
theorem k_179_51 (L : Nat) (xs : Nat → Int32) : ll_OK1 cX11_laysRow RX11 none false ll_mN ll_mR ll_mK ll_cnt L xs false 51 (.inl (lo_iload 53 4)) := lk_iload (by decide +kernel)
theorem k_179_53 (L : Nat) (xs : Nat → Int32) : ll_OK1 cX11_laysRow RX11 none false ll_mN ll_mR ll_mK ll_cnt L xs false 53 (.inl (lo_bin 54 (fun x y => x * y))) := lk_imul (by decide +kernel)
theorem k_179_54 (L : Nat) (xs : Nat → Int32) : ll_OK1 cX11_laysRow RX11 none false ll_mN ll_mR ll_mK ll_cnt L xs false 54 (.inl (lo_iload 55 3)) := lk_iload_n (k := 3) (by decide +kernel) rfl
theorem k_179_55 (L : Nat) (xs : Nat → Int32) : ll_OK1 cX11_laysRow RX11 none false ll_mN ll_mR ll_mK ll_cnt L xs false 55 (.inl (lo_bin 56 (fun x y => x + y))) := lk_iadd (by decide +kernel)
theorem k_179_56 (L : Nat) (xs : Nat → Int32) : ll_OK1 cX11_laysRow RX11 none false ll_mN ll_mR ll_mK ll_cnt L xs false 56 (.inl (lo_ald 57 0)) := lk_iald (by decide +kernel)
theorem k_179_57 (L : Nat) (xs : Nat → Int32) : ll_OK1 cX11_laysRow RX11 none false ll_mN ll_mR ll_mK ll_cnt L xs false 57 (.inl (lo_ast 58 0)) := lk_iast (by decide +kernel)
theorem k_179_58 (L : Nat) (xs : Nat → Int32) : ll_OK1 cX11_laysRow RX11 none false ll_mN ll_mR ll_mK ll_cnt L xs false 58 (.inl (lo_push 59 (.int 0))) := lk_iconst (n := 0) (by decide +kernel) (by decide)
theorem k_179_59 (L : Nat) (xs : Nat → Int32) : ll_OK1 cX11_laysRow RX11 none false ll_mN ll_mR ll_mK ll_cnt L xs false 59 (.inl (lo_istore 61 6)) := lk_istore (by decide +kernel)
theorem k_179_61 (L : Nat) (xs : Nat → Int32) : ll_OK1 cX11_laysRow RX11 none false ll_mN ll_mR ll_mK ll_cnt L xs false 61 (.inl (lo_iload 63 6)) := lk_iload (by decide +kernel)
theorem k_179_63 (L : Nat) (xs : Nat → Int32) : ll_OK1 cX11_laysRow RX11 none false ll_mN ll_mR ll_mK ll_cnt L xs false 63 (.inl (lo_aload 64 0)) := lk_aload_n (k := 0) (by decide +kernel) rfl
theorem k_179_64 (L : Nat) (xs : Nat → Int32) : ll_OK1 cX11_laysRow RX11 none false ll_mN ll_mR ll_mK ll_cnt L xs false 64 (.inl (lo_getf 67 11 15)) := lk_getf (ix := 49) (ci := 11) (k := 15) (C := RX11) (T := TX11) (N := 46) (by decide +kernel) rfl in_11 (by decide) tb_618
theorem k_179_67 (L : Nat) (xs : Nat → Int32) : ll_OK1 cX11_laysRow RX11 none false ll_mN ll_mR ll_mK ll_cnt L xs false 67 (.inl (lo_push 68 (.int 3))) := lk_iconst (n := 3) (by decide +kernel) (by decide)
theorem k_179_68 (L : Nat) (xs : Nat → Int32) : ll_OK1 cX11_laysRow RX11 none false ll_mN ll_mR ll_mK ll_cnt L xs false 68 (.inl (lo_iload 70 4)) := lk_iload (by decide +kernel)
theorem k_179_70 (L : Nat) (xs : Nat → Int32) : ll_OK1 cX11_laysRow RX11 none false ll_mN ll_mR ll_mK ll_cnt L xs false 70 (.inl (lo_bin 71 (fun x y => x * y))) := lk_imul (by decide +kernel)
theorem k_179_71 (L : Nat) (xs : Nat → Int32) : ll_OK1 cX11_laysRow RX11 none false ll_mN ll_mR ll_mK ll_cnt L xs false 71 (.inl (lo_iload 72 3)) := lk_iload_n (k := 3) (by decide +kernel) rfl
theorem k_179_72 (L : Nat) (xs : Nat → Int32) : ll_OK1 cX11_laysRow RX11 none false ll_mN ll_mR ll_mK ll_cnt L xs false 72 (.inl (lo_bin 73 (fun x y => x + y))) := lk_iadd (by decide +kernel)
theorem k_179_73 (L : Nat) (xs : Nat → Int32) : ll_OK1 cX11_laysRow RX11 none false ll_mN ll_mR ll_mK ll_cnt L xs false 73 (.inl (lo_ald 74 0)) := lk_iald (by decide +kernel)
theorem k_179_74 (L : Nat) (xs : Nat → Int32) : ll_OK1 cX11_laysRow RX11 none false ll_mN ll_mR ll_mK ll_cnt L xs false 74 (.inl (lo_cmp 170 77 (fun x y => decide (y ≤ x)))) := lk_icmp_ge (off := 96) (by decide +kernel) rfl
theorem k_179_77 (L : Nat) (xs : Nat → Int32) : ll_OK1 cX11_laysRow RX11 none false ll_mN ll_mR ll_mK ll_cnt L xs false 77 (.inl (lo_aload 78 0)) := lk_aload_n (k := 0) (by decide +kernel) rfl
theorem k_179_78 (L : Nat) (xs : Nat → Int32) : ll_OK1 cX11_laysRow RX11 none false ll_mN ll_mR ll_mK ll_cnt L xs false 78 (.inl (lo_iload 80 4)) := lk_iload (by decide +kernel)
theorem k_179_80 (L : Nat) (xs : Nat → Int32) : ll_OK1 cX11_laysRow RX11 none false ll_mN ll_mR ll_mK ll_cnt L xs false 80 (.inl (lo_iload 81 3)) := lk_iload_n (k := 3) (by decide +kernel) rfl
theorem k_179_81 (L : Nat) (xs : Nat → Int32) : ll_OK1 cX11_laysRow RX11 none false ll_mN ll_mR ll_mK ll_cnt L xs false 81 (.inl (lo_iload 83 6)) := lk_iload (by decide +kernel)
theorem k_179_83 (L : Nat) (xs : Nat → Int32) : ll_OK1 cX11_laysRow RX11 none false ll_mN ll_mR ll_mK ll_cnt L xs false 83 (.inr (.inl (173, 4, 86))) := ⟨rfl, by decide, by rw [mN_173, mK_173, mR_173]; exact lj_v 204 3 11 (RX11, TX11, 46) (by decide +kernel) tb_702 tb_703 tb_704 rfl rfl rfl rfl (by decide +kernel)⟩
theorem k_179_86 (L : Nat) (xs : Nat → Int32) : ll_OK1 cX11_laysRow RX11 none false ll_mN ll_mR ll_mK ll_cnt L xs false 86 (.inl (lo_istore 88 7)) := lk_istore (by decide +kernel)
theorem k_179_88 (L : Nat) (xs : Nat → Int32) : ll_OK1 cX11_laysRow RX11 none false ll_mN ll_mR ll_mK ll_cnt L xs false 88 (.inl (lo_aload 89 0)) := lk_aload_n (k := 0) (by decide +kernel) rfl
theorem k_179_89 (L : Nat) (xs : Nat → Int32) : ll_OK1 cX11_laysRow RX11 none false ll_mN ll_mR ll_mK ll_cnt L xs false 89 (.inl (lo_iload 90 1)) := lk_iload_n (k := 1) (by decide +kernel) rfl
theorem k_179_90 (L : Nat) (xs : Nat → Int32) : ll_OK1 cX11_laysRow RX11 none false ll_mN ll_mR ll_mK ll_cnt L xs false 90 (.inl (lo_iload 92 7)) := lk_iload (by decide +kernel)
theorem k_179_92 (L : Nat) (xs : Nat → Int32) : ll_OK1 cX11_laysRow RX11 none false ll_mN ll_mR ll_mK ll_cnt L xs false 92 (.inr (.inl (177, 3, 95))) := ⟨rfl, by decide, by rw [mN_177, mK_177, mR_177]; exact lj_v 222 2 11 (RX11, TX11, 46) (by decide +kernel) tb_720 tb_721 tb_722 rfl rfl rfl rfl (by decide +kernel)⟩
theorem k_179_95 (L : Nat) (xs : Nat → Int32) : ll_OK1 cX11_laysRow RX11 none false ll_mN ll_mR ll_mK ll_cnt L xs false 95 (.inl (lo_istore 97 8)) := lk_istore (by decide +kernel)
theorem k_179_97 (L : Nat) (xs : Nat → Int32) : ll_OK1 cX11_laysRow RX11 none false ll_mN ll_mR ll_mK ll_cnt L xs false 97 (.inl (lo_iload 99 8)) := lk_iload (by decide +kernel)
theorem k_179_99 (L : Nat) (xs : Nat → Int32) : ll_OK1 cX11_laysRow RX11 none false ll_mN ll_mR ll_mK ll_cnt L xs false 99 (.inl (lo_push 100 (.int (-1)))) := lk_iconst (n := (-1)) (by decide +kernel) (by decide)
theorem k_179_100 (L : Nat) (xs : Nat → Int32) : ll_OK1 cX11_laysRow RX11 none false ll_mN ll_mR ll_mK ll_cnt L xs false 100 (.inl (lo_cmp 135 103 (fun x y => decide (¬ x = y)))) := lk_icmp_ne (off := 35) (by decide +kernel) rfl
theorem k_179_103 (L : Nat) (xs : Nat → Int32) : ll_OK1 cX11_laysRow RX11 none false ll_mN ll_mR ll_mK ll_cnt L xs false 103 (.inl (lo_aload 104 0)) := lk_aload_n (k := 0) (by decide +kernel) rfl
theorem k_179_104 (L : Nat) (xs : Nat → Int32) : ll_OK1 cX11_laysRow RX11 none false ll_mN ll_mR ll_mK ll_cnt L xs false 104 (.inl (lo_getf 107 11 35)) := lk_getf (ix := 89) (ci := 11) (k := 35) (C := RX11) (T := TX11) (N := 46) (by decide +kernel) rfl in_11 (by decide) tb_632
theorem k_179_107 (L : Nat) (xs : Nat → Int32) : ll_OK1 cX11_laysRow RX11 none false ll_mN ll_mR ll_mK ll_cnt L xs false 107 (.inl (lo_iload 108 1)) := lk_iload_n (k := 1) (by decide +kernel) rfl
theorem k_179_108 (L : Nat) (xs : Nat → Int32) : ll_OK1 cX11_laysRow RX11 none false ll_mN ll_mR ll_mK ll_cnt L xs false 108 (.inl (lo_ald 109 0)) := lk_iald (by decide +kernel)
theorem k_179_109 (L : Nat) (xs : Nat → Int32) : ll_OK1 cX11_laysRow RX11 none false ll_mN ll_mR ll_mK ll_cnt L xs false 109 (.inl (lo_istore 111 8)) := lk_istore (by decide +kernel)
theorem k_179_111 (L : Nat) (xs : Nat → Int32) : ll_OK1 cX11_laysRow RX11 none false ll_mN ll_mR ll_mK ll_cnt L xs false 111 (.inl (lo_aload 112 0)) := lk_aload_n (k := 0) (by decide +kernel) rfl
theorem k_179_112 (L : Nat) (xs : Nat → Int32) : ll_OK1 cX11_laysRow RX11 none false ll_mN ll_mR ll_mK ll_cnt L xs false 112 (.inl (lo_getf 115 11 34)) := lk_getf (ix := 86) (ci := 11) (k := 34) (C := RX11) (T := TX11) (N := 46) (by decide +kernel) rfl in_11 (by decide) tb_631
theorem k_179_115 (L : Nat) (xs : Nat → Int32) : ll_OK1 cX11_laysRow RX11 none false ll_mN ll_mR ll_mK ll_cnt L xs false 115 (.inl (lo_push 117 (.int 31))) := lk_bipush (n := 31) (by decide +kernel) (by decide)
theorem k_179_117 (L : Nat) (xs : Nat → Int32) : ll_OK1 cX11_laysRow RX11 none false ll_mN ll_mR ll_mK ll_cnt L xs false 117 (.inl (lo_iload 118 1)) := lk_iload_n (k := 1) (by decide +kernel) rfl
theorem k_179_118 (L : Nat) (xs : Nat → Int32) : ll_OK1 cX11_laysRow RX11 none false ll_mN ll_mR ll_mK ll_cnt L xs false 118 (.inl (lo_bin 119 (fun x y => x * y))) := lk_imul (by decide +kernel)
theorem k_179_119 (L : Nat) (xs : Nat → Int32) : ll_OK1 cX11_laysRow RX11 none false ll_mN ll_mR ll_mK ll_cnt L xs false 119 (.inl (lo_iload 121 8)) := lk_iload (by decide +kernel)
theorem k_179_121 (L : Nat) (xs : Nat → Int32) : ll_OK1 cX11_laysRow RX11 none false ll_mN ll_mR ll_mK ll_cnt L xs false 121 (.inl (lo_bin 122 (fun x y => x + y))) := lk_iadd (by decide +kernel)
theorem k_179_122 (L : Nat) (xs : Nat → Int32) : ll_OK1 cX11_laysRow RX11 none false ll_mN ll_mR ll_mK ll_cnt L xs false 122 (.inl (lo_iload 124 7)) := lk_iload (by decide +kernel)
theorem k_179_124 (L : Nat) (xs : Nat → Int32) : ll_OK1 cX11_laysRow RX11 none false ll_mN ll_mR ll_mK ll_cnt L xs false 124 (.inl (lo_ast 125 0)) := lk_iast (by decide +kernel)
theorem k_179_125 (L : Nat) (xs : Nat → Int32) : ll_OK1 cX11_laysRow RX11 none false ll_mN ll_mR ll_mK ll_cnt L xs false 125 (.inl (lo_aload 126 0)) := lk_aload_n (k := 0) (by decide +kernel) rfl
theorem k_179_126 (L : Nat) (xs : Nat → Int32) : ll_OK1 cX11_laysRow RX11 none false ll_mN ll_mR ll_mK ll_cnt L xs false 126 (.inl (lo_getf 129 11 35)) := lk_getf (ix := 89) (ci := 11) (k := 35) (C := RX11) (T := TX11) (N := 46) (by decide +kernel) rfl in_11 (by decide) tb_632
theorem k_179_129 (L : Nat) (xs : Nat → Int32) : ll_OK1 cX11_laysRow RX11 none false ll_mN ll_mR ll_mK ll_cnt L xs false 129 (.inl (lo_iload 130 1)) := lk_iload_n (k := 1) (by decide +kernel) rfl
theorem k_179_130 (L : Nat) (xs : Nat → Int32) : ll_OK1 cX11_laysRow RX11 none false ll_mN ll_mR ll_mK ll_cnt L xs false 130 (.inl (lo_dup2 131)) := lk_dup2 (by decide +kernel)
theorem k_179_131 (L : Nat) (xs : Nat → Int32) : ll_OK1 cX11_laysRow RX11 none false ll_mN ll_mR ll_mK ll_cnt L xs false 131 (.inl (lo_ald 132 0)) := lk_iald (by decide +kernel)
theorem k_179_132 (L : Nat) (xs : Nat → Int32) : ll_OK1 cX11_laysRow RX11 none false ll_mN ll_mR ll_mK ll_cnt L xs false 132 (.inl (lo_push 133 (.int 1))) := lk_iconst (n := 1) (by decide +kernel) (by decide)
theorem k_179_133 (L : Nat) (xs : Nat → Int32) : ll_OK1 cX11_laysRow RX11 none false ll_mN ll_mR ll_mK ll_cnt L xs false 133 (.inl (lo_bin 134 (fun x y => x + y))) := lk_iadd (by decide +kernel)
theorem k_179_134 (L : Nat) (xs : Nat → Int32) : ll_OK1 cX11_laysRow RX11 none false ll_mN ll_mR ll_mK ll_cnt L xs false 134 (.inl (lo_ast 135 0)) := lk_iast (by decide +kernel)
theorem k_179_135 (L : Nat) (xs : Nat → Int32) : ll_OK1 cX11_laysRow RX11 none false ll_mN ll_mR ll_mK ll_cnt L xs false 135 (.inl (lo_aload 136 0)) := lk_aload_n (k := 0) (by decide +kernel) rfl
theorem k_179_136 (L : Nat) (xs : Nat → Int32) : ll_OK1 cX11_laysRow RX11 none false ll_mN ll_mR ll_mK ll_cnt L xs false 136 (.inl (lo_getf 139 11 37)) := lk_getf (ix := 95) (ci := 11) (k := 37) (C := RX11) (T := TX11) (N := 46) (by decide +kernel) rfl in_11 (by decide) tb_634
theorem k_179_139 (L : Nat) (xs : Nat → Int32) : ll_OK1 cX11_laysRow RX11 none false ll_mN ll_mR ll_mK ll_cnt L xs false 139 (.inl (lo_push 141 (.int 31))) := lk_bipush (n := 31) (by decide +kernel) (by decide)
theorem k_179_141 (L : Nat) (xs : Nat → Int32) : ll_OK1 cX11_laysRow RX11 none false ll_mN ll_mR ll_mK ll_cnt L xs false 141 (.inl (lo_iload 143 5)) := lk_iload (by decide +kernel)
theorem k_179_143 (L : Nat) (xs : Nat → Int32) : ll_OK1 cX11_laysRow RX11 none false ll_mN ll_mR ll_mK ll_cnt L xs false 143 (.inl (lo_bin 144 (fun x y => x * y))) := lk_imul (by decide +kernel)
theorem k_179_144 (L : Nat) (xs : Nat → Int32) : ll_OK1 cX11_laysRow RX11 none false ll_mN ll_mR ll_mK ll_cnt L xs false 144 (.inl (lo_iload 146 6)) := lk_iload (by decide +kernel)
theorem k_179_146 (L : Nat) (xs : Nat → Int32) : ll_OK1 cX11_laysRow RX11 none false ll_mN ll_mR ll_mK ll_cnt L xs false 146 (.inl (lo_bin 147 (fun x y => x + y))) := lk_iadd (by decide +kernel)
theorem k_179_147 (L : Nat) (xs : Nat → Int32) : ll_OK1 cX11_laysRow RX11 none false ll_mN ll_mR ll_mK ll_cnt L xs false 147 (.inl (lo_iload 149 8)) := lk_iload (by decide +kernel)
theorem k_179_149 (L : Nat) (xs : Nat → Int32) : ll_OK1 cX11_laysRow RX11 none false ll_mN ll_mR ll_mK ll_cnt L xs false 149 (.inl (lo_ast 150 0)) := lk_iast (by decide +kernel)
theorem k_179_150 (L : Nat) (xs : Nat → Int32) : ll_OK1 cX11_laysRow RX11 none false ll_mN ll_mR ll_mK ll_cnt L xs false 150 (.inl (lo_aload 151 0)) := lk_aload_n (k := 0) (by decide +kernel) rfl
theorem k_179_151 (L : Nat) (xs : Nat → Int32) : ll_OK1 cX11_laysRow RX11 none false ll_mN ll_mR ll_mK ll_cnt L xs false 151 (.inl (lo_getf 154 11 36)) := lk_getf (ix := 92) (ci := 11) (k := 36) (C := RX11) (T := TX11) (N := 46) (by decide +kernel) rfl in_11 (by decide) tb_633
theorem k_179_154 (L : Nat) (xs : Nat → Int32) : ll_OK1 cX11_laysRow RX11 none false ll_mN ll_mR ll_mK ll_cnt L xs false 154 (.inl (lo_iload 156 5)) := lk_iload (by decide +kernel)
theorem k_179_156 (L : Nat) (xs : Nat → Int32) : ll_OK1 cX11_laysRow RX11 none false ll_mN ll_mR ll_mK ll_cnt L xs false 156 (.inl (lo_dup2 157)) := lk_dup2 (by decide +kernel)
theorem k_179_157 (L : Nat) (xs : Nat → Int32) : ll_OK1 cX11_laysRow RX11 none false ll_mN ll_mR ll_mK ll_cnt L xs false 157 (.inl (lo_ald 158 0)) := lk_iald (by decide +kernel)
theorem k_179_158 (L : Nat) (xs : Nat → Int32) : ll_OK1 cX11_laysRow RX11 none false ll_mN ll_mR ll_mK ll_cnt L xs false 158 (.inl (lo_push 159 (.int 1))) := lk_iconst (n := 1) (by decide +kernel) (by decide)
theorem k_179_159 (L : Nat) (xs : Nat → Int32) : ll_OK1 cX11_laysRow RX11 none false ll_mN ll_mR ll_mK ll_cnt L xs false 159 (.inl (lo_iload 161 8)) := lk_iload (by decide +kernel)
theorem k_179_161 (L : Nat) (xs : Nat → Int32) : ll_OK1 cX11_laysRow RX11 none false ll_mN ll_mR ll_mK ll_cnt L xs false 161 (.inl (lo_bin 162 (fun x y => x <<< (y &&& 31)))) := lk_ishl (by decide +kernel)
theorem k_179_162 (L : Nat) (xs : Nat → Int32) : ll_OK1 cX11_laysRow RX11 none false ll_mN ll_mR ll_mK ll_cnt L xs false 162 (.inl (lo_bin 163 (fun x y => x ||| y))) := lk_ior (by decide +kernel)
theorem k_179_163 (L : Nat) (xs : Nat → Int32) : ll_OK1 cX11_laysRow RX11 none false ll_mN ll_mR ll_mK ll_cnt L xs false 163 (.inl (lo_ast 164 0)) := lk_iast (by decide +kernel)
theorem k_179_164 (L : Nat) (xs : Nat → Int32) : ll_OK1 cX11_laysRow RX11 none false ll_mN ll_mR ll_mK ll_cnt L xs false 164 (.inl (lo_iinc 167 6 1)) := lk_iinc (n := 1) (by decide +kernel) (by decide)
theorem k_179_167 (L : Nat) (xs : Nat → Int32) : ll_OK1 cX11_laysRow RX11 none false ll_mN ll_mR ll_mK ll_cnt L xs false 167 (.inl (lo_goto 61)) := lk_goto (off := (-106)) (by decide +kernel) rfl
theorem k_179_170 (L : Nat) (xs : Nat → Int32) : ll_OK1 cX11_laysRow RX11 none false ll_mN ll_mR ll_mK ll_cnt L xs false 170 (.inr (.inr 0)) := ⟨fun _ => ⟨(by decide +kernel), rfl⟩, (fun h => by cases h), fun h => by cases h⟩
theorem ok_179 (L : Nat) (xs : Nat → Int32) : ∀ q ∈ cd_179, ll_OK1 cX11_laysRow RX11 none false ll_mN ll_mR ll_mK ll_cnt L xs false q.1 q.2 :=
  List.forall_mem_cons.mpr ⟨k_179_0 L xs, List.forall_mem_cons.mpr ⟨k_179_1 L xs, List.forall_mem_cons.mpr ⟨k_179_4 L xs, List.forall_mem_cons.mpr ⟨k_179_6 L xs, List.forall_mem_cons.mpr ⟨k_179_7 L xs, List.forall_mem_cons.mpr ⟨k_179_8 L xs, List.forall_mem_cons.mpr ⟨k_179_9 L xs, List.forall_mem_cons.mpr ⟨k_179_10 L xs, List.forall_mem_cons.mpr ⟨k_179_11 L xs, List.forall_mem_cons.mpr ⟨k_179_13 L xs, List.forall_mem_cons.mpr ⟨k_179_14 L xs, List.forall_mem_cons.mpr ⟨k_179_16 L xs, List.forall_mem_cons.mpr ⟨k_179_17 L xs, List.forall_mem_cons.mpr ⟨k_179_20 L xs, List.forall_mem_cons.mpr ⟨k_179_21 L xs, List.forall_mem_cons.mpr ⟨k_179_23 L xs, List.forall_mem_cons.mpr ⟨k_179_24 L xs, List.forall_mem_cons.mpr ⟨k_179_25 L xs, List.forall_mem_cons.mpr ⟨k_179_26 L xs, List.forall_mem_cons.mpr ⟨k_179_27 L xs, List.forall_mem_cons.mpr ⟨k_179_28 L xs, List.forall_mem_cons.mpr ⟨k_179_29 L xs, List.forall_mem_cons.mpr ⟨k_179_30 L xs, List.forall_mem_cons.mpr ⟨k_179_32 L xs, List.forall_mem_cons.mpr ⟨k_179_33 L xs, List.forall_mem_cons.mpr ⟨k_179_36 L xs, List.forall_mem_cons.mpr ⟨k_179_38 L xs, List.forall_mem_cons.mpr ⟨k_179_39 L xs, List.forall_mem_cons.mpr ⟨k_179_40 L xs, List.forall_mem_cons.mpr ⟨k_179_41 L xs, List.forall_mem_cons.mpr ⟨k_179_44 L xs, List.forall_mem_cons.mpr ⟨k_179_46 L xs, List.forall_mem_cons.mpr ⟨k_179_47 L xs, List.forall_mem_cons.mpr ⟨k_179_50 L xs, List.forall_mem_cons.mpr ⟨k_179_51 L xs, List.forall_mem_cons.mpr ⟨k_179_53 L xs, List.forall_mem_cons.mpr ⟨k_179_54 L xs, List.forall_mem_cons.mpr ⟨k_179_55 L xs, List.forall_mem_cons.mpr ⟨k_179_56 L xs, List.forall_mem_cons.mpr ⟨k_179_57 L xs, List.forall_mem_cons.mpr ⟨k_179_58 L xs, List.forall_mem_cons.mpr ⟨k_179_59 L xs, List.forall_mem_cons.mpr ⟨k_179_61 L xs, List.forall_mem_cons.mpr ⟨k_179_63 L xs, List.forall_mem_cons.mpr ⟨k_179_64 L xs, List.forall_mem_cons.mpr ⟨k_179_67 L xs, List.forall_mem_cons.mpr ⟨k_179_68 L xs, List.forall_mem_cons.mpr ⟨k_179_70 L xs, List.forall_mem_cons.mpr ⟨k_179_71 L xs, List.forall_mem_cons.mpr ⟨k_179_72 L xs, List.forall_mem_cons.mpr ⟨k_179_73 L xs, List.forall_mem_cons.mpr ⟨k_179_74 L xs, List.forall_mem_cons.mpr ⟨k_179_77 L xs, List.forall_mem_cons.mpr ⟨k_179_78 L xs, List.forall_mem_cons.mpr ⟨k_179_80 L xs, List.forall_mem_cons.mpr ⟨k_179_81 L xs, List.forall_mem_cons.mpr ⟨k_179_83 L xs, List.forall_mem_cons.mpr ⟨k_179_86 L xs, List.forall_mem_cons.mpr ⟨k_179_88 L xs, List.forall_mem_cons.mpr ⟨k_179_89 L xs, List.forall_mem_cons.mpr ⟨k_179_90 L xs, List.forall_mem_cons.mpr ⟨k_179_92 L xs, List.forall_mem_cons.mpr ⟨k_179_95 L xs, List.forall_mem_cons.mpr ⟨k_179_97 L xs, List.forall_mem_cons.mpr ⟨k_179_99 L xs, List.forall_mem_cons.mpr ⟨k_179_100 L xs, List.forall_mem_cons.mpr ⟨k_179_103 L xs, List.forall_mem_cons.mpr ⟨k_179_104 L xs, List.forall_mem_cons.mpr ⟨k_179_107 L xs, List.forall_mem_cons.mpr ⟨k_179_108 L xs, List.forall_mem_cons.mpr ⟨k_179_109 L xs, List.forall_mem_cons.mpr ⟨k_179_111 L xs, List.forall_mem_cons.mpr ⟨k_179_112 L xs, List.forall_mem_cons.mpr ⟨k_179_115 L xs, List.forall_mem_cons.mpr ⟨k_179_117 L xs, List.forall_mem_cons.mpr ⟨k_179_118 L xs, List.forall_mem_cons.mpr ⟨k_179_119 L xs, List.forall_mem_cons.mpr ⟨k_179_121 L xs, List.forall_mem_cons.mpr ⟨k_179_122 L xs, List.forall_mem_cons.mpr ⟨k_179_124 L xs, List.forall_mem_cons.mpr ⟨k_179_125 L xs, List.forall_mem_cons.mpr ⟨k_179_126 L xs, List.forall_mem_cons.mpr ⟨k_179_129 L xs, List.forall_mem_cons.mpr ⟨k_179_130 L xs, List.forall_mem_cons.mpr ⟨k_179_131 L xs, List.forall_mem_cons.mpr ⟨k_179_132 L xs, List.forall_mem_cons.mpr ⟨k_179_133 L xs, List.forall_mem_cons.mpr ⟨k_179_134 L xs, List.forall_mem_cons.mpr ⟨k_179_135 L xs, List.forall_mem_cons.mpr ⟨k_179_136 L xs, List.forall_mem_cons.mpr ⟨k_179_139 L xs, List.forall_mem_cons.mpr ⟨k_179_141 L xs, List.forall_mem_cons.mpr ⟨k_179_143 L xs, List.forall_mem_cons.mpr ⟨k_179_144 L xs, List.forall_mem_cons.mpr ⟨k_179_146 L xs, List.forall_mem_cons.mpr ⟨k_179_147 L xs, List.forall_mem_cons.mpr ⟨k_179_149 L xs, List.forall_mem_cons.mpr ⟨k_179_150 L xs, List.forall_mem_cons.mpr ⟨k_179_151 L xs, List.forall_mem_cons.mpr ⟨k_179_154 L xs, List.forall_mem_cons.mpr ⟨k_179_156 L xs, List.forall_mem_cons.mpr ⟨k_179_157 L xs, List.forall_mem_cons.mpr ⟨k_179_158 L xs, List.forall_mem_cons.mpr ⟨k_179_159 L xs, List.forall_mem_cons.mpr ⟨k_179_161 L xs, List.forall_mem_cons.mpr ⟨k_179_162 L xs, List.forall_mem_cons.mpr ⟨k_179_163 L xs, List.forall_mem_cons.mpr ⟨k_179_164 L xs, List.forall_mem_cons.mpr ⟨k_179_167 L xs, List.forall_mem_cons.mpr ⟨k_179_170 L xs, fun _ h => absurd h List.not_mem_nil⟩⟩⟩⟩⟩⟩⟩⟩⟩⟩⟩⟩⟩⟩⟩⟩⟩⟩⟩⟩⟩⟩⟩⟩⟩⟩⟩⟩⟩⟩⟩⟩⟩⟩⟩⟩⟩⟩⟩⟩⟩⟩⟩⟩⟩⟩⟩⟩⟩⟩⟩⟩⟩⟩⟩⟩⟩⟩⟩⟩⟩⟩⟩⟩⟩⟩⟩⟩⟩⟩⟩⟩⟩⟩⟩⟩⟩⟩⟩⟩⟩⟩⟩⟩⟩⟩⟩⟩⟩⟩⟩⟩⟩⟩⟩⟩⟩⟩⟩⟩⟩⟩⟩⟩⟩⟩⟩⟩⟩⟩
/-- InclusionProverModel.laysBoth.(II)V -/
def cd_180 : List (Nat × ll_O) := [
  (0, .inl (lo_aload 1 0)),
  (1, .inr (.inl (153, 1, 4))),
  (4, .inl (lo_aload 5 0)),
  (5, .inl (lo_aload 6 0)),
  (6, .inl (lo_getf 9 11 0)),
  (9, .inl (lo_iload 10 1)),
  (10, .inl (lo_push 11 (.int 1))),
  (11, .inl (lo_bin 12 (fun x y => x + y))),
  (12, .inl (lo_aload 13 0)),
  (13, .inl (lo_getf 16 11 0)),
  (16, .inl (lo_iload 17 1)),
  (17, .inl (lo_ald 18 0)),
  (18, .inr (.inl (166, 4, 21))),
  (21, .inl (lo_istore 22 3)),
  (22, .inl (lo_aload 23 0)),
  (23, .inl (lo_aload 24 0)),
  (24, .inl (lo_getf 27 11 0)),
  (27, .inl (lo_iload 28 2)),
  (28, .inl (lo_push 29 (.int 1))),
  (29, .inl (lo_bin 30 (fun x y => x + y))),
  (30, .inl (lo_aload 31 0)),
  (31, .inl (lo_getf 34 11 0)),
  (34, .inl (lo_iload 35 2)),
  (35, .inl (lo_ald 36 0)),
  (36, .inr (.inl (166, 4, 39))),
  (39, .inl (lo_istore 41 4)),
  (41, .inl (lo_aload 42 0)),
  (42, .inl (lo_push 43 (.int 0))),
  (43, .inl (lo_iload 44 3)),
  (44, .inr (.inl (178, 3, 47))),
  (47, .inl (lo_aload 48 0)),
  (48, .inl (lo_push 49 (.int 1))),
  (49, .inl (lo_iload 51 4)),
  (51, .inr (.inl (178, 3, 54))),
  (54, .inr (.inr 0))]
theorem k_180_0 (L : Nat) (xs : Nat → Int32) : ll_OK1 cX11_laysBoth RX11 none false ll_mN ll_mR ll_mK ll_cnt L xs false 0 (.inl (lo_aload 1 0)) := lk_aload_n (k := 0) (by decide +kernel) rfl
theorem k_180_1 (L : Nat) (xs : Nat → Int32) : ll_OK1 cX11_laysBoth RX11 none false ll_mN ll_mR ll_mK ll_cnt L xs false 1 (.inr (.inl (153, 1, 4))) := ⟨rfl, by decide, by rw [mN_153, mK_153, mR_153]; exact lj_v 225 0 11 (RX11, TX11, 46) (by decide +kernel) tb_723 tb_724 tb_725 rfl rfl rfl rfl (by decide +kernel)⟩
theorem k_180_4 (L : Nat) (xs : Nat → Int32) : ll_OK1 cX11_laysBoth RX11 none false ll_mN ll_mR ll_mK ll_cnt L xs false 4 (.inl (lo_aload 5 0)) := lk_aload_n (k := 0) (by decide +kernel) rfl
theorem k_180_5 (L : Nat) (xs : Nat → Int32) : ll_OK1 cX11_laysBoth RX11 none false ll_mN ll_mR ll_mK ll_cnt L xs false 5 (.inl (lo_aload 6 0)) := lk_aload_n (k := 0) (by decide +kernel) rfl
theorem k_180_6 (L : Nat) (xs : Nat → Int32) : ll_OK1 cX11_laysBoth RX11 none false ll_mN ll_mR ll_mK ll_cnt L xs false 6 (.inl (lo_getf 9 11 0)) := lk_getf (ix := 8) (ci := 11) (k := 0) (C := RX11) (T := TX11) (N := 46) (by decide +kernel) rfl in_11 (by decide) tb_606
theorem k_180_9 (L : Nat) (xs : Nat → Int32) : ll_OK1 cX11_laysBoth RX11 none false ll_mN ll_mR ll_mK ll_cnt L xs false 9 (.inl (lo_iload 10 1)) := lk_iload_n (k := 1) (by decide +kernel) rfl
theorem k_180_10 (L : Nat) (xs : Nat → Int32) : ll_OK1 cX11_laysBoth RX11 none false ll_mN ll_mR ll_mK ll_cnt L xs false 10 (.inl (lo_push 11 (.int 1))) := lk_iconst (n := 1) (by decide +kernel) (by decide)
theorem k_180_11 (L : Nat) (xs : Nat → Int32) : ll_OK1 cX11_laysBoth RX11 none false ll_mN ll_mR ll_mK ll_cnt L xs false 11 (.inl (lo_bin 12 (fun x y => x + y))) := lk_iadd (by decide +kernel)
theorem k_180_12 (L : Nat) (xs : Nat → Int32) : ll_OK1 cX11_laysBoth RX11 none false ll_mN ll_mR ll_mK ll_cnt L xs false 12 (.inl (lo_aload 13 0)) := lk_aload_n (k := 0) (by decide +kernel) rfl
theorem k_180_13 (L : Nat) (xs : Nat → Int32) : ll_OK1 cX11_laysBoth RX11 none false ll_mN ll_mR ll_mK ll_cnt L xs false 13 (.inl (lo_getf 16 11 0)) := lk_getf (ix := 8) (ci := 11) (k := 0) (C := RX11) (T := TX11) (N := 46) (by decide +kernel) rfl in_11 (by decide) tb_606
theorem k_180_16 (L : Nat) (xs : Nat → Int32) : ll_OK1 cX11_laysBoth RX11 none false ll_mN ll_mR ll_mK ll_cnt L xs false 16 (.inl (lo_iload 17 1)) := lk_iload_n (k := 1) (by decide +kernel) rfl
theorem k_180_17 (L : Nat) (xs : Nat → Int32) : ll_OK1 cX11_laysBoth RX11 none false ll_mN ll_mR ll_mK ll_cnt L xs false 17 (.inl (lo_ald 18 0)) := lk_iald (by decide +kernel)
theorem k_180_18 (L : Nat) (xs : Nat → Int32) : ll_OK1 cX11_laysBoth RX11 none false ll_mN ll_mR ll_mK ll_cnt L xs false 18 (.inr (.inl (166, 4, 21))) := ⟨rfl, by decide, by rw [mN_166, mK_166, mR_166]; exact lj_v 228 3 11 (RX11, TX11, 46) (by decide +kernel) tb_726 tb_727 tb_728 rfl rfl rfl rfl (by decide +kernel)⟩
theorem k_180_21 (L : Nat) (xs : Nat → Int32) : ll_OK1 cX11_laysBoth RX11 none false ll_mN ll_mR ll_mK ll_cnt L xs false 21 (.inl (lo_istore 22 3)) := lk_istore_n (k := 3) (by decide +kernel) rfl
theorem k_180_22 (L : Nat) (xs : Nat → Int32) : ll_OK1 cX11_laysBoth RX11 none false ll_mN ll_mR ll_mK ll_cnt L xs false 22 (.inl (lo_aload 23 0)) := lk_aload_n (k := 0) (by decide +kernel) rfl
theorem k_180_23 (L : Nat) (xs : Nat → Int32) : ll_OK1 cX11_laysBoth RX11 none false ll_mN ll_mR ll_mK ll_cnt L xs false 23 (.inl (lo_aload 24 0)) := lk_aload_n (k := 0) (by decide +kernel) rfl
theorem k_180_24 (L : Nat) (xs : Nat → Int32) : ll_OK1 cX11_laysBoth RX11 none false ll_mN ll_mR ll_mK ll_cnt L xs false 24 (.inl (lo_getf 27 11 0)) := lk_getf (ix := 8) (ci := 11) (k := 0) (C := RX11) (T := TX11) (N := 46) (by decide +kernel) rfl in_11 (by decide) tb_606
theorem k_180_27 (L : Nat) (xs : Nat → Int32) : ll_OK1 cX11_laysBoth RX11 none false ll_mN ll_mR ll_mK ll_cnt L xs false 27 (.inl (lo_iload 28 2)) := lk_iload_n (k := 2) (by decide +kernel) rfl
theorem k_180_28 (L : Nat) (xs : Nat → Int32) : ll_OK1 cX11_laysBoth RX11 none false ll_mN ll_mR ll_mK ll_cnt L xs false 28 (.inl (lo_push 29 (.int 1))) := lk_iconst (n := 1) (by decide +kernel) (by decide)
theorem k_180_29 (L : Nat) (xs : Nat → Int32) : ll_OK1 cX11_laysBoth RX11 none false ll_mN ll_mR ll_mK ll_cnt L xs false 29 (.inl (lo_bin 30 (fun x y => x + y))) := lk_iadd (by decide +kernel)
theorem k_180_30 (L : Nat) (xs : Nat → Int32) : ll_OK1 cX11_laysBoth RX11 none false ll_mN ll_mR ll_mK ll_cnt L xs false 30 (.inl (lo_aload 31 0)) := lk_aload_n (k := 0) (by decide +kernel) rfl
theorem k_180_31 (L : Nat) (xs : Nat → Int32) : ll_OK1 cX11_laysBoth RX11 none false ll_mN ll_mR ll_mK ll_cnt L xs false 31 (.inl (lo_getf 34 11 0)) := lk_getf (ix := 8) (ci := 11) (k := 0) (C := RX11) (T := TX11) (N := 46) (by decide +kernel) rfl in_11 (by decide) tb_606
theorem k_180_34 (L : Nat) (xs : Nat → Int32) : ll_OK1 cX11_laysBoth RX11 none false ll_mN ll_mR ll_mK ll_cnt L xs false 34 (.inl (lo_iload 35 2)) := lk_iload_n (k := 2) (by decide +kernel) rfl
theorem k_180_35 (L : Nat) (xs : Nat → Int32) : ll_OK1 cX11_laysBoth RX11 none false ll_mN ll_mR ll_mK ll_cnt L xs false 35 (.inl (lo_ald 36 0)) := lk_iald (by decide +kernel)
theorem k_180_36 (L : Nat) (xs : Nat → Int32) : ll_OK1 cX11_laysBoth RX11 none false ll_mN ll_mR ll_mK ll_cnt L xs false 36 (.inr (.inl (166, 4, 39))) := ⟨rfl, by decide, by rw [mN_166, mK_166, mR_166]; exact lj_v 228 3 11 (RX11, TX11, 46) (by decide +kernel) tb_726 tb_727 tb_728 rfl rfl rfl rfl (by decide +kernel)⟩
theorem k_180_39 (L : Nat) (xs : Nat → Int32) : ll_OK1 cX11_laysBoth RX11 none false ll_mN ll_mR ll_mK ll_cnt L xs false 39 (.inl (lo_istore 41 4)) := lk_istore (by decide +kernel)
theorem k_180_41 (L : Nat) (xs : Nat → Int32) : ll_OK1 cX11_laysBoth RX11 none false ll_mN ll_mR ll_mK ll_cnt L xs false 41 (.inl (lo_aload 42 0)) := lk_aload_n (k := 0) (by decide +kernel) rfl
theorem k_180_42 (L : Nat) (xs : Nat → Int32) : ll_OK1 cX11_laysBoth RX11 none false ll_mN ll_mR ll_mK ll_cnt L xs false 42 (.inl (lo_push 43 (.int 0))) := lk_iconst (n := 0) (by decide +kernel) (by decide)
theorem k_180_43 (L : Nat) (xs : Nat → Int32) : ll_OK1 cX11_laysBoth RX11 none false ll_mN ll_mR ll_mK ll_cnt L xs false 43 (.inl (lo_iload 44 3)) := lk_iload_n (k := 3) (by decide +kernel) rfl
theorem k_180_44 (L : Nat) (xs : Nat → Int32) : ll_OK1 cX11_laysBoth RX11 none false ll_mN ll_mR ll_mK ll_cnt L xs false 44 (.inr (.inl (178, 3, 47))) := ⟨rfl, by decide, by rw [mN_178, mK_178, mR_178]; exact lj_v 231 2 11 (RX11, TX11, 46) (by decide +kernel) tb_729 tb_730 tb_731 rfl rfl rfl rfl (by decide +kernel)⟩
theorem k_180_47 (L : Nat) (xs : Nat → Int32) : ll_OK1 cX11_laysBoth RX11 none false ll_mN ll_mR ll_mK ll_cnt L xs false 47 (.inl (lo_aload 48 0)) := lk_aload_n (k := 0) (by decide +kernel) rfl
theorem k_180_48 (L : Nat) (xs : Nat → Int32) : ll_OK1 cX11_laysBoth RX11 none false ll_mN ll_mR ll_mK ll_cnt L xs false 48 (.inl (lo_push 49 (.int 1))) := lk_iconst (n := 1) (by decide +kernel) (by decide)
theorem k_180_49 (L : Nat) (xs : Nat → Int32) : ll_OK1 cX11_laysBoth RX11 none false ll_mN ll_mR ll_mK ll_cnt L xs false 49 (.inl (lo_iload 51 4)) := lk_iload (by decide +kernel)
theorem k_180_51 (L : Nat) (xs : Nat → Int32) : ll_OK1 cX11_laysBoth RX11 none false ll_mN ll_mR ll_mK ll_cnt L xs false 51 (.inr (.inl (178, 3, 54))) := ⟨rfl, by decide, by rw [mN_178, mK_178, mR_178]; exact lj_v 231 2 11 (RX11, TX11, 46) (by decide +kernel) tb_729 tb_730 tb_731 rfl rfl rfl rfl (by decide +kernel)⟩
theorem k_180_54 (L : Nat) (xs : Nat → Int32) : ll_OK1 cX11_laysBoth RX11 none false ll_mN ll_mR ll_mK ll_cnt L xs false 54 (.inr (.inr 0)) := ⟨fun _ => ⟨(by decide +kernel), rfl⟩, (fun h => by cases h), fun h => by cases h⟩
theorem ok_180 (L : Nat) (xs : Nat → Int32) : ∀ q ∈ cd_180, ll_OK1 cX11_laysBoth RX11 none false ll_mN ll_mR ll_mK ll_cnt L xs false q.1 q.2 :=
  List.forall_mem_cons.mpr ⟨k_180_0 L xs, List.forall_mem_cons.mpr ⟨k_180_1 L xs, List.forall_mem_cons.mpr ⟨k_180_4 L xs, List.forall_mem_cons.mpr ⟨k_180_5 L xs, List.forall_mem_cons.mpr ⟨k_180_6 L xs, List.forall_mem_cons.mpr ⟨k_180_9 L xs, List.forall_mem_cons.mpr ⟨k_180_10 L xs, List.forall_mem_cons.mpr ⟨k_180_11 L xs, List.forall_mem_cons.mpr ⟨k_180_12 L xs, List.forall_mem_cons.mpr ⟨k_180_13 L xs, List.forall_mem_cons.mpr ⟨k_180_16 L xs, List.forall_mem_cons.mpr ⟨k_180_17 L xs, List.forall_mem_cons.mpr ⟨k_180_18 L xs, List.forall_mem_cons.mpr ⟨k_180_21 L xs, List.forall_mem_cons.mpr ⟨k_180_22 L xs, List.forall_mem_cons.mpr ⟨k_180_23 L xs, List.forall_mem_cons.mpr ⟨k_180_24 L xs, List.forall_mem_cons.mpr ⟨k_180_27 L xs, List.forall_mem_cons.mpr ⟨k_180_28 L xs, List.forall_mem_cons.mpr ⟨k_180_29 L xs, List.forall_mem_cons.mpr ⟨k_180_30 L xs, List.forall_mem_cons.mpr ⟨k_180_31 L xs, List.forall_mem_cons.mpr ⟨k_180_34 L xs, List.forall_mem_cons.mpr ⟨k_180_35 L xs, List.forall_mem_cons.mpr ⟨k_180_36 L xs, List.forall_mem_cons.mpr ⟨k_180_39 L xs, List.forall_mem_cons.mpr ⟨k_180_41 L xs, List.forall_mem_cons.mpr ⟨k_180_42 L xs, List.forall_mem_cons.mpr ⟨k_180_43 L xs, List.forall_mem_cons.mpr ⟨k_180_44 L xs, List.forall_mem_cons.mpr ⟨k_180_47 L xs, List.forall_mem_cons.mpr ⟨k_180_48 L xs, List.forall_mem_cons.mpr ⟨k_180_49 L xs, List.forall_mem_cons.mpr ⟨k_180_51 L xs, List.forall_mem_cons.mpr ⟨k_180_54 L xs, fun _ h => absurd h List.not_mem_nil⟩⟩⟩⟩⟩⟩⟩⟩⟩⟩⟩⟩⟩⟩⟩⟩⟩⟩⟩⟩⟩⟩⟩⟩⟩⟩⟩⟩⟩⟩⟩⟩⟩⟩⟩
/-- InclusionProverModel.isFull.(II)Z -/
def cd_181 : List (Nat × ll_O) := [
  (0, .inl (lo_aload 1 0)),
  (1, .inl (lo_getf 4 11 11)),
  (4, .inl (lo_aload 5 0)),
  (5, .inl (lo_getf 8 11 34)),
  (8, .inl (lo_push 10 (.int 31))),
  (10, .inl (lo_iload 11 1)),
  (11, .inl (lo_bin 12 (fun x y => x * y))),
  (12, .inl (lo_iload 13 2)),
  (13, .inl (lo_bin 14 (fun x y => x + y))),
  (14, .inl (lo_ald 15 0)),
  (15, .inl (lo_ald 16 1)),
  (16, .inr (.inr 2))]
theorem k_181_0 (L : Nat) (xs : Nat → Int32) : ll_OK1 cX11_isFull RX11 (some .boolean) false ll_mN ll_mR ll_mK ll_cnt L xs false 0 (.inl (lo_aload 1 0)) := lk_aload_n (k := 0) (by decide +kernel) rfl
theorem k_181_1 (L : Nat) (xs : Nat → Int32) : ll_OK1 cX11_isFull RX11 (some .boolean) false ll_mN ll_mR ll_mK ll_cnt L xs false 1 (.inl (lo_getf 4 11 11)) := lk_getf (ix := 43) (ci := 11) (k := 11) (C := RX11) (T := TX11) (N := 46) (by decide +kernel) rfl in_11 (by decide) tb_616
theorem k_181_4 (L : Nat) (xs : Nat → Int32) : ll_OK1 cX11_isFull RX11 (some .boolean) false ll_mN ll_mR ll_mK ll_cnt L xs false 4 (.inl (lo_aload 5 0)) := lk_aload_n (k := 0) (by decide +kernel) rfl
theorem k_181_5 (L : Nat) (xs : Nat → Int32) : ll_OK1 cX11_isFull RX11 (some .boolean) false ll_mN ll_mR ll_mK ll_cnt L xs false 5 (.inl (lo_getf 8 11 34)) := lk_getf (ix := 86) (ci := 11) (k := 34) (C := RX11) (T := TX11) (N := 46) (by decide +kernel) rfl in_11 (by decide) tb_631
theorem k_181_8 (L : Nat) (xs : Nat → Int32) : ll_OK1 cX11_isFull RX11 (some .boolean) false ll_mN ll_mR ll_mK ll_cnt L xs false 8 (.inl (lo_push 10 (.int 31))) := lk_bipush (n := 31) (by decide +kernel) (by decide)
theorem k_181_10 (L : Nat) (xs : Nat → Int32) : ll_OK1 cX11_isFull RX11 (some .boolean) false ll_mN ll_mR ll_mK ll_cnt L xs false 10 (.inl (lo_iload 11 1)) := lk_iload_n (k := 1) (by decide +kernel) rfl
theorem k_181_11 (L : Nat) (xs : Nat → Int32) : ll_OK1 cX11_isFull RX11 (some .boolean) false ll_mN ll_mR ll_mK ll_cnt L xs false 11 (.inl (lo_bin 12 (fun x y => x * y))) := lk_imul (by decide +kernel)
theorem k_181_12 (L : Nat) (xs : Nat → Int32) : ll_OK1 cX11_isFull RX11 (some .boolean) false ll_mN ll_mR ll_mK ll_cnt L xs false 12 (.inl (lo_iload 13 2)) := lk_iload_n (k := 2) (by decide +kernel) rfl
theorem k_181_13 (L : Nat) (xs : Nat → Int32) : ll_OK1 cX11_isFull RX11 (some .boolean) false ll_mN ll_mR ll_mK ll_cnt L xs false 13 (.inl (lo_bin 14 (fun x y => x + y))) := lk_iadd (by decide +kernel)
theorem k_181_14 (L : Nat) (xs : Nat → Int32) : ll_OK1 cX11_isFull RX11 (some .boolean) false ll_mN ll_mR ll_mK ll_cnt L xs false 14 (.inl (lo_ald 15 0)) := lk_iald (by decide +kernel)
theorem k_181_15 (L : Nat) (xs : Nat → Int32) : ll_OK1 cX11_isFull RX11 (some .boolean) false ll_mN ll_mR ll_mK ll_cnt L xs false 15 (.inl (lo_ald 16 1)) := lk_zald (by decide +kernel)
theorem k_181_16 (L : Nat) (xs : Nat → Int32) : ll_OK1 cX11_isFull RX11 (some .boolean) false ll_mN ll_mR ll_mK ll_cnt L xs false 16 (.inr (.inr 2)) := ⟨(fun h => by cases h), (fun h => by cases h), fun _ => ⟨(by decide +kernel), rfl⟩⟩
theorem ok_181 (L : Nat) (xs : Nat → Int32) : ∀ q ∈ cd_181, ll_OK1 cX11_isFull RX11 (some .boolean) false ll_mN ll_mR ll_mK ll_cnt L xs false q.1 q.2 :=
  List.forall_mem_cons.mpr ⟨k_181_0 L xs, List.forall_mem_cons.mpr ⟨k_181_1 L xs, List.forall_mem_cons.mpr ⟨k_181_4 L xs, List.forall_mem_cons.mpr ⟨k_181_5 L xs, List.forall_mem_cons.mpr ⟨k_181_8 L xs, List.forall_mem_cons.mpr ⟨k_181_10 L xs, List.forall_mem_cons.mpr ⟨k_181_11 L xs, List.forall_mem_cons.mpr ⟨k_181_12 L xs, List.forall_mem_cons.mpr ⟨k_181_13 L xs, List.forall_mem_cons.mpr ⟨k_181_14 L xs, List.forall_mem_cons.mpr ⟨k_181_15 L xs, List.forall_mem_cons.mpr ⟨k_181_16 L xs, fun _ h => absurd h List.not_mem_nil⟩⟩⟩⟩⟩⟩⟩⟩⟩⟩⟩⟩
/-- InclusionProverModel.isFullSet.(II)Z -/
def cd_182 : List (Nat × ll_O) := [
  (0, .inl (lo_push 1 (.int 0))),
  (1, .inl (lo_istore 2 3)),
  (2, .inl (lo_iload 3 3)),
  (3, .inl (lo_aload 4 0)),
  (4, .inl (lo_getf 7 11 35)),
  (7, .inl (lo_iload 8 1)),
  (8, .inl (lo_ald 9 0)),
  (9, .inl (lo_cmp 38 12 (fun x y => decide (y ≤ x)))),
  (12, .inl (lo_iload 13 2)),
  (13, .inl (lo_iload 14 3)),
  (14, .inl (lo_bin 15 (fun x y => x >>> (y &&& 31)))),
  (15, .inl (lo_push 16 (.int 1))),
  (16, .inl (lo_bin 17 (fun x y => x &&& y))),
  (17, .inl (lo_push 18 (.int 1))),
  (18, .inl (lo_cmp 32 21 (fun x y => decide (¬ x = y)))),
  (21, .inl (lo_aload 22 0)),
  (22, .inl (lo_iload 23 1)),
  (23, .inl (lo_iload 24 3)),
  (24, .inr (.inl (181, 3, 27))),
  (27, .inl (lo_if 32 30 (fun x => decide (x = 0)))),
  (30, .inl (lo_push 31 (.int 1))),
  (31, .inr (.inr 2)),
  (32, .inl (lo_iinc 35 3 1)),
  (35, .inl (lo_goto 2)),
  (38, .inl (lo_push 39 (.int 0))),
  (39, .inr (.inr 2))]
theorem k_182_0 (L : Nat) (xs : Nat → Int32) : ll_OK1 cX11_isFullSet RX11 (some .boolean) false ll_mN ll_mR ll_mK ll_cnt L xs false 0 (.inl (lo_push 1 (.int 0))) := lk_iconst (n := 0) (by decide +kernel) (by decide)
theorem k_182_1 (L : Nat) (xs : Nat → Int32) : ll_OK1 cX11_isFullSet RX11 (some .boolean) false ll_mN ll_mR ll_mK ll_cnt L xs false 1 (.inl (lo_istore 2 3)) := lk_istore_n (k := 3) (by decide +kernel) rfl
theorem k_182_2 (L : Nat) (xs : Nat → Int32) : ll_OK1 cX11_isFullSet RX11 (some .boolean) false ll_mN ll_mR ll_mK ll_cnt L xs false 2 (.inl (lo_iload 3 3)) := lk_iload_n (k := 3) (by decide +kernel) rfl
theorem k_182_3 (L : Nat) (xs : Nat → Int32) : ll_OK1 cX11_isFullSet RX11 (some .boolean) false ll_mN ll_mR ll_mK ll_cnt L xs false 3 (.inl (lo_aload 4 0)) := lk_aload_n (k := 0) (by decide +kernel) rfl
theorem k_182_4 (L : Nat) (xs : Nat → Int32) : ll_OK1 cX11_isFullSet RX11 (some .boolean) false ll_mN ll_mR ll_mK ll_cnt L xs false 4 (.inl (lo_getf 7 11 35)) := lk_getf (ix := 89) (ci := 11) (k := 35) (C := RX11) (T := TX11) (N := 46) (by decide +kernel) rfl in_11 (by decide) tb_632
theorem k_182_7 (L : Nat) (xs : Nat → Int32) : ll_OK1 cX11_isFullSet RX11 (some .boolean) false ll_mN ll_mR ll_mK ll_cnt L xs false 7 (.inl (lo_iload 8 1)) := lk_iload_n (k := 1) (by decide +kernel) rfl
theorem k_182_8 (L : Nat) (xs : Nat → Int32) : ll_OK1 cX11_isFullSet RX11 (some .boolean) false ll_mN ll_mR ll_mK ll_cnt L xs false 8 (.inl (lo_ald 9 0)) := lk_iald (by decide +kernel)
theorem k_182_9 (L : Nat) (xs : Nat → Int32) : ll_OK1 cX11_isFullSet RX11 (some .boolean) false ll_mN ll_mR ll_mK ll_cnt L xs false 9 (.inl (lo_cmp 38 12 (fun x y => decide (y ≤ x)))) := lk_icmp_ge (off := 29) (by decide +kernel) rfl
theorem k_182_12 (L : Nat) (xs : Nat → Int32) : ll_OK1 cX11_isFullSet RX11 (some .boolean) false ll_mN ll_mR ll_mK ll_cnt L xs false 12 (.inl (lo_iload 13 2)) := lk_iload_n (k := 2) (by decide +kernel) rfl
theorem k_182_13 (L : Nat) (xs : Nat → Int32) : ll_OK1 cX11_isFullSet RX11 (some .boolean) false ll_mN ll_mR ll_mK ll_cnt L xs false 13 (.inl (lo_iload 14 3)) := lk_iload_n (k := 3) (by decide +kernel) rfl
theorem k_182_14 (L : Nat) (xs : Nat → Int32) : ll_OK1 cX11_isFullSet RX11 (some .boolean) false ll_mN ll_mR ll_mK ll_cnt L xs false 14 (.inl (lo_bin 15 (fun x y => x >>> (y &&& 31)))) := lk_ishr (by decide +kernel)
theorem k_182_15 (L : Nat) (xs : Nat → Int32) : ll_OK1 cX11_isFullSet RX11 (some .boolean) false ll_mN ll_mR ll_mK ll_cnt L xs false 15 (.inl (lo_push 16 (.int 1))) := lk_iconst (n := 1) (by decide +kernel) (by decide)
theorem k_182_16 (L : Nat) (xs : Nat → Int32) : ll_OK1 cX11_isFullSet RX11 (some .boolean) false ll_mN ll_mR ll_mK ll_cnt L xs false 16 (.inl (lo_bin 17 (fun x y => x &&& y))) := lk_iand (by decide +kernel)
theorem k_182_17 (L : Nat) (xs : Nat → Int32) : ll_OK1 cX11_isFullSet RX11 (some .boolean) false ll_mN ll_mR ll_mK ll_cnt L xs false 17 (.inl (lo_push 18 (.int 1))) := lk_iconst (n := 1) (by decide +kernel) (by decide)
theorem k_182_18 (L : Nat) (xs : Nat → Int32) : ll_OK1 cX11_isFullSet RX11 (some .boolean) false ll_mN ll_mR ll_mK ll_cnt L xs false 18 (.inl (lo_cmp 32 21 (fun x y => decide (¬ x = y)))) := lk_icmp_ne (off := 14) (by decide +kernel) rfl
theorem k_182_21 (L : Nat) (xs : Nat → Int32) : ll_OK1 cX11_isFullSet RX11 (some .boolean) false ll_mN ll_mR ll_mK ll_cnt L xs false 21 (.inl (lo_aload 22 0)) := lk_aload_n (k := 0) (by decide +kernel) rfl
theorem k_182_22 (L : Nat) (xs : Nat → Int32) : ll_OK1 cX11_isFullSet RX11 (some .boolean) false ll_mN ll_mR ll_mK ll_cnt L xs false 22 (.inl (lo_iload 23 1)) := lk_iload_n (k := 1) (by decide +kernel) rfl
theorem k_182_23 (L : Nat) (xs : Nat → Int32) : ll_OK1 cX11_isFullSet RX11 (some .boolean) false ll_mN ll_mR ll_mK ll_cnt L xs false 23 (.inl (lo_iload 24 3)) := lk_iload_n (k := 3) (by decide +kernel) rfl
theorem k_182_24 (L : Nat) (xs : Nat → Int32) : ll_OK1 cX11_isFullSet RX11 (some .boolean) false ll_mN ll_mR ll_mK ll_cnt L xs false 24 (.inr (.inl (181, 3, 27))) := ⟨rfl, by decide, by rw [mN_181, mK_181, mR_181]; exact lj_v 234 2 11 (RX11, TX11, 46) (by decide +kernel) tb_732 tb_733 tb_734 rfl rfl rfl rfl (by decide +kernel)⟩
theorem k_182_27 (L : Nat) (xs : Nat → Int32) : ll_OK1 cX11_isFullSet RX11 (some .boolean) false ll_mN ll_mR ll_mK ll_cnt L xs false 27 (.inl (lo_if 32 30 (fun x => decide (x = 0)))) := lk_if_eq (off := 5) (by decide +kernel) rfl
theorem k_182_30 (L : Nat) (xs : Nat → Int32) : ll_OK1 cX11_isFullSet RX11 (some .boolean) false ll_mN ll_mR ll_mK ll_cnt L xs false 30 (.inl (lo_push 31 (.int 1))) := lk_iconst (n := 1) (by decide +kernel) (by decide)
theorem k_182_31 (L : Nat) (xs : Nat → Int32) : ll_OK1 cX11_isFullSet RX11 (some .boolean) false ll_mN ll_mR ll_mK ll_cnt L xs false 31 (.inr (.inr 2)) := ⟨(fun h => by cases h), (fun h => by cases h), fun _ => ⟨(by decide +kernel), rfl⟩⟩
theorem k_182_32 (L : Nat) (xs : Nat → Int32) : ll_OK1 cX11_isFullSet RX11 (some .boolean) false ll_mN ll_mR ll_mK ll_cnt L xs false 32 (.inl (lo_iinc 35 3 1)) := lk_iinc (n := 1) (by decide +kernel) (by decide)
theorem k_182_35 (L : Nat) (xs : Nat → Int32) : ll_OK1 cX11_isFullSet RX11 (some .boolean) false ll_mN ll_mR ll_mK ll_cnt L xs false 35 (.inl (lo_goto 2)) := lk_goto (off := (-33)) (by decide +kernel) rfl
theorem k_182_38 (L : Nat) (xs : Nat → Int32) : ll_OK1 cX11_isFullSet RX11 (some .boolean) false ll_mN ll_mR ll_mK ll_cnt L xs false 38 (.inl (lo_push 39 (.int 0))) := lk_iconst (n := 0) (by decide +kernel) (by decide)
theorem k_182_39 (L : Nat) (xs : Nat → Int32) : ll_OK1 cX11_isFullSet RX11 (some .boolean) false ll_mN ll_mR ll_mK ll_cnt L xs false 39 (.inr (.inr 2)) := ⟨(fun h => by cases h), (fun h => by cases h), fun _ => ⟨(by decide +kernel), rfl⟩⟩
theorem ok_182 (L : Nat) (xs : Nat → Int32) : ∀ q ∈ cd_182, ll_OK1 cX11_isFullSet RX11 (some .boolean) false ll_mN ll_mR ll_mK ll_cnt L xs false q.1 q.2 :=
  List.forall_mem_cons.mpr ⟨k_182_0 L xs, List.forall_mem_cons.mpr ⟨k_182_1 L xs, List.forall_mem_cons.mpr ⟨k_182_2 L xs, List.forall_mem_cons.mpr ⟨k_182_3 L xs, List.forall_mem_cons.mpr ⟨k_182_4 L xs, List.forall_mem_cons.mpr ⟨k_182_7 L xs, List.forall_mem_cons.mpr ⟨k_182_8 L xs, List.forall_mem_cons.mpr ⟨k_182_9 L xs, List.forall_mem_cons.mpr ⟨k_182_12 L xs, List.forall_mem_cons.mpr ⟨k_182_13 L xs, List.forall_mem_cons.mpr ⟨k_182_14 L xs, List.forall_mem_cons.mpr ⟨k_182_15 L xs, List.forall_mem_cons.mpr ⟨k_182_16 L xs, List.forall_mem_cons.mpr ⟨k_182_17 L xs, List.forall_mem_cons.mpr ⟨k_182_18 L xs, List.forall_mem_cons.mpr ⟨k_182_21 L xs, List.forall_mem_cons.mpr ⟨k_182_22 L xs, List.forall_mem_cons.mpr ⟨k_182_23 L xs, List.forall_mem_cons.mpr ⟨k_182_24 L xs, List.forall_mem_cons.mpr ⟨k_182_27 L xs, List.forall_mem_cons.mpr ⟨k_182_30 L xs, List.forall_mem_cons.mpr ⟨k_182_31 L xs, List.forall_mem_cons.mpr ⟨k_182_32 L xs, List.forall_mem_cons.mpr ⟨k_182_35 L xs, List.forall_mem_cons.mpr ⟨k_182_38 L xs, List.forall_mem_cons.mpr ⟨k_182_39 L xs, fun _ h => absurd h List.not_mem_nil⟩⟩⟩⟩⟩⟩⟩⟩⟩⟩⟩⟩⟩⟩⟩⟩⟩⟩⟩⟩⟩⟩⟩⟩⟩⟩
/-- InclusionProverModel.partsOf.(III)I -/
def cd_183 : List (Nat × ll_O) := [
  (0, .inl (lo_push 1 (.int 0))),
  (1, .inl (lo_istore 3 4)),
  (3, .inl (lo_push 4 (.int 0))),
  (4, .inl (lo_istore 6 5)),
  (6, .inl (lo_iload 8 5)),
  (8, .inl (lo_aload 9 0)),
  (9, .inl (lo_getf 12 11 35)),
  (12, .inl (lo_iload 13 1)),
  (13, .inl (lo_ald 14 0)),
  (14, .inl (lo_cmp 58 17 (fun x y => decide (y ≤ x)))),
  (17, .inl (lo_iload 19 4)),
  (19, .inl (lo_iload 20 2)),
  (20, .inl (lo_iload 22 5)),
  (22, .inl (lo_bin 23 (fun x y => x >>> (y &&& 31)))),
  (23, .inl (lo_push 24 (.int 1))),
  (24, .inl (lo_bin 25 (fun x y => x &&& y))),
  (25, .inl (lo_push 26 (.int 1))),
  (26, .inl (lo_cmp 48 29 (fun x y => decide (¬ x = y)))),
  (29, .inl (lo_aload 30 0)),
  (30, .inl (lo_getf 33 11 36)),
  (33, .inl (lo_push 34 (.int 3))),
  (34, .inl (lo_push 36 (.int 31))),
  (36, .inl (lo_iload 37 1)),
  (37, .inl (lo_bin 38 (fun x y => x * y))),
  (38, .inl (lo_iload 40 5)),
  (40, .inl (lo_bin 41 (fun x y => x + y))),
  (41, .inl (lo_bin 42 (fun x y => x * y))),
  (42, .inl (lo_iload 43 3)),
  (43, .inl (lo_bin 44 (fun x y => x + y))),
  (44, .inl (lo_ald 45 0)),
  (45, .inl (lo_goto 49)),
  (48, .inl (lo_push 49 (.int 0))),
  (49, .inl (lo_bin 50 (fun x y => x ||| y))),
  (50, .inl (lo_istore 52 4)),
  (52, .inl (lo_iinc 55 5 1)),
  (55, .inl (lo_goto 6)),
  (58, .inl (lo_iload 60 4)),
  (60, .inr (.inr 1))]
theorem k_183_0 (L : Nat) (xs : Nat → Int32) : ll_OK1 cX11_partsOf RX11 (some .int) false ll_mN ll_mR ll_mK ll_cnt L xs false 0 (.inl (lo_push 1 (.int 0))) := lk_iconst (n := 0) (by decide +kernel) (by decide)
theorem k_183_1 (L : Nat) (xs : Nat → Int32) : ll_OK1 cX11_partsOf RX11 (some .int) false ll_mN ll_mR ll_mK ll_cnt L xs false 1 (.inl (lo_istore 3 4)) := lk_istore (by decide +kernel)
theorem k_183_3 (L : Nat) (xs : Nat → Int32) : ll_OK1 cX11_partsOf RX11 (some .int) false ll_mN ll_mR ll_mK ll_cnt L xs false 3 (.inl (lo_push 4 (.int 0))) := lk_iconst (n := 0) (by decide +kernel) (by decide)
theorem k_183_4 (L : Nat) (xs : Nat → Int32) : ll_OK1 cX11_partsOf RX11 (some .int) false ll_mN ll_mR ll_mK ll_cnt L xs false 4 (.inl (lo_istore 6 5)) := lk_istore (by decide +kernel)
theorem k_183_6 (L : Nat) (xs : Nat → Int32) : ll_OK1 cX11_partsOf RX11 (some .int) false ll_mN ll_mR ll_mK ll_cnt L xs false 6 (.inl (lo_iload 8 5)) := lk_iload (by decide +kernel)
theorem k_183_8 (L : Nat) (xs : Nat → Int32) : ll_OK1 cX11_partsOf RX11 (some .int) false ll_mN ll_mR ll_mK ll_cnt L xs false 8 (.inl (lo_aload 9 0)) := lk_aload_n (k := 0) (by decide +kernel) rfl
theorem k_183_9 (L : Nat) (xs : Nat → Int32) : ll_OK1 cX11_partsOf RX11 (some .int) false ll_mN ll_mR ll_mK ll_cnt L xs false 9 (.inl (lo_getf 12 11 35)) := lk_getf (ix := 89) (ci := 11) (k := 35) (C := RX11) (T := TX11) (N := 46) (by decide +kernel) rfl in_11 (by decide) tb_632
theorem k_183_12 (L : Nat) (xs : Nat → Int32) : ll_OK1 cX11_partsOf RX11 (some .int) false ll_mN ll_mR ll_mK ll_cnt L xs false 12 (.inl (lo_iload 13 1)) := lk_iload_n (k := 1) (by decide +kernel) rfl
theorem k_183_13 (L : Nat) (xs : Nat → Int32) : ll_OK1 cX11_partsOf RX11 (some .int) false ll_mN ll_mR ll_mK ll_cnt L xs false 13 (.inl (lo_ald 14 0)) := lk_iald (by decide +kernel)
theorem k_183_14 (L : Nat) (xs : Nat → Int32) : ll_OK1 cX11_partsOf RX11 (some .int) false ll_mN ll_mR ll_mK ll_cnt L xs false 14 (.inl (lo_cmp 58 17 (fun x y => decide (y ≤ x)))) := lk_icmp_ge (off := 44) (by decide +kernel) rfl
theorem k_183_17 (L : Nat) (xs : Nat → Int32) : ll_OK1 cX11_partsOf RX11 (some .int) false ll_mN ll_mR ll_mK ll_cnt L xs false 17 (.inl (lo_iload 19 4)) := lk_iload (by decide +kernel)
theorem k_183_19 (L : Nat) (xs : Nat → Int32) : ll_OK1 cX11_partsOf RX11 (some .int) false ll_mN ll_mR ll_mK ll_cnt L xs false 19 (.inl (lo_iload 20 2)) := lk_iload_n (k := 2) (by decide +kernel) rfl
theorem k_183_20 (L : Nat) (xs : Nat → Int32) : ll_OK1 cX11_partsOf RX11 (some .int) false ll_mN ll_mR ll_mK ll_cnt L xs false 20 (.inl (lo_iload 22 5)) := lk_iload (by decide +kernel)
theorem k_183_22 (L : Nat) (xs : Nat → Int32) : ll_OK1 cX11_partsOf RX11 (some .int) false ll_mN ll_mR ll_mK ll_cnt L xs false 22 (.inl (lo_bin 23 (fun x y => x >>> (y &&& 31)))) := lk_ishr (by decide +kernel)
theorem k_183_23 (L : Nat) (xs : Nat → Int32) : ll_OK1 cX11_partsOf RX11 (some .int) false ll_mN ll_mR ll_mK ll_cnt L xs false 23 (.inl (lo_push 24 (.int 1))) := lk_iconst (n := 1) (by decide +kernel) (by decide)
theorem k_183_24 (L : Nat) (xs : Nat → Int32) : ll_OK1 cX11_partsOf RX11 (some .int) false ll_mN ll_mR ll_mK ll_cnt L xs false 24 (.inl (lo_bin 25 (fun x y => x &&& y))) := lk_iand (by decide +kernel)
theorem k_183_25 (L : Nat) (xs : Nat → Int32) : ll_OK1 cX11_partsOf RX11 (some .int) false ll_mN ll_mR ll_mK ll_cnt L xs false 25 (.inl (lo_push 26 (.int 1))) := lk_iconst (n := 1) (by decide +kernel) (by decide)
theorem k_183_26 (L : Nat) (xs : Nat → Int32) : ll_OK1 cX11_partsOf RX11 (some .int) false ll_mN ll_mR ll_mK ll_cnt L xs false 26 (.inl (lo_cmp 48 29 (fun x y => decide (¬ x = y)))) := lk_icmp_ne (off := 22) (by decide +kernel) rfl
theorem k_183_29 (L : Nat) (xs : Nat → Int32) : ll_OK1 cX11_partsOf RX11 (some .int) false ll_mN ll_mR ll_mK ll_cnt L xs false 29 (.inl (lo_aload 30 0)) := lk_aload_n (k := 0) (by decide +kernel) rfl
theorem k_183_30 (L : Nat) (xs : Nat → Int32) : ll_OK1 cX11_partsOf RX11 (some .int) false ll_mN ll_mR ll_mK ll_cnt L xs false 30 (.inl (lo_getf 33 11 36)) := lk_getf (ix := 92) (ci := 11) (k := 36) (C := RX11) (T := TX11) (N := 46) (by decide +kernel) rfl in_11 (by decide) tb_633
theorem k_183_33 (L : Nat) (xs : Nat → Int32) : ll_OK1 cX11_partsOf RX11 (some .int) false ll_mN ll_mR ll_mK ll_cnt L xs false 33 (.inl (lo_push 34 (.int 3))) := lk_iconst (n := 3) (by decide +kernel) (by decide)
theorem k_183_34 (L : Nat) (xs : Nat → Int32) : ll_OK1 cX11_partsOf RX11 (some .int) false ll_mN ll_mR ll_mK ll_cnt L xs false 34 (.inl (lo_push 36 (.int 31))) := lk_bipush (n := 31) (by decide +kernel) (by decide)
theorem k_183_36 (L : Nat) (xs : Nat → Int32) : ll_OK1 cX11_partsOf RX11 (some .int) false ll_mN ll_mR ll_mK ll_cnt L xs false 36 (.inl (lo_iload 37 1)) := lk_iload_n (k := 1) (by decide +kernel) rfl
theorem k_183_37 (L : Nat) (xs : Nat → Int32) : ll_OK1 cX11_partsOf RX11 (some .int) false ll_mN ll_mR ll_mK ll_cnt L xs false 37 (.inl (lo_bin 38 (fun x y => x * y))) := lk_imul (by decide +kernel)
theorem k_183_38 (L : Nat) (xs : Nat → Int32) : ll_OK1 cX11_partsOf RX11 (some .int) false ll_mN ll_mR ll_mK ll_cnt L xs false 38 (.inl (lo_iload 40 5)) := lk_iload (by decide +kernel)
theorem k_183_40 (L : Nat) (xs : Nat → Int32) : ll_OK1 cX11_partsOf RX11 (some .int) false ll_mN ll_mR ll_mK ll_cnt L xs false 40 (.inl (lo_bin 41 (fun x y => x + y))) := lk_iadd (by decide +kernel)
theorem k_183_41 (L : Nat) (xs : Nat → Int32) : ll_OK1 cX11_partsOf RX11 (some .int) false ll_mN ll_mR ll_mK ll_cnt L xs false 41 (.inl (lo_bin 42 (fun x y => x * y))) := lk_imul (by decide +kernel)
theorem k_183_42 (L : Nat) (xs : Nat → Int32) : ll_OK1 cX11_partsOf RX11 (some .int) false ll_mN ll_mR ll_mK ll_cnt L xs false 42 (.inl (lo_iload 43 3)) := lk_iload_n (k := 3) (by decide +kernel) rfl
theorem k_183_43 (L : Nat) (xs : Nat → Int32) : ll_OK1 cX11_partsOf RX11 (some .int) false ll_mN ll_mR ll_mK ll_cnt L xs false 43 (.inl (lo_bin 44 (fun x y => x + y))) := lk_iadd (by decide +kernel)
theorem k_183_44 (L : Nat) (xs : Nat → Int32) : ll_OK1 cX11_partsOf RX11 (some .int) false ll_mN ll_mR ll_mK ll_cnt L xs false 44 (.inl (lo_ald 45 0)) := lk_iald (by decide +kernel)
theorem k_183_45 (L : Nat) (xs : Nat → Int32) : ll_OK1 cX11_partsOf RX11 (some .int) false ll_mN ll_mR ll_mK ll_cnt L xs false 45 (.inl (lo_goto 49)) := lk_goto (off := 4) (by decide +kernel) rfl
theorem k_183_48 (L : Nat) (xs : Nat → Int32) : ll_OK1 cX11_partsOf RX11 (some .int) false ll_mN ll_mR ll_mK ll_cnt L xs false 48 (.inl (lo_push 49 (.int 0))) := lk_iconst (n := 0) (by decide +kernel) (by decide)
theorem k_183_49 (L : Nat) (xs : Nat → Int32) : ll_OK1 cX11_partsOf RX11 (some .int) false ll_mN ll_mR ll_mK ll_cnt L xs false 49 (.inl (lo_bin 50 (fun x y => x ||| y))) := lk_ior (by decide +kernel)
theorem k_183_50 (L : Nat) (xs : Nat → Int32) : ll_OK1 cX11_partsOf RX11 (some .int) false ll_mN ll_mR ll_mK ll_cnt L xs false 50 (.inl (lo_istore 52 4)) := lk_istore (by decide +kernel)
theorem k_183_52 (L : Nat) (xs : Nat → Int32) : ll_OK1 cX11_partsOf RX11 (some .int) false ll_mN ll_mR ll_mK ll_cnt L xs false 52 (.inl (lo_iinc 55 5 1)) := lk_iinc (n := 1) (by decide +kernel) (by decide)
theorem k_183_55 (L : Nat) (xs : Nat → Int32) : ll_OK1 cX11_partsOf RX11 (some .int) false ll_mN ll_mR ll_mK ll_cnt L xs false 55 (.inl (lo_goto 6)) := lk_goto (off := (-49)) (by decide +kernel) rfl
theorem k_183_58 (L : Nat) (xs : Nat → Int32) : ll_OK1 cX11_partsOf RX11 (some .int) false ll_mN ll_mR ll_mK ll_cnt L xs false 58 (.inl (lo_iload 60 4)) := lk_iload (by decide +kernel)
theorem k_183_60 (L : Nat) (xs : Nat → Int32) : ll_OK1 cX11_partsOf RX11 (some .int) false ll_mN ll_mR ll_mK ll_cnt L xs false 60 (.inr (.inr 1)) := ⟨(fun h => by cases h), (fun _ => ⟨(by decide +kernel), rfl⟩), fun h => by cases h⟩
theorem ok_183 (L : Nat) (xs : Nat → Int32) : ∀ q ∈ cd_183, ll_OK1 cX11_partsOf RX11 (some .int) false ll_mN ll_mR ll_mK ll_cnt L xs false q.1 q.2 :=
  List.forall_mem_cons.mpr ⟨k_183_0 L xs, List.forall_mem_cons.mpr ⟨k_183_1 L xs, List.forall_mem_cons.mpr ⟨k_183_3 L xs, List.forall_mem_cons.mpr ⟨k_183_4 L xs, List.forall_mem_cons.mpr ⟨k_183_6 L xs, List.forall_mem_cons.mpr ⟨k_183_8 L xs, List.forall_mem_cons.mpr ⟨k_183_9 L xs, List.forall_mem_cons.mpr ⟨k_183_12 L xs, List.forall_mem_cons.mpr ⟨k_183_13 L xs, List.forall_mem_cons.mpr ⟨k_183_14 L xs, List.forall_mem_cons.mpr ⟨k_183_17 L xs, List.forall_mem_cons.mpr ⟨k_183_19 L xs, List.forall_mem_cons.mpr ⟨k_183_20 L xs, List.forall_mem_cons.mpr ⟨k_183_22 L xs, List.forall_mem_cons.mpr ⟨k_183_23 L xs, List.forall_mem_cons.mpr ⟨k_183_24 L xs, List.forall_mem_cons.mpr ⟨k_183_25 L xs, List.forall_mem_cons.mpr ⟨k_183_26 L xs, List.forall_mem_cons.mpr ⟨k_183_29 L xs, List.forall_mem_cons.mpr ⟨k_183_30 L xs, List.forall_mem_cons.mpr ⟨k_183_33 L xs, List.forall_mem_cons.mpr ⟨k_183_34 L xs, List.forall_mem_cons.mpr ⟨k_183_36 L xs, List.forall_mem_cons.mpr ⟨k_183_37 L xs, List.forall_mem_cons.mpr ⟨k_183_38 L xs, List.forall_mem_cons.mpr ⟨k_183_40 L xs, List.forall_mem_cons.mpr ⟨k_183_41 L xs, List.forall_mem_cons.mpr ⟨k_183_42 L xs, List.forall_mem_cons.mpr ⟨k_183_43 L xs, List.forall_mem_cons.mpr ⟨k_183_44 L xs, List.forall_mem_cons.mpr ⟨k_183_45 L xs, List.forall_mem_cons.mpr ⟨k_183_48 L xs, List.forall_mem_cons.mpr ⟨k_183_49 L xs, List.forall_mem_cons.mpr ⟨k_183_50 L xs, List.forall_mem_cons.mpr ⟨k_183_52 L xs, List.forall_mem_cons.mpr ⟨k_183_55 L xs, List.forall_mem_cons.mpr ⟨k_183_58 L xs, List.forall_mem_cons.mpr ⟨k_183_60 L xs, fun _ h => absurd h List.not_mem_nil⟩⟩⟩⟩⟩⟩⟩⟩⟩⟩⟩⟩⟩⟩⟩⟩⟩⟩⟩⟩⟩⟩⟩⟩⟩⟩⟩⟩⟩⟩⟩⟩⟩⟩⟩⟩⟩⟩
/-- InclusionProverModel.isMember.(II)Z -/
def cd_184 : List (Nat × ll_O) := [
  (0, .inl (lo_push 1 (.int 0))),
  (1, .inl (lo_istore 2 3)),
  (2, .inl (lo_iload 3 3)),
  (3, .inl (lo_aload 4 0)),
  (4, .inl (lo_getf 7 11 35)),
  (7, .inl (lo_push 8 (.int 1))),
  (8, .inl (lo_ald 9 0)),
  (9, .inl (lo_cmp 47 12 (fun x y => decide (y ≤ x)))),
  (12, .inl (lo_iload 13 2)),
  (13, .inl (lo_iload 14 3)),
  (14, .inl (lo_bin 15 (fun x y => x >>> (y &&& 31)))),
  (15, .inl (lo_push 16 (.int 1))),
  (16, .inl (lo_bin 17 (fun x y => x &&& y))),
  (17, .inl (lo_push 18 (.int 1))),
  (18, .inl (lo_cmp 41 21 (fun x y => decide (¬ x = y)))),
  (21, .inl (lo_aload 22 0)),
  (22, .inl (lo_getf 25 11 34)),
  (25, .inl (lo_push 27 (.int 31))),
  (27, .inl (lo_iload 28 3)),
  (28, .inl (lo_bin 29 (fun x y => x + y))),
  (29, .inl (lo_ald 30 0)),
  (30, .inl (lo_aload 31 0)),
  (31, .inl (lo_getf 34 11 34)),
  (34, .inl (lo_iload 35 1)),
  (35, .inl (lo_ald 36 0)),
  (36, .inl (lo_cmp 41 39 (fun x y => decide (¬ x = y)))),
  (39, .inl (lo_push 40 (.int 1))),
  (40, .inr (.inr 2)),
  (41, .inl (lo_iinc 44 3 1)),
  (44, .inl (lo_goto 2)),
  (47, .inl (lo_push 48 (.int 0))),
  (48, .inr (.inr 2))]
theorem k_184_0 (L : Nat) (xs : Nat → Int32) : ll_OK1 cX11_isMember RX11 (some .boolean) false ll_mN ll_mR ll_mK ll_cnt L xs false 0 (.inl (lo_push 1 (.int 0))) := lk_iconst (n := 0) (by decide +kernel) (by decide)
theorem k_184_1 (L : Nat) (xs : Nat → Int32) : ll_OK1 cX11_isMember RX11 (some .boolean) false ll_mN ll_mR ll_mK ll_cnt L xs false 1 (.inl (lo_istore 2 3)) := lk_istore_n (k := 3) (by decide +kernel) rfl
theorem k_184_2 (L : Nat) (xs : Nat → Int32) : ll_OK1 cX11_isMember RX11 (some .boolean) false ll_mN ll_mR ll_mK ll_cnt L xs false 2 (.inl (lo_iload 3 3)) := lk_iload_n (k := 3) (by decide +kernel) rfl
theorem k_184_3 (L : Nat) (xs : Nat → Int32) : ll_OK1 cX11_isMember RX11 (some .boolean) false ll_mN ll_mR ll_mK ll_cnt L xs false 3 (.inl (lo_aload 4 0)) := lk_aload_n (k := 0) (by decide +kernel) rfl
theorem k_184_4 (L : Nat) (xs : Nat → Int32) : ll_OK1 cX11_isMember RX11 (some .boolean) false ll_mN ll_mR ll_mK ll_cnt L xs false 4 (.inl (lo_getf 7 11 35)) := lk_getf (ix := 89) (ci := 11) (k := 35) (C := RX11) (T := TX11) (N := 46) (by decide +kernel) rfl in_11 (by decide) tb_632
theorem k_184_7 (L : Nat) (xs : Nat → Int32) : ll_OK1 cX11_isMember RX11 (some .boolean) false ll_mN ll_mR ll_mK ll_cnt L xs false 7 (.inl (lo_push 8 (.int 1))) := lk_iconst (n := 1) (by decide +kernel) (by decide)
theorem k_184_8 (L : Nat) (xs : Nat → Int32) : ll_OK1 cX11_isMember RX11 (some .boolean) false ll_mN ll_mR ll_mK ll_cnt L xs false 8 (.inl (lo_ald 9 0)) := lk_iald (by decide +kernel)
theorem k_184_9 (L : Nat) (xs : Nat → Int32) : ll_OK1 cX11_isMember RX11 (some .boolean) false ll_mN ll_mR ll_mK ll_cnt L xs false 9 (.inl (lo_cmp 47 12 (fun x y => decide (y ≤ x)))) := lk_icmp_ge (off := 38) (by decide +kernel) rfl
theorem k_184_12 (L : Nat) (xs : Nat → Int32) : ll_OK1 cX11_isMember RX11 (some .boolean) false ll_mN ll_mR ll_mK ll_cnt L xs false 12 (.inl (lo_iload 13 2)) := lk_iload_n (k := 2) (by decide +kernel) rfl
theorem k_184_13 (L : Nat) (xs : Nat → Int32) : ll_OK1 cX11_isMember RX11 (some .boolean) false ll_mN ll_mR ll_mK ll_cnt L xs false 13 (.inl (lo_iload 14 3)) := lk_iload_n (k := 3) (by decide +kernel) rfl
theorem k_184_14 (L : Nat) (xs : Nat → Int32) : ll_OK1 cX11_isMember RX11 (some .boolean) false ll_mN ll_mR ll_mK ll_cnt L xs false 14 (.inl (lo_bin 15 (fun x y => x >>> (y &&& 31)))) := lk_ishr (by decide +kernel)
theorem k_184_15 (L : Nat) (xs : Nat → Int32) : ll_OK1 cX11_isMember RX11 (some .boolean) false ll_mN ll_mR ll_mK ll_cnt L xs false 15 (.inl (lo_push 16 (.int 1))) := lk_iconst (n := 1) (by decide +kernel) (by decide)
theorem k_184_16 (L : Nat) (xs : Nat → Int32) : ll_OK1 cX11_isMember RX11 (some .boolean) false ll_mN ll_mR ll_mK ll_cnt L xs false 16 (.inl (lo_bin 17 (fun x y => x &&& y))) := lk_iand (by decide +kernel)
theorem k_184_17 (L : Nat) (xs : Nat → Int32) : ll_OK1 cX11_isMember RX11 (some .boolean) false ll_mN ll_mR ll_mK ll_cnt L xs false 17 (.inl (lo_push 18 (.int 1))) := lk_iconst (n := 1) (by decide +kernel) (by decide)
theorem k_184_18 (L : Nat) (xs : Nat → Int32) : ll_OK1 cX11_isMember RX11 (some .boolean) false ll_mN ll_mR ll_mK ll_cnt L xs false 18 (.inl (lo_cmp 41 21 (fun x y => decide (¬ x = y)))) := lk_icmp_ne (off := 23) (by decide +kernel) rfl
theorem k_184_21 (L : Nat) (xs : Nat → Int32) : ll_OK1 cX11_isMember RX11 (some .boolean) false ll_mN ll_mR ll_mK ll_cnt L xs false 21 (.inl (lo_aload 22 0)) := lk_aload_n (k := 0) (by decide +kernel) rfl
theorem k_184_22 (L : Nat) (xs : Nat → Int32) : ll_OK1 cX11_isMember RX11 (some .boolean) false ll_mN ll_mR ll_mK ll_cnt L xs false 22 (.inl (lo_getf 25 11 34)) := lk_getf (ix := 86) (ci := 11) (k := 34) (C := RX11) (T := TX11) (N := 46) (by decide +kernel) rfl in_11 (by decide) tb_631
theorem k_184_25 (L : Nat) (xs : Nat → Int32) : ll_OK1 cX11_isMember RX11 (some .boolean) false ll_mN ll_mR ll_mK ll_cnt L xs false 25 (.inl (lo_push 27 (.int 31))) := lk_bipush (n := 31) (by decide +kernel) (by decide)
theorem k_184_27 (L : Nat) (xs : Nat → Int32) : ll_OK1 cX11_isMember RX11 (some .boolean) false ll_mN ll_mR ll_mK ll_cnt L xs false 27 (.inl (lo_iload 28 3)) := lk_iload_n (k := 3) (by decide +kernel) rfl
theorem k_184_28 (L : Nat) (xs : Nat → Int32) : ll_OK1 cX11_isMember RX11 (some .boolean) false ll_mN ll_mR ll_mK ll_cnt L xs false 28 (.inl (lo_bin 29 (fun x y => x + y))) := lk_iadd (by decide +kernel)
theorem k_184_29 (L : Nat) (xs : Nat → Int32) : ll_OK1 cX11_isMember RX11 (some .boolean) false ll_mN ll_mR ll_mK ll_cnt L xs false 29 (.inl (lo_ald 30 0)) := lk_iald (by decide +kernel)
theorem k_184_30 (L : Nat) (xs : Nat → Int32) : ll_OK1 cX11_isMember RX11 (some .boolean) false ll_mN ll_mR ll_mK ll_cnt L xs false 30 (.inl (lo_aload 31 0)) := lk_aload_n (k := 0) (by decide +kernel) rfl
theorem k_184_31 (L : Nat) (xs : Nat → Int32) : ll_OK1 cX11_isMember RX11 (some .boolean) false ll_mN ll_mR ll_mK ll_cnt L xs false 31 (.inl (lo_getf 34 11 34)) := lk_getf (ix := 86) (ci := 11) (k := 34) (C := RX11) (T := TX11) (N := 46) (by decide +kernel) rfl in_11 (by decide) tb_631
theorem k_184_34 (L : Nat) (xs : Nat → Int32) : ll_OK1 cX11_isMember RX11 (some .boolean) false ll_mN ll_mR ll_mK ll_cnt L xs false 34 (.inl (lo_iload 35 1)) := lk_iload_n (k := 1) (by decide +kernel) rfl
theorem k_184_35 (L : Nat) (xs : Nat → Int32) : ll_OK1 cX11_isMember RX11 (some .boolean) false ll_mN ll_mR ll_mK ll_cnt L xs false 35 (.inl (lo_ald 36 0)) := lk_iald (by decide +kernel)
theorem k_184_36 (L : Nat) (xs : Nat → Int32) : ll_OK1 cX11_isMember RX11 (some .boolean) false ll_mN ll_mR ll_mK ll_cnt L xs false 36 (.inl (lo_cmp 41 39 (fun x y => decide (¬ x = y)))) := lk_icmp_ne (off := 5) (by decide +kernel) rfl
theorem k_184_39 (L : Nat) (xs : Nat → Int32) : ll_OK1 cX11_isMember RX11 (some .boolean) false ll_mN ll_mR ll_mK ll_cnt L xs false 39 (.inl (lo_push 40 (.int 1))) := lk_iconst (n := 1) (by decide +kernel) (by decide)
theorem k_184_40 (L : Nat) (xs : Nat → Int32) : ll_OK1 cX11_isMember RX11 (some .boolean) false ll_mN ll_mR ll_mK ll_cnt L xs false 40 (.inr (.inr 2)) := ⟨(fun h => by cases h), (fun h => by cases h), fun _ => ⟨(by decide +kernel), rfl⟩⟩
theorem k_184_41 (L : Nat) (xs : Nat → Int32) : ll_OK1 cX11_isMember RX11 (some .boolean) false ll_mN ll_mR ll_mK ll_cnt L xs false 41 (.inl (lo_iinc 44 3 1)) := lk_iinc (n := 1) (by decide +kernel) (by decide)
theorem k_184_44 (L : Nat) (xs : Nat → Int32) : ll_OK1 cX11_isMember RX11 (some .boolean) false ll_mN ll_mR ll_mK ll_cnt L xs false 44 (.inl (lo_goto 2)) := lk_goto (off := (-42)) (by decide +kernel) rfl
theorem k_184_47 (L : Nat) (xs : Nat → Int32) : ll_OK1 cX11_isMember RX11 (some .boolean) false ll_mN ll_mR ll_mK ll_cnt L xs false 47 (.inl (lo_push 48 (.int 0))) := lk_iconst (n := 0) (by decide +kernel) (by decide)
theorem k_184_48 (L : Nat) (xs : Nat → Int32) : ll_OK1 cX11_isMember RX11 (some .boolean) false ll_mN ll_mR ll_mK ll_cnt L xs false 48 (.inr (.inr 2)) := ⟨(fun h => by cases h), (fun h => by cases h), fun _ => ⟨(by decide +kernel), rfl⟩⟩
theorem ok_184 (L : Nat) (xs : Nat → Int32) : ∀ q ∈ cd_184, ll_OK1 cX11_isMember RX11 (some .boolean) false ll_mN ll_mR ll_mK ll_cnt L xs false q.1 q.2 :=
  List.forall_mem_cons.mpr ⟨k_184_0 L xs, List.forall_mem_cons.mpr ⟨k_184_1 L xs, List.forall_mem_cons.mpr ⟨k_184_2 L xs, List.forall_mem_cons.mpr ⟨k_184_3 L xs, List.forall_mem_cons.mpr ⟨k_184_4 L xs, List.forall_mem_cons.mpr ⟨k_184_7 L xs, List.forall_mem_cons.mpr ⟨k_184_8 L xs, List.forall_mem_cons.mpr ⟨k_184_9 L xs, List.forall_mem_cons.mpr ⟨k_184_12 L xs, List.forall_mem_cons.mpr ⟨k_184_13 L xs, List.forall_mem_cons.mpr ⟨k_184_14 L xs, List.forall_mem_cons.mpr ⟨k_184_15 L xs, List.forall_mem_cons.mpr ⟨k_184_16 L xs, List.forall_mem_cons.mpr ⟨k_184_17 L xs, List.forall_mem_cons.mpr ⟨k_184_18 L xs, List.forall_mem_cons.mpr ⟨k_184_21 L xs, List.forall_mem_cons.mpr ⟨k_184_22 L xs, List.forall_mem_cons.mpr ⟨k_184_25 L xs, List.forall_mem_cons.mpr ⟨k_184_27 L xs, List.forall_mem_cons.mpr ⟨k_184_28 L xs, List.forall_mem_cons.mpr ⟨k_184_29 L xs, List.forall_mem_cons.mpr ⟨k_184_30 L xs, List.forall_mem_cons.mpr ⟨k_184_31 L xs, List.forall_mem_cons.mpr ⟨k_184_34 L xs, List.forall_mem_cons.mpr ⟨k_184_35 L xs, List.forall_mem_cons.mpr ⟨k_184_36 L xs, List.forall_mem_cons.mpr ⟨k_184_39 L xs, List.forall_mem_cons.mpr ⟨k_184_40 L xs, List.forall_mem_cons.mpr ⟨k_184_41 L xs, List.forall_mem_cons.mpr ⟨k_184_44 L xs, List.forall_mem_cons.mpr ⟨k_184_47 L xs, List.forall_mem_cons.mpr ⟨k_184_48 L xs, fun _ h => absurd h List.not_mem_nil⟩⟩⟩⟩⟩⟩⟩⟩⟩⟩⟩⟩⟩⟩⟩⟩⟩⟩⟩⟩⟩⟩⟩⟩⟩⟩⟩⟩⟩⟩⟩⟩
