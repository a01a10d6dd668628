/-! CODE TABLES, and that each row is the machine's (written by wip/whole/gen.py) -/
/-- InclusionProverModel.check.()I -/
def cd_206 : List (Nat × ll_O) := [
  (0, .inl (lo_aload 1 0)),
  (1, .inl (lo_getf 4 11 0)),
  (4, .inl (lo_push 7 (.int 186))),
  (7, .inl (lo_ald 8 0)),
  (8, .inl (lo_if 16 11 (fun x => decide (¬ x = 0)))),
  (11, .inl (lo_push 13 (.int (-2)))),
  (13, .inl (lo_goto 20)),
  (16, .inl (lo_aload 17 0)),
  (17, .inr (.inl (205, 1, 20))),
  (20, .inr (.inr 1))]
theorem k_206_0 (L : Nat) (xs : Nat → Int32) : ll_OK1 cX11_check RX11 (some .int) false ll_mN ll_mR ll_mK ll_cnt L xs false 0 (.inl (lo_aload 1 0)) := lk_aload_n (k := 0) (by decide +kernel) rfl
theorem k_206_1 (L : Nat) (xs : Nat → Int32) : ll_OK1 cX11_check RX11 (some .int) false ll_mN ll_mR ll_mK ll_cnt L xs false 1 (.inl (lo_getf 4 11 0)) := lk_getf (ix := 8) (ci := 11) (k := 0) (C := RX11) (T := TX11) (N := 46) (by decide +kernel) rfl in_11 (by decide) tb_606
theorem k_206_4 (L : Nat) (xs : Nat → Int32) : ll_OK1 cX11_check RX11 (some .int) false ll_mN ll_mR ll_mK ll_cnt L xs false 4 (.inl (lo_push 7 (.int 186))) := lk_sipush (n := 186) (by decide +kernel) (by decide)
theorem k_206_7 (L : Nat) (xs : Nat → Int32) : ll_OK1 cX11_check RX11 (some .int) false ll_mN ll_mR ll_mK ll_cnt L xs false 7 (.inl (lo_ald 8 0)) := lk_iald (by decide +kernel)
theorem k_206_8 (L : Nat) (xs : Nat → Int32) : ll_OK1 cX11_check RX11 (some .int) false ll_mN ll_mR ll_mK ll_cnt L xs false 8 (.inl (lo_if 16 11 (fun x => decide (¬ x = 0)))) := lk_if_ne (off := 8) (by decide +kernel) rfl
theorem k_206_11 (L : Nat) (xs : Nat → Int32) : ll_OK1 cX11_check RX11 (some .int) false ll_mN ll_mR ll_mK ll_cnt L xs false 11 (.inl (lo_push 13 (.int (-2)))) := lk_bipush (n := (-2)) (by decide +kernel) (by decide)
theorem k_206_13 (L : Nat) (xs : Nat → Int32) : ll_OK1 cX11_check RX11 (some .int) false ll_mN ll_mR ll_mK ll_cnt L xs false 13 (.inl (lo_goto 20)) := lk_goto (off := 7) (by decide +kernel) rfl
theorem k_206_16 (L : Nat) (xs : Nat → Int32) : ll_OK1 cX11_check RX11 (some .int) false ll_mN ll_mR ll_mK ll_cnt L xs false 16 (.inl (lo_aload 17 0)) := lk_aload_n (k := 0) (by decide +kernel) rfl
theorem k_206_17 (L : Nat) (xs : Nat → Int32) : ll_OK1 cX11_check RX11 (some .int) false ll_mN ll_mR ll_mK ll_cnt L xs false 17 (.inr (.inl (205, 1, 20))) := ⟨rfl, by decide, by rw [mN_205, mK_205, mR_205]; exact lj_v 297 0 11 (RX11, TX11, 46) (by decide +kernel) tb_782 tb_783 tb_784 rfl rfl rfl rfl (by decide +kernel)⟩
theorem k_206_20 (L : Nat) (xs : Nat → Int32) : ll_OK1 cX11_check RX11 (some .int) false ll_mN ll_mR ll_mK ll_cnt L xs false 20 (.inr (.inr 1)) := ⟨(fun h => by cases h), (fun _ => ⟨(by decide +kernel), rfl⟩), fun h => by cases h⟩
theorem ok_206 (L : Nat) (xs : Nat → Int32) : ∀ q ∈ cd_206, ll_OK1 cX11_check RX11 (some .int) false ll_mN ll_mR ll_mK ll_cnt L xs false q.1 q.2 :=
  List.forall_mem_cons.mpr ⟨k_206_0 L xs, List.forall_mem_cons.mpr ⟨k_206_1 L xs, List.forall_mem_cons.mpr ⟨k_206_4 L xs, List.forall_mem_cons.mpr ⟨k_206_7 L xs, List.forall_mem_cons.mpr ⟨k_206_8 L xs, List.forall_mem_cons.mpr ⟨k_206_11 L xs, List.forall_mem_cons.mpr ⟨k_206_13 L xs, List.forall_mem_cons.mpr ⟨k_206_16 L xs, List.forall_mem_cons.mpr ⟨k_206_17 L xs, List.forall_mem_cons.mpr ⟨k_206_20 L xs, fun _ h => absurd h List.not_mem_nil⟩⟩⟩⟩⟩⟩⟩⟩⟩⟩
/-- InclusionProverModel.why.(I)I -/
def cd_207 : List (Nat × ll_O) := [
  (0, .inl (lo_iload 1 1)),
  (1, .inl (lo_push 2 (.int 0))),
  (2, .inl (lo_push 3 (.int 2))),
  (3, .inr (.inl (151, 3, 6))),
  (6, .inl (lo_if 11 9 (fun x => decide (¬ x = 0)))),
  (9, .inl (lo_push 10 (.int (-1)))),
  (10, .inr (.inr 1)),
  (11, .inl (lo_aload 12 0)),
  (12, .inl (lo_getf 15 11 0)),
  (15, .inl (lo_push 18 (.int 186))),
  (18, .inl (lo_ald 19 0)),
  (19, .inl (lo_if 24 22 (fun x => decide (¬ x = 0)))),
  (22, .inl (lo_push 23 (.int 0))),
  (23, .inr (.inr 1)),
  (24, .inl (lo_aload 25 0)),
  (25, .inr (.inl (205, 1, 28))),
  (28, .inl (lo_istore 29 2)),
  (29, .inl (lo_iload 30 2)),
  (30, .inl (lo_push 31 (.int (-1)))),
  (31, .inl (lo_cmp 38 34 (fun x y => decide (¬ x = y)))),
  (34, .inl (lo_push 35 (.int 0))),
  (35, .inl (lo_goto 65)),
  (38, .inl (lo_iload 39 1)),
  (39, .inl (lo_if 49 42 (fun x => decide (¬ x = 0)))),
  (42, .inl (lo_aload 43 0)),
  (43, .inl (lo_getf 46 11 44)),
  (46, .inl (lo_goto 65)),
  (49, .inl (lo_iload 50 1)),
  (50, .inl (lo_push 51 (.int 1))),
  (51, .inl (lo_cmp 61 54 (fun x y => decide (¬ x = y)))),
  (54, .inl (lo_aload 55 0)),
  (55, .inl (lo_getf 58 11 42)),
  (58, .inl (lo_goto 65)),
  (61, .inl (lo_aload 62 0)),
  (62, .inl (lo_getf 65 11 43)),
  (65, .inr (.inr 1))]
theorem k_207_0 (L : Nat) (xs : Nat → Int32) : ll_OK1 cX11_why RX11 (some .int) false ll_mN ll_mR ll_mK ll_cnt L xs false 0 (.inl (lo_iload 1 1)) := lk_iload_n (k := 1) (by decide +kernel) rfl
theorem k_207_1 (L : Nat) (xs : Nat → Int32) : ll_OK1 cX11_why RX11 (some .int) false ll_mN ll_mR ll_mK ll_cnt L xs false 1 (.inl (lo_push 2 (.int 0))) := lk_iconst (n := 0) (by decide +kernel) (by decide)
theorem k_207_2 (L : Nat) (xs : Nat → Int32) : ll_OK1 cX11_why RX11 (some .int) false ll_mN ll_mR ll_mK ll_cnt L xs false 2 (.inl (lo_push 3 (.int 2))) := lk_iconst (n := 2) (by decide +kernel) (by decide)
theorem k_207_3 (L : Nat) (xs : Nat → Int32) : ll_OK1 cX11_why RX11 (some .int) false ll_mN ll_mR ll_mK ll_cnt L xs false 3 (.inr (.inl (151, 3, 6))) := ⟨rfl, by decide, by rw [mN_151, mK_151, mR_151]; exact lj_s 163 (by decide +kernel) tb_673 tb_674 (by decide +kernel)⟩
theorem k_207_6 (L : Nat) (xs : Nat → Int32) : ll_OK1 cX11_why RX11 (some .int) false ll_mN ll_mR ll_mK ll_cnt L xs false 6 (.inl (lo_if 11 9 (fun x => decide (¬ x = 0)))) := lk_if_ne (off := 5) (by decide +kernel) rfl
theorem k_207_9 (L : Nat) (xs : Nat → Int32) : ll_OK1 cX11_why RX11 (some .int) false ll_mN ll_mR ll_mK ll_cnt L xs false 9 (.inl (lo_push 10 (.int (-1)))) := lk_iconst (n := (-1)) (by decide +kernel) (by decide)
theorem k_207_10 (L : Nat) (xs : Nat → Int32) : ll_OK1 cX11_why RX11 (some .int) false ll_mN ll_mR ll_mK ll_cnt L xs false 10 (.inr (.inr 1)) := ⟨(fun h => by cases h), (fun _ => ⟨(by decide +kernel), rfl⟩), fun h => by cases h⟩
theorem k_207_11 (L : Nat) (xs : Nat → Int32) : ll_OK1 cX11_why RX11 (some .int) false ll_mN ll_mR ll_mK ll_cnt L xs false 11 (.inl (lo_aload 12 0)) := lk_aload_n (k := 0) (by decide +kernel) rfl
theorem k_207_12 (L : Nat) (xs : Nat → Int32) : ll_OK1 cX11_why RX11 (some .int) false ll_mN ll_mR ll_mK ll_cnt L xs false 12 (.inl (lo_getf 15 11 0)) := lk_getf (ix := 8) (ci := 11) (k := 0) (C := RX11) (T := TX11) (N := 46) (by decide +kernel) rfl in_11 (by decide) tb_606
theorem k_207_15 (L : Nat) (xs : Nat → Int32) : ll_OK1 cX11_why RX11 (some .int) false ll_mN ll_mR ll_mK ll_cnt L xs false 15 (.inl (lo_push 18 (.int 186))) := lk_sipush (n := 186) (by decide +kernel) (by decide)
theorem k_207_18 (L : Nat) (xs : Nat → Int32) : ll_OK1 cX11_why RX11 (some .int) false ll_mN ll_mR ll_mK ll_cnt L xs false 18 (.inl (lo_ald 19 0)) := lk_iald (by decide +kernel)
theorem k_207_19 (L : Nat) (xs : Nat → Int32) : ll_OK1 cX11_why RX11 (some .int) false ll_mN ll_mR ll_mK ll_cnt L xs false 19 (.inl (lo_if 24 22 (fun x => decide (¬ x = 0)))) := lk_if_ne (off := 5) (by decide +kernel) rfl
theorem k_207_22 (L : Nat) (xs : Nat → Int32) : ll_OK1 cX11_why RX11 (some .int) false ll_mN ll_mR ll_mK ll_cnt L xs false 22 (.inl (lo_push 23 (.int 0))) := lk_iconst (n := 0) (by decide +kernel) (by decide)
theorem k_207_23 (L : Nat) (xs : Nat → Int32) : ll_OK1 cX11_why RX11 (some .int) false ll_mN ll_mR ll_mK ll_cnt L xs false 23 (.inr (.inr 1)) := ⟨(fun h => by cases h), (fun _ => ⟨(by decide +kernel), rfl⟩), fun h => by cases h⟩
theorem k_207_24 (L : Nat) (xs : Nat → Int32) : ll_OK1 cX11_why RX11 (some .int) false ll_mN ll_mR ll_mK ll_cnt L xs false 24 (.inl (lo_aload 25 0)) := lk_aload_n (k := 0) (by decide +kernel) rfl
theorem k_207_25 (L : Nat) (xs : Nat → Int32) : ll_OK1 cX11_why RX11 (some .int) false ll_mN ll_mR ll_mK ll_cnt L xs false 25 (.inr (.inl (205, 1, 28))) := ⟨rfl, by decide, by rw [mN_205, mK_205, mR_205]; exact lj_v 297 0 11 (RX11, TX11, 46) (by decide +kernel) tb_782 tb_783 tb_784 rfl rfl rfl rfl (by decide +kernel)⟩
theorem k_207_28 (L : Nat) (xs : Nat → Int32) : ll_OK1 cX11_why RX11 (some .int) false ll_mN ll_mR ll_mK ll_cnt L xs false 28 (.inl (lo_istore 29 2)) := lk_istore_n (k := 2) (by decide +kernel) rfl
theorem k_207_29 (L : Nat) (xs : Nat → Int32) : ll_OK1 cX11_why RX11 (some .int) false ll_mN ll_mR ll_mK ll_cnt L xs false 29 (.inl (lo_iload 30 2)) := lk_iload_n (k := 2) (by decide +kernel) rfl
theorem k_207_30 (L : Nat) (xs : Nat → Int32) : ll_OK1 cX11_why RX11 (some .int) false ll_mN ll_mR ll_mK ll_cnt L xs false 30 (.inl (lo_push 31 (.int (-1)))) := lk_iconst (n := (-1)) (by decide +kernel) (by decide)
theorem k_207_31 (L : Nat) (xs : Nat → Int32) : ll_OK1 cX11_why RX11 (some .int) false ll_mN ll_mR ll_mK ll_cnt L xs false 31 (.inl (lo_cmp 38 34 (fun x y => decide (¬ x = y)))) := lk_icmp_ne (off := 7) (by decide +kernel) rfl
theorem k_207_34 (L : Nat) (xs : Nat → Int32) : ll_OK1 cX11_why RX11 (some .int) false ll_mN ll_mR ll_mK ll_cnt L xs false 34 (.inl (lo_push 35 (.int 0))) := lk_iconst (n := 0) (by decide +kernel) (by decide)
theorem k_207_35 (L : Nat) (xs : Nat → Int32) : ll_OK1 cX11_why RX11 (some .int) false ll_mN ll_mR ll_mK ll_cnt L xs false 35 (.inl (lo_goto 65)) := lk_goto (off := 30) (by decide +kernel) rfl
theorem k_207_38 (L : Nat) (xs : Nat → Int32) : ll_OK1 cX11_why RX11 (some .int) false ll_mN ll_mR ll_mK ll_cnt L xs false 38 (.inl (lo_iload 39 1)) := lk_iload_n (k := 1) (by decide +kernel) rfl
theorem k_207_39 (L : Nat) (xs : Nat → Int32) : ll_OK1 cX11_why RX11 (some .int) false ll_mN ll_mR ll_mK ll_cnt L xs false 39 (.inl (lo_if 49 42 (fun x => decide (¬ x = 0)))) := lk_if_ne (off := 10) (by decide +kernel) rfl
theorem k_207_42 (L : Nat) (xs : Nat → Int32) : ll_OK1 cX11_why RX11 (some .int) false ll_mN ll_mR ll_mK ll_cnt L xs false 42 (.inl (lo_aload 43 0)) := lk_aload_n (k := 0) (by decide +kernel) rfl
theorem k_207_43 (L : Nat) (xs : Nat → Int32) : ll_OK1 cX11_why RX11 (some .int) false ll_mN ll_mR ll_mK ll_cnt L xs false 43 (.inl (lo_getf 46 11 44)) := lk_getf (ix := 294) (ci := 11) (k := 44) (C := RX11) (T := TX11) (N := 46) (by decide +kernel) rfl in_11 (by decide) tb_781
theorem k_207_46 (L : Nat) (xs : Nat → Int32) : ll_OK1 cX11_why RX11 (some .int) false ll_mN ll_mR ll_mK ll_cnt L xs false 46 (.inl (lo_goto 65)) := lk_goto (off := 19) (by decide +kernel) rfl
theorem k_207_49 (L : Nat) (xs : Nat → Int32) : ll_OK1 cX11_why RX11 (some .int) false ll_mN ll_mR ll_mK ll_cnt L xs false 49 (.inl (lo_iload 50 1)) := lk_iload_n (k := 1) (by decide +kernel) rfl
theorem k_207_50 (L : Nat) (xs : Nat → Int32) : ll_OK1 cX11_why RX11 (some .int) false ll_mN ll_mR ll_mK ll_cnt L xs false 50 (.inl (lo_push 51 (.int 1))) := lk_iconst (n := 1) (by decide +kernel) (by decide)
theorem k_207_51 (L : Nat) (xs : Nat → Int32) : ll_OK1 cX11_why RX11 (some .int) false ll_mN ll_mR ll_mK ll_cnt L xs false 51 (.inl (lo_cmp 61 54 (fun x y => decide (¬ x = y)))) := lk_icmp_ne (off := 10) (by decide +kernel) rfl
theorem k_207_54 (L : Nat) (xs : Nat → Int32) : ll_OK1 cX11_why RX11 (some .int) false ll_mN ll_mR ll_mK ll_cnt L xs false 54 (.inl (lo_aload 55 0)) := lk_aload_n (k := 0) (by decide +kernel) rfl
theorem k_207_55 (L : Nat) (xs : Nat → Int32) : ll_OK1 cX11_why RX11 (some .int) false ll_mN ll_mR ll_mK ll_cnt L xs false 55 (.inl (lo_getf 58 11 42)) := lk_getf (ix := 282) (ci := 11) (k := 42) (C := RX11) (T := TX11) (N := 46) (by decide +kernel) rfl in_11 (by decide) tb_773
theorem k_207_58 (L : Nat) (xs : Nat → Int32) : ll_OK1 cX11_why RX11 (some .int) false ll_mN ll_mR ll_mK ll_cnt L xs false 58 (.inl (lo_goto 65)) := lk_goto (off := 7) (by decide +kernel) rfl
theorem k_207_61 (L : Nat) (xs : Nat → Int32) : ll_OK1 cX11_why RX11 (some .int) false ll_mN ll_mR ll_mK ll_cnt L xs false 61 (.inl (lo_aload 62 0)) := lk_aload_n (k := 0) (by decide +kernel) rfl
theorem k_207_62 (L : Nat) (xs : Nat → Int32) : ll_OK1 cX11_why RX11 (some .int) false ll_mN ll_mR ll_mK ll_cnt L xs false 62 (.inl (lo_getf 65 11 43)) := lk_getf (ix := 285) (ci := 11) (k := 43) (C := RX11) (T := TX11) (N := 46) (by decide +kernel) rfl in_11 (by decide) tb_774
theorem k_207_65 (L : Nat) (xs : Nat → Int32) : ll_OK1 cX11_why RX11 (some .int) false ll_mN ll_mR ll_mK ll_cnt L xs false 65 (.inr (.inr 1)) := ⟨(fun h => by cases h), (fun _ => ⟨(by decide +kernel), rfl⟩), fun h => by cases h⟩
theorem ok_207 (L : Nat) (xs : Nat → Int32) : ∀ q ∈ cd_207, ll_OK1 cX11_why RX11 (some .int) false ll_mN ll_mR ll_mK ll_cnt L xs false q.1 q.2 :=
  List.forall_mem_cons.mpr ⟨k_207_0 L xs, List.forall_mem_cons.mpr ⟨k_207_1 L xs, List.forall_mem_cons.mpr ⟨k_207_2 L xs, List.forall_mem_cons.mpr ⟨k_207_3 L xs, List.forall_mem_cons.mpr ⟨k_207_6 L xs, List.forall_mem_cons.mpr ⟨k_207_9 L xs, List.forall_mem_cons.mpr ⟨k_207_10 L xs, List.forall_mem_cons.mpr ⟨k_207_11 L xs, List.forall_mem_cons.mpr ⟨k_207_12 L xs, List.forall_mem_cons.mpr ⟨k_207_15 L xs, List.forall_mem_cons.mpr ⟨k_207_18 L xs, List.forall_mem_cons.mpr ⟨k_207_19 L xs, List.forall_mem_cons.mpr ⟨k_207_22 L xs, List.forall_mem_cons.mpr ⟨k_207_23 L xs, List.forall_mem_cons.mpr ⟨k_207_24 L xs, List.forall_mem_cons.mpr ⟨k_207_25 L xs, List.forall_mem_cons.mpr ⟨k_207_28 L xs, List.forall_mem_cons.mpr ⟨k_207_29 L xs, List.forall_mem_cons.mpr ⟨k_207_30 L xs, List.forall_mem_cons.mpr ⟨k_207_31 L xs, List.forall_mem_cons.mpr ⟨k_207_34 L xs, List.forall_mem_cons.mpr ⟨k_207_35 L xs, List.forall_mem_cons.mpr ⟨k_207_38 L xs, List.forall_mem_cons.mpr ⟨k_207_39 L xs, List.forall_mem_cons.mpr ⟨k_207_42 L xs, List.forall_mem_cons.mpr ⟨k_207_43 L xs, List.forall_mem_cons.mpr ⟨k_207_46 L xs, List.forall_mem_cons.mpr ⟨k_207_49 L xs, List.forall_mem_cons.mpr ⟨k_207_50 L xs, List.forall_mem_cons.mpr ⟨k_207_51 L xs, List.forall_mem_cons.mpr ⟨k_207_54 L xs, List.forall_mem_cons.mpr ⟨k_207_55 L xs, List.forall_mem_cons.mpr ⟨k_207_58 L xs, List.forall_mem_cons.mpr ⟨k_207_61 L xs, List.forall_mem_cons.mpr ⟨k_207_62 L xs, List.forall_mem_cons.mpr ⟨k_207_65 L xs, fun _ h => absurd h List.not_mem_nil⟩⟩⟩⟩⟩⟩⟩⟩⟩⟩⟩⟩⟩⟩⟩⟩⟩⟩⟩⟩⟩⟩⟩⟩⟩⟩⟩⟩⟩⟩⟩⟩⟩⟩⟩⟩
/-- InclusionProverModel.write.(J)I -/
def cd_208 : List (Nat × ll_O) := [
  (0, .inl (lo_push 1 (.int 0))),
  (1, .inl (lo_istore 2 3)),
  (2, .inl (lo_iload 3 3)),
  (3, .inl (lo_push 5 (.int 8))),
  (5, .inl (lo_cmp 32 8 (fun x y => decide (y ≤ x)))),
  (8, .inl (lo_lload 9 1)),
  (9, .inl (lo_push 11 (.int 56))),
  (11, .inl (lo_push 13 (.int 8))),
  (13, .inl (lo_iload 14 3)),
  (14, .inl (lo_bin 15 (fun x y => x * y))),
  (15, .inl (lo_bin 16 (fun x y => x - y))),
  (16, .inl (lo_lsh 17 (fun x y => (x.toUInt64 >>> (y.toInt64.toUInt64 &&& Int64.toUInt64 63)).toInt64))),
  (17, .inl (lo_push 20 (.long 255))),
  (20, .inl (lo_lbin 21 (fun x y => x &&& y))),
  (21, .inl (lo_push 22 (.long 0))),
  (22, .inl (lo_lcmp 23)),
  (23, .inl (lo_if 32 26 (fun x => decide (x = 0)))),
  (26, .inl (lo_iinc 29 3 1)),
  (29, .inl (lo_goto 2)),
  (32, .inl (lo_aload 33 0)),
  (33, .inl (lo_getf 36 11 3)),
  (36, .inl (lo_iload 37 3)),
  (37, .inl (lo_bin 38 (fun x y => x + y))),
  (38, .inl (lo_push 40 (.int 60))),
  (40, .inl (lo_cmp 45 43 (fun x y => decide (x ≤ y)))),
  (43, .inl (lo_push 44 (.int (-1)))),
  (44, .inr (.inr 1)),
  (45, .inl (lo_push 46 (.int 0))),
  (46, .inl (lo_istore 48 4)),
  (48, .inl (lo_iload 50 4)),
  (50, .inl (lo_iload 51 3)),
  (51, .inl (lo_cmp 87 54 (fun x y => decide (y ≤ x)))),
  (54, .inl (lo_aload 55 0)),
  (55, .inl (lo_getf 58 11 1)),
  (58, .inl (lo_aload 59 0)),
  (59, .inl (lo_getf 62 11 3)),
  (62, .inl (lo_iload 64 4)),
  (64, .inl (lo_bin 65 (fun x y => x + y))),
  (65, .inl (lo_lload 66 1)),
  (66, .inl (lo_push 68 (.int 56))),
  (68, .inl (lo_push 70 (.int 8))),
  (70, .inl (lo_iload 72 4)),
  (72, .inl (lo_bin 73 (fun x y => x * y))),
  (73, .inl (lo_bin 74 (fun x y => x - y))),
  (74, .inl (lo_lsh 75 (fun x y => (x.toUInt64 >>> (y.toInt64.toUInt64 &&& Int64.toUInt64 63)).toInt64))),
  (75, .inl (lo_push 78 (.long 255))),
  (78, .inl (lo_lbin 79 (fun x y => x &&& y))),
  (79, .inl (lo_l2i 80)),
  (80, .inl (lo_ast 81 0)),
  (81, .inl (lo_iinc 84 4 1)),
  (84, .inl (lo_goto 48)),
  (87, .inl (lo_aload 88 0)),
  (88, .inl (lo_dup 89)),
  (89, .inl (lo_getf 92 11 3)),
  (92, .inl (lo_iload 93 3)),
  (93, .inl (lo_bin 94 (fun x y => x + y))),
  (94, .inl (lo_putf 97 11 3 0)),
  (97, .inl (lo_aload 98 0)),
  (98, .inl (lo_getf 101 11 3)),
  (101, .inr (.inr 1))]
theorem k_208_0 (L : Nat) (xs : Nat → Int32) : ll_OK1 cX11_write RX11 (some .int) false ll_mN ll_mR ll_mK ll_cnt L xs false 0 (.inl (lo_push 1 (.int 0))) := lk_iconst (n := 0) (by decide +kernel) (by decide)
theorem k_208_1 (L : Nat) (xs : Nat → Int32) : ll_OK1 cX11_write RX11 (some .int) false ll_mN ll_mR ll_mK ll_cnt L xs false 1 (.inl (lo_istore 2 3)) := lk_istore_n (k := 3) (by decide +kernel) rfl
theorem k_208_2 (L : Nat) (xs : Nat → Int32) : ll_OK1 cX11_write RX11 (some .int) false ll_mN ll_mR ll_mK ll_cnt L xs false 2 (.inl (lo_iload 3 3)) := lk_iload_n (k := 3) (by decide +kernel) rfl
theorem k_208_3 (L : Nat) (xs : Nat → Int32) : ll_OK1 cX11_write RX11 (some .int) false ll_mN ll_mR ll_mK ll_cnt L xs false 3 (.inl (lo_push 5 (.int 8))) := lk_bipush (n := 8) (by decide +kernel) (by decide)
theorem k_208_5 (L : Nat) (xs : Nat → Int32) : ll_OK1 cX11_write RX11 (some .int) false ll_mN ll_mR ll_mK ll_cnt L xs false 5 (.inl (lo_cmp 32 8 (fun x y => decide (y ≤ x)))) := lk_icmp_ge (off := 27) (by decide +kernel) rfl
theorem k_208_8 (L : Nat) (xs : Nat → Int32) : ll_OK1 cX11_write RX11 (some .int) false ll_mN ll_mR ll_mK ll_cnt L xs false 8 (.inl (lo_lload 9 1)) := lk_lload_n (k := 1) (by decide +kernel) rfl
theorem k_208_9 (L : Nat) (xs : Nat → Int32) : ll_OK1 cX11_write RX11 (some .int) false ll_mN ll_mR ll_mK ll_cnt L xs false 9 (.inl (lo_push 11 (.int 56))) := lk_bipush (n := 56) (by decide +kernel) (by decide)
theorem k_208_11 (L : Nat) (xs : Nat → Int32) : ll_OK1 cX11_write RX11 (some .int) false ll_mN ll_mR ll_mK ll_cnt L xs false 11 (.inl (lo_push 13 (.int 8))) := lk_bipush (n := 8) (by decide +kernel) (by decide)
theorem k_208_13 (L : Nat) (xs : Nat → Int32) : ll_OK1 cX11_write RX11 (some .int) false ll_mN ll_mR ll_mK ll_cnt L xs false 13 (.inl (lo_iload 14 3)) := lk_iload_n (k := 3) (by decide +kernel) rfl
theorem k_208_14 (L : Nat) (xs : Nat → Int32) : ll_OK1 cX11_write RX11 (some .int) false ll_mN ll_mR ll_mK ll_cnt L xs false 14 (.inl (lo_bin 15 (fun x y => x * y))) := lk_imul (by decide +kernel)
theorem k_208_15 (L : Nat) (xs : Nat → Int32) : ll_OK1 cX11_write RX11 (some .int) false ll_mN ll_mR ll_mK ll_cnt L xs false 15 (.inl (lo_bin 16 (fun x y => x - y))) := lk_isub (by decide +kernel)
theorem k_208_16 (L : Nat) (xs : Nat → Int32) : ll_OK1 cX11_write RX11 (some .int) false ll_mN ll_mR ll_mK ll_cnt L xs false 16 (.inl (lo_lsh 17 (fun x y => (x.toUInt64 >>> (y.toInt64.toUInt64 &&& Int64.toUInt64 63)).toInt64))) := lk_lushr (by decide +kernel)
theorem k_208_17 (L : Nat) (xs : Nat → Int32) : ll_OK1 cX11_write RX11 (some .int) false ll_mN ll_mR ll_mK ll_cnt L xs false 17 (.inl (lo_push 20 (.long 255))) := lk_ldc2 (ix := 300) (by decide +kernel) tb_785
theorem k_208_20 (L : Nat) (xs : Nat → Int32) : ll_OK1 cX11_write RX11 (some .int) false ll_mN ll_mR ll_mK ll_cnt L xs false 20 (.inl (lo_lbin 21 (fun x y => x &&& y))) := lk_land (by decide +kernel)
theorem k_208_21 (L : Nat) (xs : Nat → Int32) : ll_OK1 cX11_write RX11 (some .int) false ll_mN ll_mR ll_mK ll_cnt L xs false 21 (.inl (lo_push 22 (.long 0))) := lk_lconst (n := 0) (by decide +kernel) (by decide)
theorem k_208_22 (L : Nat) (xs : Nat → Int32) : ll_OK1 cX11_write RX11 (some .int) false ll_mN ll_mR ll_mK ll_cnt L xs false 22 (.inl (lo_lcmp 23)) := lk_lcmp (by decide +kernel)
theorem k_208_23 (L : Nat) (xs : Nat → Int32) : ll_OK1 cX11_write RX11 (some .int) false ll_mN ll_mR ll_mK ll_cnt L xs false 23 (.inl (lo_if 32 26 (fun x => decide (x = 0)))) := lk_if_eq (off := 9) (by decide +kernel) rfl
theorem k_208_26 (L : Nat) (xs : Nat → Int32) : ll_OK1 cX11_write RX11 (some .int) false ll_mN ll_mR ll_mK ll_cnt L xs false 26 (.inl (lo_iinc 29 3 1)) := lk_iinc (n := 1) (by decide +kernel) (by decide)
theorem k_208_29 (L : Nat) (xs : Nat → Int32) : ll_OK1 cX11_write RX11 (some .int) false ll_mN ll_mR ll_mK ll_cnt L xs false 29 (.inl (lo_goto 2)) := lk_goto (off := (-27)) (by decide +kernel) rfl
theorem k_208_32 (L : Nat) (xs : Nat → Int32) : ll_OK1 cX11_write RX11 (some .int) false ll_mN ll_mR ll_mK ll_cnt L xs false 32 (.inl (lo_aload 33 0)) := lk_aload_n (k := 0) (by decide +kernel) rfl
theorem k_208_33 (L : Nat) (xs : Nat → Int32) : ll_OK1 cX11_write RX11 (some .int) false ll_mN ll_mR ll_mK ll_cnt L xs false 33 (.inl (lo_getf 36 11 3)) := lk_getf (ix := 279) (ci := 11) (k := 3) (C := RX11) (T := TX11) (N := 46) (by decide +kernel) rfl in_11 (by decide) tb_772
theorem k_208_36 (L : Nat) (xs : Nat → Int32) : ll_OK1 cX11_write RX11 (some .int) false ll_mN ll_mR ll_mK ll_cnt L xs false 36 (.inl (lo_iload 37 3)) := lk_iload_n (k := 3) (by decide +kernel) rfl
theorem k_208_37 (L : Nat) (xs : Nat → Int32) : ll_OK1 cX11_write RX11 (some .int) false ll_mN ll_mR ll_mK ll_cnt L xs false 37 (.inl (lo_bin 38 (fun x y => x + y))) := lk_iadd (by decide +kernel)
theorem k_208_38 (L : Nat) (xs : Nat → Int32) : ll_OK1 cX11_write RX11 (some .int) false ll_mN ll_mR ll_mK ll_cnt L xs false 38 (.inl (lo_push 40 (.int 60))) := lk_bipush (n := 60) (by decide +kernel) (by decide)
theorem k_208_40 (L : Nat) (xs : Nat → Int32) : ll_OK1 cX11_write RX11 (some .int) false ll_mN ll_mR ll_mK ll_cnt L xs false 40 (.inl (lo_cmp 45 43 (fun x y => decide (x ≤ y)))) := lk_icmp_le (off := 5) (by decide +kernel) rfl
theorem k_208_43 (L : Nat) (xs : Nat → Int32) : ll_OK1 cX11_write RX11 (some .int) false ll_mN ll_mR ll_mK ll_cnt L xs false 43 (.inl (lo_push 44 (.int (-1)))) := lk_iconst (n := (-1)) (by decide +kernel) (by decide)
theorem k_208_44 (L : Nat) (xs : Nat → Int32) : ll_OK1 cX11_write RX11 (some .int) false ll_mN ll_mR ll_mK ll_cnt L xs false 44 (.inr (.inr 1)) := ⟨(fun h => by cases h), (fun _ => ⟨(by decide +kernel), rfl⟩), fun h => by cases h⟩
theorem k_208_45 (L : Nat) (xs : Nat → Int32) : ll_OK1 cX11_write RX11 (some .int) false ll_mN ll_mR ll_mK ll_cnt L xs false 45 (.inl (lo_push 46 (.int 0))) := lk_iconst (n := 0) (by decide +kernel) (by decide)
theorem k_208_46 (L : Nat) (xs : Nat → Int32) : ll_OK1 cX11_write RX11 (some .int) false ll_mN ll_mR ll_mK ll_cnt L xs false 46 (.inl (lo_istore 48 4)) := lk_istore (by decide +kernel)
theorem k_208_48 (L : Nat) (xs : Nat → Int32) : ll_OK1 cX11_write RX11 (some .int) false ll_mN ll_mR ll_mK ll_cnt L xs false 48 (.inl (lo_iload 50 4)) := lk_iload (by decide +kernel)
theorem k_208_50 (L : Nat) (xs : Nat → Int32) : ll_OK1 cX11_write RX11 (some .int) false ll_mN ll_mR ll_mK ll_cnt L xs false 50 (.inl (lo_iload 51 3)) := lk_iload_n (k := 3) (by decide +kernel) rfl
theorem k_208_51 (L : Nat) (xs : Nat → Int32) : ll_OK1 cX11_write RX11 (some .int) false ll_mN ll_mR ll_mK ll_cnt L xs false 51 (.inl (lo_cmp 87 54 (fun x y => decide (y ≤ x)))) := lk_icmp_ge (off := 36) (by decide +kernel) rfl
theorem k_208_54 (L : Nat) (xs : Nat → Int32) : ll_OK1 cX11_write RX11 (some .int) false ll_mN ll_mR ll_mK ll_cnt L xs false 54 (.inl (lo_aload 55 0)) := lk_aload_n (k := 0) (by decide +kernel) rfl
theorem k_208_55 (L : Nat) (xs : Nat → Int32) : ll_OK1 cX11_write RX11 (some .int) false ll_mN ll_mR ll_mK ll_cnt L xs false 55 (.inl (lo_getf 58 11 1)) := lk_getf (ix := 14) (ci := 11) (k := 1) (C := RX11) (T := TX11) (N := 46) (by decide +kernel) rfl in_11 (by decide) tb_607
theorem k_208_58 (L : Nat) (xs : Nat → Int32) : ll_OK1 cX11_write RX11 (some .int) false ll_mN ll_mR ll_mK ll_cnt L xs false 58 (.inl (lo_aload 59 0)) := lk_aload_n (k := 0) (by decide +kernel) rfl
theorem k_208_59 (L : Nat) (xs : Nat → Int32) : ll_OK1 cX11_write RX11 (some .int) false ll_mN ll_mR ll_mK ll_cnt L xs false 59 (.inl (lo_getf 62 11 3)) := lk_getf (ix := 279) (ci := 11) (k := 3) (C := RX11) (T := TX11) (N := 46) (by decide +kernel) rfl in_11 (by decide) tb_772
theorem k_208_62 (L : Nat) (xs : Nat → Int32) : ll_OK1 cX11_write RX11 (some .int) false ll_mN ll_mR ll_mK ll_cnt L xs false 62 (.inl (lo_iload 64 4)) := lk_iload (by decide +kernel)
theorem k_208_64 (L : Nat) (xs : Nat → Int32) : ll_OK1 cX11_write RX11 (some .int) false ll_mN ll_mR ll_mK ll_cnt L xs false 64 (.inl (lo_bin 65 (fun x y => x + y))) := lk_iadd (by decide +kernel)
theorem k_208_65 (L : Nat) (xs : Nat → Int32) : ll_OK1 cX11_write RX11 (some .int) false ll_mN ll_mR ll_mK ll_cnt L xs false 65 (.inl (lo_lload 66 1)) := lk_lload_n (k := 1) (by decide +kernel) rfl
theorem k_208_66 (L : Nat) (xs : Nat → Int32) : ll_OK1 cX11_write RX11 (some .int) false ll_mN ll_mR ll_mK ll_cnt L xs false 66 (.inl (lo_push 68 (.int 56))) := lk_bipush (n := 56) (by decide +kernel) (by decide)
theorem k_208_68 (L : Nat) (xs : Nat → Int32) : ll_OK1 cX11_write RX11 (some .int) false ll_mN ll_mR ll_mK ll_cnt L xs false 68 (.inl (lo_push 70 (.int 8))) := lk_bipush (n := 8) (by decide +kernel) (by decide)
theorem k_208_70 (L : Nat) (xs : Nat → Int32) : ll_OK1 cX11_write RX11 (some .int) false ll_mN ll_mR ll_mK ll_cnt L xs false 70 (.inl (lo_iload 72 4)) := lk_iload (by decide +kernel)
theorem k_208_72 (L : Nat) (xs : Nat → Int32) : ll_OK1 cX11_write RX11 (some .int) false ll_mN ll_mR ll_mK ll_cnt L xs false 72 (.inl (lo_bin 73 (fun x y => x * y))) := lk_imul (by decide +kernel)
theorem k_208_73 (L : Nat) (xs : Nat → Int32) : ll_OK1 cX11_write RX11 (some .int) false ll_mN ll_mR ll_mK ll_cnt L xs false 73 (.inl (lo_bin 74 (fun x y => x - y))) := lk_isub (by decide +kernel)
theorem k_208_74 (L : Nat) (xs : Nat → Int32) : ll_OK1 cX11_write RX11 (some .int) false ll_mN ll_mR ll_mK ll_cnt L xs false 74 (.inl (lo_lsh 75 (fun x y => (x.toUInt64 >>> (y.toInt64.toUInt64 &&& Int64.toUInt64 63)).toInt64))) := lk_lushr (by decide +kernel)
theorem k_208_75 (L : Nat) (xs : Nat → Int32) : ll_OK1 cX11_write RX11 (some .int) false ll_mN ll_mR ll_mK ll_cnt L xs false 75 (.inl (lo_push 78 (.long 255))) := lk_ldc2 (ix := 300) (by decide +kernel) tb_785
theorem k_208_78 (L : Nat) (xs : Nat → Int32) : ll_OK1 cX11_write RX11 (some .int) false ll_mN ll_mR ll_mK ll_cnt L xs false 78 (.inl (lo_lbin 79 (fun x y => x &&& y))) := lk_land (by decide +kernel)
theorem k_208_79 (L : Nat) (xs : Nat → Int32) : ll_OK1 cX11_write RX11 (some .int) false ll_mN ll_mR ll_mK ll_cnt L xs false 79 (.inl (lo_l2i 80)) := lk_l2i (by decide +kernel)
theorem k_208_80 (L : Nat) (xs : Nat → Int32) : ll_OK1 cX11_write RX11 (some .int) false ll_mN ll_mR ll_mK ll_cnt L xs false 80 (.inl (lo_ast 81 0)) := lk_iast (by decide +kernel)
theorem k_208_81 (L : Nat) (xs : Nat → Int32) : ll_OK1 cX11_write RX11 (some .int) false ll_mN ll_mR ll_mK ll_cnt L xs false 81 (.inl (lo_iinc 84 4 1)) := lk_iinc (n := 1) (by decide +kernel) (by decide)
theorem k_208_84 (L : Nat) (xs : Nat → Int32) : ll_OK1 cX11_write RX11 (some .int) false ll_mN ll_mR ll_mK ll_cnt L xs false 84 (.inl (lo_goto 48)) := lk_goto (off := (-36)) (by decide +kernel) rfl
theorem k_208_87 (L : Nat) (xs : Nat → Int32) : ll_OK1 cX11_write RX11 (some .int) false ll_mN ll_mR ll_mK ll_cnt L xs false 87 (.inl (lo_aload 88 0)) := lk_aload_n (k := 0) (by decide +kernel) rfl
theorem k_208_88 (L : Nat) (xs : Nat → Int32) : ll_OK1 cX11_write RX11 (some .int) false ll_mN ll_mR ll_mK ll_cnt L xs false 88 (.inl (lo_dup 89)) := lk_dup (by decide +kernel)
theorem k_208_89 (L : Nat) (xs : Nat → Int32) : ll_OK1 cX11_write RX11 (some .int) false ll_mN ll_mR ll_mK ll_cnt L xs false 89 (.inl (lo_getf 92 11 3)) := lk_getf (ix := 279) (ci := 11) (k := 3) (C := RX11) (T := TX11) (N := 46) (by decide +kernel) rfl in_11 (by decide) tb_772
theorem k_208_92 (L : Nat) (xs : Nat → Int32) : ll_OK1 cX11_write RX11 (some .int) false ll_mN ll_mR ll_mK ll_cnt L xs false 92 (.inl (lo_iload 93 3)) := lk_iload_n (k := 3) (by decide +kernel) rfl
theorem k_208_93 (L : Nat) (xs : Nat → Int32) : ll_OK1 cX11_write RX11 (some .int) false ll_mN ll_mR ll_mK ll_cnt L xs false 93 (.inl (lo_bin 94 (fun x y => x + y))) := lk_iadd (by decide +kernel)
theorem k_208_94 (L : Nat) (xs : Nat → Int32) : ll_OK1 cX11_write RX11 (some .int) false ll_mN ll_mR ll_mK ll_cnt L xs false 94 (.inl (lo_putf 97 11 3 0)) := lk_putf (ix := 279) (ci := 11) (k := 3) (C := RX11) (T := TX11) (N := 46) (ty0 := tyX11) (by decide +kernel) rfl in_11 tyX11_ok nmX11 (by decide) tb_772 (fun B adr v w h1 h2 => ll_fit_int (B := B) (adr := adr) h1 h2) (Or.inl rfl)
theorem k_208_97 (L : Nat) (xs : Nat → Int32) : ll_OK1 cX11_write RX11 (some .int) false ll_mN ll_mR ll_mK ll_cnt L xs false 97 (.inl (lo_aload 98 0)) := lk_aload_n (k := 0) (by decide +kernel) rfl
theorem k_208_98 (L : Nat) (xs : Nat → Int32) : ll_OK1 cX11_write RX11 (some .int) false ll_mN ll_mR ll_mK ll_cnt L xs false 98 (.inl (lo_getf 101 11 3)) := lk_getf (ix := 279) (ci := 11) (k := 3) (C := RX11) (T := TX11) (N := 46) (by decide +kernel) rfl in_11 (by decide) tb_772
theorem k_208_101 (L : Nat) (xs : Nat → Int32) : ll_OK1 cX11_write RX11 (some .int) false ll_mN ll_mR ll_mK ll_cnt L xs false 101 (.inr (.inr 1)) := ⟨(fun h => by cases h), (fun _ => ⟨(by decide +kernel), rfl⟩), fun h => by cases h⟩
theorem ok_208 (L : Nat) (xs : Nat → Int32) : ∀ q ∈ cd_208, ll_OK1 cX11_write RX11 (some .int) false ll_mN ll_mR ll_mK ll_cnt L xs false q.1 q.2 :=
  List.forall_mem_cons.mpr ⟨k_208_0 L xs, List.forall_mem_cons.mpr ⟨k_208_1 L xs, List.forall_mem_cons.mpr ⟨k_208_2 L xs, List.forall_mem_cons.mpr ⟨k_208_3 L xs, List.forall_mem_cons.mpr ⟨k_208_5 L xs, List.forall_mem_cons.mpr ⟨k_208_8 L xs, List.forall_mem_cons.mpr ⟨k_208_9 L xs, List.forall_mem_cons.mpr ⟨k_208_11 L xs, List.forall_mem_cons.mpr ⟨k_208_13 L xs, List.forall_mem_cons.mpr ⟨k_208_14 L xs, List.forall_mem_cons.mpr ⟨k_208_15 L xs, List.forall_mem_cons.mpr ⟨k_208_16 L xs, List.forall_mem_cons.mpr ⟨k_208_17 L xs, List.forall_mem_cons.mpr ⟨k_208_20 L xs, List.forall_mem_cons.mpr ⟨k_208_21 L xs, List.forall_mem_cons.mpr ⟨k_208_22 L xs, List.forall_mem_cons.mpr ⟨k_208_23 L xs, List.forall_mem_cons.mpr ⟨k_208_26 L xs, List.forall_mem_cons.mpr ⟨k_208_29 L xs, List.forall_mem_cons.mpr ⟨k_208_32 L xs, List.forall_mem_cons.mpr ⟨k_208_33 L xs, List.forall_mem_cons.mpr ⟨k_208_36 L xs, List.forall_mem_cons.mpr ⟨k_208_37 L xs, List.forall_mem_cons.mpr ⟨k_208_38 L xs, List.forall_mem_cons.mpr ⟨k_208_40 L xs, List.forall_mem_cons.mpr ⟨k_208_43 L xs, List.forall_mem_cons.mpr ⟨k_208_44 L xs, List.forall_mem_cons.mpr ⟨k_208_45 L xs, List.forall_mem_cons.mpr ⟨k_208_46 L xs, List.forall_mem_cons.mpr ⟨k_208_48 L xs, List.forall_mem_cons.mpr ⟨k_208_50 L xs, List.forall_mem_cons.mpr ⟨k_208_51 L xs, List.forall_mem_cons.mpr ⟨k_208_54 L xs, List.forall_mem_cons.mpr ⟨k_208_55 L xs, List.forall_mem_cons.mpr ⟨k_208_58 L xs, List.forall_mem_cons.mpr ⟨k_208_59 L xs, List.forall_mem_cons.mpr ⟨k_208_62 L xs, List.forall_mem_cons.mpr ⟨k_208_64 L xs, List.forall_mem_cons.mpr ⟨k_208_65 L xs, List.forall_mem_cons.mpr ⟨k_208_66 L xs, List.forall_mem_cons.mpr ⟨k_208_68 L xs, List.forall_mem_cons.mpr ⟨k_208_70 L xs, List.forall_mem_cons.mpr ⟨k_208_72 L xs, List.forall_mem_cons.mpr ⟨k_208_73 L xs, List.forall_mem_cons.mpr ⟨k_208_74 L xs, List.forall_mem_cons.mpr ⟨k_208_75 L xs, List.forall_mem_cons.mpr ⟨k_208_78 L xs, List.forall_mem_cons.mpr ⟨k_208_79 L xs, List.forall_mem_cons.mpr ⟨k_208_80 L xs, List.forall_mem_cons.mpr ⟨k_208_81 L xs, List.forall_mem_cons.mpr ⟨k_208_84 L xs, List.forall_mem_cons.mpr ⟨k_208_87 L xs, List.forall_mem_cons.mpr ⟨k_208_88 L xs, List.forall_mem_cons.mpr ⟨k_208_89 L xs, List.forall_mem_cons.mpr ⟨k_208_92 L xs, List.forall_mem_cons.mpr ⟨k_208_93 L xs, List.forall_mem_cons.mpr ⟨k_208_94 L xs, List.forall_mem_cons.mpr ⟨k_208_97 L xs, List.forall_mem_cons.mpr ⟨k_208_98 L xs, List.forall_mem_cons.mpr ⟨k_208_101 L xs, fun _ h => absurd h List.not_mem_nil⟩⟩⟩⟩⟩⟩⟩⟩⟩⟩⟩⟩⟩⟩⟩⟩⟩⟩⟩⟩⟩⟩⟩⟩⟩⟩⟩⟩⟩⟩⟩⟩⟩⟩⟩⟩⟩⟩⟩⟩⟩⟩⟩⟩⟩⟩⟩⟩⟩⟩⟩⟩⟩⟩⟩⟩⟩⟩⟩⟩
/-- InclusionProverModel.isSide.(I)Z -/
def cd_209 : List (Nat × ll_O) := [
  (0, .inl (lo_iload 1 0)),
  (1, .inl (lo_if 9 4 (fun x => decide (x = 0)))),
  (4, .inl (lo_iload 5 0)),
  (5, .inl (lo_push 6 (.int 1))),
  (6, .inl (lo_cmp 13 9 (fun x y => decide (¬ x = y)))),
  (9, .inl (lo_push 10 (.int 1))),
  (10, .inl (lo_goto 14)),
  (13, .inl (lo_push 14 (.int 0))),
  (14, .inr (.inr 2))]
theorem k_209_0 (L : Nat) (xs : Nat → Int32) : ll_OK1 cX11_isSide RX11 (some .boolean) false ll_mN ll_mR ll_mK ll_cnt L xs false 0 (.inl (lo_iload 1 0)) := lk_iload_n (k := 0) (by decide +kernel) rfl
theorem k_209_1 (L : Nat) (xs : Nat → Int32) : ll_OK1 cX11_isSide RX11 (some .boolean) false ll_mN ll_mR ll_mK ll_cnt L xs false 1 (.inl (lo_if 9 4 (fun x => decide (x = 0)))) := lk_if_eq (off := 8) (by decide +kernel) rfl
theorem k_209_4 (L : Nat) (xs : Nat → Int32) : ll_OK1 cX11_isSide RX11 (some .boolean) false ll_mN ll_mR ll_mK ll_cnt L xs false 4 (.inl (lo_iload 5 0)) := lk_iload_n (k := 0) (by decide +kernel) rfl
theorem k_209_5 (L : Nat) (xs : Nat → Int32) : ll_OK1 cX11_isSide RX11 (some .boolean) false ll_mN ll_mR ll_mK ll_cnt L xs false 5 (.inl (lo_push 6 (.int 1))) := lk_iconst (n := 1) (by decide +kernel) (by decide)
theorem k_209_6 (L : Nat) (xs : Nat → Int32) : ll_OK1 cX11_isSide RX11 (some .boolean) false ll_mN ll_mR ll_mK ll_cnt L xs false 6 (.inl (lo_cmp 13 9 (fun x y => decide (¬ x = y)))) := lk_icmp_ne (off := 7) (by decide +kernel) rfl
theorem k_209_9 (L : Nat) (xs : Nat → Int32) : ll_OK1 cX11_isSide RX11 (some .boolean) false ll_mN ll_mR ll_mK ll_cnt L xs false 9 (.inl (lo_push 10 (.int 1))) := lk_iconst (n := 1) (by decide +kernel) (by decide)
theorem k_209_10 (L : Nat) (xs : Nat → Int32) : ll_OK1 cX11_isSide RX11 (some .boolean) false ll_mN ll_mR ll_mK ll_cnt L xs false 10 (.inl (lo_goto 14)) := lk_goto (off := 4) (by decide +kernel) rfl
theorem k_209_13 (L : Nat) (xs : Nat → Int32) : ll_OK1 cX11_isSide RX11 (some .boolean) false ll_mN ll_mR ll_mK ll_cnt L xs false 13 (.inl (lo_push 14 (.int 0))) := lk_iconst (n := 0) (by decide +kernel) (by decide)
theorem k_209_14 (L : Nat) (xs : Nat → Int32) : ll_OK1 cX11_isSide RX11 (some .boolean) false ll_mN ll_mR ll_mK ll_cnt L xs false 14 (.inr (.inr 2)) := ⟨(fun h => by cases h), (fun h => by cases h), fun _ => ⟨(by decide +kernel), rfl⟩⟩
theorem ok_209 (L : Nat) (xs : Nat → Int32) : ∀ q ∈ cd_209, ll_OK1 cX11_isSide RX11 (some .boolean) false ll_mN ll_mR ll_mK ll_cnt L xs false q.1 q.2 :=
  List.forall_mem_cons.mpr ⟨k_209_0 L xs, List.forall_mem_cons.mpr ⟨k_209_1 L xs, List.forall_mem_cons.mpr ⟨k_209_4 L xs, List.forall_mem_cons.mpr ⟨k_209_5 L xs, List.forall_mem_cons.mpr ⟨k_209_6 L xs, List.forall_mem_cons.mpr ⟨k_209_9 L xs, List.forall_mem_cons.mpr ⟨k_209_10 L xs, List.forall_mem_cons.mpr ⟨k_209_13 L xs, List.forall_mem_cons.mpr ⟨k_209_14 L xs, fun _ h => absurd h List.not_mem_nil⟩⟩⟩⟩⟩⟩⟩⟩⟩
/-- InclusionProverModel.becomes.(II)I -/
def cd_210 : List (Nat × ll_O) := [
  (0, .inl (lo_aload 1 0)),
  (1, .inl (lo_iload 2 2)),
  (2, .inr (.inl (169, 2, 5))),
  (5, .inl (lo_aload 6 0)),
  (6, .inl (lo_getf 9 11 30)),
  (9, .inl (lo_push 11 (.int 30))),
  (11, .inl (lo_cmp 16 14 (fun x y => decide (x ≤ y)))),
  (14, .inl (lo_push 15 (.int (-1)))),
  (15, .inr (.inr 1)),
  (16, .inl (lo_aload 17 0)),
  (17, .inl (lo_getf 20 11 0)),
  (20, .inl (lo_push 22 (.int 31))),
  (22, .inl (lo_iload 23 1)),
  (23, .inl (lo_bin 24 (fun x y => x * y))),
  (24, .inl (lo_aload 25 0)),
  (25, .inl (lo_getf 28 11 30)),
  (28, .inl (lo_ast 29 0)),
  (29, .inl (lo_push 30 (.int 0))),
  (30, .inl (lo_istore 31 3)),
  (31, .inl (lo_iload 32 3)),
  (32, .inl (lo_aload 33 0)),
  (33, .inl (lo_getf 36 11 30)),
  (36, .inl (lo_cmp 64 39 (fun x y => decide (y ≤ x)))),
  (39, .inl (lo_aload 40 0)),
  (40, .inl (lo_getf 43 11 0)),
  (43, .inl (lo_push 45 (.int 31))),
  (45, .inl (lo_iload 46 1)),
  (46, .inl (lo_bin 47 (fun x y => x * y))),
  (47, .inl (lo_push 48 (.int 1))),
  (48, .inl (lo_bin 49 (fun x y => x + y))),
  (49, .inl (lo_iload 50 3)),
  (50, .inl (lo_bin 51 (fun x y => x + y))),
  (51, .inl (lo_aload 52 0)),
  (52, .inl (lo_getf 55 11 28)),
  (55, .inl (lo_iload 56 3)),
  (56, .inl (lo_ald 57 0)),
  (57, .inl (lo_ast 58 0)),
  (58, .inl (lo_iinc 61 3 1)),
  (61, .inl (lo_goto 31)),
  (64, .inl (lo_aload 65 0)),
  (65, .inl (lo_push 66 (.int 0))),
  (66, .inr (.inl (190, 2, 69))),
  (69, .inl (lo_aload 70 0)),
  (70, .inl (lo_push 71 (.int 0))),
  (71, .inl (lo_push 73 (.int 31))),
  (73, .inr (.inl (180, 3, 76))),
  (76, .inl (lo_aload 77 0)),
  (77, .inl (lo_getf 80 11 35)),
  (80, .inl (lo_iload 81 1)),
  (81, .inl (lo_ald 82 0)),
  (82, .inr (.inr 1))]
theorem k_210_0 (L : Nat) (xs : Nat → Int32) : ll_OK1 cX11_becomes RX11 (some .int) false ll_mN ll_mR ll_mK ll_cnt L xs false 0 (.inl (lo_aload 1 0)) := lk_aload_n (k := 0) (by decide +kernel) rfl
theorem k_210_1 (L : Nat) (xs : Nat → Int32) : ll_OK1 cX11_becomes RX11 (some .int) false ll_mN ll_mR ll_mK ll_cnt L xs false 1 (.inl (lo_iload 2 2)) := lk_iload_n (k := 2) (by decide +kernel) rfl
theorem k_210_2 (L : Nat) (xs : Nat → Int32) : ll_OK1 cX11_becomes RX11 (some .int) false ll_mN ll_mR ll_mK ll_cnt L xs false 2 (.inr (.inl (169, 2, 5))) := ⟨rfl, by decide, by rw [mN_169, mK_169, mR_169]; exact lj_v 302 1 11 (RX11, TX11, 46) (by decide +kernel) tb_786 tb_787 tb_788 rfl rfl rfl rfl (by decide +kernel)⟩
theorem k_210_5 (L : Nat) (xs : Nat → Int32) : ll_OK1 cX11_becomes RX11 (some .int) false ll_mN ll_mR ll_mK ll_cnt L xs false 5 (.inl (lo_aload 6 0)) := lk_aload_n (k := 0) (by decide +kernel) rfl
theorem k_210_6 (L : Nat) (xs : Nat → Int32) : ll_OK1 cX11_becomes RX11 (some .int) false ll_mN ll_mR ll_mK ll_cnt L xs false 6 (.inl (lo_getf 9 11 30)) := lk_getf (ix := 181) (ci := 11) (k := 30) (C := RX11) (T := TX11) (N := 46) (by decide +kernel) rfl in_11 (by decide) tb_685
theorem k_210_9 (L : Nat) (xs : Nat → Int32) : ll_OK1 cX11_becomes RX11 (some .int) false ll_mN ll_mR ll_mK ll_cnt L xs false 9 (.inl (lo_push 11 (.int 30))) := lk_bipush (n := 30) (by decide +kernel) (by decide)
theorem k_210_11 (L : Nat) (xs : Nat → Int32) : ll_OK1 cX11_becomes RX11 (some .int) false ll_mN ll_mR ll_mK ll_cnt L xs false 11 (.inl (lo_cmp 16 14 (fun x y => decide (x ≤ y)))) := lk_icmp_le (off := 5) (by decide +kernel) rfl
theorem k_210_14 (L : Nat) (xs : Nat → Int32) : ll_OK1 cX11_becomes RX11 (some .int) false ll_mN ll_mR ll_mK ll_cnt L xs false 14 (.inl (lo_push 15 (.int (-1)))) := lk_iconst (n := (-1)) (by decide +kernel) (by decide)
theorem k_210_15 (L : Nat) (xs : Nat → Int32) : ll_OK1 cX11_becomes RX11 (some .int) false ll_mN ll_mR ll_mK ll_cnt L xs false 15 (.inr (.inr 1)) := ⟨(fun h => by cases h), (fun _ => ⟨(by decide +kernel), rfl⟩), fun h => by cases h⟩
theorem k_210_16 (L : Nat) (xs : Nat → Int32) : ll_OK1 cX11_becomes RX11 (some .int) false ll_mN ll_mR ll_mK ll_cnt L xs false 16 (.inl (lo_aload 17 0)) := lk_aload_n (k := 0) (by decide +kernel) rfl
theorem k_210_17 (L : Nat) (xs : Nat → Int32) : ll_OK1 cX11_becomes RX11 (some .int) false ll_mN ll_mR ll_mK ll_cnt L xs false 17 (.inl (lo_getf 20 11 0)) := lk_getf (ix := 8) (ci := 11) (k := 0) (C := RX11) (T := TX11) (N := 46) (by decide +kernel) rfl in_11 (by decide) tb_606
theorem k_210_20 (L : Nat) (xs : Nat → Int32) : ll_OK1 cX11_becomes RX11 (some .int) false ll_mN ll_mR ll_mK ll_cnt L xs false 20 (.inl (lo_push 22 (.int 31))) := lk_bipush (n := 31) (by decide +kernel) (by decide)
theorem k_210_22 (L : Nat) (xs : Nat → Int32) : ll_OK1 cX11_becomes RX11 (some .int) false ll_mN ll_mR ll_mK ll_cnt L xs false 22 (.inl (lo_iload 23 1)) := lk_iload_n (k := 1) (by decide +kernel) rfl
theorem k_210_23 (L : Nat) (xs : Nat → Int32) : ll_OK1 cX11_becomes RX11 (some .int) false ll_mN ll_mR ll_mK ll_cnt L xs false 23 (.inl (lo_bin 24 (fun x y => x * y))) := lk_imul (by decide +kernel)
theorem k_210_24 (L : Nat) (xs : Nat → Int32) : ll_OK1 cX11_becomes RX11 (some .int) false ll_mN ll_mR ll_mK ll_cnt L xs false 24 (.inl (lo_aload 25 0)) := lk_aload_n (k := 0) (by decide +kernel) rfl
theorem k_210_25 (L : Nat) (xs : Nat → Int32) : ll_OK1 cX11_becomes RX11 (some .int) false ll_mN ll_mR ll_mK ll_cnt L xs false 25 (.inl (lo_getf 28 11 30)) := lk_getf (ix := 181) (ci := 11) (k := 30) (C := RX11) (T := TX11) (N := 46) (by decide +kernel) rfl in_11 (by decide) tb_685
theorem k_210_28 (L : Nat) (xs : Nat → Int32) : ll_OK1 cX11_becomes RX11 (some .int) false ll_mN ll_mR ll_mK ll_cnt L xs false 28 (.inl (lo_ast 29 0)) := lk_iast (by decide +kernel)
theorem k_210_29 (L : Nat) (xs : Nat → Int32) : ll_OK1 cX11_becomes RX11 (some .int) false ll_mN ll_mR ll_mK ll_cnt L xs false 29 (.inl (lo_push 30 (.int 0))) := lk_iconst (n := 0) (by decide +kernel) (by decide)
theorem k_210_30 (L : Nat) (xs : Nat → Int32) : ll_OK1 cX11_becomes RX11 (some .int) false ll_mN ll_mR ll_mK ll_cnt L xs false 30 (.inl (lo_istore 31 3)) := lk_istore_n (k := 3) (by decide +kernel) rfl
theorem k_210_31 (L : Nat) (xs : Nat → Int32) : ll_OK1 cX11_becomes RX11 (some .int) false ll_mN ll_mR ll_mK ll_cnt L xs false 31 (.inl (lo_iload 32 3)) := lk_iload_n (k := 3) (by decide +kernel) rfl
theorem k_210_32 (L : Nat) (xs : Nat → Int32) : ll_OK1 cX11_becomes RX11 (some .int) false ll_mN ll_mR ll_mK ll_cnt L xs false 32 (.inl (lo_aload 33 0)) := lk_aload_n (k := 0) (by decide +kernel) rfl
theorem k_210_33 (L : Nat) (xs : Nat → Int32) : ll_OK1 cX11_becomes RX11 (some .int) false ll_mN ll_mR ll_mK ll_cnt L xs false 33 (.inl (lo_getf 36 11 30)) := lk_getf (ix := 181) (ci := 11) (k := 30) (C := RX11) (T := TX11) (N := 46) (by decide +kernel) rfl in_11 (by decide) tb_685
theorem k_210_36 (L : Nat) (xs : Nat → Int32) : ll_OK1 cX11_becomes RX11 (some .int) false ll_mN ll_mR ll_mK ll_cnt L xs false 36 (.inl (lo_cmp 64 39 (fun x y => decide (y ≤ x)))) := lk_icmp_ge (off := 28) (by decide +kernel) rfl
theorem k_210_39 (L : Nat) (xs : Nat → Int32) : ll_OK1 cX11_becomes RX11 (some .int) false ll_mN ll_mR ll_mK ll_cnt L xs false 39 (.inl (lo_aload 40 0)) := lk_aload_n (k := 0) (by decide +kernel) rfl
theorem k_210_40 (L : Nat) (xs : Nat → Int32) : ll_OK1 cX11_becomes RX11 (some .int) false ll_mN ll_mR ll_mK ll_cnt L xs false 40 (.inl (lo_getf 43 11 0)) := lk_getf (ix := 8) (ci := 11) (k := 0) (C := RX11) (T := TX11) (N := 46) (by decide +kernel) rfl in_11 (by decide) tb_606
theorem k_210_43 (L : Nat) (xs : Nat → Int32) : ll_OK1 cX11_becomes RX11 (some .int) false ll_mN ll_mR ll_mK ll_cnt L xs false 43 (.inl (lo_push 45 (.int 31))) := lk_bipush (n := 31) (by decide +kernel) (by decide)
theorem k_210_45 (L : Nat) (xs : Nat → Int32) : ll_OK1 cX11_becomes RX11 (some .int) false ll_mN ll_mR ll_mK ll_cnt L xs false 45 (.inl (lo_iload 46 1)) := lk_iload_n (k := 1) (by decide +kernel) rfl
theorem k_210_46 (L : Nat) (xs : Nat → Int32) : ll_OK1 cX11_becomes RX11 (some .int) false ll_mN ll_mR ll_mK ll_cnt L xs false 46 (.inl (lo_bin 47 (fun x y => x * y))) := lk_imul (by decide +kernel)
theorem k_210_47 (L : Nat) (xs : Nat → Int32) : ll_OK1 cX11_becomes RX11 (some .int) false ll_mN ll_mR ll_mK ll_cnt L xs false 47 (.inl (lo_push 48 (.int 1))) := lk_iconst (n := 1) (by decide +kernel) (by decide)
theorem k_210_48 (L : Nat) (xs : Nat → Int32) : ll_OK1 cX11_becomes RX11 (some .int) false ll_mN ll_mR ll_mK ll_cnt L xs false 48 (.inl (lo_bin 49 (fun x y => x + y))) := lk_iadd (by decide +kernel)
theorem k_210_49 (L : Nat) (xs : Nat → Int32) : ll_OK1 cX11_becomes RX11 (some .int) false ll_mN ll_mR ll_mK ll_cnt L xs false 49 (.inl (lo_iload 50 3)) := lk_iload_n (k := 3) (by decide +kernel) rfl
theorem k_210_50 (L : Nat) (xs : Nat → Int32) : ll_OK1 cX11_becomes RX11 (some .int) false ll_mN ll_mR ll_mK ll_cnt L xs false 50 (.inl (lo_bin 51 (fun x y => x + y))) := lk_iadd (by decide +kernel)
theorem k_210_51 (L : Nat) (xs : Nat → Int32) : ll_OK1 cX11_becomes RX11 (some .int) false ll_mN ll_mR ll_mK ll_cnt L xs false 51 (.inl (lo_aload 52 0)) := lk_aload_n (k := 0) (by decide +kernel) rfl
theorem k_210_52 (L : Nat) (xs : Nat → Int32) : ll_OK1 cX11_becomes RX11 (some .int) false ll_mN ll_mR ll_mK ll_cnt L xs false 52 (.inl (lo_getf 55 11 28)) := lk_getf (ix := 77) (ci := 11) (k := 28) (C := RX11) (T := TX11) (N := 46) (by decide +kernel) rfl in_11 (by decide) tb_628
theorem k_210_55 (L : Nat) (xs : Nat → Int32) : ll_OK1 cX11_becomes RX11 (some .int) false ll_mN ll_mR ll_mK ll_cnt L xs false 55 (.inl (lo_iload 56 3)) := lk_iload_n (k := 3) (by decide +kernel) rfl
theorem k_210_56 (L : Nat) (xs : Nat → Int32) : ll_OK1 cX11_becomes RX11 (some .int) false ll_mN ll_mR ll_mK ll_cnt L xs false 56 (.inl (lo_ald 57 0)) := lk_iald (by decide +kernel)
theorem k_210_57 (L : Nat) (xs : Nat → Int32) : ll_OK1 cX11_becomes RX11 (some .int) false ll_mN ll_mR ll_mK ll_cnt L xs false 57 (.inl (lo_ast 58 0)) := lk_iast (by decide +kernel)
theorem k_210_58 (L : Nat) (xs : Nat → Int32) : ll_OK1 cX11_becomes RX11 (some .int) false ll_mN ll_mR ll_mK ll_cnt L xs false 58 (.inl (lo_iinc 61 3 1)) := lk_iinc (n := 1) (by decide +kernel) (by decide)
theorem k_210_61 (L : Nat) (xs : Nat → Int32) : ll_OK1 cX11_becomes RX11 (some .int) false ll_mN ll_mR ll_mK ll_cnt L xs false 61 (.inl (lo_goto 31)) := lk_goto (off := (-30)) (by decide +kernel) rfl
theorem k_210_64 (L : Nat) (xs : Nat → Int32) : ll_OK1 cX11_becomes RX11 (some .int) false ll_mN ll_mR ll_mK ll_cnt L xs false 64 (.inl (lo_aload 65 0)) := lk_aload_n (k := 0) (by decide +kernel) rfl
theorem k_210_65 (L : Nat) (xs : Nat → Int32) : ll_OK1 cX11_becomes RX11 (some .int) false ll_mN ll_mR ll_mK ll_cnt L xs false 65 (.inl (lo_push 66 (.int 0))) := lk_iconst (n := 0) (by decide +kernel) (by decide)
theorem k_210_66 (L : Nat) (xs : Nat → Int32) : ll_OK1 cX11_becomes RX11 (some .int) false ll_mN ll_mR ll_mK ll_cnt L xs false 66 (.inr (.inl (190, 2, 69))) := ⟨rfl, by decide, by rw [mN_190, mK_190, mR_190]; exact lj_v 305 1 11 (RX11, TX11, 46) (by decide +kernel) tb_789 tb_790 tb_791 rfl rfl rfl rfl (by decide +kernel)⟩
theorem k_210_69 (L : Nat) (xs : Nat → Int32) : ll_OK1 cX11_becomes RX11 (some .int) false ll_mN ll_mR ll_mK ll_cnt L xs false 69 (.inl (lo_aload 70 0)) := lk_aload_n (k := 0) (by decide +kernel) rfl
theorem k_210_70 (L : Nat) (xs : Nat → Int32) : ll_OK1 cX11_becomes RX11 (some .int) false ll_mN ll_mR ll_mK ll_cnt L xs false 70 (.inl (lo_push 71 (.int 0))) := lk_iconst (n := 0) (by decide +kernel) (by decide)
theorem k_210_71 (L : Nat) (xs : Nat → Int32) : ll_OK1 cX11_becomes RX11 (some .int) false ll_mN ll_mR ll_mK ll_cnt L xs false 71 (.inl (lo_push 73 (.int 31))) := lk_bipush (n := 31) (by decide +kernel) (by decide)
theorem k_210_73 (L : Nat) (xs : Nat → Int32) : ll_OK1 cX11_becomes RX11 (some .int) false ll_mN ll_mR ll_mK ll_cnt L xs false 73 (.inr (.inl (180, 3, 76))) := ⟨rfl, by decide, by rw [mN_180, mK_180, mR_180]; exact lj_v 260 2 11 (RX11, TX11, 46) (by decide +kernel) tb_756 tb_757 tb_758 rfl rfl rfl rfl (by decide +kernel)⟩
theorem k_210_76 (L : Nat) (xs : Nat → Int32) : ll_OK1 cX11_becomes RX11 (some .int) false ll_mN ll_mR ll_mK ll_cnt L xs false 76 (.inl (lo_aload 77 0)) := lk_aload_n (k := 0) (by decide +kernel) rfl
theorem k_210_77 (L : Nat) (xs : Nat → Int32) : ll_OK1 cX11_becomes RX11 (some .int) false ll_mN ll_mR ll_mK ll_cnt L xs false 77 (.inl (lo_getf 80 11 35)) := lk_getf (ix := 89) (ci := 11) (k := 35) (C := RX11) (T := TX11) (N := 46) (by decide +kernel) rfl in_11 (by decide) tb_632
theorem k_210_80 (L : Nat) (xs : Nat → Int32) : ll_OK1 cX11_becomes RX11 (some .int) false ll_mN ll_mR ll_mK ll_cnt L xs false 80 (.inl (lo_iload 81 1)) := lk_iload_n (k := 1) (by decide +kernel) rfl
theorem k_210_81 (L : Nat) (xs : Nat → Int32) : ll_OK1 cX11_becomes RX11 (some .int) false ll_mN ll_mR ll_mK ll_cnt L xs false 81 (.inl (lo_ald 82 0)) := lk_iald (by decide +kernel)
theorem k_210_82 (L : Nat) (xs : Nat → Int32) : ll_OK1 cX11_becomes RX11 (some .int) false ll_mN ll_mR ll_mK ll_cnt L xs false 82 (.inr (.inr 1)) := ⟨(fun h => by cases h), (fun _ => ⟨(by decide +kernel), rfl⟩), fun h => by cases h⟩
theorem ok_210 (L : Nat) (xs : Nat → Int32) : ∀ q ∈ cd_210, ll_OK1 cX11_becomes RX11 (some .int) false ll_mN ll_mR ll_mK ll_cnt L xs false q.1 q.2 :=
  List.forall_mem_cons.mpr ⟨k_210_0 L xs, List.forall_mem_cons.mpr ⟨k_210_1 L xs, List.forall_mem_cons.mpr ⟨k_210_2 L xs, List.forall_mem_cons.mpr ⟨k_210_5 L xs, List.forall_mem_cons.mpr ⟨k_210_6 L xs, List.forall_mem_cons.mpr ⟨k_210_9 L xs, List.forall_mem_cons.mpr ⟨k_210_11 L xs, List.forall_mem_cons.mpr ⟨k_210_14 L xs, List.forall_mem_cons.mpr ⟨k_210_15 L xs, List.forall_mem_cons.mpr ⟨k_210_16 L xs, List.forall_mem_cons.mpr ⟨k_210_17 L xs, List.forall_mem_cons.mpr ⟨k_210_20 L xs, List.forall_mem_cons.mpr ⟨k_210_22 L xs, List.forall_mem_cons.mpr ⟨k_210_23 L xs, List.forall_mem_cons.mpr ⟨k_210_24 L xs, List.forall_mem_cons.mpr ⟨k_210_25 L xs, List.forall_mem_cons.mpr ⟨k_210_28 L xs, List.forall_mem_cons.mpr ⟨k_210_29 L xs, List.forall_mem_cons.mpr ⟨k_210_30 L xs, List.forall_mem_cons.mpr ⟨k_210_31 L xs, List.forall_mem_cons.mpr ⟨k_210_32 L xs, List.forall_mem_cons.mpr ⟨k_210_33 L xs, List.forall_mem_cons.mpr ⟨k_210_36 L xs, List.forall_mem_cons.mpr ⟨k_210_39 L xs, List.forall_mem_cons.mpr ⟨k_210_40 L xs, List.forall_mem_cons.mpr ⟨k_210_43 L xs, List.forall_mem_cons.mpr ⟨k_210_45 L xs, List.forall_mem_cons.mpr ⟨k_210_46 L xs, List.forall_mem_cons.mpr ⟨k_210_47 L xs, List.forall_mem_cons.mpr ⟨k_210_48 L xs, List.forall_mem_cons.mpr ⟨k_210_49 L xs, List.forall_mem_cons.mpr ⟨k_210_50 L xs, List.forall_mem_cons.mpr ⟨k_210_51 L xs, List.forall_mem_cons.mpr ⟨k_210_52 L xs, List.forall_mem_cons.mpr ⟨k_210_55 L xs, List.forall_mem_cons.mpr ⟨k_210_56 L xs, List.forall_mem_cons.mpr ⟨k_210_57 L xs, List.forall_mem_cons.mpr ⟨k_210_58 L xs, List.forall_mem_cons.mpr ⟨k_210_61 L xs, List.forall_mem_cons.mpr ⟨k_210_64 L xs, List.forall_mem_cons.mpr ⟨k_210_65 L xs, List.forall_mem_cons.mpr ⟨k_210_66 L xs, List.forall_mem_cons.mpr ⟨k_210_69 L xs, List.forall_mem_cons.mpr ⟨k_210_70 L xs, List.forall_mem_cons.mpr ⟨k_210_71 L xs, List.forall_mem_cons.mpr ⟨k_210_73 L xs, List.forall_mem_cons.mpr ⟨k_210_76 L xs, List.forall_mem_cons.mpr ⟨k_210_77 L xs, List.forall_mem_cons.mpr ⟨k_210_80 L xs, List.forall_mem_cons.mpr ⟨k_210_81 L xs, List.forall_mem_cons.mpr ⟨k_210_82 L xs, fun _ h => absurd h List.not_mem_nil⟩⟩⟩⟩⟩⟩⟩⟩⟩⟩⟩⟩⟩⟩⟩⟩⟩⟩⟩⟩⟩⟩⟩⟩⟩⟩⟩⟩⟩⟩⟩⟩⟩⟩⟩⟩⟩⟩⟩⟩⟩⟩⟩⟩⟩⟩⟩⟩⟩⟩⟩
/-- InclusionProverModel.side.(I)I -/
def cd_211 : List (Nat × ll_O) := [
  (0, .inl (lo_aload 1 0)),
  (1, .inl (lo_getf 4 11 3)),
  (4, .inl (lo_istore 5 2)),
  (5, .inl (lo_aload 6 0)),
  (6, .inl (lo_push 7 (.int 0))),
  (7, .inl (lo_putf 10 11 3 0)),
  (10, .inl (lo_aload 11 0)),
  (11, .inl (lo_push 12 (.int (-1)))),
  (12, .inl (lo_putf 15 11 4 0)),
  (15, .inl (lo_iload 16 1)),
  (16, .inr (.inl (209, 1, 19))),
  (19, .inl (lo_if 24 22 (fun x => decide (¬ x = 0)))),
  (22, .inl (lo_push 23 (.int (-1)))),
  (23, .inr (.inr 1)),
  (24, .inl (lo_aload 25 0)),
  (25, .inr (.inl (153, 1, 28))),
  (28, .inl (lo_aload 29 0)),
  (29, .inl (lo_aload 30 0)),
  (30, .inl (lo_getf 33 11 1)),
  (33, .inl (lo_push 34 (.int 0))),
  (34, .inl (lo_iload 35 2)),
  (35, .inl (lo_push 37 (.int 30))),
  (37, .inl (lo_cmp 45 40 (fun x y => decide (x ≤ y)))),
  (40, .inl (lo_push 42 (.int 30))),
  (42, .inl (lo_goto 46)),
  (45, .inl (lo_iload 46 2)),
  (46, .inr (.inl (166, 4, 49))),
  (49, .inl (lo_istore 50 3)),
  (50, .inl (lo_iload 51 2)),
  (51, .inl (lo_push 53 (.int 30))),
  (53, .inl (lo_cmp 70 56 (fun x y => decide (x ≤ y)))),
  (56, .inl (lo_aload 57 0)),
  (57, .inl (lo_getf 60 11 26)),
  (60, .inl (lo_push 61 (.int (-1)))),
  (61, .inl (lo_cmp 70 64 (fun x y => decide (¬ x = y)))),
  (64, .inl (lo_aload 65 0)),
  (65, .inl (lo_push 67 (.int 30))),
  (67, .inl (lo_putf 70 11 26 0)),
  (70, .inl (lo_aload 71 0)),
  (71, .inl (lo_aload 72 0)),
  (72, .inl (lo_getf 75 11 26)),
  (75, .inl (lo_putf 78 11 4 0)),
  (78, .inl (lo_aload 79 0)),
  (79, .inl (lo_getf 82 11 26)),
  (82, .inl (lo_push 83 (.int (-1)))),
  (83, .inl (lo_cmp 95 86 (fun x y => decide (¬ x = y)))),
  (86, .inl (lo_aload 87 0)),
  (87, .inl (lo_iload 88 1)),
  (88, .inl (lo_iload 89 3)),
  (89, .inr (.inl (210, 3, 92))),
  (92, .inl (lo_goto 96)),
  (95, .inl (lo_push 96 (.int (-1)))),
  (96, .inr (.inr 1))]
theorem k_211_0 (L : Nat) (xs : Nat → Int32) : ll_OK1 cX11_side RX11 (some .int) false ll_mN ll_mR ll_mK ll_cnt L xs false 0 (.inl (lo_aload 1 0)) := lk_aload_n (k := 0) (by decide +kernel) rfl
theorem k_211_1 (L : Nat) (xs : Nat → Int32) : ll_OK1 cX11_side RX11 (some .int) false ll_mN ll_mR ll_mK ll_cnt L xs false 1 (.inl (lo_getf 4 11 3)) := lk_getf (ix := 279) (ci := 11) (k := 3) (C := RX11) (T := TX11) (N := 46) (by decide +kernel) rfl in_11 (by decide) tb_772
theorem k_211_4 (L : Nat) (xs : Nat → Int32) : ll_OK1 cX11_side RX11 (some .int) false ll_mN ll_mR ll_mK ll_cnt L xs false 4 (.inl (lo_istore 5 2)) := lk_istore_n (k := 2) (by decide +kernel) rfl
theorem k_211_5 (L : Nat) (xs : Nat → Int32) : ll_OK1 cX11_side RX11 (some .int) false ll_mN ll_mR ll_mK ll_cnt L xs false 5 (.inl (lo_aload 6 0)) := lk_aload_n (k := 0) (by decide +kernel) rfl
theorem k_211_6 (L : Nat) (xs : Nat → Int32) : ll_OK1 cX11_side RX11 (some .int) false ll_mN ll_mR ll_mK ll_cnt L xs false 6 (.inl (lo_push 7 (.int 0))) := lk_iconst (n := 0) (by decide +kernel) (by decide)
theorem k_211_7 (L : Nat) (xs : Nat → Int32) : ll_OK1 cX11_side RX11 (some .int) false ll_mN ll_mR ll_mK ll_cnt L xs false 7 (.inl (lo_putf 10 11 3 0)) := lk_putf (ix := 279) (ci := 11) (k := 3) (C := RX11) (T := TX11) (N := 46) (ty0 := tyX11) (by decide +kernel) rfl in_11 tyX11_ok nmX11 (by decide) tb_772 (fun B adr v w h1 h2 => ll_fit_int (B := B) (adr := adr) h1 h2) (Or.inl rfl)
theorem k_211_10 (L : Nat) (xs : Nat → Int32) : ll_OK1 cX11_side RX11 (some .int) false ll_mN ll_mR ll_mK ll_cnt L xs false 10 (.inl (lo_aload 11 0)) := lk_aload_n (k := 0) (by decide +kernel) rfl
theorem k_211_11 (L : Nat) (xs : Nat → Int32) : ll_OK1 cX11_side RX11 (some .int) false ll_mN ll_mR ll_mK ll_cnt L xs false 11 (.inl (lo_push 12 (.int (-1)))) := lk_iconst (n := (-1)) (by decide +kernel) (by decide)
theorem k_211_12 (L : Nat) (xs : Nat → Int32) : ll_OK1 cX11_side RX11 (some .int) false ll_mN ll_mR ll_mK ll_cnt L xs false 12 (.inl (lo_putf 15 11 4 0)) := lk_putf (ix := 21) (ci := 11) (k := 4) (C := RX11) (T := TX11) (N := 46) (ty0 := tyX11) (by decide +kernel) rfl in_11 tyX11_ok nmX11 (by decide) tb_609 (fun B adr v w h1 h2 => ll_fit_int (B := B) (adr := adr) h1 h2) (Or.inl rfl)
theorem k_211_15 (L : Nat) (xs : Nat → Int32) : ll_OK1 cX11_side RX11 (some .int) false ll_mN ll_mR ll_mK ll_cnt L xs false 15 (.inl (lo_iload 16 1)) := lk_iload_n (k := 1) (by decide +kernel) rfl
theorem k_211_16 (L : Nat) (xs : Nat → Int32) : ll_OK1 cX11_side RX11 (some .int) false ll_mN ll_mR ll_mK ll_cnt L xs false 16 (.inr (.inl (209, 1, 19))) := ⟨rfl, by decide, by rw [mN_209, mK_209, mR_209]; exact lj_s 308 (by decide +kernel) tb_792 tb_793 (by decide +kernel)⟩
theorem k_211_19 (L : Nat) (xs : Nat → Int32) : ll_OK1 cX11_side RX11 (some .int) false ll_mN ll_mR ll_mK ll_cnt L xs false 19 (.inl (lo_if 24 22 (fun x => decide (¬ x = 0)))) := lk_if_ne (off := 5) (by decide +kernel) rfl
theorem k_211_22 (L : Nat) (xs : Nat → Int32) : ll_OK1 cX11_side RX11 (some .int) false ll_mN ll_mR ll_mK ll_cnt L xs false 22 (.inl (lo_push 23 (.int (-1)))) := lk_iconst (n := (-1)) (by decide +kernel) (by decide)
theorem k_211_23 (L : Nat) (xs : Nat → Int32) : ll_OK1 cX11_side RX11 (some .int) false ll_mN ll_mR ll_mK ll_cnt L xs false 23 (.inr (.inr 1)) := ⟨(fun h => by cases h), (fun _ => ⟨(by decide +kernel), rfl⟩), fun h => by cases h⟩
theorem k_211_24 (L : Nat) (xs : Nat → Int32) : ll_OK1 cX11_side RX11 (some .int) false ll_mN ll_mR ll_mK ll_cnt L xs false 24 (.inl (lo_aload 25 0)) := lk_aload_n (k := 0) (by decide +kernel) rfl
theorem k_211_25 (L : Nat) (xs : Nat → Int32) : ll_OK1 cX11_side RX11 (some .int) false ll_mN ll_mR ll_mK ll_cnt L xs false 25 (.inr (.inl (153, 1, 28))) := ⟨rfl, by decide, by rw [mN_153, mK_153, mR_153]; exact lj_v 225 0 11 (RX11, TX11, 46) (by decide +kernel) tb_723 tb_724 tb_725 rfl rfl rfl rfl (by decide +kernel)⟩
theorem k_211_28 (L : Nat) (xs : Nat → Int32) : ll_OK1 cX11_side RX11 (some .int) false ll_mN ll_mR ll_mK ll_cnt L xs false 28 (.inl (lo_aload 29 0)) := lk_aload_n (k := 0) (by decide +kernel) rfl
theorem k_211_29 (L : Nat) (xs : Nat → Int32) : ll_OK1 cX11_side RX11 (some .int) false ll_mN ll_mR ll_mK ll_cnt L xs false 29 (.inl (lo_aload 30 0)) := lk_aload_n (k := 0) (by decide +kernel) rfl
theorem k_211_30 (L : Nat) (xs : Nat → Int32) : ll_OK1 cX11_side RX11 (some .int) false ll_mN ll_mR ll_mK ll_cnt L xs false 30 (.inl (lo_getf 33 11 1)) := lk_getf (ix := 14) (ci := 11) (k := 1) (C := RX11) (T := TX11) (N := 46) (by decide +kernel) rfl in_11 (by decide) tb_607
theorem k_211_33 (L : Nat) (xs : Nat → Int32) : ll_OK1 cX11_side RX11 (some .int) false ll_mN ll_mR ll_mK ll_cnt L xs false 33 (.inl (lo_push 34 (.int 0))) := lk_iconst (n := 0) (by decide +kernel) (by decide)
theorem k_211_34 (L : Nat) (xs : Nat → Int32) : ll_OK1 cX11_side RX11 (some .int) false ll_mN ll_mR ll_mK ll_cnt L xs false 34 (.inl (lo_iload 35 2)) := lk_iload_n (k := 2) (by decide +kernel) rfl
theorem k_211_35 (L : Nat) (xs : Nat → Int32) : ll_OK1 cX11_side RX11 (some .int) false ll_mN ll_mR ll_mK ll_cnt L xs false 35 (.inl (lo_push 37 (.int 30))) := lk_bipush (n := 30) (by decide +kernel) (by decide)
theorem k_211_37 (L : Nat) (xs : Nat → Int32) : ll_OK1 cX11_side RX11 (some .int) false ll_mN ll_mR ll_mK ll_cnt L xs false 37 (.inl (lo_cmp 45 40 (fun x y => decide (x ≤ y)))) := lk_icmp_le (off := 8) (by decide +kernel) rfl
theorem k_211_40 (L : Nat) (xs : Nat → Int32) : ll_OK1 cX11_side RX11 (some .int) false ll_mN ll_mR ll_mK ll_cnt L xs false 40 (.inl (lo_push 42 (.int 30))) := lk_bipush (n := 30) (by decide +kernel) (by decide)
theorem k_211_42 (L : Nat) (xs : Nat → Int32) : ll_OK1 cX11_side RX11 (some .int) false ll_mN ll_mR ll_mK ll_cnt L xs false 42 (.inl (lo_goto 46)) := lk_goto (off := 4) (by decide +kernel) rfl
theorem k_211_45 (L : Nat) (xs : Nat → Int32) : ll_OK1 cX11_side RX11 (some .int) false ll_mN ll_mR ll_mK ll_cnt L xs false 45 (.inl (lo_iload 46 2)) := lk_iload_n (k := 2) (by decide +kernel) rfl
theorem k_211_46 (L : Nat) (xs : Nat → Int32) : ll_OK1 cX11_side RX11 (some .int) false ll_mN ll_mR ll_mK ll_cnt L xs false 46 (.inr (.inl (166, 4, 49))) := ⟨rfl, by decide, by rw [mN_166, mK_166, mR_166]; exact lj_v 228 3 11 (RX11, TX11, 46) (by decide +kernel) tb_726 tb_727 tb_728 rfl rfl rfl rfl (by decide +kernel)⟩
theorem k_211_49 (L : Nat) (xs : Nat → Int32) : ll_OK1 cX11_side RX11 (some .int) false ll_mN ll_mR ll_mK ll_cnt L xs false 49 (.inl (lo_istore 50 3)) := lk_istore_n (k := 3) (by decide +kernel) rfl
theorem k_211_50 (L : Nat) (xs : Nat → Int32) : ll_OK1 cX11_side RX11 (some .int) false ll_mN ll_mR ll_mK ll_cnt L xs false 50 (.inl (lo_iload 51 2)) := lk_iload_n (k := 2) (by decide +kernel) rfl
theorem k_211_51 (L : Nat) (xs : Nat → Int32) : ll_OK1 cX11_side RX11 (some .int) false ll_mN ll_mR ll_mK ll_cnt L xs false 51 (.inl (lo_push 53 (.int 30))) := lk_bipush (n := 30) (by decide +kernel) (by decide)
theorem k_211_53 (L : Nat) (xs : Nat → Int32) : ll_OK1 cX11_side RX11 (some .int) false ll_mN ll_mR ll_mK ll_cnt L xs false 53 (.inl (lo_cmp 70 56 (fun x y => decide (x ≤ y)))) := lk_icmp_le (off := 17) (by decide +kernel) rfl
theorem k_211_56 (L : Nat) (xs : Nat → Int32) : ll_OK1 cX11_side RX11 (some .int) false ll_mN ll_mR ll_mK ll_cnt L xs false 56 (.inl (lo_aload 57 0)) := lk_aload_n (k := 0) (by decide +kernel) rfl
theorem k_211_57 (L : Nat) (xs : Nat → Int32) : ll_OK1 cX11_side RX11 (some .int) false ll_mN ll_mR ll_mK ll_cnt L xs false 57 (.inl (lo_getf 60 11 26)) := lk_getf (ix := 157) (ci := 11) (k := 26) (C := RX11) (T := TX11) (N := 46) (by decide +kernel) rfl in_11 (by decide) tb_669
theorem k_211_60 (L : Nat) (xs : Nat → Int32) : ll_OK1 cX11_side RX11 (some .int) false ll_mN ll_mR ll_mK ll_cnt L xs false 60 (.inl (lo_push 61 (.int (-1)))) := lk_iconst (n := (-1)) (by decide +kernel) (by decide)
theorem k_211_61 (L : Nat) (xs : Nat → Int32) : ll_OK1 cX11_side RX11 (some .int) false ll_mN ll_mR ll_mK ll_cnt L xs false 61 (.inl (lo_cmp 70 64 (fun x y => decide (¬ x = y)))) := lk_icmp_ne (off := 9) (by decide +kernel) rfl
theorem k_211_64 (L : Nat) (xs : Nat → Int32) : ll_OK1 cX11_side RX11 (some .int) false ll_mN ll_mR ll_mK ll_cnt L xs false 64 (.inl (lo_aload 65 0)) := lk_aload_n (k := 0) (by decide +kernel) rfl
theorem k_211_65 (L : Nat) (xs : Nat → Int32) : ll_OK1 cX11_side RX11 (some .int) false ll_mN ll_mR ll_mK ll_cnt L xs false 65 (.inl (lo_push 67 (.int 30))) := lk_bipush (n := 30) (by decide +kernel) (by decide)
theorem k_211_67 (L : Nat) (xs : Nat → Int32) : ll_OK1 cX11_side RX11 (some .int) false ll_mN ll_mR ll_mK ll_cnt L xs false 67 (.inl (lo_putf 70 11 26 0)) := lk_putf (ix := 157) (ci := 11) (k := 26) (C := RX11) (T := TX11) (N := 46) (ty0 := tyX11) (by decide +kernel) rfl in_11 tyX11_ok nmX11 (by decide) tb_669 (fun B adr v w h1 h2 => ll_fit_int (B := B) (adr := adr) h1 h2) (Or.inl rfl)
theorem k_211_70 (L : Nat) (xs : Nat → Int32) : ll_OK1 cX11_side RX11 (some .int) false ll_mN ll_mR ll_mK ll_cnt L xs false 70 (.inl (lo_aload 71 0)) := lk_aload_n (k := 0) (by decide +kernel) rfl
theorem k_211_71 (L : Nat) (xs : Nat → Int32) : ll_OK1 cX11_side RX11 (some .int) false ll_mN ll_mR ll_mK ll_cnt L xs false 71 (.inl (lo_aload 72 0)) := lk_aload_n (k := 0) (by decide +kernel) rfl
theorem k_211_72 (L : Nat) (xs : Nat → Int32) : ll_OK1 cX11_side RX11 (some .int) false ll_mN ll_mR ll_mK ll_cnt L xs false 72 (.inl (lo_getf 75 11 26)) := lk_getf (ix := 157) (ci := 11) (k := 26) (C := RX11) (T := TX11) (N := 46) (by decide +kernel) rfl in_11 (by decide) tb_669
theorem k_211_75 (L : Nat) (xs : Nat → Int32) : ll_OK1 cX11_side RX11 (some .int) false ll_mN ll_mR ll_mK ll_cnt L xs false 75 (.inl (lo_putf 78 11 4 0)) := lk_putf (ix := 21) (ci := 11) (k := 4) (C := RX11) (T := TX11) (N := 46) (ty0 := tyX11) (by decide +kernel) rfl in_11 tyX11_ok nmX11 (by decide) tb_609 (fun B adr v w h1 h2 => ll_fit_int (B := B) (adr := adr) h1 h2) (Or.inl rfl)
theorem k_211_78 (L : Nat) (xs : Nat → Int32) : ll_OK1 cX11_side RX11 (some .int) false ll_mN ll_mR ll_mK ll_cnt L xs false 78 (.inl (lo_aload 79 0)) := lk_aload_n (k := 0) (by decide +kernel) rfl
theorem k_211_79 (L : Nat) (xs : Nat → Int32) : ll_OK1 cX11_side RX11 (some .int) false ll_mN ll_mR ll_mK ll_cnt L xs false 79 (.inl (lo_getf 82 11 26)) := lk_getf (ix := 157) (ci := 11) (k := 26) (C := RX11) (T := TX11) (N := 46) (by decide +kernel) rfl in_11 (by decide) tb_669
theorem k_211_82 (L : Nat) (xs : Nat → Int32) : ll_OK1 cX11_side RX11 (some .int) false ll_mN ll_mR ll_mK ll_cnt L xs false 82 (.inl (lo_push 83 (.int (-1)))) := lk_iconst (n := (-1)) (by decide +kernel) (by decide)
theorem k_211_83 (L : Nat) (xs : Nat → Int32) : ll_OK1 cX11_side RX11 (some .int) false ll_mN ll_mR ll_mK ll_cnt L xs false 83 (.inl (lo_cmp 95 86 (fun x y => decide (¬ x = y)))) := lk_icmp_ne (off := 12) (by decide +kernel) rfl
theorem k_211_86 (L : Nat) (xs : Nat → Int32) : ll_OK1 cX11_side RX11 (some .int) false ll_mN ll_mR ll_mK ll_cnt L xs false 86 (.inl (lo_aload 87 0)) := lk_aload_n (k := 0) (by decide +kernel) rfl
theorem k_211_87 (L : Nat) (xs : Nat → Int32) : ll_OK1 cX11_side RX11 (some .int) false ll_mN ll_mR ll_mK ll_cnt L xs false 87 (.inl (lo_iload 88 1)) := lk_iload_n (k := 1) (by decide +kernel) rfl
theorem k_211_88 (L : Nat) (xs : Nat → Int32) : ll_OK1 cX11_side RX11 (some .int) false ll_mN ll_mR ll_mK ll_cnt L xs false 88 (.inl (lo_iload 89 3)) := lk_iload_n (k := 3) (by decide +kernel) rfl
theorem k_211_89 (L : Nat) (xs : Nat → Int32) : ll_OK1 cX11_side RX11 (some .int) false ll_mN ll_mR ll_mK ll_cnt L xs false 89 (.inr (.inl (210, 3, 92))) := ⟨rfl, by decide, by rw [mN_210, mK_210, mR_210]; exact lj_v 311 2 11 (RX11, TX11, 46) (by decide +kernel) tb_794 tb_795 tb_796 rfl rfl rfl rfl (by decide +kernel)⟩
theorem k_211_92 (L : Nat) (xs : Nat → Int32) : ll_OK1 cX11_side RX11 (some .int) false ll_mN ll_mR ll_mK ll_cnt L xs false 92 (.inl (lo_goto 96)) := lk_goto (off := 4) (by decide +kernel) rfl
theorem k_211_95 (L : Nat) (xs : Nat → Int32) : ll_OK1 cX11_side RX11 (some .int) false ll_mN ll_mR ll_mK ll_cnt L xs false 95 (.inl (lo_push 96 (.int (-1)))) := lk_iconst (n := (-1)) (by decide +kernel) (by decide)
theorem k_211_96 (L : Nat) (xs : Nat → Int32) : ll_OK1 cX11_side RX11 (some .int) false ll_mN ll_mR ll_mK ll_cnt L xs false 96 (.inr (.inr 1)) := ⟨(fun h => by cases h), (fun _ => ⟨(by decide +kernel), rfl⟩), fun h => by cases h⟩
theorem ok_211 (L : Nat) (xs : Nat → Int32) : ∀ q ∈ cd_211, ll_OK1 cX11_side RX11 (some .int) false ll_mN ll_mR ll_mK ll_cnt L xs false q.1 q.2 :=
  List.forall_mem_cons.mpr ⟨k_211_0 L xs, List.forall_mem_cons.mpr ⟨k_211_1 L xs, List.forall_mem_cons.mpr ⟨k_211_4 L xs, List.forall_mem_cons.mpr ⟨k_211_5 L xs, List.forall_mem_cons.mpr ⟨k_211_6 L xs, List.forall_mem_cons.mpr ⟨k_211_7 L xs, List.forall_mem_cons.mpr ⟨k_211_10 L xs, List.forall_mem_cons.mpr ⟨k_211_11 L xs, List.forall_mem_cons.mpr ⟨k_211_12 L xs, List.forall_mem_cons.mpr ⟨k_211_15 L xs, List.forall_mem_cons.mpr ⟨k_211_16 L xs, List.forall_mem_cons.mpr ⟨k_211_19 L xs, List.forall_mem_cons.mpr ⟨k_211_22 L xs, List.forall_mem_cons.mpr ⟨k_211_23 L xs, List.forall_mem_cons.mpr ⟨k_211_24 L xs, List.forall_mem_cons.mpr ⟨k_211_25 L xs, List.forall_mem_cons.mpr ⟨k_211_28 L xs, List.forall_mem_cons.mpr ⟨k_211_29 L xs, List.forall_mem_cons.mpr ⟨k_211_30 L xs, List.forall_mem_cons.mpr ⟨k_211_33 L xs, List.forall_mem_cons.mpr ⟨k_211_34 L xs, List.forall_mem_cons.mpr ⟨k_211_35 L xs, List.forall_mem_cons.mpr ⟨k_211_37 L xs, List.forall_mem_cons.mpr ⟨k_211_40 L xs, List.forall_mem_cons.mpr ⟨k_211_42 L xs, List.forall_mem_cons.mpr ⟨k_211_45 L xs, List.forall_mem_cons.mpr ⟨k_211_46 L xs, List.forall_mem_cons.mpr ⟨k_211_49 L xs, List.forall_mem_cons.mpr ⟨k_211_50 L xs, List.forall_mem_cons.mpr ⟨k_211_51 L xs, List.forall_mem_cons.mpr ⟨k_211_53 L xs, List.forall_mem_cons.mpr ⟨k_211_56 L xs, List.forall_mem_cons.mpr ⟨k_211_57 L xs, List.forall_mem_cons.mpr ⟨k_211_60 L xs, List.forall_mem_cons.mpr ⟨k_211_61 L xs, List.forall_mem_cons.mpr ⟨k_211_64 L xs, List.forall_mem_cons.mpr ⟨k_211_65 L xs, List.forall_mem_cons.mpr ⟨k_211_67 L xs, List.forall_mem_cons.mpr ⟨k_211_70 L xs, List.forall_mem_cons.mpr ⟨k_211_71 L xs, List.forall_mem_cons.mpr ⟨k_211_72 L xs, List.forall_mem_cons.mpr ⟨k_211_75 L xs, List.forall_mem_cons.mpr ⟨k_211_78 L xs, List.forall_mem_cons.mpr ⟨k_211_79 L xs, List.forall_mem_cons.mpr ⟨k_211_82 L xs, List.forall_mem_cons.mpr ⟨k_211_83 L xs, List.forall_mem_cons.mpr ⟨k_211_86 L xs, List.forall_mem_cons.mpr ⟨k_211_87 L xs, List.forall_mem_cons.mpr ⟨k_211_88 L xs, List.forall_mem_cons.mpr ⟨k_211_89 L xs, List.forall_mem_cons.mpr ⟨k_211_92 L xs, List.forall_mem_cons.mpr ⟨k_211_95 L xs, List.forall_mem_cons.mpr ⟨k_211_96 L xs, fun _ h => absurd h List.not_mem_nil⟩⟩⟩⟩⟩⟩⟩⟩⟩⟩⟩⟩⟩⟩⟩⟩⟩⟩⟩⟩⟩⟩⟩⟩⟩⟩⟩⟩⟩⟩⟩⟩⟩⟩⟩⟩⟩⟩⟩⟩⟩⟩⟩⟩⟩⟩⟩⟩⟩⟩⟩⟩⟩
/-- InclusionProverModel.fault.()I -/
def cd_212 : List (Nat × ll_O) := [
  (0, .inl (lo_aload 1 0)),
  (1, .inl (lo_getf 4 11 4)),
  (4, .inr (.inr 1))]
theorem k_212_0 (L : Nat) (xs : Nat → Int32) : ll_OK1 cX11_fault RX11 (some .int) false ll_mN ll_mR ll_mK ll_cnt L xs false 0 (.inl (lo_aload 1 0)) := lk_aload_n (k := 0) (by decide +kernel) rfl
theorem k_212_1 (L : Nat) (xs : Nat → Int32) : ll_OK1 cX11_fault RX11 (some .int) false ll_mN ll_mR ll_mK ll_cnt L xs false 1 (.inl (lo_getf 4 11 4)) := lk_getf (ix := 21) (ci := 11) (k := 4) (C := RX11) (T := TX11) (N := 46) (by decide +kernel) rfl in_11 (by decide) tb_609
theorem k_212_4 (L : Nat) (xs : Nat → Int32) : ll_OK1 cX11_fault RX11 (some .int) false ll_mN ll_mR ll_mK ll_cnt L xs false 4 (.inr (.inr 1)) := ⟨(fun h => by cases h), (fun _ => ⟨(by decide +kernel), rfl⟩), fun h => by cases h⟩
theorem ok_212 (L : Nat) (xs : Nat → Int32) : ∀ q ∈ cd_212, ll_OK1 cX11_fault RX11 (some .int) false ll_mN ll_mR ll_mK ll_cnt L xs false q.1 q.2 :=
  List.forall_mem_cons.mpr ⟨k_212_0 L xs, List.forall_mem_cons.mpr ⟨k_212_1 L xs, List.forall_mem_cons.mpr ⟨k_212_4 L xs, fun _ h => absurd h List.not_mem_nil⟩⟩⟩
/-- InclusionProverModel.swap.()V -/
def cd_213 : List (Nat × ll_O) := [
  (0, .inl (lo_aload 1 0)),
  (1, .inl (lo_push 2 (.int 0))),
  (2, .inl (lo_push 5 (.int 10689))),
  (5, .inl (lo_push 7 (.int 31))),
  (7, .inr (.inl (152, 4, 10))),
  (10, .inl (lo_aload 11 0)),
  (11, .inl (lo_push 13 (.int 31))),
  (13, .inl (lo_push 14 (.int 0))),
  (14, .inl (lo_push 16 (.int 31))),
  (16, .inr (.inl (152, 4, 19))),
  (19, .inl (lo_aload 20 0)),
  (20, .inl (lo_push 23 (.int 10689))),
  (23, .inl (lo_push 25 (.int 31))),
  (25, .inl (lo_push 27 (.int 31))),
  (27, .inr (.inl (152, 4, 30))),
  (30, .inl (lo_aload 31 0)),
  (31, .inl (lo_push 32 (.int 0))),
  (32, .inr (.inl (190, 2, 35))),
  (35, .inr (.inr 0))]
theorem k_213_0 (L : Nat) (xs : Nat → Int32) : ll_OK1 cX11_swap RX11 none false ll_mN ll_mR ll_mK ll_cnt L xs false 0 (.inl (lo_aload 1 0)) := lk_aload_n (k := 0) (by decide +kernel) rfl
theorem k_213_1 (L : Nat) (xs : Nat → Int32) : ll_OK1 cX11_swap RX11 none false ll_mN ll_mR ll_mK ll_cnt L xs false 1 (.inl (lo_push 2 (.int 0))) := lk_iconst (n := 0) (by decide +kernel) (by decide)
theorem k_213_2 (L : Nat) (xs : Nat → Int32) : ll_OK1 cX11_swap RX11 none false ll_mN ll_mR ll_mK ll_cnt L xs false 2 (.inl (lo_push 5 (.int 10689))) := lk_sipush (n := 10689) (by decide +kernel) (by decide)
theorem k_213_5 (L : Nat) (xs : Nat → Int32) : ll_OK1 cX11_swap RX11 none false ll_mN ll_mR ll_mK ll_cnt L xs false 5 (.inl (lo_push 7 (.int 31))) := lk_bipush (n := 31) (by decide +kernel) (by decide)
theorem k_213_7 (L : Nat) (xs : Nat → Int32) : ll_OK1 cX11_swap RX11 none false ll_mN ll_mR ll_mK ll_cnt L xs false 7 (.inr (.inl (152, 4, 10))) := ⟨rfl, by decide, by rw [mN_152, mK_152, mR_152]; exact lj_v 314 3 11 (RX11, TX11, 46) (by decide +kernel) tb_797 tb_798 tb_799 rfl rfl rfl rfl (by decide +kernel)⟩
theorem k_213_10 (L : Nat) (xs : Nat → Int32) : ll_OK1 cX11_swap RX11 none false ll_mN ll_mR ll_mK ll_cnt L xs false 10 (.inl (lo_aload 11 0)) := lk_aload_n (k := 0) (by decide +kernel) rfl
theorem k_213_11 (L : Nat) (xs : Nat → Int32) : ll_OK1 cX11_swap RX11 none false ll_mN ll_mR ll_mK ll_cnt L xs false 11 (.inl (lo_push 13 (.int 31))) := lk_bipush (n := 31) (by decide +kernel) (by decide)
theorem k_213_13 (L : Nat) (xs : Nat → Int32) : ll_OK1 cX11_swap RX11 none false ll_mN ll_mR ll_mK ll_cnt L xs false 13 (.inl (lo_push 14 (.int 0))) := lk_iconst (n := 0) (by decide +kernel) (by decide)
theorem k_213_14 (L : Nat) (xs : Nat → Int32) : ll_OK1 cX11_swap RX11 none false ll_mN ll_mR ll_mK ll_cnt L xs false 14 (.inl (lo_push 16 (.int 31))) := lk_bipush (n := 31) (by decide +kernel) (by decide)
theorem k_213_16 (L : Nat) (xs : Nat → Int32) : ll_OK1 cX11_swap RX11 none false ll_mN ll_mR ll_mK ll_cnt L xs false 16 (.inr (.inl (152, 4, 19))) := ⟨rfl, by decide, by rw [mN_152, mK_152, mR_152]; exact lj_v 314 3 11 (RX11, TX11, 46) (by decide +kernel) tb_797 tb_798 tb_799 rfl rfl rfl rfl (by decide +kernel)⟩
theorem k_213_19 (L : Nat) (xs : Nat → Int32) : ll_OK1 cX11_swap RX11 none false ll_mN ll_mR ll_mK ll_cnt L xs false 19 (.inl (lo_aload 20 0)) := lk_aload_n (k := 0) (by decide +kernel) rfl
theorem k_213_20 (L : Nat) (xs : Nat → Int32) : ll_OK1 cX11_swap RX11 none false ll_mN ll_mR ll_mK ll_cnt L xs false 20 (.inl (lo_push 23 (.int 10689))) := lk_sipush (n := 10689) (by decide +kernel) (by decide)
theorem k_213_23 (L : Nat) (xs : Nat → Int32) : ll_OK1 cX11_swap RX11 none false ll_mN ll_mR ll_mK ll_cnt L xs false 23 (.inl (lo_push 25 (.int 31))) := lk_bipush (n := 31) (by decide +kernel) (by decide)
theorem k_213_25 (L : Nat) (xs : Nat → Int32) : ll_OK1 cX11_swap RX11 none false ll_mN ll_mR ll_mK ll_cnt L xs false 25 (.inl (lo_push 27 (.int 31))) := lk_bipush (n := 31) (by decide +kernel) (by decide)
theorem k_213_27 (L : Nat) (xs : Nat → Int32) : ll_OK1 cX11_swap RX11 none false ll_mN ll_mR ll_mK ll_cnt L xs false 27 (.inr (.inl (152, 4, 30))) := ⟨rfl, by decide, by rw [mN_152, mK_152, mR_152]; exact lj_v 314 3 11 (RX11, TX11, 46) (by decide +kernel) tb_797 tb_798 tb_799 rfl rfl rfl rfl (by decide +kernel)⟩
theorem k_213_30 (L : Nat) (xs : Nat → Int32) : ll_OK1 cX11_swap RX11 none false ll_mN ll_mR ll_mK ll_cnt L xs false 30 (.inl (lo_aload 31 0)) := lk_aload_n (k := 0) (by decide +kernel) rfl
theorem k_213_31 (L : Nat) (xs : Nat → Int32) : ll_OK1 cX11_swap RX11 none false ll_mN ll_mR ll_mK ll_cnt L xs false 31 (.inl (lo_push 32 (.int 0))) := lk_iconst (n := 0) (by decide +kernel) (by decide)
theorem k_213_32 (L : Nat) (xs : Nat → Int32) : ll_OK1 cX11_swap RX11 none false ll_mN ll_mR ll_mK ll_cnt L xs false 32 (.inr (.inl (190, 2, 35))) := ⟨rfl, by decide, by rw [mN_190, mK_190, mR_190]; exact lj_v 305 1 11 (RX11, TX11, 46) (by decide +kernel) tb_789 tb_790 tb_791 rfl rfl rfl rfl (by decide +kernel)⟩
theorem k_213_35 (L : Nat) (xs : Nat → Int32) : ll_OK1 cX11_swap RX11 none false ll_mN ll_mR ll_mK ll_cnt L xs false 35 (.inr (.inr 0)) := ⟨fun _ => ⟨(by decide +kernel), rfl⟩, (fun h => by cases h), fun h => by cases h⟩
theorem ok_213 (L : Nat) (xs : Nat → Int32) : ∀ q ∈ cd_213, ll_OK1 cX11_swap RX11 none false ll_mN ll_mR ll_mK ll_cnt L xs false q.1 q.2 :=
  List.forall_mem_cons.mpr ⟨k_213_0 L xs, List.forall_mem_cons.mpr ⟨k_213_1 L xs, List.forall_mem_cons.mpr ⟨k_213_2 L xs, List.forall_mem_cons.mpr ⟨k_213_5 L xs, List.forall_mem_cons.mpr ⟨k_213_7 L xs, List.forall_mem_cons.mpr ⟨k_213_10 L xs, List.forall_mem_cons.mpr ⟨k_213_11 L xs, List.forall_mem_cons.mpr ⟨k_213_13 L xs, List.forall_mem_cons.mpr ⟨k_213_14 L xs, List.forall_mem_cons.mpr ⟨k_213_16 L xs, List.forall_mem_cons.mpr ⟨k_213_19 L xs, List.forall_mem_cons.mpr ⟨k_213_20 L xs, List.forall_mem_cons.mpr ⟨k_213_23 L xs, List.forall_mem_cons.mpr ⟨k_213_25 L xs, List.forall_mem_cons.mpr ⟨k_213_27 L xs, List.forall_mem_cons.mpr ⟨k_213_30 L xs, List.forall_mem_cons.mpr ⟨k_213_31 L xs, List.forall_mem_cons.mpr ⟨k_213_32 L xs, List.forall_mem_cons.mpr ⟨k_213_35 L xs, fun _ h => absurd h List.not_mem_nil⟩⟩⟩⟩⟩⟩⟩⟩⟩⟩⟩⟩⟩⟩⟩⟩⟩⟩⟩
/-- InclusionProverModel.keep.(II)Z -/
def cd_214 : List (Nat × ll_O) := [
  (0, .inl (lo_iload 1 1)),
  (1, .inr (.inl (209, 1, 4))),
  (4, .inl (lo_if 14 7 (fun x => decide (x = 0)))),
  (7, .inl (lo_iload 8 2)),
  (8, .inr (.inl (194, 1, 11))),
  (11, .inl (lo_if 16 14 (fun x => decide (¬ x = 0)))),
  (14, .inl (lo_push 15 (.int 0))),
  (15, .inr (.inr 2)),
  (16, .inl (lo_aload 17 0)),
  (17, .inl (lo_push 19 (.int 31))),
  (19, .inl (lo_iload 20 1)),
  (20, .inl (lo_bin 21 (fun x y => x * y))),
  (21, .inl (lo_push 23 (.int 62))),
  (23, .inl (lo_push 25 (.int 31))),
  (25, .inl (lo_iload 26 2)),
  (26, .inl (lo_bin 27 (fun x y => x * y))),
  (27, .inl (lo_bin 28 (fun x y => x + y))),
  (28, .inl (lo_push 30 (.int 31))),
  (30, .inr (.inl (152, 4, 33))),
  (33, .inl (lo_push 34 (.int 1))),
  (34, .inr (.inr 2))]
theorem k_214_0 (L : Nat) (xs : Nat → Int32) : ll_OK1 cX11_keep RX11 (some .boolean) false ll_mN ll_mR ll_mK ll_cnt L xs false 0 (.inl (lo_iload 1 1)) := lk_iload_n (k := 1) (by decide +kernel) rfl
theorem k_214_1 (L : Nat) (xs : Nat → Int32) : ll_OK1 cX11_keep RX11 (some .boolean) false ll_mN ll_mR ll_mK ll_cnt L xs false 1 (.inr (.inl (209, 1, 4))) := ⟨rfl, by decide, by rw [mN_209, mK_209, mR_209]; exact lj_s 308 (by decide +kernel) tb_792 tb_793 (by decide +kernel)⟩
theorem k_214_4 (L : Nat) (xs : Nat → Int32) : ll_OK1 cX11_keep RX11 (some .boolean) false ll_mN ll_mR ll_mK ll_cnt L xs false 4 (.inl (lo_if 14 7 (fun x => decide (x = 0)))) := lk_if_eq (off := 10) (by decide +kernel) rfl
theorem k_214_7 (L : Nat) (xs : Nat → Int32) : ll_OK1 cX11_keep RX11 (some .boolean) false ll_mN ll_mR ll_mK ll_cnt L xs false 7 (.inl (lo_iload 8 2)) := lk_iload_n (k := 2) (by decide +kernel) rfl
theorem k_214_8 (L : Nat) (xs : Nat → Int32) : ll_OK1 cX11_keep RX11 (some .boolean) false ll_mN ll_mR ll_mK ll_cnt L xs false 8 (.inr (.inl (194, 1, 11))) := ⟨rfl, by decide, by rw [mN_194, mK_194, mR_194]; exact lj_s 269 (by decide +kernel) tb_765 tb_766 (by decide +kernel)⟩
theorem k_214_11 (L : Nat) (xs : Nat → Int32) : ll_OK1 cX11_keep RX11 (some .boolean) false ll_mN ll_mR ll_mK ll_cnt L xs false 11 (.inl (lo_if 16 14 (fun x => decide (¬ x = 0)))) := lk_if_ne (off := 5) (by decide +kernel) rfl
theorem k_214_14 (L : Nat) (xs : Nat → Int32) : ll_OK1 cX11_keep RX11 (some .boolean) false ll_mN ll_mR ll_mK ll_cnt L xs false 14 (.inl (lo_push 15 (.int 0))) := lk_iconst (n := 0) (by decide +kernel) (by decide)
theorem k_214_15 (L : Nat) (xs : Nat → Int32) : ll_OK1 cX11_keep RX11 (some .boolean) false ll_mN ll_mR ll_mK ll_cnt L xs false 15 (.inr (.inr 2)) := ⟨(fun h => by cases h), (fun h => by cases h), fun _ => ⟨(by decide +kernel), rfl⟩⟩
theorem k_214_16 (L : Nat) (xs : Nat → Int32) : ll_OK1 cX11_keep RX11 (some .boolean) false ll_mN ll_mR ll_mK ll_cnt L xs false 16 (.inl (lo_aload 17 0)) := lk_aload_n (k := 0) (by decide +kernel) rfl
theorem k_214_17 (L : Nat) (xs : Nat → Int32) : ll_OK1 cX11_keep RX11 (some .boolean) false ll_mN ll_mR ll_mK ll_cnt L xs false 17 (.inl (lo_push 19 (.int 31))) := lk_bipush (n := 31) (by decide +kernel) (by decide)
theorem k_214_19 (L : Nat) (xs : Nat → Int32) : ll_OK1 cX11_keep RX11 (some .boolean) false ll_mN ll_mR ll_mK ll_cnt L xs false 19 (.inl (lo_iload 20 1)) := lk_iload_n (k := 1) (by decide +kernel) rfl
theorem k_214_20 (L : Nat) (xs : Nat → Int32) : ll_OK1 cX11_keep RX11 (some .boolean) false ll_mN ll_mR ll_mK ll_cnt L xs false 20 (.inl (lo_bin 21 (fun x y => x * y))) := lk_imul (by decide +kernel)
theorem k_214_21 (L : Nat) (xs : Nat → Int32) : ll_OK1 cX11_keep RX11 (some .boolean) false ll_mN ll_mR ll_mK ll_cnt L xs false 21 (.inl (lo_push 23 (.int 62))) := lk_bipush (n := 62) (by decide +kernel) (by decide)
theorem k_214_23 (L : Nat) (xs : Nat → Int32) : ll_OK1 cX11_keep RX11 (some .boolean) false ll_mN ll_mR ll_mK ll_cnt L xs false 23 (.inl (lo_push 25 (.int 31))) := lk_bipush (n := 31) (by decide +kernel) (by decide)
theorem k_214_25 (L : Nat) (xs : Nat → Int32) : ll_OK1 cX11_keep RX11 (some .boolean) false ll_mN ll_mR ll_mK ll_cnt L xs false 25 (.inl (lo_iload 26 2)) := lk_iload_n (k := 2) (by decide +kernel) rfl
theorem k_214_26 (L : Nat) (xs : Nat → Int32) : ll_OK1 cX11_keep RX11 (some .boolean) false ll_mN ll_mR ll_mK ll_cnt L xs false 26 (.inl (lo_bin 27 (fun x y => x * y))) := lk_imul (by decide +kernel)
theorem k_214_27 (L : Nat) (xs : Nat → Int32) : ll_OK1 cX11_keep RX11 (some .boolean) false ll_mN ll_mR ll_mK ll_cnt L xs false 27 (.inl (lo_bin 28 (fun x y => x + y))) := lk_iadd (by decide +kernel)
theorem k_214_28 (L : Nat) (xs : Nat → Int32) : ll_OK1 cX11_keep RX11 (some .boolean) false ll_mN ll_mR ll_mK ll_cnt L xs false 28 (.inl (lo_push 30 (.int 31))) := lk_bipush (n := 31) (by decide +kernel) (by decide)
theorem k_214_30 (L : Nat) (xs : Nat → Int32) : ll_OK1 cX11_keep RX11 (some .boolean) false ll_mN ll_mR ll_mK ll_cnt L xs false 30 (.inr (.inl (152, 4, 33))) := ⟨rfl, by decide, by rw [mN_152, mK_152, mR_152]; exact lj_v 314 3 11 (RX11, TX11, 46) (by decide +kernel) tb_797 tb_798 tb_799 rfl rfl rfl rfl (by decide +kernel)⟩
theorem k_214_33 (L : Nat) (xs : Nat → Int32) : ll_OK1 cX11_keep RX11 (some .boolean) false ll_mN ll_mR ll_mK ll_cnt L xs false 33 (.inl (lo_push 34 (.int 1))) := lk_iconst (n := 1) (by decide +kernel) (by decide)
theorem k_214_34 (L : Nat) (xs : Nat → Int32) : ll_OK1 cX11_keep RX11 (some .boolean) false ll_mN ll_mR ll_mK ll_cnt L xs false 34 (.inr (.inr 2)) := ⟨(fun h => by cases h), (fun h => by cases h), fun _ => ⟨(by decide +kernel), rfl⟩⟩
theorem ok_214 (L : Nat) (xs : Nat → Int32) : ∀ q ∈ cd_214, ll_OK1 cX11_keep RX11 (some .boolean) false ll_mN ll_mR ll_mK ll_cnt L xs false q.1 q.2 :=
  List.forall_mem_cons.mpr ⟨k_214_0 L xs, List.forall_mem_cons.mpr ⟨k_214_1 L xs, List.forall_mem_cons.mpr ⟨k_214_4 L xs, List.forall_mem_cons.mpr ⟨k_214_7 L xs, List.forall_mem_cons.mpr ⟨k_214_8 L xs, List.forall_mem_cons.mpr ⟨k_214_11 L xs, List.forall_mem_cons.mpr ⟨k_214_14 L xs, List.forall_mem_cons.mpr ⟨k_214_15 L xs, List.forall_mem_cons.mpr ⟨k_214_16 L xs, List.forall_mem_cons.mpr ⟨k_214_17 L xs, List.forall_mem_cons.mpr ⟨k_214_19 L xs, List.forall_mem_cons.mpr ⟨k_214_20 L xs, List.forall_mem_cons.mpr ⟨k_214_21 L xs, List.forall_mem_cons.mpr ⟨k_214_23 L xs, List.forall_mem_cons.mpr ⟨k_214_25 L xs, List.forall_mem_cons.mpr ⟨k_214_26 L xs, List.forall_mem_cons.mpr ⟨k_214_27 L xs, List.forall_mem_cons.mpr ⟨k_214_28 L xs, List.forall_mem_cons.mpr ⟨k_214_30 L xs, List.forall_mem_cons.mpr ⟨k_214_33 L xs, List.forall_mem_cons.mpr ⟨k_214_34 L xs, fun _ h => absurd h List.not_mem_nil⟩⟩⟩⟩⟩⟩⟩⟩⟩⟩⟩⟩⟩⟩⟩⟩⟩⟩⟩⟩⟩
/-- InclusionProverModel.make.(IIII)I -/
def cd_215 : List (Nat × ll_O) := [
  (0, .inl (lo_iload 1 1)),
  (1, .inr (.inl (209, 1, 4))),
  (4, .inl (lo_if 41 7 (fun x => decide (x = 0)))),
  (7, .inl (lo_iload 8 2)),
  (8, .inl (lo_push 9 (.int 0))),
  (9, .inl (lo_push 10 (.int 3))),
  (10, .inr (.inl (151, 3, 13))),
  (13, .inl (lo_if 41 16 (fun x => decide (x = 0)))),
  (16, .inl (lo_iload 17 3)),
  (17, .inr (.inl (194, 1, 20))),
  (20, .inl (lo_if 41 23 (fun x => decide (x = 0)))),
  (23, .inl (lo_iload 24 2)),
  (24, .inl (lo_push 25 (.int 1))),
  (25, .inl (lo_cmp 33 28 (fun x y => decide (x = y)))),
  (28, .inl (lo_iload 29 2)),
  (29, .inl (lo_push 30 (.int 2))),
  (30, .inl (lo_cmp 43 33 (fun x y => decide (¬ x = y)))),
  (33, .inl (lo_iload 35 4)),
  (35, .inr (.inl (194, 1, 38))),
  (38, .inl (lo_if 43 41 (fun x => decide (¬ x = 0)))),
  (41, .inl (lo_push 42 (.int (-1)))),
  (42, .inr (.inr 1)),
  (43, .inl (lo_aload 44 0)),
  (44, .inr (.inl (153, 1, 47))),
  (47, .inl (lo_aload 48 0)),
  (48, .inl (lo_aload 49 0)),
  (49, .inl (lo_getf 52 11 0)),
  (52, .inl (lo_push 54 (.int 62))),
  (54, .inl (lo_push 56 (.int 31))),
  (56, .inl (lo_iload 57 3)),
  (57, .inl (lo_bin 58 (fun x y => x * y))),
  (58, .inl (lo_bin 59 (fun x y => x + y))),
  (59, .inl (lo_push 60 (.int 1))),
  (60, .inl (lo_bin 61 (fun x y => x + y))),
  (61, .inl (lo_aload 62 0)),
  (62, .inl (lo_getf 65 11 0)),
  (65, .inl (lo_push 67 (.int 62))),
  (67, .inl (lo_push 69 (.int 31))),
  (69, .inl (lo_iload 70 3)),
  (70, .inl (lo_bin 71 (fun x y => x * y))),
  (71, .inl (lo_bin 72 (fun x y => x + y))),
  (72, .inl (lo_ald 73 0)),
  (73, .inr (.inl (166, 4, 76))),
  (76, .inl (lo_istore 78 5)),
  (78, .inl (lo_iload 79 2)),
  (79, .inl (lo_push 80 (.int 1))),
  (80, .inl (lo_cmp 88 83 (fun x y => decide (x = y)))),
  (83, .inl (lo_iload 84 2)),
  (84, .inl (lo_push 85 (.int 2))),
  (85, .inl (lo_cmp 122 88 (fun x y => decide (¬ x = y)))),
  (88, .inl (lo_aload 89 0)),
  (89, .inl (lo_aload 90 0)),
  (90, .inl (lo_getf 93 11 0)),
  (93, .inl (lo_push 95 (.int 62))),
  (95, .inl (lo_push 97 (.int 31))),
  (97, .inl (lo_iload 99 4)),
  (99, .inl (lo_bin 100 (fun x y => x * y))),
  (100, .inl (lo_bin 101 (fun x y => x + y))),
  (101, .inl (lo_push 102 (.int 1))),
  (102, .inl (lo_bin 103 (fun x y => x + y))),
  (103, .inl (lo_aload 104 0)),
  (104, .inl (lo_getf 107 11 0)),
  (107, .inl (lo_push 109 (.int 62))),
  (109, .inl (lo_push 111 (.int 31))),
  (111, .inl (lo_iload 113 4)),
  (113, .inl (lo_bin 114 (fun x y => x * y))),
  (114, .inl (lo_bin 115 (fun x y => x + y))),
  (115, .inl (lo_ald 116 0)),
  (116, .inr (.inl (166, 4, 119))),
  (119, .inl (lo_goto 123)),
  (122, .inl (lo_push 123 (.int 0))),
  (123, .inl (lo_istore 125 6)),
  (125, .inl (lo_aload 126 0)),
  (126, .inl (lo_getf 129 11 20)),
  (129, .inl (lo_push 130 (.int 0))),
  (130, .inl (lo_iload 132 5)),
  (132, .inl (lo_ast 133 0)),
  (133, .inl (lo_aload 134 0)),
  (134, .inl (lo_getf 137 11 20)),
  (137, .inl (lo_push 138 (.int 1))),
  (138, .inl (lo_iload 140 6)),
  (140, .inl (lo_ast 141 0)),
  (141, .inl (lo_iload 142 2)),
  (142, .inl (lo_if 150 145 (fun x => decide (¬ x = 0)))),
  (145, .inl (lo_iload 147 5)),
  (147, .inl (lo_goto 192)),
  (150, .inl (lo_iload 151 2)),
  (151, .inl (lo_push 152 (.int 1))),
  (152, .inl (lo_cmp 168 155 (fun x y => decide (¬ x = y)))),
  (155, .inl (lo_aload 156 0)),
  (156, .inl (lo_aload 157 0)),
  (157, .inl (lo_getf 160 11 20)),
  (160, .inl (lo_push 161 (.int 0))),
  (161, .inl (lo_push 162 (.int 2))),
  (162, .inr (.inl (158, 4, 165))),
  (165, .inl (lo_goto 192)),
  (168, .inl (lo_iload 169 2)),
  (169, .inl (lo_push 170 (.int 2))),
  (170, .inl (lo_cmp 186 173 (fun x y => decide (¬ x = y)))),
  (173, .inl (lo_aload 174 0)),
  (174, .inl (lo_aload 175 0)),
  (175, .inl (lo_getf 178 11 20)),
  (178, .inl (lo_push 179 (.int 0))),
  (179, .inl (lo_push 180 (.int 2))),
  (180, .inr (.inl (159, 4, 183))),
  (183, .inl (lo_goto 192)),
  (186, .inl (lo_aload 187 0)),
  (187, .inl (lo_iload 189 5)),
  (189, .inr (.inl (160, 2, 192))),
  (192, .inl (lo_istore 194 7)),
  (194, .inl (lo_aload 195 0)),
  (195, .inl (lo_iload 196 1)),
  (196, .inl (lo_iload 198 7)),
  (198, .inr (.inl (210, 3, 201))),
  (201, .inr (.inr 1))]
theorem k_215_0 (L : Nat) (xs : Nat → Int32) : ll_OK1 cX11_make RX11 (some .int) false ll_mN ll_mR ll_mK ll_cnt L xs false 0 (.inl (lo_iload 1 1)) := lk_iload_n (k := 1) (by decide +kernel) rfl
theorem k_215_1 (L : Nat) (xs : Nat → Int32) : ll_OK1 cX11_make RX11 (some .int) false ll_mN ll_mR ll_mK ll_cnt L xs false 1 (.inr (.inl (209, 1, 4))) := ⟨rfl, by decide, by rw [mN_209, mK_209, mR_209]; exact lj_s 308 (by decide +kernel) tb_792 tb_793 (by decide +kernel)⟩
theorem k_215_4 (L : Nat) (xs : Nat → Int32) : ll_OK1 cX11_make RX11 (some .int) false ll_mN ll_mR ll_mK ll_cnt L xs false 4 (.inl (lo_if 41 7 (fun x => decide (x = 0)))) := lk_if_eq (off := 37) (by decide +kernel) rfl
theorem k_215_7 (L : Nat) (xs : Nat → Int32) : ll_OK1 cX11_make RX11 (some .int) false ll_mN ll_mR ll_mK ll_cnt L xs false 7 (.inl (lo_iload 8 2)) := lk_iload_n (k := 2) (by decide +kernel) rfl
theorem k_215_8 (L : Nat) (xs : Nat → Int32) : ll_OK1 cX11_make RX11 (some .int) false ll_mN ll_mR ll_mK ll_cnt L xs false 8 (.inl (lo_push 9 (.int 0))) := lk_iconst (n := 0) (by decide +kernel) (by decide)
theorem k_215_9 (L : Nat) (xs : Nat → Int32) : ll_OK1 cX11_make RX11 (some .int) false ll_mN ll_mR ll_mK ll_cnt L xs false 9 (.inl (lo_push 10 (.int 3))) := lk_iconst (n := 3) (by decide +kernel) (by decide)
theorem k_215_10 (L : Nat) (xs : Nat → Int32) : ll_OK1 cX11_make RX11 (some .int) false ll_mN ll_mR ll_mK ll_cnt L xs false 10 (.inr (.inl (151, 3, 13))) := ⟨rfl, by decide, by rw [mN_151, mK_151, mR_151]; exact lj_s 163 (by decide +kernel) tb_673 tb_674 (by decide +kernel)⟩
theorem k_215_13 (L : Nat) (xs : Nat → Int32) : ll_OK1 cX11_make RX11 (some .int) false ll_mN ll_mR ll_mK ll_cnt L xs false 13 (.inl (lo_if 41 16 (fun x => decide (x = 0)))) := lk_if_eq (off := 28) (by decide +kernel) rfl
theorem k_215_16 (L : Nat) (xs : Nat → Int32) : ll_OK1 cX11_make RX11 (some .int) false ll_mN ll_mR ll_mK ll_cnt L xs false 16 (.inl (lo_iload 17 3)) := lk_iload_n (k := 3) (by decide +kernel) rfl
theorem k_215_17 (L : Nat) (xs : Nat → Int32) : ll_OK1 cX11_make RX11 (some .int) false ll_mN ll_mR ll_mK ll_cnt L xs false 17 (.inr (.inl (194, 1, 20))) := ⟨rfl, by decide, by rw [mN_194, mK_194, mR_194]; exact lj_s 269 (by decide +kernel) tb_765 tb_766 (by decide +kernel)⟩
theorem k_215_20 (L : Nat) (xs : Nat → Int32) : ll_OK1 cX11_make RX11 (some .int) false ll_mN ll_mR ll_mK ll_cnt L xs false 20 (.inl (lo_if 41 23 (fun x => decide (x = 0)))) := lk_if_eq (off := 21) (by decide +kernel) rfl
theorem k_215_23 (L : Nat) (xs : Nat → Int32) : ll_OK1 cX11_make RX11 (some .int) false ll_mN ll_mR ll_mK ll_cnt L xs false 23 (.inl (lo_iload 24 2)) := lk_iload_n (k := 2) (by decide +kernel) rfl
theorem k_215_24 (L : Nat) (xs : Nat → Int32) : ll_OK1 cX11_make RX11 (some .int) false ll_mN ll_mR ll_mK ll_cnt L xs false 24 (.inl (lo_push 25 (.int 1))) := lk_iconst (n := 1) (by decide +kernel) (by decide)
theorem k_215_25 (L : Nat) (xs : Nat → Int32) : ll_OK1 cX11_make RX11 (some .int) false ll_mN ll_mR ll_mK ll_cnt L xs false 25 (.inl (lo_cmp 33 28 (fun x y => decide (x = y)))) := lk_icmp_eq (off := 8) (by decide +kernel) rfl
theorem k_215_28 (L : Nat) (xs : Nat → Int32) : ll_OK1 cX11_make RX11 (some .int) false ll_mN ll_mR ll_mK ll_cnt L xs false 28 (.inl (lo_iload 29 2)) := lk_iload_n (k := 2) (by decide +kernel) rfl
theorem k_215_29 (L : Nat) (xs : Nat → Int32) : ll_OK1 cX11_make RX11 (some .int) false ll_mN ll_mR ll_mK ll_cnt L xs false 29 (.inl (lo_push 30 (.int 2))) := lk_iconst (n := 2) (by decide +kernel) (by decide)
theorem k_215_30 (L : Nat) (xs : Nat → Int32) : ll_OK1 cX11_make RX11 (some .int) false ll_mN ll_mR ll_mK ll_cnt L xs false 30 (.inl (lo_cmp 43 33 (fun x y => decide (¬ x = y)))) := lk_icmp_ne (off := 13) (by decide +kernel) rfl
theorem k_215_33 (L : Nat) (xs : Nat → Int32) : ll_OK1 cX11_make RX11 (some .int) false ll_mN ll_mR ll_mK ll_cnt L xs false 33 (.inl (lo_iload 35 4)) := lk_iload (by decide +kernel)
theorem k_215_35 (L : Nat) (xs : Nat → Int32) : ll_OK1 cX11_make RX11 (some .int) false ll_mN ll_mR ll_mK ll_cnt L xs false 35 (.inr (.inl (194, 1, 38))) := ⟨rfl, by decide, by rw [mN_194, mK_194, mR_194]; exact lj_s 269 (by decide +kernel) tb_765 tb_766 (by decide +kernel)⟩
theorem k_215_38 (L : Nat) (xs : Nat → Int32) : ll_OK1 cX11_make RX11 (some .int) false ll_mN ll_mR ll_mK ll_cnt L xs false 38 (.inl (lo_if 43 41 (fun x => decide (¬ x = 0)))) := lk_if_ne (off := 5) (by decide +kernel) rfl
theorem k_215_41 (L : Nat) (xs : Nat → Int32) : ll_OK1 cX11_make RX11 (some .int) false ll_mN ll_mR ll_mK ll_cnt L xs false 41 (.inl (lo_push 42 (.int (-1)))) := lk_iconst (n := (-1)) (by decide +kernel) (by decide)
theorem k_215_42 (L : Nat) (xs : Nat → Int32) : ll_OK1 cX11_make RX11 (some .int) false ll_mN ll_mR ll_mK ll_cnt L xs false 42 (.inr (.inr 1)) := ⟨(fun h => by cases h), (fun _ => ⟨(by decide +kernel), rfl⟩), fun h => by cases h⟩
theorem k_215_43 (L : Nat) (xs : Nat → Int32) : ll_OK1 cX11_make RX11 (some .int) false ll_mN ll_mR ll_mK ll_cnt L xs false 43 (.inl (lo_aload 44 0)) := lk_aload_n (k := 0) (by decide +kernel) rfl
theorem k_215_44 (L : Nat) (xs : Nat → Int32) : ll_OK1 cX11_make RX11 (some .int) false ll_mN ll_mR ll_mK ll_cnt L xs false 44 (.inr (.inl (153, 1, 47))) := ⟨rfl, by decide, by rw [mN_153, mK_153, mR_153]; exact lj_v 225 0 11 (RX11, TX11, 46) (by decide +kernel) tb_723 tb_724 tb_725 rfl rfl rfl rfl (by decide +kernel)⟩
theorem k_215_47 (L : Nat) (xs : Nat → Int32) : ll_OK1 cX11_make RX11 (some .int) false ll_mN ll_mR ll_mK ll_cnt L xs false 47 (.inl (lo_aload 48 0)) := lk_aload_n (k := 0) (by decide +kernel) rfl
theorem k_215_48 (L : Nat) (xs : Nat → Int32) : ll_OK1 cX11_make RX11 (some .int) false ll_mN ll_mR ll_mK ll_cnt L xs false 48 (.inl (lo_aload 49 0)) := lk_aload_n (k := 0) (by decide +kernel) rfl
theorem k_215_49 (L : Nat) (xs : Nat → Int32) : ll_OK1 cX11_make RX11 (some .int) false ll_mN ll_mR ll_mK ll_cnt L xs false 49 (.inl (lo_getf 52 11 0)) := lk_getf (ix := 8) (ci := 11) (k := 0) (C := RX11) (T := TX11) (N := 46) (by decide +kernel) rfl in_11 (by decide) tb_606
theorem k_215_52 (L : Nat) (xs : Nat → Int32) : ll_OK1 cX11_make RX11 (some .int) false ll_mN ll_mR ll_mK ll_cnt L xs false 52 (.inl (lo_push 54 (.int 62))) := lk_bipush (n := 62) (by decide +kernel) (by decide)
theorem k_215_54 (L : Nat) (xs : Nat → Int32) : ll_OK1 cX11_make RX11 (some .int) false ll_mN ll_mR ll_mK ll_cnt L xs false 54 (.inl (lo_push 56 (.int 31))) := lk_bipush (n := 31) (by decide +kernel) (by decide)
theorem k_215_56 (L : Nat) (xs : Nat → Int32) : ll_OK1 cX11_make RX11 (some .int) false ll_mN ll_mR ll_mK ll_cnt L xs false 56 (.inl (lo_iload 57 3)) := lk_iload_n (k := 3) (by decide +kernel) rfl
theorem k_215_57 (L : Nat) (xs : Nat → Int32) : ll_OK1 cX11_make RX11 (some .int) false ll_mN ll_mR ll_mK ll_cnt L xs false 57 (.inl (lo_bin 58 (fun x y => x * y))) := lk_imul (by decide +kernel)
theorem k_215_58 (L : Nat) (xs : Nat → Int32) : ll_OK1 cX11_make RX11 (some .int) false ll_mN ll_mR ll_mK ll_cnt L xs false 58 (.inl (lo_bin 59 (fun x y => x + y))) := lk_iadd (by decide +kernel)
theorem k_215_59 (L : Nat) (xs : Nat → Int32) : ll_OK1 cX11_make RX11 (some .int) false ll_mN ll_mR ll_mK ll_cnt L xs false 59 (.inl (lo_push 60 (.int 1))) := lk_iconst (n := 1) (by decide +kernel) (by decide)
theorem k_215_60 (L : Nat) (xs : Nat → Int32) : ll_OK1 cX11_make RX11 (some .int) false ll_mN ll_mR ll_mK ll_cnt L xs false 60 (.inl (lo_bin 61 (fun x y => x + y))) := lk_iadd (by decide +kernel)
theorem k_215_61 (L : Nat) (xs : Nat → Int32) : ll_OK1 cX11_make RX11 (some .int) false ll_mN ll_mR ll_mK ll_cnt L xs false 61 (.inl (lo_aload 62 0)) := lk_aload_n (k := 0) (by decide +kernel) rfl
theorem k_215_62 (L : Nat) (xs : Nat → Int32) : ll_OK1 cX11_make RX11 (some .int) false ll_mN ll_mR ll_mK ll_cnt L xs false 62 (.inl (lo_getf 65 11 0)) := lk_getf (ix := 8) (ci := 11) (k := 0) (C := RX11) (T := TX11) (N := 46) (by decide +kernel) rfl in_11 (by decide) tb_606
theorem k_215_65 (L : Nat) (xs : Nat → Int32) : ll_OK1 cX11_make RX11 (some .int) false ll_mN ll_mR ll_mK ll_cnt L xs false 65 (.inl (lo_push 67 (.int 62))) := lk_bipush (n := 62) (by decide +kernel) (by decide)
theorem k_215_67 (L : Nat) (xs : Nat → Int32) : ll_OK1 cX11_make RX11 (some .int) false ll_mN ll_mR ll_mK ll_cnt L xs false 67 (.inl (lo_push 69 (.int 31))) := lk_bipush (n := 31) (by decide +kernel) (by decide)
theorem k_215_69 (L : Nat) (xs : Nat → Int32) : ll_OK1 cX11_make RX11 (some .int) false ll_mN ll_mR ll_mK ll_cnt L xs false 69 (.inl (lo_iload 70 3)) := lk_iload_n (k := 3) (by decide +kernel) rfl
theorem k_215_70 (L : Nat) (xs : Nat → Int32) : ll_OK1 cX11_make RX11 (some .int) false ll_mN ll_mR ll_mK ll_cnt L xs false 70 (.inl (lo_bin 71 (fun x y => x * y))) := lk_imul (by decide +kernel)
theorem k_215_71 (L : Nat) (xs : Nat → Int32) : ll_OK1 cX11_make RX11 (some .int) false ll_mN ll_mR ll_mK ll_cnt L xs false 71 (.inl (lo_bin 72 (fun x y => x + y))) := lk_iadd (by decide +kernel)
theorem k_215_72 (L : Nat) (xs : Nat → Int32) : ll_OK1 cX11_make RX11 (some .int) false ll_mN ll_mR ll_mK ll_cnt L xs false 72 (.inl (lo_ald 73 0)) := lk_iald (by decide +kernel)
theorem k_215_73 (L : Nat) (xs : Nat → Int32) : ll_OK1 cX11_make RX11 (some .int) false ll_mN ll_mR ll_mK ll_cnt L xs false 73 (.inr (.inl (166, 4, 76))) := ⟨rfl, by decide, by rw [mN_166, mK_166, mR_166]; exact lj_v 228 3 11 (RX11, TX11, 46) (by decide +kernel) tb_726 tb_727 tb_728 rfl rfl rfl rfl (by decide +kernel)⟩
theorem k_215_76 (L : Nat) (xs : Nat → Int32) : ll_OK1 cX11_make RX11 (some .int) false ll_mN ll_mR ll_mK ll_cnt L xs false 76 (.inl (lo_istore 78 5)) := lk_istore (by decide +kernel)
theorem k_215_78 (L : Nat) (xs : Nat → Int32) : ll_OK1 cX11_make RX11 (some .int) false ll_mN ll_mR ll_mK ll_cnt L xs false 78 (.inl (lo_iload 79 2)) := lk_iload_n (k := 2) (by decide +kernel) rfl
theorem k_215_79 (L : Nat) (xs : Nat → Int32) : ll_OK1 cX11_make RX11 (some .int) false ll_mN ll_mR ll_mK ll_cnt L xs false 79 (.inl (lo_push 80 (.int 1))) := lk_iconst (n := 1) (by decide +kernel) (by decide)
theorem k_215_80 (L : Nat) (xs : Nat → Int32) : ll_OK1 cX11_make RX11 (some .int) false ll_mN ll_mR ll_mK ll_cnt L xs false 80 (.inl (lo_cmp 88 83 (fun x y => decide (x = y)))) := lk_icmp_eq (off := 8) (by decide +kernel) rfl
theorem k_215_83 (L : Nat) (xs : Nat → Int32) : ll_OK1 cX11_make RX11 (some .int) false ll_mN ll_mR ll_mK ll_cnt L xs false 83 (.inl (lo_iload 84 2)) := lk_iload_n (k := 2) (by decide +kernel) rfl
theorem k_215_84 (L : Nat) (xs : Nat → Int32) : ll_OK1 cX11_make RX11 (some .int) false ll_mN ll_mR ll_mK ll_cnt L xs false 84 (.inl (lo_push 85 (.int 2))) := lk_iconst (n := 2) (by decide +kernel) (by decide)
theorem k_215_85 (L : Nat) (xs : Nat → Int32) : ll_OK1 cX11_make RX11 (some .int) false ll_mN ll_mR ll_mK ll_cnt L xs false 85 (.inl (lo_cmp 122 88 (fun x y => decide (¬ x = y)))) := lk_icmp_ne (off := 37) (by decide +kernel) rfl
theorem k_215_88 (L : Nat) (xs : Nat → Int32) : ll_OK1 cX11_make RX11 (some .int) false ll_mN ll_mR ll_mK ll_cnt L xs false 88 (.inl (lo_aload 89 0)) := lk_aload_n (k := 0) (by decide +kernel) rfl
theorem k_215_89 (L : Nat) (xs : Nat → Int32) : ll_OK1 cX11_make RX11 (some .int) false ll_mN ll_mR ll_mK ll_cnt L xs false 89 (.inl (lo_aload 90 0)) := lk_aload_n (k := 0) (by decide +kernel) rfl
theorem k_215_90 (L : Nat) (xs : Nat → Int32) : ll_OK1 cX11_make RX11 (some .int) false ll_mN ll_mR ll_mK ll_cnt L xs false 90 (.inl (lo_getf 93 11 0)) := lk_getf (ix := 8) (ci := 11) (k := 0) (C := RX11) (T := TX11) (N := 46) (by decide +kernel) rfl in_11 (by decide) tb_606
theorem k_215_93 (L : Nat) (xs : Nat → Int32) : ll_OK1 cX11_make RX11 (some .int) false ll_mN ll_mR ll_mK ll_cnt L xs false 93 (.inl (lo_push 95 (.int 62))) := lk_bipush (n := 62) (by decide +kernel) (by decide)
theorem k_215_95 (L : Nat) (xs : Nat → Int32) : ll_OK1 cX11_make RX11 (some .int) false ll_mN ll_mR ll_mK ll_cnt L xs false 95 (.inl (lo_push 97 (.int 31))) := lk_bipush (n := 31) (by decide +kernel) (by decide)
theorem k_215_97 (L : Nat) (xs : Nat → Int32) : ll_OK1 cX11_make RX11 (some .int) false ll_mN ll_mR ll_mK ll_cnt L xs false 97 (.inl (lo_iload 99 4)) := lk_iload (by decide +kernel)
theorem k_215_99 (L : Nat) (xs : Nat → Int32) : ll_OK1 cX11_make RX11 (some .int) false ll_mN ll_mR ll_mK ll_cnt L xs false 99 (.inl (lo_bin 100 (fun x y => x * y))) := lk_imul (by decide +kernel)
theorem k_215_100 (L : Nat) (xs : Nat → Int32) : ll_OK1 cX11_make RX11 (some .int) false ll_mN ll_mR ll_mK ll_cnt L xs false 100 (.inl (lo_bin 101 (fun x y => x + y))) := lk_iadd (by decide +kernel)
theorem k_215_101 (L : Nat) (xs : Nat → Int32) : ll_OK1 cX11_make RX11 (some .int) false ll_mN ll_mR ll_mK ll_cnt L xs false 101 (.inl (lo_push 102 (.int 1))) := lk_iconst (n := 1) (by decide +kernel) (by decide)
theorem k_215_102 (L : Nat) (xs : Nat → Int32) : ll_OK1 cX11_make RX11 (some .int) false ll_mN ll_mR ll_mK ll_cnt L xs false 102 (.inl (lo_bin 103 (fun x y => x + y))) := lk_iadd (by decide +kernel)
theorem k_215_103 (L : Nat) (xs : Nat → Int32) : ll_OK1 cX11_make RX11 (some .int) false ll_mN ll_mR ll_mK ll_cnt L xs false 103 (.inl (lo_aload 104 0)) := lk_aload_n (k := 0) (by decide +kernel) rfl
theorem k_215_104 (L : Nat) (xs : Nat → Int32) : ll_OK1 cX11_make RX11 (some .int) false ll_mN ll_mR ll_mK ll_cnt L xs false 104 (.inl (lo_getf 107 11 0)) := lk_getf (ix := 8) (ci := 11) (k := 0) (C := RX11) (T := TX11) (N := 46) (by decide +kernel) rfl in_11 (by decide) tb_606
theorem k_215_107 (L : Nat) (xs : Nat → Int32) : ll_OK1 cX11_make RX11 (some .int) false ll_mN ll_mR ll_mK ll_cnt L xs false 107 (.inl (lo_push 109 (.int 62))) := lk_bipush (n := 62) (by decide +kernel) (by decide)
theorem k_215_109 (L : Nat) (xs : Nat → Int32) : ll_OK1 cX11_make RX11 (some .int) false ll_mN ll_mR ll_mK ll_cnt L xs false 109 (.inl (lo_push 111 (.int 31))) := lk_bipush (n := 31) (by decide +kernel) (by decide)
theorem k_215_111 (L : Nat) (xs : Nat → Int32) : ll_OK1 cX11_make RX11 (some .int) false ll_mN ll_mR ll_mK ll_cnt L xs false 111 (.inl (lo_iload 113 4)) := lk_iload (by decide +kernel)
theorem k_215_113 (L : Nat) (xs : Nat → Int32) : ll_OK1 cX11_make RX11 (some .int) false ll_mN ll_mR ll_mK ll_cnt L xs false 113 (.inl (lo_bin 114 (fun x y => x * y))) := lk_imul (by decide +kernel)
theorem k_215_114 (L : Nat) (xs : Nat → Int32) : ll_OK1 cX11_make RX11 (some .int) false ll_mN ll_mR ll_mK ll_cnt L xs false 114 (.inl (lo_bin 115 (fun x y => x + y))) := lk_iadd (by decide +kernel)
theorem k_215_115 (L : Nat) (xs : Nat → Int32) : ll_OK1 cX11_make RX11 (some .int) false ll_mN ll_mR ll_mK ll_cnt L xs false 115 (.inl (lo_ald 116 0)) := lk_iald (by decide +kernel)
theorem k_215_116 (L : Nat) (xs : Nat → Int32) : ll_OK1 cX11_make RX11 (some .int) false ll_mN ll_mR ll_mK ll_cnt L xs false 116 (.inr (.inl (166, 4, 119))) := ⟨rfl, by decide, by rw [mN_166, mK_166, mR_166]; exact lj_v 228 3 11 (RX11, TX11, 46) (by decide +kernel) tb_726 tb_727 tb_728 rfl rfl rfl rfl (by decide +kernel)⟩
theorem k_215_119 (L : Nat) (xs : Nat → Int32) : ll_OK1 cX11_make RX11 (some .int) false ll_mN ll_mR ll_mK ll_cnt L xs false 119 (.inl (lo_goto 123)) := lk_goto (off := 4) (by decide +kernel) rfl
theorem k_215_122 (L : Nat) (xs : Nat → Int32) : ll_OK1 cX11_make RX11 (some .int) false ll_mN ll_mR ll_mK ll_cnt L xs false 122 (.inl (lo_push 123 (.int 0))) := lk_iconst (n := 0) (by decide +kernel) (by decide)
theorem k_215_123 (L : Nat) (xs : Nat → Int32) : ll_OK1 cX11_make RX11 (some .int) false ll_mN ll_mR ll_mK ll_cnt L xs false 123 (.inl (lo_istore 125 6)) := lk_istore (by decide +kernel)
theorem k_215_125 (L : Nat) (xs : Nat → Int32) : ll_OK1 cX11_make RX11 (some .int) false ll_mN ll_mR ll_mK ll_cnt L xs false 125 (.inl (lo_aload 126 0)) := lk_aload_n (k := 0) (by decide +kernel) rfl
theorem k_215_126 (L : Nat) (xs : Nat → Int32) : ll_OK1 cX11_make RX11 (some .int) false ll_mN ll_mR ll_mK ll_cnt L xs false 126 (.inl (lo_getf 129 11 20)) := lk_getf (ix := 59) (ci := 11) (k := 20) (C := RX11) (T := TX11) (N := 46) (by decide +kernel) rfl in_11 (by decide) tb_622
theorem k_215_129 (L : Nat) (xs : Nat → Int32) : ll_OK1 cX11_make RX11 (some .int) false ll_mN ll_mR ll_mK ll_cnt L xs false 129 (.inl (lo_push 130 (.int 0))) := lk_iconst (n := 0) (by decide +kernel) (by decide)
theorem k_215_130 (L : Nat) (xs : Nat → Int32) : ll_OK1 cX11_make RX11 (some .int) false ll_mN ll_mR ll_mK ll_cnt L xs false 130 (.inl (lo_iload 132 5)) := lk_iload (by decide +kernel)
theorem k_215_132 (L : Nat) (xs : Nat → Int32) : ll_OK1 cX11_make RX11 (some .int) false ll_mN ll_mR ll_mK ll_cnt L xs false 132 (.inl (lo_ast 133 0)) := lk_iast (by decide +kernel)
theorem k_215_133 (L : Nat) (xs : Nat → Int32) : ll_OK1 cX11_make RX11 (some .int) false ll_mN ll_mR ll_mK ll_cnt L xs false 133 (.inl (lo_aload 134 0)) := lk_aload_n (k := 0) (by decide +kernel) rfl
theorem k_215_134 (L : Nat) (xs : Nat → Int32) : ll_OK1 cX11_make RX11 (some .int) false ll_mN ll_mR ll_mK ll_cnt L xs false 134 (.inl (lo_getf 137 11 20)) := lk_getf (ix := 59) (ci := 11) (k := 20) (C := RX11) (T := TX11) (N := 46) (by decide +kernel) rfl in_11 (by decide) tb_622
theorem k_215_137 (L : Nat) (xs : Nat → Int32) : ll_OK1 cX11_make RX11 (some .int) false ll_mN ll_mR ll_mK ll_cnt L xs false 137 (.inl (lo_push 138 (.int 1))) := lk_iconst (n := 1) (by decide +kernel) (by decide)
theorem k_215_138 (L : Nat) (xs : Nat → Int32) : ll_OK1 cX11_make RX11 (some .int) false ll_mN ll_mR ll_mK ll_cnt L xs false 138 (.inl (lo_iload 140 6)) := lk_iload (by decide +kernel)
theorem k_215_140 (L : Nat) (xs : Nat → Int32) : ll_OK1 cX11_make RX11 (some .int) false ll_mN ll_mR ll_mK ll_cnt L xs false 140 (.inl (lo_ast 141 0)) := lk_iast (by decide +kernel)
theorem k_215_141 (L : Nat) (xs : Nat → Int32) : ll_OK1 cX11_make RX11 (some .int) false ll_mN ll_mR ll_mK ll_cnt L xs false 141 (.inl (lo_iload 142 2)) := lk_iload_n (k := 2) (by decide +kernel) rfl
theorem k_215_142 (L : Nat) (xs : Nat → Int32) : ll_OK1 cX11_make RX11 (some .int) false ll_mN ll_mR ll_mK ll_cnt L xs false 142 (.inl (lo_if 150 145 (fun x => decide (¬ x = 0)))) := lk_if_ne (off := 8) (by decide +kernel) rfl
theorem k_215_145 (L : Nat) (xs : Nat → Int32) : ll_OK1 cX11_make RX11 (some .int) false ll_mN ll_mR ll_mK ll_cnt L xs false 145 (.inl (lo_iload 147 5)) := lk_iload (by decide +kernel)
theorem k_215_147 (L : Nat) (xs : Nat → Int32) : ll_OK1 cX11_make RX11 (some .int) false ll_mN ll_mR ll_mK ll_cnt L xs false 147 (.inl (lo_goto 192)) := lk_goto (off := 45) (by decide +kernel) rfl
theorem k_215_150 (L : Nat) (xs : Nat → Int32) : ll_OK1 cX11_make RX11 (some .int) false ll_mN ll_mR ll_mK ll_cnt L xs false 150 (.inl (lo_iload 151 2)) := lk_iload_n (k := 2) (by decide +kernel) rfl
theorem k_215_151 (L : Nat) (xs : Nat → Int32) : ll_OK1 cX11_make RX11 (some .int) false ll_mN ll_mR ll_mK ll_cnt L xs false 151 (.inl (lo_push 152 (.int 1))) := lk_iconst (n := 1) (by decide +kernel) (by decide)
theorem k_215_152 (L : Nat) (xs : Nat → Int32) : ll_OK1 cX11_make RX11 (some .int) false ll_mN ll_mR ll_mK ll_cnt L xs false 152 (.inl (lo_cmp 168 155 (fun x y => decide (¬ x = y)))) := lk_icmp_ne (off := 16) (by decide +kernel) rfl
theorem k_215_155 (L : Nat) (xs : Nat → Int32) : ll_OK1 cX11_make RX11 (some .int) false ll_mN ll_mR ll_mK ll_cnt L xs false 155 (.inl (lo_aload 156 0)) := lk_aload_n (k := 0) (by decide +kernel) rfl
theorem k_215_156 (L : Nat) (xs : Nat → Int32) : ll_OK1 cX11_make RX11 (some .int) false ll_mN ll_mR ll_mK ll_cnt L xs false 156 (.inl (lo_aload 157 0)) := lk_aload_n (k := 0) (by decide +kernel) rfl
theorem k_215_157 (L : Nat) (xs : Nat → Int32) : ll_OK1 cX11_make RX11 (some .int) false ll_mN ll_mR ll_mK ll_cnt L xs false 157 (.inl (lo_getf 160 11 20)) := lk_getf (ix := 59) (ci := 11) (k := 20) (C := RX11) (T := TX11) (N := 46) (by decide +kernel) rfl in_11 (by decide) tb_622
theorem k_215_160 (L : Nat) (xs : Nat → Int32) : ll_OK1 cX11_make RX11 (some .int) false ll_mN ll_mR ll_mK ll_cnt L xs false 160 (.inl (lo_push 161 (.int 0))) := lk_iconst (n := 0) (by decide +kernel) (by decide)
theorem k_215_161 (L : Nat) (xs : Nat → Int32) : ll_OK1 cX11_make RX11 (some .int) false ll_mN ll_mR ll_mK ll_cnt L xs false 161 (.inl (lo_push 162 (.int 2))) := lk_iconst (n := 2) (by decide +kernel) (by decide)
theorem k_215_162 (L : Nat) (xs : Nat → Int32) : ll_OK1 cX11_make RX11 (some .int) false ll_mN ll_mR ll_mK ll_cnt L xs false 162 (.inr (.inl (158, 4, 165))) := ⟨rfl, by decide, by rw [mN_158, mK_158, mR_158]; exact lj_v 154 3 11 (RX11, TX11, 46) (by decide +kernel) tb_666 tb_667 tb_668 rfl rfl rfl rfl (by decide +kernel)⟩
theorem k_215_165 (L : Nat) (xs : Nat → Int32) : ll_OK1 cX11_make RX11 (some .int) false ll_mN ll_mR ll_mK ll_cnt L xs false 165 (.inl (lo_goto 192)) := lk_goto (off := 27) (by decide +kernel) rfl
theorem k_215_168 (L : Nat) (xs : Nat → Int32) : ll_OK1 cX11_make RX11 (some .int) false ll_mN ll_mR ll_mK ll_cnt L xs false 168 (.inl (lo_iload 169 2)) := lk_iload_n (k := 2) (by decide +kernel) rfl
theorem k_215_169 (L : Nat) (xs : Nat → Int32) : ll_OK1 cX11_make RX11 (some .int) false ll_mN ll_mR ll_mK ll_cnt L xs false 169 (.inl (lo_push 170 (.int 2))) := lk_iconst (n := 2) (by decide +kernel) (by decide)
theorem k_215_170 (L : Nat) (xs : Nat → Int32) : ll_OK1 cX11_make RX11 (some .int) false ll_mN ll_mR ll_mK ll_cnt L xs false 170 (.inl (lo_cmp 186 173 (fun x y => decide (¬ x = y)))) := lk_icmp_ne (off := 16) (by decide +kernel) rfl
theorem k_215_173 (L : Nat) (xs : Nat → Int32) : ll_OK1 cX11_make RX11 (some .int) false ll_mN ll_mR ll_mK ll_cnt L xs false 173 (.inl (lo_aload 174 0)) := lk_aload_n (k := 0) (by decide +kernel) rfl
theorem k_215_174 (L : Nat) (xs : Nat → Int32) : ll_OK1 cX11_make RX11 (some .int) false ll_mN ll_mR ll_mK ll_cnt L xs false 174 (.inl (lo_aload 175 0)) := lk_aload_n (k := 0) (by decide +kernel) rfl
theorem k_215_175 (L : Nat) (xs : Nat → Int32) : ll_OK1 cX11_make RX11 (some .int) false ll_mN ll_mR ll_mK ll_cnt L xs false 175 (.inl (lo_getf 178 11 20)) := lk_getf (ix := 59) (ci := 11) (k := 20) (C := RX11) (T := TX11) (N := 46) (by decide +kernel) rfl in_11 (by decide) tb_622
theorem k_215_178 (L : Nat) (xs : Nat → Int32) : ll_OK1 cX11_make RX11 (some .int) false ll_mN ll_mR ll_mK ll_cnt L xs false 178 (.inl (lo_push 179 (.int 0))) := lk_iconst (n := 0) (by decide +kernel) (by decide)
theorem k_215_179 (L : Nat) (xs : Nat → Int32) : ll_OK1 cX11_make RX11 (some .int) false ll_mN ll_mR ll_mK ll_cnt L xs false 179 (.inl (lo_push 180 (.int 2))) := lk_iconst (n := 2) (by decide +kernel) (by decide)
theorem k_215_180 (L : Nat) (xs : Nat → Int32) : ll_OK1 cX11_make RX11 (some .int) false ll_mN ll_mR ll_mK ll_cnt L xs false 180 (.inr (.inl (159, 4, 183))) := ⟨rfl, by decide, by rw [mN_159, mK_159, mR_159]; exact lj_v 144 3 11 (RX11, TX11, 46) (by decide +kernel) tb_659 tb_660 tb_661 rfl rfl rfl rfl (by decide +kernel)⟩
theorem k_215_183 (L : Nat) (xs : Nat → Int32) : ll_OK1 cX11_make RX11 (some .int) false ll_mN ll_mR ll_mK ll_cnt L xs false 183 (.inl (lo_goto 192)) := lk_goto (off := 9) (by decide +kernel) rfl
theorem k_215_186 (L : Nat) (xs : Nat → Int32) : ll_OK1 cX11_make RX11 (some .int) false ll_mN ll_mR ll_mK ll_cnt L xs false 186 (.inl (lo_aload 187 0)) := lk_aload_n (k := 0) (by decide +kernel) rfl
theorem k_215_187 (L : Nat) (xs : Nat → Int32) : ll_OK1 cX11_make RX11 (some .int) false ll_mN ll_mR ll_mK ll_cnt L xs false 187 (.inl (lo_iload 189 5)) := lk_iload (by decide +kernel)
theorem k_215_189 (L : Nat) (xs : Nat → Int32) : ll_OK1 cX11_make RX11 (some .int) false ll_mN ll_mR ll_mK ll_cnt L xs false 189 (.inr (.inl (160, 2, 192))) := ⟨rfl, by decide, by rw [mN_160, mK_160, mR_160]; exact lj_v 170 1 11 (RX11, TX11, 46) (by decide +kernel) tb_678 tb_679 tb_680 rfl rfl rfl rfl (by decide +kernel)⟩
theorem k_215_192 (L : Nat) (xs : Nat → Int32) : ll_OK1 cX11_make RX11 (some .int) false ll_mN ll_mR ll_mK ll_cnt L xs false 192 (.inl (lo_istore 194 7)) := lk_istore (by decide +kernel)
theorem k_215_194 (L : Nat) (xs : Nat → Int32) : ll_OK1 cX11_make RX11 (some .int) false ll_mN ll_mR ll_mK ll_cnt L xs false 194 (.inl (lo_aload 195 0)) := lk_aload_n (k := 0) (by decide +kernel) rfl
theorem k_215_195 (L : Nat) (xs : Nat → Int32) : ll_OK1 cX11_make RX11 (some .int) false ll_mN ll_mR ll_mK ll_cnt L xs false 195 (.inl (lo_iload 196 1)) := lk_iload_n (k := 1) (by decide +kernel) rfl
theorem k_215_196 (L : Nat) (xs : Nat → Int32) : ll_OK1 cX11_make RX11 (some .int) false ll_mN ll_mR ll_mK ll_cnt L xs false 196 (.inl (lo_iload 198 7)) := lk_iload (by decide +kernel)
theorem k_215_198 (L : Nat) (xs : Nat → Int32) : ll_OK1 cX11_make RX11 (some .int) false ll_mN ll_mR ll_mK ll_cnt L xs false 198 (.inr (.inl (210, 3, 201))) := ⟨rfl, by decide, by rw [mN_210, mK_210, mR_210]; exact lj_v 311 2 11 (RX11, TX11, 46) (by decide +kernel) tb_794 tb_795 tb_796 rfl rfl rfl rfl (by decide +kernel)⟩
theorem k_215_201 (L : Nat) (xs : Nat → Int32) : ll_OK1 cX11_make RX11 (some .int) false ll_mN ll_mR ll_mK ll_cnt L xs false 201 (.inr (.inr 1)) := ⟨(fun h => by cases h), (fun _ => ⟨(by decide +kernel), rfl⟩), fun h => by cases h⟩
theorem ok_215 (L : Nat) (xs : Nat → Int32) : ∀ q ∈ cd_215, ll_OK1 cX11_make RX11 (some .int) false ll_mN ll_mR ll_mK ll_cnt L xs false q.1 q.2 :=
  List.forall_mem_cons.mpr ⟨k_215_0 L xs, List.forall_mem_cons.mpr ⟨k_215_1 L xs, List.forall_mem_cons.mpr ⟨k_215_4 L xs, List.forall_mem_cons.mpr ⟨k_215_7 L xs, List.forall_mem_cons.mpr ⟨k_215_8 L xs, List.forall_mem_cons.mpr ⟨k_215_9 L xs, List.forall_mem_cons.mpr ⟨k_215_10 L xs, List.forall_mem_cons.mpr ⟨k_215_13 L xs, List.forall_mem_cons.mpr ⟨k_215_16 L xs, List.forall_mem_cons.mpr ⟨k_215_17 L xs, List.forall_mem_cons.mpr ⟨k_215_20 L xs, List.forall_mem_cons.mpr ⟨k_215_23 L xs, List.forall_mem_cons.mpr ⟨k_215_24 L xs, List.forall_mem_cons.mpr ⟨k_215_25 L xs, List.forall_mem_cons.mpr ⟨k_215_28 L xs, List.forall_mem_cons.mpr ⟨k_215_29 L xs, List.forall_mem_cons.mpr ⟨k_215_30 L xs, List.forall_mem_cons.mpr ⟨k_215_33 L xs, List.forall_mem_cons.mpr ⟨k_215_35 L xs, List.forall_mem_cons.mpr ⟨k_215_38 L xs, List.forall_mem_cons.mpr ⟨k_215_41 L xs, List.forall_mem_cons.mpr ⟨k_215_42 L xs, List.forall_mem_cons.mpr ⟨k_215_43 L xs, List.forall_mem_cons.mpr ⟨k_215_44 L xs, List.forall_mem_cons.mpr ⟨k_215_47 L xs, List.forall_mem_cons.mpr ⟨k_215_48 L xs, List.forall_mem_cons.mpr ⟨k_215_49 L xs, List.forall_mem_cons.mpr ⟨k_215_52 L xs, List.forall_mem_cons.mpr ⟨k_215_54 L xs, List.forall_mem_cons.mpr ⟨k_215_56 L xs, List.forall_mem_cons.mpr ⟨k_215_57 L xs, List.forall_mem_cons.mpr ⟨k_215_58 L xs, List.forall_mem_cons.mpr ⟨k_215_59 L xs, List.forall_mem_cons.mpr ⟨k_215_60 L xs, List.forall_mem_cons.mpr ⟨k_215_61 L xs, List.forall_mem_cons.mpr ⟨k_215_62 L xs, List.forall_mem_cons.mpr ⟨k_215_65 L xs, List.forall_mem_cons.mpr ⟨k_215_67 L xs, List.forall_mem_cons.mpr ⟨k_215_69 L xs, List.forall_mem_cons.mpr ⟨k_215_70 L xs, List.forall_mem_cons.mpr ⟨k_215_71 L xs, List.forall_mem_cons.mpr ⟨k_215_72 L xs, List.forall_mem_cons.mpr ⟨k_215_73 L xs, List.forall_mem_cons.mpr ⟨k_215_76 L xs, List.forall_mem_cons.mpr ⟨k_215_78 L xs, List.forall_mem_cons.mpr ⟨k_215_79 L xs, List.forall_mem_cons.mpr ⟨k_215_80 L xs, List.forall_mem_cons.mpr ⟨k_215_83 L xs, List.forall_mem_cons.mpr ⟨k_215_84 L xs, List.forall_mem_cons.mpr ⟨k_215_85 L xs, List.forall_mem_cons.mpr ⟨k_215_88 L xs, List.forall_mem_cons.mpr ⟨k_215_89 L xs, List.forall_mem_cons.mpr ⟨k_215_90 L xs, List.forall_mem_cons.mpr ⟨k_215_93 L xs, List.forall_mem_cons.mpr ⟨k_215_95 L xs, List.forall_mem_cons.mpr ⟨k_215_97 L xs, List.forall_mem_cons.mpr ⟨k_215_99 L xs, List.forall_mem_cons.mpr ⟨k_215_100 L xs, List.forall_mem_cons.mpr ⟨k_215_101 L xs, List.forall_mem_cons.mpr ⟨k_215_102 L xs, List.forall_mem_cons.mpr ⟨k_215_103 L xs, List.forall_mem_cons.mpr ⟨k_215_104 L xs, List.forall_mem_cons.mpr ⟨k_215_107 L xs, List.forall_mem_cons.mpr ⟨k_215_109 L xs, List.forall_mem_cons.mpr ⟨k_215_111 L xs, List.forall_mem_cons.mpr ⟨k_215_113 L xs, List.forall_mem_cons.mpr ⟨k_215_114 L xs, List.forall_mem_cons.mpr ⟨k_215_115 L xs, List.forall_mem_cons.mpr ⟨k_215_116 L xs, List.forall_mem_cons.mpr ⟨k_215_119 L xs, List.forall_mem_cons.mpr ⟨k_215_122 L xs, List.forall_mem_cons.mpr ⟨k_215_123 L xs, List.forall_mem_cons.mpr ⟨k_215_125 L xs, List.forall_mem_cons.mpr ⟨k_215_126 L xs, List.forall_mem_cons.mpr ⟨k_215_129 L xs, List.forall_mem_cons.mpr ⟨k_215_130 L xs, List.forall_mem_cons.mpr ⟨k_215_132 L xs, List.forall_mem_cons.mpr ⟨k_215_133 L xs, List.forall_mem_cons.mpr ⟨k_215_134 L xs, List.forall_mem_cons.mpr ⟨k_215_137 L xs, List.forall_mem_cons.mpr ⟨k_215_138 L xs, List.forall_mem_cons.mpr ⟨k_215_140 L xs, List.forall_mem_cons.mpr ⟨k_215_141 L xs, List.forall_mem_cons.mpr ⟨k_215_142 L xs, List.forall_mem_cons.mpr ⟨k_215_145 L xs, List.forall_mem_cons.mpr ⟨k_215_147 L xs, List.forall_mem_cons.mpr ⟨k_215_150 L xs, List.forall_mem_cons.mpr ⟨k_215_151 L xs, List.forall_mem_cons.mpr ⟨k_215_152 L xs, List.forall_mem_cons.mpr ⟨k_215_155 L xs, List.forall_mem_cons.mpr ⟨k_215_156 L xs, List.forall_mem_cons.mpr ⟨k_215_157 L xs, List.forall_mem_cons.mpr ⟨k_215_160 L xs, List.forall_mem_cons.mpr ⟨k_215_161 L xs, List.forall_mem_cons.mpr ⟨k_215_162 L xs, List.forall_mem_cons.mpr ⟨k_215_165 L xs, List.forall_mem_cons.mpr ⟨k_215_168 L xs, List.forall_mem_cons.mpr ⟨k_215_169 L xs, List.forall_mem_cons.mpr ⟨k_215_170 L xs, List.forall_mem_cons.mpr ⟨k_215_173 L xs, List.forall_mem_cons.mpr ⟨k_215_174 L xs, List.forall_mem_cons.mpr ⟨k_215_175 L xs, List.forall_mem_cons.mpr ⟨k_215_178 L xs, List.forall_mem_cons.mpr ⟨k_215_179 L xs, List.forall_mem_cons.mpr ⟨k_215_180 L xs, List.forall_mem_cons.mpr ⟨k_215_183 L xs, List.forall_mem_cons.mpr ⟨k_215_186 L xs, List.forall_mem_cons.mpr ⟨k_215_187 L xs, List.forall_mem_cons.mpr ⟨k_215_189 L xs, List.forall_mem_cons.mpr ⟨k_215_192 L xs, List.forall_mem_cons.mpr ⟨k_215_194 L xs, List.forall_mem_cons.mpr ⟨k_215_195 L xs, List.forall_mem_cons.mpr ⟨k_215_196 L xs, List.forall_mem_cons.mpr ⟨k_215_198 L xs, List.forall_mem_cons.mpr ⟨k_215_201 L xs, fun _ h => absurd h List.not_mem_nil⟩⟩⟩⟩⟩⟩⟩⟩⟩⟩⟩⟩⟩⟩⟩⟩⟩⟩⟩⟩⟩⟩⟩⟩⟩⟩⟩⟩⟩⟩⟩⟩⟩⟩⟩⟩⟩⟩⟩⟩⟩⟩⟩⟩⟩⟩⟩⟩⟩⟩⟩⟩⟩⟩⟩⟩⟩⟩⟩⟩⟩⟩⟩⟩⟩⟩⟩⟩⟩⟩⟩⟩⟩⟩⟩⟩⟩⟩⟩⟩⟩⟩⟩⟩⟩⟩⟩⟩⟩⟩⟩⟩⟩⟩⟩⟩⟩⟩⟩⟩⟩⟩⟩⟩⟩⟩⟩⟩⟩⟩⟩⟩⟩⟩⟩
/-- InclusionProverModel.spelled.(I)I -/
def cd_216 : List (Nat × ll_O) := [
  (0, .inl (lo_push 1 (.int 0))),
  (1, .inl (lo_istore 2 2)),
  (2, .inl (lo_push 3 (.int 0))),
  (3, .inl (lo_istore 4 3)),
  (4, .inl (lo_iload 5 3)),
  (5, .inl (lo_aload 6 0)),
  (6, .inl (lo_getf 9 11 30)),
  (9, .inl (lo_cmp 66 12 (fun x y => decide (y ≤ x)))),
  (12, .inl (lo_iload 13 2)),
  (13, .inl (lo_iload 14 1)),
  (14, .inl (lo_push 15 (.int 3))),
  (15, .inl (lo_cmp 42 18 (fun x y => decide (¬ x = y)))),
  (18, .inl (lo_aload 19 0)),
  (19, .inl (lo_getf 22 11 28)),
  (22, .inl (lo_iload 23 3)),
  (23, .inl (lo_ald 24 0)),
  (24, .inl (lo_push 26 (.int 97))),
  (26, .inl (lo_push 28 (.int 99))),
  (28, .inr (.inl (151, 3, 31))),
  (31, .inl (lo_if 38 34 (fun x => decide (x = 0)))),
  (34, .inl (lo_push 35 (.int 1))),
  (35, .inl (lo_goto 58)),
  (38, .inl (lo_push 39 (.int 0))),
  (39, .inl (lo_goto 58)),
  (42, .inl (lo_aload 43 0)),
  (43, .inl (lo_getf 46 11 28)),
  (46, .inl (lo_iload 47 3)),
  (47, .inl (lo_ald 48 0)),
  (48, .inl (lo_push 50 (.int 42))),
  (50, .inl (lo_cmp 57 53 (fun x y => decide (¬ x = y)))),
  (53, .inl (lo_push 54 (.int 1))),
  (54, .inl (lo_goto 58)),
  (57, .inl (lo_push 58 (.int 0))),
  (58, .inl (lo_bin 59 (fun x y => x + y))),
  (59, .inl (lo_istore 60 2)),
  (60, .inl (lo_iinc 63 3 1)),
  (63, .inl (lo_goto 4)),
  (66, .inl (lo_iload 67 2)),
  (67, .inr (.inr 1))]
theorem k_216_0 (L : Nat) (xs : Nat → Int32) : ll_OK1 cX11_spelled RX11 (some .int) false ll_mN ll_mR ll_mK ll_cnt L xs false 0 (.inl (lo_push 1 (.int 0))) := lk_iconst (n := 0) (by decide +kernel) (by decide)
theorem k_216_1 (L : Nat) (xs : Nat → Int32) : ll_OK1 cX11_spelled RX11 (some .int) false ll_mN ll_mR ll_mK ll_cnt L xs false 1 (.inl (lo_istore 2 2)) := lk_istore_n (k := 2) (by decide +kernel) rfl
theorem k_216_2 (L : Nat) (xs : Nat → Int32) : ll_OK1 cX11_spelled RX11 (some .int) false ll_mN ll_mR ll_mK ll_cnt L xs false 2 (.inl (lo_push 3 (.int 0))) := lk_iconst (n := 0) (by decide +kernel) (by decide)
theorem k_216_3 (L : Nat) (xs : Nat → Int32) : ll_OK1 cX11_spelled RX11 (some .int) false ll_mN ll_mR ll_mK ll_cnt L xs false 3 (.inl (lo_istore 4 3)) := lk_istore_n (k := 3) (by decide +kernel) rfl
theorem k_216_4 (L : Nat) (xs : Nat → Int32) : ll_OK1 cX11_spelled RX11 (some .int) false ll_mN ll_mR ll_mK ll_cnt L xs false 4 (.inl (lo_iload 5 3)) := lk_iload_n (k := 3) (by decide +kernel) rfl
theorem k_216_5 (L : Nat) (xs : Nat → Int32) : ll_OK1 cX11_spelled RX11 (some .int) false ll_mN ll_mR ll_mK ll_cnt L xs false 5 (.inl (lo_aload 6 0)) := lk_aload_n (k := 0) (by decide +kernel) rfl
theorem k_216_6 (L : Nat) (xs : Nat → Int32) : ll_OK1 cX11_spelled RX11 (some .int) false ll_mN ll_mR ll_mK ll_cnt L xs false 6 (.inl (lo_getf 9 11 30)) := lk_getf (ix := 181) (ci := 11) (k := 30) (C := RX11) (T := TX11) (N := 46) (by decide +kernel) rfl in_11 (by decide) tb_685
theorem k_216_9 (L : Nat) (xs : Nat → Int32) : ll_OK1 cX11_spelled RX11 (some .int) false ll_mN ll_mR ll_mK ll_cnt L xs false 9 (.inl (lo_cmp 66 12 (fun x y => decide (y ≤ x)))) := lk_icmp_ge (off := 57) (by decide +kernel) rfl
theorem k_216_12 (L : Nat) (xs : Nat → Int32) : ll_OK1 cX11_spelled RX11 (some .int) false ll_mN ll_mR ll_mK ll_cnt L xs false 12 (.inl (lo_iload 13 2)) := lk_iload_n (k := 2) (by decide +kernel) rfl
theorem k_216_13 (L : Nat) (xs : Nat → Int32) : ll_OK1 cX11_spelled RX11 (some .int) false ll_mN ll_mR ll_mK ll_cnt L xs false 13 (.inl (lo_iload 14 1)) := lk_iload_n (k := 1) (by decide +kernel) rfl
theorem k_216_14 (L : Nat) (xs : Nat → Int32) : ll_OK1 cX11_spelled RX11 (some .int) false ll_mN ll_mR ll_mK ll_cnt L xs false 14 (.inl (lo_push 15 (.int 3))) := lk_iconst (n := 3) (by decide +kernel) (by decide)
theorem k_216_15 (L : Nat) (xs : Nat → Int32) : ll_OK1 cX11_spelled RX11 (some .int) false ll_mN ll_mR ll_mK ll_cnt L xs false 15 (.inl (lo_cmp 42 18 (fun x y => decide (¬ x = y)))) := lk_icmp_ne (off := 27) (by decide +kernel) rfl
theorem k_216_18 (L : Nat) (xs : Nat → Int32) : ll_OK1 cX11_spelled RX11 (some .int) false ll_mN ll_mR ll_mK ll_cnt L xs false 18 (.inl (lo_aload 19 0)) := lk_aload_n (k := 0) (by decide +kernel) rfl
theorem k_216_19 (L : Nat) (xs : Nat → Int32) : ll_OK1 cX11_spelled RX11 (some .int) false ll_mN ll_mR ll_mK ll_cnt L xs false 19 (.inl (lo_getf 22 11 28)) := lk_getf (ix := 77) (ci := 11) (k := 28) (C := RX11) (T := TX11) (N := 46) (by decide +kernel) rfl in_11 (by decide) tb_628
theorem k_216_22 (L : Nat) (xs : Nat → Int32) : ll_OK1 cX11_spelled RX11 (some .int) false ll_mN ll_mR ll_mK ll_cnt L xs false 22 (.inl (lo_iload 23 3)) := lk_iload_n (k := 3) (by decide +kernel) rfl
theorem k_216_23 (L : Nat) (xs : Nat → Int32) : ll_OK1 cX11_spelled RX11 (some .int) false ll_mN ll_mR ll_mK ll_cnt L xs false 23 (.inl (lo_ald 24 0)) := lk_iald (by decide +kernel)
theorem k_216_24 (L : Nat) (xs : Nat → Int32) : ll_OK1 cX11_spelled RX11 (some .int) false ll_mN ll_mR ll_mK ll_cnt L xs false 24 (.inl (lo_push 26 (.int 97))) := lk_bipush (n := 97) (by decide +kernel) (by decide)
theorem k_216_26 (L : Nat) (xs : Nat → Int32) : ll_OK1 cX11_spelled RX11 (some .int) false ll_mN ll_mR ll_mK ll_cnt L xs false 26 (.inl (lo_push 28 (.int 99))) := lk_bipush (n := 99) (by decide +kernel) (by decide)
theorem k_216_28 (L : Nat) (xs : Nat → Int32) : ll_OK1 cX11_spelled RX11 (some .int) false ll_mN ll_mR ll_mK ll_cnt L xs false 28 (.inr (.inl (151, 3, 31))) := ⟨rfl, by decide, by rw [mN_151, mK_151, mR_151]; exact lj_s 163 (by decide +kernel) tb_673 tb_674 (by decide +kernel)⟩
theorem k_216_31 (L : Nat) (xs : Nat → Int32) : ll_OK1 cX11_spelled RX11 (some .int) false ll_mN ll_mR ll_mK ll_cnt L xs false 31 (.inl (lo_if 38 34 (fun x => decide (x = 0)))) := lk_if_eq (off := 7) (by decide +kernel) rfl
theorem k_216_34 (L : Nat) (xs : Nat → Int32) : ll_OK1 cX11_spelled RX11 (some .int) false ll_mN ll_mR ll_mK ll_cnt L xs false 34 (.inl (lo_push 35 (.int 1))) := lk_iconst (n := 1) (by decide +kernel) (by decide)
theorem k_216_35 (L : Nat) (xs : Nat → Int32) : ll_OK1 cX11_spelled RX11 (some .int) false ll_mN ll_mR ll_mK ll_cnt L xs false 35 (.inl (lo_goto 58)) := lk_goto (off := 23) (by decide +kernel) rfl
theorem k_216_38 (L : Nat) (xs : Nat → Int32) : ll_OK1 cX11_spelled RX11 (some .int) false ll_mN ll_mR ll_mK ll_cnt L xs false 38 (.inl (lo_push 39 (.int 0))) := lk_iconst (n := 0) (by decide +kernel) (by decide)
theorem k_216_39 (L : Nat) (xs : Nat → Int32) : ll_OK1 cX11_spelled RX11 (some .int) false ll_mN ll_mR ll_mK ll_cnt L xs false 39 (.inl (lo_goto 58)) := lk_goto (off := 19) (by decide +kernel) rfl
theorem k_216_42 (L : Nat) (xs : Nat → Int32) : ll_OK1 cX11_spelled RX11 (some .int) false ll_mN ll_mR ll_mK ll_cnt L xs false 42 (.inl (lo_aload 43 0)) := lk_aload_n (k := 0) (by decide +kernel) rfl
theorem k_216_43 (L : Nat) (xs : Nat → Int32) : ll_OK1 cX11_spelled RX11 (some .int) false ll_mN ll_mR ll_mK ll_cnt L xs false 43 (.inl (lo_getf 46 11 28)) := lk_getf (ix := 77) (ci := 11) (k := 28) (C := RX11) (T := TX11) (N := 46) (by decide +kernel) rfl in_11 (by decide) tb_628
theorem k_216_46 (L : Nat) (xs : Nat → Int32) : ll_OK1 cX11_spelled RX11 (some .int) false ll_mN ll_mR ll_mK ll_cnt L xs false 46 (.inl (lo_iload 47 3)) := lk_iload_n (k := 3) (by decide +kernel) rfl
theorem k_216_47 (L : Nat) (xs : Nat → Int32) : ll_OK1 cX11_spelled RX11 (some .int) false ll_mN ll_mR ll_mK ll_cnt L xs false 47 (.inl (lo_ald 48 0)) := lk_iald (by decide +kernel)
theorem k_216_48 (L : Nat) (xs : Nat → Int32) : ll_OK1 cX11_spelled RX11 (some .int) false ll_mN ll_mR ll_mK ll_cnt L xs false 48 (.inl (lo_push 50 (.int 42))) := lk_bipush (n := 42) (by decide +kernel) (by decide)
theorem k_216_50 (L : Nat) (xs : Nat → Int32) : ll_OK1 cX11_spelled RX11 (some .int) false ll_mN ll_mR ll_mK ll_cnt L xs false 50 (.inl (lo_cmp 57 53 (fun x y => decide (¬ x = y)))) := lk_icmp_ne (off := 7) (by decide +kernel) rfl
theorem k_216_53 (L : Nat) (xs : Nat → Int32) : ll_OK1 cX11_spelled RX11 (some .int) false ll_mN ll_mR ll_mK ll_cnt L xs false 53 (.inl (lo_push 54 (.int 1))) := lk_iconst (n := 1) (by decide +kernel) (by decide)
theorem k_216_54 (L : Nat) (xs : Nat → Int32) : ll_OK1 cX11_spelled RX11 (some .int) false ll_mN ll_mR ll_mK ll_cnt L xs false 54 (.inl (lo_goto 58)) := lk_goto (off := 4) (by decide +kernel) rfl
theorem k_216_57 (L : Nat) (xs : Nat → Int32) : ll_OK1 cX11_spelled RX11 (some .int) false ll_mN ll_mR ll_mK ll_cnt L xs false 57 (.inl (lo_push 58 (.int 0))) := lk_iconst (n := 0) (by decide +kernel) (by decide)
theorem k_216_58 (L : Nat) (xs : Nat → Int32) : ll_OK1 cX11_spelled RX11 (some .int) false ll_mN ll_mR ll_mK ll_cnt L xs false 58 (.inl (lo_bin 59 (fun x y => x + y))) := lk_iadd (by decide +kernel)
theorem k_216_59 (L : Nat) (xs : Nat → Int32) : ll_OK1 cX11_spelled RX11 (some .int) false ll_mN ll_mR ll_mK ll_cnt L xs false 59 (.inl (lo_istore 60 2)) := lk_istore_n (k := 2) (by decide +kernel) rfl
theorem k_216_60 (L : Nat) (xs : Nat → Int32) : ll_OK1 cX11_spelled RX11 (some .int) false ll_mN ll_mR ll_mK ll_cnt L xs false 60 (.inl (lo_iinc 63 3 1)) := lk_iinc (n := 1) (by decide +kernel) (by decide)
theorem k_216_63 (L : Nat) (xs : Nat → Int32) : ll_OK1 cX11_spelled RX11 (some .int) false ll_mN ll_mR ll_mK ll_cnt L xs false 63 (.inl (lo_goto 4)) := lk_goto (off := (-59)) (by decide +kernel) rfl
theorem k_216_66 (L : Nat) (xs : Nat → Int32) : ll_OK1 cX11_spelled RX11 (some .int) false ll_mN ll_mR ll_mK ll_cnt L xs false 66 (.inl (lo_iload 67 2)) := lk_iload_n (k := 2) (by decide +kernel) rfl
theorem k_216_67 (L : Nat) (xs : Nat → Int32) : ll_OK1 cX11_spelled RX11 (some .int) false ll_mN ll_mR ll_mK ll_cnt L xs false 67 (.inr (.inr 1)) := ⟨(fun h => by cases h), (fun _ => ⟨(by decide +kernel), rfl⟩), fun h => by cases h⟩
theorem ok_216 (L : Nat) (xs : Nat → Int32) : ∀ q ∈ cd_216, ll_OK1 cX11_spelled RX11 (some .int) false ll_mN ll_mR ll_mK ll_cnt L xs false q.1 q.2 :=
  List.forall_mem_cons.mpr ⟨k_216_0 L xs, List.forall_mem_cons.mpr ⟨k_216_1 L xs, List.forall_mem_cons.mpr ⟨k_216_2 L xs, List.forall_mem_cons.mpr ⟨k_216_3 L xs, List.forall_mem_cons.mpr ⟨k_216_4 L xs, List.forall_mem_cons.mpr ⟨k_216_5 L xs, List.forall_mem_cons.mpr ⟨k_216_6 L xs, List.forall_mem_cons.mpr ⟨k_216_9 L xs, List.forall_mem_cons.mpr ⟨k_216_12 L xs, List.forall_mem_cons.mpr ⟨k_216_13 L xs, List.forall_mem_cons.mpr ⟨k_216_14 L xs, List.forall_mem_cons.mpr ⟨k_216_15 L xs, List.forall_mem_cons.mpr ⟨k_216_18 L xs, List.forall_mem_cons.mpr ⟨k_216_19 L xs, List.forall_mem_cons.mpr ⟨k_216_22 L xs, List.forall_mem_cons.mpr ⟨k_216_23 L xs, List.forall_mem_cons.mpr ⟨k_216_24 L xs, List.forall_mem_cons.mpr ⟨k_216_26 L xs, List.forall_mem_cons.mpr ⟨k_216_28 L xs, List.forall_mem_cons.mpr ⟨k_216_31 L xs, List.forall_mem_cons.mpr ⟨k_216_34 L xs, List.forall_mem_cons.mpr ⟨k_216_35 L xs, List.forall_mem_cons.mpr ⟨k_216_38 L xs, List.forall_mem_cons.mpr ⟨k_216_39 L xs, List.forall_mem_cons.mpr ⟨k_216_42 L xs, List.forall_mem_cons.mpr ⟨k_216_43 L xs, List.forall_mem_cons.mpr ⟨k_216_46 L xs, List.forall_mem_cons.mpr ⟨k_216_47 L xs, List.forall_mem_cons.mpr ⟨k_216_48 L xs, List.forall_mem_cons.mpr ⟨k_216_50 L xs, List.forall_mem_cons.mpr ⟨k_216_53 L xs, List.forall_mem_cons.mpr ⟨k_216_54 L xs, List.forall_mem_cons.mpr ⟨k_216_57 L xs, List.forall_mem_cons.mpr ⟨k_216_58 L xs, List.forall_mem_cons.mpr ⟨k_216_59 L xs, List.forall_mem_cons.mpr ⟨k_216_60 L xs, List.forall_mem_cons.mpr ⟨k_216_63 L xs, List.forall_mem_cons.mpr ⟨k_216_66 L xs, List.forall_mem_cons.mpr ⟨k_216_67 L xs, fun _ h => absurd h List.not_mem_nil⟩⟩⟩⟩⟩⟩⟩⟩⟩⟩⟩⟩⟩⟩⟩⟩⟩⟩⟩⟩⟩⟩⟩⟩⟩⟩⟩⟩⟩⟩⟩⟩⟩⟩⟩⟩⟩⟩⟩
/-- InclusionProverModel.byteAt.(I)I -/
def cd_217 : List (Nat × ll_O) := [
  (0, .inl (lo_iload 1 1)),
  (1, .inl (lo_push 2 (.int 0))),
  (2, .inl (lo_aload 3 0)),
  (3, .inl (lo_getf 6 11 30)),
  (6, .inl (lo_push 7 (.int 1))),
  (7, .inl (lo_bin 8 (fun x y => x - y))),
  (8, .inr (.inl (151, 3, 11))),
  (11, .inl (lo_if 23 14 (fun x => decide (x = 0)))),
  (14, .inl (lo_aload 15 0)),
  (15, .inl (lo_getf 18 11 28)),
  (18, .inl (lo_iload 19 1)),
  (19, .inl (lo_ald 20 0)),
  (20, .inl (lo_goto 24)),
  (23, .inl (lo_push 24 (.int (-1)))),
  (24, .inr (.inr 1))]
theorem k_217_0 (L : Nat) (xs : Nat → Int32) : ll_OK1 cX11_byteAt RX11 (some .int) false ll_mN ll_mR ll_mK ll_cnt L xs false 0 (.inl (lo_iload 1 1)) := lk_iload_n (k := 1) (by decide +kernel) rfl
theorem k_217_1 (L : Nat) (xs : Nat → Int32) : ll_OK1 cX11_byteAt RX11 (some .int) false ll_mN ll_mR ll_mK ll_cnt L xs false 1 (.inl (lo_push 2 (.int 0))) := lk_iconst (n := 0) (by decide +kernel) (by decide)
theorem k_217_2 (L : Nat) (xs : Nat → Int32) : ll_OK1 cX11_byteAt RX11 (some .int) false ll_mN ll_mR ll_mK ll_cnt L xs false 2 (.inl (lo_aload 3 0)) := lk_aload_n (k := 0) (by decide +kernel) rfl
theorem k_217_3 (L : Nat) (xs : Nat → Int32) : ll_OK1 cX11_byteAt RX11 (some .int) false ll_mN ll_mR ll_mK ll_cnt L xs false 3 (.inl (lo_getf 6 11 30)) := lk_getf (ix := 181) (ci := 11) (k := 30) (C := RX11) (T := TX11) (N := 46) (by decide +kernel) rfl in_11 (by decide) tb_685
theorem k_217_6 (L : Nat) (xs : Nat → Int32) : ll_OK1 cX11_byteAt RX11 (some .int) false ll_mN ll_mR ll_mK ll_cnt L xs false 6 (.inl (lo_push 7 (.int 1))) := lk_iconst (n := 1) (by decide +kernel) (by decide)
theorem k_217_7 (L : Nat) (xs : Nat → Int32) : ll_OK1 cX11_byteAt RX11 (some .int) false ll_mN ll_mR ll_mK ll_cnt L xs false 7 (.inl (lo_bin 8 (fun x y => x - y))) := lk_isub (by decide +kernel)
theorem k_217_8 (L : Nat) (xs : Nat → Int32) : ll_OK1 cX11_byteAt RX11 (some .int) false ll_mN ll_mR ll_mK ll_cnt L xs false 8 (.inr (.inl (151, 3, 11))) := ⟨rfl, by decide, by rw [mN_151, mK_151, mR_151]; exact lj_s 163 (by decide +kernel) tb_673 tb_674 (by decide +kernel)⟩
theorem k_217_11 (L : Nat) (xs : Nat → Int32) : ll_OK1 cX11_byteAt RX11 (some .int) false ll_mN ll_mR ll_mK ll_cnt L xs false 11 (.inl (lo_if 23 14 (fun x => decide (x = 0)))) := lk_if_eq (off := 12) (by decide +kernel) rfl
theorem k_217_14 (L : Nat) (xs : Nat → Int32) : ll_OK1 cX11_byteAt RX11 (some .int) false ll_mN ll_mR ll_mK ll_cnt L xs false 14 (.inl (lo_aload 15 0)) := lk_aload_n (k := 0) (by decide +kernel) rfl
theorem k_217_15 (L : Nat) (xs : Nat → Int32) : ll_OK1 cX11_byteAt RX11 (some .int) false ll_mN ll_mR ll_mK ll_cnt L xs false 15 (.inl (lo_getf 18 11 28)) := lk_getf (ix := 77) (ci := 11) (k := 28) (C := RX11) (T := TX11) (N := 46) (by decide +kernel) rfl in_11 (by decide) tb_628
theorem k_217_18 (L : Nat) (xs : Nat → Int32) : ll_OK1 cX11_byteAt RX11 (some .int) false ll_mN ll_mR ll_mK ll_cnt L xs false 18 (.inl (lo_iload 19 1)) := lk_iload_n (k := 1) (by decide +kernel) rfl
theorem k_217_19 (L : Nat) (xs : Nat → Int32) : ll_OK1 cX11_byteAt RX11 (some .int) false ll_mN ll_mR ll_mK ll_cnt L xs false 19 (.inl (lo_ald 20 0)) := lk_iald (by decide +kernel)
theorem k_217_20 (L : Nat) (xs : Nat → Int32) : ll_OK1 cX11_byteAt RX11 (some .int) false ll_mN ll_mR ll_mK ll_cnt L xs false 20 (.inl (lo_goto 24)) := lk_goto (off := 4) (by decide +kernel) rfl
theorem k_217_23 (L : Nat) (xs : Nat → Int32) : ll_OK1 cX11_byteAt RX11 (some .int) false ll_mN ll_mR ll_mK ll_cnt L xs false 23 (.inl (lo_push 24 (.int (-1)))) := lk_iconst (n := (-1)) (by decide +kernel) (by decide)
theorem k_217_24 (L : Nat) (xs : Nat → Int32) : ll_OK1 cX11_byteAt RX11 (some .int) false ll_mN ll_mR ll_mK ll_cnt L xs false 24 (.inr (.inr 1)) := ⟨(fun h => by cases h), (fun _ => ⟨(by decide +kernel), rfl⟩), fun h => by cases h⟩
theorem ok_217 (L : Nat) (xs : Nat → Int32) : ∀ q ∈ cd_217, ll_OK1 cX11_byteAt RX11 (some .int) false ll_mN ll_mR ll_mK ll_cnt L xs false q.1 q.2 :=
  List.forall_mem_cons.mpr ⟨k_217_0 L xs, List.forall_mem_cons.mpr ⟨k_217_1 L xs, List.forall_mem_cons.mpr ⟨k_217_2 L xs, List.forall_mem_cons.mpr ⟨k_217_3 L xs, List.forall_mem_cons.mpr ⟨k_217_6 L xs, List.forall_mem_cons.mpr ⟨k_217_7 L xs, List.forall_mem_cons.mpr ⟨k_217_8 L xs, List.forall_mem_cons.mpr ⟨k_217_11 L xs, List.forall_mem_cons.mpr ⟨k_217_14 L xs, List.forall_mem_cons.mpr ⟨k_217_15 L xs, List.forall_mem_cons.mpr ⟨k_217_18 L xs, List.forall_mem_cons.mpr ⟨k_217_19 L xs, List.forall_mem_cons.mpr ⟨k_217_20 L xs, List.forall_mem_cons.mpr ⟨k_217_23 L xs, List.forall_mem_cons.mpr ⟨k_217_24 L xs, fun _ h => absurd h List.not_mem_nil⟩⟩⟩⟩⟩⟩⟩⟩⟩⟩⟩⟩⟩⟩⟩
/-- InclusionProverModel.shape.(II)I -/
def cd_218 : List (Nat × ll_O) := [
  (0, .inl (lo_iload 1 1)),
  (1, .inr (.inl (209, 1, 4))),
  (4, .inl (lo_if 9 7 (fun x => decide (¬ x = 0)))),
  (7, .inl (lo_push 8 (.int (-1)))),
  (8, .inr (.inr 1)),
  (9, .inl (lo_aload 10 0)),
  (10, .inl (lo_push 11 (.int 0))),
  (11, .inl (lo_push 13 (.int 31))),
  (13, .inr (.inl (180, 3, 16))),
  (16, .inl (lo_aload 17 0)),
  (17, .inl (lo_getf 20 11 34)),
  (20, .inl (lo_push 22 (.int 31))),
  (22, .inl (lo_iload 23 1)),
  (23, .inl (lo_bin 24 (fun x y => x * y))),
  (24, .inl (lo_ald 25 0)),
  (25, .inl (lo_istore 26 3)),
  (26, .inl (lo_aload 27 0)),
  (27, .inl (lo_iload 28 3)),
  (28, .inr (.inl (169, 2, 31))),
  (31, .inl (lo_iload 32 2)),
  (32, .inl (lo_tab 0 [84, 91, 106, 111, 117, 123, 133, 147, 154] 161)),
  (84, .inl (lo_aload 85 0)),
  (85, .inl (lo_getf 88 11 35)),
  (88, .inl (lo_iload 89 1)),
  (89, .inl (lo_ald 90 0)),
  (90, .inr (.inr 1)),
  (91, .inl (lo_aload 92 0)),
  (92, .inl (lo_getf 95 11 11)),
  (95, .inl (lo_iload 96 3)),
  (96, .inl (lo_ald 97 1)),
  (97, .inl (lo_if 104 100 (fun x => decide (x = 0)))),
  (100, .inl (lo_push 101 (.int 1))),
  (101, .inl (lo_goto 105)),
  (104, .inl (lo_push 105 (.int 0))),
  (105, .inr (.inr 1)),
  (106, .inl (lo_aload 107 0)),
  (107, .inl (lo_getf 110 11 30)),
  (110, .inr (.inr 1)),
  (111, .inl (lo_aload 112 0)),
  (112, .inl (lo_push 113 (.int 3))),
  (113, .inr (.inl (216, 2, 116))),
  (116, .inr (.inr 1)),
  (117, .inl (lo_aload 118 0)),
  (118, .inl (lo_push 119 (.int 4))),
  (119, .inr (.inl (216, 2, 122))),
  (122, .inr (.inr 1)),
  (123, .inl (lo_iload 124 3)),
  (124, .inl (lo_if 131 127 (fun x => decide (¬ x = 0)))),
  (127, .inl (lo_push 128 (.int 1))),
  (128, .inl (lo_goto 132)),
  (131, .inl (lo_push 132 (.int 0))),
  (132, .inr (.inr 1)),
  (133, .inl (lo_aload 134 0)),
  (134, .inl (lo_push 135 (.int 4))),
  (135, .inr (.inl (216, 2, 138))),
  (138, .inl (lo_if 145 141 (fun x => decide (¬ x = 0)))),
  (141, .inl (lo_push 142 (.int 1))),
  (142, .inl (lo_goto 146)),
  (145, .inl (lo_push 146 (.int 0))),
  (146, .inr (.inr 1)),
  (147, .inl (lo_aload 148 0)),
  (148, .inl (lo_getf 151 11 8)),
  (151, .inl (lo_iload 152 3)),
  (152, .inl (lo_ald 153 0)),
  (153, .inr (.inr 1)),
  (154, .inl (lo_aload 155 0)),
  (155, .inl (lo_getf 158 11 9)),
  (158, .inl (lo_iload 159 3)),
  (159, .inl (lo_ald 160 0)),
  (160, .inr (.inr 1)),
  (161, .inl (lo_aload 162 0)),
  (162, .inl (lo_iload 163 2)),
  (163, .inl (lo_push 165 (.int 10))),
  (165, .inl (lo_bin 166 (fun x y => x - y))),
  (166, .inr (.inl (217, 2, 169))),
  (169, .inr (.inr 1))]
theorem k_218_0 (L : Nat) (xs : Nat → Int32) : ll_OK1 cX11_shape RX11 (some .int) false ll_mN ll_mR ll_mK ll_cnt L xs false 0 (.inl (lo_iload 1 1)) := lk_iload_n (k := 1) (by decide +kernel) rfl
theorem k_218_1 (L : Nat) (xs : Nat → Int32) : ll_OK1 cX11_shape RX11 (some .int) false ll_mN ll_mR ll_mK ll_cnt L xs false 1 (.inr (.inl (209, 1, 4))) := ⟨rfl, by decide, by rw [mN_209, mK_209, mR_209]; exact lj_s 308 (by decide +kernel) tb_792 tb_793 (by decide +kernel)⟩
theorem k_218_4 (L : Nat) (xs : Nat → Int32) : ll_OK1 cX11_shape RX11 (some .int) false ll_mN ll_mR ll_mK ll_cnt L xs false 4 (.inl (lo_if 9 7 (fun x => decide (¬ x = 0)))) := lk_if_ne (off := 5) (by decide +kernel) rfl
theorem k_218_7 (L : Nat) (xs : Nat → Int32) : ll_OK1 cX11_shape RX11 (some .int) false ll_mN ll_mR ll_mK ll_cnt L xs false 7 (.inl (lo_push 8 (.int (-1)))) := lk_iconst (n := (-1)) (by decide +kernel) (by decide)
theorem k_218_8 (L : Nat) (xs : Nat → Int32) : ll_OK1 cX11_shape RX11 (some .int) false ll_mN ll_mR ll_mK ll_cnt L xs false 8 (.inr (.inr 1)) := ⟨(fun h => by cases h), (fun _ => ⟨(by decide +kernel), rfl⟩), fun h => by cases h⟩
theorem k_218_9 (L : Nat) (xs : Nat → Int32) : ll_OK1 cX11_shape RX11 (some .int) false ll_mN ll_mR ll_mK ll_cnt L xs false 9 (.inl (lo_aload 10 0)) := lk_aload_n (k := 0) (by decide +kernel) rfl
theorem k_218_10 (L : Nat) (xs : Nat → Int32) : ll_OK1 cX11_shape RX11 (some .int) false ll_mN ll_mR ll_mK ll_cnt L xs false 10 (.inl (lo_push 11 (.int 0))) := lk_iconst (n := 0) (by decide +kernel) (by decide)
theorem k_218_11 (L : Nat) (xs : Nat → Int32) : ll_OK1 cX11_shape RX11 (some .int) false ll_mN ll_mR ll_mK ll_cnt L xs false 11 (.inl (lo_push 13 (.int 31))) := lk_bipush (n := 31) (by decide +kernel) (by decide)
theorem k_218_13 (L : Nat) (xs : Nat → Int32) : ll_OK1 cX11_shape RX11 (some .int) false ll_mN ll_mR ll_mK ll_cnt L xs false 13 (.inr (.inl (180, 3, 16))) := ⟨rfl, by decide, by rw [mN_180, mK_180, mR_180]; exact lj_v 260 2 11 (RX11, TX11, 46) (by decide +kernel) tb_756 tb_757 tb_758 rfl rfl rfl rfl (by decide +kernel)⟩
theorem k_218_16 (L : Nat) (xs : Nat → Int32) : ll_OK1 cX11_shape RX11 (some .int) false ll_mN ll_mR ll_mK ll_cnt L xs false 16 (.inl (lo_aload 17 0)) := lk_aload_n (k := 0) (by decide +kernel) rfl
theorem k_218_17 (L : Nat) (xs : Nat → Int32) : ll_OK1 cX11_shape RX11 (some .int) false ll_mN ll_mR ll_mK ll_cnt L xs false 17 (.inl (lo_getf 20 11 34)) := lk_getf (ix := 86) (ci := 11) (k := 34) (C := RX11) (T := TX11) (N := 46) (by decide +kernel) rfl in_11 (by decide) tb_631
theorem k_218_20 (L : Nat) (xs : Nat → Int32) : ll_OK1 cX11_shape RX11 (some .int) false ll_mN ll_mR ll_mK ll_cnt L xs false 20 (.inl (lo_push 22 (.int 31))) := lk_bipush (n := 31) (by decide +kernel) (by decide)
theorem k_218_22 (L : Nat) (xs : Nat → Int32) : ll_OK1 cX11_shape RX11 (some .int) false ll_mN ll_mR ll_mK ll_cnt L xs false 22 (.inl (lo_iload 23 1)) := lk_iload_n (k := 1) (by decide +kernel) rfl
theorem k_218_23 (L : Nat) (xs : Nat → Int32) : ll_OK1 cX11_shape RX11 (some .int) false ll_mN ll_mR ll_mK ll_cnt L xs false 23 (.inl (lo_bin 24 (fun x y => x * y))) := lk_imul (by decide +kernel)
theorem k_218_24 (L : Nat) (xs : Nat → Int32) : ll_OK1 cX11_shape RX11 (some .int) false ll_mN ll_mR ll_mK ll_cnt L xs false 24 (.inl (lo_ald 25 0)) := lk_iald (by decide +kernel)
theorem k_218_25 (L : Nat) (xs : Nat → Int32) : ll_OK1 cX11_shape RX11 (some .int) false ll_mN ll_mR ll_mK ll_cnt L xs false 25 (.inl (lo_istore 26 3)) := lk_istore_n (k := 3) (by decide +kernel) rfl
theorem k_218_26 (L : Nat) (xs : Nat → Int32) : ll_OK1 cX11_shape RX11 (some .int) false ll_mN ll_mR ll_mK ll_cnt L xs false 26 (.inl (lo_aload 27 0)) := lk_aload_n (k := 0) (by decide +kernel) rfl
theorem k_218_27 (L : Nat) (xs : Nat → Int32) : ll_OK1 cX11_shape RX11 (some .int) false ll_mN ll_mR ll_mK ll_cnt L xs false 27 (.inl (lo_iload 28 3)) := lk_iload_n (k := 3) (by decide +kernel) rfl
theorem k_218_28 (L : Nat) (xs : Nat → Int32) : ll_OK1 cX11_shape RX11 (some .int) false ll_mN ll_mR ll_mK ll_cnt L xs false 28 (.inr (.inl (169, 2, 31))) := ⟨rfl, by decide, by rw [mN_169, mK_169, mR_169]; exact lj_v 302 1 11 (RX11, TX11, 46) (by decide +kernel) tb_786 tb_787 tb_788 rfl rfl rfl rfl (by decide +kernel)⟩
theorem k_218_31 (L : Nat) (xs : Nat → Int32) : ll_OK1 cX11_shape RX11 (some .int) false ll_mN ll_mR ll_mK ll_cnt L xs false 31 (.inl (lo_iload 32 2)) := lk_iload_n (k := 2) (by decide +kernel) rfl
theorem k_218_32 (L : Nat) (xs : Nat → Int32) : ll_OK1 cX11_shape RX11 (some .int) false ll_mN ll_mR ll_mK ll_cnt L xs false 32 (.inl (lo_tab 0 [84, 91, 106, 111, 117, 123, 133, 147, 154] 161)) := lk_tab (d0 := 129) (hi := 8) (offs := #[52, 59, 74, 79, 85, 91, 101, 115, 122]) (len := 52) (by decide +kernel) rfl rfl rfl
theorem k_218_84 (L : Nat) (xs : Nat → Int32) : ll_OK1 cX11_shape RX11 (some .int) false ll_mN ll_mR ll_mK ll_cnt L xs false 84 (.inl (lo_aload 85 0)) := lk_aload_n (k := 0) (by decide +kernel) rfl
theorem k_218_85 (L : Nat) (xs : Nat → Int32) : ll_OK1 cX11_shape RX11 (some .int) false ll_mN ll_mR ll_mK ll_cnt L xs false 85 (.inl (lo_getf 88 11 35)) := lk_getf (ix := 89) (ci := 11) (k := 35) (C := RX11) (T := TX11) (N := 46) (by decide +kernel) rfl in_11 (by decide) tb_632
theorem k_218_88 (L : Nat) (xs : Nat → Int32) : ll_OK1 cX11_shape RX11 (some .int) false ll_mN ll_mR ll_mK ll_cnt L xs false 88 (.inl (lo_iload 89 1)) := lk_iload_n (k := 1) (by decide +kernel) rfl
theorem k_218_89 (L : Nat) (xs : Nat → Int32) : ll_OK1 cX11_shape RX11 (some .int) false ll_mN ll_mR ll_mK ll_cnt L xs false 89 (.inl (lo_ald 90 0)) := lk_iald (by decide +kernel)
theorem k_218_90 (L : Nat) (xs : Nat → Int32) : ll_OK1 cX11_shape RX11 (some .int) false ll_mN ll_mR ll_mK ll_cnt L xs false 90 (.inr (.inr 1)) := ⟨(fun h => by cases h), (fun _ => ⟨(by decide +kernel), rfl⟩), fun h => by cases h⟩
theorem k_218_91 (L : Nat) (xs : Nat → Int32) : ll_OK1 cX11_shape RX11 (some .int) false ll_mN ll_mR ll_mK ll_cnt L xs false 91 (.inl (lo_aload 92 0)) := lk_aload_n (k := 0) (by decide +kernel) rfl
theorem k_218_92 (L : Nat) (xs : Nat → Int32) : ll_OK1 cX11_shape RX11 (some .int) false ll_mN ll_mR ll_mK ll_cnt L xs false 92 (.inl (lo_getf 95 11 11)) := lk_getf (ix := 43) (ci := 11) (k := 11) (C := RX11) (T := TX11) (N := 46) (by decide +kernel) rfl in_11 (by decide) tb_616
theorem k_218_95 (L : Nat) (xs : Nat → Int32) : ll_OK1 cX11_shape RX11 (some .int) false ll_mN ll_mR ll_mK ll_cnt L xs false 95 (.inl (lo_iload 96 3)) := lk_iload_n (k := 3) (by decide +kernel) rfl
theorem k_218_96 (L : Nat) (xs : Nat → Int32) : ll_OK1 cX11_shape RX11 (some .int) false ll_mN ll_mR ll_mK ll_cnt L xs false 96 (.inl (lo_ald 97 1)) := lk_zald (by decide +kernel)
theorem k_218_97 (L : Nat) (xs : Nat → Int32) : ll_OK1 cX11_shape RX11 (some .int) false ll_mN ll_mR ll_mK ll_cnt L xs false 97 (.inl (lo_if 104 100 (fun x => decide (x = 0)))) := lk_if_eq (off := 7) (by decide +kernel) rfl
theorem k_218_100 (L : Nat) (xs : Nat → Int32) : ll_OK1 cX11_shape RX11 (some .int) false ll_mN ll_mR ll_mK ll_cnt L xs false 100 (.inl (lo_push 101 (.int 1))) := lk_iconst (n := 1) (by decide +kernel) (by decide)
theorem k_218_101 (L : Nat) (xs : Nat → Int32) : ll_OK1 cX11_shape RX11 (some .int) false ll_mN ll_mR ll_mK ll_cnt L xs false 101 (.inl (lo_goto 105)) := lk_goto (off := 4) (by decide +kernel) rfl
theorem k_218_104 (L : Nat) (xs : Nat → Int32) : ll_OK1 cX11_shape RX11 (some .int) false ll_mN ll_mR ll_mK ll_cnt L xs false 104 (.inl (lo_push 105 (.int 0))) := lk_iconst (n := 0) (by decide +kernel) (by decide)
theorem k_218_105 (L : Nat) (xs : Nat → Int32) : ll_OK1 cX11_shape RX11 (some .int) false ll_mN ll_mR ll_mK ll_cnt L xs false 105 (.inr (.inr 1)) := ⟨(fun h => by cases h), (fun _ => ⟨(by decide +kernel), rfl⟩), fun h => by cases h⟩
theorem k_218_106 (L : Nat) (xs : Nat → Int32) : ll_OK1 cX11_shape RX11 (some .int) false ll_mN ll_mR ll_mK ll_cnt L xs false 106 (.inl (lo_aload 107 0)) := lk_aload_n (k := 0) (by decide +kernel) rfl
theorem k_218_107 (L : Nat) (xs : Nat → Int32) : ll_OK1 cX11_shape RX11 (some .int) false ll_mN ll_mR ll_mK ll_cnt L xs false 107 (.inl (lo_getf 110 11 30)) := lk_getf (ix := 181) (ci := 11) (k := 30) (C := RX11) (T := TX11) (N := 46) (by decide +kernel) rfl in_11 (by decide) tb_685
theorem k_218_110 (L : Nat) (xs : Nat → Int32) : ll_OK1 cX11_shape RX11 (some .int) false ll_mN ll_mR ll_mK ll_cnt L xs false 110 (.inr (.inr 1)) := ⟨(fun h => by cases h), (fun _ => ⟨(by decide +kernel), rfl⟩), fun h => by cases h⟩
theorem k_218_111 (L : Nat) (xs : Nat → Int32) : ll_OK1 cX11_shape RX11 (some .int) false ll_mN ll_mR ll_mK ll_cnt L xs false 111 (.inl (lo_aload 112 0)) := lk_aload_n (k := 0) (by decide +kernel) rfl
theorem k_218_112 (L : Nat) (xs : Nat → Int32) : ll_OK1 cX11_shape RX11 (some .int) false ll_mN ll_mR ll_mK ll_cnt L xs false 112 (.inl (lo_push 113 (.int 3))) := lk_iconst (n := 3) (by decide +kernel) (by decide)
theorem k_218_113 (L : Nat) (xs : Nat → Int32) : ll_OK1 cX11_shape RX11 (some .int) false ll_mN ll_mR ll_mK ll_cnt L xs false 113 (.inr (.inl (216, 2, 116))) := ⟨rfl, by decide, by rw [mN_216, mK_216, mR_216]; exact lj_v 317 1 11 (RX11, TX11, 46) (by decide +kernel) tb_800 tb_801 tb_802 rfl rfl rfl rfl (by decide +kernel)⟩
theorem k_218_116 (L : Nat) (xs : Nat → Int32) : ll_OK1 cX11_shape RX11 (some .int) false ll_mN ll_mR ll_mK ll_cnt L xs false 116 (.inr (.inr 1)) := ⟨(fun h => by cases h), (fun _ => ⟨(by decide +kernel), rfl⟩), fun h => by cases h⟩
theorem k_218_117 (L : Nat) (xs : Nat → Int32) : ll_OK1 cX11_shape RX11 (some .int) false ll_mN ll_mR ll_mK ll_cnt L xs false 117 (.inl (lo_aload 118 0)) := lk_aload_n (k := 0) (by decide +kernel) rfl
theorem k_218_118 (L : Nat) (xs : Nat → Int32) : ll_OK1 cX11_shape RX11 (some .int) false ll_mN ll_mR ll_mK ll_cnt L xs false 118 (.inl (lo_push 119 (.int 4))) := lk_iconst (n := 4) (by decide +kernel) (by decide)
theorem k_218_119 (L : Nat) (xs : Nat → Int32) : ll_OK1 cX11_shape RX11 (some .int) false ll_mN ll_mR ll_mK ll_cnt L xs false 119 (.inr (.inl (216, 2, 122))) := ⟨rfl, by decide, by rw [mN_216, mK_216, mR_216]; exact lj_v 317 1 11 (RX11, TX11, 46) (by decide +kernel) tb_800 tb_801 tb_802 rfl rfl rfl rfl (by decide +kernel)⟩
theorem k_218_122 (L : Nat) (xs : Nat → Int32) : ll_OK1 cX11_shape RX11 (some .int) false ll_mN ll_mR ll_mK ll_cnt L xs false 122 (.inr (.inr 1)) := ⟨(fun h => by cases h), (fun _ => ⟨(by decide +kernel), rfl⟩), fun h => by cases h⟩
theorem k_218_123 (L : Nat) (xs : Nat → Int32) : ll_OK1 cX11_shape RX11 (some .int) false ll_mN ll_mR ll_mK ll_cnt L xs false 123 (.inl (lo_iload 124 3)) := lk_iload_n (k := 3) (by decide +kernel) rfl
theorem k_218_124 (L : Nat) (xs : Nat → Int32) : ll_OK1 cX11_shape RX11 (some .int) false ll_mN ll_mR ll_mK ll_cnt L xs false 124 (.inl (lo_if 131 127 (fun x => decide (¬ x = 0)))) := lk_if_ne (off := 7) (by decide +kernel) rfl
theorem k_218_127 (L : Nat) (xs : Nat → Int32) : ll_OK1 cX11_shape RX11 (some .int) false ll_mN ll_mR ll_mK ll_cnt L xs false 127 (.inl (lo_push 128 (.int 1))) := lk_iconst (n := 1) (by decide +kernel) (by decide)
theorem k_218_128 (L : Nat) (xs : Nat → Int32) : ll_OK1 cX11_shape RX11 (some .int) false ll_mN ll_mR ll_mK ll_cnt L xs false 128 (.inl (lo_goto 132)) := lk_goto (off := 4) (by decide +kernel) rfl
theorem k_218_131 (L : Nat) (xs : Nat → Int32) : ll_OK1 cX11_shape RX11 (some .int) false ll_mN ll_mR ll_mK ll_cnt L xs false 131 (.inl (lo_push 132 (.int 0))) := lk_iconst (n := 0) (by decide +kernel) (by decide)
theorem k_218_132 (L : Nat) (xs : Nat → Int32) : ll_OK1 cX11_shape RX11 (some .int) false ll_mN ll_mR ll_mK ll_cnt L xs false 132 (.inr (.inr 1)) := ⟨(fun h => by cases h), (fun _ => ⟨(by decide +kernel), rfl⟩), fun h => by cases h⟩
theorem k_218_133 (L : Nat) (xs : Nat → Int32) : ll_OK1 cX11_shape RX11 (some .int) false ll_mN ll_mR ll_mK ll_cnt L xs false 133 (.inl (lo_aload 134 0)) := lk_aload_n (k := 0) (by decide +kernel) rfl
theorem k_218_134 (L : Nat) (xs : Nat → Int32) : ll_OK1 cX11_shape RX11 (some .int) false ll_mN ll_mR ll_mK ll_cnt L xs false 134 (.inl (lo_push 135 (.int 4))) := lk_iconst (n := 4) (by decide +kernel) (by decide)
theorem k_218_135 (L : Nat) (xs : Nat → Int32) : ll_OK1 cX11_shape RX11 (some .int) false ll_mN ll_mR ll_mK ll_cnt L xs false 135 (.inr (.inl (216, 2, 138))) := ⟨rfl, by decide, by rw [mN_216, mK_216, mR_216]; exact lj_v 317 1 11 (RX11, TX11, 46) (by decide +kernel) tb_800 tb_801 tb_802 rfl rfl rfl rfl (by decide +kernel)⟩
theorem k_218_138 (L : Nat) (xs : Nat → Int32) : ll_OK1 cX11_shape RX11 (some .int) false ll_mN ll_mR ll_mK ll_cnt L xs false 138 (.inl (lo_if 145 141 (fun x => decide (¬ x = 0)))) := lk_if_ne (off := 7) (by decide +kernel) rfl
theorem k_218_141 (L : Nat) (xs : Nat → Int32) : ll_OK1 cX11_shape RX11 (some .int) false ll_mN ll_mR ll_mK ll_cnt L xs false 141 (.inl (lo_push 142 (.int 1))) := lk_iconst (n := 1) (by decide +kernel) (by decide)
theorem k_218_142 (L : Nat) (xs : Nat → Int32) : ll_OK1 cX11_shape RX11 (some .int) false ll_mN ll_mR ll_mK ll_cnt L xs false 142 (.inl (lo_goto 146)) := lk_goto (off := 4) (by decide +kernel) rfl
theorem k_218_145 (L : Nat) (xs : Nat → Int32) : ll_OK1 cX11_shape RX11 (some .int) false ll_mN ll_mR ll_mK ll_cnt L xs false 145 (.inl (lo_push 146 (.int 0))) := lk_iconst (n := 0) (by decide +kernel) (by decide)
theorem k_218_146 (L : Nat) (xs : Nat → Int32) : ll_OK1 cX11_shape RX11 (some .int) false ll_mN ll_mR ll_mK ll_cnt L xs false 146 (.inr (.inr 1)) := ⟨(fun h => by cases h), (fun _ => ⟨(by decide +kernel), rfl⟩), fun h => by cases h⟩
theorem k_218_147 (L : Nat) (xs : Nat → Int32) : ll_OK1 cX11_shape RX11 (some .int) false ll_mN ll_mR ll_mK ll_cnt L xs false 147 (.inl (lo_aload 148 0)) := lk_aload_n (k := 0) (by decide +kernel) rfl
theorem k_218_148 (L : Nat) (xs : Nat → Int32) : ll_OK1 cX11_shape RX11 (some .int) false ll_mN ll_mR ll_mK ll_cnt L xs false 148 (.inl (lo_getf 151 11 8)) := lk_getf (ix := 34) (ci := 11) (k := 8) (C := RX11) (T := TX11) (N := 46) (by decide +kernel) rfl in_11 (by decide) tb_613
theorem k_218_151 (L : Nat) (xs : Nat → Int32) : ll_OK1 cX11_shape RX11 (some .int) false ll_mN ll_mR ll_mK ll_cnt L xs false 151 (.inl (lo_iload 152 3)) := lk_iload_n (k := 3) (by decide +kernel) rfl
theorem k_218_152 (L : Nat) (xs : Nat → Int32) : ll_OK1 cX11_shape RX11 (some .int) false ll_mN ll_mR ll_mK ll_cnt L xs false 152 (.inl (lo_ald 153 0)) := lk_iald (by decide +kernel)
theorem k_218_153 (L : Nat) (xs : Nat → Int32) : ll_OK1 cX11_shape RX11 (some .int) false ll_mN ll_mR ll_mK ll_cnt L xs false 153 (.inr (.inr 1)) := ⟨(fun h => by cases h), (fun _ => ⟨(by decide +kernel), rfl⟩), fun h => by cases h⟩
theorem k_218_154 (L : Nat) (xs : Nat → Int32) : ll_OK1 cX11_shape RX11 (some .int) false ll_mN ll_mR ll_mK ll_cnt L xs false 154 (.inl (lo_aload 155 0)) := lk_aload_n (k := 0) (by decide +kernel) rfl
theorem k_218_155 (L : Nat) (xs : Nat → Int32) : ll_OK1 cX11_shape RX11 (some .int) false ll_mN ll_mR ll_mK ll_cnt L xs false 155 (.inl (lo_getf 158 11 9)) := lk_getf (ix := 37) (ci := 11) (k := 9) (C := RX11) (T := TX11) (N := 46) (by decide +kernel) rfl in_11 (by decide) tb_614
theorem k_218_158 (L : Nat) (xs : Nat → Int32) : ll_OK1 cX11_shape RX11 (some .int) false ll_mN ll_mR ll_mK ll_cnt L xs false 158 (.inl (lo_iload 159 3)) := lk_iload_n (k := 3) (by decide +kernel) rfl
theorem k_218_159 (L : Nat) (xs : Nat → Int32) : ll_OK1 cX11_shape RX11 (some .int) false ll_mN ll_mR ll_mK ll_cnt L xs false 159 (.inl (lo_ald 160 0)) := lk_iald (by decide +kernel)
theorem k_218_160 (L : Nat) (xs : Nat → Int32) : ll_OK1 cX11_shape RX11 (some .int) false ll_mN ll_mR ll_mK ll_cnt L xs false 160 (.inr (.inr 1)) := ⟨(fun h => by cases h), (fun _ => ⟨(by decide +kernel), rfl⟩), fun h => by cases h⟩
theorem k_218_161 (L : Nat) (xs : Nat → Int32) : ll_OK1 cX11_shape RX11 (some .int) false ll_mN ll_mR ll_mK ll_cnt L xs false 161 (.inl (lo_aload 162 0)) := lk_aload_n (k := 0) (by decide +kernel) rfl
theorem k_218_162 (L : Nat) (xs : Nat → Int32) : ll_OK1 cX11_shape RX11 (some .int) false ll_mN ll_mR ll_mK ll_cnt L xs false 162 (.inl (lo_iload 163 2)) := lk_iload_n (k := 2) (by decide +kernel) rfl
theorem k_218_163 (L : Nat) (xs : Nat → Int32) : ll_OK1 cX11_shape RX11 (some .int) false ll_mN ll_mR ll_mK ll_cnt L xs false 163 (.inl (lo_push 165 (.int 10))) := lk_bipush (n := 10) (by decide +kernel) (by decide)
theorem k_218_165 (L : Nat) (xs : Nat → Int32) : ll_OK1 cX11_shape RX11 (some .int) false ll_mN ll_mR ll_mK ll_cnt L xs false 165 (.inl (lo_bin 166 (fun x y => x - y))) := lk_isub (by decide +kernel)
theorem k_218_166 (L : Nat) (xs : Nat → Int32) : ll_OK1 cX11_shape RX11 (some .int) false ll_mN ll_mR ll_mK ll_cnt L xs false 166 (.inr (.inl (217, 2, 169))) := ⟨rfl, by decide, by rw [mN_217, mK_217, mR_217]; exact lj_v 320 1 11 (RX11, TX11, 46) (by decide +kernel) tb_803 tb_804 tb_805 rfl rfl rfl rfl (by decide +kernel)⟩
theorem k_218_169 (L : Nat) (xs : Nat → Int32) : ll_OK1 cX11_shape RX11 (some .int) false ll_mN ll_mR ll_mK ll_cnt L xs false 169 (.inr (.inr 1)) := ⟨(fun h => by cases h), (fun _ => ⟨(by decide +kernel), rfl⟩), fun h => by cases h⟩
theorem ok_218 (L : Nat) (xs : Nat → Int32) : ∀ q ∈ cd_218, ll_OK1 cX11_shape RX11 (some .int) false ll_mN ll_mR ll_mK ll_cnt L xs false q.1 q.2 :=
  List.forall_mem_cons.mpr ⟨k_218_0 L xs, List.forall_mem_cons.mpr ⟨k_218_1 L xs, List.forall_mem_cons.mpr ⟨k_218_4 L xs, List.forall_mem_cons.mpr ⟨k_218_7 L xs, List.forall_mem_cons.mpr ⟨k_218_8 L xs, List.forall_mem_cons.mpr ⟨k_218_9 L xs, List.forall_mem_cons.mpr ⟨k_218_10 L xs, List.forall_mem_cons.mpr ⟨k_218_11 L xs, List.forall_mem_cons.mpr ⟨k_218_13 L xs, List.forall_mem_cons.mpr ⟨k_218_16 L xs, List.forall_mem_cons.mpr ⟨k_218_17 L xs, List.forall_mem_cons.mpr ⟨k_218_20 L xs, List.forall_mem_cons.mpr ⟨k_218_22 L xs, List.forall_mem_cons.mpr ⟨k_218_23 L xs, List.forall_mem_cons.mpr ⟨k_218_24 L xs, List.forall_mem_cons.mpr ⟨k_218_25 L xs, List.forall_mem_cons.mpr ⟨k_218_26 L xs, List.forall_mem_cons.mpr ⟨k_218_27 L xs, List.forall_mem_cons.mpr ⟨k_218_28 L xs, List.forall_mem_cons.mpr ⟨k_218_31 L xs, List.forall_mem_cons.mpr ⟨k_218_32 L xs, List.forall_mem_cons.mpr ⟨k_218_84 L xs, List.forall_mem_cons.mpr ⟨k_218_85 L xs, List.forall_mem_cons.mpr ⟨k_218_88 L xs, List.forall_mem_cons.mpr ⟨k_218_89 L xs, List.forall_mem_cons.mpr ⟨k_218_90 L xs, List.forall_mem_cons.mpr ⟨k_218_91 L xs, List.forall_mem_cons.mpr ⟨k_218_92 L xs, List.forall_mem_cons.mpr ⟨k_218_95 L xs, List.forall_mem_cons.mpr ⟨k_218_96 L xs, List.forall_mem_cons.mpr ⟨k_218_97 L xs, List.forall_mem_cons.mpr ⟨k_218_100 L xs, List.forall_mem_cons.mpr ⟨k_218_101 L xs, List.forall_mem_cons.mpr ⟨k_218_104 L xs, List.forall_mem_cons.mpr ⟨k_218_105 L xs, List.forall_mem_cons.mpr ⟨k_218_106 L xs, List.forall_mem_cons.mpr ⟨k_218_107 L xs, List.forall_mem_cons.mpr ⟨k_218_110 L xs, List.forall_mem_cons.mpr ⟨k_218_111 L xs, List.forall_mem_cons.mpr ⟨k_218_112 L xs, List.forall_mem_cons.mpr ⟨k_218_113 L xs, List.forall_mem_cons.mpr ⟨k_218_116 L xs, List.forall_mem_cons.mpr ⟨k_218_117 L xs, List.forall_mem_cons.mpr ⟨k_218_118 L xs, List.forall_mem_cons.mpr ⟨k_218_119 L xs, List.forall_mem_cons.mpr ⟨k_218_122 L xs, List.forall_mem_cons.mpr ⟨k_218_123 L xs, List.forall_mem_cons.mpr ⟨k_218_124 L xs, List.forall_mem_cons.mpr ⟨k_218_127 L xs, List.forall_mem_cons.mpr ⟨k_218_128 L xs, List.forall_mem_cons.mpr ⟨k_218_131 L xs, List.forall_mem_cons.mpr ⟨k_218_132 L xs, List.forall_mem_cons.mpr ⟨k_218_133 L xs, List.forall_mem_cons.mpr ⟨k_218_134 L xs, List.forall_mem_cons.mpr ⟨k_218_135 L xs, List.forall_mem_cons.mpr ⟨k_218_138 L xs, List.forall_mem_cons.mpr ⟨k_218_141 L xs, List.forall_mem_cons.mpr ⟨k_218_142 L xs, List.forall_mem_cons.mpr ⟨k_218_145 L xs, List.forall_mem_cons.mpr ⟨k_218_146 L xs, List.forall_mem_cons.mpr ⟨k_218_147 L xs, List.forall_mem_cons.mpr ⟨k_218_148 L xs, List.forall_mem_cons.mpr ⟨k_218_151 L xs, List.forall_mem_cons.mpr ⟨k_218_152 L xs, List.forall_mem_cons.mpr ⟨k_218_153 L xs, List.forall_mem_cons.mpr ⟨k_218_154 L xs, List.forall_mem_cons.mpr ⟨k_218_155 L xs, List.forall_mem_cons.mpr ⟨k_218_158 L xs, List.forall_mem_cons.mpr ⟨k_218_159 L xs, List.forall_mem_cons.mpr ⟨k_218_160 L xs, List.forall_mem_cons.mpr ⟨k_218_161 L xs, List.forall_mem_cons.mpr ⟨k_218_162 L xs, List.forall_mem_cons.mpr ⟨k_218_163 L xs, List.forall_mem_cons.mpr ⟨k_218_165 L xs, List.forall_mem_cons.mpr ⟨k_218_166 L xs, List.forall_mem_cons.mpr ⟨k_218_169 L xs, fun _ h => absurd h List.not_mem_nil⟩⟩⟩⟩⟩⟩⟩⟩⟩⟩⟩⟩⟩⟩⟩⟩⟩⟩⟩⟩⟩⟩⟩⟩⟩⟩⟩⟩⟩⟩⟩⟩⟩⟩⟩⟩⟩⟩⟩⟩⟩⟩⟩⟩⟩⟩⟩⟩⟩⟩⟩⟩⟩⟩⟩⟩⟩⟩⟩⟩⟩⟩⟩⟩⟩⟩⟩⟩⟩⟩⟩⟩⟩⟩⟩⟩
/-- InclusionProverModel.term.(III)I -/
def cd_219 : List (Nat × ll_O) := [
  (0, .inl (lo_iload 1 1)),
  (1, .inr (.inl (209, 1, 4))),
  (4, .inl (lo_if 9 7 (fun x => decide (¬ x = 0)))),
  (7, .inl (lo_push 8 (.int (-1)))),
  (8, .inr (.inr 1)),
  (9, .inl (lo_aload 10 0)),
  (10, .inl (lo_push 11 (.int 0))),
  (11, .inl (lo_push 13 (.int 31))),
  (13, .inr (.inl (180, 3, 16))),
  (16, .inl (lo_iload 17 2)),
  (17, .inl (lo_push 18 (.int 0))),
  (18, .inl (lo_aload 19 0)),
  (19, .inl (lo_getf 22 11 35)),
  (22, .inl (lo_iload 23 1)),
  (23, .inl (lo_ald 24 0)),
  (24, .inl (lo_push 25 (.int 1))),
  (25, .inl (lo_bin 26 (fun x y => x - y))),
  (26, .inr (.inl (151, 3, 29))),
  (29, .inl (lo_if 34 32 (fun x => decide (¬ x = 0)))),
  (32, .inl (lo_push 33 (.int (-1)))),
  (33, .inr (.inr 1)),
  (34, .inl (lo_iload 35 3)),
  (35, .inl (lo_push 36 (.int 2))),
  (36, .inl (lo_push 37 (.int 4))),
  (37, .inr (.inl (151, 3, 40))),
  (40, .inl (lo_if 61 43 (fun x => decide (x = 0)))),
  (43, .inl (lo_aload 44 0)),
  (44, .inl (lo_getf 47 11 36)),
  (47, .inl (lo_push 48 (.int 3))),
  (48, .inl (lo_push 50 (.int 31))),
  (50, .inl (lo_iload 51 1)),
  (51, .inl (lo_bin 52 (fun x y => x * y))),
  (52, .inl (lo_iload 53 2)),
  (53, .inl (lo_bin 54 (fun x y => x + y))),
  (54, .inl (lo_bin 55 (fun x y => x * y))),
  (55, .inl (lo_iload 56 3)),
  (56, .inl (lo_bin 57 (fun x y => x + y))),
  (57, .inl (lo_push 58 (.int 2))),
  (58, .inl (lo_bin 59 (fun x y => x - y))),
  (59, .inl (lo_ald 60 0)),
  (60, .inr (.inr 1)),
  (61, .inl (lo_aload 62 0)),
  (62, .inl (lo_aload 63 0)),
  (63, .inl (lo_getf 66 11 34)),
  (66, .inl (lo_push 68 (.int 31))),
  (68, .inl (lo_iload 69 1)),
  (69, .inl (lo_bin 70 (fun x y => x * y))),
  (70, .inl (lo_iload 71 2)),
  (71, .inl (lo_bin 72 (fun x y => x + y))),
  (72, .inl (lo_ald 73 0)),
  (73, .inr (.inl (169, 2, 76))),
  (76, .inl (lo_iload 77 3)),
  (77, .inl (lo_if 97 80 (fun x => decide (¬ x = 0)))),
  (80, .inl (lo_aload 81 0)),
  (81, .inl (lo_iload 82 1)),
  (82, .inl (lo_iload 83 2)),
  (83, .inr (.inl (181, 3, 86))),
  (86, .inl (lo_if 93 89 (fun x => decide (x = 0)))),
  (89, .inl (lo_push 90 (.int 1))),
  (90, .inl (lo_goto 117)),
  (93, .inl (lo_push 94 (.int 0))),
  (94, .inl (lo_goto 117)),
  (97, .inl (lo_iload 98 3)),
  (98, .inl (lo_push 99 (.int 1))),
  (99, .inl (lo_cmp 109 102 (fun x y => decide (¬ x = y)))),
  (102, .inl (lo_aload 103 0)),
  (103, .inl (lo_getf 106 11 30)),
  (106, .inl (lo_goto 117)),
  (109, .inl (lo_aload 110 0)),
  (110, .inl (lo_iload 111 3)),
  (111, .inl (lo_push 113 (.int 10))),
  (113, .inl (lo_bin 114 (fun x y => x - y))),
  (114, .inr (.inl (217, 2, 117))),
  (117, .inr (.inr 1))]
theorem k_219_0 (L : Nat) (xs : Nat → Int32) : ll_OK1 cX11_term RX11 (some .int) false ll_mN ll_mR ll_mK ll_cnt L xs false 0 (.inl (lo_iload 1 1)) := lk_iload_n (k := 1) (by decide +kernel) rfl
theorem k_219_1 (L : Nat) (xs : Nat → Int32) : ll_OK1 cX11_term RX11 (some .int) false ll_mN ll_mR ll_mK ll_cnt L xs false 1 (.inr (.inl (209, 1, 4))) := ⟨rfl, by decide, by rw [mN_209, mK_209, mR_209]; exact lj_s 308 (by decide +kernel) tb_792 tb_793 (by decide +kernel)⟩
theorem k_219_4 (L : Nat) (xs : Nat → Int32) : ll_OK1 cX11_term RX11 (some .int) false ll_mN ll_mR ll_mK ll_cnt L xs false 4 (.inl (lo_if 9 7 (fun x => decide (¬ x = 0)))) := lk_if_ne (off := 5) (by decide +kernel) rfl
theorem k_219_7 (L : Nat) (xs : Nat → Int32) : ll_OK1 cX11_term RX11 (some .int) false ll_mN ll_mR ll_mK ll_cnt L xs false 7 (.inl (lo_push 8 (.int (-1)))) := lk_iconst (n := (-1)) (by decide +kernel) (by decide)
theorem k_219_8 (L : Nat) (xs : Nat → Int32) : ll_OK1 cX11_term RX11 (some .int) false ll_mN ll_mR ll_mK ll_cnt L xs false 8 (.inr (.inr 1)) := ⟨(fun h => by cases h), (fun _ => ⟨(by decide +kernel), rfl⟩), fun h => by cases h⟩
theorem k_219_9 (L : Nat) (xs : Nat → Int32) : ll_OK1 cX11_term RX11 (some .int) false ll_mN ll_mR ll_mK ll_cnt L xs false 9 (.inl (lo_aload 10 0)) := lk_aload_n (k := 0) (by decide +kernel) rfl
theorem k_219_10 (L : Nat) (xs : Nat → Int32) : ll_OK1 cX11_term RX11 (some .int) false ll_mN ll_mR ll_mK ll_cnt L xs false 10 (.inl (lo_push 11 (.int 0))) := lk_iconst (n := 0) (by decide +kernel) (by decide)
theorem k_219_11 (L : Nat) (xs : Nat → Int32) : ll_OK1 cX11_term RX11 (some .int) false ll_mN ll_mR ll_mK ll_cnt L xs false 11 (.inl (lo_push 13 (.int 31))) := lk_bipush (n := 31) (by decide +kernel) (by decide)
theorem k_219_13 (L : Nat) (xs : Nat → Int32) : ll_OK1 cX11_term RX11 (some .int) false ll_mN ll_mR ll_mK ll_cnt L xs false 13 (.inr (.inl (180, 3, 16))) := ⟨rfl, by decide, by rw [mN_180, mK_180, mR_180]; exact lj_v 260 2 11 (RX11, TX11, 46) (by decide +kernel) tb_756 tb_757 tb_758 rfl rfl rfl rfl (by decide +kernel)⟩
theorem k_219_16 (L : Nat) (xs : Nat → Int32) : ll_OK1 cX11_term RX11 (some .int) false ll_mN ll_mR ll_mK ll_cnt L xs false 16 (.inl (lo_iload 17 2)) := lk_iload_n (k := 2) (by decide +kernel) rfl
theorem k_219_17 (L : Nat) (xs : Nat → Int32) : ll_OK1 cX11_term RX11 (some .int) false ll_mN ll_mR ll_mK ll_cnt L xs false 17 (.inl (lo_push 18 (.int 0))) := lk_iconst (n := 0) (by decide +kernel) (by decide)
theorem k_219_18 (L : Nat) (xs : Nat → Int32) : ll_OK1 cX11_term RX11 (some .int) false ll_mN ll_mR ll_mK ll_cnt L xs false 18 (.inl (lo_aload 19 0)) := lk_aload_n (k := 0) (by decide +kernel) rfl
theorem k_219_19 (L : Nat) (xs : Nat → Int32) : ll_OK1 cX11_term RX11 (some .int) false ll_mN ll_mR ll_mK ll_cnt L xs false 19 (.inl (lo_getf 22 11 35)) := lk_getf (ix := 89) (ci := 11) (k := 35) (C := RX11) (T := TX11) (N := 46) (by decide +kernel) rfl in_11 (by decide) tb_632
theorem k_219_22 (L : Nat) (xs : Nat → Int32) : ll_OK1 cX11_term RX11 (some .int) false ll_mN ll_mR ll_mK ll_cnt L xs false 22 (.inl (lo_iload 23 1)) := lk_iload_n (k := 1) (by decide +kernel) rfl
theorem k_219_23 (L : Nat) (xs : Nat → Int32) : ll_OK1 cX11_term RX11 (some .int) false ll_mN ll_mR ll_mK ll_cnt L xs false 23 (.inl (lo_ald 24 0)) := lk_iald (by decide +kernel)
theorem k_219_24 (L : Nat) (xs : Nat → Int32) : ll_OK1 cX11_term RX11 (some .int) false ll_mN ll_mR ll_mK ll_cnt L xs false 24 (.inl (lo_push 25 (.int 1))) := lk_iconst (n := 1) (by decide +kernel) (by decide)
theorem k_219_25 (L : Nat) (xs : Nat → Int32) : ll_OK1 cX11_term RX11 (some .int) false ll_mN ll_mR ll_mK ll_cnt L xs false 25 (.inl (lo_bin 26 (fun x y => x - y))) := lk_isub (by decide +kernel)
theorem k_219_26 (L : Nat) (xs : Nat → Int32) : ll_OK1 cX11_term RX11 (some .int) false ll_mN ll_mR ll_mK ll_cnt L xs false 26 (.inr (.inl (151, 3, 29))) := ⟨rfl, by decide, by rw [mN_151, mK_151, mR_151]; exact lj_s 163 (by decide +kernel) tb_673 tb_674 (by decide +kernel)⟩
theorem k_219_29 (L : Nat) (xs : Nat → Int32) : ll_OK1 cX11_term RX11 (some .int) false ll_mN ll_mR ll_mK ll_cnt L xs false 29 (.inl (lo_if 34 32 (fun x => decide (¬ x = 0)))) := lk_if_ne (off := 5) (by decide +kernel) rfl
theorem k_219_32 (L : Nat) (xs : Nat → Int32) : ll_OK1 cX11_term RX11 (some .int) false ll_mN ll_mR ll_mK ll_cnt L xs false 32 (.inl (lo_push 33 (.int (-1)))) := lk_iconst (n := (-1)) (by decide +kernel) (by decide)
theorem k_219_33 (L : Nat) (xs : Nat → Int32) : ll_OK1 cX11_term RX11 (some .int) false ll_mN ll_mR ll_mK ll_cnt L xs false 33 (.inr (.inr 1)) := ⟨(fun h => by cases h), (fun _ => ⟨(by decide +kernel), rfl⟩), fun h => by cases h⟩
theorem k_219_34 (L : Nat) (xs : Nat → Int32) : ll_OK1 cX11_term RX11 (some .int) false ll_mN ll_mR ll_mK ll_cnt L xs false 34 (.inl (lo_iload 35 3)) := lk_iload_n (k := 3) (by decide +kernel) rfl
theorem k_219_35 (L : Nat) (xs : Nat → Int32) : ll_OK1 cX11_term RX11 (some .int) false ll_mN ll_mR ll_mK ll_cnt L xs false 35 (.inl (lo_push 36 (.int 2))) := lk_iconst (n := 2) (by decide +kernel) (by decide)
theorem k_219_36 (L : Nat) (xs : Nat → Int32) : ll_OK1 cX11_term RX11 (some .int) false ll_mN ll_mR ll_mK ll_cnt L xs false 36 (.inl (lo_push 37 (.int 4))) := lk_iconst (n := 4) (by decide +kernel) (by decide)
theorem k_219_37 (L : Nat) (xs : Nat → Int32) : ll_OK1 cX11_term RX11 (some .int) false ll_mN ll_mR ll_mK ll_cnt L xs false 37 (.inr (.inl (151, 3, 40))) := ⟨rfl, by decide, by rw [mN_151, mK_151, mR_151]; exact lj_s 163 (by decide +kernel) tb_673 tb_674 (by decide +kernel)⟩
theorem k_219_40 (L : Nat) (xs : Nat → Int32) : ll_OK1 cX11_term RX11 (some .int) false ll_mN ll_mR ll_mK ll_cnt L xs false 40 (.inl (lo_if 61 43 (fun x => decide (x = 0)))) := lk_if_eq (off := 21) (by decide +kernel) rfl
theorem k_219_43 (L : Nat) (xs : Nat → Int32) : ll_OK1 cX11_term RX11 (some .int) false ll_mN ll_mR ll_mK ll_cnt L xs false 43 (.inl (lo_aload 44 0)) := lk_aload_n (k := 0) (by decide +kernel) rfl
theorem k_219_44 (L : Nat) (xs : Nat → Int32) : ll_OK1 cX11_term RX11 (some .int) false ll_mN ll_mR ll_mK ll_cnt L xs false 44 (.inl (lo_getf 47 11 36)) := lk_getf (ix := 92) (ci := 11) (k := 36) (C := RX11) (T := TX11) (N := 46) (by decide +kernel) rfl in_11 (by decide) tb_633
theorem k_219_47 (L : Nat) (xs : Nat → Int32) : ll_OK1 cX11_term RX11 (some .int) false ll_mN ll_mR ll_mK ll_cnt L xs false 47 (.inl (lo_push 48 (.int 3))) := lk_iconst (n := 3) (by decide +kernel) (by decide)
theorem k_219_48 (L : Nat) (xs : Nat → Int32) : ll_OK1 cX11_term RX11 (some .int) false ll_mN ll_mR ll_mK ll_cnt L xs false 48 (.inl (lo_push 50 (.int 31))) := lk_bipush (n := 31) (by decide +kernel) (by decide)
theorem k_219_50 (L : Nat) (xs : Nat → Int32) : ll_OK1 cX11_term RX11 (some .int) false ll_mN ll_mR ll_mK ll_cnt L xs false 50 (.inl (lo_iload 51 1)) := lk_iload_n (k := 1) (by decide +kernel) rfl
theorem k_219_51 (L : Nat) (xs : Nat → Int32) : ll_OK1 cX11_term RX11 (some .int) false ll_mN ll_mR ll_mK ll_cnt L xs false 51 (.inl (lo_bin 52 (fun x y => x * y))) := lk_imul (by decide +kernel)
theorem k_219_52 (L : Nat) (xs : Nat → Int32) : ll_OK1 cX11_term RX11 (some .int) false ll_mN ll_mR ll_mK ll_cnt L xs false 52 (.inl (lo_iload 53 2)) := lk_iload_n (k := 2) (by decide +kernel) rfl
theorem k_219_53 (L : Nat) (xs : Nat → Int32) : ll_OK1 cX11_term RX11 (some .int) false ll_mN ll_mR ll_mK ll_cnt L xs false 53 (.inl (lo_bin 54 (fun x y => x + y))) := lk_iadd (by decide +kernel)
theorem k_219_54 (L : Nat) (xs : Nat → Int32) : ll_OK1 cX11_term RX11 (some .int) false ll_mN ll_mR ll_mK ll_cnt L xs false 54 (.inl (lo_bin 55 (fun x y => x * y))) := lk_imul (by decide +kernel)
theorem k_219_55 (L : Nat) (xs : Nat → Int32) : ll_OK1 cX11_term RX11 (some .int) false ll_mN ll_mR ll_mK ll_cnt L xs false 55 (.inl (lo_iload 56 3)) := lk_iload_n (k := 3) (by decide +kernel) rfl
theorem k_219_56 (L : Nat) (xs : Nat → Int32) : ll_OK1 cX11_term RX11 (some .int) false ll_mN ll_mR ll_mK ll_cnt L xs false 56 (.inl (lo_bin 57 (fun x y => x + y))) := lk_iadd (by decide +kernel)
theorem k_219_57 (L : Nat) (xs : Nat → Int32) : ll_OK1 cX11_term RX11 (some .int) false ll_mN ll_mR ll_mK ll_cnt L xs false 57 (.inl (lo_push 58 (.int 2))) := lk_iconst (n := 2) (by decide +kernel) (by decide)
theorem k_219_58 (L : Nat) (xs : Nat → Int32) : ll_OK1 cX11_term RX11 (some .int) false ll_mN ll_mR ll_mK ll_cnt L xs false 58 (.inl (lo_bin 59 (fun x y => x - y))) := lk_isub (by decide +kernel)
theorem k_219_59 (L : Nat) (xs : Nat → Int32) : ll_OK1 cX11_term RX11 (some .int) false ll_mN ll_mR ll_mK ll_cnt L xs false 59 (.inl (lo_ald 60 0)) := lk_iald (by decide +kernel)
theorem k_219_60 (L : Nat) (xs : Nat → Int32) : ll_OK1 cX11_term RX11 (some .int) false ll_mN ll_mR ll_mK ll_cnt L xs false 60 (.inr (.inr 1)) := ⟨(fun h => by cases h), (fun _ => ⟨(by decide +kernel), rfl⟩), fun h => by cases h⟩
theorem k_219_61 (L : Nat) (xs : Nat → Int32) : ll_OK1 cX11_term RX11 (some .int) false ll_mN ll_mR ll_mK ll_cnt L xs false 61 (.inl (lo_aload 62 0)) := lk_aload_n (k := 0) (by decide +kernel) rfl
theorem k_219_62 (L : Nat) (xs : Nat → Int32) : ll_OK1 cX11_term RX11 (some .int) false ll_mN ll_mR ll_mK ll_cnt L xs false 62 (.inl (lo_aload 63 0)) := lk_aload_n (k := 0) (by decide +kernel) rfl
theorem k_219_63 (L : Nat) (xs : Nat → Int32) : ll_OK1 cX11_term RX11 (some .int) false ll_mN ll_mR ll_mK ll_cnt L xs false 63 (.inl (lo_getf 66 11 34)) := lk_getf (ix := 86) (ci := 11) (k := 34) (C := RX11) (T := TX11) (N := 46) (by decide +kernel) rfl in_11 (by decide) tb_631
theorem k_219_66 (L : Nat) (xs : Nat → Int32) : ll_OK1 cX11_term RX11 (some .int) false ll_mN ll_mR ll_mK ll_cnt L xs false 66 (.inl (lo_push 68 (.int 31))) := lk_bipush (n := 31) (by decide +kernel) (by decide)
theorem k_219_68 (L : Nat) (xs : Nat → Int32) : ll_OK1 cX11_term RX11 (some .int) false ll_mN ll_mR ll_mK ll_cnt L xs false 68 (.inl (lo_iload 69 1)) := lk_iload_n (k := 1) (by decide +kernel) rfl
theorem k_219_69 (L : Nat) (xs : Nat → Int32) : ll_OK1 cX11_term RX11 (some .int) false ll_mN ll_mR ll_mK ll_cnt L xs false 69 (.inl (lo_bin 70 (fun x y => x * y))) := lk_imul (by decide +kernel)
theorem k_219_70 (L : Nat) (xs : Nat → Int32) : ll_OK1 cX11_term RX11 (some .int) false ll_mN ll_mR ll_mK ll_cnt L xs false 70 (.inl (lo_iload 71 2)) := lk_iload_n (k := 2) (by decide +kernel) rfl
theorem k_219_71 (L : Nat) (xs : Nat → Int32) : ll_OK1 cX11_term RX11 (some .int) false ll_mN ll_mR ll_mK ll_cnt L xs false 71 (.inl (lo_bin 72 (fun x y => x + y))) := lk_iadd (by decide +kernel)
theorem k_219_72 (L : Nat) (xs : Nat → Int32) : ll_OK1 cX11_term RX11 (some .int) false ll_mN ll_mR ll_mK ll_cnt L xs false 72 (.inl (lo_ald 73 0)) := lk_iald (by decide +kernel)
theorem k_219_73 (L : Nat) (xs : Nat → Int32) : ll_OK1 cX11_term RX11 (some .int) false ll_mN ll_mR ll_mK ll_cnt L xs false 73 (.inr (.inl (169, 2, 76))) := ⟨rfl, by decide, by rw [mN_169, mK_169, mR_169]; exact lj_v 302 1 11 (RX11, TX11, 46) (by decide +kernel) tb_786 tb_787 tb_788 rfl rfl rfl rfl (by decide +kernel)⟩
theorem k_219_76 (L : Nat) (xs : Nat → Int32) : ll_OK1 cX11_term RX11 (some .int) false ll_mN ll_mR ll_mK ll_cnt L xs false 76 (.inl (lo_iload 77 3)) := lk_iload_n (k := 3) (by decide +kernel) rfl
theorem k_219_77 (L : Nat) (xs : Nat → Int32) : ll_OK1 cX11_term RX11 (some .int) false ll_mN ll_mR ll_mK ll_cnt L xs false 77 (.inl (lo_if 97 80 (fun x => decide (¬ x = 0)))) := lk_if_ne (off := 20) (by decide +kernel) rfl
theorem k_219_80 (L : Nat) (xs : Nat → Int32) : ll_OK1 cX11_term RX11 (some .int) false ll_mN ll_mR ll_mK ll_cnt L xs false 80 (.inl (lo_aload 81 0)) := lk_aload_n (k := 0) (by decide +kernel) rfl
theorem k_219_81 (L : Nat) (xs : Nat → Int32) : ll_OK1 cX11_term RX11 (some .int) false ll_mN ll_mR ll_mK ll_cnt L xs false 81 (.inl (lo_iload 82 1)) := lk_iload_n (k := 1) (by decide +kernel) rfl
theorem k_219_82 (L : Nat) (xs : Nat → Int32) : ll_OK1 cX11_term RX11 (some .int) false ll_mN ll_mR ll_mK ll_cnt L xs false 82 (.inl (lo_iload 83 2)) := lk_iload_n (k := 2) (by decide +kernel) rfl
theorem k_219_83 (L : Nat) (xs : Nat → Int32) : ll_OK1 cX11_term RX11 (some .int) false ll_mN ll_mR ll_mK ll_cnt L xs false 83 (.inr (.inl (181, 3, 86))) := ⟨rfl, by decide, by rw [mN_181, mK_181, mR_181]; exact lj_v 234 2 11 (RX11, TX11, 46) (by decide +kernel) tb_732 tb_733 tb_734 rfl rfl rfl rfl (by decide +kernel)⟩
theorem k_219_86 (L : Nat) (xs : Nat → Int32) : ll_OK1 cX11_term RX11 (some .int) false ll_mN ll_mR ll_mK ll_cnt L xs false 86 (.inl (lo_if 93 89 (fun x => decide (x = 0)))) := lk_if_eq (off := 7) (by decide +kernel) rfl
theorem k_219_89 (L : Nat) (xs : Nat → Int32) : ll_OK1 cX11_term RX11 (some .int) false ll_mN ll_mR ll_mK ll_cnt L xs false 89 (.inl (lo_push 90 (.int 1))) := lk_iconst (n := 1) (by decide +kernel) (by decide)
theorem k_219_90 (L : Nat) (xs : Nat → Int32) : ll_OK1 cX11_term RX11 (some .int) false ll_mN ll_mR ll_mK ll_cnt L xs false 90 (.inl (lo_goto 117)) := lk_goto (off := 27) (by decide +kernel) rfl
theorem k_219_93 (L : Nat) (xs : Nat → Int32) : ll_OK1 cX11_term RX11 (some .int) false ll_mN ll_mR ll_mK ll_cnt L xs false 93 (.inl (lo_push 94 (.int 0))) := lk_iconst (n := 0) (by decide +kernel) (by decide)
theorem k_219_94 (L : Nat) (xs : Nat → Int32) : ll_OK1 cX11_term RX11 (some .int) false ll_mN ll_mR ll_mK ll_cnt L xs false 94 (.inl (lo_goto 117)) := lk_goto (off := 23) (by decide +kernel) rfl
theorem k_219_97 (L : Nat) (xs : Nat → Int32) : ll_OK1 cX11_term RX11 (some .int) false ll_mN ll_mR ll_mK ll_cnt L xs false 97 (.inl (lo_iload 98 3)) := lk_iload_n (k := 3) (by decide +kernel) rfl
theorem k_219_98 (L : Nat) (xs : Nat → Int32) : ll_OK1 cX11_term RX11 (some .int) false ll_mN ll_mR ll_mK ll_cnt L xs false 98 (.inl (lo_push 99 (.int 1))) := lk_iconst (n := 1) (by decide +kernel) (by decide)
theorem k_219_99 (L : Nat) (xs : Nat → Int32) : ll_OK1 cX11_term RX11 (some .int) false ll_mN ll_mR ll_mK ll_cnt L xs false 99 (.inl (lo_cmp 109 102 (fun x y => decide (¬ x = y)))) := lk_icmp_ne (off := 10) (by decide +kernel) rfl
theorem k_219_102 (L : Nat) (xs : Nat → Int32) : ll_OK1 cX11_term RX11 (some .int) false ll_mN ll_mR ll_mK ll_cnt L xs false 102 (.inl (lo_aload 103 0)) := lk_aload_n (k := 0) (by decide +kernel) rfl
theorem k_219_103 (L : Nat) (xs : Nat → Int32) : ll_OK1 cX11_term RX11 (some .int) false ll_mN ll_mR ll_mK ll_cnt L xs false 103 (.inl (lo_getf 106 11 30)) := lk_getf (ix := 181) (ci := 11) (k := 30) (C := RX11) (T := TX11) (N := 46) (by decide +kernel) rfl in_11 (by decide) tb_685
theorem k_219_106 (L : Nat) (xs : Nat → Int32) : ll_OK1 cX11_term RX11 (some .int) false ll_mN ll_mR ll_mK ll_cnt L xs false 106 (.inl (lo_goto 117)) := lk_goto (off := 11) (by decide +kernel) rfl
theorem k_219_109 (L : Nat) (xs : Nat → Int32) : ll_OK1 cX11_term RX11 (some .int) false ll_mN ll_mR ll_mK ll_cnt L xs false 109 (.inl (lo_aload 110 0)) := lk_aload_n (k := 0) (by decide +kernel) rfl
theorem k_219_110 (L : Nat) (xs : Nat → Int32) : ll_OK1 cX11_term RX11 (some .int) false ll_mN ll_mR ll_mK ll_cnt L xs false 110 (.inl (lo_iload 111 3)) := lk_iload_n (k := 3) (by decide +kernel) rfl
theorem k_219_111 (L : Nat) (xs : Nat → Int32) : ll_OK1 cX11_term RX11 (some .int) false ll_mN ll_mR ll_mK ll_cnt L xs false 111 (.inl (lo_push 113 (.int 10))) := lk_bipush (n := 10) (by decide +kernel) (by decide)
theorem k_219_113 (L : Nat) (xs : Nat → Int32) : ll_OK1 cX11_term RX11 (some .int) false ll_mN ll_mR ll_mK ll_cnt L xs false 113 (.inl (lo_bin 114 (fun x y => x - y))) := lk_isub (by decide +kernel)
theorem k_219_114 (L : Nat) (xs : Nat → Int32) : ll_OK1 cX11_term RX11 (some .int) false ll_mN ll_mR ll_mK ll_cnt L xs false 114 (.inr (.inl (217, 2, 117))) := ⟨rfl, by decide, by rw [mN_217, mK_217, mR_217]; exact lj_v 320 1 11 (RX11, TX11, 46) (by decide +kernel) tb_803 tb_804 tb_805 rfl rfl rfl rfl (by decide +kernel)⟩
theorem k_219_117 (L : Nat) (xs : Nat → Int32) : ll_OK1 cX11_term RX11 (some .int) false ll_mN ll_mR ll_mK ll_cnt L xs false 117 (.inr (.inr 1)) := ⟨(fun h => by cases h), (fun _ => ⟨(by decide +kernel), rfl⟩), fun h => by cases h⟩
theorem ok_219 (L : Nat) (xs : Nat → Int32) : ∀ q ∈ cd_219, ll_OK1 cX11_term RX11 (some .int) false ll_mN ll_mR ll_mK ll_cnt L xs false q.1 q.2 :=
  List.forall_mem_cons.mpr ⟨k_219_0 L xs, List.forall_mem_cons.mpr ⟨k_219_1 L xs, List.forall_mem_cons.mpr ⟨k_219_4 L xs, List.forall_mem_cons.mpr ⟨k_219_7 L xs, List.forall_mem_cons.mpr ⟨k_219_8 L xs, List.forall_mem_cons.mpr ⟨k_219_9 L xs, List.forall_mem_cons.mpr ⟨k_219_10 L xs, List.forall_mem_cons.mpr ⟨k_219_11 L xs, List.forall_mem_cons.mpr ⟨k_219_13 L xs, List.forall_mem_cons.mpr ⟨k_219_16 L xs, List.forall_mem_cons.mpr ⟨k_219_17 L xs, List.forall_mem_cons.mpr ⟨k_219_18 L xs, List.forall_mem_cons.mpr ⟨k_219_19 L xs, List.forall_mem_cons.mpr ⟨k_219_22 L xs, List.forall_mem_cons.mpr ⟨k_219_23 L xs, List.forall_mem_cons.mpr ⟨k_219_24 L xs, List.forall_mem_cons.mpr ⟨k_219_25 L xs, List.forall_mem_cons.mpr ⟨k_219_26 L xs, List.forall_mem_cons.mpr ⟨k_219_29 L xs, List.forall_mem_cons.mpr ⟨k_219_32 L xs, List.forall_mem_cons.mpr ⟨k_219_33 L xs, List.forall_mem_cons.mpr ⟨k_219_34 L xs, List.forall_mem_cons.mpr ⟨k_219_35 L xs, List.forall_mem_cons.mpr ⟨k_219_36 L xs, List.forall_mem_cons.mpr ⟨k_219_37 L xs, List.forall_mem_cons.mpr ⟨k_219_40 L xs, List.forall_mem_cons.mpr ⟨k_219_43 L xs, List.forall_mem_cons.mpr ⟨k_219_44 L xs, List.forall_mem_cons.mpr ⟨k_219_47 L xs, List.forall_mem_cons.mpr ⟨k_219_48 L xs, List.forall_mem_cons.mpr ⟨k_219_50 L xs, List.forall_mem_cons.mpr ⟨k_219_51 L xs, List.forall_mem_cons.mpr ⟨k_219_52 L xs, List.forall_mem_cons.mpr ⟨k_219_53 L xs, List.forall_mem_cons.mpr ⟨k_219_54 L xs, List.forall_mem_cons.mpr ⟨k_219_55 L xs, List.forall_mem_cons.mpr ⟨k_219_56 L xs, List.forall_mem_cons.mpr ⟨k_219_57 L xs, List.forall_mem_cons.mpr ⟨k_219_58 L xs, List.forall_mem_cons.mpr ⟨k_219_59 L xs, List.forall_mem_cons.mpr ⟨k_219_60 L xs, List.forall_mem_cons.mpr ⟨k_219_61 L xs, List.forall_mem_cons.mpr ⟨k_219_62 L xs, List.forall_mem_cons.mpr ⟨k_219_63 L xs, List.forall_mem_cons.mpr ⟨k_219_66 L xs, List.forall_mem_cons.mpr ⟨k_219_68 L xs, List.forall_mem_cons.mpr ⟨k_219_69 L xs, List.forall_mem_cons.mpr ⟨k_219_70 L xs, List.forall_mem_cons.mpr ⟨k_219_71 L xs, List.forall_mem_cons.mpr ⟨k_219_72 L xs, List.forall_mem_cons.mpr ⟨k_219_73 L xs, List.forall_mem_cons.mpr ⟨k_219_76 L xs, List.forall_mem_cons.mpr ⟨k_219_77 L xs, List.forall_mem_cons.mpr ⟨k_219_80 L xs, List.forall_mem_cons.mpr ⟨k_219_81 L xs, List.forall_mem_cons.mpr ⟨k_219_82 L xs, List.forall_mem_cons.mpr ⟨k_219_83 L xs, List.forall_mem_cons.mpr ⟨k_219_86 L xs, List.forall_mem_cons.mpr ⟨k_219_89 L xs, List.forall_mem_cons.mpr ⟨k_219_90 L xs, List.forall_mem_cons.mpr ⟨k_219_93 L xs, List.forall_mem_cons.mpr ⟨k_219_94 L xs, List.forall_mem_cons.mpr ⟨k_219_97 L xs, List.forall_mem_cons.mpr ⟨k_219_98 L xs, List.forall_mem_cons.mpr ⟨k_219_99 L xs, List.forall_mem_cons.mpr ⟨k_219_102 L xs, List.forall_mem_cons.mpr ⟨k_219_103 L xs, List.forall_mem_cons.mpr ⟨k_219_106 L xs, List.forall_mem_cons.mpr ⟨k_219_109 L xs, List.forall_mem_cons.mpr ⟨k_219_110 L xs, List.forall_mem_cons.mpr ⟨k_219_111 L xs, List.forall_mem_cons.mpr ⟨k_219_113 L xs, List.forall_mem_cons.mpr ⟨k_219_114 L xs, List.forall_mem_cons.mpr ⟨k_219_117 L xs, fun _ h => absurd h List.not_mem_nil⟩⟩⟩⟩⟩⟩⟩⟩⟩⟩⟩⟩⟩⟩⟩⟩⟩⟩⟩⟩⟩⟩⟩⟩⟩⟩⟩⟩⟩⟩⟩⟩⟩⟩⟩⟩⟩⟩⟩⟩⟩⟩⟩⟩⟩⟩⟩⟩⟩⟩⟩⟩⟩⟩⟩⟩⟩⟩⟩⟩⟩⟩⟩⟩⟩⟩⟩⟩⟩⟩⟩⟩⟩⟩
/-- InclusionProverModel.like.(II)I -/
def cd_220 : List (Nat × ll_O) := [
  (0, .inl (lo_iload 1 1)),
  (1, .inr (.inl (209, 1, 4))),
  (4, .inl (lo_if 9 7 (fun x => decide (¬ x = 0)))),
  (7, .inl (lo_push 8 (.int (-1)))),
  (8, .inr (.inr 1)),
  (9, .inl (lo_aload 10 0)),
  (10, .inl (lo_push 11 (.int 0))),
  (11, .inl (lo_push 13 (.int 31))),
  (13, .inr (.inl (180, 3, 16))),
  (16, .inl (lo_iload 17 2)),
  (17, .inl (lo_push 18 (.int 0))),
  (18, .inl (lo_aload 19 0)),
  (19, .inl (lo_getf 22 11 35)),
  (22, .inl (lo_push 23 (.int 1))),
  (23, .inl (lo_iload 24 1)),
  (24, .inl (lo_bin 25 (fun x y => x - y))),
  (25, .inl (lo_ald 26 0)),
  (26, .inl (lo_push 27 (.int 1))),
  (27, .inl (lo_bin 28 (fun x y => x - y))),
  (28, .inr (.inl (151, 3, 31))),
  (31, .inl (lo_if 55 34 (fun x => decide (x = 0)))),
  (34, .inl (lo_aload 35 0)),
  (35, .inl (lo_iload 36 1)),
  (36, .inl (lo_aload 37 0)),
  (37, .inl (lo_getf 40 11 34)),
  (40, .inl (lo_push 42 (.int 31))),
  (42, .inl (lo_push 43 (.int 1))),
  (43, .inl (lo_iload 44 1)),
  (44, .inl (lo_bin 45 (fun x y => x - y))),
  (45, .inl (lo_bin 46 (fun x y => x * y))),
  (46, .inl (lo_iload 47 2)),
  (47, .inl (lo_bin 48 (fun x y => x + y))),
  (48, .inl (lo_ald 49 0)),
  (49, .inr (.inl (177, 3, 52))),
  (52, .inl (lo_goto 56)),
  (55, .inl (lo_push 56 (.int (-1)))),
  (56, .inr (.inr 1))]
theorem k_220_0 (L : Nat) (xs : Nat → Int32) : ll_OK1 cX11_like RX11 (some .int) false ll_mN ll_mR ll_mK ll_cnt L xs false 0 (.inl (lo_iload 1 1)) := lk_iload_n (k := 1) (by decide +kernel) rfl
theorem k_220_1 (L : Nat) (xs : Nat → Int32) : ll_OK1 cX11_like RX11 (some .int) false ll_mN ll_mR ll_mK ll_cnt L xs false 1 (.inr (.inl (209, 1, 4))) := ⟨rfl, by decide, by rw [mN_209, mK_209, mR_209]; exact lj_s 308 (by decide +kernel) tb_792 tb_793 (by decide +kernel)⟩
theorem k_220_4 (L : Nat) (xs : Nat → Int32) : ll_OK1 cX11_like RX11 (some .int) false ll_mN ll_mR ll_mK ll_cnt L xs false 4 (.inl (lo_if 9 7 (fun x => decide (¬ x = 0)))) := lk_if_ne (off := 5) (by decide +kernel) rfl
theorem k_220_7 (L : Nat) (xs : Nat → Int32) : ll_OK1 cX11_like RX11 (some .int) false ll_mN ll_mR ll_mK ll_cnt L xs false 7 (.inl (lo_push 8 (.int (-1)))) := lk_iconst (n := (-1)) (by decide +kernel) (by decide)
theorem k_220_8 (L : Nat) (xs : Nat → Int32) : ll_OK1 cX11_like RX11 (some .int) false ll_mN ll_mR ll_mK ll_cnt L xs false 8 (.inr (.inr 1)) := ⟨(fun h => by cases h), (fun _ => ⟨(by decide +kernel), rfl⟩), fun h => by cases h⟩
theorem k_220_9 (L : Nat) (xs : Nat → Int32) : ll_OK1 cX11_like RX11 (some .int) false ll_mN ll_mR ll_mK ll_cnt L xs false 9 (.inl (lo_aload 10 0)) := lk_aload_n (k := 0) (by decide +kernel) rfl
theorem k_220_10 (L : Nat) (xs : Nat → Int32) : ll_OK1 cX11_like RX11 (some .int) false ll_mN ll_mR ll_mK ll_cnt L xs false 10 (.inl (lo_push 11 (.int 0))) := lk_iconst (n := 0) (by decide +kernel) (by decide)
theorem k_220_11 (L : Nat) (xs : Nat → Int32) : ll_OK1 cX11_like RX11 (some .int) false ll_mN ll_mR ll_mK ll_cnt L xs false 11 (.inl (lo_push 13 (.int 31))) := lk_bipush (n := 31) (by decide +kernel) (by decide)
theorem k_220_13 (L : Nat) (xs : Nat → Int32) : ll_OK1 cX11_like RX11 (some .int) false ll_mN ll_mR ll_mK ll_cnt L xs false 13 (.inr (.inl (180, 3, 16))) := ⟨rfl, by decide, by rw [mN_180, mK_180, mR_180]; exact lj_v 260 2 11 (RX11, TX11, 46) (by decide +kernel) tb_756 tb_757 tb_758 rfl rfl rfl rfl (by decide +kernel)⟩
theorem k_220_16 (L : Nat) (xs : Nat → Int32) : ll_OK1 cX11_like RX11 (some .int) false ll_mN ll_mR ll_mK ll_cnt L xs false 16 (.inl (lo_iload 17 2)) := lk_iload_n (k := 2) (by decide +kernel) rfl
theorem k_220_17 (L : Nat) (xs : Nat → Int32) : ll_OK1 cX11_like RX11 (some .int) false ll_mN ll_mR ll_mK ll_cnt L xs false 17 (.inl (lo_push 18 (.int 0))) := lk_iconst (n := 0) (by decide +kernel) (by decide)
theorem k_220_18 (L : Nat) (xs : Nat → Int32) : ll_OK1 cX11_like RX11 (some .int) false ll_mN ll_mR ll_mK ll_cnt L xs false 18 (.inl (lo_aload 19 0)) := lk_aload_n (k := 0) (by decide +kernel) rfl
theorem k_220_19 (L : Nat) (xs : Nat → Int32) : ll_OK1 cX11_like RX11 (some .int) false ll_mN ll_mR ll_mK ll_cnt L xs false 19 (.inl (lo_getf 22 11 35)) := lk_getf (ix := 89) (ci := 11) (k := 35) (C := RX11) (T := TX11) (N := 46) (by decide +kernel) rfl in_11 (by decide) tb_632
theorem k_220_22 (L : Nat) (xs : Nat → Int32) : ll_OK1 cX11_like RX11 (some .int) false ll_mN ll_mR ll_mK ll_cnt L xs false 22 (.inl (lo_push 23 (.int 1))) := lk_iconst (n := 1) (by decide +kernel) (by decide)
theorem k_220_23 (L : Nat) (xs : Nat → Int32) : ll_OK1 cX11_like RX11 (some .int) false ll_mN ll_mR ll_mK ll_cnt L xs false 23 (.inl (lo_iload 24 1)) := lk_iload_n (k := 1) (by decide +kernel) rfl
theorem k_220_24 (L : Nat) (xs : Nat → Int32) : ll_OK1 cX11_like RX11 (some .int) false ll_mN ll_mR ll_mK ll_cnt L xs false 24 (.inl (lo_bin 25 (fun x y => x - y))) := lk_isub (by decide +kernel)
theorem k_220_25 (L : Nat) (xs : Nat → Int32) : ll_OK1 cX11_like RX11 (some .int) false ll_mN ll_mR ll_mK ll_cnt L xs false 25 (.inl (lo_ald 26 0)) := lk_iald (by decide +kernel)
theorem k_220_26 (L : Nat) (xs : Nat → Int32) : ll_OK1 cX11_like RX11 (some .int) false ll_mN ll_mR ll_mK ll_cnt L xs false 26 (.inl (lo_push 27 (.int 1))) := lk_iconst (n := 1) (by decide +kernel) (by decide)
theorem k_220_27 (L : Nat) (xs : Nat → Int32) : ll_OK1 cX11_like RX11 (some .int) false ll_mN ll_mR ll_mK ll_cnt L xs false 27 (.inl (lo_bin 28 (fun x y => x - y))) := lk_isub (by decide +kernel)
theorem k_220_28 (L : Nat) (xs : Nat → Int32) : ll_OK1 cX11_like RX11 (some .int) false ll_mN ll_mR ll_mK ll_cnt L xs false 28 (.inr (.inl (151, 3, 31))) := ⟨rfl, by decide, by rw [mN_151, mK_151, mR_151]; exact lj_s 163 (by decide +kernel) tb_673 tb_674 (by decide +kernel)⟩
theorem k_220_31 (L : Nat) (xs : Nat → Int32) : ll_OK1 cX11_like RX11 (some .int) false ll_mN ll_mR ll_mK ll_cnt L xs false 31 (.inl (lo_if 55 34 (fun x => decide (x = 0)))) := lk_if_eq (off := 24) (by decide +kernel) rfl
theorem k_220_34 (L : Nat) (xs : Nat → Int32) : ll_OK1 cX11_like RX11 (some .int) false ll_mN ll_mR ll_mK ll_cnt L xs false 34 (.inl (lo_aload 35 0)) := lk_aload_n (k := 0) (by decide +kernel) rfl
theorem k_220_35 (L : Nat) (xs : Nat → Int32) : ll_OK1 cX11_like RX11 (some .int) false ll_mN ll_mR ll_mK ll_cnt L xs false 35 (.inl (lo_iload 36 1)) := lk_iload_n (k := 1) (by decide +kernel) rfl
theorem k_220_36 (L : Nat) (xs : Nat → Int32) : ll_OK1 cX11_like RX11 (some .int) false ll_mN ll_mR ll_mK ll_cnt L xs false 36 (.inl (lo_aload 37 0)) := lk_aload_n (k := 0) (by decide +kernel) rfl
theorem k_220_37 (L : Nat) (xs : Nat → Int32) : ll_OK1 cX11_like RX11 (some .int) false ll_mN ll_mR ll_mK ll_cnt L xs false 37 (.inl (lo_getf 40 11 34)) := lk_getf (ix := 86) (ci := 11) (k := 34) (C := RX11) (T := TX11) (N := 46) (by decide +kernel) rfl in_11 (by decide) tb_631
theorem k_220_40 (L : Nat) (xs : Nat → Int32) : ll_OK1 cX11_like RX11 (some .int) false ll_mN ll_mR ll_mK ll_cnt L xs false 40 (.inl (lo_push 42 (.int 31))) := lk_bipush (n := 31) (by decide +kernel) (by decide)
theorem k_220_42 (L : Nat) (xs : Nat → Int32) : ll_OK1 cX11_like RX11 (some .int) false ll_mN ll_mR ll_mK ll_cnt L xs false 42 (.inl (lo_push 43 (.int 1))) := lk_iconst (n := 1) (by decide +kernel) (by decide)
theorem k_220_43 (L : Nat) (xs : Nat → Int32) : ll_OK1 cX11_like RX11 (some .int) false ll_mN ll_mR ll_mK ll_cnt L xs false 43 (.inl (lo_iload 44 1)) := lk_iload_n (k := 1) (by decide +kernel) rfl
theorem k_220_44 (L : Nat) (xs : Nat → Int32) : ll_OK1 cX11_like RX11 (some .int) false ll_mN ll_mR ll_mK ll_cnt L xs false 44 (.inl (lo_bin 45 (fun x y => x - y))) := lk_isub (by decide +kernel)
theorem k_220_45 (L : Nat) (xs : Nat → Int32) : ll_OK1 cX11_like RX11 (some .int) false ll_mN ll_mR ll_mK ll_cnt L xs false 45 (.inl (lo_bin 46 (fun x y => x * y))) := lk_imul (by decide +kernel)
theorem k_220_46 (L : Nat) (xs : Nat → Int32) : ll_OK1 cX11_like RX11 (some .int) false ll_mN ll_mR ll_mK ll_cnt L xs false 46 (.inl (lo_iload 47 2)) := lk_iload_n (k := 2) (by decide +kernel) rfl
theorem k_220_47 (L : Nat) (xs : Nat → Int32) : ll_OK1 cX11_like RX11 (some .int) false ll_mN ll_mR ll_mK ll_cnt L xs false 47 (.inl (lo_bin 48 (fun x y => x + y))) := lk_iadd (by decide +kernel)
theorem k_220_48 (L : Nat) (xs : Nat → Int32) : ll_OK1 cX11_like RX11 (some .int) false ll_mN ll_mR ll_mK ll_cnt L xs false 48 (.inl (lo_ald 49 0)) := lk_iald (by decide +kernel)
theorem k_220_49 (L : Nat) (xs : Nat → Int32) : ll_OK1 cX11_like RX11 (some .int) false ll_mN ll_mR ll_mK ll_cnt L xs false 49 (.inr (.inl (177, 3, 52))) := ⟨rfl, by decide, by rw [mN_177, mK_177, mR_177]; exact lj_v 222 2 11 (RX11, TX11, 46) (by decide +kernel) tb_720 tb_721 tb_722 rfl rfl rfl rfl (by decide +kernel)⟩
theorem k_220_52 (L : Nat) (xs : Nat → Int32) : ll_OK1 cX11_like RX11 (some .int) false ll_mN ll_mR ll_mK ll_cnt L xs false 52 (.inl (lo_goto 56)) := lk_goto (off := 4) (by decide +kernel) rfl
theorem k_220_55 (L : Nat) (xs : Nat → Int32) : ll_OK1 cX11_like RX11 (some .int) false ll_mN ll_mR ll_mK ll_cnt L xs false 55 (.inl (lo_push 56 (.int (-1)))) := lk_iconst (n := (-1)) (by decide +kernel) (by decide)
theorem k_220_56 (L : Nat) (xs : Nat → Int32) : ll_OK1 cX11_like RX11 (some .int) false ll_mN ll_mR ll_mK ll_cnt L xs false 56 (.inr (.inr 1)) := ⟨(fun h => by cases h), (fun _ => ⟨(by decide +kernel), rfl⟩), fun h => by cases h⟩
theorem ok_220 (L : Nat) (xs : Nat → Int32) : ∀ q ∈ cd_220, ll_OK1 cX11_like RX11 (some .int) false ll_mN ll_mR ll_mK ll_cnt L xs false q.1 q.2 :=
  List.forall_mem_cons.mpr ⟨k_220_0 L xs, List.forall_mem_cons.mpr ⟨k_220_1 L xs, List.forall_mem_cons.mpr ⟨k_220_4 L xs, List.forall_mem_cons.mpr ⟨k_220_7 L xs, List.forall_mem_cons.mpr ⟨k_220_8 L xs, List.forall_mem_cons.mpr ⟨k_220_9 L xs, List.forall_mem_cons.mpr ⟨k_220_10 L xs, List.forall_mem_cons.mpr ⟨k_220_11 L xs, List.forall_mem_cons.mpr ⟨k_220_13 L xs, List.forall_mem_cons.mpr ⟨k_220_16 L xs, List.forall_mem_cons.mpr ⟨k_220_17 L xs, List.forall_mem_cons.mpr ⟨k_220_18 L xs, List.forall_mem_cons.mpr ⟨k_220_19 L xs, List.forall_mem_cons.mpr ⟨k_220_22 L xs, List.forall_mem_cons.mpr ⟨k_220_23 L xs, List.forall_mem_cons.mpr ⟨k_220_24 L xs, List.forall_mem_cons.mpr ⟨k_220_25 L xs, List.forall_mem_cons.mpr ⟨k_220_26 L xs, List.forall_mem_cons.mpr ⟨k_220_27 L xs, List.forall_mem_cons.mpr ⟨k_220_28 L xs, List.forall_mem_cons.mpr ⟨k_220_31 L xs, List.forall_mem_cons.mpr ⟨k_220_34 L xs, List.forall_mem_cons.mpr ⟨k_220_35 L xs, List.forall_mem_cons.mpr ⟨k_220_36 L xs, List.forall_mem_cons.mpr ⟨k_220_37 L xs, List.forall_mem_cons.mpr ⟨k_220_40 L xs, List.forall_mem_cons.mpr ⟨k_220_42 L xs, List.forall_mem_cons.mpr ⟨k_220_43 L xs, List.forall_mem_cons.mpr ⟨k_220_44 L xs, List.forall_mem_cons.mpr ⟨k_220_45 L xs, List.forall_mem_cons.mpr ⟨k_220_46 L xs, List.forall_mem_cons.mpr ⟨k_220_47 L xs, List.forall_mem_cons.mpr ⟨k_220_48 L xs, List.forall_mem_cons.mpr ⟨k_220_49 L xs, List.forall_mem_cons.mpr ⟨k_220_52 L xs, List.forall_mem_cons.mpr ⟨k_220_55 L xs, List.forall_mem_cons.mpr ⟨k_220_56 L xs, fun _ h => absurd h List.not_mem_nil⟩⟩⟩⟩⟩⟩⟩⟩⟩⟩⟩⟩⟩⟩⟩⟩⟩⟩⟩⟩⟩⟩⟩⟩⟩⟩⟩⟩⟩⟩⟩⟩⟩⟩⟩⟩⟩
/-- InclusionProverModel.has.(I)Z -/
def cd_221 : List (Nat × ll_O) := [
  (0, .inl (lo_aload 1 0)),
  (1, .inl (lo_getf 4 11 3)),
  (4, .inl (lo_istore 5 2)),
  (5, .inl (lo_aload 6 0)),
  (6, .inl (lo_push 7 (.int 0))),
  (7, .inl (lo_putf 10 11 3 0)),
  (10, .inl (lo_iload 11 1)),
  (11, .inr (.inl (209, 1, 14))),
  (14, .inl (lo_if 23 17 (fun x => decide (x = 0)))),
  (17, .inl (lo_iload 18 2)),
  (18, .inl (lo_push 20 (.int 30))),
  (20, .inl (lo_cmp 25 23 (fun x y => decide (x ≤ y)))),
  (23, .inl (lo_push 24 (.int 0))),
  (24, .inr (.inr 2)),
  (25, .inl (lo_aload 26 0)),
  (26, .inl (lo_push 27 (.int 0))),
  (27, .inl (lo_push 29 (.int 31))),
  (29, .inr (.inl (180, 3, 32))),
  (32, .inl (lo_push 33 (.int 1))),
  (33, .inl (lo_istore 34 3)),
  (34, .inl (lo_push 35 (.int 0))),
  (35, .inl (lo_istore 37 4)),
  (37, .inl (lo_iload 39 4)),
  (39, .inl (lo_iload 40 2)),
  (40, .inl (lo_cmp 85 43 (fun x y => decide (y ≤ x)))),
  (43, .inl (lo_aload 44 0)),
  (44, .inl (lo_getf 47 11 1)),
  (47, .inl (lo_iload 49 4)),
  (49, .inl (lo_ald 50 0)),
  (50, .inl (lo_push 52 (.int 97))),
  (52, .inl (lo_push 54 (.int 99))),
  (54, .inr (.inl (151, 3, 57))),
  (57, .inl (lo_if 62 60 (fun x => decide (¬ x = 0)))),
  (60, .inl (lo_push 61 (.int 0))),
  (61, .inr (.inr 2)),
  (62, .inl (lo_aload 63 0)),
  (63, .inl (lo_iload 64 1)),
  (64, .inl (lo_iload 65 3)),
  (65, .inl (lo_aload 66 0)),
  (66, .inl (lo_getf 69 11 1)),
  (69, .inl (lo_iload 71 4)),
  (71, .inl (lo_ald 72 0)),
  (72, .inl (lo_push 74 (.int 97))),
  (74, .inl (lo_bin 75 (fun x y => x - y))),
  (75, .inr (.inl (183, 4, 78))),
  (78, .inl (lo_istore 79 3)),
  (79, .inl (lo_iinc 82 4 1)),
  (82, .inl (lo_goto 37)),
  (85, .inl (lo_aload 86 0)),
  (86, .inl (lo_iload 87 1)),
  (87, .inl (lo_iload 88 3)),
  (88, .inr (.inl (182, 3, 91))),
  (91, .inr (.inr 2))]
theorem k_221_0 (L : Nat) (xs : Nat → Int32) : ll_OK1 cX11_has RX11 (some .boolean) false ll_mN ll_mR ll_mK ll_cnt L xs false 0 (.inl (lo_aload 1 0)) := lk_aload_n (k := 0) (by decide +kernel) rfl
theorem k_221_1 (L : Nat) (xs : Nat → Int32) : ll_OK1 cX11_has RX11 (some .boolean) false ll_mN ll_mR ll_mK ll_cnt L xs false 1 (.inl (lo_getf 4 11 3)) := lk_getf (ix := 279) (ci := 11) (k := 3) (C := RX11) (T := TX11) (N := 46) (by decide +kernel) rfl in_11 (by decide) tb_772
theorem k_221_4 (L : Nat) (xs : Nat → Int32) : ll_OK1 cX11_has RX11 (some .boolean) false ll_mN ll_mR ll_mK ll_cnt L xs false 4 (.inl (lo_istore 5 2)) := lk_istore_n (k := 2) (by decide +kernel) rfl
theorem k_221_5 (L : Nat) (xs : Nat → Int32) : ll_OK1 cX11_has RX11 (some .boolean) false ll_mN ll_mR ll_mK ll_cnt L xs false 5 (.inl (lo_aload 6 0)) := lk_aload_n (k := 0) (by decide +kernel) rfl
theorem k_221_6 (L : Nat) (xs : Nat → Int32) : ll_OK1 cX11_has RX11 (some .boolean) false ll_mN ll_mR ll_mK ll_cnt L xs false 6 (.inl (lo_push 7 (.int 0))) := lk_iconst (n := 0) (by decide +kernel) (by decide)
theorem k_221_7 (L : Nat) (xs : Nat → Int32) : ll_OK1 cX11_has RX11 (some .boolean) false ll_mN ll_mR ll_mK ll_cnt L xs false 7 (.inl (lo_putf 10 11 3 0)) := lk_putf (ix := 279) (ci := 11) (k := 3) (C := RX11) (T := TX11) (N := 46) (ty0 := tyX11) (by decide +kernel) rfl in_11 tyX11_ok nmX11 (by decide) tb_772 (fun B adr v w h1 h2 => ll_fit_int (B := B) (adr := adr) h1 h2) (Or.inl rfl)
theorem k_221_10 (L : Nat) (xs : Nat → Int32) : ll_OK1 cX11_has RX11 (some .boolean) false ll_mN ll_mR ll_mK ll_cnt L xs false 10 (.inl (lo_iload 11 1)) := lk_iload_n (k := 1) (by decide +kernel) rfl
theorem k_221_11 (L : Nat) (xs : Nat → Int32) : ll_OK1 cX11_has RX11 (some .boolean) false ll_mN ll_mR ll_mK ll_cnt L xs false 11 (.inr (.inl (209, 1, 14))) := ⟨rfl, by decide, by rw [mN_209, mK_209, mR_209]; exact lj_s 308 (by decide +kernel) tb_792 tb_793 (by decide +kernel)⟩
theorem k_221_14 (L : Nat) (xs : Nat → Int32) : ll_OK1 cX11_has RX11 (some .boolean) false ll_mN ll_mR ll_mK ll_cnt L xs false 14 (.inl (lo_if 23 17 (fun x => decide (x = 0)))) := lk_if_eq (off := 9) (by decide +kernel) rfl
theorem k_221_17 (L : Nat) (xs : Nat → Int32) : ll_OK1 cX11_has RX11 (some .boolean) false ll_mN ll_mR ll_mK ll_cnt L xs false 17 (.inl (lo_iload 18 2)) := lk_iload_n (k := 2) (by decide +kernel) rfl
theorem k_221_18 (L : Nat) (xs : Nat → Int32) : ll_OK1 cX11_has RX11 (some .boolean) false ll_mN ll_mR ll_mK ll_cnt L xs false 18 (.inl (lo_push 20 (.int 30))) := lk_bipush (n := 30) (by decide +kernel) (by decide)
theorem k_221_20 (L : Nat) (xs : Nat → Int32) : ll_OK1 cX11_has RX11 (some .boolean) false ll_mN ll_mR ll_mK ll_cnt L xs false 20 (.inl (lo_cmp 25 23 (fun x y => decide (x ≤ y)))) := lk_icmp_le (off := 5) (by decide +kernel) rfl
theorem k_221_23 (L : Nat) (xs : Nat → Int32) : ll_OK1 cX11_has RX11 (some .boolean) false ll_mN ll_mR ll_mK ll_cnt L xs false 23 (.inl (lo_push 24 (.int 0))) := lk_iconst (n := 0) (by decide +kernel) (by decide)
theorem k_221_24 (L : Nat) (xs : Nat → Int32) : ll_OK1 cX11_has RX11 (some .boolean) false ll_mN ll_mR ll_mK ll_cnt L xs false 24 (.inr (.inr 2)) := ⟨(fun h => by cases h), (fun h => by cases h), fun _ => ⟨(by decide +kernel), rfl⟩⟩
theorem k_221_25 (L : Nat) (xs : Nat → Int32) : ll_OK1 cX11_has RX11 (some .boolean) false ll_mN ll_mR ll_mK ll_cnt L xs false 25 (.inl (lo_aload 26 0)) := lk_aload_n (k := 0) (by decide +kernel) rfl
theorem k_221_26 (L : Nat) (xs : Nat → Int32) : ll_OK1 cX11_has RX11 (some .boolean) false ll_mN ll_mR ll_mK ll_cnt L xs false 26 (.inl (lo_push 27 (.int 0))) := lk_iconst (n := 0) (by decide +kernel) (by decide)
theorem k_221_27 (L : Nat) (xs : Nat → Int32) : ll_OK1 cX11_has RX11 (some .boolean) false ll_mN ll_mR ll_mK ll_cnt L xs false 27 (.inl (lo_push 29 (.int 31))) := lk_bipush (n := 31) (by decide +kernel) (by decide)
theorem k_221_29 (L : Nat) (xs : Nat → Int32) : ll_OK1 cX11_has RX11 (some .boolean) false ll_mN ll_mR ll_mK ll_cnt L xs false 29 (.inr (.inl (180, 3, 32))) := ⟨rfl, by decide, by rw [mN_180, mK_180, mR_180]; exact lj_v 260 2 11 (RX11, TX11, 46) (by decide +kernel) tb_756 tb_757 tb_758 rfl rfl rfl rfl (by decide +kernel)⟩
theorem k_221_32 (L : Nat) (xs : Nat → Int32) : ll_OK1 cX11_has RX11 (some .boolean) false ll_mN ll_mR ll_mK ll_cnt L xs false 32 (.inl (lo_push 33 (.int 1))) := lk_iconst (n := 1) (by decide +kernel) (by decide)
theorem k_221_33 (L : Nat) (xs : Nat → Int32) : ll_OK1 cX11_has RX11 (some .boolean) false ll_mN ll_mR ll_mK ll_cnt L xs false 33 (.inl (lo_istore 34 3)) := lk_istore_n (k := 3) (by decide +kernel) rfl
theorem k_221_34 (L : Nat) (xs : Nat → Int32) : ll_OK1 cX11_has RX11 (some .boolean) false ll_mN ll_mR ll_mK ll_cnt L xs false 34 (.inl (lo_push 35 (.int 0))) := lk_iconst (n := 0) (by decide +kernel) (by decide)
theorem k_221_35 (L : Nat) (xs : Nat → Int32) : ll_OK1 cX11_has RX11 (some .boolean) false ll_mN ll_mR ll_mK ll_cnt L xs false 35 (.inl (lo_istore 37 4)) := lk_istore (by decide +kernel)
theorem k_221_37 (L : Nat) (xs : Nat → Int32) : ll_OK1 cX11_has RX11 (some .boolean) false ll_mN ll_mR ll_mK ll_cnt L xs false 37 (.inl (lo_iload 39 4)) := lk_iload (by decide +kernel)
theorem k_221_39 (L : Nat) (xs : Nat → Int32) : ll_OK1 cX11_has RX11 (some .boolean) false ll_mN ll_mR ll_mK ll_cnt L xs false 39 (.inl (lo_iload 40 2)) := lk_iload_n (k := 2) (by decide +kernel) rfl
theorem k_221_40 (L : Nat) (xs : Nat → Int32) : ll_OK1 cX11_has RX11 (some .boolean) false ll_mN ll_mR ll_mK ll_cnt L xs false 40 (.inl (lo_cmp 85 43 (fun x y => decide (y ≤ x)))) := lk_icmp_ge (off := 45) (by decide +kernel) rfl
theorem k_221_43 (L : Nat) (xs : Nat → Int32) : ll_OK1 cX11_has RX11 (some .boolean) false ll_mN ll_mR ll_mK ll_cnt L xs false 43 (.inl (lo_aload 44 0)) := lk_aload_n (k := 0) (by decide +kernel) rfl
theorem k_221_44 (L : Nat) (xs : Nat → Int32) : ll_OK1 cX11_has RX11 (some .boolean) false ll_mN ll_mR ll_mK ll_cnt L xs false 44 (.inl (lo_getf 47 11 1)) := lk_getf (ix := 14) (ci := 11) (k := 1) (C := RX11) (T := TX11) (N := 46) (by decide +kernel) rfl in_11 (by decide) tb_607
theorem k_221_47 (L : Nat) (xs : Nat → Int32) : ll_OK1 cX11_has RX11 (some .boolean) false ll_mN ll_mR ll_mK ll_cnt L xs false 47 (.inl (lo_iload 49 4)) := lk_iload (by decide +kernel)
theorem k_221_49 (L : Nat) (xs : Nat → Int32) : ll_OK1 cX11_has RX11 (some .boolean) false ll_mN ll_mR ll_mK ll_cnt L xs false 49 (.inl (lo_ald 50 0)) := lk_iald (by decide +kernel)
theorem k_221_50 (L : Nat) (xs : Nat → Int32) : ll_OK1 cX11_has RX11 (some .boolean) false ll_mN ll_mR ll_mK ll_cnt L xs false 50 (.inl (lo_push 52 (.int 97))) := lk_bipush (n := 97) (by decide +kernel) (by decide)
theorem k_221_52 (L : Nat) (xs : Nat → Int32) : ll_OK1 cX11_has RX11 (some .boolean) false ll_mN ll_mR ll_mK ll_cnt L xs false 52 (.inl (lo_push 54 (.int 99))) := lk_bipush (n := 99) (by decide +kernel) (by decide)
theorem k_221_54 (L : Nat) (xs : Nat → Int32) : ll_OK1 cX11_has RX11 (some .boolean) false ll_mN ll_mR ll_mK ll_cnt L xs false 54 (.inr (.inl (151, 3, 57))) := ⟨rfl, by decide, by rw [mN_151, mK_151, mR_151]; exact lj_s 163 (by decide +kernel) tb_673 tb_674 (by decide +kernel)⟩
theorem k_221_57 (L : Nat) (xs : Nat → Int32) : ll_OK1 cX11_has RX11 (some .boolean) false ll_mN ll_mR ll_mK ll_cnt L xs false 57 (.inl (lo_if 62 60 (fun x => decide (¬ x = 0)))) := lk_if_ne (off := 5) (by decide +kernel) rfl
theorem k_221_60 (L : Nat) (xs : Nat → Int32) : ll_OK1 cX11_has RX11 (some .boolean) false ll_mN ll_mR ll_mK ll_cnt L xs false 60 (.inl (lo_push 61 (.int 0))) := lk_iconst (n := 0) (by decide +kernel) (by decide)
theorem k_221_61 (L : Nat) (xs : Nat → Int32) : ll_OK1 cX11_has RX11 (some .boolean) false ll_mN ll_mR ll_mK ll_cnt L xs false 61 (.inr (.inr 2)) := ⟨(fun h => by cases h), (fun h => by cases h), fun _ => ⟨(by decide +kernel), rfl⟩⟩
theorem k_221_62 (L : Nat) (xs : Nat → Int32) : ll_OK1 cX11_has RX11 (some .boolean) false ll_mN ll_mR ll_mK ll_cnt L xs false 62 (.inl (lo_aload 63 0)) := lk_aload_n (k := 0) (by decide +kernel) rfl
theorem k_221_63 (L : Nat) (xs : Nat → Int32) : ll_OK1 cX11_has RX11 (some .boolean) false ll_mN ll_mR ll_mK ll_cnt L xs false 63 (.inl (lo_iload 64 1)) := lk_iload_n (k := 1) (by decide +kernel) rfl
theorem k_221_64 (L : Nat) (xs : Nat → Int32) : ll_OK1 cX11_has RX11 (some .boolean) false ll_mN ll_mR ll_mK ll_cnt L xs false 64 (.inl (lo_iload 65 3)) := lk_iload_n (k := 3) (by decide +kernel) rfl
theorem k_221_65 (L : Nat) (xs : Nat → Int32) : ll_OK1 cX11_has RX11 (some .boolean) false ll_mN ll_mR ll_mK ll_cnt L xs false 65 (.inl (lo_aload 66 0)) := lk_aload_n (k := 0) (by decide +kernel) rfl
theorem k_221_66 (L : Nat) (xs : Nat → Int32) : ll_OK1 cX11_has RX11 (some .boolean) false ll_mN ll_mR ll_mK ll_cnt L xs false 66 (.inl (lo_getf 69 11 1)) := lk_getf (ix := 14) (ci := 11) (k := 1) (C := RX11) (T := TX11) (N := 46) (by decide +kernel) rfl in_11 (by decide) tb_607
theorem k_221_69 (L : Nat) (xs : Nat → Int32) : ll_OK1 cX11_has RX11 (some .boolean) false ll_mN ll_mR ll_mK ll_cnt L xs false 69 (.inl (lo_iload 71 4)) := lk_iload (by decide +kernel)
theorem k_221_71 (L : Nat) (xs : Nat → Int32) : ll_OK1 cX11_has RX11 (some .boolean) false ll_mN ll_mR ll_mK ll_cnt L xs false 71 (.inl (lo_ald 72 0)) := lk_iald (by decide +kernel)
theorem k_221_72 (L : Nat) (xs : Nat → Int32) : ll_OK1 cX11_has RX11 (some .boolean) false ll_mN ll_mR ll_mK ll_cnt L xs false 72 (.inl (lo_push 74 (.int 97))) := lk_bipush (n := 97) (by decide +kernel) (by decide)
theorem k_221_74 (L : Nat) (xs : Nat → Int32) : ll_OK1 cX11_has RX11 (some .boolean) false ll_mN ll_mR ll_mK ll_cnt L xs false 74 (.inl (lo_bin 75 (fun x y => x - y))) := lk_isub (by decide +kernel)
theorem k_221_75 (L : Nat) (xs : Nat → Int32) : ll_OK1 cX11_has RX11 (some .boolean) false ll_mN ll_mR ll_mK ll_cnt L xs false 75 (.inr (.inl (183, 4, 78))) := ⟨rfl, by decide, by rw [mN_183, mK_183, mR_183]; exact lj_v 238 3 11 (RX11, TX11, 46) (by decide +kernel) tb_735 tb_736 tb_737 rfl rfl rfl rfl (by decide +kernel)⟩
theorem k_221_78 (L : Nat) (xs : Nat → Int32) : ll_OK1 cX11_has RX11 (some .boolean) false ll_mN ll_mR ll_mK ll_cnt L xs false 78 (.inl (lo_istore 79 3)) := lk_istore_n (k := 3) (by decide +kernel) rfl
theorem k_221_79 (L : Nat) (xs : Nat → Int32) : ll_OK1 cX11_has RX11 (some .boolean) false ll_mN ll_mR ll_mK ll_cnt L xs false 79 (.inl (lo_iinc 82 4 1)) := lk_iinc (n := 1) (by decide +kernel) (by decide)
theorem k_221_82 (L : Nat) (xs : Nat → Int32) : ll_OK1 cX11_has RX11 (some .boolean) false ll_mN ll_mR ll_mK ll_cnt L xs false 82 (.inl (lo_goto 37)) := lk_goto (off := (-45)) (by decide +kernel) rfl
theorem k_221_85 (L : Nat) (xs : Nat → Int32) : ll_OK1 cX11_has RX11 (some .boolean) false ll_mN ll_mR ll_mK ll_cnt L xs false 85 (.inl (lo_aload 86 0)) := lk_aload_n (k := 0) (by decide +kernel) rfl
theorem k_221_86 (L : Nat) (xs : Nat → Int32) : ll_OK1 cX11_has RX11 (some .boolean) false ll_mN ll_mR ll_mK ll_cnt L xs false 86 (.inl (lo_iload 87 1)) := lk_iload_n (k := 1) (by decide +kernel) rfl
theorem k_221_87 (L : Nat) (xs : Nat → Int32) : ll_OK1 cX11_has RX11 (some .boolean) false ll_mN ll_mR ll_mK ll_cnt L xs false 87 (.inl (lo_iload 88 3)) := lk_iload_n (k := 3) (by decide +kernel) rfl
theorem k_221_88 (L : Nat) (xs : Nat → Int32) : ll_OK1 cX11_has RX11 (some .boolean) false ll_mN ll_mR ll_mK ll_cnt L xs false 88 (.inr (.inl (182, 3, 91))) := ⟨rfl, by decide, by rw [mN_182, mK_182, mR_182]; exact lj_v 251 2 11 (RX11, TX11, 46) (by decide +kernel) tb_747 tb_748 tb_749 rfl rfl rfl rfl (by decide +kernel)⟩
theorem k_221_91 (L : Nat) (xs : Nat → Int32) : ll_OK1 cX11_has RX11 (some .boolean) false ll_mN ll_mR ll_mK ll_cnt L xs false 91 (.inr (.inr 2)) := ⟨(fun h => by cases h), (fun h => by cases h), fun _ => ⟨(by decide +kernel), rfl⟩⟩
theorem ok_221 (L : Nat) (xs : Nat → Int32) : ∀ q ∈ cd_221, ll_OK1 cX11_has RX11 (some .boolean) false ll_mN ll_mR ll_mK ll_cnt L xs false q.1 q.2 :=
  List.forall_mem_cons.mpr ⟨k_221_0 L xs, List.forall_mem_cons.mpr ⟨k_221_1 L xs, List.forall_mem_cons.mpr ⟨k_221_4 L xs, List.forall_mem_cons.mpr ⟨k_221_5 L xs, List.forall_mem_cons.mpr ⟨k_221_6 L xs, List.forall_mem_cons.mpr ⟨k_221_7 L xs, List.forall_mem_cons.mpr ⟨k_221_10 L xs, List.forall_mem_cons.mpr ⟨k_221_11 L xs, List.forall_mem_cons.mpr ⟨k_221_14 L xs, List.forall_mem_cons.mpr ⟨k_221_17 L xs, List.forall_mem_cons.mpr ⟨k_221_18 L xs, List.forall_mem_cons.mpr ⟨k_221_20 L xs, List.forall_mem_cons.mpr ⟨k_221_23 L xs, List.forall_mem_cons.mpr ⟨k_221_24 L xs, List.forall_mem_cons.mpr ⟨k_221_25 L xs, List.forall_mem_cons.mpr ⟨k_221_26 L xs, List.forall_mem_cons.mpr ⟨k_221_27 L xs, List.forall_mem_cons.mpr ⟨k_221_29 L xs, List.forall_mem_cons.mpr ⟨k_221_32 L xs, List.forall_mem_cons.mpr ⟨k_221_33 L xs, List.forall_mem_cons.mpr ⟨k_221_34 L xs, List.forall_mem_cons.mpr ⟨k_221_35 L xs, List.forall_mem_cons.mpr ⟨k_221_37 L xs, List.forall_mem_cons.mpr ⟨k_221_39 L xs, List.forall_mem_cons.mpr ⟨k_221_40 L xs, List.forall_mem_cons.mpr ⟨k_221_43 L xs, List.forall_mem_cons.mpr ⟨k_221_44 L xs, List.forall_mem_cons.mpr ⟨k_221_47 L xs, List.forall_mem_cons.mpr ⟨k_221_49 L xs, List.forall_mem_cons.mpr ⟨k_221_50 L xs, List.forall_mem_cons.mpr ⟨k_221_52 L xs, List.forall_mem_cons.mpr ⟨k_221_54 L xs, List.forall_mem_cons.mpr ⟨k_221_57 L xs, List.forall_mem_cons.mpr ⟨k_221_60 L xs, List.forall_mem_cons.mpr ⟨k_221_61 L xs, List.forall_mem_cons.mpr ⟨k_221_62 L xs, List.forall_mem_cons.mpr ⟨k_221_63 L xs, List.forall_mem_cons.mpr ⟨k_221_64 L xs, List.forall_mem_cons.mpr ⟨k_221_65 L xs, List.forall_mem_cons.mpr ⟨k_221_66 L xs, List.forall_mem_cons.mpr ⟨k_221_69 L xs, List.forall_mem_cons.mpr ⟨k_221_71 L xs, List.forall_mem_cons.mpr ⟨k_221_72 L xs, List.forall_mem_cons.mpr ⟨k_221_74 L xs, List.forall_mem_cons.mpr ⟨k_221_75 L xs, List.forall_mem_cons.mpr ⟨k_221_78 L xs, List.forall_mem_cons.mpr ⟨k_221_79 L xs, List.forall_mem_cons.mpr ⟨k_221_82 L xs, List.forall_mem_cons.mpr ⟨k_221_85 L xs, List.forall_mem_cons.mpr ⟨k_221_86 L xs, List.forall_mem_cons.mpr ⟨k_221_87 L xs, List.forall_mem_cons.mpr ⟨k_221_88 L xs, List.forall_mem_cons.mpr ⟨k_221_91 L xs, fun _ h => absurd h List.not_mem_nil⟩⟩⟩⟩⟩⟩⟩⟩⟩⟩⟩⟩⟩⟩⟩⟩⟩⟩⟩⟩⟩⟩⟩⟩⟩⟩⟩⟩⟩⟩⟩⟩⟩⟩⟩⟩⟩⟩⟩⟩⟩⟩⟩⟩⟩⟩⟩⟩⟩⟩⟩⟩⟩
/-- InclusionProverModel.isWord.(II)Z -/
def cd_222 : List (Nat × ll_O) := [
  (0, .inl (lo_push 1 (.int 1))),
  (1, .inl (lo_istore 2 3)),
  (2, .inl (lo_push 3 (.int 0))),
  (3, .inl (lo_istore 5 4)),
  (5, .inl (lo_iload 7 4)),
  (7, .inl (lo_iload 8 2)),
  (8, .inl (lo_cmp 31 11 (fun x y => decide (y ≤ x)))),
  (11, .inl (lo_aload 12 0)),
  (12, .inl (lo_iload 13 1)),
  (13, .inl (lo_iload 14 3)),
  (14, .inl (lo_aload 15 0)),
  (15, .inl (lo_getf 18 11 45)),
  (18, .inl (lo_iload 20 4)),
  (20, .inl (lo_ald 21 0)),
  (21, .inr (.inl (183, 4, 24))),
  (24, .inl (lo_istore 25 3)),
  (25, .inl (lo_iinc 28 4 1)),
  (28, .inl (lo_goto 5)),
  (31, .inl (lo_aload 32 0)),
  (32, .inl (lo_iload 33 1)),
  (33, .inl (lo_iload 34 3)),
  (34, .inr (.inl (182, 3, 37))),
  (37, .inr (.inr 2))]
theorem k_222_0 (L : Nat) (xs : Nat → Int32) : ll_OK1 cX11_isWord RX11 (some .boolean) false ll_mN ll_mR ll_mK ll_cnt L xs false 0 (.inl (lo_push 1 (.int 1))) := lk_iconst (n := 1) (by decide +kernel) (by decide)
theorem k_222_1 (L : Nat) (xs : Nat → Int32) : ll_OK1 cX11_isWord RX11 (some .boolean) false ll_mN ll_mR ll_mK ll_cnt L xs false 1 (.inl (lo_istore 2 3)) := lk_istore_n (k := 3) (by decide +kernel) rfl
theorem k_222_2 (L : Nat) (xs : Nat → Int32) : ll_OK1 cX11_isWord RX11 (some .boolean) false ll_mN ll_mR ll_mK ll_cnt L xs false 2 (.inl (lo_push 3 (.int 0))) := lk_iconst (n := 0) (by decide +kernel) (by decide)
theorem k_222_3 (L : Nat) (xs : Nat → Int32) : ll_OK1 cX11_isWord RX11 (some .boolean) false ll_mN ll_mR ll_mK ll_cnt L xs false 3 (.inl (lo_istore 5 4)) := lk_istore (by decide +kernel)
theorem k_222_5 (L : Nat) (xs : Nat → Int32) : ll_OK1 cX11_isWord RX11 (some .boolean) false ll_mN ll_mR ll_mK ll_cnt L xs false 5 (.inl (lo_iload 7 4)) := lk_iload (by decide +kernel)
theorem k_222_7 (L : Nat) (xs : Nat → Int32) : ll_OK1 cX11_isWord RX11 (some .boolean) false ll_mN ll_mR ll_mK ll_cnt L xs false 7 (.inl (lo_iload 8 2)) := lk_iload_n (k := 2) (by decide +kernel) rfl
theorem k_222_8 (L : Nat) (xs : Nat → Int32) : ll_OK1 cX11_isWord RX11 (some .boolean) false ll_mN ll_mR ll_mK ll_cnt L xs false 8 (.inl (lo_cmp 31 11 (fun x y => decide (y ≤ x)))) := lk_icmp_ge (off := 23) (by decide +kernel) rfl
theorem k_222_11 (L : Nat) (xs : Nat → Int32) : ll_OK1 cX11_isWord RX11 (some .boolean) false ll_mN ll_mR ll_mK ll_cnt L xs false 11 (.inl (lo_aload 12 0)) := lk_aload_n (k := 0) (by decide +kernel) rfl
theorem k_222_12 (L : Nat) (xs : Nat → Int32) : ll_OK1 cX11_isWord RX11 (some .boolean) false ll_mN ll_mR ll_mK ll_cnt L xs false 12 (.inl (lo_iload 13 1)) := lk_iload_n (k := 1) (by decide +kernel) rfl
theorem k_222_13 (L : Nat) (xs : Nat → Int32) : ll_OK1 cX11_isWord RX11 (some .boolean) false ll_mN ll_mR ll_mK ll_cnt L xs false 13 (.inl (lo_iload 14 3)) := lk_iload_n (k := 3) (by decide +kernel) rfl
theorem k_222_14 (L : Nat) (xs : Nat → Int32) : ll_OK1 cX11_isWord RX11 (some .boolean) false ll_mN ll_mR ll_mK ll_cnt L xs false 14 (.inl (lo_aload 15 0)) := lk_aload_n (k := 0) (by decide +kernel) rfl
theorem k_222_15 (L : Nat) (xs : Nat → Int32) : ll_OK1 cX11_isWord RX11 (some .boolean) false ll_mN ll_mR ll_mK ll_cnt L xs false 15 (.inl (lo_getf 18 11 45)) := lk_getf (ix := 110) (ci := 11) (k := 45) (C := RX11) (T := TX11) (N := 46) (by decide +kernel) rfl in_11 (by decide) tb_639
theorem k_222_18 (L : Nat) (xs : Nat → Int32) : ll_OK1 cX11_isWord RX11 (some .boolean) false ll_mN ll_mR ll_mK ll_cnt L xs false 18 (.inl (lo_iload 20 4)) := lk_iload (by decide +kernel)
theorem k_222_20 (L : Nat) (xs : Nat → Int32) : ll_OK1 cX11_isWord RX11 (some .boolean) false ll_mN ll_mR ll_mK ll_cnt L xs false 20 (.inl (lo_ald 21 0)) := lk_iald (by decide +kernel)
theorem k_222_21 (L : Nat) (xs : Nat → Int32) : ll_OK1 cX11_isWord RX11 (some .boolean) false ll_mN ll_mR ll_mK ll_cnt L xs false 21 (.inr (.inl (183, 4, 24))) := ⟨rfl, by decide, by rw [mN_183, mK_183, mR_183]; exact lj_v 238 3 11 (RX11, TX11, 46) (by decide +kernel) tb_735 tb_736 tb_737 rfl rfl rfl rfl (by decide +kernel)⟩
theorem k_222_24 (L : Nat) (xs : Nat → Int32) : ll_OK1 cX11_isWord RX11 (some .boolean) false ll_mN ll_mR ll_mK ll_cnt L xs false 24 (.inl (lo_istore 25 3)) := lk_istore_n (k := 3) (by decide +kernel) rfl
theorem k_222_25 (L : Nat) (xs : Nat → Int32) : ll_OK1 cX11_isWord RX11 (some .boolean) false ll_mN ll_mR ll_mK ll_cnt L xs false 25 (.inl (lo_iinc 28 4 1)) := lk_iinc (n := 1) (by decide +kernel) (by decide)
theorem k_222_28 (L : Nat) (xs : Nat → Int32) : ll_OK1 cX11_isWord RX11 (some .boolean) false ll_mN ll_mR ll_mK ll_cnt L xs false 28 (.inl (lo_goto 5)) := lk_goto (off := (-23)) (by decide +kernel) rfl
theorem k_222_31 (L : Nat) (xs : Nat → Int32) : ll_OK1 cX11_isWord RX11 (some .boolean) false ll_mN ll_mR ll_mK ll_cnt L xs false 31 (.inl (lo_aload 32 0)) := lk_aload_n (k := 0) (by decide +kernel) rfl
theorem k_222_32 (L : Nat) (xs : Nat → Int32) : ll_OK1 cX11_isWord RX11 (some .boolean) false ll_mN ll_mR ll_mK ll_cnt L xs false 32 (.inl (lo_iload 33 1)) := lk_iload_n (k := 1) (by decide +kernel) rfl
theorem k_222_33 (L : Nat) (xs : Nat → Int32) : ll_OK1 cX11_isWord RX11 (some .boolean) false ll_mN ll_mR ll_mK ll_cnt L xs false 33 (.inl (lo_iload 34 3)) := lk_iload_n (k := 3) (by decide +kernel) rfl
theorem k_222_34 (L : Nat) (xs : Nat → Int32) : ll_OK1 cX11_isWord RX11 (some .boolean) false ll_mN ll_mR ll_mK ll_cnt L xs false 34 (.inr (.inl (182, 3, 37))) := ⟨rfl, by decide, by rw [mN_182, mK_182, mR_182]; exact lj_v 251 2 11 (RX11, TX11, 46) (by decide +kernel) tb_747 tb_748 tb_749 rfl rfl rfl rfl (by decide +kernel)⟩
theorem k_222_37 (L : Nat) (xs : Nat → Int32) : ll_OK1 cX11_isWord RX11 (some .boolean) false ll_mN ll_mR ll_mK ll_cnt L xs false 37 (.inr (.inr 2)) := ⟨(fun h => by cases h), (fun h => by cases h), fun _ => ⟨(by decide +kernel), rfl⟩⟩
theorem ok_222 (L : Nat) (xs : Nat → Int32) : ∀ q ∈ cd_222, ll_OK1 cX11_isWord RX11 (some .boolean) false ll_mN ll_mR ll_mK ll_cnt L xs false q.1 q.2 :=
  List.forall_mem_cons.mpr ⟨k_222_0 L xs, List.forall_mem_cons.mpr ⟨k_222_1 L xs, List.forall_mem_cons.mpr ⟨k_222_2 L xs, List.forall_mem_cons.mpr ⟨k_222_3 L xs, List.forall_mem_cons.mpr ⟨k_222_5 L xs, List.forall_mem_cons.mpr ⟨k_222_7 L xs, List.forall_mem_cons.mpr ⟨k_222_8 L xs, List.forall_mem_cons.mpr ⟨k_222_11 L xs, List.forall_mem_cons.mpr ⟨k_222_12 L xs, List.forall_mem_cons.mpr ⟨k_222_13 L xs, List.forall_mem_cons.mpr ⟨k_222_14 L xs, List.forall_mem_cons.mpr ⟨k_222_15 L xs, List.forall_mem_cons.mpr ⟨k_222_18 L xs, List.forall_mem_cons.mpr ⟨k_222_20 L xs, List.forall_mem_cons.mpr ⟨k_222_21 L xs, List.forall_mem_cons.mpr ⟨k_222_24 L xs, List.forall_mem_cons.mpr ⟨k_222_25 L xs, List.forall_mem_cons.mpr ⟨k_222_28 L xs, List.forall_mem_cons.mpr ⟨k_222_31 L xs, List.forall_mem_cons.mpr ⟨k_222_32 L xs, List.forall_mem_cons.mpr ⟨k_222_33 L xs, List.forall_mem_cons.mpr ⟨k_222_34 L xs, List.forall_mem_cons.mpr ⟨k_222_37 L xs, fun _ h => absurd h List.not_mem_nil⟩⟩⟩⟩⟩⟩⟩⟩⟩⟩⟩⟩⟩⟩⟩⟩⟩⟩⟩⟩⟩⟩⟩
/-- InclusionProverModel.isOne.(II)Z -/
def cd_223 : List (Nat × ll_O) := [
  (0, .inl (lo_aload 1 0)),
  (1, .inl (lo_push 2 (.int 0))),
  (2, .inl (lo_iload 3 2)),
  (3, .inr (.inl (222, 3, 6))),
  (6, .inl (lo_istore 7 3)),
  (7, .inl (lo_aload 8 0)),
  (8, .inl (lo_push 9 (.int 1))),
  (9, .inl (lo_iload 10 2)),
  (10, .inr (.inl (222, 3, 13))),
  (13, .inl (lo_istore 15 4)),
  (15, .inl (lo_iload 16 1)),
  (16, .inl (lo_tab 0 [52, 54, 57, 72, 87] 102)),
  (52, .inl (lo_iload 53 3)),
  (53, .inr (.inr 2)),
  (54, .inl (lo_iload 56 4)),
  (56, .inr (.inr 2)),
  (57, .inl (lo_iload 58 3)),
  (58, .inl (lo_if 70 61 (fun x => decide (x = 0)))),
  (61, .inl (lo_iload 63 4)),
  (63, .inl (lo_if 70 66 (fun x => decide (x = 0)))),
  (66, .inl (lo_push 67 (.int 1))),
  (67, .inl (lo_goto 71)),
  (70, .inl (lo_push 71 (.int 0))),
  (71, .inr (.inr 2)),
  (72, .inl (lo_iload 73 3)),
  (73, .inl (lo_if 85 76 (fun x => decide (x = 0)))),
  (76, .inl (lo_iload 78 4)),
  (78, .inl (lo_if 85 81 (fun x => decide (¬ x = 0)))),
  (81, .inl (lo_push 82 (.int 1))),
  (82, .inl (lo_goto 86)),
  (85, .inl (lo_push 86 (.int 0))),
  (86, .inr (.inr 2)),
  (87, .inl (lo_iload 89 4)),
  (89, .inl (lo_if 100 92 (fun x => decide (x = 0)))),
  (92, .inl (lo_iload 93 3)),
  (93, .inl (lo_if 100 96 (fun x => decide (¬ x = 0)))),
  (96, .inl (lo_push 97 (.int 1))),
  (97, .inl (lo_goto 101)),
  (100, .inl (lo_push 101 (.int 0))),
  (101, .inr (.inr 2)),
  (102, .inl (lo_iload 103 3)),
  (103, .inl (lo_if 115 106 (fun x => decide (¬ x = 0)))),
  (106, .inl (lo_iload 108 4)),
  (108, .inl (lo_if 115 111 (fun x => decide (¬ x = 0)))),
  (111, .inl (lo_push 112 (.int 1))),
  (112, .inl (lo_goto 116)),
  (115, .inl (lo_push 116 (.int 0))),
  (116, .inr (.inr 2))]
theorem k_223_0 (L : Nat) (xs : Nat → Int32) : ll_OK1 cX11_isOne RX11 (some .boolean) false ll_mN ll_mR ll_mK ll_cnt L xs false 0 (.inl (lo_aload 1 0)) := lk_aload_n (k := 0) (by decide +kernel) rfl
theorem k_223_1 (L : Nat) (xs : Nat → Int32) : ll_OK1 cX11_isOne RX11 (some .boolean) false ll_mN ll_mR ll_mK ll_cnt L xs false 1 (.inl (lo_push 2 (.int 0))) := lk_iconst (n := 0) (by decide +kernel) (by decide)
theorem k_223_2 (L : Nat) (xs : Nat → Int32) : ll_OK1 cX11_isOne RX11 (some .boolean) false ll_mN ll_mR ll_mK ll_cnt L xs false 2 (.inl (lo_iload 3 2)) := lk_iload_n (k := 2) (by decide +kernel) rfl
theorem k_223_3 (L : Nat) (xs : Nat → Int32) : ll_OK1 cX11_isOne RX11 (some .boolean) false ll_mN ll_mR ll_mK ll_cnt L xs false 3 (.inr (.inl (222, 3, 6))) := ⟨rfl, by decide, by rw [mN_222, mK_222, mR_222]; exact lj_v 323 2 11 (RX11, TX11, 46) (by decide +kernel) tb_806 tb_807 tb_808 rfl rfl rfl rfl (by decide +kernel)⟩
theorem k_223_6 (L : Nat) (xs : Nat → Int32) : ll_OK1 cX11_isOne RX11 (some .boolean) false ll_mN ll_mR ll_mK ll_cnt L xs false 6 (.inl (lo_istore 7 3)) := lk_istore_n (k := 3) (by decide +kernel) rfl
theorem k_223_7 (L : Nat) (xs : Nat → Int32) : ll_OK1 cX11_isOne RX11 (some .boolean) false ll_mN ll_mR ll_mK ll_cnt L xs false 7 (.inl (lo_aload 8 0)) := lk_aload_n (k := 0) (by decide +kernel) rfl
theorem k_223_8 (L : Nat) (xs : Nat → Int32) : ll_OK1 cX11_isOne RX11 (some .boolean) false ll_mN ll_mR ll_mK ll_cnt L xs false 8 (.inl (lo_push 9 (.int 1))) := lk_iconst (n := 1) (by decide +kernel) (by decide)
theorem k_223_9 (L : Nat) (xs : Nat → Int32) : ll_OK1 cX11_isOne RX11 (some .boolean) false ll_mN ll_mR ll_mK ll_cnt L xs false 9 (.inl (lo_iload 10 2)) := lk_iload_n (k := 2) (by decide +kernel) rfl
theorem k_223_10 (L : Nat) (xs : Nat → Int32) : ll_OK1 cX11_isOne RX11 (some .boolean) false ll_mN ll_mR ll_mK ll_cnt L xs false 10 (.inr (.inl (222, 3, 13))) := ⟨rfl, by decide, by rw [mN_222, mK_222, mR_222]; exact lj_v 323 2 11 (RX11, TX11, 46) (by decide +kernel) tb_806 tb_807 tb_808 rfl rfl rfl rfl (by decide +kernel)⟩
theorem k_223_13 (L : Nat) (xs : Nat → Int32) : ll_OK1 cX11_isOne RX11 (some .boolean) false ll_mN ll_mR ll_mK ll_cnt L xs false 13 (.inl (lo_istore 15 4)) := lk_istore (by decide +kernel)
theorem k_223_15 (L : Nat) (xs : Nat → Int32) : ll_OK1 cX11_isOne RX11 (some .boolean) false ll_mN ll_mR ll_mK ll_cnt L xs false 15 (.inl (lo_iload 16 1)) := lk_iload_n (k := 1) (by decide +kernel) rfl
theorem k_223_16 (L : Nat) (xs : Nat → Int32) : ll_OK1 cX11_isOne RX11 (some .boolean) false ll_mN ll_mR ll_mK ll_cnt L xs false 16 (.inl (lo_tab 0 [52, 54, 57, 72, 87] 102)) := lk_tab (d0 := 86) (hi := 4) (offs := #[36, 38, 41, 56, 71]) (len := 36) (by decide +kernel) rfl rfl rfl
theorem k_223_52 (L : Nat) (xs : Nat → Int32) : ll_OK1 cX11_isOne RX11 (some .boolean) false ll_mN ll_mR ll_mK ll_cnt L xs false 52 (.inl (lo_iload 53 3)) := lk_iload_n (k := 3) (by decide +kernel) rfl
theorem k_223_53 (L : Nat) (xs : Nat → Int32) : ll_OK1 cX11_isOne RX11 (some .boolean) false ll_mN ll_mR ll_mK ll_cnt L xs false 53 (.inr (.inr 2)) := ⟨(fun h => by cases h), (fun h => by cases h), fun _ => ⟨(by decide +kernel), rfl⟩⟩
theorem k_223_54 (L : Nat) (xs : Nat → Int32) : ll_OK1 cX11_isOne RX11 (some .boolean) false ll_mN ll_mR ll_mK ll_cnt L xs false 54 (.inl (lo_iload 56 4)) := lk_iload (by decide +kernel)
theorem k_223_56 (L : Nat) (xs : Nat → Int32) : ll_OK1 cX11_isOne RX11 (some .boolean) false ll_mN ll_mR ll_mK ll_cnt L xs false 56 (.inr (.inr 2)) := ⟨(fun h => by cases h), (fun h => by cases h), fun _ => ⟨(by decide +kernel), rfl⟩⟩
theorem k_223_57 (L : Nat) (xs : Nat → Int32) : ll_OK1 cX11_isOne RX11 (some .boolean) false ll_mN ll_mR ll_mK ll_cnt L xs false 57 (.inl (lo_iload 58 3)) := lk_iload_n (k := 3) (by decide +kernel) rfl
theorem k_223_58 (L : Nat) (xs : Nat → Int32) : ll_OK1 cX11_isOne RX11 (some .boolean) false ll_mN ll_mR ll_mK ll_cnt L xs false 58 (.inl (lo_if 70 61 (fun x => decide (x = 0)))) := lk_if_eq (off := 12) (by decide +kernel) rfl
theorem k_223_61 (L : Nat) (xs : Nat → Int32) : ll_OK1 cX11_isOne RX11 (some .boolean) false ll_mN ll_mR ll_mK ll_cnt L xs false 61 (.inl (lo_iload 63 4)) := lk_iload (by decide +kernel)
theorem k_223_63 (L : Nat) (xs : Nat → Int32) : ll_OK1 cX11_isOne RX11 (some .boolean) false ll_mN ll_mR ll_mK ll_cnt L xs false 63 (.inl (lo_if 70 66 (fun x => decide (x = 0)))) := lk_if_eq (off := 7) (by decide +kernel) rfl
theorem k_223_66 (L : Nat) (xs : Nat → Int32) : ll_OK1 cX11_isOne RX11 (some .boolean) false ll_mN ll_mR ll_mK ll_cnt L xs false 66 (.inl (lo_push 67 (.int 1))) := lk_iconst (n := 1) (by decide +kernel) (by decide)
theorem k_223_67 (L : Nat) (xs : Nat → Int32) : ll_OK1 cX11_isOne RX11 (some .boolean) false ll_mN ll_mR ll_mK ll_cnt L xs false 67 (.inl (lo_goto 71)) := lk_goto (off := 4) (by decide +kernel) rfl
theorem k_223_70 (L : Nat) (xs : Nat → Int32) : ll_OK1 cX11_isOne RX11 (some .boolean) false ll_mN ll_mR ll_mK ll_cnt L xs false 70 (.inl (lo_push 71 (.int 0))) := lk_iconst (n := 0) (by decide +kernel) (by decide)
theorem k_223_71 (L : Nat) (xs : Nat → Int32) : ll_OK1 cX11_isOne RX11 (some .boolean) false ll_mN ll_mR ll_mK ll_cnt L xs false 71 (.inr (.inr 2)) := ⟨(fun h => by cases h), (fun h => by cases h), fun _ => ⟨(by decide +kernel), rfl⟩⟩
theorem k_223_72 (L : Nat) (xs : Nat → Int32) : ll_OK1 cX11_isOne RX11 (some .boolean) false ll_mN ll_mR ll_mK ll_cnt L xs false 72 (.inl (lo_iload 73 3)) := lk_iload_n (k := 3) (by decide +kernel) rfl
theorem k_223_73 (L : Nat) (xs : Nat → Int32) : ll_OK1 cX11_isOne RX11 (some .boolean) false ll_mN ll_mR ll_mK ll_cnt L xs false 73 (.inl (lo_if 85 76 (fun x => decide (x = 0)))) := lk_if_eq (off := 12) (by decide +kernel) rfl
theorem k_223_76 (L : Nat) (xs : Nat → Int32) : ll_OK1 cX11_isOne RX11 (some .boolean) false ll_mN ll_mR ll_mK ll_cnt L xs false 76 (.inl (lo_iload 78 4)) := lk_iload (by decide +kernel)
theorem k_223_78 (L : Nat) (xs : Nat → Int32) : ll_OK1 cX11_isOne RX11 (some .boolean) false ll_mN ll_mR ll_mK ll_cnt L xs false 78 (.inl (lo_if 85 81 (fun x => decide (¬ x = 0)))) := lk_if_ne (off := 7) (by decide +kernel) rfl
theorem k_223_81 (L : Nat) (xs : Nat → Int32) : ll_OK1 cX11_isOne RX11 (some .boolean) false ll_mN ll_mR ll_mK ll_cnt L xs false 81 (.inl (lo_push 82 (.int 1))) := lk_iconst (n := 1) (by decide +kernel) (by decide)
theorem k_223_82 (L : Nat) (xs : Nat → Int32) : ll_OK1 cX11_isOne RX11 (some .boolean) false ll_mN ll_mR ll_mK ll_cnt L xs false 82 (.inl (lo_goto 86)) := lk_goto (off := 4) (by decide +kernel) rfl
theorem k_223_85 (L : Nat) (xs : Nat → Int32) : ll_OK1 cX11_isOne RX11 (some .boolean) false ll_mN ll_mR ll_mK ll_cnt L xs false 85 (.inl (lo_push 86 (.int 0))) := lk_iconst (n := 0) (by decide +kernel) (by decide)
theorem k_223_86 (L : Nat) (xs : Nat → Int32) : ll_OK1 cX11_isOne RX11 (some .boolean) false ll_mN ll_mR ll_mK ll_cnt L xs false 86 (.inr (.inr 2)) := ⟨(fun h => by cases h), (fun h => by cases h), fun _ => ⟨(by decide +kernel), rfl⟩⟩
theorem k_223_87 (L : Nat) (xs : Nat → Int32) : ll_OK1 cX11_isOne RX11 (some .boolean) false ll_mN ll_mR ll_mK ll_cnt L xs false 87 (.inl (lo_iload 89 4)) := lk_iload (by decide +kernel)
theorem k_223_89 (L : Nat) (xs : Nat → Int32) : ll_OK1 cX11_isOne RX11 (some .boolean) false ll_mN ll_mR ll_mK ll_cnt L xs false 89 (.inl (lo_if 100 92 (fun x => decide (x = 0)))) := lk_if_eq (off := 11) (by decide +kernel) rfl
theorem k_223_92 (L : Nat) (xs : Nat → Int32) : ll_OK1 cX11_isOne RX11 (some .boolean) false ll_mN ll_mR ll_mK ll_cnt L xs false 92 (.inl (lo_iload 93 3)) := lk_iload_n (k := 3) (by decide +kernel) rfl
theorem k_223_93 (L : Nat) (xs : Nat → Int32) : ll_OK1 cX11_isOne RX11 (some .boolean) false ll_mN ll_mR ll_mK ll_cnt L xs false 93 (.inl (lo_if 100 96 (fun x => decide (¬ x = 0)))) := lk_if_ne (off := 7) (by decide +kernel) rfl
theorem k_223_96 (L : Nat) (xs : Nat → Int32) : ll_OK1 cX11_isOne RX11 (some .boolean) false ll_mN ll_mR ll_mK ll_cnt L xs false 96 (.inl (lo_push 97 (.int 1))) := lk_iconst (n := 1) (by decide +kernel) (by decide)
theorem k_223_97 (L : Nat) (xs : Nat → Int32) : ll_OK1 cX11_isOne RX11 (some .boolean) false ll_mN ll_mR ll_mK ll_cnt L xs false 97 (.inl (lo_goto 101)) := lk_goto (off := 4) (by decide +kernel) rfl
theorem k_223_100 (L : Nat) (xs : Nat → Int32) : ll_OK1 cX11_isOne RX11 (some .boolean) false ll_mN ll_mR ll_mK ll_cnt L xs false 100 (.inl (lo_push 101 (.int 0))) := lk_iconst (n := 0) (by decide +kernel) (by decide)
theorem k_223_101 (L : Nat) (xs : Nat → Int32) : ll_OK1 cX11_isOne RX11 (some .boolean) false ll_mN ll_mR ll_mK ll_cnt L xs false 101 (.inr (.inr 2)) := ⟨(fun h => by cases h), (fun h => by cases h), fun _ => ⟨(by decide +kernel), rfl⟩⟩
theorem k_223_102 (L : Nat) (xs : Nat → Int32) : ll_OK1 cX11_isOne RX11 (some .boolean) false ll_mN ll_mR ll_mK ll_cnt L xs false 102 (.inl (lo_iload 103 3)) := lk_iload_n (k := 3) (by decide +kernel) rfl
theorem k_223_103 (L : Nat) (xs : Nat → Int32) : ll_OK1 cX11_isOne RX11 (some .boolean) false ll_mN ll_mR ll_mK ll_cnt L xs false 103 (.inl (lo_if 115 106 (fun x => decide (¬ x = 0)))) := lk_if_ne (off := 12) (by decide +kernel) rfl
theorem k_223_106 (L : Nat) (xs : Nat → Int32) : ll_OK1 cX11_isOne RX11 (some .boolean) false ll_mN ll_mR ll_mK ll_cnt L xs false 106 (.inl (lo_iload 108 4)) := lk_iload (by decide +kernel)
theorem k_223_108 (L : Nat) (xs : Nat → Int32) : ll_OK1 cX11_isOne RX11 (some .boolean) false ll_mN ll_mR ll_mK ll_cnt L xs false 108 (.inl (lo_if 115 111 (fun x => decide (¬ x = 0)))) := lk_if_ne (off := 7) (by decide +kernel) rfl
theorem k_223_111 (L : Nat) (xs : Nat → Int32) : ll_OK1 cX11_isOne RX11 (some .boolean) false ll_mN ll_mR ll_mK ll_cnt L xs false 111 (.inl (lo_push 112 (.int 1))) := lk_iconst (n := 1) (by decide +kernel) (by decide)
theorem k_223_112 (L : Nat) (xs : Nat → Int32) : ll_OK1 cX11_isOne RX11 (some .boolean) false ll_mN ll_mR ll_mK ll_cnt L xs false 112 (.inl (lo_goto 116)) := lk_goto (off := 4) (by decide +kernel) rfl
theorem k_223_115 (L : Nat) (xs : Nat → Int32) : ll_OK1 cX11_isOne RX11 (some .boolean) false ll_mN ll_mR ll_mK ll_cnt L xs false 115 (.inl (lo_push 116 (.int 0))) := lk_iconst (n := 0) (by decide +kernel) (by decide)
theorem k_223_116 (L : Nat) (xs : Nat → Int32) : ll_OK1 cX11_isOne RX11 (some .boolean) false ll_mN ll_mR ll_mK ll_cnt L xs false 116 (.inr (.inr 2)) := ⟨(fun h => by cases h), (fun h => by cases h), fun _ => ⟨(by decide +kernel), rfl⟩⟩
theorem ok_223 (L : Nat) (xs : Nat → Int32) : ∀ q ∈ cd_223, ll_OK1 cX11_isOne RX11 (some .boolean) false ll_mN ll_mR ll_mK ll_cnt L xs false q.1 q.2 :=
  List.forall_mem_cons.mpr ⟨k_223_0 L xs, List.forall_mem_cons.mpr ⟨k_223_1 L xs, List.forall_mem_cons.mpr ⟨k_223_2 L xs, List.forall_mem_cons.mpr ⟨k_223_3 L xs, List.forall_mem_cons.mpr ⟨k_223_6 L xs, List.forall_mem_cons.mpr ⟨k_223_7 L xs, List.forall_mem_cons.mpr ⟨k_223_8 L xs, List.forall_mem_cons.mpr ⟨k_223_9 L xs, List.forall_mem_cons.mpr ⟨k_223_10 L xs, List.forall_mem_cons.mpr ⟨k_223_13 L xs, List.forall_mem_cons.mpr ⟨k_223_15 L xs, List.forall_mem_cons.mpr ⟨k_223_16 L xs, List.forall_mem_cons.mpr ⟨k_223_52 L xs, List.forall_mem_cons.mpr ⟨k_223_53 L xs, List.forall_mem_cons.mpr ⟨k_223_54 L xs, List.forall_mem_cons.mpr ⟨k_223_56 L xs, List.forall_mem_cons.mpr ⟨k_223_57 L xs, List.forall_mem_cons.mpr ⟨k_223_58 L xs, List.forall_mem_cons.mpr ⟨k_223_61 L xs, List.forall_mem_cons.mpr ⟨k_223_63 L xs, List.forall_mem_cons.mpr ⟨k_223_66 L xs, List.forall_mem_cons.mpr ⟨k_223_67 L xs, List.forall_mem_cons.mpr ⟨k_223_70 L xs, List.forall_mem_cons.mpr ⟨k_223_71 L xs, List.forall_mem_cons.mpr ⟨k_223_72 L xs, List.forall_mem_cons.mpr ⟨k_223_73 L xs, List.forall_mem_cons.mpr ⟨k_223_76 L xs, List.forall_mem_cons.mpr ⟨k_223_78 L xs, List.forall_mem_cons.mpr ⟨k_223_81 L xs, List.forall_mem_cons.mpr ⟨k_223_82 L xs, List.forall_mem_cons.mpr ⟨k_223_85 L xs, List.forall_mem_cons.mpr ⟨k_223_86 L xs, List.forall_mem_cons.mpr ⟨k_223_87 L xs, List.forall_mem_cons.mpr ⟨k_223_89 L xs, List.forall_mem_cons.mpr ⟨k_223_92 L xs, List.forall_mem_cons.mpr ⟨k_223_93 L xs, List.forall_mem_cons.mpr ⟨k_223_96 L xs, List.forall_mem_cons.mpr ⟨k_223_97 L xs, List.forall_mem_cons.mpr ⟨k_223_100 L xs, List.forall_mem_cons.mpr ⟨k_223_101 L xs, List.forall_mem_cons.mpr ⟨k_223_102 L xs, List.forall_mem_cons.mpr ⟨k_223_103 L xs, List.forall_mem_cons.mpr ⟨k_223_106 L xs, List.forall_mem_cons.mpr ⟨k_223_108 L xs, List.forall_mem_cons.mpr ⟨k_223_111 L xs, List.forall_mem_cons.mpr ⟨k_223_112 L xs, List.forall_mem_cons.mpr ⟨k_223_115 L xs, List.forall_mem_cons.mpr ⟨k_223_116 L xs, fun _ h => absurd h List.not_mem_nil⟩⟩⟩⟩⟩⟩⟩⟩⟩⟩⟩⟩⟩⟩⟩⟩⟩⟩⟩⟩⟩⟩⟩⟩⟩⟩⟩⟩⟩⟩⟩⟩⟩⟩⟩⟩⟩⟩⟩⟩⟩⟩⟩⟩⟩⟩⟩⟩
/-- InclusionProverModel.goesOn.(I)Z -/
def cd_224 : List (Nat × ll_O) := [
  (0, .inl (lo_iload 1 1)),
  (1, .inl (lo_push 2 (.int 1))),
  (2, .inl (lo_bin 3 (fun x y => x - y))),
  (3, .inl (lo_istore 4 2)),
  (4, .inl (lo_iload 5 2)),
  (5, .inl (lo_if 31 8 (fun x => decide (x < 0)))),
  (8, .inl (lo_aload 9 0)),
  (9, .inl (lo_getf 12 11 45)),
  (12, .inl (lo_iload 13 2)),
  (13, .inl (lo_ald 14 0)),
  (14, .inl (lo_push 15 (.int 2))),
  (15, .inl (lo_cmp 31 18 (fun x y => decide (¬ x = y)))),
  (18, .inl (lo_aload 19 0)),
  (19, .inl (lo_getf 22 11 45)),
  (22, .inl (lo_iload 23 2)),
  (23, .inl (lo_push 24 (.int 0))),
  (24, .inl (lo_ast 25 0)),
  (25, .inl (lo_iinc 28 2 (-1))),
  (28, .inl (lo_goto 4)),
  (31, .inl (lo_iload 32 2)),
  (32, .inl (lo_if 45 35 (fun x => decide (x < 0)))),
  (35, .inl (lo_aload 36 0)),
  (36, .inl (lo_getf 39 11 45)),
  (39, .inl (lo_iload 40 2)),
  (40, .inl (lo_dup2 41)),
  (41, .inl (lo_ald 42 0)),
  (42, .inl (lo_push 43 (.int 1))),
  (43, .inl (lo_bin 44 (fun x y => x + y))),
  (44, .inl (lo_ast 45 0)),
  (45, .inl (lo_iload 46 2)),
  (46, .inl (lo_if 53 49 (fun x => decide (x < 0)))),
  (49, .inl (lo_push 50 (.int 1))),
  (50, .inl (lo_goto 54)),
  (53, .inl (lo_push 54 (.int 0))),
  (54, .inr (.inr 2))]
theorem k_224_0 (L : Nat) (xs : Nat → Int32) : ll_OK1 cX11_goesOn RX11 (some .boolean) false ll_mN ll_mR ll_mK ll_cnt L xs false 0 (.inl (lo_iload 1 1)) := lk_iload_n (k := 1) (by decide +kernel) rfl
theorem k_224_1 (L : Nat) (xs : Nat → Int32) : ll_OK1 cX11_goesOn RX11 (some .boolean) false ll_mN ll_mR ll_mK ll_cnt L xs false 1 (.inl (lo_push 2 (.int 1))) := lk_iconst (n := 1) (by decide +kernel) (by decide)
theorem k_224_2 (L : Nat) (xs : Nat → Int32) : ll_OK1 cX11_goesOn RX11 (some .boolean) false ll_mN ll_mR ll_mK ll_cnt L xs false 2 (.inl (lo_bin 3 (fun x y => x - y))) := lk_isub (by decide +kernel)
theorem k_224_3 (L : Nat) (xs : Nat → Int32) : ll_OK1 cX11_goesOn RX11 (some .boolean) false ll_mN ll_mR ll_mK ll_cnt L xs false 3 (.inl (lo_istore 4 2)) := lk_istore_n (k := 2) (by decide +kernel) rfl
theorem k_224_4 (L : Nat) (xs : Nat → Int32) : ll_OK1 cX11_goesOn RX11 (some .boolean) false ll_mN ll_mR ll_mK ll_cnt L xs false 4 (.inl (lo_iload 5 2)) := lk_iload_n (k := 2) (by decide +kernel) rfl
theorem k_224_5 (L : Nat) (xs : Nat → Int32) : ll_OK1 cX11_goesOn RX11 (some .boolean) false ll_mN ll_mR ll_mK ll_cnt L xs false 5 (.inl (lo_if 31 8 (fun x => decide (x < 0)))) := lk_if_lt (off := 26) (by decide +kernel) rfl
theorem k_224_8 (L : Nat) (xs : Nat → Int32) : ll_OK1 cX11_goesOn RX11 (some .boolean) false ll_mN ll_mR ll_mK ll_cnt L xs false 8 (.inl (lo_aload 9 0)) := lk_aload_n (k := 0) (by decide +kernel) rfl
theorem k_224_9 (L : Nat) (xs : Nat → Int32) : ll_OK1 cX11_goesOn RX11 (some .boolean) false ll_mN ll_mR ll_mK ll_cnt L xs false 9 (.inl (lo_getf 12 11 45)) := lk_getf (ix := 110) (ci := 11) (k := 45) (C := RX11) (T := TX11) (N := 46) (by decide +kernel) rfl in_11 (by decide) tb_639
theorem k_224_12 (L : Nat) (xs : Nat → Int32) : ll_OK1 cX11_goesOn RX11 (some .boolean) false ll_mN ll_mR ll_mK ll_cnt L xs false 12 (.inl (lo_iload 13 2)) := lk_iload_n (k := 2) (by decide +kernel) rfl
theorem k_224_13 (L : Nat) (xs : Nat → Int32) : ll_OK1 cX11_goesOn RX11 (some .boolean) false ll_mN ll_mR ll_mK ll_cnt L xs false 13 (.inl (lo_ald 14 0)) := lk_iald (by decide +kernel)
theorem k_224_14 (L : Nat) (xs : Nat → Int32) : ll_OK1 cX11_goesOn RX11 (some .boolean) false ll_mN ll_mR ll_mK ll_cnt L xs false 14 (.inl (lo_push 15 (.int 2))) := lk_iconst (n := 2) (by decide +kernel) (by decide)
theorem k_224_15 (L : Nat) (xs : Nat → Int32) : ll_OK1 cX11_goesOn RX11 (some .boolean) false ll_mN ll_mR ll_mK ll_cnt L xs false 15 (.inl (lo_cmp 31 18 (fun x y => decide (¬ x = y)))) := lk_icmp_ne (off := 16) (by decide +kernel) rfl
theorem k_224_18 (L : Nat) (xs : Nat → Int32) : ll_OK1 cX11_goesOn RX11 (some .boolean) false ll_mN ll_mR ll_mK ll_cnt L xs false 18 (.inl (lo_aload 19 0)) := lk_aload_n (k := 0) (by decide +kernel) rfl
theorem k_224_19 (L : Nat) (xs : Nat → Int32) : ll_OK1 cX11_goesOn RX11 (some .boolean) false ll_mN ll_mR ll_mK ll_cnt L xs false 19 (.inl (lo_getf 22 11 45)) := lk_getf (ix := 110) (ci := 11) (k := 45) (C := RX11) (T := TX11) (N := 46) (by decide +kernel) rfl in_11 (by decide) tb_639
theorem k_224_22 (L : Nat) (xs : Nat → Int32) : ll_OK1 cX11_goesOn RX11 (some .boolean) false ll_mN ll_mR ll_mK ll_cnt L xs false 22 (.inl (lo_iload 23 2)) := lk_iload_n (k := 2) (by decide +kernel) rfl
theorem k_224_23 (L : Nat) (xs : Nat → Int32) : ll_OK1 cX11_goesOn RX11 (some .boolean) false ll_mN ll_mR ll_mK ll_cnt L xs false 23 (.inl (lo_push 24 (.int 0))) := lk_iconst (n := 0) (by decide +kernel) (by decide)
theorem k_224_24 (L : Nat) (xs : Nat → Int32) : ll_OK1 cX11_goesOn RX11 (some .boolean) false ll_mN ll_mR ll_mK ll_cnt L xs false 24 (.inl (lo_ast 25 0)) := lk_iast (by decide +kernel)
theorem k_224_25 (L : Nat) (xs : Nat → Int32) : ll_OK1 cX11_goesOn RX11 (some .boolean) false ll_mN ll_mR ll_mK ll_cnt L xs false 25 (.inl (lo_iinc 28 2 (-1))) := lk_iinc (n := (-1)) (by decide +kernel) (by decide)
theorem k_224_28 (L : Nat) (xs : Nat → Int32) : ll_OK1 cX11_goesOn RX11 (some .boolean) false ll_mN ll_mR ll_mK ll_cnt L xs false 28 (.inl (lo_goto 4)) := lk_goto (off := (-24)) (by decide +kernel) rfl
theorem k_224_31 (L : Nat) (xs : Nat → Int32) : ll_OK1 cX11_goesOn RX11 (some .boolean) false ll_mN ll_mR ll_mK ll_cnt L xs false 31 (.inl (lo_iload 32 2)) := lk_iload_n (k := 2) (by decide +kernel) rfl
theorem k_224_32 (L : Nat) (xs : Nat → Int32) : ll_OK1 cX11_goesOn RX11 (some .boolean) false ll_mN ll_mR ll_mK ll_cnt L xs false 32 (.inl (lo_if 45 35 (fun x => decide (x < 0)))) := lk_if_lt (off := 13) (by decide +kernel) rfl
theorem k_224_35 (L : Nat) (xs : Nat → Int32) : ll_OK1 cX11_goesOn RX11 (some .boolean) false ll_mN ll_mR ll_mK ll_cnt L xs false 35 (.inl (lo_aload 36 0)) := lk_aload_n (k := 0) (by decide +kernel) rfl
theorem k_224_36 (L : Nat) (xs : Nat → Int32) : ll_OK1 cX11_goesOn RX11 (some .boolean) false ll_mN ll_mR ll_mK ll_cnt L xs false 36 (.inl (lo_getf 39 11 45)) := lk_getf (ix := 110) (ci := 11) (k := 45) (C := RX11) (T := TX11) (N := 46) (by decide +kernel) rfl in_11 (by decide) tb_639
theorem k_224_39 (L : Nat) (xs : Nat → Int32) : ll_OK1 cX11_goesOn RX11 (some .boolean) false ll_mN ll_mR ll_mK ll_cnt L xs false 39 (.inl (lo_iload 40 2)) := lk_iload_n (k := 2) (by decide +kernel) rfl
theorem k_224_40 (L : Nat) (xs : Nat → Int32) : ll_OK1 cX11_goesOn RX11 (some .boolean) false ll_mN ll_mR ll_mK ll_cnt L xs false 40 (.inl (lo_dup2 41)) := lk_dup2 (by decide +kernel)
theorem k_224_41 (L : Nat) (xs : Nat → Int32) : ll_OK1 cX11_goesOn RX11 (some .boolean) false ll_mN ll_mR ll_mK ll_cnt L xs false 41 (.inl (lo_ald 42 0)) := lk_iald (by decide +kernel)
theorem k_224_42 (L : Nat) (xs : Nat → Int32) : ll_OK1 cX11_goesOn RX11 (some .boolean) false ll_mN ll_mR ll_mK ll_cnt L xs false 42 (.inl (lo_push 43 (.int 1))) := lk_iconst (n := 1) (by decide +kernel) (by decide)
theorem k_224_43 (L : Nat) (xs : Nat → Int32) : ll_OK1 cX11_goesOn RX11 (some .boolean) false ll_mN ll_mR ll_mK ll_cnt L xs false 43 (.inl (lo_bin 44 (fun x y => x + y))) := lk_iadd (by decide +kernel)
theorem k_224_44 (L : Nat) (xs : Nat → Int32) : ll_OK1 cX11_goesOn RX11 (some .boolean) false ll_mN ll_mR ll_mK ll_cnt L xs false 44 (.inl (lo_ast 45 0)) := lk_iast (by decide +kernel)
theorem k_224_45 (L : Nat) (xs : Nat → Int32) : ll_OK1 cX11_goesOn RX11 (some .boolean) false ll_mN ll_mR ll_mK ll_cnt L xs false 45 (.inl (lo_iload 46 2)) := lk_iload_n (k := 2) (by decide +kernel) rfl
theorem k_224_46 (L : Nat) (xs : Nat → Int32) : ll_OK1 cX11_goesOn RX11 (some .boolean) false ll_mN ll_mR ll_mK ll_cnt L xs false 46 (.inl (lo_if 53 49 (fun x => decide (x < 0)))) := lk_if_lt (off := 7) (by decide +kernel) rfl
theorem k_224_49 (L : Nat) (xs : Nat → Int32) : ll_OK1 cX11_goesOn RX11 (some .boolean) false ll_mN ll_mR ll_mK ll_cnt L xs false 49 (.inl (lo_push 50 (.int 1))) := lk_iconst (n := 1) (by decide +kernel) (by decide)
theorem k_224_50 (L : Nat) (xs : Nat → Int32) : ll_OK1 cX11_goesOn RX11 (some .boolean) false ll_mN ll_mR ll_mK ll_cnt L xs false 50 (.inl (lo_goto 54)) := lk_goto (off := 4) (by decide +kernel) rfl
theorem k_224_53 (L : Nat) (xs : Nat → Int32) : ll_OK1 cX11_goesOn RX11 (some .boolean) false ll_mN ll_mR ll_mK ll_cnt L xs false 53 (.inl (lo_push 54 (.int 0))) := lk_iconst (n := 0) (by decide +kernel) (by decide)
theorem k_224_54 (L : Nat) (xs : Nat → Int32) : ll_OK1 cX11_goesOn RX11 (some .boolean) false ll_mN ll_mR ll_mK ll_cnt L xs false 54 (.inr (.inr 2)) := ⟨(fun h => by cases h), (fun h => by cases h), fun _ => ⟨(by decide +kernel), rfl⟩⟩
theorem ok_224 (L : Nat) (xs : Nat → Int32) : ∀ q ∈ cd_224, ll_OK1 cX11_goesOn RX11 (some .boolean) false ll_mN ll_mR ll_mK ll_cnt L xs false q.1 q.2 :=
  List.forall_mem_cons.mpr ⟨k_224_0 L xs, List.forall_mem_cons.mpr ⟨k_224_1 L xs, List.forall_mem_cons.mpr ⟨k_224_2 L xs, List.forall_mem_cons.mpr ⟨k_224_3 L xs, List.forall_mem_cons.mpr ⟨k_224_4 L xs, List.forall_mem_cons.mpr ⟨k_224_5 L xs, List.forall_mem_cons.mpr ⟨k_224_8 L xs, List.forall_mem_cons.mpr ⟨k_224_9 L xs, List.forall_mem_cons.mpr ⟨k_224_12 L xs, List.forall_mem_cons.mpr ⟨k_224_13 L xs, List.forall_mem_cons.mpr ⟨k_224_14 L xs, List.forall_mem_cons.mpr ⟨k_224_15 L xs, List.forall_mem_cons.mpr ⟨k_224_18 L xs, List.forall_mem_cons.mpr ⟨k_224_19 L xs, List.forall_mem_cons.mpr ⟨k_224_22 L xs, List.forall_mem_cons.mpr ⟨k_224_23 L xs, List.forall_mem_cons.mpr ⟨k_224_24 L xs, List.forall_mem_cons.mpr ⟨k_224_25 L xs, List.forall_mem_cons.mpr ⟨k_224_28 L xs, List.forall_mem_cons.mpr ⟨k_224_31 L xs, List.forall_mem_cons.mpr ⟨k_224_32 L xs, List.forall_mem_cons.mpr ⟨k_224_35 L xs, List.forall_mem_cons.mpr ⟨k_224_36 L xs, List.forall_mem_cons.mpr ⟨k_224_39 L xs, List.forall_mem_cons.mpr ⟨k_224_40 L xs, List.forall_mem_cons.mpr ⟨k_224_41 L xs, List.forall_mem_cons.mpr ⟨k_224_42 L xs, List.forall_mem_cons.mpr ⟨k_224_43 L xs, List.forall_mem_cons.mpr ⟨k_224_44 L xs, List.forall_mem_cons.mpr ⟨k_224_45 L xs, List.forall_mem_cons.mpr ⟨k_224_46 L xs, List.forall_mem_cons.mpr ⟨k_224_49 L xs, List.forall_mem_cons.mpr ⟨k_224_50 L xs, List.forall_mem_cons.mpr ⟨k_224_53 L xs, List.forall_mem_cons.mpr ⟨k_224_54 L xs, fun _ h => absurd h List.not_mem_nil⟩⟩⟩⟩⟩⟩⟩⟩⟩⟩⟩⟩⟩⟩⟩⟩⟩⟩⟩⟩⟩⟩⟩⟩⟩⟩⟩⟩⟩⟩⟩⟩⟩⟩⟩
/-- InclusionProverModel.number.(I)I -/
def cd_225 : List (Nat × ll_O) := [
  (0, .inl (lo_push 1 (.int 0))),
  (1, .inl (lo_istore 2 2)),
  (2, .inl (lo_push 3 (.int 0))),
  (3, .inl (lo_istore 4 3)),
  (4, .inl (lo_iload 5 3)),
  (5, .inl (lo_iload 6 1)),
  (6, .inl (lo_cmp 28 9 (fun x y => decide (y ≤ x)))),
  (9, .inl (lo_push 10 (.int 4))),
  (10, .inl (lo_iload 11 2)),
  (11, .inl (lo_bin 12 (fun x y => x * y))),
  (12, .inl (lo_aload 13 0)),
  (13, .inl (lo_getf 16 11 45)),
  (16, .inl (lo_iload 17 3)),
  (17, .inl (lo_ald 18 0)),
  (18, .inl (lo_bin 19 (fun x y => x + y))),
  (19, .inl (lo_push 20 (.int 1))),
  (20, .inl (lo_bin 21 (fun x y => x + y))),
  (21, .inl (lo_istore 22 2)),
  (22, .inl (lo_iinc 25 3 1)),
  (25, .inl (lo_goto 4)),
  (28, .inl (lo_iload 29 2)),
  (29, .inr (.inr 1))]
theorem k_225_0 (L : Nat) (xs : Nat → Int32) : ll_OK1 cX11_number RX11 (some .int) false ll_mN ll_mR ll_mK ll_cnt L xs false 0 (.inl (lo_push 1 (.int 0))) := lk_iconst (n := 0) (by decide +kernel) (by decide)
theorem k_225_1 (L : Nat) (xs : Nat → Int32) : ll_OK1 cX11_number RX11 (some .int) false ll_mN ll_mR ll_mK ll_cnt L xs false 1 (.inl (lo_istore 2 2)) := lk_istore_n (k := 2) (by decide +kernel) rfl
theorem k_225_2 (L : Nat) (xs : Nat → Int32) : ll_OK1 cX11_number RX11 (some .int) false ll_mN ll_mR ll_mK ll_cnt L xs false 2 (.inl (lo_push 3 (.int 0))) := lk_iconst (n := 0) (by decide +kernel) (by decide)
theorem k_225_3 (L : Nat) (xs : Nat → Int32) : ll_OK1 cX11_number RX11 (some .int) false ll_mN ll_mR ll_mK ll_cnt L xs false 3 (.inl (lo_istore 4 3)) := lk_istore_n (k := 3) (by decide +kernel) rfl
theorem k_225_4 (L : Nat) (xs : Nat → Int32) : ll_OK1 cX11_number RX11 (some .int) false ll_mN ll_mR ll_mK ll_cnt L xs false 4 (.inl (lo_iload 5 3)) := lk_iload_n (k := 3) (by decide +kernel) rfl
theorem k_225_5 (L : Nat) (xs : Nat → Int32) : ll_OK1 cX11_number RX11 (some .int) false ll_mN ll_mR ll_mK ll_cnt L xs false 5 (.inl (lo_iload 6 1)) := lk_iload_n (k := 1) (by decide +kernel) rfl
theorem k_225_6 (L : Nat) (xs : Nat → Int32) : ll_OK1 cX11_number RX11 (some .int) false ll_mN ll_mR ll_mK ll_cnt L xs false 6 (.inl (lo_cmp 28 9 (fun x y => decide (y ≤ x)))) := lk_icmp_ge (off := 22) (by decide +kernel) rfl
theorem k_225_9 (L : Nat) (xs : Nat → Int32) : ll_OK1 cX11_number RX11 (some .int) false ll_mN ll_mR ll_mK ll_cnt L xs false 9 (.inl (lo_push 10 (.int 4))) := lk_iconst (n := 4) (by decide +kernel) (by decide)
theorem k_225_10 (L : Nat) (xs : Nat → Int32) : ll_OK1 cX11_number RX11 (some .int) false ll_mN ll_mR ll_mK ll_cnt L xs false 10 (.inl (lo_iload 11 2)) := lk_iload_n (k := 2) (by decide +kernel) rfl
theorem k_225_11 (L : Nat) (xs : Nat → Int32) : ll_OK1 cX11_number RX11 (some .int) false ll_mN ll_mR ll_mK ll_cnt L xs false 11 (.inl (lo_bin 12 (fun x y => x * y))) := lk_imul (by decide +kernel)
theorem k_225_12 (L : Nat) (xs : Nat → Int32) : ll_OK1 cX11_number RX11 (some .int) false ll_mN ll_mR ll_mK ll_cnt L xs false 12 (.inl (lo_aload 13 0)) := lk_aload_n (k := 0) (by decide +kernel) rfl
theorem k_225_13 (L : Nat) (xs : Nat → Int32) : ll_OK1 cX11_number RX11 (some .int) false ll_mN ll_mR ll_mK ll_cnt L xs false 13 (.inl (lo_getf 16 11 45)) := lk_getf (ix := 110) (ci := 11) (k := 45) (C := RX11) (T := TX11) (N := 46) (by decide +kernel) rfl in_11 (by decide) tb_639
theorem k_225_16 (L : Nat) (xs : Nat → Int32) : ll_OK1 cX11_number RX11 (some .int) false ll_mN ll_mR ll_mK ll_cnt L xs false 16 (.inl (lo_iload 17 3)) := lk_iload_n (k := 3) (by decide +kernel) rfl
theorem k_225_17 (L : Nat) (xs : Nat → Int32) : ll_OK1 cX11_number RX11 (some .int) false ll_mN ll_mR ll_mK ll_cnt L xs false 17 (.inl (lo_ald 18 0)) := lk_iald (by decide +kernel)
theorem k_225_18 (L : Nat) (xs : Nat → Int32) : ll_OK1 cX11_number RX11 (some .int) false ll_mN ll_mR ll_mK ll_cnt L xs false 18 (.inl (lo_bin 19 (fun x y => x + y))) := lk_iadd (by decide +kernel)
theorem k_225_19 (L : Nat) (xs : Nat → Int32) : ll_OK1 cX11_number RX11 (some .int) false ll_mN ll_mR ll_mK ll_cnt L xs false 19 (.inl (lo_push 20 (.int 1))) := lk_iconst (n := 1) (by decide +kernel) (by decide)
theorem k_225_20 (L : Nat) (xs : Nat → Int32) : ll_OK1 cX11_number RX11 (some .int) false ll_mN ll_mR ll_mK ll_cnt L xs false 20 (.inl (lo_bin 21 (fun x y => x + y))) := lk_iadd (by decide +kernel)
theorem k_225_21 (L : Nat) (xs : Nat → Int32) : ll_OK1 cX11_number RX11 (some .int) false ll_mN ll_mR ll_mK ll_cnt L xs false 21 (.inl (lo_istore 22 2)) := lk_istore_n (k := 2) (by decide +kernel) rfl
theorem k_225_22 (L : Nat) (xs : Nat → Int32) : ll_OK1 cX11_number RX11 (some .int) false ll_mN ll_mR ll_mK ll_cnt L xs false 22 (.inl (lo_iinc 25 3 1)) := lk_iinc (n := 1) (by decide +kernel) (by decide)
theorem k_225_25 (L : Nat) (xs : Nat → Int32) : ll_OK1 cX11_number RX11 (some .int) false ll_mN ll_mR ll_mK ll_cnt L xs false 25 (.inl (lo_goto 4)) := lk_goto (off := (-21)) (by decide +kernel) rfl
theorem k_225_28 (L : Nat) (xs : Nat → Int32) : ll_OK1 cX11_number RX11 (some .int) false ll_mN ll_mR ll_mK ll_cnt L xs false 28 (.inl (lo_iload 29 2)) := lk_iload_n (k := 2) (by decide +kernel) rfl
theorem k_225_29 (L : Nat) (xs : Nat → Int32) : ll_OK1 cX11_number RX11 (some .int) false ll_mN ll_mR ll_mK ll_cnt L xs false 29 (.inr (.inr 1)) := ⟨(fun h => by cases h), (fun _ => ⟨(by decide +kernel), rfl⟩), fun h => by cases h⟩
theorem ok_225 (L : Nat) (xs : Nat → Int32) : ∀ q ∈ cd_225, ll_OK1 cX11_number RX11 (some .int) false ll_mN ll_mR ll_mK ll_cnt L xs false q.1 q.2 :=
  List.forall_mem_cons.mpr ⟨k_225_0 L xs, List.forall_mem_cons.mpr ⟨k_225_1 L xs, List.forall_mem_cons.mpr ⟨k_225_2 L xs, List.forall_mem_cons.mpr ⟨k_225_3 L xs, List.forall_mem_cons.mpr ⟨k_225_4 L xs, List.forall_mem_cons.mpr ⟨k_225_5 L xs, List.forall_mem_cons.mpr ⟨k_225_6 L xs, List.forall_mem_cons.mpr ⟨k_225_9 L xs, List.forall_mem_cons.mpr ⟨k_225_10 L xs, List.forall_mem_cons.mpr ⟨k_225_11 L xs, List.forall_mem_cons.mpr ⟨k_225_12 L xs, List.forall_mem_cons.mpr ⟨k_225_13 L xs, List.forall_mem_cons.mpr ⟨k_225_16 L xs, List.forall_mem_cons.mpr ⟨k_225_17 L xs, List.forall_mem_cons.mpr ⟨k_225_18 L xs, List.forall_mem_cons.mpr ⟨k_225_19 L xs, List.forall_mem_cons.mpr ⟨k_225_20 L xs, List.forall_mem_cons.mpr ⟨k_225_21 L xs, List.forall_mem_cons.mpr ⟨k_225_22 L xs, List.forall_mem_cons.mpr ⟨k_225_25 L xs, List.forall_mem_cons.mpr ⟨k_225_28 L xs, List.forall_mem_cons.mpr ⟨k_225_29 L xs, fun _ h => absurd h List.not_mem_nil⟩⟩⟩⟩⟩⟩⟩⟩⟩⟩⟩⟩⟩⟩⟩⟩⟩⟩⟩⟩⟩⟩
/-- InclusionProverModel.listed.(III)I -/
def cd_226 : List (Nat × ll_O) := [
  (0, .inl (lo_iload 1 1)),
  (1, .inl (lo_push 2 (.int 0))),
  (2, .inl (lo_push 3 (.int 5))),
  (3, .inr (.inl (151, 3, 6))),
  (6, .inl (lo_if 19 9 (fun x => decide (x = 0)))),
  (9, .inl (lo_iload 10 2)),
  (10, .inl (lo_push 11 (.int 0))),
  (11, .inl (lo_push 13 (.int 8))),
  (13, .inr (.inl (151, 3, 16))),
  (16, .inl (lo_if 21 19 (fun x => decide (¬ x = 0)))),
  (19, .inl (lo_push 20 (.int (-1)))),
  (20, .inr (.inr 1)),
  (21, .inl (lo_aload 22 0)),
  (22, .inl (lo_push 23 (.int 0))),
  (23, .inl (lo_push 25 (.int 31))),
  (25, .inr (.inl (180, 3, 28))),
  (28, .inl (lo_push 29 (.int 0))),
  (29, .inl (lo_istore 31 4)),
  (31, .inl (lo_iload 33 4)),
  (33, .inl (lo_iload 34 2)),
  (34, .inl (lo_cmp 51 37 (fun x y => decide (y ≤ x)))),
  (37, .inl (lo_aload 38 0)),
  (38, .inl (lo_getf 41 11 45)),
  (41, .inl (lo_iload 43 4)),
  (43, .inl (lo_push 44 (.int 0))),
  (44, .inl (lo_ast 45 0)),
  (45, .inl (lo_iinc 48 4 1)),
  (48, .inl (lo_goto 31)),
  (51, .inl (lo_push 52 (.int 0))),
  (52, .inl (lo_istore 54 4)),
  (54, .inl (lo_push 55 (.int 1))),
  (55, .inl (lo_istore 57 5)),
  (57, .inl (lo_iload 59 5)),
  (59, .inl (lo_if 96 62 (fun x => decide (x = 0)))),
  (62, .inl (lo_aload 63 0)),
  (63, .inl (lo_iload 64 1)),
  (64, .inl (lo_iload 65 2)),
  (65, .inr (.inl (223, 3, 68))),
  (68, .inl (lo_if 86 71 (fun x => decide (x = 0)))),
  (71, .inl (lo_iload 73 4)),
  (73, .inl (lo_iload 74 3)),
  (74, .inl (lo_cmp 83 77 (fun x y => decide (¬ x = y)))),
  (77, .inl (lo_aload 78 0)),
  (78, .inl (lo_iload 79 2)),
  (79, .inr (.inl (225, 2, 82))),
  (82, .inr (.inr 1)),
  (83, .inl (lo_iinc 86 4 1)),
  (86, .inl (lo_aload 87 0)),
  (87, .inl (lo_iload 88 2)),
  (88, .inr (.inl (224, 2, 91))),
  (91, .inl (lo_istore 93 5)),
  (93, .inl (lo_goto 57)),
  (96, .inl (lo_iload 97 3)),
  (97, .inl (lo_push 98 (.int (-1)))),
  (98, .inl (lo_cmp 106 101 (fun x y => decide (¬ x = y)))),
  (101, .inl (lo_iload 103 4)),
  (103, .inl (lo_goto 107)),
  (106, .inl (lo_push 107 (.int (-1)))),
  (107, .inr (.inr 1))]
theorem k_226_0 (L : Nat) (xs : Nat → Int32) : ll_OK1 cX11_listed RX11 (some .int) false ll_mN ll_mR ll_mK ll_cnt L xs false 0 (.inl (lo_iload 1 1)) := lk_iload_n (k := 1) (by decide +kernel) rfl
theorem k_226_1 (L : Nat) (xs : Nat → Int32) : ll_OK1 cX11_listed RX11 (some .int) false ll_mN ll_mR ll_mK ll_cnt L xs false 1 (.inl (lo_push 2 (.int 0))) := lk_iconst (n := 0) (by decide +kernel) (by decide)
theorem k_226_2 (L : Nat) (xs : Nat → Int32) : ll_OK1 cX11_listed RX11 (some .int) false ll_mN ll_mR ll_mK ll_cnt L xs false 2 (.inl (lo_push 3 (.int 5))) := lk_iconst (n := 5) (by decide +kernel) (by decide)
theorem k_226_3 (L : Nat) (xs : Nat → Int32) : ll_OK1 cX11_listed RX11 (some .int) false ll_mN ll_mR ll_mK ll_cnt L xs false 3 (.inr (.inl (151, 3, 6))) := ⟨rfl, by decide, by rw [mN_151, mK_151, mR_151]; exact lj_s 163 (by decide +kernel) tb_673 tb_674 (by decide +kernel)⟩
theorem k_226_6 (L : Nat) (xs : Nat → Int32) : ll_OK1 cX11_listed RX11 (some .int) false ll_mN ll_mR ll_mK ll_cnt L xs false 6 (.inl (lo_if 19 9 (fun x => decide (x = 0)))) := lk_if_eq (off := 13) (by decide +kernel) rfl
theorem k_226_9 (L : Nat) (xs : Nat → Int32) : ll_OK1 cX11_listed RX11 (some .int) false ll_mN ll_mR ll_mK ll_cnt L xs false 9 (.inl (lo_iload 10 2)) := lk_iload_n (k := 2) (by decide +kernel) rfl
theorem k_226_10 (L : Nat) (xs : Nat → Int32) : ll_OK1 cX11_listed RX11 (some .int) false ll_mN ll_mR ll_mK ll_cnt L xs false 10 (.inl (lo_push 11 (.int 0))) := lk_iconst (n := 0) (by decide +kernel) (by decide)
theorem k_226_11 (L : Nat) (xs : Nat → Int32) : ll_OK1 cX11_listed RX11 (some .int) false ll_mN ll_mR ll_mK ll_cnt L xs false 11 (.inl (lo_push 13 (.int 8))) := lk_bipush (n := 8) (by decide +kernel) (by decide)
theorem k_226_13 (L : Nat) (xs : Nat → Int32) : ll_OK1 cX11_listed RX11 (some .int) false ll_mN ll_mR ll_mK ll_cnt L xs false 13 (.inr (.inl (151, 3, 16))) := ⟨rfl, by decide, by rw [mN_151, mK_151, mR_151]; exact lj_s 163 (by decide +kernel) tb_673 tb_674 (by decide +kernel)⟩
theorem k_226_16 (L : Nat) (xs : Nat → Int32) : ll_OK1 cX11_listed RX11 (some .int) false ll_mN ll_mR ll_mK ll_cnt L xs false 16 (.inl (lo_if 21 19 (fun x => decide (¬ x = 0)))) := lk_if_ne (off := 5) (by decide +kernel) rfl
theorem k_226_19 (L : Nat) (xs : Nat → Int32) : ll_OK1 cX11_listed RX11 (some .int) false ll_mN ll_mR ll_mK ll_cnt L xs false 19 (.inl (lo_push 20 (.int (-1)))) := lk_iconst (n := (-1)) (by decide +kernel) (by decide)
theorem k_226_20 (L : Nat) (xs : Nat → Int32) : ll_OK1 cX11_listed RX11 (some .int) false ll_mN ll_mR ll_mK ll_cnt L xs false 20 (.inr (.inr 1)) := ⟨(fun h => by cases h), (fun _ => ⟨(by decide +kernel), rfl⟩), fun h => by cases h⟩
theorem k_226_21 (L : Nat) (xs : Nat → Int32) : ll_OK1 cX11_listed RX11 (some .int) false ll_mN ll_mR ll_mK ll_cnt L xs false 21 (.inl (lo_aload 22 0)) := lk_aload_n (k := 0) (by decide +kernel) rfl
theorem k_226_22 (L : Nat) (xs : Nat → Int32) : ll_OK1 cX11_listed RX11 (some .int) false ll_mN ll_mR ll_mK ll_cnt L xs false 22 (.inl (lo_push 23 (.int 0))) := lk_iconst (n := 0) (by decide +kernel) (by decide)
theorem k_226_23 (L : Nat) (xs : Nat → Int32) : ll_OK1 cX11_listed RX11 (some .int) false ll_mN ll_mR ll_mK ll_cnt L xs false 23 (.inl (lo_push 25 (.int 31))) := lk_bipush (n := 31) (by decide +kernel) (by decide)
theorem k_226_25 (L : Nat) (xs : Nat → Int32) : ll_OK1 cX11_listed RX11 (some .int) false ll_mN ll_mR ll_mK ll_cnt L xs false 25 (.inr (.inl (180, 3, 28))) := ⟨rfl, by decide, by rw [mN_180, mK_180, mR_180]; exact lj_v 260 2 11 (RX11, TX11, 46) (by decide +kernel) tb_756 tb_757 tb_758 rfl rfl rfl rfl (by decide +kernel)⟩
theorem k_226_28 (L : Nat) (xs : Nat → Int32) : ll_OK1 cX11_listed RX11 (some .int) false ll_mN ll_mR ll_mK ll_cnt L xs false 28 (.inl (lo_push 29 (.int 0))) := lk_iconst (n := 0) (by decide +kernel) (by decide)
theorem k_226_29 (L : Nat) (xs : Nat → Int32) : ll_OK1 cX11_listed RX11 (some .int) false ll_mN ll_mR ll_mK ll_cnt L xs false 29 (.inl (lo_istore 31 4)) := lk_istore (by decide +kernel)
theorem k_226_31 (L : Nat) (xs : Nat → Int32) : ll_OK1 cX11_listed RX11 (some .int) false ll_mN ll_mR ll_mK ll_cnt L xs false 31 (.inl (lo_iload 33 4)) := lk_iload (by decide +kernel)
theorem k_226_33 (L : Nat) (xs : Nat → Int32) : ll_OK1 cX11_listed RX11 (some .int) false ll_mN ll_mR ll_mK ll_cnt L xs false 33 (.inl (lo_iload 34 2)) := lk_iload_n (k := 2) (by decide +kernel) rfl
theorem k_226_34 (L : Nat) (xs : Nat → Int32) : ll_OK1 cX11_listed RX11 (some .int) false ll_mN ll_mR ll_mK ll_cnt L xs false 34 (.inl (lo_cmp 51 37 (fun x y => decide (y ≤ x)))) := lk_icmp_ge (off := 17) (by decide +kernel) rfl
theorem k_226_37 (L : Nat) (xs : Nat → Int32) : ll_OK1 cX11_listed RX11 (some .int) false ll_mN ll_mR ll_mK ll_cnt L xs false 37 (.inl (lo_aload 38 0)) := lk_aload_n (k := 0) (by decide +kernel) rfl
theorem k_226_38 (L : Nat) (xs : Nat → Int32) : ll_OK1 cX11_listed RX11 (some .int) false ll_mN ll_mR ll_mK ll_cnt L xs false 38 (.inl (lo_getf 41 11 45)) := lk_getf (ix := 110) (ci := 11) (k := 45) (C := RX11) (T := TX11) (N := 46) (by decide +kernel) rfl in_11 (by decide) tb_639
theorem k_226_41 (L : Nat) (xs : Nat → Int32) : ll_OK1 cX11_listed RX11 (some .int) false ll_mN ll_mR ll_mK ll_cnt L xs false 41 (.inl (lo_iload 43 4)) := lk_iload (by decide +kernel)
theorem k_226_43 (L : Nat) (xs : Nat → Int32) : ll_OK1 cX11_listed RX11 (some .int) false ll_mN ll_mR ll_mK ll_cnt L xs false 43 (.inl (lo_push 44 (.int 0))) := lk_iconst (n := 0) (by decide +kernel) (by decide)
theorem k_226_44 (L : Nat) (xs : Nat → Int32) : ll_OK1 cX11_listed RX11 (some .int) false ll_mN ll_mR ll_mK ll_cnt L xs false 44 (.inl (lo_ast 45 0)) := lk_iast (by decide +kernel)
theorem k_226_45 (L : Nat) (xs : Nat → Int32) : ll_OK1 cX11_listed RX11 (some .int) false ll_mN ll_mR ll_mK ll_cnt L xs false 45 (.inl (lo_iinc 48 4 1)) := lk_iinc (n := 1) (by decide +kernel) (by decide)
theorem k_226_48 (L : Nat) (xs : Nat → Int32) : ll_OK1 cX11_listed RX11 (some .int) false ll_mN ll_mR ll_mK ll_cnt L xs false 48 (.inl (lo_goto 31)) := lk_goto (off := (-17)) (by decide +kernel) rfl
theorem k_226_51 (L : Nat) (xs : Nat → Int32) : ll_OK1 cX11_listed RX11 (some .int) false ll_mN ll_mR ll_mK ll_cnt L xs false 51 (.inl (lo_push 52 (.int 0))) := lk_iconst (n := 0) (by decide +kernel) (by decide)
theorem k_226_52 (L : Nat) (xs : Nat → Int32) : ll_OK1 cX11_listed RX11 (some .int) false ll_mN ll_mR ll_mK ll_cnt L xs false 52 (.inl (lo_istore 54 4)) := lk_istore (by decide +kernel)
theorem k_226_54 (L : Nat) (xs : Nat → Int32) : ll_OK1 cX11_listed RX11 (some .int) false ll_mN ll_mR ll_mK ll_cnt L xs false 54 (.inl (lo_push 55 (.int 1))) := lk_iconst (n := 1) (by decide +kernel) (by decide)
theorem k_226_55 (L : Nat) (xs : Nat → Int32) : ll_OK1 cX11_listed RX11 (some .int) false ll_mN ll_mR ll_mK ll_cnt L xs false 55 (.inl (lo_istore 57 5)) := lk_istore (by decide +kernel)
theorem k_226_57 (L : Nat) (xs : Nat → Int32) : ll_OK1 cX11_listed RX11 (some .int) false ll_mN ll_mR ll_mK ll_cnt L xs false 57 (.inl (lo_iload 59 5)) := lk_iload (by decide +kernel)
theorem k_226_59 (L : Nat) (xs : Nat → Int32) : ll_OK1 cX11_listed RX11 (some .int) false ll_mN ll_mR ll_mK ll_cnt L xs false 59 (.inl (lo_if 96 62 (fun x => decide (x = 0)))) := lk_if_eq (off := 37) (by decide +kernel) rfl
theorem k_226_62 (L : Nat) (xs : Nat → Int32) : ll_OK1 cX11_listed RX11 (some .int) false ll_mN ll_mR ll_mK ll_cnt L xs false 62 (.inl (lo_aload 63 0)) := lk_aload_n (k := 0) (by decide +kernel) rfl
theorem k_226_63 (L : Nat) (xs : Nat → Int32) : ll_OK1 cX11_listed RX11 (some .int) false ll_mN ll_mR ll_mK ll_cnt L xs false 63 (.inl (lo_iload 64 1)) := lk_iload_n (k := 1) (by decide +kernel) rfl
theorem k_226_64 (L : Nat) (xs : Nat → Int32) : ll_OK1 cX11_listed RX11 (some .int) false ll_mN ll_mR ll_mK ll_cnt L xs false 64 (.inl (lo_iload 65 2)) := lk_iload_n (k := 2) (by decide +kernel) rfl
theorem k_226_65 (L : Nat) (xs : Nat → Int32) : ll_OK1 cX11_listed RX11 (some .int) false ll_mN ll_mR ll_mK ll_cnt L xs false 65 (.inr (.inl (223, 3, 68))) := ⟨rfl, by decide, by rw [mN_223, mK_223, mR_223]; exact lj_v 326 2 11 (RX11, TX11, 46) (by decide +kernel) tb_809 tb_810 tb_811 rfl rfl rfl rfl (by decide +kernel)⟩
theorem k_226_68 (L : Nat) (xs : Nat → Int32) : ll_OK1 cX11_listed RX11 (some .int) false ll_mN ll_mR ll_mK ll_cnt L xs false 68 (.inl (lo_if 86 71 (fun x => decide (x = 0)))) := lk_if_eq (off := 18) (by decide +kernel) rfl
theorem k_226_71 (L : Nat) (xs : Nat → Int32) : ll_OK1 cX11_listed RX11 (some .int) false ll_mN ll_mR ll_mK ll_cnt L xs false 71 (.inl (lo_iload 73 4)) := lk_iload (by decide +kernel)
theorem k_226_73 (L : Nat) (xs : Nat → Int32) : ll_OK1 cX11_listed RX11 (some .int) false ll_mN ll_mR ll_mK ll_cnt L xs false 73 (.inl (lo_iload 74 3)) := lk_iload_n (k := 3) (by decide +kernel) rfl
theorem k_226_74 (L : Nat) (xs : Nat → Int32) : ll_OK1 cX11_listed RX11 (some .int) false ll_mN ll_mR ll_mK ll_cnt L xs false 74 (.inl (lo_cmp 83 77 (fun x y => decide (¬ x = y)))) := lk_icmp_ne (off := 9) (by decide +kernel) rfl
theorem k_226_77 (L : Nat) (xs : Nat → Int32) : ll_OK1 cX11_listed RX11 (some .int) false ll_mN ll_mR ll_mK ll_cnt L xs false 77 (.inl (lo_aload 78 0)) := lk_aload_n (k := 0) (by decide +kernel) rfl
theorem k_226_78 (L : Nat) (xs : Nat → Int32) : ll_OK1 cX11_listed RX11 (some .int) false ll_mN ll_mR ll_mK ll_cnt L xs false 78 (.inl (lo_iload 79 2)) := lk_iload_n (k := 2) (by decide +kernel) rfl
theorem k_226_79 (L : Nat) (xs : Nat → Int32) : ll_OK1 cX11_listed RX11 (some .int) false ll_mN ll_mR ll_mK ll_cnt L xs false 79 (.inr (.inl (225, 2, 82))) := ⟨rfl, by decide, by rw [mN_225, mK_225, mR_225]; exact lj_v 329 1 11 (RX11, TX11, 46) (by decide +kernel) tb_812 tb_813 tb_814 rfl rfl rfl rfl (by decide +kernel)⟩
theorem k_226_82 (L : Nat) (xs : Nat → Int32) : ll_OK1 cX11_listed RX11 (some .int) false ll_mN ll_mR ll_mK ll_cnt L xs false 82 (.inr (.inr 1)) := ⟨(fun h => by cases h), (fun _ => ⟨(by decide +kernel), rfl⟩), fun h => by cases h⟩
theorem k_226_83 (L : Nat) (xs : Nat → Int32) : ll_OK1 cX11_listed RX11 (some .int) false ll_mN ll_mR ll_mK ll_cnt L xs false 83 (.inl (lo_iinc 86 4 1)) := lk_iinc (n := 1) (by decide +kernel) (by decide)
theorem k_226_86 (L : Nat) (xs : Nat → Int32) : ll_OK1 cX11_listed RX11 (some .int) false ll_mN ll_mR ll_mK ll_cnt L xs false 86 (.inl (lo_aload 87 0)) := lk_aload_n (k := 0) (by decide +kernel) rfl
theorem k_226_87 (L : Nat) (xs : Nat → Int32) : ll_OK1 cX11_listed RX11 (some .int) false ll_mN ll_mR ll_mK ll_cnt L xs false 87 (.inl (lo_iload 88 2)) := lk_iload_n (k := 2) (by decide +kernel) rfl
theorem k_226_88 (L : Nat) (xs : Nat → Int32) : ll_OK1 cX11_listed RX11 (some .int) false ll_mN ll_mR ll_mK ll_cnt L xs false 88 (.inr (.inl (224, 2, 91))) := ⟨rfl, by decide, by rw [mN_224, mK_224, mR_224]; exact lj_v 332 1 11 (RX11, TX11, 46) (by decide +kernel) tb_815 tb_816 tb_817 rfl rfl rfl rfl (by decide +kernel)⟩
theorem k_226_91 (L : Nat) (xs : Nat → Int32) : ll_OK1 cX11_listed RX11 (some .int) false ll_mN ll_mR ll_mK ll_cnt L xs false 91 (.inl (lo_istore 93 5)) := lk_istore (by decide +kernel)
theorem k_226_93 (L : Nat) (xs : Nat → Int32) : ll_OK1 cX11_listed RX11 (some .int) false ll_mN ll_mR ll_mK ll_cnt L xs false 93 (.inl (lo_goto 57)) := lk_goto (off := (-36)) (by decide +kernel) rfl
theorem k_226_96 (L : Nat) (xs : Nat → Int32) : ll_OK1 cX11_listed RX11 (some .int) false ll_mN ll_mR ll_mK ll_cnt L xs false 96 (.inl (lo_iload 97 3)) := lk_iload_n (k := 3) (by decide +kernel) rfl
theorem k_226_97 (L : Nat) (xs : Nat → Int32) : ll_OK1 cX11_listed RX11 (some .int) false ll_mN ll_mR ll_mK ll_cnt L xs false 97 (.inl (lo_push 98 (.int (-1)))) := lk_iconst (n := (-1)) (by decide +kernel) (by decide)
theorem k_226_98 (L : Nat) (xs : Nat → Int32) : ll_OK1 cX11_listed RX11 (some .int) false ll_mN ll_mR ll_mK ll_cnt L xs false 98 (.inl (lo_cmp 106 101 (fun x y => decide (¬ x = y)))) := lk_icmp_ne (off := 8) (by decide +kernel) rfl
theorem k_226_101 (L : Nat) (xs : Nat → Int32) : ll_OK1 cX11_listed RX11 (some .int) false ll_mN ll_mR ll_mK ll_cnt L xs false 101 (.inl (lo_iload 103 4)) := lk_iload (by decide +kernel)
theorem k_226_103 (L : Nat) (xs : Nat → Int32) : ll_OK1 cX11_listed RX11 (some .int) false ll_mN ll_mR ll_mK ll_cnt L xs false 103 (.inl (lo_goto 107)) := lk_goto (off := 4) (by decide +kernel) rfl
theorem k_226_106 (L : Nat) (xs : Nat → Int32) : ll_OK1 cX11_listed RX11 (some .int) false ll_mN ll_mR ll_mK ll_cnt L xs false 106 (.inl (lo_push 107 (.int (-1)))) := lk_iconst (n := (-1)) (by decide +kernel) (by decide)
theorem k_226_107 (L : Nat) (xs : Nat → Int32) : ll_OK1 cX11_listed RX11 (some .int) false ll_mN ll_mR ll_mK ll_cnt L xs false 107 (.inr (.inr 1)) := ⟨(fun h => by cases h), (fun _ => ⟨(by decide +kernel), rfl⟩), fun h => by cases h⟩
theorem ok_226 (L : Nat) (xs : Nat → Int32) : ∀ q ∈ cd_226, ll_OK1 cX11_listed RX11 (some .int) false ll_mN ll_mR ll_mK ll_cnt L xs false q.1 q.2 :=
  List.forall_mem_cons.mpr ⟨k_226_0 L xs, List.forall_mem_cons.mpr ⟨k_226_1 L xs, List.forall_mem_cons.mpr ⟨k_226_2 L xs, List.forall_mem_cons.mpr ⟨k_226_3 L xs, List.forall_mem_cons.mpr ⟨k_226_6 L xs, List.forall_mem_cons.mpr ⟨k_226_9 L xs, List.forall_mem_cons.mpr ⟨k_226_10 L xs, List.forall_mem_cons.mpr ⟨k_226_11 L xs, List.forall_mem_cons.mpr ⟨k_226_13 L xs, List.forall_mem_cons.mpr ⟨k_226_16 L xs, List.forall_mem_cons.mpr ⟨k_226_19 L xs, List.forall_mem_cons.mpr ⟨k_226_20 L xs, List.forall_mem_cons.mpr ⟨k_226_21 L xs, List.forall_mem_cons.mpr ⟨k_226_22 L xs, List.forall_mem_cons.mpr ⟨k_226_23 L xs, List.forall_mem_cons.mpr ⟨k_226_25 L xs, List.forall_mem_cons.mpr ⟨k_226_28 L xs, List.forall_mem_cons.mpr ⟨k_226_29 L xs, List.forall_mem_cons.mpr ⟨k_226_31 L xs, List.forall_mem_cons.mpr ⟨k_226_33 L xs, List.forall_mem_cons.mpr ⟨k_226_34 L xs, List.forall_mem_cons.mpr ⟨k_226_37 L xs, List.forall_mem_cons.mpr ⟨k_226_38 L xs, List.forall_mem_cons.mpr ⟨k_226_41 L xs, List.forall_mem_cons.mpr ⟨k_226_43 L xs, List.forall_mem_cons.mpr ⟨k_226_44 L xs, List.forall_mem_cons.mpr ⟨k_226_45 L xs, List.forall_mem_cons.mpr ⟨k_226_48 L xs, List.forall_mem_cons.mpr ⟨k_226_51 L xs, List.forall_mem_cons.mpr ⟨k_226_52 L xs, List.forall_mem_cons.mpr ⟨k_226_54 L xs, List.forall_mem_cons.mpr ⟨k_226_55 L xs, List.forall_mem_cons.mpr ⟨k_226_57 L xs, List.forall_mem_cons.mpr ⟨k_226_59 L xs, List.forall_mem_cons.mpr ⟨k_226_62 L xs, List.forall_mem_cons.mpr ⟨k_226_63 L xs, List.forall_mem_cons.mpr ⟨k_226_64 L xs, List.forall_mem_cons.mpr ⟨k_226_65 L xs, List.forall_mem_cons.mpr ⟨k_226_68 L xs, List.forall_mem_cons.mpr ⟨k_226_71 L xs, List.forall_mem_cons.mpr ⟨k_226_73 L xs, List.forall_mem_cons.mpr ⟨k_226_74 L xs, List.forall_mem_cons.mpr ⟨k_226_77 L xs, List.forall_mem_cons.mpr ⟨k_226_78 L xs, List.forall_mem_cons.mpr ⟨k_226_79 L xs, List.forall_mem_cons.mpr ⟨k_226_82 L xs, List.forall_mem_cons.mpr ⟨k_226_83 L xs, List.forall_mem_cons.mpr ⟨k_226_86 L xs, List.forall_mem_cons.mpr ⟨k_226_87 L xs, List.forall_mem_cons.mpr ⟨k_226_88 L xs, List.forall_mem_cons.mpr ⟨k_226_91 L xs, List.forall_mem_cons.mpr ⟨k_226_93 L xs, List.forall_mem_cons.mpr ⟨k_226_96 L xs, List.forall_mem_cons.mpr ⟨k_226_97 L xs, List.forall_mem_cons.mpr ⟨k_226_98 L xs, List.forall_mem_cons.mpr ⟨k_226_101 L xs, List.forall_mem_cons.mpr ⟨k_226_103 L xs, List.forall_mem_cons.mpr ⟨k_226_106 L xs, List.forall_mem_cons.mpr ⟨k_226_107 L xs, fun _ h => absurd h List.not_mem_nil⟩⟩⟩⟩⟩⟩⟩⟩⟩⟩⟩⟩⟩⟩⟩⟩⟩⟩⟩⟩⟩⟩⟩⟩⟩⟩⟩⟩⟩⟩⟩⟩⟩⟩⟩⟩⟩⟩⟩⟩⟩⟩⟩⟩⟩⟩⟩⟩⟩⟩⟩⟩⟩⟩⟩⟩⟩⟩⟩
/-- InclusionProverModel.words.(II)I -/
def cd_227 : List (Nat × ll_O) := [
  (0, .inl (lo_aload 1 0)),
  (1, .inl (lo_iload 2 1)),
  (2, .inl (lo_iload 3 2)),
  (3, .inl (lo_push 4 (.int (-1)))),
  (4, .inr (.inl (226, 4, 7))),
  (7, .inr (.inr 1))]
theorem k_227_0 (L : Nat) (xs : Nat → Int32) : ll_OK1 cX11_words RX11 (some .int) false ll_mN ll_mR ll_mK ll_cnt L xs false 0 (.inl (lo_aload 1 0)) := lk_aload_n (k := 0) (by decide +kernel) rfl
theorem k_227_1 (L : Nat) (xs : Nat → Int32) : ll_OK1 cX11_words RX11 (some .int) false ll_mN ll_mR ll_mK ll_cnt L xs false 1 (.inl (lo_iload 2 1)) := lk_iload_n (k := 1) (by decide +kernel) rfl
theorem k_227_2 (L : Nat) (xs : Nat → Int32) : ll_OK1 cX11_words RX11 (some .int) false ll_mN ll_mR ll_mK ll_cnt L xs false 2 (.inl (lo_iload 3 2)) := lk_iload_n (k := 2) (by decide +kernel) rfl
theorem k_227_3 (L : Nat) (xs : Nat → Int32) : ll_OK1 cX11_words RX11 (some .int) false ll_mN ll_mR ll_mK ll_cnt L xs false 3 (.inl (lo_push 4 (.int (-1)))) := lk_iconst (n := (-1)) (by decide +kernel) (by decide)
theorem k_227_4 (L : Nat) (xs : Nat → Int32) : ll_OK1 cX11_words RX11 (some .int) false ll_mN ll_mR ll_mK ll_cnt L xs false 4 (.inr (.inl (226, 4, 7))) := ⟨rfl, by decide, by rw [mN_226, mK_226, mR_226]; exact lj_v 335 3 11 (RX11, TX11, 46) (by decide +kernel) tb_818 tb_819 tb_820 rfl rfl rfl rfl (by decide +kernel)⟩
theorem k_227_7 (L : Nat) (xs : Nat → Int32) : ll_OK1 cX11_words RX11 (some .int) false ll_mN ll_mR ll_mK ll_cnt L xs false 7 (.inr (.inr 1)) := ⟨(fun h => by cases h), (fun _ => ⟨(by decide +kernel), rfl⟩), fun h => by cases h⟩
theorem ok_227 (L : Nat) (xs : Nat → Int32) : ∀ q ∈ cd_227, ll_OK1 cX11_words RX11 (some .int) false ll_mN ll_mR ll_mK ll_cnt L xs false q.1 q.2 :=
  List.forall_mem_cons.mpr ⟨k_227_0 L xs, List.forall_mem_cons.mpr ⟨k_227_1 L xs, List.forall_mem_cons.mpr ⟨k_227_2 L xs, List.forall_mem_cons.mpr ⟨k_227_3 L xs, List.forall_mem_cons.mpr ⟨k_227_4 L xs, List.forall_mem_cons.mpr ⟨k_227_7 L xs, fun _ h => absurd h List.not_mem_nil⟩⟩⟩⟩⟩⟩
/-- InclusionProverModel.word.(III)I -/
def cd_228 : List (Nat × ll_O) := [
  (0, .inl (lo_iload 1 3)),
  (1, .inl (lo_if 8 4 (fun x => decide (0 ≤ x)))),
  (4, .inl (lo_push 5 (.int (-1)))),
  (5, .inl (lo_goto 15)),
  (8, .inl (lo_aload 9 0)),
  (9, .inl (lo_iload 10 1)),
  (10, .inl (lo_iload 11 2)),
  (11, .inl (lo_iload 12 3)),
  (12, .inr (.inl (226, 4, 15))),
  (15, .inr (.inr 1))]
theorem k_228_0 (L : Nat) (xs : Nat → Int32) : ll_OK1 cX11_word RX11 (some .int) false ll_mN ll_mR ll_mK ll_cnt L xs false 0 (.inl (lo_iload 1 3)) := lk_iload_n (k := 3) (by decide +kernel) rfl
theorem k_228_1 (L : Nat) (xs : Nat → Int32) : ll_OK1 cX11_word RX11 (some .int) false ll_mN ll_mR ll_mK ll_cnt L xs false 1 (.inl (lo_if 8 4 (fun x => decide (0 ≤ x)))) := lk_if_ge (off := 7) (by decide +kernel) rfl
theorem k_228_4 (L : Nat) (xs : Nat → Int32) : ll_OK1 cX11_word RX11 (some .int) false ll_mN ll_mR ll_mK ll_cnt L xs false 4 (.inl (lo_push 5 (.int (-1)))) := lk_iconst (n := (-1)) (by decide +kernel) (by decide)
theorem k_228_5 (L : Nat) (xs : Nat → Int32) : ll_OK1 cX11_word RX11 (some .int) false ll_mN ll_mR ll_mK ll_cnt L xs false 5 (.inl (lo_goto 15)) := lk_goto (off := 10) (by decide +kernel) rfl
theorem k_228_8 (L : Nat) (xs : Nat → Int32) : ll_OK1 cX11_word RX11 (some .int) false ll_mN ll_mR ll_mK ll_cnt L xs false 8 (.inl (lo_aload 9 0)) := lk_aload_n (k := 0) (by decide +kernel) rfl
theorem k_228_9 (L : Nat) (xs : Nat → Int32) : ll_OK1 cX11_word RX11 (some .int) false ll_mN ll_mR ll_mK ll_cnt L xs false 9 (.inl (lo_iload 10 1)) := lk_iload_n (k := 1) (by decide +kernel) rfl
theorem k_228_10 (L : Nat) (xs : Nat → Int32) : ll_OK1 cX11_word RX11 (some .int) false ll_mN ll_mR ll_mK ll_cnt L xs false 10 (.inl (lo_iload 11 2)) := lk_iload_n (k := 2) (by decide +kernel) rfl
theorem k_228_11 (L : Nat) (xs : Nat → Int32) : ll_OK1 cX11_word RX11 (some .int) false ll_mN ll_mR ll_mK ll_cnt L xs false 11 (.inl (lo_iload 12 3)) := lk_iload_n (k := 3) (by decide +kernel) rfl
theorem k_228_12 (L : Nat) (xs : Nat → Int32) : ll_OK1 cX11_word RX11 (some .int) false ll_mN ll_mR ll_mK ll_cnt L xs false 12 (.inr (.inl (226, 4, 15))) := ⟨rfl, by decide, by rw [mN_226, mK_226, mR_226]; exact lj_v 335 3 11 (RX11, TX11, 46) (by decide +kernel) tb_818 tb_819 tb_820 rfl rfl rfl rfl (by decide +kernel)⟩
theorem k_228_15 (L : Nat) (xs : Nat → Int32) : ll_OK1 cX11_word RX11 (some .int) false ll_mN ll_mR ll_mK ll_cnt L xs false 15 (.inr (.inr 1)) := ⟨(fun h => by cases h), (fun _ => ⟨(by decide +kernel), rfl⟩), fun h => by cases h⟩
theorem ok_228 (L : Nat) (xs : Nat → Int32) : ∀ q ∈ cd_228, ll_OK1 cX11_word RX11 (some .int) false ll_mN ll_mR ll_mK ll_cnt L xs false q.1 q.2 :=
  List.forall_mem_cons.mpr ⟨k_228_0 L xs, List.forall_mem_cons.mpr ⟨k_228_1 L xs, List.forall_mem_cons.mpr ⟨k_228_4 L xs, List.forall_mem_cons.mpr ⟨k_228_5 L xs, List.forall_mem_cons.mpr ⟨k_228_8 L xs, List.forall_mem_cons.mpr ⟨k_228_9 L xs, List.forall_mem_cons.mpr ⟨k_228_10 L xs, List.forall_mem_cons.mpr ⟨k_228_11 L xs, List.forall_mem_cons.mpr ⟨k_228_12 L xs, List.forall_mem_cons.mpr ⟨k_228_15 L xs, fun _ h => absurd h List.not_mem_nil⟩⟩⟩⟩⟩⟩⟩⟩⟩⟩
/-- InclusionProverModel.image.(I)Z -/
def cd_229 : List (Nat × ll_O) := [
  (0, .inl (lo_iload 1 1)),
  (1, .inl (lo_push 2 (.int 0))),
  (2, .inl (lo_push 3 (.int 1))),
  (3, .inr (.inl (151, 3, 6))),
  (6, .inl (lo_if 11 9 (fun x => decide (¬ x = 0)))),
  (9, .inl (lo_push 10 (.int 0))),
  (10, .inr (.inr 2)),
  (11, .inl (lo_push 14 (.int 21378))),
  (14, .inl (lo_push 17 (.int 10752))),
  (17, .inl (lo_iload 18 1)),
  (18, .inl (lo_bin 19 (fun x y => x * y))),
  (19, .inl (lo_bin 20 (fun x y => x + y))),
  (20, .inl (lo_istore 21 2)),
  (21, .inl (lo_aload 22 0)),
  (22, .inl (lo_push 23 (.int 0))),
  (23, .inl (lo_iload 24 2)),
  (24, .inl (lo_push 27 (.int 10689))),
  (27, .inr (.inl (152, 4, 30))),
  (30, .inl (lo_push 31 (.int 0))),
  (31, .inl (lo_istore 32 3)),
  (32, .inl (lo_iload 33 3)),
  (33, .inl (lo_push 35 (.int 60))),
  (35, .inl (lo_cmp 62 38 (fun x y => decide (y ≤ x)))),
  (38, .inl (lo_aload 39 0)),
  (39, .inl (lo_getf 42 11 0)),
  (42, .inl (lo_iload 43 2)),
  (43, .inl (lo_push 46 (.int 10689))),
  (46, .inl (lo_bin 47 (fun x y => x + y))),
  (47, .inl (lo_iload 48 3)),
  (48, .inl (lo_bin 49 (fun x y => x + y))),
  (49, .inl (lo_aload 50 0)),
  (50, .inl (lo_getf 53 11 1)),
  (53, .inl (lo_iload 54 3)),
  (54, .inl (lo_ald 55 0)),
  (55, .inl (lo_ast 56 0)),
  (56, .inl (lo_iinc 59 3 1)),
  (59, .inl (lo_goto 32)),
  (62, .inl (lo_aload 63 0)),
  (63, .inl (lo_getf 66 11 0)),
  (66, .inl (lo_iload 67 2)),
  (67, .inl (lo_push 70 (.int 10689))),
  (70, .inl (lo_bin 71 (fun x y => x + y))),
  (71, .inl (lo_push 73 (.int 60))),
  (73, .inl (lo_bin 74 (fun x y => x + y))),
  (74, .inl (lo_aload 75 0)),
  (75, .inl (lo_getf 78 11 3)),
  (78, .inl (lo_ast 79 0)),
  (79, .inl (lo_aload 80 0)),
  (80, .inl (lo_getf 83 11 0)),
  (83, .inl (lo_iload 84 2)),
  (84, .inl (lo_push 87 (.int 10689))),
  (87, .inl (lo_bin 88 (fun x y => x + y))),
  (88, .inl (lo_push 90 (.int 60))),
  (90, .inl (lo_bin 91 (fun x y => x + y))),
  (91, .inl (lo_push 92 (.int 1))),
  (92, .inl (lo_bin 93 (fun x y => x + y))),
  (93, .inl (lo_aload 94 0)),
  (94, .inl (lo_getf 97 11 4)),
  (97, .inl (lo_ast 98 0)),
  (98, .inl (lo_aload 99 0)),
  (99, .inl (lo_getf 102 11 2)),
  (102, .inl (lo_iload 103 1)),
  (103, .inl (lo_push 104 (.int 1))),
  (104, .inl (lo_ast 105 1)),
  (105, .inl (lo_push 106 (.int 1))),
  (106, .inr (.inr 2))]
theorem k_229_0 (L : Nat) (xs : Nat → Int32) : ll_OK1 cX11_image RX11 (some .boolean) false ll_mN ll_mR ll_mK ll_cnt L xs false 0 (.inl (lo_iload 1 1)) := lk_iload_n (k := 1) (by decide +kernel) rfl
theorem k_229_1 (L : Nat) (xs : Nat → Int32) : ll_OK1 cX11_image RX11 (some .boolean) false ll_mN ll_mR ll_mK ll_cnt L xs false 1 (.inl (lo_push 2 (.int 0))) := lk_iconst (n := 0) (by decide +kernel) (by decide)
theorem k_229_2 (L : Nat) (xs : Nat → Int32) : ll_OK1 cX11_image RX11 (some .boolean) false ll_mN ll_mR ll_mK ll_cnt L xs false 2 (.inl (lo_push 3 (.int 1))) := lk_iconst (n := 1) (by decide +kernel) (by decide)
theorem k_229_3 (L : Nat) (xs : Nat → Int32) : ll_OK1 cX11_image RX11 (some .boolean) false ll_mN ll_mR ll_mK ll_cnt L xs false 3 (.inr (.inl (151, 3, 6))) := ⟨rfl, by decide, by rw [mN_151, mK_151, mR_151]; exact lj_s 163 (by decide +kernel) tb_673 tb_674 (by decide +kernel)⟩
theorem k_229_6 (L : Nat) (xs : Nat → Int32) : ll_OK1 cX11_image RX11 (some .boolean) false ll_mN ll_mR ll_mK ll_cnt L xs false 6 (.inl (lo_if 11 9 (fun x => decide (¬ x = 0)))) := lk_if_ne (off := 5) (by decide +kernel) rfl
theorem k_229_9 (L : Nat) (xs : Nat → Int32) : ll_OK1 cX11_image RX11 (some .boolean) false ll_mN ll_mR ll_mK ll_cnt L xs false 9 (.inl (lo_push 10 (.int 0))) := lk_iconst (n := 0) (by decide +kernel) (by decide)
theorem k_229_10 (L : Nat) (xs : Nat → Int32) : ll_OK1 cX11_image RX11 (some .boolean) false ll_mN ll_mR ll_mK ll_cnt L xs false 10 (.inr (.inr 2)) := ⟨(fun h => by cases h), (fun h => by cases h), fun _ => ⟨(by decide +kernel), rfl⟩⟩
theorem k_229_11 (L : Nat) (xs : Nat → Int32) : ll_OK1 cX11_image RX11 (some .boolean) false ll_mN ll_mR ll_mK ll_cnt L xs false 11 (.inl (lo_push 14 (.int 21378))) := lk_sipush (n := 21378) (by decide +kernel) (by decide)
theorem k_229_14 (L : Nat) (xs : Nat → Int32) : ll_OK1 cX11_image RX11 (some .boolean) false ll_mN ll_mR ll_mK ll_cnt L xs false 14 (.inl (lo_push 17 (.int 10752))) := lk_sipush (n := 10752) (by decide +kernel) (by decide)
theorem k_229_17 (L : Nat) (xs : Nat → Int32) : ll_OK1 cX11_image RX11 (some .boolean) false ll_mN ll_mR ll_mK ll_cnt L xs false 17 (.inl (lo_iload 18 1)) := lk_iload_n (k := 1) (by decide +kernel) rfl
theorem k_229_18 (L : Nat) (xs : Nat → Int32) : ll_OK1 cX11_image RX11 (some .boolean) false ll_mN ll_mR ll_mK ll_cnt L xs false 18 (.inl (lo_bin 19 (fun x y => x * y))) := lk_imul (by decide +kernel)
theorem k_229_19 (L : Nat) (xs : Nat → Int32) : ll_OK1 cX11_image RX11 (some .boolean) false ll_mN ll_mR ll_mK ll_cnt L xs false 19 (.inl (lo_bin 20 (fun x y => x + y))) := lk_iadd (by decide +kernel)
theorem k_229_20 (L : Nat) (xs : Nat → Int32) : ll_OK1 cX11_image RX11 (some .boolean) false ll_mN ll_mR ll_mK ll_cnt L xs false 20 (.inl (lo_istore 21 2)) := lk_istore_n (k := 2) (by decide +kernel) rfl
theorem k_229_21 (L : Nat) (xs : Nat → Int32) : ll_OK1 cX11_image RX11 (some .boolean) false ll_mN ll_mR ll_mK ll_cnt L xs false 21 (.inl (lo_aload 22 0)) := lk_aload_n (k := 0) (by decide +kernel) rfl
theorem k_229_22 (L : Nat) (xs : Nat → Int32) : ll_OK1 cX11_image RX11 (some .boolean) false ll_mN ll_mR ll_mK ll_cnt L xs false 22 (.inl (lo_push 23 (.int 0))) := lk_iconst (n := 0) (by decide +kernel) (by decide)
theorem k_229_23 (L : Nat) (xs : Nat → Int32) : ll_OK1 cX11_image RX11 (some .boolean) false ll_mN ll_mR ll_mK ll_cnt L xs false 23 (.inl (lo_iload 24 2)) := lk_iload_n (k := 2) (by decide +kernel) rfl
theorem k_229_24 (L : Nat) (xs : Nat → Int32) : ll_OK1 cX11_image RX11 (some .boolean) false ll_mN ll_mR ll_mK ll_cnt L xs false 24 (.inl (lo_push 27 (.int 10689))) := lk_sipush (n := 10689) (by decide +kernel) (by decide)
theorem k_229_27 (L : Nat) (xs : Nat → Int32) : ll_OK1 cX11_image RX11 (some .boolean) false ll_mN ll_mR ll_mK ll_cnt L xs false 27 (.inr (.inl (152, 4, 30))) := ⟨rfl, by decide, by rw [mN_152, mK_152, mR_152]; exact lj_v 314 3 11 (RX11, TX11, 46) (by decide +kernel) tb_797 tb_798 tb_799 rfl rfl rfl rfl (by decide +kernel)⟩
theorem k_229_30 (L : Nat) (xs : Nat → Int32) : ll_OK1 cX11_image RX11 (some .boolean) false ll_mN ll_mR ll_mK ll_cnt L xs false 30 (.inl (lo_push 31 (.int 0))) := lk_iconst (n := 0) (by decide +kernel) (by decide)
theorem k_229_31 (L : Nat) (xs : Nat → Int32) : ll_OK1 cX11_image RX11 (some .boolean) false ll_mN ll_mR ll_mK ll_cnt L xs false 31 (.inl (lo_istore 32 3)) := lk_istore_n (k := 3) (by decide +kernel) rfl
theorem k_229_32 (L : Nat) (xs : Nat → Int32) : ll_OK1 cX11_image RX11 (some .boolean) false ll_mN ll_mR ll_mK ll_cnt L xs false 32 (.inl (lo_iload 33 3)) := lk_iload_n (k := 3) (by decide +kernel) rfl
theorem k_229_33 (L : Nat) (xs : Nat → Int32) : ll_OK1 cX11_image RX11 (some .boolean) false ll_mN ll_mR ll_mK ll_cnt L xs false 33 (.inl (lo_push 35 (.int 60))) := lk_bipush (n := 60) (by decide +kernel) (by decide)
theorem k_229_35 (L : Nat) (xs : Nat → Int32) : ll_OK1 cX11_image RX11 (some .boolean) false ll_mN ll_mR ll_mK ll_cnt L xs false 35 (.inl (lo_cmp 62 38 (fun x y => decide (y ≤ x)))) := lk_icmp_ge (off := 27) (by decide +kernel) rfl
theorem k_229_38 (L : Nat) (xs : Nat → Int32) : ll_OK1 cX11_image RX11 (some .boolean) false ll_mN ll_mR ll_mK ll_cnt L xs false 38 (.inl (lo_aload 39 0)) := lk_aload_n (k := 0) (by decide +kernel) rfl
theorem k_229_39 (L : Nat) (xs : Nat → Int32) : ll_OK1 cX11_image RX11 (some .boolean) false ll_mN ll_mR ll_mK ll_cnt L xs false 39 (.inl (lo_getf 42 11 0)) := lk_getf (ix := 8) (ci := 11) (k := 0) (C := RX11) (T := TX11) (N := 46) (by decide +kernel) rfl in_11 (by decide) tb_606
theorem k_229_42 (L : Nat) (xs : Nat → Int32) : ll_OK1 cX11_image RX11 (some .boolean) false ll_mN ll_mR ll_mK ll_cnt L xs false 42 (.inl (lo_iload 43 2)) := lk_iload_n (k := 2) (by decide +kernel) rfl
theorem k_229_43 (L : Nat) (xs : Nat → Int32) : ll_OK1 cX11_image RX11 (some .boolean) false ll_mN ll_mR ll_mK ll_cnt L xs false 43 (.inl (lo_push 46 (.int 10689))) := lk_sipush (n := 10689) (by decide +kernel) (by decide)
theorem k_229_46 (L : Nat) (xs : Nat → Int32) : ll_OK1 cX11_image RX11 (some .boolean) false ll_mN ll_mR ll_mK ll_cnt L xs false 46 (.inl (lo_bin 47 (fun x y => x + y))) := lk_iadd (by decide +kernel)
theorem k_229_47 (L : Nat) (xs : Nat → Int32) : ll_OK1 cX11_image RX11 (some .boolean) false ll_mN ll_mR ll_mK ll_cnt L xs false 47 (.inl (lo_iload 48 3)) := lk_iload_n (k := 3) (by decide +kernel) rfl
theorem k_229_48 (L : Nat) (xs : Nat → Int32) : ll_OK1 cX11_image RX11 (some .boolean) false ll_mN ll_mR ll_mK ll_cnt L xs false 48 (.inl (lo_bin 49 (fun x y => x + y))) := lk_iadd (by decide +kernel)
theorem k_229_49 (L : Nat) (xs : Nat → Int32) : ll_OK1 cX11_image RX11 (some .boolean) false ll_mN ll_mR ll_mK ll_cnt L xs false 49 (.inl (lo_aload 50 0)) := lk_aload_n (k := 0) (by decide +kernel) rfl
theorem k_229_50 (L : Nat) (xs : Nat → Int32) : ll_OK1 cX11_image RX11 (some .boolean) false ll_mN ll_mR ll_mK ll_cnt L xs false 50 (.inl (lo_getf 53 11 1)) := lk_getf (ix := 14) (ci := 11) (k := 1) (C := RX11) (T := TX11) (N := 46) (by decide +kernel) rfl in_11 (by decide) tb_607
theorem k_229_53 (L : Nat) (xs : Nat → Int32) : ll_OK1 cX11_image RX11 (some .boolean) false ll_mN ll_mR ll_mK ll_cnt L xs false 53 (.inl (lo_iload 54 3)) := lk_iload_n (k := 3) (by decide +kernel) rfl
theorem k_229_54 (L : Nat) (xs : Nat → Int32) : ll_OK1 cX11_image RX11 (some .boolean) false ll_mN ll_mR ll_mK ll_cnt L xs false 54 (.inl (lo_ald 55 0)) := lk_iald (by decide +kernel)
theorem k_229_55 (L : Nat) (xs : Nat → Int32) : ll_OK1 cX11_image RX11 (some .boolean) false ll_mN ll_mR ll_mK ll_cnt L xs false 55 (.inl (lo_ast 56 0)) := lk_iast (by decide +kernel)
theorem k_229_56 (L : Nat) (xs : Nat → Int32) : ll_OK1 cX11_image RX11 (some .boolean) false ll_mN ll_mR ll_mK ll_cnt L xs false 56 (.inl (lo_iinc 59 3 1)) := lk_iinc (n := 1) (by decide +kernel) (by decide)
theorem k_229_59 (L : Nat) (xs : Nat → Int32) : ll_OK1 cX11_image RX11 (some .boolean) false ll_mN ll_mR ll_mK ll_cnt L xs false 59 (.inl (lo_goto 32)) := lk_goto (off := (-27)) (by decide +kernel) rfl
theorem k_229_62 (L : Nat) (xs : Nat → Int32) : ll_OK1 cX11_image RX11 (some .boolean) false ll_mN ll_mR ll_mK ll_cnt L xs false 62 (.inl (lo_aload 63 0)) := lk_aload_n (k := 0) (by decide +kernel) rfl
theorem k_229_63 (L : Nat) (xs : Nat → Int32) : ll_OK1 cX11_image RX11 (some .boolean) false ll_mN ll_mR ll_mK ll_cnt L xs false 63 (.inl (lo_getf 66 11 0)) := lk_getf (ix := 8) (ci := 11) (k := 0) (C := RX11) (T := TX11) (N := 46) (by decide +kernel) rfl in_11 (by decide) tb_606
theorem k_229_66 (L : Nat) (xs : Nat → Int32) : ll_OK1 cX11_image RX11 (some .boolean) false ll_mN ll_mR ll_mK ll_cnt L xs false 66 (.inl (lo_iload 67 2)) := lk_iload_n (k := 2) (by decide +kernel) rfl
theorem k_229_67 (L : Nat) (xs : Nat → Int32) : ll_OK1 cX11_image RX11 (some .boolean) false ll_mN ll_mR ll_mK ll_cnt L xs false 67 (.inl (lo_push 70 (.int 10689))) := lk_sipush (n := 10689) (by decide +kernel) (by decide)
theorem k_229_70 (L : Nat) (xs : Nat → Int32) : ll_OK1 cX11_image RX11 (some .boolean) false ll_mN ll_mR ll_mK ll_cnt L xs false 70 (.inl (lo_bin 71 (fun x y => x + y))) := lk_iadd (by decide +kernel)
theorem k_229_71 (L : Nat) (xs : Nat → Int32) : ll_OK1 cX11_image RX11 (some .boolean) false ll_mN ll_mR ll_mK ll_cnt L xs false 71 (.inl (lo_push 73 (.int 60))) := lk_bipush (n := 60) (by decide +kernel) (by decide)
theorem k_229_73 (L : Nat) (xs : Nat → Int32) : ll_OK1 cX11_image RX11 (some .boolean) false ll_mN ll_mR ll_mK ll_cnt L xs false 73 (.inl (lo_bin 74 (fun x y => x + y))) := lk_iadd (by decide +kernel)
theorem k_229_74 (L : Nat) (xs : Nat → Int32) : ll_OK1 cX11_image RX11 (some .boolean) false ll_mN ll_mR ll_mK ll_cnt L xs false 74 (.inl (lo_aload 75 0)) := lk_aload_n (k := 0) (by decide +kernel) rfl
theorem k_229_75 (L : Nat) (xs : Nat → Int32) : ll_OK1 cX11_image RX11 (some .boolean) false ll_mN ll_mR ll_mK ll_cnt L xs false 75 (.inl (lo_getf 78 11 3)) := lk_getf (ix := 279) (ci := 11) (k := 3) (C := RX11) (T := TX11) (N := 46) (by decide +kernel) rfl in_11 (by decide) tb_772
theorem k_229_78 (L : Nat) (xs : Nat → Int32) : ll_OK1 cX11_image RX11 (some .boolean) false ll_mN ll_mR ll_mK ll_cnt L xs false 78 (.inl (lo_ast 79 0)) := lk_iast (by decide +kernel)
theorem k_229_79 (L : Nat) (xs : Nat → Int32) : ll_OK1 cX11_image RX11 (some .boolean) false ll_mN ll_mR ll_mK ll_cnt L xs false 79 (.inl (lo_aload 80 0)) := lk_aload_n (k := 0) (by decide +kernel) rfl
theorem k_229_80 (L : Nat) (xs : Nat → Int32) : ll_OK1 cX11_image RX11 (some .boolean) false ll_mN ll_mR ll_mK ll_cnt L xs false 80 (.inl (lo_getf 83 11 0)) := lk_getf (ix := 8) (ci := 11) (k := 0) (C := RX11) (T := TX11) (N := 46) (by decide +kernel) rfl in_11 (by decide) tb_606
theorem k_229_83 (L : Nat) (xs : Nat → Int32) : ll_OK1 cX11_image RX11 (some .boolean) false ll_mN ll_mR ll_mK ll_cnt L xs false 83 (.inl (lo_iload 84 2)) := lk_iload_n (k := 2) (by decide +kernel) rfl
theorem k_229_84 (L : Nat) (xs : Nat → Int32) : ll_OK1 cX11_image RX11 (some .boolean) false ll_mN ll_mR ll_mK ll_cnt L xs false 84 (.inl (lo_push 87 (.int 10689))) := lk_sipush (n := 10689) (by decide +kernel) (by decide)
theorem k_229_87 (L : Nat) (xs : Nat → Int32) : ll_OK1 cX11_image RX11 (some .boolean) false ll_mN ll_mR ll_mK ll_cnt L xs false 87 (.inl (lo_bin 88 (fun x y => x + y))) := lk_iadd (by decide +kernel)
theorem k_229_88 (L : Nat) (xs : Nat → Int32) : ll_OK1 cX11_image RX11 (some .boolean) false ll_mN ll_mR ll_mK ll_cnt L xs false 88 (.inl (lo_push 90 (.int 60))) := lk_bipush (n := 60) (by decide +kernel) (by decide)
theorem k_229_90 (L : Nat) (xs : Nat → Int32) : ll_OK1 cX11_image RX11 (some .boolean) false ll_mN ll_mR ll_mK ll_cnt L xs false 90 (.inl (lo_bin 91 (fun x y => x + y))) := lk_iadd (by decide +kernel)
theorem k_229_91 (L : Nat) (xs : Nat → Int32) : ll_OK1 cX11_image RX11 (some .boolean) false ll_mN ll_mR ll_mK ll_cnt L xs false 91 (.inl (lo_push 92 (.int 1))) := lk_iconst (n := 1) (by decide +kernel) (by decide)
theorem k_229_92 (L : Nat) (xs : Nat → Int32) : ll_OK1 cX11_image RX11 (some .boolean) false ll_mN ll_mR ll_mK ll_cnt L xs false 92 (.inl (lo_bin 93 (fun x y => x + y))) := lk_iadd (by decide +kernel)
theorem k_229_93 (L : Nat) (xs : Nat → Int32) : ll_OK1 cX11_image RX11 (some .boolean) false ll_mN ll_mR ll_mK ll_cnt L xs false 93 (.inl (lo_aload 94 0)) := lk_aload_n (k := 0) (by decide +kernel) rfl
theorem k_229_94 (L : Nat) (xs : Nat → Int32) : ll_OK1 cX11_image RX11 (some .boolean) false ll_mN ll_mR ll_mK ll_cnt L xs false 94 (.inl (lo_getf 97 11 4)) := lk_getf (ix := 21) (ci := 11) (k := 4) (C := RX11) (T := TX11) (N := 46) (by decide +kernel) rfl in_11 (by decide) tb_609
theorem k_229_97 (L : Nat) (xs : Nat → Int32) : ll_OK1 cX11_image RX11 (some .boolean) false ll_mN ll_mR ll_mK ll_cnt L xs false 97 (.inl (lo_ast 98 0)) := lk_iast (by decide +kernel)
theorem k_229_98 (L : Nat) (xs : Nat → Int32) : ll_OK1 cX11_image RX11 (some .boolean) false ll_mN ll_mR ll_mK ll_cnt L xs false 98 (.inl (lo_aload 99 0)) := lk_aload_n (k := 0) (by decide +kernel) rfl
theorem k_229_99 (L : Nat) (xs : Nat → Int32) : ll_OK1 cX11_image RX11 (some .boolean) false ll_mN ll_mR ll_mK ll_cnt L xs false 99 (.inl (lo_getf 102 11 2)) := lk_getf (ix := 17) (ci := 11) (k := 2) (C := RX11) (T := TX11) (N := 46) (by decide +kernel) rfl in_11 (by decide) tb_608
theorem k_229_102 (L : Nat) (xs : Nat → Int32) : ll_OK1 cX11_image RX11 (some .boolean) false ll_mN ll_mR ll_mK ll_cnt L xs false 102 (.inl (lo_iload 103 1)) := lk_iload_n (k := 1) (by decide +kernel) rfl
theorem k_229_103 (L : Nat) (xs : Nat → Int32) : ll_OK1 cX11_image RX11 (some .boolean) false ll_mN ll_mR ll_mK ll_cnt L xs false 103 (.inl (lo_push 104 (.int 1))) := lk_iconst (n := 1) (by decide +kernel) (by decide)
theorem k_229_104 (L : Nat) (xs : Nat → Int32) : ll_OK1 cX11_image RX11 (some .boolean) false ll_mN ll_mR ll_mK ll_cnt L xs false 104 (.inl (lo_ast 105 1)) := lk_zast (by decide +kernel)
theorem k_229_105 (L : Nat) (xs : Nat → Int32) : ll_OK1 cX11_image RX11 (some .boolean) false ll_mN ll_mR ll_mK ll_cnt L xs false 105 (.inl (lo_push 106 (.int 1))) := lk_iconst (n := 1) (by decide +kernel) (by decide)
theorem k_229_106 (L : Nat) (xs : Nat → Int32) : ll_OK1 cX11_image RX11 (some .boolean) false ll_mN ll_mR ll_mK ll_cnt L xs false 106 (.inr (.inr 2)) := ⟨(fun h => by cases h), (fun h => by cases h), fun _ => ⟨(by decide +kernel), rfl⟩⟩
theorem ok_229 (L : Nat) (xs : Nat → Int32) : ∀ q ∈ cd_229, ll_OK1 cX11_image RX11 (some .boolean) false ll_mN ll_mR ll_mK ll_cnt L xs false q.1 q.2 :=
  List.forall_mem_cons.mpr ⟨k_229_0 L xs, List.forall_mem_cons.mpr ⟨k_229_1 L xs, List.forall_mem_cons.mpr ⟨k_229_2 L xs, List.forall_mem_cons.mpr ⟨k_229_3 L xs, List.forall_mem_cons.mpr ⟨k_229_6 L xs, List.forall_mem_cons.mpr ⟨k_229_9 L xs, List.forall_mem_cons.mpr ⟨k_229_10 L xs, List.forall_mem_cons.mpr ⟨k_229_11 L xs, List.forall_mem_cons.mpr ⟨k_229_14 L xs, List.forall_mem_cons.mpr ⟨k_229_17 L xs, List.forall_mem_cons.mpr ⟨k_229_18 L xs, List.forall_mem_cons.mpr ⟨k_229_19 L xs, List.forall_mem_cons.mpr ⟨k_229_20 L xs, List.forall_mem_cons.mpr ⟨k_229_21 L xs, List.forall_mem_cons.mpr ⟨k_229_22 L xs, List.forall_mem_cons.mpr ⟨k_229_23 L xs, List.forall_mem_cons.mpr ⟨k_229_24 L xs, List.forall_mem_cons.mpr ⟨k_229_27 L xs, List.forall_mem_cons.mpr ⟨k_229_30 L xs, List.forall_mem_cons.mpr ⟨k_229_31 L xs, List.forall_mem_cons.mpr ⟨k_229_32 L xs, List.forall_mem_cons.mpr ⟨k_229_33 L xs, List.forall_mem_cons.mpr ⟨k_229_35 L xs, List.forall_mem_cons.mpr ⟨k_229_38 L xs, List.forall_mem_cons.mpr ⟨k_229_39 L xs, List.forall_mem_cons.mpr ⟨k_229_42 L xs, List.forall_mem_cons.mpr ⟨k_229_43 L xs, List.forall_mem_cons.mpr ⟨k_229_46 L xs, List.forall_mem_cons.mpr ⟨k_229_47 L xs, List.forall_mem_cons.mpr ⟨k_229_48 L xs, List.forall_mem_cons.mpr ⟨k_229_49 L xs, List.forall_mem_cons.mpr ⟨k_229_50 L xs, List.forall_mem_cons.mpr ⟨k_229_53 L xs, List.forall_mem_cons.mpr ⟨k_229_54 L xs, List.forall_mem_cons.mpr ⟨k_229_55 L xs, List.forall_mem_cons.mpr ⟨k_229_56 L xs, List.forall_mem_cons.mpr ⟨k_229_59 L xs, List.forall_mem_cons.mpr ⟨k_229_62 L xs, List.forall_mem_cons.mpr ⟨k_229_63 L xs, List.forall_mem_cons.mpr ⟨k_229_66 L xs, List.forall_mem_cons.mpr ⟨k_229_67 L xs, List.forall_mem_cons.mpr ⟨k_229_70 L xs, List.forall_mem_cons.mpr ⟨k_229_71 L xs, List.forall_mem_cons.mpr ⟨k_229_73 L xs, List.forall_mem_cons.mpr ⟨k_229_74 L xs, List.forall_mem_cons.mpr ⟨k_229_75 L xs, List.forall_mem_cons.mpr ⟨k_229_78 L xs, List.forall_mem_cons.mpr ⟨k_229_79 L xs, List.forall_mem_cons.mpr ⟨k_229_80 L xs, List.forall_mem_cons.mpr ⟨k_229_83 L xs, List.forall_mem_cons.mpr ⟨k_229_84 L xs, List.forall_mem_cons.mpr ⟨k_229_87 L xs, List.forall_mem_cons.mpr ⟨k_229_88 L xs, List.forall_mem_cons.mpr ⟨k_229_90 L xs, List.forall_mem_cons.mpr ⟨k_229_91 L xs, List.forall_mem_cons.mpr ⟨k_229_92 L xs, List.forall_mem_cons.mpr ⟨k_229_93 L xs, List.forall_mem_cons.mpr ⟨k_229_94 L xs, List.forall_mem_cons.mpr ⟨k_229_97 L xs, List.forall_mem_cons.mpr ⟨k_229_98 L xs, List.forall_mem_cons.mpr ⟨k_229_99 L xs, List.forall_mem_cons.mpr ⟨k_229_102 L xs, List.forall_mem_cons.mpr ⟨k_229_103 L xs, List.forall_mem_cons.mpr ⟨k_229_104 L xs, List.forall_mem_cons.mpr ⟨k_229_105 L xs, List.forall_mem_cons.mpr ⟨k_229_106 L xs, fun _ h => absurd h List.not_mem_nil⟩⟩⟩⟩⟩⟩⟩⟩⟩⟩⟩⟩⟩⟩⟩⟩⟩⟩⟩⟩⟩⟩⟩⟩⟩⟩⟩⟩⟩⟩⟩⟩⟩⟩⟩⟩⟩⟩⟩⟩⟩⟩⟩⟩⟩⟩⟩⟩⟩⟩⟩⟩⟩⟩⟩⟩⟩⟩⟩⟩⟩⟩⟩⟩⟩⟩
/-- InclusionProverModel.again.(I)Z -/
def cd_230 : List (Nat × ll_O) := [
  (0, .inl (lo_iload 1 1)),
  (1, .inl (lo_push 2 (.int 0))),
  (2, .inl (lo_push 3 (.int 1))),
  (3, .inr (.inl (151, 3, 6))),
  (6, .inl (lo_if 18 9 (fun x => decide (x = 0)))),
  (9, .inl (lo_aload 10 0)),
  (10, .inl (lo_getf 13 11 2)),
  (13, .inl (lo_iload 14 1)),
  (14, .inl (lo_ald 15 1)),
  (15, .inl (lo_if 20 18 (fun x => decide (¬ x = 0)))),
  (18, .inl (lo_push 19 (.int 0))),
  (19, .inr (.inr 2)),
  (20, .inl (lo_push 23 (.int 21378))),
  (23, .inl (lo_push 26 (.int 10752))),
  (26, .inl (lo_iload 27 1)),
  (27, .inl (lo_bin 28 (fun x y => x * y))),
  (28, .inl (lo_bin 29 (fun x y => x + y))),
  (29, .inl (lo_istore 30 2)),
  (30, .inl (lo_aload 31 0)),
  (31, .inl (lo_iload 32 2)),
  (32, .inl (lo_push 33 (.int 0))),
  (33, .inl (lo_push 36 (.int 10689))),
  (36, .inr (.inl (152, 4, 39))),
  (39, .inl (lo_push 40 (.int 0))),
  (40, .inl (lo_istore 41 3)),
  (41, .inl (lo_iload 42 3)),
  (42, .inl (lo_push 44 (.int 60))),
  (44, .inl (lo_cmp 71 47 (fun x y => decide (y ≤ x)))),
  (47, .inl (lo_aload 48 0)),
  (48, .inl (lo_getf 51 11 1)),
  (51, .inl (lo_iload 52 3)),
  (52, .inl (lo_aload 53 0)),
  (53, .inl (lo_getf 56 11 0)),
  (56, .inl (lo_iload 57 2)),
  (57, .inl (lo_push 60 (.int 10689))),
  (60, .inl (lo_bin 61 (fun x y => x + y))),
  (61, .inl (lo_iload 62 3)),
  (62, .inl (lo_bin 63 (fun x y => x + y))),
  (63, .inl (lo_ald 64 0)),
  (64, .inl (lo_ast 65 0)),
  (65, .inl (lo_iinc 68 3 1)),
  (68, .inl (lo_goto 41)),
  (71, .inl (lo_aload 72 0)),
  (72, .inl (lo_aload 73 0)),
  (73, .inl (lo_getf 76 11 0)),
  (76, .inl (lo_iload 77 2)),
  (77, .inl (lo_push 80 (.int 10689))),
  (80, .inl (lo_bin 81 (fun x y => x + y))),
  (81, .inl (lo_push 83 (.int 60))),
  (83, .inl (lo_bin 84 (fun x y => x + y))),
  (84, .inl (lo_ald 85 0)),
  (85, .inl (lo_putf 88 11 3 0)),
  (88, .inl (lo_aload 89 0)),
  (89, .inl (lo_aload 90 0)),
  (90, .inl (lo_getf 93 11 0)),
  (93, .inl (lo_iload 94 2)),
  (94, .inl (lo_push 97 (.int 10689))),
  (97, .inl (lo_bin 98 (fun x y => x + y))),
  (98, .inl (lo_push 100 (.int 60))),
  (100, .inl (lo_bin 101 (fun x y => x + y))),
  (101, .inl (lo_push 102 (.int 1))),
  (102, .inl (lo_bin 103 (fun x y => x + y))),
  (103, .inl (lo_ald 104 0)),
  (104, .inl (lo_putf 107 11 4 0)),
  (107, .inl (lo_push 108 (.int 1))),
  (108, .inr (.inr 2))]
theorem k_230_0 (L : Nat) (xs : Nat → Int32) : ll_OK1 cX11_again RX11 (some .boolean) false ll_mN ll_mR ll_mK ll_cnt L xs false 0 (.inl (lo_iload 1 1)) := lk_iload_n (k := 1) (by decide +kernel) rfl
theorem k_230_1 (L : Nat) (xs : Nat → Int32) : ll_OK1 cX11_again RX11 (some .boolean) false ll_mN ll_mR ll_mK ll_cnt L xs false 1 (.inl (lo_push 2 (.int 0))) := lk_iconst (n := 0) (by decide +kernel) (by decide)
theorem k_230_2 (L : Nat) (xs : Nat → Int32) : ll_OK1 cX11_again RX11 (some .boolean) false ll_mN ll_mR ll_mK ll_cnt L xs false 2 (.inl (lo_push 3 (.int 1))) := lk_iconst (n := 1) (by decide +kernel) (by decide)
theorem k_230_3 (L : Nat) (xs : Nat → Int32) : ll_OK1 cX11_again RX11 (some .boolean) false ll_mN ll_mR ll_mK ll_cnt L xs false 3 (.inr (.inl (151, 3, 6))) := ⟨rfl, by decide, by rw [mN_151, mK_151, mR_151]; exact lj_s 163 (by decide +kernel) tb_673 tb_674 (by decide +kernel)⟩
theorem k_230_6 (L : Nat) (xs : Nat → Int32) : ll_OK1 cX11_again RX11 (some .boolean) false ll_mN ll_mR ll_mK ll_cnt L xs false 6 (.inl (lo_if 18 9 (fun x => decide (x = 0)))) := lk_if_eq (off := 12) (by decide +kernel) rfl
theorem k_230_9 (L : Nat) (xs : Nat → Int32) : ll_OK1 cX11_again RX11 (some .boolean) false ll_mN ll_mR ll_mK ll_cnt L xs false 9 (.inl (lo_aload 10 0)) := lk_aload_n (k := 0) (by decide +kernel) rfl
theorem k_230_10 (L : Nat) (xs : Nat → Int32) : ll_OK1 cX11_again RX11 (some .boolean) false ll_mN ll_mR ll_mK ll_cnt L xs false 10 (.inl (lo_getf 13 11 2)) := lk_getf (ix := 17) (ci := 11) (k := 2) (C := RX11) (T := TX11) (N := 46) (by decide +kernel) rfl in_11 (by decide) tb_608
theorem k_230_13 (L : Nat) (xs : Nat → Int32) : ll_OK1 cX11_again RX11 (some .boolean) false ll_mN ll_mR ll_mK ll_cnt L xs false 13 (.inl (lo_iload 14 1)) := lk_iload_n (k := 1) (by decide +kernel) rfl
theorem k_230_14 (L : Nat) (xs : Nat → Int32) : ll_OK1 cX11_again RX11 (some .boolean) false ll_mN ll_mR ll_mK ll_cnt L xs false 14 (.inl (lo_ald 15 1)) := lk_zald (by decide +kernel)
theorem k_230_15 (L : Nat) (xs : Nat → Int32) : ll_OK1 cX11_again RX11 (some .boolean) false ll_mN ll_mR ll_mK ll_cnt L xs false 15 (.inl (lo_if 20 18 (fun x => decide (¬ x = 0)))) := lk_if_ne (off := 5) (by decide +kernel) rfl
theorem k_230_18 (L : Nat) (xs : Nat → Int32) : ll_OK1 cX11_again RX11 (some .boolean) false ll_mN ll_mR ll_mK ll_cnt L xs false 18 (.inl (lo_push 19 (.int 0))) := lk_iconst (n := 0) (by decide +kernel) (by decide)
theorem k_230_19 (L : Nat) (xs : Nat → Int32) : ll_OK1 cX11_again RX11 (some .boolean) false ll_mN ll_mR ll_mK ll_cnt L xs false 19 (.inr (.inr 2)) := ⟨(fun h => by cases h), (fun h => by cases h), fun _ => ⟨(by decide +kernel), rfl⟩⟩
theorem k_230_20 (L : Nat) (xs : Nat → Int32) : ll_OK1 cX11_again RX11 (some .boolean) false ll_mN ll_mR ll_mK ll_cnt L xs false 20 (.inl (lo_push 23 (.int 21378))) := lk_sipush (n := 21378) (by decide +kernel) (by decide)
theorem k_230_23 (L : Nat) (xs : Nat → Int32) : ll_OK1 cX11_again RX11 (some .boolean) false ll_mN ll_mR ll_mK ll_cnt L xs false 23 (.inl (lo_push 26 (.int 10752))) := lk_sipush (n := 10752) (by decide +kernel) (by decide)
theorem k_230_26 (L : Nat) (xs : Nat → Int32) : ll_OK1 cX11_again RX11 (some .boolean) false ll_mN ll_mR ll_mK ll_cnt L xs false 26 (.inl (lo_iload 27 1)) := lk_iload_n (k := 1) (by decide +kernel) rfl
theorem k_230_27 (L : Nat) (xs : Nat → Int32) : ll_OK1 cX11_again RX11 (some .boolean) false ll_mN ll_mR ll_mK ll_cnt L xs false 27 (.inl (lo_bin 28 (fun x y => x * y))) := lk_imul (by decide +kernel)
theorem k_230_28 (L : Nat) (xs : Nat → Int32) : ll_OK1 cX11_again RX11 (some .boolean) false ll_mN ll_mR ll_mK ll_cnt L xs false 28 (.inl (lo_bin 29 (fun x y => x + y))) := lk_iadd (by decide +kernel)
theorem k_230_29 (L : Nat) (xs : Nat → Int32) : ll_OK1 cX11_again RX11 (some .boolean) false ll_mN ll_mR ll_mK ll_cnt L xs false 29 (.inl (lo_istore 30 2)) := lk_istore_n (k := 2) (by decide +kernel) rfl
theorem k_230_30 (L : Nat) (xs : Nat → Int32) : ll_OK1 cX11_again RX11 (some .boolean) false ll_mN ll_mR ll_mK ll_cnt L xs false 30 (.inl (lo_aload 31 0)) := lk_aload_n (k := 0) (by decide +kernel) rfl
theorem k_230_31 (L : Nat) (xs : Nat → Int32) : ll_OK1 cX11_again RX11 (some .boolean) false ll_mN ll_mR ll_mK ll_cnt L xs false 31 (.inl (lo_iload 32 2)) := lk_iload_n (k := 2) (by decide +kernel) rfl
theorem k_230_32 (L : Nat) (xs : Nat → Int32) : ll_OK1 cX11_again RX11 (some .boolean) false ll_mN ll_mR ll_mK ll_cnt L xs false 32 (.inl (lo_push 33 (.int 0))) := lk_iconst (n := 0) (by decide +kernel) (by decide)
theorem k_230_33 (L : Nat) (xs : Nat → Int32) : ll_OK1 cX11_again RX11 (some .boolean) false ll_mN ll_mR ll_mK ll_cnt L xs false 33 (.inl (lo_push 36 (.int 10689))) := lk_sipush (n := 10689) (by decide +kernel) (by decide)
theorem k_230_36 (L : Nat) (xs : Nat → Int32) : ll_OK1 cX11_again RX11 (some .boolean) false ll_mN ll_mR ll_mK ll_cnt L xs false 36 (.inr (.inl (152, 4, 39))) := ⟨rfl, by decide, by rw [mN_152, mK_152, mR_152]; exact lj_v 314 3 11 (RX11, TX11, 46) (by decide +kernel) tb_797 tb_798 tb_799 rfl rfl rfl rfl (by decide +kernel)⟩
theorem k_230_39 (L : Nat) (xs : Nat → Int32) : ll_OK1 cX11_again RX11 (some .boolean) false ll_mN ll_mR ll_mK ll_cnt L xs false 39 (.inl (lo_push 40 (.int 0))) := lk_iconst (n := 0) (by decide +kernel) (by decide)
theorem k_230_40 (L : Nat) (xs : Nat → Int32) : ll_OK1 cX11_again RX11 (some .boolean) false ll_mN ll_mR ll_mK ll_cnt L xs false 40 (.inl (lo_istore 41 3)) := lk_istore_n (k := 3) (by decide +kernel) rfl
theorem k_230_41 (L : Nat) (xs : Nat → Int32) : ll_OK1 cX11_again RX11 (some .boolean) false ll_mN ll_mR ll_mK ll_cnt L xs false 41 (.inl (lo_iload 42 3)) := lk_iload_n (k := 3) (by decide +kernel) rfl
theorem k_230_42 (L : Nat) (xs : Nat → Int32) : ll_OK1 cX11_again RX11 (some .boolean) false ll_mN ll_mR ll_mK ll_cnt L xs false 42 (.inl (lo_push 44 (.int 60))) := lk_bipush (n := 60) (by decide +kernel) (by decide)
theorem k_230_44 (L : Nat) (xs : Nat → Int32) : ll_OK1 cX11_again RX11 (some .boolean) false ll_mN ll_mR ll_mK ll_cnt L xs false 44 (.inl (lo_cmp 71 47 (fun x y => decide (y ≤ x)))) := lk_icmp_ge (off := 27) (by decide +kernel) rfl
theorem k_230_47 (L : Nat) (xs : Nat → Int32) : ll_OK1 cX11_again RX11 (some .boolean) false ll_mN ll_mR ll_mK ll_cnt L xs false 47 (.inl (lo_aload 48 0)) := lk_aload_n (k := 0) (by decide +kernel) rfl
theorem k_230_48 (L : Nat) (xs : Nat → Int32) : ll_OK1 cX11_again RX11 (some .boolean) false ll_mN ll_mR ll_mK ll_cnt L xs false 48 (.inl (lo_getf 51 11 1)) := lk_getf (ix := 14) (ci := 11) (k := 1) (C := RX11) (T := TX11) (N := 46) (by decide +kernel) rfl in_11 (by decide) tb_607
theorem k_230_51 (L : Nat) (xs : Nat → Int32) : ll_OK1 cX11_again RX11 (some .boolean) false ll_mN ll_mR ll_mK ll_cnt L xs false 51 (.inl (lo_iload 52 3)) := lk_iload_n (k := 3) (by decide +kernel) rfl
theorem k_230_52 (L : Nat) (xs : Nat → Int32) : ll_OK1 cX11_again RX11 (some .boolean) false ll_mN ll_mR ll_mK ll_cnt L xs false 52 (.inl (lo_aload 53 0)) := lk_aload_n (k := 0) (by decide +kernel) rfl
theorem k_230_53 (L : Nat) (xs : Nat → Int32) : ll_OK1 cX11_again RX11 (some .boolean) false ll_mN ll_mR ll_mK ll_cnt L xs false 53 (.inl (lo_getf 56 11 0)) := lk_getf (ix := 8) (ci := 11) (k := 0) (C := RX11) (T := TX11) (N := 46) (by decide +kernel) rfl in_11 (by decide) tb_606
theorem k_230_56 (L : Nat) (xs : Nat → Int32) : ll_OK1 cX11_again RX11 (some .boolean) false ll_mN ll_mR ll_mK ll_cnt L xs false 56 (.inl (lo_iload 57 2)) := lk_iload_n (k := 2) (by decide +kernel) rfl
theorem k_230_57 (L : Nat) (xs : Nat → Int32) : ll_OK1 cX11_again RX11 (some .boolean) false ll_mN ll_mR ll_mK ll_cnt L xs false 57 (.inl (lo_push 60 (.int 10689))) := lk_sipush (n := 10689) (by decide +kernel) (by decide)
theorem k_230_60 (L : Nat) (xs : Nat → Int32) : ll_OK1 cX11_again RX11 (some .boolean) false ll_mN ll_mR ll_mK ll_cnt L xs false 60 (.inl (lo_bin 61 (fun x y => x + y))) := lk_iadd (by decide +kernel)
theorem k_230_61 (L : Nat) (xs : Nat → Int32) : ll_OK1 cX11_again RX11 (some .boolean) false ll_mN ll_mR ll_mK ll_cnt L xs false 61 (.inl (lo_iload 62 3)) := lk_iload_n (k := 3) (by decide +kernel) rfl
theorem k_230_62 (L : Nat) (xs : Nat → Int32) : ll_OK1 cX11_again RX11 (some .boolean) false ll_mN ll_mR ll_mK ll_cnt L xs false 62 (.inl (lo_bin 63 (fun x y => x + y))) := lk_iadd (by decide +kernel)
theorem k_230_63 (L : Nat) (xs : Nat → Int32) : ll_OK1 cX11_again RX11 (some .boolean) false ll_mN ll_mR ll_mK ll_cnt L xs false 63 (.inl (lo_ald 64 0)) := lk_iald (by decide +kernel)
theorem k_230_64 (L : Nat) (xs : Nat → Int32) : ll_OK1 cX11_again RX11 (some .boolean) false ll_mN ll_mR ll_mK ll_cnt L xs false 64 (.inl (lo_ast 65 0)) := lk_iast (by decide +kernel)
theorem k_230_65 (L : Nat) (xs : Nat → Int32) : ll_OK1 cX11_again RX11 (some .boolean) false ll_mN ll_mR ll_mK ll_cnt L xs false 65 (.inl (lo_iinc 68 3 1)) := lk_iinc (n := 1) (by decide +kernel) (by decide)
theorem k_230_68 (L : Nat) (xs : Nat → Int32) : ll_OK1 cX11_again RX11 (some .boolean) false ll_mN ll_mR ll_mK ll_cnt L xs false 68 (.inl (lo_goto 41)) := lk_goto (off := (-27)) (by decide +kernel) rfl
theorem k_230_71 (L : Nat) (xs : Nat → Int32) : ll_OK1 cX11_again RX11 (some .boolean) false ll_mN ll_mR ll_mK ll_cnt L xs false 71 (.inl (lo_aload 72 0)) := lk_aload_n (k := 0) (by decide +kernel) rfl
theorem k_230_72 (L : Nat) (xs : Nat → Int32) : ll_OK1 cX11_again RX11 (some .boolean) false ll_mN ll_mR ll_mK ll_cnt L xs false 72 (.inl (lo_aload 73 0)) := lk_aload_n (k := 0) (by decide +kernel) rfl
theorem k_230_73 (L : Nat) (xs : Nat → Int32) : ll_OK1 cX11_again RX11 (some .boolean) false ll_mN ll_mR ll_mK ll_cnt L xs false 73 (.inl (lo_getf 76 11 0)) := lk_getf (ix := 8) (ci := 11) (k := 0) (C := RX11) (T := TX11) (N := 46) (by decide +kernel) rfl in_11 (by decide) tb_606
theorem k_230_76 (L : Nat) (xs : Nat → Int32) : ll_OK1 cX11_again RX11 (some .boolean) false ll_mN ll_mR ll_mK ll_cnt L xs false 76 (.inl (lo_iload 77 2)) := lk_iload_n (k := 2) (by decide +kernel) rfl
theorem k_230_77 (L : Nat) (xs : Nat → Int32) : ll_OK1 cX11_again RX11 (some .boolean) false ll_mN ll_mR ll_mK ll_cnt L xs false 77 (.inl (lo_push 80 (.int 10689))) := lk_sipush (n := 10689) (by decide +kernel) (by decide)
theorem k_230_80 (L : Nat) (xs : Nat → Int32) : ll_OK1 cX11_again RX11 (some .boolean) false ll_mN ll_mR ll_mK ll_cnt L xs false 80 (.inl (lo_bin 81 (fun x y => x + y))) := lk_iadd (by decide +kernel)
theorem k_230_81 (L : Nat) (xs : Nat → Int32) : ll_OK1 cX11_again RX11 (some .boolean) false ll_mN ll_mR ll_mK ll_cnt L xs false 81 (.inl (lo_push 83 (.int 60))) := lk_bipush (n := 60) (by decide +kernel) (by decide)
theorem k_230_83 (L : Nat) (xs : Nat → Int32) : ll_OK1 cX11_again RX11 (some .boolean) false ll_mN ll_mR ll_mK ll_cnt L xs false 83 (.inl (lo_bin 84 (fun x y => x + y))) := lk_iadd (by decide +kernel)
theorem k_230_84 (L : Nat) (xs : Nat → Int32) : ll_OK1 cX11_again RX11 (some .boolean) false ll_mN ll_mR ll_mK ll_cnt L xs false 84 (.inl (lo_ald 85 0)) := lk_iald (by decide +kernel)
theorem k_230_85 (L : Nat) (xs : Nat → Int32) : ll_OK1 cX11_again RX11 (some .boolean) false ll_mN ll_mR ll_mK ll_cnt L xs false 85 (.inl (lo_putf 88 11 3 0)) := lk_putf (ix := 279) (ci := 11) (k := 3) (C := RX11) (T := TX11) (N := 46) (ty0 := tyX11) (by decide +kernel) rfl in_11 tyX11_ok nmX11 (by decide) tb_772 (fun B adr v w h1 h2 => ll_fit_int (B := B) (adr := adr) h1 h2) (Or.inl rfl)
theorem k_230_88 (L : Nat) (xs : Nat → Int32) : ll_OK1 cX11_again RX11 (some .boolean) false ll_mN ll_mR ll_mK ll_cnt L xs false 88 (.inl (lo_aload 89 0)) := lk_aload_n (k := 0) (by decide +kernel) rfl
theorem k_230_89 (L : Nat) (xs : Nat → Int32) : ll_OK1 cX11_again RX11 (some .boolean) false ll_mN ll_mR ll_mK ll_cnt L xs false 89 (.inl (lo_aload 90 0)) := lk_aload_n (k := 0) (by decide +kernel) rfl
theorem k_230_90 (L : Nat) (xs : Nat → Int32) : ll_OK1 cX11_again RX11 (some .boolean) false ll_mN ll_mR ll_mK ll_cnt L xs false 90 (.inl (lo_getf 93 11 0)) := lk_getf (ix := 8) (ci := 11) (k := 0) (C := RX11) (T := TX11) (N := 46) (by decide +kernel) rfl in_11 (by decide) tb_606
theorem k_230_93 (L : Nat) (xs : Nat → Int32) : ll_OK1 cX11_again RX11 (some .boolean) false ll_mN ll_mR ll_mK ll_cnt L xs false 93 (.inl (lo_iload 94 2)) := lk_iload_n (k := 2) (by decide +kernel) rfl
theorem k_230_94 (L : Nat) (xs : Nat → Int32) : ll_OK1 cX11_again RX11 (some .boolean) false ll_mN ll_mR ll_mK ll_cnt L xs false 94 (.inl (lo_push 97 (.int 10689))) := lk_sipush (n := 10689) (by decide +kernel) (by decide)
theorem k_230_97 (L : Nat) (xs : Nat → Int32) : ll_OK1 cX11_again RX11 (some .boolean) false ll_mN ll_mR ll_mK ll_cnt L xs false 97 (.inl (lo_bin 98 (fun x y => x + y))) := lk_iadd (by decide +kernel)
theorem k_230_98 (L : Nat) (xs : Nat → Int32) : ll_OK1 cX11_again RX11 (some .boolean) false ll_mN ll_mR ll_mK ll_cnt L xs false 98 (.inl (lo_push 100 (.int 60))) := lk_bipush (n := 60) (by decide +kernel) (by decide)
theorem k_230_100 (L : Nat) (xs : Nat → Int32) : ll_OK1 cX11_again RX11 (some .boolean) false ll_mN ll_mR ll_mK ll_cnt L xs false 100 (.inl (lo_bin 101 (fun x y => x + y))) := lk_iadd (by decide +kernel)
theorem k_230_101 (L : Nat) (xs : Nat → Int32) : ll_OK1 cX11_again RX11 (some .boolean) false ll_mN ll_mR ll_mK ll_cnt L xs false 101 (.inl (lo_push 102 (.int 1))) := lk_iconst (n := 1) (by decide +kernel) (by decide)
theorem k_230_102 (L : Nat) (xs : Nat → Int32) : ll_OK1 cX11_again RX11 (some .boolean) false ll_mN ll_mR ll_mK ll_cnt L xs false 102 (.inl (lo_bin 103 (fun x y => x + y))) := lk_iadd (by decide +kernel)
theorem k_230_103 (L : Nat) (xs : Nat → Int32) : ll_OK1 cX11_again RX11 (some .boolean) false ll_mN ll_mR ll_mK ll_cnt L xs false 103 (.inl (lo_ald 104 0)) := lk_iald (by decide +kernel)
theorem k_230_104 (L : Nat) (xs : Nat → Int32) : ll_OK1 cX11_again RX11 (some .boolean) false ll_mN ll_mR ll_mK ll_cnt L xs false 104 (.inl (lo_putf 107 11 4 0)) := lk_putf (ix := 21) (ci := 11) (k := 4) (C := RX11) (T := TX11) (N := 46) (ty0 := tyX11) (by decide +kernel) rfl in_11 tyX11_ok nmX11 (by decide) tb_609 (fun B adr v w h1 h2 => ll_fit_int (B := B) (adr := adr) h1 h2) (Or.inl rfl)
theorem k_230_107 (L : Nat) (xs : Nat → Int32) : ll_OK1 cX11_again RX11 (some .boolean) false ll_mN ll_mR ll_mK ll_cnt L xs false 107 (.inl (lo_push 108 (.int 1))) := lk_iconst (n := 1) (by decide +kernel) (by decide)
theorem k_230_108 (L : Nat) (xs : Nat → Int32) : ll_OK1 cX11_again RX11 (some .boolean) false ll_mN ll_mR ll_mK ll_cnt L xs false 108 (.inr (.inr 2)) := ⟨(fun h => by cases h), (fun h => by cases h), fun _ => ⟨(by decide +kernel), rfl⟩⟩
theorem ok_230 (L : Nat) (xs : Nat → Int32) : ∀ q ∈ cd_230, ll_OK1 cX11_again RX11 (some .boolean) false ll_mN ll_mR ll_mK ll_cnt L xs false q.1 q.2 :=
  List.forall_mem_cons.mpr ⟨k_230_0 L xs, List.forall_mem_cons.mpr ⟨k_230_1 L xs, List.forall_mem_cons.mpr ⟨k_230_2 L xs, List.forall_mem_cons.mpr ⟨k_230_3 L xs, List.forall_mem_cons.mpr ⟨k_230_6 L xs, List.forall_mem_cons.mpr ⟨k_230_9 L xs, List.forall_mem_cons.mpr ⟨k_230_10 L xs, List.forall_mem_cons.mpr ⟨k_230_13 L xs, List.forall_mem_cons.mpr ⟨k_230_14 L xs, List.forall_mem_cons.mpr ⟨k_230_15 L xs, List.forall_mem_cons.mpr ⟨k_230_18 L xs, List.forall_mem_cons.mpr ⟨k_230_19 L xs, List.forall_mem_cons.mpr ⟨k_230_20 L xs, List.forall_mem_cons.mpr ⟨k_230_23 L xs, List.forall_mem_cons.mpr ⟨k_230_26 L xs, List.forall_mem_cons.mpr ⟨k_230_27 L xs, List.forall_mem_cons.mpr ⟨k_230_28 L xs, List.forall_mem_cons.mpr ⟨k_230_29 L xs, List.forall_mem_cons.mpr ⟨k_230_30 L xs, List.forall_mem_cons.mpr ⟨k_230_31 L xs, List.forall_mem_cons.mpr ⟨k_230_32 L xs, List.forall_mem_cons.mpr ⟨k_230_33 L xs, List.forall_mem_cons.mpr ⟨k_230_36 L xs, List.forall_mem_cons.mpr ⟨k_230_39 L xs, List.forall_mem_cons.mpr ⟨k_230_40 L xs, List.forall_mem_cons.mpr ⟨k_230_41 L xs, List.forall_mem_cons.mpr ⟨k_230_42 L xs, List.forall_mem_cons.mpr ⟨k_230_44 L xs, List.forall_mem_cons.mpr ⟨k_230_47 L xs, List.forall_mem_cons.mpr ⟨k_230_48 L xs, List.forall_mem_cons.mpr ⟨k_230_51 L xs, List.forall_mem_cons.mpr ⟨k_230_52 L xs, List.forall_mem_cons.mpr ⟨k_230_53 L xs, List.forall_mem_cons.mpr ⟨k_230_56 L xs, List.forall_mem_cons.mpr ⟨k_230_57 L xs, List.forall_mem_cons.mpr ⟨k_230_60 L xs, List.forall_mem_cons.mpr ⟨k_230_61 L xs, List.forall_mem_cons.mpr ⟨k_230_62 L xs, List.forall_mem_cons.mpr ⟨k_230_63 L xs, List.forall_mem_cons.mpr ⟨k_230_64 L xs, List.forall_mem_cons.mpr ⟨k_230_65 L xs, List.forall_mem_cons.mpr ⟨k_230_68 L xs, List.forall_mem_cons.mpr ⟨k_230_71 L xs, List.forall_mem_cons.mpr ⟨k_230_72 L xs, List.forall_mem_cons.mpr ⟨k_230_73 L xs, List.forall_mem_cons.mpr ⟨k_230_76 L xs, List.forall_mem_cons.mpr ⟨k_230_77 L xs, List.forall_mem_cons.mpr ⟨k_230_80 L xs, List.forall_mem_cons.mpr ⟨k_230_81 L xs, List.forall_mem_cons.mpr ⟨k_230_83 L xs, List.forall_mem_cons.mpr ⟨k_230_84 L xs, List.forall_mem_cons.mpr ⟨k_230_85 L xs, List.forall_mem_cons.mpr ⟨k_230_88 L xs, List.forall_mem_cons.mpr ⟨k_230_89 L xs, List.forall_mem_cons.mpr ⟨k_230_90 L xs, List.forall_mem_cons.mpr ⟨k_230_93 L xs, List.forall_mem_cons.mpr ⟨k_230_94 L xs, List.forall_mem_cons.mpr ⟨k_230_97 L xs, List.forall_mem_cons.mpr ⟨k_230_98 L xs, List.forall_mem_cons.mpr ⟨k_230_100 L xs, List.forall_mem_cons.mpr ⟨k_230_101 L xs, List.forall_mem_cons.mpr ⟨k_230_102 L xs, List.forall_mem_cons.mpr ⟨k_230_103 L xs, List.forall_mem_cons.mpr ⟨k_230_104 L xs, List.forall_mem_cons.mpr ⟨k_230_107 L xs, List.forall_mem_cons.mpr ⟨k_230_108 L xs, fun _ h => absurd h List.not_mem_nil⟩⟩⟩⟩⟩⟩⟩⟩⟩⟩⟩⟩⟩⟩⟩⟩⟩⟩⟩⟩⟩⟩⟩⟩⟩⟩⟩⟩⟩⟩⟩⟩⟩⟩⟩⟩⟩⟩⟩⟩⟩⟩⟩⟩⟩⟩⟩⟩⟩⟩⟩⟩⟩⟩⟩⟩⟩⟩⟩⟩⟩⟩⟩⟩⟩⟩
/-- java/util/Arrays.fill.([II)V -/
def cd_231 : List (Nat × ll_O) := [
  (0, .inl (lo_push 1 (.int 0))),
  (1, .inl (lo_istore 2 2)),
  (2, .inl (lo_aload 3 0)),
  (3, .inl (lo_alen 4)),
  (4, .inl (lo_istore 5 3)),
  (5, .inl (lo_iload 6 2)),
  (6, .inl (lo_iload 7 3)),
  (7, .inl (lo_cmp 20 10 (fun x y => decide (y ≤ x)))),
  (10, .inl (lo_aload 11 0)),
  (11, .inl (lo_iload 12 2)),
  (12, .inl (lo_iload 13 1)),
  (13, .inl (lo_ast 14 0)),
  (14, .inl (lo_iinc 17 2 1)),
  (17, .inl (lo_goto 5)),
  (20, .inr (.inr 0))]
theorem k_231_0 (L : Nat) (xs : Nat → Int32) : ll_OK1 cJ7_fill_53178 RJ7 none false ll_mN ll_mR ll_mK ll_cnt L xs false 0 (.inl (lo_push 1 (.int 0))) := lk_iconst (n := 0) (by decide +kernel) (by decide)
theorem k_231_1 (L : Nat) (xs : Nat → Int32) : ll_OK1 cJ7_fill_53178 RJ7 none false ll_mN ll_mR ll_mK ll_cnt L xs false 1 (.inl (lo_istore 2 2)) := lk_istore_n (k := 2) (by decide +kernel) rfl
theorem k_231_2 (L : Nat) (xs : Nat → Int32) : ll_OK1 cJ7_fill_53178 RJ7 none false ll_mN ll_mR ll_mK ll_cnt L xs false 2 (.inl (lo_aload 3 0)) := lk_aload_n (k := 0) (by decide +kernel) rfl
theorem k_231_3 (L : Nat) (xs : Nat → Int32) : ll_OK1 cJ7_fill_53178 RJ7 none false ll_mN ll_mR ll_mK ll_cnt L xs false 3 (.inl (lo_alen 4)) := lk_alen (by decide +kernel)
theorem k_231_4 (L : Nat) (xs : Nat → Int32) : ll_OK1 cJ7_fill_53178 RJ7 none false ll_mN ll_mR ll_mK ll_cnt L xs false 4 (.inl (lo_istore 5 3)) := lk_istore_n (k := 3) (by decide +kernel) rfl
theorem k_231_5 (L : Nat) (xs : Nat → Int32) : ll_OK1 cJ7_fill_53178 RJ7 none false ll_mN ll_mR ll_mK ll_cnt L xs false 5 (.inl (lo_iload 6 2)) := lk_iload_n (k := 2) (by decide +kernel) rfl
theorem k_231_6 (L : Nat) (xs : Nat → Int32) : ll_OK1 cJ7_fill_53178 RJ7 none false ll_mN ll_mR ll_mK ll_cnt L xs false 6 (.inl (lo_iload 7 3)) := lk_iload_n (k := 3) (by decide +kernel) rfl
theorem k_231_7 (L : Nat) (xs : Nat → Int32) : ll_OK1 cJ7_fill_53178 RJ7 none false ll_mN ll_mR ll_mK ll_cnt L xs false 7 (.inl (lo_cmp 20 10 (fun x y => decide (y ≤ x)))) := lk_icmp_ge (off := 13) (by decide +kernel) rfl
theorem k_231_10 (L : Nat) (xs : Nat → Int32) : ll_OK1 cJ7_fill_53178 RJ7 none false ll_mN ll_mR ll_mK ll_cnt L xs false 10 (.inl (lo_aload 11 0)) := lk_aload_n (k := 0) (by decide +kernel) rfl
theorem k_231_11 (L : Nat) (xs : Nat → Int32) : ll_OK1 cJ7_fill_53178 RJ7 none false ll_mN ll_mR ll_mK ll_cnt L xs false 11 (.inl (lo_iload 12 2)) := lk_iload_n (k := 2) (by decide +kernel) rfl
theorem k_231_12 (L : Nat) (xs : Nat → Int32) : ll_OK1 cJ7_fill_53178 RJ7 none false ll_mN ll_mR ll_mK ll_cnt L xs false 12 (.inl (lo_iload 13 1)) := lk_iload_n (k := 1) (by decide +kernel) rfl
theorem k_231_13 (L : Nat) (xs : Nat → Int32) : ll_OK1 cJ7_fill_53178 RJ7 none false ll_mN ll_mR ll_mK ll_cnt L xs false 13 (.inl (lo_ast 14 0)) := lk_iast (by decide +kernel)
theorem k_231_14 (L : Nat) (xs : Nat → Int32) : ll_OK1 cJ7_fill_53178 RJ7 none false ll_mN ll_mR ll_mK ll_cnt L xs false 14 (.inl (lo_iinc 17 2 1)) := lk_iinc (n := 1) (by decide +kernel) (by decide)
theorem k_231_17 (L : Nat) (xs : Nat → Int32) : ll_OK1 cJ7_fill_53178 RJ7 none false ll_mN ll_mR ll_mK ll_cnt L xs false 17 (.inl (lo_goto 5)) := lk_goto (off := (-12)) (by decide +kernel) rfl
theorem k_231_20 (L : Nat) (xs : Nat → Int32) : ll_OK1 cJ7_fill_53178 RJ7 none false ll_mN ll_mR ll_mK ll_cnt L xs false 20 (.inr (.inr 0)) := ⟨fun _ => ⟨(by decide +kernel), rfl⟩, (fun h => by cases h), fun h => by cases h⟩
theorem ok_231 (L : Nat) (xs : Nat → Int32) : ∀ q ∈ cd_231, ll_OK1 cJ7_fill_53178 RJ7 none false ll_mN ll_mR ll_mK ll_cnt L xs false q.1 q.2 :=
  List.forall_mem_cons.mpr ⟨k_231_0 L xs, List.forall_mem_cons.mpr ⟨k_231_1 L xs, List.forall_mem_cons.mpr ⟨k_231_2 L xs, List.forall_mem_cons.mpr ⟨k_231_3 L xs, List.forall_mem_cons.mpr ⟨k_231_4 L xs, List.forall_mem_cons.mpr ⟨k_231_5 L xs, List.forall_mem_cons.mpr ⟨k_231_6 L xs, List.forall_mem_cons.mpr ⟨k_231_7 L xs, List.forall_mem_cons.mpr ⟨k_231_10 L xs, List.forall_mem_cons.mpr ⟨k_231_11 L xs, List.forall_mem_cons.mpr ⟨k_231_12 L xs, List.forall_mem_cons.mpr ⟨k_231_13 L xs, List.forall_mem_cons.mpr ⟨k_231_14 L xs, List.forall_mem_cons.mpr ⟨k_231_17 L xs, List.forall_mem_cons.mpr ⟨k_231_20 L xs, fun _ h => absurd h List.not_mem_nil⟩⟩⟩⟩⟩⟩⟩⟩⟩⟩⟩⟩⟩⟩⟩
/-- InclusionProverLaw.law.([I)Z -/
def cd_232 (L : Nat) (xs : Nat → Int32) : List (Nat × ll_O) := [
  (0, .inl (lo_new 3 10 11 [.null, .null, .null, .null, .null, .null, .null, .null, .null, .null, .null])),
  (3, .inl (lo_dup 4)),
  (4, .inr (.inl (113, 1, 7))),
  (7, .inl (lo_astore 8 1)),
  (8, .inl (lo_new 11 11 46 [.null, .null, .null, .int 0, .int 0, .null, .null, .null, .null, .null, .null, .null, .int 0, .int 0, .null, .null, .null, .int 0, .null, .int 0, .null, .null, .null, .null, .null, .int 0, .int 0, .null, .null, .int 0, .int 0, .null, .null, .int 0, .null, .null, .null, .null, .null, .null, .null, .null, .int 0, .int 0, .int 0, .null])),
  (11, .inl (lo_dup 12)),
  (12, .inr (.inl (149, 1, 15))),
  (15, .inl (lo_astore 16 2)),
  (16, .inl (lo_push 17 (.int 0))),
  (17, .inl (lo_istore 18 3)),
  (18, .inl (lo_iload 19 3)),
  (19, .inl (lo_aload 20 0)),
  (20, .inl (lo_slen 21 L)),
  (21, .inl (lo_push 22 (.int 5))),
  (22, .inl (lo_bin 23 (fun x y => x - y))),
  (23, .inl (lo_cmp 820 26 (fun x y => decide (y < x)))),
  (26, .inl (lo_aload 27 0)),
  (27, .inl (lo_iload 28 3)),
  (28, .inl (lo_sld 29 L xs)),
  (29, .inl (lo_push 31 (.int 31))),
  (31, .inl (lo_bin 32 (fun x y => x &&& y))),
  (32, .inl (lo_tab 0 [144, 197, 220, 233, 244, 277, 330, 363, 406, 439, 462, 495, 538, 551, 574, 597, 630, 673, 686, 699, 722, 735, 768, 791] 814)),
  (144, .inl (lo_aload 145 1)),
  (145, .inl (lo_aload 146 0)),
  (146, .inl (lo_iload 147 3)),
  (147, .inl (lo_push 148 (.int 1))),
  (148, .inl (lo_bin 149 (fun x y => x + y))),
  (149, .inl (lo_sld 150 L xs)),
  (150, .inl (lo_i2l 151)),
  (151, .inl (lo_push 153 (.int 32))),
  (153, .inl (lo_lsh 154 (fun x y => x <<< (y.toInt64 &&& 63)))),
  (154, .inl (lo_aload 155 0)),
  (155, .inl (lo_iload 156 3)),
  (156, .inl (lo_push 157 (.int 2))),
  (157, .inl (lo_bin 158 (fun x y => x + y))),
  (158, .inl (lo_sld 159 L xs)),
  (159, .inl (lo_i2l 160)),
  (160, .inl (lo_push 163 (.long 4294967295))),
  (163, .inl (lo_lbin 164 (fun x y => x &&& y))),
  (164, .inl (lo_lbin 165 (fun x y => x ||| y))),
  (165, .inr (.inl (114, 2, 168))),
  (168, .inl (lo_aload 169 2)),
  (169, .inl (lo_aload 170 0)),
  (170, .inl (lo_iload 171 3)),
  (171, .inl (lo_push 172 (.int 1))),
  (172, .inl (lo_bin 173 (fun x y => x + y))),
  (173, .inl (lo_sld 174 L xs)),
  (174, .inl (lo_i2l 175)),
  (175, .inl (lo_push 177 (.int 32))),
  (177, .inl (lo_lsh 178 (fun x y => x <<< (y.toInt64 &&& 63)))),
  (178, .inl (lo_aload 179 0)),
  (179, .inl (lo_iload 180 3)),
  (180, .inl (lo_push 181 (.int 2))),
  (181, .inl (lo_bin 182 (fun x y => x + y))),
  (182, .inl (lo_sld 183 L xs)),
  (183, .inl (lo_i2l 184)),
  (184, .inl (lo_push 187 (.long 4294967295))),
  (187, .inl (lo_lbin 188 (fun x y => x &&& y))),
  (188, .inl (lo_lbin 189 (fun x y => x ||| y))),
  (189, .inr (.inl (208, 2, 192))),
  (192, .inl (lo_cmp 814 195 (fun x y => decide (x = y)))),
  (195, .inl (lo_push 196 (.int 0))),
  (196, .inr (.inr 2)),
  (197, .inl (lo_aload 198 1)),
  (198, .inl (lo_aload 199 0)),
  (199, .inl (lo_iload 200 3)),
  (200, .inl (lo_push 201 (.int 1))),
  (201, .inl (lo_bin 202 (fun x y => x + y))),
  (202, .inl (lo_sld 203 L xs)),
  (203, .inr (.inl (115, 2, 206))),
  (206, .inl (lo_aload 207 2)),
  (207, .inl (lo_aload 208 0)),
  (208, .inl (lo_iload 209 3)),
  (209, .inl (lo_push 210 (.int 1))),
  (210, .inl (lo_bin 211 (fun x y => x + y))),
  (211, .inl (lo_sld 212 L xs)),
  (212, .inr (.inl (211, 2, 215))),
  (215, .inl (lo_cmp 814 218 (fun x y => decide (x = y)))),
  (218, .inl (lo_push 219 (.int 0))),
  (219, .inr (.inr 2)),
  (220, .inl (lo_aload 221 1)),
  (221, .inr (.inl (116, 1, 224))),
  (224, .inl (lo_aload 225 2)),
  (225, .inr (.inl (212, 1, 228))),
  (228, .inl (lo_cmp 814 231 (fun x y => decide (x = y)))),
  (231, .inl (lo_push 232 (.int 0))),
  (232, .inr (.inr 2)),
  (233, .inl (lo_aload 234 1)),
  (234, .inr (.inl (117, 1, 237))),
  (237, .inl (lo_aload 238 2)),
  (238, .inr (.inl (213, 1, 241))),
  (241, .inl (lo_goto 814)),
  (244, .inl (lo_aload 245 1)),
  (245, .inl (lo_aload 246 0)),
  (246, .inl (lo_iload 247 3)),
  (247, .inl (lo_push 248 (.int 1))),
  (248, .inl (lo_bin 249 (fun x y => x + y))),
  (249, .inl (lo_sld 250 L xs)),
  (250, .inl (lo_aload 251 0)),
  (251, .inl (lo_iload 252 3)),
  (252, .inl (lo_push 253 (.int 2))),
  (253, .inl (lo_bin 254 (fun x y => x + y))),
  (254, .inl (lo_sld 255 L xs)),
  (255, .inr (.inl (118, 3, 258))),
  (258, .inl (lo_aload 259 2)),
  (259, .inl (lo_aload 260 0)),
  (260, .inl (lo_iload 261 3)),
  (261, .inl (lo_push 262 (.int 1))),
  (262, .inl (lo_bin 263 (fun x y => x + y))),
  (263, .inl (lo_sld 264 L xs)),
  (264, .inl (lo_aload 265 0)),
  (265, .inl (lo_iload 266 3)),
  (266, .inl (lo_push 267 (.int 2))),
  (267, .inl (lo_bin 268 (fun x y => x + y))),
  (268, .inl (lo_sld 269 L xs)),
  (269, .inr (.inl (214, 3, 272))),
  (272, .inl (lo_cmp 814 275 (fun x y => decide (x = y)))),
  (275, .inl (lo_push 276 (.int 0))),
  (276, .inr (.inr 2)),
  (277, .inl (lo_aload 278 1)),
  (278, .inl (lo_aload 279 0)),
  (279, .inl (lo_iload 280 3)),
  (280, .inl (lo_push 281 (.int 1))),
  (281, .inl (lo_bin 282 (fun x y => x + y))),
  (282, .inl (lo_sld 283 L xs)),
  (283, .inl (lo_aload 284 0)),
  (284, .inl (lo_iload 285 3)),
  (285, .inl (lo_push 286 (.int 2))),
  (286, .inl (lo_bin 287 (fun x y => x + y))),
  (287, .inl (lo_sld 288 L xs)),
  (288, .inl (lo_aload 289 0)),
  (289, .inl (lo_iload 290 3)),
  (290, .inl (lo_push 291 (.int 3))),
  (291, .inl (lo_bin 292 (fun x y => x + y))),
  (292, .inl (lo_sld 293 L xs)),
  (293, .inl (lo_aload 294 0)),
  (294, .inl (lo_iload 295 3)),
  (295, .inl (lo_push 296 (.int 4))),
  (296, .inl (lo_bin 297 (fun x y => x + y))),
  (297, .inl (lo_sld 298 L xs)),
  (298, .inr (.inl (119, 5, 301))),
  (301, .inl (lo_aload 302 2)),
  (302, .inl (lo_aload 303 0)),
  (303, .inl (lo_iload 304 3)),
  (304, .inl (lo_push 305 (.int 1))),
  (305, .inl (lo_bin 306 (fun x y => x + y))),
  (306, .inl (lo_sld 307 L xs)),
  (307, .inl (lo_aload 308 0)),
  (308, .inl (lo_iload 309 3)),
  (309, .inl (lo_push 310 (.int 2))),
  (310, .inl (lo_bin 311 (fun x y => x + y))),
  (311, .inl (lo_sld 312 L xs)),
  (312, .inl (lo_aload 313 0)),
  (313, .inl (lo_iload 314 3)),
  (314, .inl (lo_push 315 (.int 3))),
  (315, .inl (lo_bin 316 (fun x y => x + y))),
  (316, .inl (lo_sld 317 L xs)),
  (317, .inl (lo_aload 318 0)),
  (318, .inl (lo_iload 319 3)),
  (319, .inl (lo_push 320 (.int 4))),
  (320, .inl (lo_bin 321 (fun x y => x + y))),
  (321, .inl (lo_sld 322 L xs)),
  (322, .inr (.inl (215, 5, 325))),
  (325, .inl (lo_cmp 814 328 (fun x y => decide (x = y)))),
  (328, .inl (lo_push 329 (.int 0))),
  (329, .inr (.inr 2)),
  (330, .inl (lo_aload 331 1)),
  (331, .inl (lo_aload 332 0)),
  (332, .inl (lo_iload 333 3)),
  (333, .inl (lo_push 334 (.int 1))),
  (334, .inl (lo_bin 335 (fun x y => x + y))),
  (335, .inl (lo_sld 336 L xs)),
  (336, .inl (lo_aload 337 0)),
  (337, .inl (lo_iload 338 3)),
  (338, .inl (lo_push 339 (.int 2))),
  (339, .inl (lo_bin 340 (fun x y => x + y))),
  (340, .inl (lo_sld 341 L xs)),
  (341, .inr (.inl (120, 3, 344))),
  (344, .inl (lo_aload 345 2)),
  (345, .inl (lo_aload 346 0)),
  (346, .inl (lo_iload 347 3)),
  (347, .inl (lo_push 348 (.int 1))),
  (348, .inl (lo_bin 349 (fun x y => x + y))),
  (349, .inl (lo_sld 350 L xs)),
  (350, .inl (lo_aload 351 0)),
  (351, .inl (lo_iload 352 3)),
  (352, .inl (lo_push 353 (.int 2))),
  (353, .inl (lo_bin 354 (fun x y => x + y))),
  (354, .inl (lo_sld 355 L xs)),
  (355, .inr (.inl (218, 3, 358))),
  (358, .inl (lo_cmp 814 361 (fun x y => decide (x = y)))),
  (361, .inl (lo_push 362 (.int 0))),
  (362, .inr (.inr 2)),
  (363, .inl (lo_aload 364 1)),
  (364, .inl (lo_aload 365 0)),
  (365, .inl (lo_iload 366 3)),
  (366, .inl (lo_push 367 (.int 1))),
  (367, .inl (lo_bin 368 (fun x y => x + y))),
  (368, .inl (lo_sld 369 L xs)),
  (369, .inl (lo_aload 370 0)),
  (370, .inl (lo_iload 371 3)),
  (371, .inl (lo_push 372 (.int 2))),
  (372, .inl (lo_bin 373 (fun x y => x + y))),
  (373, .inl (lo_sld 374 L xs)),
  (374, .inl (lo_aload 375 0)),
  (375, .inl (lo_iload 376 3)),
  (376, .inl (lo_push 377 (.int 3))),
  (377, .inl (lo_bin 378 (fun x y => x + y))),
  (378, .inl (lo_sld 379 L xs)),
  (379, .inr (.inl (121, 4, 382))),
  (382, .inl (lo_aload 383 2)),
  (383, .inl (lo_aload 384 0)),
  (384, .inl (lo_iload 385 3)),
  (385, .inl (lo_push 386 (.int 1))),
  (386, .inl (lo_bin 387 (fun x y => x + y))),
  (387, .inl (lo_sld 388 L xs)),
  (388, .inl (lo_aload 389 0)),
  (389, .inl (lo_iload 390 3)),
  (390, .inl (lo_push 391 (.int 2))),
  (391, .inl (lo_bin 392 (fun x y => x + y))),
  (392, .inl (lo_sld 393 L xs)),
  (393, .inl (lo_aload 394 0)),
  (394, .inl (lo_iload 395 3)),
  (395, .inl (lo_push 396 (.int 3))),
  (396, .inl (lo_bin 397 (fun x y => x + y))),
  (397, .inl (lo_sld 398 L xs)),
  (398, .inr (.inl (219, 4, 401))),
  (401, .inl (lo_cmp 814 404 (fun x y => decide (x = y)))),
  (404, .inl (lo_push 405 (.int 0))),
  (405, .inr (.inr 2)),
  (406, .inl (lo_aload 407 1)),
  (407, .inl (lo_aload 408 0)),
  (408, .inl (lo_iload 409 3)),
  (409, .inl (lo_push 410 (.int 1))),
  (410, .inl (lo_bin 411 (fun x y => x + y))),
  (411, .inl (lo_sld 412 L xs)),
  (412, .inl (lo_aload 413 0)),
  (413, .inl (lo_iload 414 3)),
  (414, .inl (lo_push 415 (.int 2))),
  (415, .inl (lo_bin 416 (fun x y => x + y))),
  (416, .inl (lo_sld 417 L xs)),
  (417, .inr (.inl (122, 3, 420))),
  (420, .inl (lo_aload 421 2)),
  (421, .inl (lo_aload 422 0)),
  (422, .inl (lo_iload 423 3)),
  (423, .inl (lo_push 424 (.int 1))),
  (424, .inl (lo_bin 425 (fun x y => x + y))),
  (425, .inl (lo_sld 426 L xs)),
  (426, .inl (lo_aload 427 0)),
  (427, .inl (lo_iload 428 3)),
  (428, .inl (lo_push 429 (.int 2))),
  (429, .inl (lo_bin 430 (fun x y => x + y))),
  (430, .inl (lo_sld 431 L xs)),
  (431, .inr (.inl (220, 3, 434))),
  (434, .inl (lo_cmp 814 437 (fun x y => decide (x = y)))),
  (437, .inl (lo_push 438 (.int 0))),
  (438, .inr (.inr 2)),
  (439, .inl (lo_aload 440 1)),
  (440, .inl (lo_aload 441 0)),
  (441, .inl (lo_iload 442 3)),
  (442, .inl (lo_push 443 (.int 1))),
  (443, .inl (lo_bin 444 (fun x y => x + y))),
  (444, .inl (lo_sld 445 L xs)),
  (445, .inr (.inl (123, 2, 448))),
  (448, .inl (lo_aload 449 2)),
  (449, .inl (lo_aload 450 0)),
  (450, .inl (lo_iload 451 3)),
  (451, .inl (lo_push 452 (.int 1))),
  (452, .inl (lo_bin 453 (fun x y => x + y))),
  (453, .inl (lo_sld 454 L xs)),
  (454, .inr (.inl (221, 2, 457))),
  (457, .inl (lo_cmp 814 460 (fun x y => decide (x = y)))),
  (460, .inl (lo_push 461 (.int 0))),
  (461, .inr (.inr 2)),
  (462, .inl (lo_aload 463 1)),
  (463, .inl (lo_aload 464 0)),
  (464, .inl (lo_iload 465 3)),
  (465, .inl (lo_push 466 (.int 1))),
  (466, .inl (lo_bin 467 (fun x y => x + y))),
  (467, .inl (lo_sld 468 L xs)),
  (468, .inl (lo_aload 469 0)),
  (469, .inl (lo_iload 470 3)),
  (470, .inl (lo_push 471 (.int 2))),
  (471, .inl (lo_bin 472 (fun x y => x + y))),
  (472, .inl (lo_sld 473 L xs)),
  (473, .inr (.inl (124, 3, 476))),
  (476, .inl (lo_aload 477 2)),
  (477, .inl (lo_aload 478 0)),
  (478, .inl (lo_iload 479 3)),
  (479, .inl (lo_push 480 (.int 1))),
  (480, .inl (lo_bin 481 (fun x y => x + y))),
  (481, .inl (lo_sld 482 L xs)),
  (482, .inl (lo_aload 483 0)),
  (483, .inl (lo_iload 484 3)),
  (484, .inl (lo_push 485 (.int 2))),
  (485, .inl (lo_bin 486 (fun x y => x + y))),
  (486, .inl (lo_sld 487 L xs)),
  (487, .inr (.inl (227, 3, 490))),
  (490, .inl (lo_cmp 814 493 (fun x y => decide (x = y)))),
  (493, .inl (lo_push 494 (.int 0))),
  (494, .inr (.inr 2)),
  (495, .inl (lo_aload 496 1)),
  (496, .inl (lo_aload 497 0)),
  (497, .inl (lo_iload 498 3)),
  (498, .inl (lo_push 499 (.int 1))),
  (499, .inl (lo_bin 500 (fun x y => x + y))),
  (500, .inl (lo_sld 501 L xs)),
  (501, .inl (lo_aload 502 0)),
  (502, .inl (lo_iload 503 3)),
  (503, .inl (lo_push 504 (.int 2))),
  (504, .inl (lo_bin 505 (fun x y => x + y))),
  (505, .inl (lo_sld 506 L xs)),
  (506, .inl (lo_aload 507 0)),
  (507, .inl (lo_iload 508 3)),
  (508, .inl (lo_push 509 (.int 3))),
  (509, .inl (lo_bin 510 (fun x y => x + y))),
  (510, .inl (lo_sld 511 L xs)),
  (511, .inr (.inl (125, 4, 514))),
  (514, .inl (lo_aload 515 2)),
  (515, .inl (lo_aload 516 0)),
  (516, .inl (lo_iload 517 3)),
  (517, .inl (lo_push 518 (.int 1))),
  (518, .inl (lo_bin 519 (fun x y => x + y))),
  (519, .inl (lo_sld 520 L xs)),
  (520, .inl (lo_aload 521 0)),
  (521, .inl (lo_iload 522 3)),
  (522, .inl (lo_push 523 (.int 2))),
  (523, .inl (lo_bin 524 (fun x y => x + y))),
  (524, .inl (lo_sld 525 L xs)),
  (525, .inl (lo_aload 526 0)),
  (526, .inl (lo_iload 527 3)),
  (527, .inl (lo_push 528 (.int 3))),
  (528, .inl (lo_bin 529 (fun x y => x + y))),
  (529, .inl (lo_sld 530 L xs)),
  (530, .inr (.inl (228, 4, 533))),
  (533, .inl (lo_cmp 814 536 (fun x y => decide (x = y)))),
  (536, .inl (lo_push 537 (.int 0))),
  (537, .inr (.inr 2)),
  (538, .inl (lo_aload 539 1)),
  (539, .inr (.inl (126, 1, 542))),
  (542, .inl (lo_aload 543 2)),
  (543, .inr (.inl (191, 1, 546))),
  (546, .inl (lo_cmp 814 549 (fun x y => decide (x = y)))),
  (549, .inl (lo_push 550 (.int 0))),
  (550, .inr (.inr 2)),
  (551, .inl (lo_aload 552 1)),
  (552, .inl (lo_aload 553 0)),
  (553, .inl (lo_iload 554 3)),
  (554, .inl (lo_push 555 (.int 1))),
  (555, .inl (lo_bin 556 (fun x y => x + y))),
  (556, .inl (lo_sld 557 L xs)),
  (557, .inr (.inl (127, 2, 560))),
  (560, .inl (lo_aload 561 2)),
  (561, .inl (lo_aload 562 0)),
  (562, .inl (lo_iload 563 3)),
  (563, .inl (lo_push 564 (.int 1))),
  (564, .inl (lo_bin 565 (fun x y => x + y))),
  (565, .inl (lo_sld 566 L xs)),
  (566, .inr (.inl (196, 2, 569))),
  (569, .inl (lo_cmp 814 572 (fun x y => decide (x = y)))),
  (572, .inl (lo_push 573 (.int 0))),
  (573, .inr (.inr 2)),
  (574, .inl (lo_aload 575 1)),
  (575, .inl (lo_aload 576 0)),
  (576, .inl (lo_iload 577 3)),
  (577, .inl (lo_push 578 (.int 1))),
  (578, .inl (lo_bin 579 (fun x y => x + y))),
  (579, .inl (lo_sld 580 L xs)),
  (580, .inr (.inl (128, 2, 583))),
  (583, .inl (lo_aload 584 2)),
  (584, .inl (lo_aload 585 0)),
  (585, .inl (lo_iload 586 3)),
  (586, .inl (lo_push 587 (.int 1))),
  (587, .inl (lo_bin 588 (fun x y => x + y))),
  (588, .inl (lo_sld 589 L xs)),
  (589, .inr (.inl (202, 2, 592))),
  (592, .inl (lo_cmp 814 595 (fun x y => decide (x = y)))),
  (595, .inl (lo_push 596 (.int 0))),
  (596, .inr (.inr 2)),
  (597, .inl (lo_aload 598 1)),
  (598, .inl (lo_aload 599 0)),
  (599, .inl (lo_iload 600 3)),
  (600, .inl (lo_push 601 (.int 1))),
  (601, .inl (lo_bin 602 (fun x y => x + y))),
  (602, .inl (lo_sld 603 L xs)),
  (603, .inl (lo_aload 604 0)),
  (604, .inl (lo_iload 605 3)),
  (605, .inl (lo_push 606 (.int 2))),
  (606, .inl (lo_bin 607 (fun x y => x + y))),
  (607, .inl (lo_sld 608 L xs)),
  (608, .inr (.inl (129, 3, 611))),
  (611, .inl (lo_aload 612 2)),
  (612, .inl (lo_aload 613 0)),
  (613, .inl (lo_iload 614 3)),
  (614, .inl (lo_push 615 (.int 1))),
  (615, .inl (lo_bin 616 (fun x y => x + y))),
  (616, .inl (lo_sld 617 L xs)),
  (617, .inl (lo_aload 618 0)),
  (618, .inl (lo_iload 619 3)),
  (619, .inl (lo_push 620 (.int 2))),
  (620, .inl (lo_bin 621 (fun x y => x + y))),
  (621, .inl (lo_sld 622 L xs)),
  (622, .inr (.inl (197, 3, 625))),
  (625, .inl (lo_cmp 814 628 (fun x y => decide (x = y)))),
  (628, .inl (lo_push 629 (.int 0))),
  (629, .inr (.inr 2)),
  (630, .inl (lo_aload 631 1)),
  (631, .inl (lo_aload 632 0)),
  (632, .inl (lo_iload 633 3)),
  (633, .inl (lo_push 634 (.int 1))),
  (634, .inl (lo_bin 635 (fun x y => x + y))),
  (635, .inl (lo_sld 636 L xs)),
  (636, .inl (lo_aload 637 0)),
  (637, .inl (lo_iload 638 3)),
  (638, .inl (lo_push 639 (.int 2))),
  (639, .inl (lo_bin 640 (fun x y => x + y))),
  (640, .inl (lo_sld 641 L xs)),
  (641, .inl (lo_aload 642 0)),
  (642, .inl (lo_iload 643 3)),
  (643, .inl (lo_push 644 (.int 3))),
  (644, .inl (lo_bin 645 (fun x y => x + y))),
  (645, .inl (lo_sld 646 L xs)),
  (646, .inr (.inl (130, 4, 649))),
  (649, .inl (lo_aload 650 2)),
  (650, .inl (lo_aload 651 0)),
  (651, .inl (lo_iload 652 3)),
  (652, .inl (lo_push 653 (.int 1))),
  (653, .inl (lo_bin 654 (fun x y => x + y))),
  (654, .inl (lo_sld 655 L xs)),
  (655, .inl (lo_aload 656 0)),
  (656, .inl (lo_iload 657 3)),
  (657, .inl (lo_push 658 (.int 2))),
  (658, .inl (lo_bin 659 (fun x y => x + y))),
  (659, .inl (lo_sld 660 L xs)),
  (660, .inl (lo_aload 661 0)),
  (661, .inl (lo_iload 662 3)),
  (662, .inl (lo_push 663 (.int 3))),
  (663, .inl (lo_bin 664 (fun x y => x + y))),
  (664, .inl (lo_sld 665 L xs)),
  (665, .inr (.inl (199, 4, 668))),
  (668, .inl (lo_cmp 814 671 (fun x y => decide (x = y)))),
  (671, .inl (lo_push 672 (.int 0))),
  (672, .inr (.inr 2)),
  (673, .inl (lo_aload 674 1)),
  (674, .inr (.inl (131, 1, 677))),
  (677, .inl (lo_aload 678 2)),
  (678, .inr (.inl (200, 1, 681))),
  (681, .inl (lo_cmp 814 684 (fun x y => decide (x = y)))),
  (684, .inl (lo_push 685 (.int 0))),
  (685, .inr (.inr 2)),
  (686, .inl (lo_aload 687 1)),
  (687, .inr (.inl (132, 1, 690))),
  (690, .inl (lo_aload 691 2)),
  (691, .inr (.inl (206, 1, 694))),
  (694, .inl (lo_cmp 814 697 (fun x y => decide (x = y)))),
  (697, .inl (lo_push 698 (.int 0))),
  (698, .inr (.inr 2)),
  (699, .inl (lo_aload 700 1)),
  (700, .inl (lo_aload 701 0)),
  (701, .inl (lo_iload 702 3)),
  (702, .inl (lo_push 703 (.int 1))),
  (703, .inl (lo_bin 704 (fun x y => x + y))),
  (704, .inl (lo_sld 705 L xs)),
  (705, .inr (.inl (133, 2, 708))),
  (708, .inl (lo_aload 709 2)),
  (709, .inl (lo_aload 710 0)),
  (710, .inl (lo_iload 711 3)),
  (711, .inl (lo_push 712 (.int 1))),
  (712, .inl (lo_bin 713 (fun x y => x + y))),
  (713, .inl (lo_sld 714 L xs)),
  (714, .inr (.inl (207, 2, 717))),
  (717, .inl (lo_cmp 814 720 (fun x y => decide (x = y)))),
  (720, .inl (lo_push 721 (.int 0))),
  (721, .inr (.inr 2)),
  (722, .inl (lo_aload 723 1)),
  (723, .inr (.inl (134, 1, 726))),
  (726, .inl (lo_aload 727 2)),
  (727, .inr (.inl (193, 1, 730))),
  (730, .inl (lo_cmp 814 733 (fun x y => decide (x = y)))),
  (733, .inl (lo_push 734 (.int 0))),
  (734, .inr (.inr 2)),
  (735, .inl (lo_aload 736 1)),
  (736, .inl (lo_aload 737 0)),
  (737, .inl (lo_iload 738 3)),
  (738, .inl (lo_push 739 (.int 1))),
  (739, .inl (lo_bin 740 (fun x y => x + y))),
  (740, .inl (lo_sld 741 L xs)),
  (741, .inl (lo_aload 742 0)),
  (742, .inl (lo_iload 743 3)),
  (743, .inl (lo_push 744 (.int 2))),
  (744, .inl (lo_bin 745 (fun x y => x + y))),
  (745, .inl (lo_sld 746 L xs)),
  (746, .inr (.inl (135, 3, 749))),
  (749, .inl (lo_aload 750 2)),
  (750, .inl (lo_aload 751 0)),
  (751, .inl (lo_iload 752 3)),
  (752, .inl (lo_push 753 (.int 1))),
  (753, .inl (lo_bin 754 (fun x y => x + y))),
  (754, .inl (lo_sld 755 L xs)),
  (755, .inl (lo_aload 756 0)),
  (756, .inl (lo_iload 757 3)),
  (757, .inl (lo_push 758 (.int 2))),
  (758, .inl (lo_bin 759 (fun x y => x + y))),
  (759, .inl (lo_sld 760 L xs)),
  (760, .inr (.inl (195, 3, 763))),
  (763, .inl (lo_cmp 814 766 (fun x y => decide (x = y)))),
  (766, .inl (lo_push 767 (.int 0))),
  (767, .inr (.inr 2)),
  (768, .inl (lo_aload 769 1)),
  (769, .inl (lo_aload 770 0)),
  (770, .inl (lo_iload 771 3)),
  (771, .inl (lo_push 772 (.int 1))),
  (772, .inl (lo_bin 773 (fun x y => x + y))),
  (773, .inl (lo_sld 774 L xs)),
  (774, .inr (.inl (136, 2, 777))),
  (777, .inl (lo_aload 778 2)),
  (778, .inl (lo_aload 779 0)),
  (779, .inl (lo_iload 780 3)),
  (780, .inl (lo_push 781 (.int 1))),
  (781, .inl (lo_bin 782 (fun x y => x + y))),
  (782, .inl (lo_sld 783 L xs)),
  (783, .inr (.inl (229, 2, 786))),
  (786, .inl (lo_cmp 814 789 (fun x y => decide (x = y)))),
  (789, .inl (lo_push 790 (.int 0))),
  (790, .inr (.inr 2)),
  (791, .inl (lo_aload 792 1)),
  (792, .inl (lo_aload 793 0)),
  (793, .inl (lo_iload 794 3)),
  (794, .inl (lo_push 795 (.int 1))),
  (795, .inl (lo_bin 796 (fun x y => x + y))),
  (796, .inl (lo_sld 797 L xs)),
  (797, .inr (.inl (137, 2, 800))),
  (800, .inl (lo_aload 801 2)),
  (801, .inl (lo_aload 802 0)),
  (802, .inl (lo_iload 803 3)),
  (803, .inl (lo_push 804 (.int 1))),
  (804, .inl (lo_bin 805 (fun x y => x + y))),
  (805, .inl (lo_sld 806 L xs)),
  (806, .inr (.inl (230, 2, 809))),
  (809, .inl (lo_cmp 814 812 (fun x y => decide (x = y)))),
  (812, .inl (lo_push 813 (.int 0))),
  (813, .inr (.inr 2)),
  (814, .inl (lo_iinc 817 3 5)),
  (817, .inl (lo_goto 18)),
  (820, .inl (lo_push 821 (.int 1))),
  (821, .inr (.inr 2))]
theorem k_232_0 (L : Nat) (xs : Nat → Int32) : ll_OK1 cL_law RL (some .boolean) false ll_mN ll_mR ll_mK ll_cnt L xs true 0 (.inl (lo_new 3 10 11 [.null, .null, .null, .null, .null, .null, .null, .null, .null, .null, .null])) := lk_new (ix := 7) (ci := 10) (N := 11) (C := RX10) (T := TX10) (ty0 := tyX10) (by decide +kernel) rfl in_10 tyX10_ok tb_821 tb_822 tb_823 rfl (by decide +kernel) (by decide +kernel)
theorem k_232_3 (L : Nat) (xs : Nat → Int32) : ll_OK1 cL_law RL (some .boolean) false ll_mN ll_mR ll_mK ll_cnt L xs true 3 (.inl (lo_dup 4)) := lk_dup (by decide +kernel)
theorem k_232_4 (L : Nat) (xs : Nat → Int32) : ll_OK1 cL_law RL (some .boolean) false ll_mN ll_mR ll_mK ll_cnt L xs true 4 (.inr (.inl (113, 1, 7))) := ⟨rfl, by decide, by rw [mN_113, mK_113, mR_113]; exact lj_i 9 0 10 (by decide +kernel) (Or.inl tb_824) tb_825 rfl rfl rfl (by decide +kernel) rfl⟩
theorem k_232_7 (L : Nat) (xs : Nat → Int32) : ll_OK1 cL_law RL (some .boolean) false ll_mN ll_mR ll_mK ll_cnt L xs true 7 (.inl (lo_astore 8 1)) := lk_astore_n (k := 1) (by decide +kernel) rfl
theorem k_232_8 (L : Nat) (xs : Nat → Int32) : ll_OK1 cL_law RL (some .boolean) false ll_mN ll_mR ll_mK ll_cnt L xs true 8 (.inl (lo_new 11 11 46 [.null, .null, .null, .int 0, .int 0, .null, .null, .null, .null, .null, .null, .null, .int 0, .int 0, .null, .null, .null, .int 0, .null, .int 0, .null, .null, .null, .null, .null, .int 0, .int 0, .null, .null, .int 0, .int 0, .null, .null, .int 0, .null, .null, .null, .null, .null, .null, .null, .null, .int 0, .int 0, .int 0, .null])) := lk_new (ix := 10) (ci := 11) (N := 46) (C := RX11) (T := TX11) (ty0 := tyX11) (by decide +kernel) rfl in_11 tyX11_ok tb_826 tb_827 tb_828 rfl (by decide +kernel) (by decide +kernel)
theorem k_232_11 (L : Nat) (xs : Nat → Int32) : ll_OK1 cL_law RL (some .boolean) false ll_mN ll_mR ll_mK ll_cnt L xs true 11 (.inl (lo_dup 12)) := lk_dup (by decide +kernel)
theorem k_232_12 (L : Nat) (xs : Nat → Int32) : ll_OK1 cL_law RL (some .boolean) false ll_mN ll_mR ll_mK ll_cnt L xs true 12 (.inr (.inl (149, 1, 15))) := ⟨rfl, by decide, by rw [mN_149, mK_149, mR_149]; exact lj_i 12 0 11 (by decide +kernel) (Or.inl tb_829) tb_830 rfl rfl rfl (by decide +kernel) rfl⟩
theorem k_232_15 (L : Nat) (xs : Nat → Int32) : ll_OK1 cL_law RL (some .boolean) false ll_mN ll_mR ll_mK ll_cnt L xs true 15 (.inl (lo_astore 16 2)) := lk_astore_n (k := 2) (by decide +kernel) rfl
theorem k_232_16 (L : Nat) (xs : Nat → Int32) : ll_OK1 cL_law RL (some .boolean) false ll_mN ll_mR ll_mK ll_cnt L xs true 16 (.inl (lo_push 17 (.int 0))) := lk_iconst (n := 0) (by decide +kernel) (by decide)
theorem k_232_17 (L : Nat) (xs : Nat → Int32) : ll_OK1 cL_law RL (some .boolean) false ll_mN ll_mR ll_mK ll_cnt L xs true 17 (.inl (lo_istore 18 3)) := lk_istore_n (k := 3) (by decide +kernel) rfl
theorem k_232_18 (L : Nat) (xs : Nat → Int32) : ll_OK1 cL_law RL (some .boolean) false ll_mN ll_mR ll_mK ll_cnt L xs true 18 (.inl (lo_iload 19 3)) := lk_iload_n (k := 3) (by decide +kernel) rfl
theorem k_232_19 (L : Nat) (xs : Nat → Int32) : ll_OK1 cL_law RL (some .boolean) false ll_mN ll_mR ll_mK ll_cnt L xs true 19 (.inl (lo_aload 20 0)) := lk_aload_n (k := 0) (by decide +kernel) rfl
theorem k_232_20 (L : Nat) (xs : Nat → Int32) : ll_OK1 cL_law RL (some .boolean) false ll_mN ll_mR ll_mK ll_cnt L xs true 20 (.inl (lo_slen 21 L)) := lk_slen (by decide +kernel) rfl
theorem k_232_21 (L : Nat) (xs : Nat → Int32) : ll_OK1 cL_law RL (some .boolean) false ll_mN ll_mR ll_mK ll_cnt L xs true 21 (.inl (lo_push 22 (.int 5))) := lk_iconst (n := 5) (by decide +kernel) (by decide)
theorem k_232_22 (L : Nat) (xs : Nat → Int32) : ll_OK1 cL_law RL (some .boolean) false ll_mN ll_mR ll_mK ll_cnt L xs true 22 (.inl (lo_bin 23 (fun x y => x - y))) := lk_isub (by decide +kernel)
theorem k_232_23 (L : Nat) (xs : Nat → Int32) : ll_OK1 cL_law RL (some .boolean) false ll_mN ll_mR ll_mK ll_cnt L xs true 23 (.inl (lo_cmp 820 26 (fun x y => decide (y < x)))) := lk_icmp_gt (off := 797) (by decide +kernel) rfl
theorem k_232_26 (L : Nat) (xs : Nat → Int32) : ll_OK1 cL_law RL (some .boolean) false ll_mN ll_mR ll_mK ll_cnt L xs true 26 (.inl (lo_aload 27 0)) := lk_aload_n (k := 0) (by decide +kernel) rfl
theorem k_232_27 (L : Nat) (xs : Nat → Int32) : ll_OK1 cL_law RL (some .boolean) false ll_mN ll_mR ll_mK ll_cnt L xs true 27 (.inl (lo_iload 28 3)) := lk_iload_n (k := 3) (by decide +kernel) rfl
theorem k_232_28 (L : Nat) (xs : Nat → Int32) : ll_OK1 cL_law RL (some .boolean) false ll_mN ll_mR ll_mK ll_cnt L xs true 28 (.inl (lo_sld 29 L xs)) := lk_sld (by decide +kernel) rfl
theorem k_232_29 (L : Nat) (xs : Nat → Int32) : ll_OK1 cL_law RL (some .boolean) false ll_mN ll_mR ll_mK ll_cnt L xs true 29 (.inl (lo_push 31 (.int 31))) := lk_bipush (n := 31) (by decide +kernel) (by decide)
theorem k_232_31 (L : Nat) (xs : Nat → Int32) : ll_OK1 cL_law RL (some .boolean) false ll_mN ll_mR ll_mK ll_cnt L xs true 31 (.inl (lo_bin 32 (fun x y => x &&& y))) := lk_iand (by decide +kernel)
theorem k_232_32 (L : Nat) (xs : Nat → Int32) : ll_OK1 cL_law RL (some .boolean) false ll_mN ll_mR ll_mK ll_cnt L xs true 32 (.inl (lo_tab 0 [144, 197, 220, 233, 244, 277, 330, 363, 406, 439, 462, 495, 538, 551, 574, 597, 630, 673, 686, 699, 722, 735, 768, 791] 814)) := lk_tab (d0 := 782) (hi := 23) (offs := #[112, 165, 188, 201, 212, 245, 298, 331, 374, 407, 430, 463, 506, 519, 542, 565, 598, 641, 654, 667, 690, 703, 736, 759]) (len := 112) (by decide +kernel) rfl rfl rfl
theorem k_232_144 (L : Nat) (xs : Nat → Int32) : ll_OK1 cL_law RL (some .boolean) false ll_mN ll_mR ll_mK ll_cnt L xs true 144 (.inl (lo_aload 145 1)) := lk_aload_n (k := 1) (by decide +kernel) rfl
theorem k_232_145 (L : Nat) (xs : Nat → Int32) : ll_OK1 cL_law RL (some .boolean) false ll_mN ll_mR ll_mK ll_cnt L xs true 145 (.inl (lo_aload 146 0)) := lk_aload_n (k := 0) (by decide +kernel) rfl
theorem k_232_146 (L : Nat) (xs : Nat → Int32) : ll_OK1 cL_law RL (some .boolean) false ll_mN ll_mR ll_mK ll_cnt L xs true 146 (.inl (lo_iload 147 3)) := lk_iload_n (k := 3) (by decide +kernel) rfl
theorem k_232_147 (L : Nat) (xs : Nat → Int32) : ll_OK1 cL_law RL (some .boolean) false ll_mN ll_mR ll_mK ll_cnt L xs true 147 (.inl (lo_push 148 (.int 1))) := lk_iconst (n := 1) (by decide +kernel) (by decide)
theorem k_232_148 (L : Nat) (xs : Nat → Int32) : ll_OK1 cL_law RL (some .boolean) false ll_mN ll_mR ll_mK ll_cnt L xs true 148 (.inl (lo_bin 149 (fun x y => x + y))) := lk_iadd (by decide +kernel)
theorem k_232_149 (L : Nat) (xs : Nat → Int32) : ll_OK1 cL_law RL (some .boolean) false ll_mN ll_mR ll_mK ll_cnt L xs true 149 (.inl (lo_sld 150 L xs)) := lk_sld (by decide +kernel) rfl
theorem k_232_150 (L : Nat) (xs : Nat → Int32) : ll_OK1 cL_law RL (some .boolean) false ll_mN ll_mR ll_mK ll_cnt L xs true 150 (.inl (lo_i2l 151)) := lk_i2l (by decide +kernel)
theorem k_232_151 (L : Nat) (xs : Nat → Int32) : ll_OK1 cL_law RL (some .boolean) false ll_mN ll_mR ll_mK ll_cnt L xs true 151 (.inl (lo_push 153 (.int 32))) := lk_bipush (n := 32) (by decide +kernel) (by decide)
theorem k_232_153 (L : Nat) (xs : Nat → Int32) : ll_OK1 cL_law RL (some .boolean) false ll_mN ll_mR ll_mK ll_cnt L xs true 153 (.inl (lo_lsh 154 (fun x y => x <<< (y.toInt64 &&& 63)))) := lk_lshl (by decide +kernel)
theorem k_232_154 (L : Nat) (xs : Nat → Int32) : ll_OK1 cL_law RL (some .boolean) false ll_mN ll_mR ll_mK ll_cnt L xs true 154 (.inl (lo_aload 155 0)) := lk_aload_n (k := 0) (by decide +kernel) rfl
theorem k_232_155 (L : Nat) (xs : Nat → Int32) : ll_OK1 cL_law RL (some .boolean) false ll_mN ll_mR ll_mK ll_cnt L xs true 155 (.inl (lo_iload 156 3)) := lk_iload_n (k := 3) (by decide +kernel) rfl
theorem k_232_156 (L : Nat) (xs : Nat → Int32) : ll_OK1 cL_law RL (some .boolean) false ll_mN ll_mR ll_mK ll_cnt L xs true 156 (.inl (lo_push 157 (.int 2))) := lk_iconst (n := 2) (by decide +kernel) (by decide)
theorem k_232_157 (L : Nat) (xs : Nat → Int32) : ll_OK1 cL_law RL (some .boolean) false ll_mN ll_mR ll_mK ll_cnt L xs true 157 (.inl (lo_bin 158 (fun x y => x + y))) := lk_iadd (by decide +kernel)
theorem k_232_158 (L : Nat) (xs : Nat → Int32) : ll_OK1 cL_law RL (some .boolean) false ll_mN ll_mR ll_mK ll_cnt L xs true 158 (.inl (lo_sld 159 L xs)) := lk_sld (by decide +kernel) rfl
theorem k_232_159 (L : Nat) (xs : Nat → Int32) : ll_OK1 cL_law RL (some .boolean) false ll_mN ll_mR ll_mK ll_cnt L xs true 159 (.inl (lo_i2l 160)) := lk_i2l (by decide +kernel)
theorem k_232_160 (L : Nat) (xs : Nat → Int32) : ll_OK1 cL_law RL (some .boolean) false ll_mN ll_mR ll_mK ll_cnt L xs true 160 (.inl (lo_push 163 (.long 4294967295))) := lk_ldc2 (ix := 13) (by decide +kernel) tb_831
theorem k_232_163 (L : Nat) (xs : Nat → Int32) : ll_OK1 cL_law RL (some .boolean) false ll_mN ll_mR ll_mK ll_cnt L xs true 163 (.inl (lo_lbin 164 (fun x y => x &&& y))) := lk_land (by decide +kernel)
theorem k_232_164 (L : Nat) (xs : Nat → Int32) : ll_OK1 cL_law RL (some .boolean) false ll_mN ll_mR ll_mK ll_cnt L xs true 164 (.inl (lo_lbin 165 (fun x y => x ||| y))) := lk_lor (by decide +kernel)
theorem k_232_165 (L : Nat) (xs : Nat → Int32) : ll_OK1 cL_law RL (some .boolean) false ll_mN ll_mR ll_mK ll_cnt L xs true 165 (.inr (.inl (114, 2, 168))) := ⟨rfl, by decide, by rw [mN_114, mK_114, mR_114]; exact lj_v 15 1 10 (RX10, TX10, 11) (by decide +kernel) tb_832 tb_833 tb_834 rfl rfl rfl rfl (by decide +kernel)⟩
theorem k_232_168 (L : Nat) (xs : Nat → Int32) : ll_OK1 cL_law RL (some .boolean) false ll_mN ll_mR ll_mK ll_cnt L xs true 168 (.inl (lo_aload 169 2)) := lk_aload_n (k := 2) (by decide +kernel) rfl
theorem k_232_169 (L : Nat) (xs : Nat → Int32) : ll_OK1 cL_law RL (some .boolean) false ll_mN ll_mR ll_mK ll_cnt L xs true 169 (.inl (lo_aload 170 0)) := lk_aload_n (k := 0) (by decide +kernel) rfl
theorem k_232_170 (L : Nat) (xs : Nat → Int32) : ll_OK1 cL_law RL (some .boolean) false ll_mN ll_mR ll_mK ll_cnt L xs true 170 (.inl (lo_iload 171 3)) := lk_iload_n (k := 3) (by decide +kernel) rfl
theorem k_232_171 (L : Nat) (xs : Nat → Int32) : ll_OK1 cL_law RL (some .boolean) false ll_mN ll_mR ll_mK ll_cnt L xs true 171 (.inl (lo_push 172 (.int 1))) := lk_iconst (n := 1) (by decide +kernel) (by decide)
theorem k_232_172 (L : Nat) (xs : Nat → Int32) : ll_OK1 cL_law RL (some .boolean) false ll_mN ll_mR ll_mK ll_cnt L xs true 172 (.inl (lo_bin 173 (fun x y => x + y))) := lk_iadd (by decide +kernel)
theorem k_232_173 (L : Nat) (xs : Nat → Int32) : ll_OK1 cL_law RL (some .boolean) false ll_mN ll_mR ll_mK ll_cnt L xs true 173 (.inl (lo_sld 174 L xs)) := lk_sld (by decide +kernel) rfl
theorem k_232_174 (L : Nat) (xs : Nat → Int32) : ll_OK1 cL_law RL (some .boolean) false ll_mN ll_mR ll_mK ll_cnt L xs true 174 (.inl (lo_i2l 175)) := lk_i2l (by decide +kernel)
theorem k_232_175 (L : Nat) (xs : Nat → Int32) : ll_OK1 cL_law RL (some .boolean) false ll_mN ll_mR ll_mK ll_cnt L xs true 175 (.inl (lo_push 177 (.int 32))) := lk_bipush (n := 32) (by decide +kernel) (by decide)
theorem k_232_177 (L : Nat) (xs : Nat → Int32) : ll_OK1 cL_law RL (some .boolean) false ll_mN ll_mR ll_mK ll_cnt L xs true 177 (.inl (lo_lsh 178 (fun x y => x <<< (y.toInt64 &&& 63)))) := lk_lshl (by decide +kernel)
theorem k_232_178 (L : Nat) (xs : Nat → Int32) : ll_OK1 cL_law RL (some .boolean) false ll_mN ll_mR ll_mK ll_cnt L xs true 178 (.inl (lo_aload 179 0)) := lk_aload_n (k := 0) (by decide +kernel) rfl
theorem k_232_179 (L : Nat) (xs : Nat → Int32) : ll_OK1 cL_law RL (some .boolean) false ll_mN ll_mR ll_mK ll_cnt L xs true 179 (.inl (lo_iload 180 3)) := lk_iload_n (k := 3) (by decide +kernel) rfl
theorem k_232_180 (L : Nat) (xs : Nat → Int32) : ll_OK1 cL_law RL (some .boolean) false ll_mN ll_mR ll_mK ll_cnt L xs true 180 (.inl (lo_push 181 (.int 2))) := lk_iconst (n := 2) (by decide +kernel) (by decide)
theorem k_232_181 (L : Nat) (xs : Nat → Int32) : ll_OK1 cL_law RL (some .boolean) false ll_mN ll_mR ll_mK ll_cnt L xs true 181 (.inl (lo_bin 182 (fun x y => x + y))) := lk_iadd (by decide +kernel)
theorem k_232_182 (L : Nat) (xs : Nat → Int32) : ll_OK1 cL_law RL (some .boolean) false ll_mN ll_mR ll_mK ll_cnt L xs true 182 (.inl (lo_sld 183 L xs)) := lk_sld (by decide +kernel) rfl
theorem k_232_183 (L : Nat) (xs : Nat → Int32) : ll_OK1 cL_law RL (some .boolean) false ll_mN ll_mR ll_mK ll_cnt L xs true 183 (.inl (lo_i2l 184)) := lk_i2l (by decide +kernel)
theorem k_232_184 (L : Nat) (xs : Nat → Int32) : ll_OK1 cL_law RL (some .boolean) false ll_mN ll_mR ll_mK ll_cnt L xs true 184 (.inl (lo_push 187 (.long 4294967295))) := lk_ldc2 (ix := 13) (by decide +kernel) tb_831
theorem k_232_187 (L : Nat) (xs : Nat → Int32) : ll_OK1 cL_law RL (some .boolean) false ll_mN ll_mR ll_mK ll_cnt L xs true 187 (.inl (lo_lbin 188 (fun x y => x &&& y))) := lk_land (by decide +kernel)
theorem k_232_188 (L : Nat) (xs : Nat → Int32) : ll_OK1 cL_law RL (some .boolean) false ll_mN ll_mR ll_mK ll_cnt L xs true 188 (.inl (lo_lbin 189 (fun x y => x ||| y))) := lk_lor (by decide +kernel)
theorem k_232_189 (L : Nat) (xs : Nat → Int32) : ll_OK1 cL_law RL (some .boolean) false ll_mN ll_mR ll_mK ll_cnt L xs true 189 (.inr (.inl (208, 2, 192))) := ⟨rfl, by decide, by rw [mN_208, mK_208, mR_208]; exact lj_v 19 1 11 (RX11, TX11, 46) (by decide +kernel) tb_835 tb_836 tb_837 rfl rfl rfl rfl (by decide +kernel)⟩
theorem k_232_192 (L : Nat) (xs : Nat → Int32) : ll_OK1 cL_law RL (some .boolean) false ll_mN ll_mR ll_mK ll_cnt L xs true 192 (.inl (lo_cmp 814 195 (fun x y => decide (x = y)))) := lk_icmp_eq (off := 622) (by decide +kernel) rfl
theorem k_232_195 (L : Nat) (xs : Nat → Int32) : ll_OK1 cL_law RL (some .boolean) false ll_mN ll_mR ll_mK ll_cnt L xs true 195 (.inl (lo_push 196 (.int 0))) := lk_iconst (n := 0) (by decide +kernel) (by decide)
theorem k_232_196 (L : Nat) (xs : Nat → Int32) : ll_OK1 cL_law RL (some .boolean) false ll_mN ll_mR ll_mK ll_cnt L xs true 196 (.inr (.inr 2)) := ⟨(fun h => by cases h), (fun h => by cases h), fun _ => ⟨(by decide +kernel), rfl⟩⟩
theorem k_232_197 (L : Nat) (xs : Nat → Int32) : ll_OK1 cL_law RL (some .boolean) false ll_mN ll_mR ll_mK ll_cnt L xs true 197 (.inl (lo_aload 198 1)) := lk_aload_n (k := 1) (by decide +kernel) rfl
theorem k_232_198 (L : Nat) (xs : Nat → Int32) : ll_OK1 cL_law RL (some .boolean) false ll_mN ll_mR ll_mK ll_cnt L xs true 198 (.inl (lo_aload 199 0)) := lk_aload_n (k := 0) (by decide +kernel) rfl
theorem k_232_199 (L : Nat) (xs : Nat → Int32) : ll_OK1 cL_law RL (some .boolean) false ll_mN ll_mR ll_mK ll_cnt L xs true 199 (.inl (lo_iload 200 3)) := lk_iload_n (k := 3) (by decide +kernel) rfl
theorem k_232_200 (L : Nat) (xs : Nat → Int32) : ll_OK1 cL_law RL (some .boolean) false ll_mN ll_mR ll_mK ll_cnt L xs true 200 (.inl (lo_push 201 (.int 1))) := lk_iconst (n := 1) (by decide +kernel) (by decide)
theorem k_232_201 (L : Nat) (xs : Nat → Int32) : ll_OK1 cL_law RL (some .boolean) false ll_mN ll_mR ll_mK ll_cnt L xs true 201 (.inl (lo_bin 202 (fun x y => x + y))) := lk_iadd (by decide +kernel)
theorem k_232_202 (L : Nat) (xs : Nat → Int32) : ll_OK1 cL_law RL (some .boolean) false ll_mN ll_mR ll_mK ll_cnt L xs true 202 (.inl (lo_sld 203 L xs)) := lk_sld (by decide +kernel) rfl
theorem k_232_203 (L : Nat) (xs : Nat → Int32) : ll_OK1 cL_law RL (some .boolean) false ll_mN ll_mR ll_mK ll_cnt L xs true 203 (.inr (.inl (115, 2, 206))) := ⟨rfl, by decide, by rw [mN_115, mK_115, mR_115]; exact lj_v 20 1 10 (RX10, TX10, 11) (by decide +kernel) tb_838 tb_839 tb_840 rfl rfl rfl rfl (by decide +kernel)⟩
theorem k_232_206 (L : Nat) (xs : Nat → Int32) : ll_OK1 cL_law RL (some .boolean) false ll_mN ll_mR ll_mK ll_cnt L xs true 206 (.inl (lo_aload 207 2)) := lk_aload_n (k := 2) (by decide +kernel) rfl
theorem k_232_207 (L : Nat) (xs : Nat → Int32) : ll_OK1 cL_law RL (some .boolean) false ll_mN ll_mR ll_mK ll_cnt L xs true 207 (.inl (lo_aload 208 0)) := lk_aload_n (k := 0) (by decide +kernel) rfl
theorem k_232_208 (L : Nat) (xs : Nat → Int32) : ll_OK1 cL_law RL (some .boolean) false ll_mN ll_mR ll_mK ll_cnt L xs true 208 (.inl (lo_iload 209 3)) := lk_iload_n (k := 3) (by decide +kernel) rfl
theorem k_232_209 (L : Nat) (xs : Nat → Int32) : ll_OK1 cL_law RL (some .boolean) false ll_mN ll_mR ll_mK ll_cnt L xs true 209 (.inl (lo_push 210 (.int 1))) := lk_iconst (n := 1) (by decide +kernel) (by decide)
theorem k_232_210 (L : Nat) (xs : Nat → Int32) : ll_OK1 cL_law RL (some .boolean) false ll_mN ll_mR ll_mK ll_cnt L xs true 210 (.inl (lo_bin 211 (fun x y => x + y))) := lk_iadd (by decide +kernel)
theorem k_232_211 (L : Nat) (xs : Nat → Int32) : ll_OK1 cL_law RL (some .boolean) false ll_mN ll_mR ll_mK ll_cnt L xs true 211 (.inl (lo_sld 212 L xs)) := lk_sld (by decide +kernel) rfl
theorem k_232_212 (L : Nat) (xs : Nat → Int32) : ll_OK1 cL_law RL (some .boolean) false ll_mN ll_mR ll_mK ll_cnt L xs true 212 (.inr (.inl (211, 2, 215))) := ⟨rfl, by decide, by rw [mN_211, mK_211, mR_211]; exact lj_v 24 1 11 (RX11, TX11, 46) (by decide +kernel) tb_841 tb_842 tb_843 rfl rfl rfl rfl (by decide +kernel)⟩
theorem k_232_215 (L : Nat) (xs : Nat → Int32) : ll_OK1 cL_law RL (some .boolean) false ll_mN ll_mR ll_mK ll_cnt L xs true 215 (.inl (lo_cmp 814 218 (fun x y => decide (x = y)))) := lk_icmp_eq (off := 599) (by decide +kernel) rfl
theorem k_232_218 (L : Nat) (xs : Nat → Int32) : ll_OK1 cL_law RL (some .boolean) false ll_mN ll_mR ll_mK ll_cnt L xs true 218 (.inl (lo_push 219 (.int 0))) := lk_iconst (n := 0) (by decide +kernel) (by decide)
theorem k_232_219 (L : Nat) (xs : Nat → Int32) : ll_OK1 cL_law RL (some .boolean) false ll_mN ll_mR ll_mK ll_cnt L xs true 219 (.inr (.inr 2)) := ⟨(fun h => by cases h), (fun h => by cases h), fun _ => ⟨(by decide +kernel), rfl⟩⟩
theorem k_232_220 (L : Nat) (xs : Nat → Int32) : ll_OK1 cL_law RL (some .boolean) false ll_mN ll_mR ll_mK ll_cnt L xs true 220 (.inl (lo_aload 221 1)) := lk_aload_n (k := 1) (by decide +kernel) rfl
theorem k_232_221 (L : Nat) (xs : Nat → Int32) : ll_OK1 cL_law RL (some .boolean) false ll_mN ll_mR ll_mK ll_cnt L xs true 221 (.inr (.inl (116, 1, 224))) := ⟨rfl, by decide, by rw [mN_116, mK_116, mR_116]; exact lj_v 25 0 10 (RX10, TX10, 11) (by decide +kernel) tb_844 tb_845 tb_846 rfl rfl rfl rfl (by decide +kernel)⟩
theorem k_232_224 (L : Nat) (xs : Nat → Int32) : ll_OK1 cL_law RL (some .boolean) false ll_mN ll_mR ll_mK ll_cnt L xs true 224 (.inl (lo_aload 225 2)) := lk_aload_n (k := 2) (by decide +kernel) rfl
theorem k_232_225 (L : Nat) (xs : Nat → Int32) : ll_OK1 cL_law RL (some .boolean) false ll_mN ll_mR ll_mK ll_cnt L xs true 225 (.inr (.inl (212, 1, 228))) := ⟨rfl, by decide, by rw [mN_212, mK_212, mR_212]; exact lj_v 29 0 11 (RX11, TX11, 46) (by decide +kernel) tb_847 tb_848 tb_849 rfl rfl rfl rfl (by decide +kernel)⟩
theorem k_232_228 (L : Nat) (xs : Nat → Int32) : ll_OK1 cL_law RL (some .boolean) false ll_mN ll_mR ll_mK ll_cnt L xs true 228 (.inl (lo_cmp 814 231 (fun x y => decide (x = y)))) := lk_icmp_eq (off := 586) (by decide +kernel) rfl
theorem k_232_231 (L : Nat) (xs : Nat → Int32) : ll_OK1 cL_law RL (some .boolean) false ll_mN ll_mR ll_mK ll_cnt L xs true 231 (.inl (lo_push 232 (.int 0))) := lk_iconst (n := 0) (by decide +kernel) (by decide)
theorem k_232_232 (L : Nat) (xs : Nat → Int32) : ll_OK1 cL_law RL (some .boolean) false ll_mN ll_mR ll_mK ll_cnt L xs true 232 (.inr (.inr 2)) := ⟨(fun h => by cases h), (fun h => by cases h), fun _ => ⟨(by decide +kernel), rfl⟩⟩
theorem k_232_233 (L : Nat) (xs : Nat → Int32) : ll_OK1 cL_law RL (some .boolean) false ll_mN ll_mR ll_mK ll_cnt L xs true 233 (.inl (lo_aload 234 1)) := lk_aload_n (k := 1) (by decide +kernel) rfl
theorem k_232_234 (L : Nat) (xs : Nat → Int32) : ll_OK1 cL_law RL (some .boolean) false ll_mN ll_mR ll_mK ll_cnt L xs true 234 (.inr (.inl (117, 1, 237))) := ⟨rfl, by decide, by rw [mN_117, mK_117, mR_117]; exact lj_v 30 0 10 (RX10, TX10, 11) (by decide +kernel) tb_850 tb_851 tb_852 rfl rfl rfl rfl (by decide +kernel)⟩
theorem k_232_237 (L : Nat) (xs : Nat → Int32) : ll_OK1 cL_law RL (some .boolean) false ll_mN ll_mR ll_mK ll_cnt L xs true 237 (.inl (lo_aload 238 2)) := lk_aload_n (k := 2) (by decide +kernel) rfl
theorem k_232_238 (L : Nat) (xs : Nat → Int32) : ll_OK1 cL_law RL (some .boolean) false ll_mN ll_mR ll_mK ll_cnt L xs true 238 (.inr (.inl (213, 1, 241))) := ⟨rfl, by decide, by rw [mN_213, mK_213, mR_213]; exact lj_v 33 0 11 (RX11, TX11, 46) (by decide +kernel) tb_853 tb_854 tb_855 rfl rfl rfl rfl (by decide +kernel)⟩
theorem k_232_241 (L : Nat) (xs : Nat → Int32) : ll_OK1 cL_law RL (some .boolean) false ll_mN ll_mR ll_mK ll_cnt L xs true 241 (.inl (lo_goto 814)) := lk_goto (off := 573) (by decide +kernel) rfl
theorem k_232_244 (L : Nat) (xs : Nat → Int32) : ll_OK1 cL_law RL (some .boolean) false ll_mN ll_mR ll_mK ll_cnt L xs true 244 (.inl (lo_aload 245 1)) := lk_aload_n (k := 1) (by decide +kernel) rfl
theorem k_232_245 (L : Nat) (xs : Nat → Int32) : ll_OK1 cL_law RL (some .boolean) false ll_mN ll_mR ll_mK ll_cnt L xs true 245 (.inl (lo_aload 246 0)) := lk_aload_n (k := 0) (by decide +kernel) rfl
theorem k_232_246 (L : Nat) (xs : Nat → Int32) : ll_OK1 cL_law RL (some .boolean) false ll_mN ll_mR ll_mK ll_cnt L xs true 246 (.inl (lo_iload 247 3)) := lk_iload_n (k := 3) (by decide +kernel) rfl
theorem k_232_247 (L : Nat) (xs : Nat → Int32) : ll_OK1 cL_law RL (some .boolean) false ll_mN ll_mR ll_mK ll_cnt L xs true 247 (.inl (lo_push 248 (.int 1))) := lk_iconst (n := 1) (by decide +kernel) (by decide)
theorem k_232_248 (L : Nat) (xs : Nat → Int32) : ll_OK1 cL_law RL (some .boolean) false ll_mN ll_mR ll_mK ll_cnt L xs true 248 (.inl (lo_bin 249 (fun x y => x + y))) := lk_iadd (by decide +kernel)
theorem k_232_249 (L : Nat) (xs : Nat → Int32) : ll_OK1 cL_law RL (some .boolean) false ll_mN ll_mR ll_mK ll_cnt L xs true 249 (.inl (lo_sld 250 L xs)) := lk_sld (by decide +kernel) rfl
theorem k_232_250 (L : Nat) (xs : Nat → Int32) : ll_OK1 cL_law RL (some .boolean) false ll_mN ll_mR ll_mK ll_cnt L xs true 250 (.inl (lo_aload 251 0)) := lk_aload_n (k := 0) (by decide +kernel) rfl
theorem k_232_251 (L : Nat) (xs : Nat → Int32) : ll_OK1 cL_law RL (some .boolean) false ll_mN ll_mR ll_mK ll_cnt L xs true 251 (.inl (lo_iload 252 3)) := lk_iload_n (k := 3) (by decide +kernel) rfl
theorem k_232_252 (L : Nat) (xs : Nat → Int32) : ll_OK1 cL_law RL (some .boolean) false ll_mN ll_mR ll_mK ll_cnt L xs true 252 (.inl (lo_push 253 (.int 2))) := lk_iconst (n := 2) (by decide +kernel) (by decide)
theorem k_232_253 (L : Nat) (xs : Nat → Int32) : ll_OK1 cL_law RL (some .boolean) false ll_mN ll_mR ll_mK ll_cnt L xs true 253 (.inl (lo_bin 254 (fun x y => x + y))) := lk_iadd (by decide +kernel)
theorem k_232_254 (L : Nat) (xs : Nat → Int32) : ll_OK1 cL_law RL (some .boolean) false ll_mN ll_mR ll_mK ll_cnt L xs true 254 (.inl (lo_sld 255 L xs)) := lk_sld (by decide +kernel) rfl
theorem k_232_255 (L : Nat) (xs : Nat → Int32) : ll_OK1 cL_law RL (some .boolean) false ll_mN ll_mR ll_mK ll_cnt L xs true 255 (.inr (.inl (118, 3, 258))) := ⟨rfl, by decide, by rw [mN_118, mK_118, mR_118]; exact lj_v 34 2 10 (RX10, TX10, 11) (by decide +kernel) tb_856 tb_857 tb_858 rfl rfl rfl rfl (by decide +kernel)⟩
theorem k_232_258 (L : Nat) (xs : Nat → Int32) : ll_OK1 cL_law RL (some .boolean) false ll_mN ll_mR ll_mK ll_cnt L xs true 258 (.inl (lo_aload 259 2)) := lk_aload_n (k := 2) (by decide +kernel) rfl
theorem k_232_259 (L : Nat) (xs : Nat → Int32) : ll_OK1 cL_law RL (some .boolean) false ll_mN ll_mR ll_mK ll_cnt L xs true 259 (.inl (lo_aload 260 0)) := lk_aload_n (k := 0) (by decide +kernel) rfl
theorem k_232_260 (L : Nat) (xs : Nat → Int32) : ll_OK1 cL_law RL (some .boolean) false ll_mN ll_mR ll_mK ll_cnt L xs true 260 (.inl (lo_iload 261 3)) := lk_iload_n (k := 3) (by decide +kernel) rfl
theorem k_232_261 (L : Nat) (xs : Nat → Int32) : ll_OK1 cL_law RL (some .boolean) false ll_mN ll_mR ll_mK ll_cnt L xs true 261 (.inl (lo_push 262 (.int 1))) := lk_iconst (n := 1) (by decide +kernel) (by decide)
theorem k_232_262 (L : Nat) (xs : Nat → Int32) : ll_OK1 cL_law RL (some .boolean) false ll_mN ll_mR ll_mK ll_cnt L xs true 262 (.inl (lo_bin 263 (fun x y => x + y))) := lk_iadd (by decide +kernel)
theorem k_232_263 (L : Nat) (xs : Nat → Int32) : ll_OK1 cL_law RL (some .boolean) false ll_mN ll_mR ll_mK ll_cnt L xs true 263 (.inl (lo_sld 264 L xs)) := lk_sld (by decide +kernel) rfl
theorem k_232_264 (L : Nat) (xs : Nat → Int32) : ll_OK1 cL_law RL (some .boolean) false ll_mN ll_mR ll_mK ll_cnt L xs true 264 (.inl (lo_aload 265 0)) := lk_aload_n (k := 0) (by decide +kernel) rfl
theorem k_232_265 (L : Nat) (xs : Nat → Int32) : ll_OK1 cL_law RL (some .boolean) false ll_mN ll_mR ll_mK ll_cnt L xs true 265 (.inl (lo_iload 266 3)) := lk_iload_n (k := 3) (by decide +kernel) rfl
theorem k_232_266 (L : Nat) (xs : Nat → Int32) : ll_OK1 cL_law RL (some .boolean) false ll_mN ll_mR ll_mK ll_cnt L xs true 266 (.inl (lo_push 267 (.int 2))) := lk_iconst (n := 2) (by decide +kernel) (by decide)
theorem k_232_267 (L : Nat) (xs : Nat → Int32) : ll_OK1 cL_law RL (some .boolean) false ll_mN ll_mR ll_mK ll_cnt L xs true 267 (.inl (lo_bin 268 (fun x y => x + y))) := lk_iadd (by decide +kernel)
theorem k_232_268 (L : Nat) (xs : Nat → Int32) : ll_OK1 cL_law RL (some .boolean) false ll_mN ll_mR ll_mK ll_cnt L xs true 268 (.inl (lo_sld 269 L xs)) := lk_sld (by decide +kernel) rfl
theorem k_232_269 (L : Nat) (xs : Nat → Int32) : ll_OK1 cL_law RL (some .boolean) false ll_mN ll_mR ll_mK ll_cnt L xs true 269 (.inr (.inl (214, 3, 272))) := ⟨rfl, by decide, by rw [mN_214, mK_214, mR_214]; exact lj_v 38 2 11 (RX11, TX11, 46) (by decide +kernel) tb_859 tb_860 tb_861 rfl rfl rfl rfl (by decide +kernel)⟩
theorem k_232_272 (L : Nat) (xs : Nat → Int32) : ll_OK1 cL_law RL (some .boolean) false ll_mN ll_mR ll_mK ll_cnt L xs true 272 (.inl (lo_cmp 814 275 (fun x y => decide (x = y)))) := lk_icmp_eq (off := 542) (by decide +kernel) rfl
theorem k_232_275 (L : Nat) (xs : Nat → Int32) : ll_OK1 cL_law RL (some .boolean) false ll_mN ll_mR ll_mK ll_cnt L xs true 275 (.inl (lo_push 276 (.int 0))) := lk_iconst (n := 0) (by decide +kernel) (by decide)
theorem k_232_276 (L : Nat) (xs : Nat → Int32) : ll_OK1 cL_law RL (some .boolean) false ll_mN ll_mR ll_mK ll_cnt L xs true 276 (.inr (.inr 2)) := ⟨(fun h => by cases h), (fun h => by cases h), fun _ => ⟨(by decide +kernel), rfl⟩⟩
theorem k_232_277 (L : Nat) (xs : Nat → Int32) : ll_OK1 cL_law RL (some .boolean) false ll_mN ll_mR ll_mK ll_cnt L xs true 277 (.inl (lo_aload 278 1)) := lk_aload_n (k := 1) (by decide +kernel) rfl
theorem k_232_278 (L : Nat) (xs : Nat → Int32) : ll_OK1 cL_law RL (some .boolean) false ll_mN ll_mR ll_mK ll_cnt L xs true 278 (.inl (lo_aload 279 0)) := lk_aload_n (k := 0) (by decide +kernel) rfl
theorem k_232_279 (L : Nat) (xs : Nat → Int32) : ll_OK1 cL_law RL (some .boolean) false ll_mN ll_mR ll_mK ll_cnt L xs true 279 (.inl (lo_iload 280 3)) := lk_iload_n (k := 3) (by decide +kernel) rfl
theorem k_232_280 (L : Nat) (xs : Nat → Int32) : ll_OK1 cL_law RL (some .boolean) false ll_mN ll_mR ll_mK ll_cnt L xs true 280 (.inl (lo_push 281 (.int 1))) := lk_iconst (n := 1) (by decide +kernel) (by decide)
theorem k_232_281 (L : Nat) (xs : Nat → Int32) : ll_OK1 cL_law RL (some .boolean) false ll_mN ll_mR ll_mK ll_cnt L xs true 281 (.inl (lo_bin 282 (fun x y => x + y))) := lk_iadd (by decide +kernel)
theorem k_232_282 (L : Nat) (xs : Nat → Int32) : ll_OK1 cL_law RL (some .boolean) false ll_mN ll_mR ll_mK ll_cnt L xs true 282 (.inl (lo_sld 283 L xs)) := lk_sld (by decide +kernel) rfl
theorem k_232_283 (L : Nat) (xs : Nat → Int32) : ll_OK1 cL_law RL (some .boolean) false ll_mN ll_mR ll_mK ll_cnt L xs true 283 (.inl (lo_aload 284 0)) := lk_aload_n (k := 0) (by decide +kernel) rfl
theorem k_232_284 (L : Nat) (xs : Nat → Int32) : ll_OK1 cL_law RL (some .boolean) false ll_mN ll_mR ll_mK ll_cnt L xs true 284 (.inl (lo_iload 285 3)) := lk_iload_n (k := 3) (by decide +kernel) rfl
theorem k_232_285 (L : Nat) (xs : Nat → Int32) : ll_OK1 cL_law RL (some .boolean) false ll_mN ll_mR ll_mK ll_cnt L xs true 285 (.inl (lo_push 286 (.int 2))) := lk_iconst (n := 2) (by decide +kernel) (by decide)
theorem k_232_286 (L : Nat) (xs : Nat → Int32) : ll_OK1 cL_law RL (some .boolean) false ll_mN ll_mR ll_mK ll_cnt L xs true 286 (.inl (lo_bin 287 (fun x y => x + y))) := lk_iadd (by decide +kernel)
theorem k_232_287 (L : Nat) (xs : Nat → Int32) : ll_OK1 cL_law RL (some .boolean) false ll_mN ll_mR ll_mK ll_cnt L xs true 287 (.inl (lo_sld 288 L xs)) := lk_sld (by decide +kernel) rfl
theorem k_232_288 (L : Nat) (xs : Nat → Int32) : ll_OK1 cL_law RL (some .boolean) false ll_mN ll_mR ll_mK ll_cnt L xs true 288 (.inl (lo_aload 289 0)) := lk_aload_n (k := 0) (by decide +kernel) rfl
theorem k_232_289 (L : Nat) (xs : Nat → Int32) : ll_OK1 cL_law RL (some .boolean) false ll_mN ll_mR ll_mK ll_cnt L xs true 289 (.inl (lo_iload 290 3)) := lk_iload_n (k := 3) (by decide +kernel) rfl
theorem k_232_290 (L : Nat) (xs : Nat → Int32) : ll_OK1 cL_law RL (some .boolean) false ll_mN ll_mR ll_mK ll_cnt L xs true 290 (.inl (lo_push 291 (.int 3))) := lk_iconst (n := 3) (by decide +kernel) (by decide)
theorem k_232_291 (L : Nat) (xs : Nat → Int32) : ll_OK1 cL_law RL (some .boolean) false ll_mN ll_mR ll_mK ll_cnt L xs true 291 (.inl (lo_bin 292 (fun x y => x + y))) := lk_iadd (by decide +kernel)
theorem k_232_292 (L : Nat) (xs : Nat → Int32) : ll_OK1 cL_law RL (some .boolean) false ll_mN ll_mR ll_mK ll_cnt L xs true 292 (.inl (lo_sld 293 L xs)) := lk_sld (by decide +kernel) rfl
theorem k_232_293 (L : Nat) (xs : Nat → Int32) : ll_OK1 cL_law RL (some .boolean) false ll_mN ll_mR ll_mK ll_cnt L xs true 293 (.inl (lo_aload 294 0)) := lk_aload_n (k := 0) (by decide +kernel) rfl
theorem k_232_294 (L : Nat) (xs : Nat → Int32) : ll_OK1 cL_law RL (some .boolean) false ll_mN ll_mR ll_mK ll_cnt L xs true 294 (.inl (lo_iload 295 3)) := lk_iload_n (k := 3) (by decide +kernel) rfl
theorem k_232_295 (L : Nat) (xs : Nat → Int32) : ll_OK1 cL_law RL (some .boolean) false ll_mN ll_mR ll_mK ll_cnt L xs true 295 (.inl (lo_push 296 (.int 4))) := lk_iconst (n := 4) (by decide +kernel) (by decide)
theorem k_232_296 (L : Nat) (xs : Nat → Int32) : ll_OK1 cL_law RL (some .boolean) false ll_mN ll_mR ll_mK ll_cnt L xs true 296 (.inl (lo_bin 297 (fun x y => x + y))) := lk_iadd (by decide +kernel)
theorem k_232_297 (L : Nat) (xs : Nat → Int32) : ll_OK1 cL_law RL (some .boolean) false ll_mN ll_mR ll_mK ll_cnt L xs true 297 (.inl (lo_sld 298 L xs)) := lk_sld (by decide +kernel) rfl
theorem k_232_298 (L : Nat) (xs : Nat → Int32) : ll_OK1 cL_law RL (some .boolean) false ll_mN ll_mR ll_mK ll_cnt L xs true 298 (.inr (.inl (119, 5, 301))) := ⟨rfl, by decide, by rw [mN_119, mK_119, mR_119]; exact lj_v 39 4 10 (RX10, TX10, 11) (by decide +kernel) tb_862 tb_863 tb_864 rfl rfl rfl rfl (by decide +kernel)⟩
theorem k_232_301 (L : Nat) (xs : Nat → Int32) : ll_OK1 cL_law RL (some .boolean) false ll_mN ll_mR ll_mK ll_cnt L xs true 301 (.inl (lo_aload 302 2)) := lk_aload_n (k := 2) (by decide +kernel) rfl
theorem k_232_302 (L : Nat) (xs : Nat → Int32) : ll_OK1 cL_law RL (some .boolean) false ll_mN ll_mR ll_mK ll_cnt L xs true 302 (.inl (lo_aload 303 0)) := lk_aload_n (k := 0) (by decide +kernel) rfl
theorem k_232_303 (L : Nat) (xs : Nat → Int32) : ll_OK1 cL_law RL (some .boolean) false ll_mN ll_mR ll_mK ll_cnt L xs true 303 (.inl (lo_iload 304 3)) := lk_iload_n (k := 3) (by decide +kernel) rfl
theorem k_232_304 (L : Nat) (xs : Nat → Int32) : ll_OK1 cL_law RL (some .boolean) false ll_mN ll_mR ll_mK ll_cnt L xs true 304 (.inl (lo_push 305 (.int 1))) := lk_iconst (n := 1) (by decide +kernel) (by decide)
theorem k_232_305 (L : Nat) (xs : Nat → Int32) : ll_OK1 cL_law RL (some .boolean) false ll_mN ll_mR ll_mK ll_cnt L xs true 305 (.inl (lo_bin 306 (fun x y => x + y))) := lk_iadd (by decide +kernel)
theorem k_232_306 (L : Nat) (xs : Nat → Int32) : ll_OK1 cL_law RL (some .boolean) false ll_mN ll_mR ll_mK ll_cnt L xs true 306 (.inl (lo_sld 307 L xs)) := lk_sld (by decide +kernel) rfl
theorem k_232_307 (L : Nat) (xs : Nat → Int32) : ll_OK1 cL_law RL (some .boolean) false ll_mN ll_mR ll_mK ll_cnt L xs true 307 (.inl (lo_aload 308 0)) := lk_aload_n (k := 0) (by decide +kernel) rfl
theorem k_232_308 (L : Nat) (xs : Nat → Int32) : ll_OK1 cL_law RL (some .boolean) false ll_mN ll_mR ll_mK ll_cnt L xs true 308 (.inl (lo_iload 309 3)) := lk_iload_n (k := 3) (by decide +kernel) rfl
theorem k_232_309 (L : Nat) (xs : Nat → Int32) : ll_OK1 cL_law RL (some .boolean) false ll_mN ll_mR ll_mK ll_cnt L xs true 309 (.inl (lo_push 310 (.int 2))) := lk_iconst (n := 2) (by decide +kernel) (by decide)
theorem k_232_310 (L : Nat) (xs : Nat → Int32) : ll_OK1 cL_law RL (some .boolean) false ll_mN ll_mR ll_mK ll_cnt L xs true 310 (.inl (lo_bin 311 (fun x y => x + y))) := lk_iadd (by decide +kernel)
theorem k_232_311 (L : Nat) (xs : Nat → Int32) : ll_OK1 cL_law RL (some .boolean) false ll_mN ll_mR ll_mK ll_cnt L xs true 311 (.inl (lo_sld 312 L xs)) := lk_sld (by decide +kernel) rfl
theorem k_232_312 (L : Nat) (xs : Nat → Int32) : ll_OK1 cL_law RL (some .boolean) false ll_mN ll_mR ll_mK ll_cnt L xs true 312 (.inl (lo_aload 313 0)) := lk_aload_n (k := 0) (by decide +kernel) rfl
theorem k_232_313 (L : Nat) (xs : Nat → Int32) : ll_OK1 cL_law RL (some .boolean) false ll_mN ll_mR ll_mK ll_cnt L xs true 313 (.inl (lo_iload 314 3)) := lk_iload_n (k := 3) (by decide +kernel) rfl
theorem k_232_314 (L : Nat) (xs : Nat → Int32) : ll_OK1 cL_law RL (some .boolean) false ll_mN ll_mR ll_mK ll_cnt L xs true 314 (.inl (lo_push 315 (.int 3))) := lk_iconst (n := 3) (by decide +kernel) (by decide)
theorem k_232_315 (L : Nat) (xs : Nat → Int32) : ll_OK1 cL_law RL (some .boolean) false ll_mN ll_mR ll_mK ll_cnt L xs true 315 (.inl (lo_bin 316 (fun x y => x + y))) := lk_iadd (by decide +kernel)
theorem k_232_316 (L : Nat) (xs : Nat → Int32) : ll_OK1 cL_law RL (some .boolean) false ll_mN ll_mR ll_mK ll_cnt L xs true 316 (.inl (lo_sld 317 L xs)) := lk_sld (by decide +kernel) rfl
theorem k_232_317 (L : Nat) (xs : Nat → Int32) : ll_OK1 cL_law RL (some .boolean) false ll_mN ll_mR ll_mK ll_cnt L xs true 317 (.inl (lo_aload 318 0)) := lk_aload_n (k := 0) (by decide +kernel) rfl
theorem k_232_318 (L : Nat) (xs : Nat → Int32) : ll_OK1 cL_law RL (some .boolean) false ll_mN ll_mR ll_mK ll_cnt L xs true 318 (.inl (lo_iload 319 3)) := lk_iload_n (k := 3) (by decide +kernel) rfl
theorem k_232_319 (L : Nat) (xs : Nat → Int32) : ll_OK1 cL_law RL (some .boolean) false ll_mN ll_mR ll_mK ll_cnt L xs true 319 (.inl (lo_push 320 (.int 4))) := lk_iconst (n := 4) (by decide +kernel) (by decide)
theorem k_232_320 (L : Nat) (xs : Nat → Int32) : ll_OK1 cL_law RL (some .boolean) false ll_mN ll_mR ll_mK ll_cnt L xs true 320 (.inl (lo_bin 321 (fun x y => x + y))) := lk_iadd (by decide +kernel)
theorem k_232_321 (L : Nat) (xs : Nat → Int32) : ll_OK1 cL_law RL (some .boolean) false ll_mN ll_mR ll_mK ll_cnt L xs true 321 (.inl (lo_sld 322 L xs)) := lk_sld (by decide +kernel) rfl
theorem k_232_322 (L : Nat) (xs : Nat → Int32) : ll_OK1 cL_law RL (some .boolean) false ll_mN ll_mR ll_mK ll_cnt L xs true 322 (.inr (.inl (215, 5, 325))) := ⟨rfl, by decide, by rw [mN_215, mK_215, mR_215]; exact lj_v 43 4 11 (RX11, TX11, 46) (by decide +kernel) tb_865 tb_866 tb_867 rfl rfl rfl rfl (by decide +kernel)⟩
theorem k_232_325 (L : Nat) (xs : Nat → Int32) : ll_OK1 cL_law RL (some .boolean) false ll_mN ll_mR ll_mK ll_cnt L xs true 325 (.inl (lo_cmp 814 328 (fun x y => decide (x = y)))) := lk_icmp_eq (off := 489) (by decide +kernel) rfl
theorem k_232_328 (L : Nat) (xs : Nat → Int32) : ll_OK1 cL_law RL (some .boolean) false ll_mN ll_mR ll_mK ll_cnt L xs true 328 (.inl (lo_push 329 (.int 0))) := lk_iconst (n := 0) (by decide +kernel) (by decide)
theorem k_232_329 (L : Nat) (xs : Nat → Int32) : ll_OK1 cL_law RL (some .boolean) false ll_mN ll_mR ll_mK ll_cnt L xs true 329 (.inr (.inr 2)) := ⟨(fun h => by cases h), (fun h => by cases h), fun _ => ⟨(by decide +kernel), rfl⟩⟩
theorem k_232_330 (L : Nat) (xs : Nat → Int32) : ll_OK1 cL_law RL (some .boolean) false ll_mN ll_mR ll_mK ll_cnt L xs true 330 (.inl (lo_aload 331 1)) := lk_aload_n (k := 1) (by decide +kernel) rfl
theorem k_232_331 (L : Nat) (xs : Nat → Int32) : ll_OK1 cL_law RL (some .boolean) false ll_mN ll_mR ll_mK ll_cnt L xs true 331 (.inl (lo_aload 332 0)) := lk_aload_n (k := 0) (by decide +kernel) rfl
theorem k_232_332 (L : Nat) (xs : Nat → Int32) : ll_OK1 cL_law RL (some .boolean) false ll_mN ll_mR ll_mK ll_cnt L xs true 332 (.inl (lo_iload 333 3)) := lk_iload_n (k := 3) (by decide +kernel) rfl
theorem k_232_333 (L : Nat) (xs : Nat → Int32) : ll_OK1 cL_law RL (some .boolean) false ll_mN ll_mR ll_mK ll_cnt L xs true 333 (.inl (lo_push 334 (.int 1))) := lk_iconst (n := 1) (by decide +kernel) (by decide)
theorem k_232_334 (L : Nat) (xs : Nat → Int32) : ll_OK1 cL_law RL (some .boolean) false ll_mN ll_mR ll_mK ll_cnt L xs true 334 (.inl (lo_bin 335 (fun x y => x + y))) := lk_iadd (by decide +kernel)
theorem k_232_335 (L : Nat) (xs : Nat → Int32) : ll_OK1 cL_law RL (some .boolean) false ll_mN ll_mR ll_mK ll_cnt L xs true 335 (.inl (lo_sld 336 L xs)) := lk_sld (by decide +kernel) rfl
theorem k_232_336 (L : Nat) (xs : Nat → Int32) : ll_OK1 cL_law RL (some .boolean) false ll_mN ll_mR ll_mK ll_cnt L xs true 336 (.inl (lo_aload 337 0)) := lk_aload_n (k := 0) (by decide +kernel) rfl
theorem k_232_337 (L : Nat) (xs : Nat → Int32) : ll_OK1 cL_law RL (some .boolean) false ll_mN ll_mR ll_mK ll_cnt L xs true 337 (.inl (lo_iload 338 3)) := lk_iload_n (k := 3) (by decide +kernel) rfl
theorem k_232_338 (L : Nat) (xs : Nat → Int32) : ll_OK1 cL_law RL (some .boolean) false ll_mN ll_mR ll_mK ll_cnt L xs true 338 (.inl (lo_push 339 (.int 2))) := lk_iconst (n := 2) (by decide +kernel) (by decide)
theorem k_232_339 (L : Nat) (xs : Nat → Int32) : ll_OK1 cL_law RL (some .boolean) false ll_mN ll_mR ll_mK ll_cnt L xs true 339 (.inl (lo_bin 340 (fun x y => x + y))) := lk_iadd (by decide +kernel)
theorem k_232_340 (L : Nat) (xs : Nat → Int32) : ll_OK1 cL_law RL (some .boolean) false ll_mN ll_mR ll_mK ll_cnt L xs true 340 (.inl (lo_sld 341 L xs)) := lk_sld (by decide +kernel) rfl
theorem k_232_341 (L : Nat) (xs : Nat → Int32) : ll_OK1 cL_law RL (some .boolean) false ll_mN ll_mR ll_mK ll_cnt L xs true 341 (.inr (.inl (120, 3, 344))) := ⟨rfl, by decide, by rw [mN_120, mK_120, mR_120]; exact lj_v 44 2 10 (RX10, TX10, 11) (by decide +kernel) tb_868 tb_869 tb_870 rfl rfl rfl rfl (by decide +kernel)⟩
theorem k_232_344 (L : Nat) (xs : Nat → Int32) : ll_OK1 cL_law RL (some .boolean) false ll_mN ll_mR ll_mK ll_cnt L xs true 344 (.inl (lo_aload 345 2)) := lk_aload_n (k := 2) (by decide +kernel) rfl
theorem k_232_345 (L : Nat) (xs : Nat → Int32) : ll_OK1 cL_law RL (some .boolean) false ll_mN ll_mR ll_mK ll_cnt L xs true 345 (.inl (lo_aload 346 0)) := lk_aload_n (k := 0) (by decide +kernel) rfl
theorem k_232_346 (L : Nat) (xs : Nat → Int32) : ll_OK1 cL_law RL (some .boolean) false ll_mN ll_mR ll_mK ll_cnt L xs true 346 (.inl (lo_iload 347 3)) := lk_iload_n (k := 3) (by decide +kernel) rfl
theorem k_232_347 (L : Nat) (xs : Nat → Int32) : ll_OK1 cL_law RL (some .boolean) false ll_mN ll_mR ll_mK ll_cnt L xs true 347 (.inl (lo_push 348 (.int 1))) := lk_iconst (n := 1) (by decide +kernel) (by decide)
theorem k_232_348 (L : Nat) (xs : Nat → Int32) : ll_OK1 cL_law RL (some .boolean) false ll_mN ll_mR ll_mK ll_cnt L xs true 348 (.inl (lo_bin 349 (fun x y => x + y))) := lk_iadd (by decide +kernel)
theorem k_232_349 (L : Nat) (xs : Nat → Int32) : ll_OK1 cL_law RL (some .boolean) false ll_mN ll_mR ll_mK ll_cnt L xs true 349 (.inl (lo_sld 350 L xs)) := lk_sld (by decide +kernel) rfl
theorem k_232_350 (L : Nat) (xs : Nat → Int32) : ll_OK1 cL_law RL (some .boolean) false ll_mN ll_mR ll_mK ll_cnt L xs true 350 (.inl (lo_aload 351 0)) := lk_aload_n (k := 0) (by decide +kernel) rfl
theorem k_232_351 (L : Nat) (xs : Nat → Int32) : ll_OK1 cL_law RL (some .boolean) false ll_mN ll_mR ll_mK ll_cnt L xs true 351 (.inl (lo_iload 352 3)) := lk_iload_n (k := 3) (by decide +kernel) rfl
theorem k_232_352 (L : Nat) (xs : Nat → Int32) : ll_OK1 cL_law RL (some .boolean) false ll_mN ll_mR ll_mK ll_cnt L xs true 352 (.inl (lo_push 353 (.int 2))) := lk_iconst (n := 2) (by decide +kernel) (by decide)
theorem k_232_353 (L : Nat) (xs : Nat → Int32) : ll_OK1 cL_law RL (some .boolean) false ll_mN ll_mR ll_mK ll_cnt L xs true 353 (.inl (lo_bin 354 (fun x y => x + y))) := lk_iadd (by decide +kernel)
theorem k_232_354 (L : Nat) (xs : Nat → Int32) : ll_OK1 cL_law RL (some .boolean) false ll_mN ll_mR ll_mK ll_cnt L xs true 354 (.inl (lo_sld 355 L xs)) := lk_sld (by decide +kernel) rfl
theorem k_232_355 (L : Nat) (xs : Nat → Int32) : ll_OK1 cL_law RL (some .boolean) false ll_mN ll_mR ll_mK ll_cnt L xs true 355 (.inr (.inl (218, 3, 358))) := ⟨rfl, by decide, by rw [mN_218, mK_218, mR_218]; exact lj_v 48 2 11 (RX11, TX11, 46) (by decide +kernel) tb_871 tb_872 tb_873 rfl rfl rfl rfl (by decide +kernel)⟩
theorem k_232_358 (L : Nat) (xs : Nat → Int32) : ll_OK1 cL_law RL (some .boolean) false ll_mN ll_mR ll_mK ll_cnt L xs true 358 (.inl (lo_cmp 814 361 (fun x y => decide (x = y)))) := lk_icmp_eq (off := 456) (by decide +kernel) rfl
theorem k_232_361 (L : Nat) (xs : Nat → Int32) : ll_OK1 cL_law RL (some .boolean) false ll_mN ll_mR ll_mK ll_cnt L xs true 361 (.inl (lo_push 362 (.int 0))) := lk_iconst (n := 0) (by decide +kernel) (by decide)
theorem k_232_362 (L : Nat) (xs : Nat → Int32) : ll_OK1 cL_law RL (some .boolean) false ll_mN ll_mR ll_mK ll_cnt L xs true 362 (.inr (.inr 2)) := ⟨(fun h => by cases h), (fun h => by cases h), fun _ => ⟨(by decide +kernel), rfl⟩⟩
theorem k_232_363 (L : Nat) (xs : Nat → Int32) : ll_OK1 cL_law RL (some .boolean) false ll_mN ll_mR ll_mK ll_cnt L xs true 363 (.inl (lo_aload 364 1)) := lk_aload_n (k := 1) (by decide +kernel) rfl
theorem k_232_364 (L : Nat) (xs : Nat → Int32) : ll_OK1 cL_law RL (some .boolean) false ll_mN ll_mR ll_mK ll_cnt L xs true 364 (.inl (lo_aload 365 0)) := lk_aload_n (k := 0) (by decide +kernel) rfl
theorem k_232_365 (L : Nat) (xs : Nat → Int32) : ll_OK1 cL_law RL (some .boolean) false ll_mN ll_mR ll_mK ll_cnt L xs true 365 (.inl (lo_iload 366 3)) := lk_iload_n (k := 3) (by decide +kernel) rfl
theorem k_232_366 (L : Nat) (xs : Nat → Int32) : ll_OK1 cL_law RL (some .boolean) false ll_mN ll_mR ll_mK ll_cnt L xs true 366 (.inl (lo_push 367 (.int 1))) := lk_iconst (n := 1) (by decide +kernel) (by decide)
theorem k_232_367 (L : Nat) (xs : Nat → Int32) : ll_OK1 cL_law RL (some .boolean) false ll_mN ll_mR ll_mK ll_cnt L xs true 367 (.inl (lo_bin 368 (fun x y => x + y))) := lk_iadd (by decide +kernel)
theorem k_232_368 (L : Nat) (xs : Nat → Int32) : ll_OK1 cL_law RL (some .boolean) false ll_mN ll_mR ll_mK ll_cnt L xs true 368 (.inl (lo_sld 369 L xs)) := lk_sld (by decide +kernel) rfl
theorem k_232_369 (L : Nat) (xs : Nat → Int32) : ll_OK1 cL_law RL (some .boolean) false ll_mN ll_mR ll_mK ll_cnt L xs true 369 (.inl (lo_aload 370 0)) := lk_aload_n (k := 0) (by decide +kernel) rfl
theorem k_232_370 (L : Nat) (xs : Nat → Int32) : ll_OK1 cL_law RL (some .boolean) false ll_mN ll_mR ll_mK ll_cnt L xs true 370 (.inl (lo_iload 371 3)) := lk_iload_n (k := 3) (by decide +kernel) rfl
theorem k_232_371 (L : Nat) (xs : Nat → Int32) : ll_OK1 cL_law RL (some .boolean) false ll_mN ll_mR ll_mK ll_cnt L xs true 371 (.inl (lo_push 372 (.int 2))) := lk_iconst (n := 2) (by decide +kernel) (by decide)
theorem k_232_372 (L : Nat) (xs : Nat → Int32) : ll_OK1 cL_law RL (some .boolean) false ll_mN ll_mR ll_mK ll_cnt L xs true 372 (.inl (lo_bin 373 (fun x y => x + y))) := lk_iadd (by decide +kernel)
theorem k_232_373 (L : Nat) (xs : Nat → Int32) : ll_OK1 cL_law RL (some .boolean) false ll_mN ll_mR ll_mK ll_cnt L xs true 373 (.inl (lo_sld 374 L xs)) := lk_sld (by decide +kernel) rfl
theorem k_232_374 (L : Nat) (xs : Nat → Int32) : ll_OK1 cL_law RL (some .boolean) false ll_mN ll_mR ll_mK ll_cnt L xs true 374 (.inl (lo_aload 375 0)) := lk_aload_n (k := 0) (by decide +kernel) rfl
theorem k_232_375 (L : Nat) (xs : Nat → Int32) : ll_OK1 cL_law RL (some .boolean) false ll_mN ll_mR ll_mK ll_cnt L xs true 375 (.inl (lo_iload 376 3)) := lk_iload_n (k := 3) (by decide +kernel) rfl
theorem k_232_376 (L : Nat) (xs : Nat → Int32) : ll_OK1 cL_law RL (some .boolean) false ll_mN ll_mR ll_mK ll_cnt L xs true 376 (.inl (lo_push 377 (.int 3))) := lk_iconst (n := 3) (by decide +kernel) (by decide)
theorem k_232_377 (L : Nat) (xs : Nat → Int32) : ll_OK1 cL_law RL (some .boolean) false ll_mN ll_mR ll_mK ll_cnt L xs true 377 (.inl (lo_bin 378 (fun x y => x + y))) := lk_iadd (by decide +kernel)
theorem k_232_378 (L : Nat) (xs : Nat → Int32) : ll_OK1 cL_law RL (some .boolean) false ll_mN ll_mR ll_mK ll_cnt L xs true 378 (.inl (lo_sld 379 L xs)) := lk_sld (by decide +kernel) rfl
theorem k_232_379 (L : Nat) (xs : Nat → Int32) : ll_OK1 cL_law RL (some .boolean) false ll_mN ll_mR ll_mK ll_cnt L xs true 379 (.inr (.inl (121, 4, 382))) := ⟨rfl, by decide, by rw [mN_121, mK_121, mR_121]; exact lj_v 49 3 10 (RX10, TX10, 11) (by decide +kernel) tb_874 tb_875 tb_876 rfl rfl rfl rfl (by decide +kernel)⟩
theorem k_232_382 (L : Nat) (xs : Nat → Int32) : ll_OK1 cL_law RL (some .boolean) false ll_mN ll_mR ll_mK ll_cnt L xs true 382 (.inl (lo_aload 383 2)) := lk_aload_n (k := 2) (by decide +kernel) rfl
theorem k_232_383 (L : Nat) (xs : Nat → Int32) : ll_OK1 cL_law RL (some .boolean) false ll_mN ll_mR ll_mK ll_cnt L xs true 383 (.inl (lo_aload 384 0)) := lk_aload_n (k := 0) (by decide +kernel) rfl
theorem k_232_384 (L : Nat) (xs : Nat → Int32) : ll_OK1 cL_law RL (some .boolean) false ll_mN ll_mR ll_mK ll_cnt L xs true 384 (.inl (lo_iload 385 3)) := lk_iload_n (k := 3) (by decide +kernel) rfl
theorem k_232_385 (L : Nat) (xs : Nat → Int32) : ll_OK1 cL_law RL (some .boolean) false ll_mN ll_mR ll_mK ll_cnt L xs true 385 (.inl (lo_push 386 (.int 1))) := lk_iconst (n := 1) (by decide +kernel) (by decide)
theorem k_232_386 (L : Nat) (xs : Nat → Int32) : ll_OK1 cL_law RL (some .boolean) false ll_mN ll_mR ll_mK ll_cnt L xs true 386 (.inl (lo_bin 387 (fun x y => x + y))) := lk_iadd (by decide +kernel)
theorem k_232_387 (L : Nat) (xs : Nat → Int32) : ll_OK1 cL_law RL (some .boolean) false ll_mN ll_mR ll_mK ll_cnt L xs true 387 (.inl (lo_sld 388 L xs)) := lk_sld (by decide +kernel) rfl
theorem k_232_388 (L : Nat) (xs : Nat → Int32) : ll_OK1 cL_law RL (some .boolean) false ll_mN ll_mR ll_mK ll_cnt L xs true 388 (.inl (lo_aload 389 0)) := lk_aload_n (k := 0) (by decide +kernel) rfl
theorem k_232_389 (L : Nat) (xs : Nat → Int32) : ll_OK1 cL_law RL (some .boolean) false ll_mN ll_mR ll_mK ll_cnt L xs true 389 (.inl (lo_iload 390 3)) := lk_iload_n (k := 3) (by decide +kernel) rfl
theorem k_232_390 (L : Nat) (xs : Nat → Int32) : ll_OK1 cL_law RL (some .boolean) false ll_mN ll_mR ll_mK ll_cnt L xs true 390 (.inl (lo_push 391 (.int 2))) := lk_iconst (n := 2) (by decide +kernel) (by decide)
theorem k_232_391 (L : Nat) (xs : Nat → Int32) : ll_OK1 cL_law RL (some .boolean) false ll_mN ll_mR ll_mK ll_cnt L xs true 391 (.inl (lo_bin 392 (fun x y => x + y))) := lk_iadd (by decide +kernel)
theorem k_232_392 (L : Nat) (xs : Nat → Int32) : ll_OK1 cL_law RL (some .boolean) false ll_mN ll_mR ll_mK ll_cnt L xs true 392 (.inl (lo_sld 393 L xs)) := lk_sld (by decide +kernel) rfl
theorem k_232_393 (L : Nat) (xs : Nat → Int32) : ll_OK1 cL_law RL (some .boolean) false ll_mN ll_mR ll_mK ll_cnt L xs true 393 (.inl (lo_aload 394 0)) := lk_aload_n (k := 0) (by decide +kernel) rfl
theorem k_232_394 (L : Nat) (xs : Nat → Int32) : ll_OK1 cL_law RL (some .boolean) false ll_mN ll_mR ll_mK ll_cnt L xs true 394 (.inl (lo_iload 395 3)) := lk_iload_n (k := 3) (by decide +kernel) rfl
theorem k_232_395 (L : Nat) (xs : Nat → Int32) : ll_OK1 cL_law RL (some .boolean) false ll_mN ll_mR ll_mK ll_cnt L xs true 395 (.inl (lo_push 396 (.int 3))) := lk_iconst (n := 3) (by decide +kernel) (by decide)
theorem k_232_396 (L : Nat) (xs : Nat → Int32) : ll_OK1 cL_law RL (some .boolean) false ll_mN ll_mR ll_mK ll_cnt L xs true 396 (.inl (lo_bin 397 (fun x y => x + y))) := lk_iadd (by decide +kernel)
theorem k_232_397 (L : Nat) (xs : Nat → Int32) : ll_OK1 cL_law RL (some .boolean) false ll_mN ll_mR ll_mK ll_cnt L xs true 397 (.inl (lo_sld 398 L xs)) := lk_sld (by decide +kernel) rfl
theorem k_232_398 (L : Nat) (xs : Nat → Int32) : ll_OK1 cL_law RL (some .boolean) false ll_mN ll_mR ll_mK ll_cnt L xs true 398 (.inr (.inl (219, 4, 401))) := ⟨rfl, by decide, by rw [mN_219, mK_219, mR_219]; exact lj_v 53 3 11 (RX11, TX11, 46) (by decide +kernel) tb_877 tb_878 tb_879 rfl rfl rfl rfl (by decide +kernel)⟩
theorem k_232_401 (L : Nat) (xs : Nat → Int32) : ll_OK1 cL_law RL (some .boolean) false ll_mN ll_mR ll_mK ll_cnt L xs true 401 (.inl (lo_cmp 814 404 (fun x y => decide (x = y)))) := lk_icmp_eq (off := 413) (by decide +kernel) rfl
theorem k_232_404 (L : Nat) (xs : Nat → Int32) : ll_OK1 cL_law RL (some .boolean) false ll_mN ll_mR ll_mK ll_cnt L xs true 404 (.inl (lo_push 405 (.int 0))) := lk_iconst (n := 0) (by decide +kernel) (by decide)
theorem k_232_405 (L : Nat) (xs : Nat → Int32) : ll_OK1 cL_law RL (some .boolean) false ll_mN ll_mR ll_mK ll_cnt L xs true 405 (.inr (.inr 2)) := ⟨(fun h => by cases h), (fun h => by cases h), fun _ => ⟨(by decide +kernel), rfl⟩⟩
theorem k_232_406 (L : Nat) (xs : Nat → Int32) : ll_OK1 cL_law RL (some .boolean) false ll_mN ll_mR ll_mK ll_cnt L xs true 406 (.inl (lo_aload 407 1)) := lk_aload_n (k := 1) (by decide +kernel) rfl
theorem k_232_407 (L : Nat) (xs : Nat → Int32) : ll_OK1 cL_law RL (some .boolean) false ll_mN ll_mR ll_mK ll_cnt L xs true 407 (.inl (lo_aload 408 0)) := lk_aload_n (k := 0) (by decide +kernel) rfl
theorem k_232_408 (L : Nat) (xs : Nat → Int32) : ll_OK1 cL_law RL (some .boolean) false ll_mN ll_mR ll_mK ll_cnt L xs true 408 (.inl (lo_iload 409 3)) := lk_iload_n (k := 3) (by decide +kernel) rfl
theorem k_232_409 (L : Nat) (xs : Nat → Int32) : ll_OK1 cL_law RL (some .boolean) false ll_mN ll_mR ll_mK ll_cnt L xs true 409 (.inl (lo_push 410 (.int 1))) := lk_iconst (n := 1) (by decide +kernel) (by decide)
theorem k_232_410 (L : Nat) (xs : Nat → Int32) : ll_OK1 cL_law RL (some .boolean) false ll_mN ll_mR ll_mK ll_cnt L xs true 410 (.inl (lo_bin 411 (fun x y => x + y))) := lk_iadd (by decide +kernel)
theorem k_232_411 (L : Nat) (xs : Nat → Int32) : ll_OK1 cL_law RL (some .boolean) false ll_mN ll_mR ll_mK ll_cnt L xs true 411 (.inl (lo_sld 412 L xs)) := lk_sld (by decide +kernel) rfl
theorem k_232_412 (L : Nat) (xs : Nat → Int32) : ll_OK1 cL_law RL (some .boolean) false ll_mN ll_mR ll_mK ll_cnt L xs true 412 (.inl (lo_aload 413 0)) := lk_aload_n (k := 0) (by decide +kernel) rfl
theorem k_232_413 (L : Nat) (xs : Nat → Int32) : ll_OK1 cL_law RL (some .boolean) false ll_mN ll_mR ll_mK ll_cnt L xs true 413 (.inl (lo_iload 414 3)) := lk_iload_n (k := 3) (by decide +kernel) rfl
theorem k_232_414 (L : Nat) (xs : Nat → Int32) : ll_OK1 cL_law RL (some .boolean) false ll_mN ll_mR ll_mK ll_cnt L xs true 414 (.inl (lo_push 415 (.int 2))) := lk_iconst (n := 2) (by decide +kernel) (by decide)
theorem k_232_415 (L : Nat) (xs : Nat → Int32) : ll_OK1 cL_law RL (some .boolean) false ll_mN ll_mR ll_mK ll_cnt L xs true 415 (.inl (lo_bin 416 (fun x y => x + y))) := lk_iadd (by decide +kernel)
theorem k_232_416 (L : Nat) (xs : Nat → Int32) : ll_OK1 cL_law RL (some .boolean) false ll_mN ll_mR ll_mK ll_cnt L xs true 416 (.inl (lo_sld 417 L xs)) := lk_sld (by decide +kernel) rfl
theorem k_232_417 (L : Nat) (xs : Nat → Int32) : ll_OK1 cL_law RL (some .boolean) false ll_mN ll_mR ll_mK ll_cnt L xs true 417 (.inr (.inl (122, 3, 420))) := ⟨rfl, by decide, by rw [mN_122, mK_122, mR_122]; exact lj_v 54 2 10 (RX10, TX10, 11) (by decide +kernel) tb_880 tb_881 tb_882 rfl rfl rfl rfl (by decide +kernel)⟩
theorem k_232_420 (L : Nat) (xs : Nat → Int32) : ll_OK1 cL_law RL (some .boolean) false ll_mN ll_mR ll_mK ll_cnt L xs true 420 (.inl (lo_aload 421 2)) := lk_aload_n (k := 2) (by decide +kernel) rfl
theorem k_232_421 (L : Nat) (xs : Nat → Int32) : ll_OK1 cL_law RL (some .boolean) false ll_mN ll_mR ll_mK ll_cnt L xs true 421 (.inl (lo_aload 422 0)) := lk_aload_n (k := 0) (by decide +kernel) rfl
theorem k_232_422 (L : Nat) (xs : Nat → Int32) : ll_OK1 cL_law RL (some .boolean) false ll_mN ll_mR ll_mK ll_cnt L xs true 422 (.inl (lo_iload 423 3)) := lk_iload_n (k := 3) (by decide +kernel) rfl
theorem k_232_423 (L : Nat) (xs : Nat → Int32) : ll_OK1 cL_law RL (some .boolean) false ll_mN ll_mR ll_mK ll_cnt L xs true 423 (.inl (lo_push 424 (.int 1))) := lk_iconst (n := 1) (by decide +kernel) (by decide)
theorem k_232_424 (L : Nat) (xs : Nat → Int32) : ll_OK1 cL_law RL (some .boolean) false ll_mN ll_mR ll_mK ll_cnt L xs true 424 (.inl (lo_bin 425 (fun x y => x + y))) := lk_iadd (by decide +kernel)
theorem k_232_425 (L : Nat) (xs : Nat → Int32) : ll_OK1 cL_law RL (some .boolean) false ll_mN ll_mR ll_mK ll_cnt L xs true 425 (.inl (lo_sld 426 L xs)) := lk_sld (by decide +kernel) rfl
theorem k_232_426 (L : Nat) (xs : Nat → Int32) : ll_OK1 cL_law RL (some .boolean) false ll_mN ll_mR ll_mK ll_cnt L xs true 426 (.inl (lo_aload 427 0)) := lk_aload_n (k := 0) (by decide +kernel) rfl
theorem k_232_427 (L : Nat) (xs : Nat → Int32) : ll_OK1 cL_law RL (some .boolean) false ll_mN ll_mR ll_mK ll_cnt L xs true 427 (.inl (lo_iload 428 3)) := lk_iload_n (k := 3) (by decide +kernel) rfl
theorem k_232_428 (L : Nat) (xs : Nat → Int32) : ll_OK1 cL_law RL (some .boolean) false ll_mN ll_mR ll_mK ll_cnt L xs true 428 (.inl (lo_push 429 (.int 2))) := lk_iconst (n := 2) (by decide +kernel) (by decide)
theorem k_232_429 (L : Nat) (xs : Nat → Int32) : ll_OK1 cL_law RL (some .boolean) false ll_mN ll_mR ll_mK ll_cnt L xs true 429 (.inl (lo_bin 430 (fun x y => x + y))) := lk_iadd (by decide +kernel)
theorem k_232_430 (L : Nat) (xs : Nat → Int32) : ll_OK1 cL_law RL (some .boolean) false ll_mN ll_mR ll_mK ll_cnt L xs true 430 (.inl (lo_sld 431 L xs)) := lk_sld (by decide +kernel) rfl
theorem k_232_431 (L : Nat) (xs : Nat → Int32) : ll_OK1 cL_law RL (some .boolean) false ll_mN ll_mR ll_mK ll_cnt L xs true 431 (.inr (.inl (220, 3, 434))) := ⟨rfl, by decide, by rw [mN_220, mK_220, mR_220]; exact lj_v 57 2 11 (RX11, TX11, 46) (by decide +kernel) tb_883 tb_884 tb_885 rfl rfl rfl rfl (by decide +kernel)⟩
theorem k_232_434 (L : Nat) (xs : Nat → Int32) : ll_OK1 cL_law RL (some .boolean) false ll_mN ll_mR ll_mK ll_cnt L xs true 434 (.inl (lo_cmp 814 437 (fun x y => decide (x = y)))) := lk_icmp_eq (off := 380) (by decide +kernel) rfl
theorem k_232_437 (L : Nat) (xs : Nat → Int32) : ll_OK1 cL_law RL (some .boolean) false ll_mN ll_mR ll_mK ll_cnt L xs true 437 (.inl (lo_push 438 (.int 0))) := lk_iconst (n := 0) (by decide +kernel) (by decide)
theorem k_232_438 (L : Nat) (xs : Nat → Int32) : ll_OK1 cL_law RL (some .boolean) false ll_mN ll_mR ll_mK ll_cnt L xs true 438 (.inr (.inr 2)) := ⟨(fun h => by cases h), (fun h => by cases h), fun _ => ⟨(by decide +kernel), rfl⟩⟩
theorem k_232_439 (L : Nat) (xs : Nat → Int32) : ll_OK1 cL_law RL (some .boolean) false ll_mN ll_mR ll_mK ll_cnt L xs true 439 (.inl (lo_aload 440 1)) := lk_aload_n (k := 1) (by decide +kernel) rfl
theorem k_232_440 (L : Nat) (xs : Nat → Int32) : ll_OK1 cL_law RL (some .boolean) false ll_mN ll_mR ll_mK ll_cnt L xs true 440 (.inl (lo_aload 441 0)) := lk_aload_n (k := 0) (by decide +kernel) rfl
theorem k_232_441 (L : Nat) (xs : Nat → Int32) : ll_OK1 cL_law RL (some .boolean) false ll_mN ll_mR ll_mK ll_cnt L xs true 441 (.inl (lo_iload 442 3)) := lk_iload_n (k := 3) (by decide +kernel) rfl
theorem k_232_442 (L : Nat) (xs : Nat → Int32) : ll_OK1 cL_law RL (some .boolean) false ll_mN ll_mR ll_mK ll_cnt L xs true 442 (.inl (lo_push 443 (.int 1))) := lk_iconst (n := 1) (by decide +kernel) (by decide)
theorem k_232_443 (L : Nat) (xs : Nat → Int32) : ll_OK1 cL_law RL (some .boolean) false ll_mN ll_mR ll_mK ll_cnt L xs true 443 (.inl (lo_bin 444 (fun x y => x + y))) := lk_iadd (by decide +kernel)
theorem k_232_444 (L : Nat) (xs : Nat → Int32) : ll_OK1 cL_law RL (some .boolean) false ll_mN ll_mR ll_mK ll_cnt L xs true 444 (.inl (lo_sld 445 L xs)) := lk_sld (by decide +kernel) rfl
theorem k_232_445 (L : Nat) (xs : Nat → Int32) : ll_OK1 cL_law RL (some .boolean) false ll_mN ll_mR ll_mK ll_cnt L xs true 445 (.inr (.inl (123, 2, 448))) := ⟨rfl, by decide, by rw [mN_123, mK_123, mR_123]; exact lj_v 58 1 10 (RX10, TX10, 11) (by decide +kernel) tb_886 tb_887 tb_888 rfl rfl rfl rfl (by decide +kernel)⟩
theorem k_232_448 (L : Nat) (xs : Nat → Int32) : ll_OK1 cL_law RL (some .boolean) false ll_mN ll_mR ll_mK ll_cnt L xs true 448 (.inl (lo_aload 449 2)) := lk_aload_n (k := 2) (by decide +kernel) rfl
theorem k_232_449 (L : Nat) (xs : Nat → Int32) : ll_OK1 cL_law RL (some .boolean) false ll_mN ll_mR ll_mK ll_cnt L xs true 449 (.inl (lo_aload 450 0)) := lk_aload_n (k := 0) (by decide +kernel) rfl
theorem k_232_450 (L : Nat) (xs : Nat → Int32) : ll_OK1 cL_law RL (some .boolean) false ll_mN ll_mR ll_mK ll_cnt L xs true 450 (.inl (lo_iload 451 3)) := lk_iload_n (k := 3) (by decide +kernel) rfl
theorem k_232_451 (L : Nat) (xs : Nat → Int32) : ll_OK1 cL_law RL (some .boolean) false ll_mN ll_mR ll_mK ll_cnt L xs true 451 (.inl (lo_push 452 (.int 1))) := lk_iconst (n := 1) (by decide +kernel) (by decide)
theorem k_232_452 (L : Nat) (xs : Nat → Int32) : ll_OK1 cL_law RL (some .boolean) false ll_mN ll_mR ll_mK ll_cnt L xs true 452 (.inl (lo_bin 453 (fun x y => x + y))) := lk_iadd (by decide +kernel)
theorem k_232_453 (L : Nat) (xs : Nat → Int32) : ll_OK1 cL_law RL (some .boolean) false ll_mN ll_mR ll_mK ll_cnt L xs true 453 (.inl (lo_sld 454 L xs)) := lk_sld (by decide +kernel) rfl
theorem k_232_454 (L : Nat) (xs : Nat → Int32) : ll_OK1 cL_law RL (some .boolean) false ll_mN ll_mR ll_mK ll_cnt L xs true 454 (.inr (.inl (221, 2, 457))) := ⟨rfl, by decide, by rw [mN_221, mK_221, mR_221]; exact lj_v 62 1 11 (RX11, TX11, 46) (by decide +kernel) tb_889 tb_890 tb_891 rfl rfl rfl rfl (by decide +kernel)⟩
theorem k_232_457 (L : Nat) (xs : Nat → Int32) : ll_OK1 cL_law RL (some .boolean) false ll_mN ll_mR ll_mK ll_cnt L xs true 457 (.inl (lo_cmp 814 460 (fun x y => decide (x = y)))) := lk_icmp_eq (off := 357) (by decide +kernel) rfl
theorem k_232_460 (L : Nat) (xs : Nat → Int32) : ll_OK1 cL_law RL (some .boolean) false ll_mN ll_mR ll_mK ll_cnt L xs true 460 (.inl (lo_push 461 (.int 0))) := lk_iconst (n := 0) (by decide +kernel) (by decide)
theorem k_232_461 (L : Nat) (xs : Nat → Int32) : ll_OK1 cL_law RL (some .boolean) false ll_mN ll_mR ll_mK ll_cnt L xs true 461 (.inr (.inr 2)) := ⟨(fun h => by cases h), (fun h => by cases h), fun _ => ⟨(by decide +kernel), rfl⟩⟩
theorem k_232_462 (L : Nat) (xs : Nat → Int32) : ll_OK1 cL_law RL (some .boolean) false ll_mN ll_mR ll_mK ll_cnt L xs true 462 (.inl (lo_aload 463 1)) := lk_aload_n (k := 1) (by decide +kernel) rfl
theorem k_232_463 (L : Nat) (xs : Nat → Int32) : ll_OK1 cL_law RL (some .boolean) false ll_mN ll_mR ll_mK ll_cnt L xs true 463 (.inl (lo_aload 464 0)) := lk_aload_n (k := 0) (by decide +kernel) rfl
theorem k_232_464 (L : Nat) (xs : Nat → Int32) : ll_OK1 cL_law RL (some .boolean) false ll_mN ll_mR ll_mK ll_cnt L xs true 464 (.inl (lo_iload 465 3)) := lk_iload_n (k := 3) (by decide +kernel) rfl
theorem k_232_465 (L : Nat) (xs : Nat → Int32) : ll_OK1 cL_law RL (some .boolean) false ll_mN ll_mR ll_mK ll_cnt L xs true 465 (.inl (lo_push 466 (.int 1))) := lk_iconst (n := 1) (by decide +kernel) (by decide)
theorem k_232_466 (L : Nat) (xs : Nat → Int32) : ll_OK1 cL_law RL (some .boolean) false ll_mN ll_mR ll_mK ll_cnt L xs true 466 (.inl (lo_bin 467 (fun x y => x + y))) := lk_iadd (by decide +kernel)
theorem k_232_467 (L : Nat) (xs : Nat → Int32) : ll_OK1 cL_law RL (some .boolean) false ll_mN ll_mR ll_mK ll_cnt L xs true 467 (.inl (lo_sld 468 L xs)) := lk_sld (by decide +kernel) rfl
theorem k_232_468 (L : Nat) (xs : Nat → Int32) : ll_OK1 cL_law RL (some .boolean) false ll_mN ll_mR ll_mK ll_cnt L xs true 468 (.inl (lo_aload 469 0)) := lk_aload_n (k := 0) (by decide +kernel) rfl
theorem k_232_469 (L : Nat) (xs : Nat → Int32) : ll_OK1 cL_law RL (some .boolean) false ll_mN ll_mR ll_mK ll_cnt L xs true 469 (.inl (lo_iload 470 3)) := lk_iload_n (k := 3) (by decide +kernel) rfl
theorem k_232_470 (L : Nat) (xs : Nat → Int32) : ll_OK1 cL_law RL (some .boolean) false ll_mN ll_mR ll_mK ll_cnt L xs true 470 (.inl (lo_push 471 (.int 2))) := lk_iconst (n := 2) (by decide +kernel) (by decide)
theorem k_232_471 (L : Nat) (xs : Nat → Int32) : ll_OK1 cL_law RL (some .boolean) false ll_mN ll_mR ll_mK ll_cnt L xs true 471 (.inl (lo_bin 472 (fun x y => x + y))) := lk_iadd (by decide +kernel)
theorem k_232_472 (L : Nat) (xs : Nat → Int32) : ll_OK1 cL_law RL (some .boolean) false ll_mN ll_mR ll_mK ll_cnt L xs true 472 (.inl (lo_sld 473 L xs)) := lk_sld (by decide +kernel) rfl
theorem k_232_473 (L : Nat) (xs : Nat → Int32) : ll_OK1 cL_law RL (some .boolean) false ll_mN ll_mR ll_mK ll_cnt L xs true 473 (.inr (.inl (124, 3, 476))) := ⟨rfl, by decide, by rw [mN_124, mK_124, mR_124]; exact lj_v 63 2 10 (RX10, TX10, 11) (by decide +kernel) tb_892 tb_893 tb_894 rfl rfl rfl rfl (by decide +kernel)⟩
theorem k_232_476 (L : Nat) (xs : Nat → Int32) : ll_OK1 cL_law RL (some .boolean) false ll_mN ll_mR ll_mK ll_cnt L xs true 476 (.inl (lo_aload 477 2)) := lk_aload_n (k := 2) (by decide +kernel) rfl
theorem k_232_477 (L : Nat) (xs : Nat → Int32) : ll_OK1 cL_law RL (some .boolean) false ll_mN ll_mR ll_mK ll_cnt L xs true 477 (.inl (lo_aload 478 0)) := lk_aload_n (k := 0) (by decide +kernel) rfl
theorem k_232_478 (L : Nat) (xs : Nat → Int32) : ll_OK1 cL_law RL (some .boolean) false ll_mN ll_mR ll_mK ll_cnt L xs true 478 (.inl (lo_iload 479 3)) := lk_iload_n (k := 3) (by decide +kernel) rfl
theorem k_232_479 (L : Nat) (xs : Nat → Int32) : ll_OK1 cL_law RL (some .boolean) false ll_mN ll_mR ll_mK ll_cnt L xs true 479 (.inl (lo_push 480 (.int 1))) := lk_iconst (n := 1) (by decide +kernel) (by decide)
theorem k_232_480 (L : Nat) (xs : Nat → Int32) : ll_OK1 cL_law RL (some .boolean) false ll_mN ll_mR ll_mK ll_cnt L xs true 480 (.inl (lo_bin 481 (fun x y => x + y))) := lk_iadd (by decide +kernel)
theorem k_232_481 (L : Nat) (xs : Nat → Int32) : ll_OK1 cL_law RL (some .boolean) false ll_mN ll_mR ll_mK ll_cnt L xs true 481 (.inl (lo_sld 482 L xs)) := lk_sld (by decide +kernel) rfl
theorem k_232_482 (L : Nat) (xs : Nat → Int32) : ll_OK1 cL_law RL (some .boolean) false ll_mN ll_mR ll_mK ll_cnt L xs true 482 (.inl (lo_aload 483 0)) := lk_aload_n (k := 0) (by decide +kernel) rfl
theorem k_232_483 (L : Nat) (xs : Nat → Int32) : ll_OK1 cL_law RL (some .boolean) false ll_mN ll_mR ll_mK ll_cnt L xs true 483 (.inl (lo_iload 484 3)) := lk_iload_n (k := 3) (by decide +kernel) rfl
theorem k_232_484 (L : Nat) (xs : Nat → Int32) : ll_OK1 cL_law RL (some .boolean) false ll_mN ll_mR ll_mK ll_cnt L xs true 484 (.inl (lo_push 485 (.int 2))) := lk_iconst (n := 2) (by decide +kernel) (by decide)
theorem k_232_485 (L : Nat) (xs : Nat → Int32) : ll_OK1 cL_law RL (some .boolean) false ll_mN ll_mR ll_mK ll_cnt L xs true 485 (.inl (lo_bin 486 (fun x y => x + y))) := lk_iadd (by decide +kernel)
theorem k_232_486 (L : Nat) (xs : Nat → Int32) : ll_OK1 cL_law RL (some .boolean) false ll_mN ll_mR ll_mK ll_cnt L xs true 486 (.inl (lo_sld 487 L xs)) := lk_sld (by decide +kernel) rfl
theorem k_232_487 (L : Nat) (xs : Nat → Int32) : ll_OK1 cL_law RL (some .boolean) false ll_mN ll_mR ll_mK ll_cnt L xs true 487 (.inr (.inl (227, 3, 490))) := ⟨rfl, by decide, by rw [mN_227, mK_227, mR_227]; exact lj_v 66 2 11 (RX11, TX11, 46) (by decide +kernel) tb_895 tb_896 tb_897 rfl rfl rfl rfl (by decide +kernel)⟩
theorem k_232_490 (L : Nat) (xs : Nat → Int32) : ll_OK1 cL_law RL (some .boolean) false ll_mN ll_mR ll_mK ll_cnt L xs true 490 (.inl (lo_cmp 814 493 (fun x y => decide (x = y)))) := lk_icmp_eq (off := 324) (by decide +kernel) rfl
theorem k_232_493 (L : Nat) (xs : Nat → Int32) : ll_OK1 cL_law RL (some .boolean) false ll_mN ll_mR ll_mK ll_cnt L xs true 493 (.inl (lo_push 494 (.int 0))) := lk_iconst (n := 0) (by decide +kernel) (by decide)
theorem k_232_494 (L : Nat) (xs : Nat → Int32) : ll_OK1 cL_law RL (some .boolean) false ll_mN ll_mR ll_mK ll_cnt L xs true 494 (.inr (.inr 2)) := ⟨(fun h => by cases h), (fun h => by cases h), fun _ => ⟨(by decide +kernel), rfl⟩⟩
theorem k_232_495 (L : Nat) (xs : Nat → Int32) : ll_OK1 cL_law RL (some .boolean) false ll_mN ll_mR ll_mK ll_cnt L xs true 495 (.inl (lo_aload 496 1)) := lk_aload_n (k := 1) (by decide +kernel) rfl
theorem k_232_496 (L : Nat) (xs : Nat → Int32) : ll_OK1 cL_law RL (some .boolean) false ll_mN ll_mR ll_mK ll_cnt L xs true 496 (.inl (lo_aload 497 0)) := lk_aload_n (k := 0) (by decide +kernel) rfl
theorem k_232_497 (L : Nat) (xs : Nat → Int32) : ll_OK1 cL_law RL (some .boolean) false ll_mN ll_mR ll_mK ll_cnt L xs true 497 (.inl (lo_iload 498 3)) := lk_iload_n (k := 3) (by decide +kernel) rfl
theorem k_232_498 (L : Nat) (xs : Nat → Int32) : ll_OK1 cL_law RL (some .boolean) false ll_mN ll_mR ll_mK ll_cnt L xs true 498 (.inl (lo_push 499 (.int 1))) := lk_iconst (n := 1) (by decide +kernel) (by decide)
theorem k_232_499 (L : Nat) (xs : Nat → Int32) : ll_OK1 cL_law RL (some .boolean) false ll_mN ll_mR ll_mK ll_cnt L xs true 499 (.inl (lo_bin 500 (fun x y => x + y))) := lk_iadd (by decide +kernel)
theorem k_232_500 (L : Nat) (xs : Nat → Int32) : ll_OK1 cL_law RL (some .boolean) false ll_mN ll_mR ll_mK ll_cnt L xs true 500 (.inl (lo_sld 501 L xs)) := lk_sld (by decide +kernel) rfl
theorem k_232_501 (L : Nat) (xs : Nat → Int32) : ll_OK1 cL_law RL (some .boolean) false ll_mN ll_mR ll_mK ll_cnt L xs true 501 (.inl (lo_aload 502 0)) := lk_aload_n (k := 0) (by decide +kernel) rfl
theorem k_232_502 (L : Nat) (xs : Nat → Int32) : ll_OK1 cL_law RL (some .boolean) false ll_mN ll_mR ll_mK ll_cnt L xs true 502 (.inl (lo_iload 503 3)) := lk_iload_n (k := 3) (by decide +kernel) rfl
theorem k_232_503 (L : Nat) (xs : Nat → Int32) : ll_OK1 cL_law RL (some .boolean) false ll_mN ll_mR ll_mK ll_cnt L xs true 503 (.inl (lo_push 504 (.int 2))) := lk_iconst (n := 2) (by decide +kernel) (by decide)
theorem k_232_504 (L : Nat) (xs : Nat → Int32) : ll_OK1 cL_law RL (some .boolean) false ll_mN ll_mR ll_mK ll_cnt L xs true 504 (.inl (lo_bin 505 (fun x y => x + y))) := lk_iadd (by decide +kernel)
theorem k_232_505 (L : Nat) (xs : Nat → Int32) : ll_OK1 cL_law RL (some .boolean) false ll_mN ll_mR ll_mK ll_cnt L xs true 505 (.inl (lo_sld 506 L xs)) := lk_sld (by decide +kernel) rfl
theorem k_232_506 (L : Nat) (xs : Nat → Int32) : ll_OK1 cL_law RL (some .boolean) false ll_mN ll_mR ll_mK ll_cnt L xs true 506 (.inl (lo_aload 507 0)) := lk_aload_n (k := 0) (by decide +kernel) rfl
theorem k_232_507 (L : Nat) (xs : Nat → Int32) : ll_OK1 cL_law RL (some .boolean) false ll_mN ll_mR ll_mK ll_cnt L xs true 507 (.inl (lo_iload 508 3)) := lk_iload_n (k := 3) (by decide +kernel) rfl
theorem k_232_508 (L : Nat) (xs : Nat → Int32) : ll_OK1 cL_law RL (some .boolean) false ll_mN ll_mR ll_mK ll_cnt L xs true 508 (.inl (lo_push 509 (.int 3))) := lk_iconst (n := 3) (by decide +kernel) (by decide)
theorem k_232_509 (L : Nat) (xs : Nat → Int32) : ll_OK1 cL_law RL (some .boolean) false ll_mN ll_mR ll_mK ll_cnt L xs true 509 (.inl (lo_bin 510 (fun x y => x + y))) := lk_iadd (by decide +kernel)
theorem k_232_510 (L : Nat) (xs : Nat → Int32) : ll_OK1 cL_law RL (some .boolean) false ll_mN ll_mR ll_mK ll_cnt L xs true 510 (.inl (lo_sld 511 L xs)) := lk_sld (by decide +kernel) rfl
theorem k_232_511 (L : Nat) (xs : Nat → Int32) : ll_OK1 cL_law RL (some .boolean) false ll_mN ll_mR ll_mK ll_cnt L xs true 511 (.inr (.inl (125, 4, 514))) := ⟨rfl, by decide, by rw [mN_125, mK_125, mR_125]; exact lj_v 67 3 10 (RX10, TX10, 11) (by decide +kernel) tb_898 tb_899 tb_900 rfl rfl rfl rfl (by decide +kernel)⟩
theorem k_232_514 (L : Nat) (xs : Nat → Int32) : ll_OK1 cL_law RL (some .boolean) false ll_mN ll_mR ll_mK ll_cnt L xs true 514 (.inl (lo_aload 515 2)) := lk_aload_n (k := 2) (by decide +kernel) rfl
theorem k_232_515 (L : Nat) (xs : Nat → Int32) : ll_OK1 cL_law RL (some .boolean) false ll_mN ll_mR ll_mK ll_cnt L xs true 515 (.inl (lo_aload 516 0)) := lk_aload_n (k := 0) (by decide +kernel) rfl
theorem k_232_516 (L : Nat) (xs : Nat → Int32) : ll_OK1 cL_law RL (some .boolean) false ll_mN ll_mR ll_mK ll_cnt L xs true 516 (.inl (lo_iload 517 3)) := lk_iload_n (k := 3) (by decide +kernel) rfl
theorem k_232_517 (L : Nat) (xs : Nat → Int32) : ll_OK1 cL_law RL (some .boolean) false ll_mN ll_mR ll_mK ll_cnt L xs true 517 (.inl (lo_push 518 (.int 1))) := lk_iconst (n := 1) (by decide +kernel) (by decide)
theorem k_232_518 (L : Nat) (xs : Nat → Int32) : ll_OK1 cL_law RL (some .boolean) false ll_mN ll_mR ll_mK ll_cnt L xs true 518 (.inl (lo_bin 519 (fun x y => x + y))) := lk_iadd (by decide +kernel)
theorem k_232_519 (L : Nat) (xs : Nat → Int32) : ll_OK1 cL_law RL (some .boolean) false ll_mN ll_mR ll_mK ll_cnt L xs true 519 (.inl (lo_sld 520 L xs)) := lk_sld (by decide +kernel) rfl
theorem k_232_520 (L : Nat) (xs : Nat → Int32) : ll_OK1 cL_law RL (some .boolean) false ll_mN ll_mR ll_mK ll_cnt L xs true 520 (.inl (lo_aload 521 0)) := lk_aload_n (k := 0) (by decide +kernel) rfl
theorem k_232_521 (L : Nat) (xs : Nat → Int32) : ll_OK1 cL_law RL (some .boolean) false ll_mN ll_mR ll_mK ll_cnt L xs true 521 (.inl (lo_iload 522 3)) := lk_iload_n (k := 3) (by decide +kernel) rfl
theorem k_232_522 (L : Nat) (xs : Nat → Int32) : ll_OK1 cL_law RL (some .boolean) false ll_mN ll_mR ll_mK ll_cnt L xs true 522 (.inl (lo_push 523 (.int 2))) := lk_iconst (n := 2) (by decide +kernel) (by decide)
theorem k_232_523 (L : Nat) (xs : Nat → Int32) : ll_OK1 cL_law RL (some .boolean) false ll_mN ll_mR ll_mK ll_cnt L xs true 523 (.inl (lo_bin 524 (fun x y => x + y))) := lk_iadd (by decide +kernel)
theorem k_232_524 (L : Nat) (xs : Nat → Int32) : ll_OK1 cL_law RL (some .boolean) false ll_mN ll_mR ll_mK ll_cnt L xs true 524 (.inl (lo_sld 525 L xs)) := lk_sld (by decide +kernel) rfl
theorem k_232_525 (L : Nat) (xs : Nat → Int32) : ll_OK1 cL_law RL (some .boolean) false ll_mN ll_mR ll_mK ll_cnt L xs true 525 (.inl (lo_aload 526 0)) := lk_aload_n (k := 0) (by decide +kernel) rfl
theorem k_232_526 (L : Nat) (xs : Nat → Int32) : ll_OK1 cL_law RL (some .boolean) false ll_mN ll_mR ll_mK ll_cnt L xs true 526 (.inl (lo_iload 527 3)) := lk_iload_n (k := 3) (by decide +kernel) rfl
theorem k_232_527 (L : Nat) (xs : Nat → Int32) : ll_OK1 cL_law RL (some .boolean) false ll_mN ll_mR ll_mK ll_cnt L xs true 527 (.inl (lo_push 528 (.int 3))) := lk_iconst (n := 3) (by decide +kernel) (by decide)
theorem k_232_528 (L : Nat) (xs : Nat → Int32) : ll_OK1 cL_law RL (some .boolean) false ll_mN ll_mR ll_mK ll_cnt L xs true 528 (.inl (lo_bin 529 (fun x y => x + y))) := lk_iadd (by decide +kernel)
theorem k_232_529 (L : Nat) (xs : Nat → Int32) : ll_OK1 cL_law RL (some .boolean) false ll_mN ll_mR ll_mK ll_cnt L xs true 529 (.inl (lo_sld 530 L xs)) := lk_sld (by decide +kernel) rfl
theorem k_232_530 (L : Nat) (xs : Nat → Int32) : ll_OK1 cL_law RL (some .boolean) false ll_mN ll_mR ll_mK ll_cnt L xs true 530 (.inr (.inl (228, 4, 533))) := ⟨rfl, by decide, by rw [mN_228, mK_228, mR_228]; exact lj_v 70 3 11 (RX11, TX11, 46) (by decide +kernel) tb_901 tb_902 tb_903 rfl rfl rfl rfl (by decide +kernel)⟩
theorem k_232_533 (L : Nat) (xs : Nat → Int32) : ll_OK1 cL_law RL (some .boolean) false ll_mN ll_mR ll_mK ll_cnt L xs true 533 (.inl (lo_cmp 814 536 (fun x y => decide (x = y)))) := lk_icmp_eq (off := 281) (by decide +kernel) rfl
theorem k_232_536 (L : Nat) (xs : Nat → Int32) : ll_OK1 cL_law RL (some .boolean) false ll_mN ll_mR ll_mK ll_cnt L xs true 536 (.inl (lo_push 537 (.int 0))) := lk_iconst (n := 0) (by decide +kernel) (by decide)
theorem k_232_537 (L : Nat) (xs : Nat → Int32) : ll_OK1 cL_law RL (some .boolean) false ll_mN ll_mR ll_mK ll_cnt L xs true 537 (.inr (.inr 2)) := ⟨(fun h => by cases h), (fun h => by cases h), fun _ => ⟨(by decide +kernel), rfl⟩⟩
theorem k_232_538 (L : Nat) (xs : Nat → Int32) : ll_OK1 cL_law RL (some .boolean) false ll_mN ll_mR ll_mK ll_cnt L xs true 538 (.inl (lo_aload 539 1)) := lk_aload_n (k := 1) (by decide +kernel) rfl
theorem k_232_539 (L : Nat) (xs : Nat → Int32) : ll_OK1 cL_law RL (some .boolean) false ll_mN ll_mR ll_mK ll_cnt L xs true 539 (.inr (.inl (126, 1, 542))) := ⟨rfl, by decide, by rw [mN_126, mK_126, mR_126]; exact lj_v 71 0 10 (RX10, TX10, 11) (by decide +kernel) tb_904 tb_905 tb_906 rfl rfl rfl rfl (by decide +kernel)⟩
theorem k_232_542 (L : Nat) (xs : Nat → Int32) : ll_OK1 cL_law RL (some .boolean) false ll_mN ll_mR ll_mK ll_cnt L xs true 542 (.inl (lo_aload 543 2)) := lk_aload_n (k := 2) (by decide +kernel) rfl
theorem k_232_543 (L : Nat) (xs : Nat → Int32) : ll_OK1 cL_law RL (some .boolean) false ll_mN ll_mR ll_mK ll_cnt L xs true 543 (.inr (.inl (191, 1, 546))) := ⟨rfl, by decide, by rw [mN_191, mK_191, mR_191]; exact lj_v 74 0 11 (RX11, TX11, 46) (by decide +kernel) tb_907 tb_908 tb_909 rfl rfl rfl rfl (by decide +kernel)⟩
theorem k_232_546 (L : Nat) (xs : Nat → Int32) : ll_OK1 cL_law RL (some .boolean) false ll_mN ll_mR ll_mK ll_cnt L xs true 546 (.inl (lo_cmp 814 549 (fun x y => decide (x = y)))) := lk_icmp_eq (off := 268) (by decide +kernel) rfl
theorem k_232_549 (L : Nat) (xs : Nat → Int32) : ll_OK1 cL_law RL (some .boolean) false ll_mN ll_mR ll_mK ll_cnt L xs true 549 (.inl (lo_push 550 (.int 0))) := lk_iconst (n := 0) (by decide +kernel) (by decide)
theorem k_232_550 (L : Nat) (xs : Nat → Int32) : ll_OK1 cL_law RL (some .boolean) false ll_mN ll_mR ll_mK ll_cnt L xs true 550 (.inr (.inr 2)) := ⟨(fun h => by cases h), (fun h => by cases h), fun _ => ⟨(by decide +kernel), rfl⟩⟩
theorem k_232_551 (L : Nat) (xs : Nat → Int32) : ll_OK1 cL_law RL (some .boolean) false ll_mN ll_mR ll_mK ll_cnt L xs true 551 (.inl (lo_aload 552 1)) := lk_aload_n (k := 1) (by decide +kernel) rfl
theorem k_232_552 (L : Nat) (xs : Nat → Int32) : ll_OK1 cL_law RL (some .boolean) false ll_mN ll_mR ll_mK ll_cnt L xs true 552 (.inl (lo_aload 553 0)) := lk_aload_n (k := 0) (by decide +kernel) rfl
theorem k_232_553 (L : Nat) (xs : Nat → Int32) : ll_OK1 cL_law RL (some .boolean) false ll_mN ll_mR ll_mK ll_cnt L xs true 553 (.inl (lo_iload 554 3)) := lk_iload_n (k := 3) (by decide +kernel) rfl
theorem k_232_554 (L : Nat) (xs : Nat → Int32) : ll_OK1 cL_law RL (some .boolean) false ll_mN ll_mR ll_mK ll_cnt L xs true 554 (.inl (lo_push 555 (.int 1))) := lk_iconst (n := 1) (by decide +kernel) (by decide)
theorem k_232_555 (L : Nat) (xs : Nat → Int32) : ll_OK1 cL_law RL (some .boolean) false ll_mN ll_mR ll_mK ll_cnt L xs true 555 (.inl (lo_bin 556 (fun x y => x + y))) := lk_iadd (by decide +kernel)
theorem k_232_556 (L : Nat) (xs : Nat → Int32) : ll_OK1 cL_law RL (some .boolean) false ll_mN ll_mR ll_mK ll_cnt L xs true 556 (.inl (lo_sld 557 L xs)) := lk_sld (by decide +kernel) rfl
theorem k_232_557 (L : Nat) (xs : Nat → Int32) : ll_OK1 cL_law RL (some .boolean) false ll_mN ll_mR ll_mK ll_cnt L xs true 557 (.inr (.inl (127, 2, 560))) := ⟨rfl, by decide, by rw [mN_127, mK_127, mR_127]; exact lj_v 75 1 10 (RX10, TX10, 11) (by decide +kernel) tb_910 tb_911 tb_912 rfl rfl rfl rfl (by decide +kernel)⟩
theorem k_232_560 (L : Nat) (xs : Nat → Int32) : ll_OK1 cL_law RL (some .boolean) false ll_mN ll_mR ll_mK ll_cnt L xs true 560 (.inl (lo_aload 561 2)) := lk_aload_n (k := 2) (by decide +kernel) rfl
theorem k_232_561 (L : Nat) (xs : Nat → Int32) : ll_OK1 cL_law RL (some .boolean) false ll_mN ll_mR ll_mK ll_cnt L xs true 561 (.inl (lo_aload 562 0)) := lk_aload_n (k := 0) (by decide +kernel) rfl
theorem k_232_562 (L : Nat) (xs : Nat → Int32) : ll_OK1 cL_law RL (some .boolean) false ll_mN ll_mR ll_mK ll_cnt L xs true 562 (.inl (lo_iload 563 3)) := lk_iload_n (k := 3) (by decide +kernel) rfl
theorem k_232_563 (L : Nat) (xs : Nat → Int32) : ll_OK1 cL_law RL (some .boolean) false ll_mN ll_mR ll_mK ll_cnt L xs true 563 (.inl (lo_push 564 (.int 1))) := lk_iconst (n := 1) (by decide +kernel) (by decide)
theorem k_232_564 (L : Nat) (xs : Nat → Int32) : ll_OK1 cL_law RL (some .boolean) false ll_mN ll_mR ll_mK ll_cnt L xs true 564 (.inl (lo_bin 565 (fun x y => x + y))) := lk_iadd (by decide +kernel)
theorem k_232_565 (L : Nat) (xs : Nat → Int32) : ll_OK1 cL_law RL (some .boolean) false ll_mN ll_mR ll_mK ll_cnt L xs true 565 (.inl (lo_sld 566 L xs)) := lk_sld (by decide +kernel) rfl
theorem k_232_566 (L : Nat) (xs : Nat → Int32) : ll_OK1 cL_law RL (some .boolean) false ll_mN ll_mR ll_mK ll_cnt L xs true 566 (.inr (.inl (196, 2, 569))) := ⟨rfl, by decide, by rw [mN_196, mK_196, mR_196]; exact lj_v 78 1 11 (RX11, TX11, 46) (by decide +kernel) tb_913 tb_914 tb_915 rfl rfl rfl rfl (by decide +kernel)⟩
theorem k_232_569 (L : Nat) (xs : Nat → Int32) : ll_OK1 cL_law RL (some .boolean) false ll_mN ll_mR ll_mK ll_cnt L xs true 569 (.inl (lo_cmp 814 572 (fun x y => decide (x = y)))) := lk_icmp_eq (off := 245) (by decide +kernel) rfl
theorem k_232_572 (L : Nat) (xs : Nat → Int32) : ll_OK1 cL_law RL (some .boolean) false ll_mN ll_mR ll_mK ll_cnt L xs true 572 (.inl (lo_push 573 (.int 0))) := lk_iconst (n := 0) (by decide +kernel) (by decide)
theorem k_232_573 (L : Nat) (xs : Nat → Int32) : ll_OK1 cL_law RL (some .boolean) false ll_mN ll_mR ll_mK ll_cnt L xs true 573 (.inr (.inr 2)) := ⟨(fun h => by cases h), (fun h => by cases h), fun _ => ⟨(by decide +kernel), rfl⟩⟩
theorem k_232_574 (L : Nat) (xs : Nat → Int32) : ll_OK1 cL_law RL (some .boolean) false ll_mN ll_mR ll_mK ll_cnt L xs true 574 (.inl (lo_aload 575 1)) := lk_aload_n (k := 1) (by decide +kernel) rfl
theorem k_232_575 (L : Nat) (xs : Nat → Int32) : ll_OK1 cL_law RL (some .boolean) false ll_mN ll_mR ll_mK ll_cnt L xs true 575 (.inl (lo_aload 576 0)) := lk_aload_n (k := 0) (by decide +kernel) rfl
theorem k_232_576 (L : Nat) (xs : Nat → Int32) : ll_OK1 cL_law RL (some .boolean) false ll_mN ll_mR ll_mK ll_cnt L xs true 576 (.inl (lo_iload 577 3)) := lk_iload_n (k := 3) (by decide +kernel) rfl
theorem k_232_577 (L : Nat) (xs : Nat → Int32) : ll_OK1 cL_law RL (some .boolean) false ll_mN ll_mR ll_mK ll_cnt L xs true 577 (.inl (lo_push 578 (.int 1))) := lk_iconst (n := 1) (by decide +kernel) (by decide)
theorem k_232_578 (L : Nat) (xs : Nat → Int32) : ll_OK1 cL_law RL (some .boolean) false ll_mN ll_mR ll_mK ll_cnt L xs true 578 (.inl (lo_bin 579 (fun x y => x + y))) := lk_iadd (by decide +kernel)
theorem k_232_579 (L : Nat) (xs : Nat → Int32) : ll_OK1 cL_law RL (some .boolean) false ll_mN ll_mR ll_mK ll_cnt L xs true 579 (.inl (lo_sld 580 L xs)) := lk_sld (by decide +kernel) rfl
theorem k_232_580 (L : Nat) (xs : Nat → Int32) : ll_OK1 cL_law RL (some .boolean) false ll_mN ll_mR ll_mK ll_cnt L xs true 580 (.inr (.inl (128, 2, 583))) := ⟨rfl, by decide, by rw [mN_128, mK_128, mR_128]; exact lj_v 79 1 10 (RX10, TX10, 11) (by decide +kernel) tb_916 tb_917 tb_918 rfl rfl rfl rfl (by decide +kernel)⟩
theorem k_232_583 (L : Nat) (xs : Nat → Int32) : ll_OK1 cL_law RL (some .boolean) false ll_mN ll_mR ll_mK ll_cnt L xs true 583 (.inl (lo_aload 584 2)) := lk_aload_n (k := 2) (by decide +kernel) rfl
theorem k_232_584 (L : Nat) (xs : Nat → Int32) : ll_OK1 cL_law RL (some .boolean) false ll_mN ll_mR ll_mK ll_cnt L xs true 584 (.inl (lo_aload 585 0)) := lk_aload_n (k := 0) (by decide +kernel) rfl
theorem k_232_585 (L : Nat) (xs : Nat → Int32) : ll_OK1 cL_law RL (some .boolean) false ll_mN ll_mR ll_mK ll_cnt L xs true 585 (.inl (lo_iload 586 3)) := lk_iload_n (k := 3) (by decide +kernel) rfl
theorem k_232_586 (L : Nat) (xs : Nat → Int32) : ll_OK1 cL_law RL (some .boolean) false ll_mN ll_mR ll_mK ll_cnt L xs true 586 (.inl (lo_push 587 (.int 1))) := lk_iconst (n := 1) (by decide +kernel) (by decide)
theorem k_232_587 (L : Nat) (xs : Nat → Int32) : ll_OK1 cL_law RL (some .boolean) false ll_mN ll_mR ll_mK ll_cnt L xs true 587 (.inl (lo_bin 588 (fun x y => x + y))) := lk_iadd (by decide +kernel)
theorem k_232_588 (L : Nat) (xs : Nat → Int32) : ll_OK1 cL_law RL (some .boolean) false ll_mN ll_mR ll_mK ll_cnt L xs true 588 (.inl (lo_sld 589 L xs)) := lk_sld (by decide +kernel) rfl
theorem k_232_589 (L : Nat) (xs : Nat → Int32) : ll_OK1 cL_law RL (some .boolean) false ll_mN ll_mR ll_mK ll_cnt L xs true 589 (.inr (.inl (202, 2, 592))) := ⟨rfl, by decide, by rw [mN_202, mK_202, mR_202]; exact lj_v 82 1 11 (RX11, TX11, 46) (by decide +kernel) tb_919 tb_920 tb_921 rfl rfl rfl rfl (by decide +kernel)⟩
theorem k_232_592 (L : Nat) (xs : Nat → Int32) : ll_OK1 cL_law RL (some .boolean) false ll_mN ll_mR ll_mK ll_cnt L xs true 592 (.inl (lo_cmp 814 595 (fun x y => decide (x = y)))) := lk_icmp_eq (off := 222) (by decide +kernel) rfl
theorem k_232_595 (L : Nat) (xs : Nat → Int32) : ll_OK1 cL_law RL (some .boolean) false ll_mN ll_mR ll_mK ll_cnt L xs true 595 (.inl (lo_push 596 (.int 0))) := lk_iconst (n := 0) (by decide +kernel) (by decide)
theorem k_232_596 (L : Nat) (xs : Nat → Int32) : ll_OK1 cL_law RL (some .boolean) false ll_mN ll_mR ll_mK ll_cnt L xs true 596 (.inr (.inr 2)) := ⟨(fun h => by cases h), (fun h => by cases h), fun _ => ⟨(by decide +kernel), rfl⟩⟩
theorem k_232_597 (L : Nat) (xs : Nat → Int32) : ll_OK1 cL_law RL (some .boolean) false ll_mN ll_mR ll_mK ll_cnt L xs true 597 (.inl (lo_aload 598 1)) := lk_aload_n (k := 1) (by decide +kernel) rfl
theorem k_232_598 (L : Nat) (xs : Nat → Int32) : ll_OK1 cL_law RL (some .boolean) false ll_mN ll_mR ll_mK ll_cnt L xs true 598 (.inl (lo_aload 599 0)) := lk_aload_n (k := 0) (by decide +kernel) rfl
theorem k_232_599 (L : Nat) (xs : Nat → Int32) : ll_OK1 cL_law RL (some .boolean) false ll_mN ll_mR ll_mK ll_cnt L xs true 599 (.inl (lo_iload 600 3)) := lk_iload_n (k := 3) (by decide +kernel) rfl
theorem k_232_600 (L : Nat) (xs : Nat → Int32) : ll_OK1 cL_law RL (some .boolean) false ll_mN ll_mR ll_mK ll_cnt L xs true 600 (.inl (lo_push 601 (.int 1))) := lk_iconst (n := 1) (by decide +kernel) (by decide)
theorem k_232_601 (L : Nat) (xs : Nat → Int32) : ll_OK1 cL_law RL (some .boolean) false ll_mN ll_mR ll_mK ll_cnt L xs true 601 (.inl (lo_bin 602 (fun x y => x + y))) := lk_iadd (by decide +kernel)
theorem k_232_602 (L : Nat) (xs : Nat → Int32) : ll_OK1 cL_law RL (some .boolean) false ll_mN ll_mR ll_mK ll_cnt L xs true 602 (.inl (lo_sld 603 L xs)) := lk_sld (by decide +kernel) rfl
theorem k_232_603 (L : Nat) (xs : Nat → Int32) : ll_OK1 cL_law RL (some .boolean) false ll_mN ll_mR ll_mK ll_cnt L xs true 603 (.inl (lo_aload 604 0)) := lk_aload_n (k := 0) (by decide +kernel) rfl
theorem k_232_604 (L : Nat) (xs : Nat → Int32) : ll_OK1 cL_law RL (some .boolean) false ll_mN ll_mR ll_mK ll_cnt L xs true 604 (.inl (lo_iload 605 3)) := lk_iload_n (k := 3) (by decide +kernel) rfl
theorem k_232_605 (L : Nat) (xs : Nat → Int32) : ll_OK1 cL_law RL (some .boolean) false ll_mN ll_mR ll_mK ll_cnt L xs true 605 (.inl (lo_push 606 (.int 2))) := lk_iconst (n := 2) (by decide +kernel) (by decide)
theorem k_232_606 (L : Nat) (xs : Nat → Int32) : ll_OK1 cL_law RL (some .boolean) false ll_mN ll_mR ll_mK ll_cnt L xs true 606 (.inl (lo_bin 607 (fun x y => x + y))) := lk_iadd (by decide +kernel)
theorem k_232_607 (L : Nat) (xs : Nat → Int32) : ll_OK1 cL_law RL (some .boolean) false ll_mN ll_mR ll_mK ll_cnt L xs true 607 (.inl (lo_sld 608 L xs)) := lk_sld (by decide +kernel) rfl
theorem k_232_608 (L : Nat) (xs : Nat → Int32) : ll_OK1 cL_law RL (some .boolean) false ll_mN ll_mR ll_mK ll_cnt L xs true 608 (.inr (.inl (129, 3, 611))) := ⟨rfl, by decide, by rw [mN_129, mK_129, mR_129]; exact lj_v 83 2 10 (RX10, TX10, 11) (by decide +kernel) tb_922 tb_923 tb_924 rfl rfl rfl rfl (by decide +kernel)⟩
theorem k_232_611 (L : Nat) (xs : Nat → Int32) : ll_OK1 cL_law RL (some .boolean) false ll_mN ll_mR ll_mK ll_cnt L xs true 611 (.inl (lo_aload 612 2)) := lk_aload_n (k := 2) (by decide +kernel) rfl
theorem k_232_612 (L : Nat) (xs : Nat → Int32) : ll_OK1 cL_law RL (some .boolean) false ll_mN ll_mR ll_mK ll_cnt L xs true 612 (.inl (lo_aload 613 0)) := lk_aload_n (k := 0) (by decide +kernel) rfl
theorem k_232_613 (L : Nat) (xs : Nat → Int32) : ll_OK1 cL_law RL (some .boolean) false ll_mN ll_mR ll_mK ll_cnt L xs true 613 (.inl (lo_iload 614 3)) := lk_iload_n (k := 3) (by decide +kernel) rfl
theorem k_232_614 (L : Nat) (xs : Nat → Int32) : ll_OK1 cL_law RL (some .boolean) false ll_mN ll_mR ll_mK ll_cnt L xs true 614 (.inl (lo_push 615 (.int 1))) := lk_iconst (n := 1) (by decide +kernel) (by decide)
theorem k_232_615 (L : Nat) (xs : Nat → Int32) : ll_OK1 cL_law RL (some .boolean) false ll_mN ll_mR ll_mK ll_cnt L xs true 615 (.inl (lo_bin 616 (fun x y => x + y))) := lk_iadd (by decide +kernel)
theorem k_232_616 (L : Nat) (xs : Nat → Int32) : ll_OK1 cL_law RL (some .boolean) false ll_mN ll_mR ll_mK ll_cnt L xs true 616 (.inl (lo_sld 617 L xs)) := lk_sld (by decide +kernel) rfl
theorem k_232_617 (L : Nat) (xs : Nat → Int32) : ll_OK1 cL_law RL (some .boolean) false ll_mN ll_mR ll_mK ll_cnt L xs true 617 (.inl (lo_aload 618 0)) := lk_aload_n (k := 0) (by decide +kernel) rfl
theorem k_232_618 (L : Nat) (xs : Nat → Int32) : ll_OK1 cL_law RL (some .boolean) false ll_mN ll_mR ll_mK ll_cnt L xs true 618 (.inl (lo_iload 619 3)) := lk_iload_n (k := 3) (by decide +kernel) rfl
theorem k_232_619 (L : Nat) (xs : Nat → Int32) : ll_OK1 cL_law RL (some .boolean) false ll_mN ll_mR ll_mK ll_cnt L xs true 619 (.inl (lo_push 620 (.int 2))) := lk_iconst (n := 2) (by decide +kernel) (by decide)
theorem k_232_620 (L : Nat) (xs : Nat → Int32) : ll_OK1 cL_law RL (some .boolean) false ll_mN ll_mR ll_mK ll_cnt L xs true 620 (.inl (lo_bin 621 (fun x y => x + y))) := lk_iadd (by decide +kernel)
theorem k_232_621 (L : Nat) (xs : Nat → Int32) : ll_OK1 cL_law RL (some .boolean) false ll_mN ll_mR ll_mK ll_cnt L xs true 621 (.inl (lo_sld 622 L xs)) := lk_sld (by decide +kernel) rfl
theorem k_232_622 (L : Nat) (xs : Nat → Int32) : ll_OK1 cL_law RL (some .boolean) false ll_mN ll_mR ll_mK ll_cnt L xs true 622 (.inr (.inl (197, 3, 625))) := ⟨rfl, by decide, by rw [mN_197, mK_197, mR_197]; exact lj_v 86 2 11 (RX11, TX11, 46) (by decide +kernel) tb_925 tb_926 tb_927 rfl rfl rfl rfl (by decide +kernel)⟩
theorem k_232_625 (L : Nat) (xs : Nat → Int32) : ll_OK1 cL_law RL (some .boolean) false ll_mN ll_mR ll_mK ll_cnt L xs true 625 (.inl (lo_cmp 814 628 (fun x y => decide (x = y)))) := lk_icmp_eq (off := 189) (by decide +kernel) rfl
theorem k_232_628 (L : Nat) (xs : Nat → Int32) : ll_OK1 cL_law RL (some .boolean) false ll_mN ll_mR ll_mK ll_cnt L xs true 628 (.inl (lo_push 629 (.int 0))) := lk_iconst (n := 0) (by decide +kernel) (by decide)
theorem k_232_629 (L : Nat) (xs : Nat → Int32) : ll_OK1 cL_law RL (some .boolean) false ll_mN ll_mR ll_mK ll_cnt L xs true 629 (.inr (.inr 2)) := ⟨(fun h => by cases h), (fun h => by cases h), fun _ => ⟨(by decide +kernel), rfl⟩⟩
theorem k_232_630 (L : Nat) (xs : Nat → Int32) : ll_OK1 cL_law RL (some .boolean) false ll_mN ll_mR ll_mK ll_cnt L xs true 630 (.inl (lo_aload 631 1)) := lk_aload_n (k := 1) (by decide +kernel) rfl
theorem k_232_631 (L : Nat) (xs : Nat → Int32) : ll_OK1 cL_law RL (some .boolean) false ll_mN ll_mR ll_mK ll_cnt L xs true 631 (.inl (lo_aload 632 0)) := lk_aload_n (k := 0) (by decide +kernel) rfl
theorem k_232_632 (L : Nat) (xs : Nat → Int32) : ll_OK1 cL_law RL (some .boolean) false ll_mN ll_mR ll_mK ll_cnt L xs true 632 (.inl (lo_iload 633 3)) := lk_iload_n (k := 3) (by decide +kernel) rfl
theorem k_232_633 (L : Nat) (xs : Nat → Int32) : ll_OK1 cL_law RL (some .boolean) false ll_mN ll_mR ll_mK ll_cnt L xs true 633 (.inl (lo_push 634 (.int 1))) := lk_iconst (n := 1) (by decide +kernel) (by decide)
theorem k_232_634 (L : Nat) (xs : Nat → Int32) : ll_OK1 cL_law RL (some .boolean) false ll_mN ll_mR ll_mK ll_cnt L xs true 634 (.inl (lo_bin 635 (fun x y => x + y))) := lk_iadd (by decide +kernel)
theorem k_232_635 (L : Nat) (xs : Nat → Int32) : ll_OK1 cL_law RL (some .boolean) false ll_mN ll_mR ll_mK ll_cnt L xs true 635 (.inl (lo_sld 636 L xs)) := lk_sld (by decide +kernel) rfl
theorem k_232_636 (L : Nat) (xs : Nat → Int32) : ll_OK1 cL_law RL (some .boolean) false ll_mN ll_mR ll_mK ll_cnt L xs true 636 (.inl (lo_aload 637 0)) := lk_aload_n (k := 0) (by decide +kernel) rfl
theorem k_232_637 (L : Nat) (xs : Nat → Int32) : ll_OK1 cL_law RL (some .boolean) false ll_mN ll_mR ll_mK ll_cnt L xs true 637 (.inl (lo_iload 638 3)) := lk_iload_n (k := 3) (by decide +kernel) rfl
theorem k_232_638 (L : Nat) (xs : Nat → Int32) : ll_OK1 cL_law RL (some .boolean) false ll_mN ll_mR ll_mK ll_cnt L xs true 638 (.inl (lo_push 639 (.int 2))) := lk_iconst (n := 2) (by decide +kernel) (by decide)
theorem k_232_639 (L : Nat) (xs : Nat → Int32) : ll_OK1 cL_law RL (some .boolean) false ll_mN ll_mR ll_mK ll_cnt L xs true 639 (.inl (lo_bin 640 (fun x y => x + y))) := lk_iadd (by decide +kernel)
theorem k_232_640 (L : Nat) (xs : Nat → Int32) : ll_OK1 cL_law RL (some .boolean) false ll_mN ll_mR ll_mK ll_cnt L xs true 640 (.inl (lo_sld 641 L xs)) := lk_sld (by decide +kernel) rfl
theorem k_232_641 (L : Nat) (xs : Nat → Int32) : ll_OK1 cL_law RL (some .boolean) false ll_mN ll_mR ll_mK ll_cnt L xs true 641 (.inl (lo_aload 642 0)) := lk_aload_n (k := 0) (by decide +kernel) rfl
theorem k_232_642 (L : Nat) (xs : Nat → Int32) : ll_OK1 cL_law RL (some .boolean) false ll_mN ll_mR ll_mK ll_cnt L xs true 642 (.inl (lo_iload 643 3)) := lk_iload_n (k := 3) (by decide +kernel) rfl
theorem k_232_643 (L : Nat) (xs : Nat → Int32) : ll_OK1 cL_law RL (some .boolean) false ll_mN ll_mR ll_mK ll_cnt L xs true 643 (.inl (lo_push 644 (.int 3))) := lk_iconst (n := 3) (by decide +kernel) (by decide)
theorem k_232_644 (L : Nat) (xs : Nat → Int32) : ll_OK1 cL_law RL (some .boolean) false ll_mN ll_mR ll_mK ll_cnt L xs true 644 (.inl (lo_bin 645 (fun x y => x + y))) := lk_iadd (by decide +kernel)
theorem k_232_645 (L : Nat) (xs : Nat → Int32) : ll_OK1 cL_law RL (some .boolean) false ll_mN ll_mR ll_mK ll_cnt L xs true 645 (.inl (lo_sld 646 L xs)) := lk_sld (by decide +kernel) rfl
theorem k_232_646 (L : Nat) (xs : Nat → Int32) : ll_OK1 cL_law RL (some .boolean) false ll_mN ll_mR ll_mK ll_cnt L xs true 646 (.inr (.inl (130, 4, 649))) := ⟨rfl, by decide, by rw [mN_130, mK_130, mR_130]; exact lj_v 87 3 10 (RX10, TX10, 11) (by decide +kernel) tb_928 tb_929 tb_930 rfl rfl rfl rfl (by decide +kernel)⟩
theorem k_232_649 (L : Nat) (xs : Nat → Int32) : ll_OK1 cL_law RL (some .boolean) false ll_mN ll_mR ll_mK ll_cnt L xs true 649 (.inl (lo_aload 650 2)) := lk_aload_n (k := 2) (by decide +kernel) rfl
theorem k_232_650 (L : Nat) (xs : Nat → Int32) : ll_OK1 cL_law RL (some .boolean) false ll_mN ll_mR ll_mK ll_cnt L xs true 650 (.inl (lo_aload 651 0)) := lk_aload_n (k := 0) (by decide +kernel) rfl
theorem k_232_651 (L : Nat) (xs : Nat → Int32) : ll_OK1 cL_law RL (some .boolean) false ll_mN ll_mR ll_mK ll_cnt L xs true 651 (.inl (lo_iload 652 3)) := lk_iload_n (k := 3) (by decide +kernel) rfl
theorem k_232_652 (L : Nat) (xs : Nat → Int32) : ll_OK1 cL_law RL (some .boolean) false ll_mN ll_mR ll_mK ll_cnt L xs true 652 (.inl (lo_push 653 (.int 1))) := lk_iconst (n := 1) (by decide +kernel) (by decide)
theorem k_232_653 (L : Nat) (xs : Nat → Int32) : ll_OK1 cL_law RL (some .boolean) false ll_mN ll_mR ll_mK ll_cnt L xs true 653 (.inl (lo_bin 654 (fun x y => x + y))) := lk_iadd (by decide +kernel)
theorem k_232_654 (L : Nat) (xs : Nat → Int32) : ll_OK1 cL_law RL (some .boolean) false ll_mN ll_mR ll_mK ll_cnt L xs true 654 (.inl (lo_sld 655 L xs)) := lk_sld (by decide +kernel) rfl
theorem k_232_655 (L : Nat) (xs : Nat → Int32) : ll_OK1 cL_law RL (some .boolean) false ll_mN ll_mR ll_mK ll_cnt L xs true 655 (.inl (lo_aload 656 0)) := lk_aload_n (k := 0) (by decide +kernel) rfl
theorem k_232_656 (L : Nat) (xs : Nat → Int32) : ll_OK1 cL_law RL (some .boolean) false ll_mN ll_mR ll_mK ll_cnt L xs true 656 (.inl (lo_iload 657 3)) := lk_iload_n (k := 3) (by decide +kernel) rfl
theorem k_232_657 (L : Nat) (xs : Nat → Int32) : ll_OK1 cL_law RL (some .boolean) false ll_mN ll_mR ll_mK ll_cnt L xs true 657 (.inl (lo_push 658 (.int 2))) := lk_iconst (n := 2) (by decide +kernel) (by decide)
theorem k_232_658 (L : Nat) (xs : Nat → Int32) : ll_OK1 cL_law RL (some .boolean) false ll_mN ll_mR ll_mK ll_cnt L xs true 658 (.inl (lo_bin 659 (fun x y => x + y))) := lk_iadd (by decide +kernel)
theorem k_232_659 (L : Nat) (xs : Nat → Int32) : ll_OK1 cL_law RL (some .boolean) false ll_mN ll_mR ll_mK ll_cnt L xs true 659 (.inl (lo_sld 660 L xs)) := lk_sld (by decide +kernel) rfl
theorem k_232_660 (L : Nat) (xs : Nat → Int32) : ll_OK1 cL_law RL (some .boolean) false ll_mN ll_mR ll_mK ll_cnt L xs true 660 (.inl (lo_aload 661 0)) := lk_aload_n (k := 0) (by decide +kernel) rfl
theorem k_232_661 (L : Nat) (xs : Nat → Int32) : ll_OK1 cL_law RL (some .boolean) false ll_mN ll_mR ll_mK ll_cnt L xs true 661 (.inl (lo_iload 662 3)) := lk_iload_n (k := 3) (by decide +kernel) rfl
theorem k_232_662 (L : Nat) (xs : Nat → Int32) : ll_OK1 cL_law RL (some .boolean) false ll_mN ll_mR ll_mK ll_cnt L xs true 662 (.inl (lo_push 663 (.int 3))) := lk_iconst (n := 3) (by decide +kernel) (by decide)
theorem k_232_663 (L : Nat) (xs : Nat → Int32) : ll_OK1 cL_law RL (some .boolean) false ll_mN ll_mR ll_mK ll_cnt L xs true 663 (.inl (lo_bin 664 (fun x y => x + y))) := lk_iadd (by decide +kernel)
theorem k_232_664 (L : Nat) (xs : Nat → Int32) : ll_OK1 cL_law RL (some .boolean) false ll_mN ll_mR ll_mK ll_cnt L xs true 664 (.inl (lo_sld 665 L xs)) := lk_sld (by decide +kernel) rfl
theorem k_232_665 (L : Nat) (xs : Nat → Int32) : ll_OK1 cL_law RL (some .boolean) false ll_mN ll_mR ll_mK ll_cnt L xs true 665 (.inr (.inl (199, 4, 668))) := ⟨rfl, by decide, by rw [mN_199, mK_199, mR_199]; exact lj_v 90 3 11 (RX11, TX11, 46) (by decide +kernel) tb_931 tb_932 tb_933 rfl rfl rfl rfl (by decide +kernel)⟩
theorem k_232_668 (L : Nat) (xs : Nat → Int32) : ll_OK1 cL_law RL (some .boolean) false ll_mN ll_mR ll_mK ll_cnt L xs true 668 (.inl (lo_cmp 814 671 (fun x y => decide (x = y)))) := lk_icmp_eq (off := 146) (by decide +kernel) rfl
theorem k_232_671 (L : Nat) (xs : Nat → Int32) : ll_OK1 cL_law RL (some .boolean) false ll_mN ll_mR ll_mK ll_cnt L xs true 671 (.inl (lo_push 672 (.int 0))) := lk_iconst (n := 0) (by decide +kernel) (by decide)
theorem k_232_672 (L : Nat) (xs : Nat → Int32) : ll_OK1 cL_law RL (some .boolean) false ll_mN ll_mR ll_mK ll_cnt L xs true 672 (.inr (.inr 2)) := ⟨(fun h => by cases h), (fun h => by cases h), fun _ => ⟨(by decide +kernel), rfl⟩⟩
theorem k_232_673 (L : Nat) (xs : Nat → Int32) : ll_OK1 cL_law RL (some .boolean) false ll_mN ll_mR ll_mK ll_cnt L xs true 673 (.inl (lo_aload 674 1)) := lk_aload_n (k := 1) (by decide +kernel) rfl
theorem k_232_674 (L : Nat) (xs : Nat → Int32) : ll_OK1 cL_law RL (some .boolean) false ll_mN ll_mR ll_mK ll_cnt L xs true 674 (.inr (.inl (131, 1, 677))) := ⟨rfl, by decide, by rw [mN_131, mK_131, mR_131]; exact lj_v 91 0 10 (RX10, TX10, 11) (by decide +kernel) tb_934 tb_935 tb_936 rfl rfl rfl rfl (by decide +kernel)⟩
theorem k_232_677 (L : Nat) (xs : Nat → Int32) : ll_OK1 cL_law RL (some .boolean) false ll_mN ll_mR ll_mK ll_cnt L xs true 677 (.inl (lo_aload 678 2)) := lk_aload_n (k := 2) (by decide +kernel) rfl
theorem k_232_678 (L : Nat) (xs : Nat → Int32) : ll_OK1 cL_law RL (some .boolean) false ll_mN ll_mR ll_mK ll_cnt L xs true 678 (.inr (.inl (200, 1, 681))) := ⟨rfl, by decide, by rw [mN_200, mK_200, mR_200]; exact lj_v 94 0 11 (RX11, TX11, 46) (by decide +kernel) tb_937 tb_938 tb_939 rfl rfl rfl rfl (by decide +kernel)⟩
theorem k_232_681 (L : Nat) (xs : Nat → Int32) : ll_OK1 cL_law RL (some .boolean) false ll_mN ll_mR ll_mK ll_cnt L xs true 681 (.inl (lo_cmp 814 684 (fun x y => decide (x = y)))) := lk_icmp_eq (off := 133) (by decide +kernel) rfl
theorem k_232_684 (L : Nat) (xs : Nat → Int32) : ll_OK1 cL_law RL (some .boolean) false ll_mN ll_mR ll_mK ll_cnt L xs true 684 (.inl (lo_push 685 (.int 0))) := lk_iconst (n := 0) (by decide +kernel) (by decide)
theorem k_232_685 (L : Nat) (xs : Nat → Int32) : ll_OK1 cL_law RL (some .boolean) false ll_mN ll_mR ll_mK ll_cnt L xs true 685 (.inr (.inr 2)) := ⟨(fun h => by cases h), (fun h => by cases h), fun _ => ⟨(by decide +kernel), rfl⟩⟩
theorem k_232_686 (L : Nat) (xs : Nat → Int32) : ll_OK1 cL_law RL (some .boolean) false ll_mN ll_mR ll_mK ll_cnt L xs true 686 (.inl (lo_aload 687 1)) := lk_aload_n (k := 1) (by decide +kernel) rfl
theorem k_232_687 (L : Nat) (xs : Nat → Int32) : ll_OK1 cL_law RL (some .boolean) false ll_mN ll_mR ll_mK ll_cnt L xs true 687 (.inr (.inl (132, 1, 690))) := ⟨rfl, by decide, by rw [mN_132, mK_132, mR_132]; exact lj_v 95 0 10 (RX10, TX10, 11) (by decide +kernel) tb_940 tb_941 tb_942 rfl rfl rfl rfl (by decide +kernel)⟩
theorem k_232_690 (L : Nat) (xs : Nat → Int32) : ll_OK1 cL_law RL (some .boolean) false ll_mN ll_mR ll_mK ll_cnt L xs true 690 (.inl (lo_aload 691 2)) := lk_aload_n (k := 2) (by decide +kernel) rfl
theorem k_232_691 (L : Nat) (xs : Nat → Int32) : ll_OK1 cL_law RL (some .boolean) false ll_mN ll_mR ll_mK ll_cnt L xs true 691 (.inr (.inl (206, 1, 694))) := ⟨rfl, by decide, by rw [mN_206, mK_206, mR_206]; exact lj_v 98 0 11 (RX11, TX11, 46) (by decide +kernel) tb_943 tb_944 tb_945 rfl rfl rfl rfl (by decide +kernel)⟩
theorem k_232_694 (L : Nat) (xs : Nat → Int32) : ll_OK1 cL_law RL (some .boolean) false ll_mN ll_mR ll_mK ll_cnt L xs true 694 (.inl (lo_cmp 814 697 (fun x y => decide (x = y)))) := lk_icmp_eq (off := 120) (by decide +kernel) rfl
theorem k_232_697 (L : Nat) (xs : Nat → Int32) : ll_OK1 cL_law RL (some .boolean) false ll_mN ll_mR ll_mK ll_cnt L xs true 697 (.inl (lo_push 698 (.int 0))) := lk_iconst (n := 0) (by decide +kernel) (by decide)
theorem k_232_698 (L : Nat) (xs : Nat → Int32) : ll_OK1 cL_law RL (some .boolean) false ll_mN ll_mR ll_mK ll_cnt L xs true 698 (.inr (.inr 2)) := ⟨(fun h => by cases h), (fun h => by cases h), fun _ => ⟨(by decide +kernel), rfl⟩⟩
theorem k_232_699 (L : Nat) (xs : Nat → Int32) : ll_OK1 cL_law RL (some .boolean) false ll_mN ll_mR ll_mK ll_cnt L xs true 699 (.inl (lo_aload 700 1)) := lk_aload_n (k := 1) (by decide +kernel) rfl
theorem k_232_700 (L : Nat) (xs : Nat → Int32) : ll_OK1 cL_law RL (some .boolean) false ll_mN ll_mR ll_mK ll_cnt L xs true 700 (.inl (lo_aload 701 0)) := lk_aload_n (k := 0) (by decide +kernel) rfl
theorem k_232_701 (L : Nat) (xs : Nat → Int32) : ll_OK1 cL_law RL (some .boolean) false ll_mN ll_mR ll_mK ll_cnt L xs true 701 (.inl (lo_iload 702 3)) := lk_iload_n (k := 3) (by decide +kernel) rfl
theorem k_232_702 (L : Nat) (xs : Nat → Int32) : ll_OK1 cL_law RL (some .boolean) false ll_mN ll_mR ll_mK ll_cnt L xs true 702 (.inl (lo_push 703 (.int 1))) := lk_iconst (n := 1) (by decide +kernel) (by decide)
theorem k_232_703 (L : Nat) (xs : Nat → Int32) : ll_OK1 cL_law RL (some .boolean) false ll_mN ll_mR ll_mK ll_cnt L xs true 703 (.inl (lo_bin 704 (fun x y => x + y))) := lk_iadd (by decide +kernel)
theorem k_232_704 (L : Nat) (xs : Nat → Int32) : ll_OK1 cL_law RL (some .boolean) false ll_mN ll_mR ll_mK ll_cnt L xs true 704 (.inl (lo_sld 705 L xs)) := lk_sld (by decide +kernel) rfl
theorem k_232_705 (L : Nat) (xs : Nat → Int32) : ll_OK1 cL_law RL (some .boolean) false ll_mN ll_mR ll_mK ll_cnt L xs true 705 (.inr (.inl (133, 2, 708))) := ⟨rfl, by decide, by rw [mN_133, mK_133, mR_133]; exact lj_v 99 1 10 (RX10, TX10, 11) (by decide +kernel) tb_946 tb_947 tb_948 rfl rfl rfl rfl (by decide +kernel)⟩
theorem k_232_708 (L : Nat) (xs : Nat → Int32) : ll_OK1 cL_law RL (some .boolean) false ll_mN ll_mR ll_mK ll_cnt L xs true 708 (.inl (lo_aload 709 2)) := lk_aload_n (k := 2) (by decide +kernel) rfl
theorem k_232_709 (L : Nat) (xs : Nat → Int32) : ll_OK1 cL_law RL (some .boolean) false ll_mN ll_mR ll_mK ll_cnt L xs true 709 (.inl (lo_aload 710 0)) := lk_aload_n (k := 0) (by decide +kernel) rfl
theorem k_232_710 (L : Nat) (xs : Nat → Int32) : ll_OK1 cL_law RL (some .boolean) false ll_mN ll_mR ll_mK ll_cnt L xs true 710 (.inl (lo_iload 711 3)) := lk_iload_n (k := 3) (by decide +kernel) rfl
theorem k_232_711 (L : Nat) (xs : Nat → Int32) : ll_OK1 cL_law RL (some .boolean) false ll_mN ll_mR ll_mK ll_cnt L xs true 711 (.inl (lo_push 712 (.int 1))) := lk_iconst (n := 1) (by decide +kernel) (by decide)
theorem k_232_712 (L : Nat) (xs : Nat → Int32) : ll_OK1 cL_law RL (some .boolean) false ll_mN ll_mR ll_mK ll_cnt L xs true 712 (.inl (lo_bin 713 (fun x y => x + y))) := lk_iadd (by decide +kernel)
theorem k_232_713 (L : Nat) (xs : Nat → Int32) : ll_OK1 cL_law RL (some .boolean) false ll_mN ll_mR ll_mK ll_cnt L xs true 713 (.inl (lo_sld 714 L xs)) := lk_sld (by decide +kernel) rfl
theorem k_232_714 (L : Nat) (xs : Nat → Int32) : ll_OK1 cL_law RL (some .boolean) false ll_mN ll_mR ll_mK ll_cnt L xs true 714 (.inr (.inl (207, 2, 717))) := ⟨rfl, by decide, by rw [mN_207, mK_207, mR_207]; exact lj_v 102 1 11 (RX11, TX11, 46) (by decide +kernel) tb_949 tb_950 tb_951 rfl rfl rfl rfl (by decide +kernel)⟩
theorem k_232_717 (L : Nat) (xs : Nat → Int32) : ll_OK1 cL_law RL (some .boolean) false ll_mN ll_mR ll_mK ll_cnt L xs true 717 (.inl (lo_cmp 814 720 (fun x y => decide (x = y)))) := lk_icmp_eq (off := 97) (by decide +kernel) rfl
theorem k_232_720 (L : Nat) (xs : Nat → Int32) : ll_OK1 cL_law RL (some .boolean) false ll_mN ll_mR ll_mK ll_cnt L xs true 720 (.inl (lo_push 721 (.int 0))) := lk_iconst (n := 0) (by decide +kernel) (by decide)
theorem k_232_721 (L : Nat) (xs : Nat → Int32) : ll_OK1 cL_law RL (some .boolean) false ll_mN ll_mR ll_mK ll_cnt L xs true 721 (.inr (.inr 2)) := ⟨(fun h => by cases h), (fun h => by cases h), fun _ => ⟨(by decide +kernel), rfl⟩⟩
theorem k_232_722 (L : Nat) (xs : Nat → Int32) : ll_OK1 cL_law RL (some .boolean) false ll_mN ll_mR ll_mK ll_cnt L xs true 722 (.inl (lo_aload 723 1)) := lk_aload_n (k := 1) (by decide +kernel) rfl
theorem k_232_723 (L : Nat) (xs : Nat → Int32) : ll_OK1 cL_law RL (some .boolean) false ll_mN ll_mR ll_mK ll_cnt L xs true 723 (.inr (.inl (134, 1, 726))) := ⟨rfl, by decide, by rw [mN_134, mK_134, mR_134]; exact lj_v 103 0 10 (RX10, TX10, 11) (by decide +kernel) tb_952 tb_953 tb_954 rfl rfl rfl rfl (by decide +kernel)⟩
theorem k_232_726 (L : Nat) (xs : Nat → Int32) : ll_OK1 cL_law RL (some .boolean) false ll_mN ll_mR ll_mK ll_cnt L xs true 726 (.inl (lo_aload 727 2)) := lk_aload_n (k := 2) (by decide +kernel) rfl
theorem k_232_727 (L : Nat) (xs : Nat → Int32) : ll_OK1 cL_law RL (some .boolean) false ll_mN ll_mR ll_mK ll_cnt L xs true 727 (.inr (.inl (193, 1, 730))) := ⟨rfl, by decide, by rw [mN_193, mK_193, mR_193]; exact lj_v 106 0 11 (RX11, TX11, 46) (by decide +kernel) tb_955 tb_956 tb_957 rfl rfl rfl rfl (by decide +kernel)⟩
theorem k_232_730 (L : Nat) (xs : Nat → Int32) : ll_OK1 cL_law RL (some .boolean) false ll_mN ll_mR ll_mK ll_cnt L xs true 730 (.inl (lo_cmp 814 733 (fun x y => decide (x = y)))) := lk_icmp_eq (off := 84) (by decide +kernel) rfl
theorem k_232_733 (L : Nat) (xs : Nat → Int32) : ll_OK1 cL_law RL (some .boolean) false ll_mN ll_mR ll_mK ll_cnt L xs true 733 (.inl (lo_push 734 (.int 0))) := lk_iconst (n := 0) (by decide +kernel) (by decide)
theorem k_232_734 (L : Nat) (xs : Nat → Int32) : ll_OK1 cL_law RL (some .boolean) false ll_mN ll_mR ll_mK ll_cnt L xs true 734 (.inr (.inr 2)) := ⟨(fun h => by cases h), (fun h => by cases h), fun _ => ⟨(by decide +kernel), rfl⟩⟩
theorem k_232_735 (L : Nat) (xs : Nat → Int32) : ll_OK1 cL_law RL (some .boolean) false ll_mN ll_mR ll_mK ll_cnt L xs true 735 (.inl (lo_aload 736 1)) := lk_aload_n (k := 1) (by decide +kernel) rfl
theorem k_232_736 (L : Nat) (xs : Nat → Int32) : ll_OK1 cL_law RL (some .boolean) false ll_mN ll_mR ll_mK ll_cnt L xs true 736 (.inl (lo_aload 737 0)) := lk_aload_n (k := 0) (by decide +kernel) rfl
theorem k_232_737 (L : Nat) (xs : Nat → Int32) : ll_OK1 cL_law RL (some .boolean) false ll_mN ll_mR ll_mK ll_cnt L xs true 737 (.inl (lo_iload 738 3)) := lk_iload_n (k := 3) (by decide +kernel) rfl
theorem k_232_738 (L : Nat) (xs : Nat → Int32) : ll_OK1 cL_law RL (some .boolean) false ll_mN ll_mR ll_mK ll_cnt L xs true 738 (.inl (lo_push 739 (.int 1))) := lk_iconst (n := 1) (by decide +kernel) (by decide)
theorem k_232_739 (L : Nat) (xs : Nat → Int32) : ll_OK1 cL_law RL (some .boolean) false ll_mN ll_mR ll_mK ll_cnt L xs true 739 (.inl (lo_bin 740 (fun x y => x + y))) := lk_iadd (by decide +kernel)
theorem k_232_740 (L : Nat) (xs : Nat → Int32) : ll_OK1 cL_law RL (some .boolean) false ll_mN ll_mR ll_mK ll_cnt L xs true 740 (.inl (lo_sld 741 L xs)) := lk_sld (by decide +kernel) rfl
theorem k_232_741 (L : Nat) (xs : Nat → Int32) : ll_OK1 cL_law RL (some .boolean) false ll_mN ll_mR ll_mK ll_cnt L xs true 741 (.inl (lo_aload 742 0)) := lk_aload_n (k := 0) (by decide +kernel) rfl
theorem k_232_742 (L : Nat) (xs : Nat → Int32) : ll_OK1 cL_law RL (some .boolean) false ll_mN ll_mR ll_mK ll_cnt L xs true 742 (.inl (lo_iload 743 3)) := lk_iload_n (k := 3) (by decide +kernel) rfl
theorem k_232_743 (L : Nat) (xs : Nat → Int32) : ll_OK1 cL_law RL (some .boolean) false ll_mN ll_mR ll_mK ll_cnt L xs true 743 (.inl (lo_push 744 (.int 2))) := lk_iconst (n := 2) (by decide +kernel) (by decide)
theorem k_232_744 (L : Nat) (xs : Nat → Int32) : ll_OK1 cL_law RL (some .boolean) false ll_mN ll_mR ll_mK ll_cnt L xs true 744 (.inl (lo_bin 745 (fun x y => x + y))) := lk_iadd (by decide +kernel)
theorem k_232_745 (L : Nat) (xs : Nat → Int32) : ll_OK1 cL_law RL (some .boolean) false ll_mN ll_mR ll_mK ll_cnt L xs true 745 (.inl (lo_sld 746 L xs)) := lk_sld (by decide +kernel) rfl
theorem k_232_746 (L : Nat) (xs : Nat → Int32) : ll_OK1 cL_law RL (some .boolean) false ll_mN ll_mR ll_mK ll_cnt L xs true 746 (.inr (.inl (135, 3, 749))) := ⟨rfl, by decide, by rw [mN_135, mK_135, mR_135]; exact lj_v 107 2 10 (RX10, TX10, 11) (by decide +kernel) tb_958 tb_959 tb_960 rfl rfl rfl rfl (by decide +kernel)⟩
theorem k_232_749 (L : Nat) (xs : Nat → Int32) : ll_OK1 cL_law RL (some .boolean) false ll_mN ll_mR ll_mK ll_cnt L xs true 749 (.inl (lo_aload 750 2)) := lk_aload_n (k := 2) (by decide +kernel) rfl
theorem k_232_750 (L : Nat) (xs : Nat → Int32) : ll_OK1 cL_law RL (some .boolean) false ll_mN ll_mR ll_mK ll_cnt L xs true 750 (.inl (lo_aload 751 0)) := lk_aload_n (k := 0) (by decide +kernel) rfl
theorem k_232_751 (L : Nat) (xs : Nat → Int32) : ll_OK1 cL_law RL (some .boolean) false ll_mN ll_mR ll_mK ll_cnt L xs true 751 (.inl (lo_iload 752 3)) := lk_iload_n (k := 3) (by decide +kernel) rfl
theorem k_232_752 (L : Nat) (xs : Nat → Int32) : ll_OK1 cL_law RL (some .boolean) false ll_mN ll_mR ll_mK ll_cnt L xs true 752 (.inl (lo_push 753 (.int 1))) := lk_iconst (n := 1) (by decide +kernel) (by decide)
theorem k_232_753 (L : Nat) (xs : Nat → Int32) : ll_OK1 cL_law RL (some .boolean) false ll_mN ll_mR ll_mK ll_cnt L xs true 753 (.inl (lo_bin 754 (fun x y => x + y))) := lk_iadd (by decide +kernel)
theorem k_232_754 (L : Nat) (xs : Nat → Int32) : ll_OK1 cL_law RL (some .boolean) false ll_mN ll_mR ll_mK ll_cnt L xs true 754 (.inl (lo_sld 755 L xs)) := lk_sld (by decide +kernel) rfl
theorem k_232_755 (L : Nat) (xs : Nat → Int32) : ll_OK1 cL_law RL (some .boolean) false ll_mN ll_mR ll_mK ll_cnt L xs true 755 (.inl (lo_aload 756 0)) := lk_aload_n (k := 0) (by decide +kernel) rfl
theorem k_232_756 (L : Nat) (xs : Nat → Int32) : ll_OK1 cL_law RL (some .boolean) false ll_mN ll_mR ll_mK ll_cnt L xs true 756 (.inl (lo_iload 757 3)) := lk_iload_n (k := 3) (by decide +kernel) rfl
theorem k_232_757 (L : Nat) (xs : Nat → Int32) : ll_OK1 cL_law RL (some .boolean) false ll_mN ll_mR ll_mK ll_cnt L xs true 757 (.inl (lo_push 758 (.int 2))) := lk_iconst (n := 2) (by decide +kernel) (by decide)
theorem k_232_758 (L : Nat) (xs : Nat → Int32) : ll_OK1 cL_law RL (some .boolean) false ll_mN ll_mR ll_mK ll_cnt L xs true 758 (.inl (lo_bin 759 (fun x y => x + y))) := lk_iadd (by decide +kernel)
theorem k_232_759 (L : Nat) (xs : Nat → Int32) : ll_OK1 cL_law RL (some .boolean) false ll_mN ll_mR ll_mK ll_cnt L xs true 759 (.inl (lo_sld 760 L xs)) := lk_sld (by decide +kernel) rfl
theorem k_232_760 (L : Nat) (xs : Nat → Int32) : ll_OK1 cL_law RL (some .boolean) false ll_mN ll_mR ll_mK ll_cnt L xs true 760 (.inr (.inl (195, 3, 763))) := ⟨rfl, by decide, by rw [mN_195, mK_195, mR_195]; exact lj_v 110 2 11 (RX11, TX11, 46) (by decide +kernel) tb_961 tb_962 tb_963 rfl rfl rfl rfl (by decide +kernel)⟩
theorem k_232_763 (L : Nat) (xs : Nat → Int32) : ll_OK1 cL_law RL (some .boolean) false ll_mN ll_mR ll_mK ll_cnt L xs true 763 (.inl (lo_cmp 814 766 (fun x y => decide (x = y)))) := lk_icmp_eq (off := 51) (by decide +kernel) rfl
theorem k_232_766 (L : Nat) (xs : Nat → Int32) : ll_OK1 cL_law RL (some .boolean) false ll_mN ll_mR ll_mK ll_cnt L xs true 766 (.inl (lo_push 767 (.int 0))) := lk_iconst (n := 0) (by decide +kernel) (by decide)
theorem k_232_767 (L : Nat) (xs : Nat → Int32) : ll_OK1 cL_law RL (some .boolean) false ll_mN ll_mR ll_mK ll_cnt L xs true 767 (.inr (.inr 2)) := ⟨(fun h => by cases h), (fun h => by cases h), fun _ => ⟨(by decide +kernel), rfl⟩⟩
theorem k_232_768 (L : Nat) (xs : Nat → Int32) : ll_OK1 cL_law RL (some .boolean) false ll_mN ll_mR ll_mK ll_cnt L xs true 768 (.inl (lo_aload 769 1)) := lk_aload_n (k := 1) (by decide +kernel) rfl
theorem k_232_769 (L : Nat) (xs : Nat → Int32) : ll_OK1 cL_law RL (some .boolean) false ll_mN ll_mR ll_mK ll_cnt L xs true 769 (.inl (lo_aload 770 0)) := lk_aload_n (k := 0) (by decide +kernel) rfl
theorem k_232_770 (L : Nat) (xs : Nat → Int32) : ll_OK1 cL_law RL (some .boolean) false ll_mN ll_mR ll_mK ll_cnt L xs true 770 (.inl (lo_iload 771 3)) := lk_iload_n (k := 3) (by decide +kernel) rfl
theorem k_232_771 (L : Nat) (xs : Nat → Int32) : ll_OK1 cL_law RL (some .boolean) false ll_mN ll_mR ll_mK ll_cnt L xs true 771 (.inl (lo_push 772 (.int 1))) := lk_iconst (n := 1) (by decide +kernel) (by decide)
theorem k_232_772 (L : Nat) (xs : Nat → Int32) : ll_OK1 cL_law RL (some .boolean) false ll_mN ll_mR ll_mK ll_cnt L xs true 772 (.inl (lo_bin 773 (fun x y => x + y))) := lk_iadd (by decide +kernel)
theorem k_232_773 (L : Nat) (xs : Nat → Int32) : ll_OK1 cL_law RL (some .boolean) false ll_mN ll_mR ll_mK ll_cnt L xs true 773 (.inl (lo_sld 774 L xs)) := lk_sld (by decide +kernel) rfl
theorem k_232_774 (L : Nat) (xs : Nat → Int32) : ll_OK1 cL_law RL (some .boolean) false ll_mN ll_mR ll_mK ll_cnt L xs true 774 (.inr (.inl (136, 2, 777))) := ⟨rfl, by decide, by rw [mN_136, mK_136, mR_136]; exact lj_v 111 1 10 (RX10, TX10, 11) (by decide +kernel) tb_964 tb_965 tb_966 rfl rfl rfl rfl (by decide +kernel)⟩
theorem k_232_777 (L : Nat) (xs : Nat → Int32) : ll_OK1 cL_law RL (some .boolean) false ll_mN ll_mR ll_mK ll_cnt L xs true 777 (.inl (lo_aload 778 2)) := lk_aload_n (k := 2) (by decide +kernel) rfl
theorem k_232_778 (L : Nat) (xs : Nat → Int32) : ll_OK1 cL_law RL (some .boolean) false ll_mN ll_mR ll_mK ll_cnt L xs true 778 (.inl (lo_aload 779 0)) := lk_aload_n (k := 0) (by decide +kernel) rfl
theorem k_232_779 (L : Nat) (xs : Nat → Int32) : ll_OK1 cL_law RL (some .boolean) false ll_mN ll_mR ll_mK ll_cnt L xs true 779 (.inl (lo_iload 780 3)) := lk_iload_n (k := 3) (by decide +kernel) rfl
theorem k_232_780 (L : Nat) (xs : Nat → Int32) : ll_OK1 cL_law RL (some .boolean) false ll_mN ll_mR ll_mK ll_cnt L xs true 780 (.inl (lo_push 781 (.int 1))) := lk_iconst (n := 1) (by decide +kernel) (by decide)
theorem k_232_781 (L : Nat) (xs : Nat → Int32) : ll_OK1 cL_law RL (some .boolean) false ll_mN ll_mR ll_mK ll_cnt L xs true 781 (.inl (lo_bin 782 (fun x y => x + y))) := lk_iadd (by decide +kernel)
theorem k_232_782 (L : Nat) (xs : Nat → Int32) : ll_OK1 cL_law RL (some .boolean) false ll_mN ll_mR ll_mK ll_cnt L xs true 782 (.inl (lo_sld 783 L xs)) := lk_sld (by decide +kernel) rfl
theorem k_232_783 (L : Nat) (xs : Nat → Int32) : ll_OK1 cL_law RL (some .boolean) false ll_mN ll_mR ll_mK ll_cnt L xs true 783 (.inr (.inl (229, 2, 786))) := ⟨rfl, by decide, by rw [mN_229, mK_229, mR_229]; exact lj_v 114 1 11 (RX11, TX11, 46) (by decide +kernel) tb_967 tb_968 tb_969 rfl rfl rfl rfl (by decide +kernel)⟩
theorem k_232_786 (L : Nat) (xs : Nat → Int32) : ll_OK1 cL_law RL (some .boolean) false ll_mN ll_mR ll_mK ll_cnt L xs true 786 (.inl (lo_cmp 814 789 (fun x y => decide (x = y)))) := lk_icmp_eq (off := 28) (by decide +kernel) rfl
theorem k_232_789 (L : Nat) (xs : Nat → Int32) : ll_OK1 cL_law RL (some .boolean) false ll_mN ll_mR ll_mK ll_cnt L xs true 789 (.inl (lo_push 790 (.int 0))) := lk_iconst (n := 0) (by decide +kernel) (by decide)
theorem k_232_790 (L : Nat) (xs : Nat → Int32) : ll_OK1 cL_law RL (some .boolean) false ll_mN ll_mR ll_mK ll_cnt L xs true 790 (.inr (.inr 2)) := ⟨(fun h => by cases h), (fun h => by cases h), fun _ => ⟨(by decide +kernel), rfl⟩⟩
theorem k_232_791 (L : Nat) (xs : Nat → Int32) : ll_OK1 cL_law RL (some .boolean) false ll_mN ll_mR ll_mK ll_cnt L xs true 791 (.inl (lo_aload 792 1)) := lk_aload_n (k := 1) (by decide +kernel) rfl
theorem k_232_792 (L : Nat) (xs : Nat → Int32) : ll_OK1 cL_law RL (some .boolean) false ll_mN ll_mR ll_mK ll_cnt L xs true 792 (.inl (lo_aload 793 0)) := lk_aload_n (k := 0) (by decide +kernel) rfl
theorem k_232_793 (L : Nat) (xs : Nat → Int32) : ll_OK1 cL_law RL (some .boolean) false ll_mN ll_mR ll_mK ll_cnt L xs true 793 (.inl (lo_iload 794 3)) := lk_iload_n (k := 3) (by decide +kernel) rfl
theorem k_232_794 (L : Nat) (xs : Nat → Int32) : ll_OK1 cL_law RL (some .boolean) false ll_mN ll_mR ll_mK ll_cnt L xs true 794 (.inl (lo_push 795 (.int 1))) := lk_iconst (n := 1) (by decide +kernel) (by decide)
theorem k_232_795 (L : Nat) (xs : Nat → Int32) : ll_OK1 cL_law RL (some .boolean) false ll_mN ll_mR ll_mK ll_cnt L xs true 795 (.inl (lo_bin 796 (fun x y => x + y))) := lk_iadd (by decide +kernel)
theorem k_232_796 (L : Nat) (xs : Nat → Int32) : ll_OK1 cL_law RL (some .boolean) false ll_mN ll_mR ll_mK ll_cnt L xs true 796 (.inl (lo_sld 797 L xs)) := lk_sld (by decide +kernel) rfl
theorem k_232_797 (L : Nat) (xs : Nat → Int32) : ll_OK1 cL_law RL (some .boolean) false ll_mN ll_mR ll_mK ll_cnt L xs true 797 (.inr (.inl (137, 2, 800))) := ⟨rfl, by decide, by rw [mN_137, mK_137, mR_137]; exact lj_v 115 1 10 (RX10, TX10, 11) (by decide +kernel) tb_970 tb_971 tb_972 rfl rfl rfl rfl (by decide +kernel)⟩
theorem k_232_800 (L : Nat) (xs : Nat → Int32) : ll_OK1 cL_law RL (some .boolean) false ll_mN ll_mR ll_mK ll_cnt L xs true 800 (.inl (lo_aload 801 2)) := lk_aload_n (k := 2) (by decide +kernel) rfl
theorem k_232_801 (L : Nat) (xs : Nat → Int32) : ll_OK1 cL_law RL (some .boolean) false ll_mN ll_mR ll_mK ll_cnt L xs true 801 (.inl (lo_aload 802 0)) := lk_aload_n (k := 0) (by decide +kernel) rfl
theorem k_232_802 (L : Nat) (xs : Nat → Int32) : ll_OK1 cL_law RL (some .boolean) false ll_mN ll_mR ll_mK ll_cnt L xs true 802 (.inl (lo_iload 803 3)) := lk_iload_n (k := 3) (by decide +kernel) rfl
theorem k_232_803 (L : Nat) (xs : Nat → Int32) : ll_OK1 cL_law RL (some .boolean) false ll_mN ll_mR ll_mK ll_cnt L xs true 803 (.inl (lo_push 804 (.int 1))) := lk_iconst (n := 1) (by decide +kernel) (by decide)
theorem k_232_804 (L : Nat) (xs : Nat → Int32) : ll_OK1 cL_law RL (some .boolean) false ll_mN ll_mR ll_mK ll_cnt L xs true 804 (.inl (lo_bin 805 (fun x y => x + y))) := lk_iadd (by decide +kernel)
theorem k_232_805 (L : Nat) (xs : Nat → Int32) : ll_OK1 cL_law RL (some .boolean) false ll_mN ll_mR ll_mK ll_cnt L xs true 805 (.inl (lo_sld 806 L xs)) := lk_sld (by decide +kernel) rfl
theorem k_232_806 (L : Nat) (xs : Nat → Int32) : ll_OK1 cL_law RL (some .boolean) false ll_mN ll_mR ll_mK ll_cnt L xs true 806 (.inr (.inl (230, 2, 809))) := ⟨rfl, by decide, by rw [mN_230, mK_230, mR_230]; exact lj_v 118 1 11 (RX11, TX11, 46) (by decide +kernel) tb_973 tb_974 tb_975 rfl rfl rfl rfl (by decide +kernel)⟩
theorem k_232_809 (L : Nat) (xs : Nat → Int32) : ll_OK1 cL_law RL (some .boolean) false ll_mN ll_mR ll_mK ll_cnt L xs true 809 (.inl (lo_cmp 814 812 (fun x y => decide (x = y)))) := lk_icmp_eq (off := 5) (by decide +kernel) rfl
theorem k_232_812 (L : Nat) (xs : Nat → Int32) : ll_OK1 cL_law RL (some .boolean) false ll_mN ll_mR ll_mK ll_cnt L xs true 812 (.inl (lo_push 813 (.int 0))) := lk_iconst (n := 0) (by decide +kernel) (by decide)
theorem k_232_813 (L : Nat) (xs : Nat → Int32) : ll_OK1 cL_law RL (some .boolean) false ll_mN ll_mR ll_mK ll_cnt L xs true 813 (.inr (.inr 2)) := ⟨(fun h => by cases h), (fun h => by cases h), fun _ => ⟨(by decide +kernel), rfl⟩⟩
theorem k_232_814 (L : Nat) (xs : Nat → Int32) : ll_OK1 cL_law RL (some .boolean) false ll_mN ll_mR ll_mK ll_cnt L xs true 814 (.inl (lo_iinc 817 3 5)) := lk_iinc (n := 5) (by decide +kernel) (by decide)
theorem k_232_817 (L : Nat) (xs : Nat → Int32) : ll_OK1 cL_law RL (some .boolean) false ll_mN ll_mR ll_mK ll_cnt L xs true 817 (.inl (lo_goto 18)) := lk_goto (off := (-799)) (by decide +kernel) rfl
theorem k_232_820 (L : Nat) (xs : Nat → Int32) : ll_OK1 cL_law RL (some .boolean) false ll_mN ll_mR ll_mK ll_cnt L xs true 820 (.inl (lo_push 821 (.int 1))) := lk_iconst (n := 1) (by decide +kernel) (by decide)
theorem k_232_821 (L : Nat) (xs : Nat → Int32) : ll_OK1 cL_law RL (some .boolean) false ll_mN ll_mR ll_mK ll_cnt L xs true 821 (.inr (.inr 2)) := ⟨(fun h => by cases h), (fun h => by cases h), fun _ => ⟨(by decide +kernel), rfl⟩⟩
set_option maxRecDepth 100000 in
theorem ok_232 (L : Nat) (xs : Nat → Int32) : ∀ q ∈ cd_232 L xs, ll_OK1 cL_law RL (some .boolean) false ll_mN ll_mR ll_mK ll_cnt L xs true q.1 q.2 :=
  List.forall_mem_cons.mpr ⟨k_232_0 L xs, List.forall_mem_cons.mpr ⟨k_232_3 L xs, List.forall_mem_cons.mpr ⟨k_232_4 L xs, List.forall_mem_cons.mpr ⟨k_232_7 L xs, List.forall_mem_cons.mpr ⟨k_232_8 L xs, List.forall_mem_cons.mpr ⟨k_232_11 L xs, List.forall_mem_cons.mpr ⟨k_232_12 L xs, List.forall_mem_cons.mpr ⟨k_232_15 L xs, List.forall_mem_cons.mpr ⟨k_232_16 L xs, List.forall_mem_cons.mpr ⟨k_232_17 L xs, List.forall_mem_cons.mpr ⟨k_232_18 L xs, List.forall_mem_cons.mpr ⟨k_232_19 L xs, List.forall_mem_cons.mpr ⟨k_232_20 L xs, List.forall_mem_cons.mpr ⟨k_232_21 L xs, List.forall_mem_cons.mpr ⟨k_232_22 L xs, List.forall_mem_cons.mpr ⟨k_232_23 L xs, List.forall_mem_cons.mpr ⟨k_232_26 L xs, List.forall_mem_cons.mpr ⟨k_232_27 L xs, List.forall_mem_cons.mpr ⟨k_232_28 L xs, List.forall_mem_cons.mpr ⟨k_232_29 L xs, List.forall_mem_cons.mpr ⟨k_232_31 L xs, List.forall_mem_cons.mpr ⟨k_232_32 L xs, List.forall_mem_cons.mpr ⟨k_232_144 L xs, List.forall_mem_cons.mpr ⟨k_232_145 L xs, List.forall_mem_cons.mpr ⟨k_232_146 L xs, List.forall_mem_cons.mpr ⟨k_232_147 L xs, List.forall_mem_cons.mpr ⟨k_232_148 L xs, List.forall_mem_cons.mpr ⟨k_232_149 L xs, List.forall_mem_cons.mpr ⟨k_232_150 L xs, List.forall_mem_cons.mpr ⟨k_232_151 L xs, List.forall_mem_cons.mpr ⟨k_232_153 L xs, List.forall_mem_cons.mpr ⟨k_232_154 L xs, List.forall_mem_cons.mpr ⟨k_232_155 L xs, List.forall_mem_cons.mpr ⟨k_232_156 L xs, List.forall_mem_cons.mpr ⟨k_232_157 L xs, List.forall_mem_cons.mpr ⟨k_232_158 L xs, List.forall_mem_cons.mpr ⟨k_232_159 L xs, List.forall_mem_cons.mpr ⟨k_232_160 L xs, List.forall_mem_cons.mpr ⟨k_232_163 L xs, List.forall_mem_cons.mpr ⟨k_232_164 L xs, List.forall_mem_cons.mpr ⟨k_232_165 L xs, List.forall_mem_cons.mpr ⟨k_232_168 L xs, List.forall_mem_cons.mpr ⟨k_232_169 L xs, List.forall_mem_cons.mpr ⟨k_232_170 L xs, List.forall_mem_cons.mpr ⟨k_232_171 L xs, List.forall_mem_cons.mpr ⟨k_232_172 L xs, List.forall_mem_cons.mpr ⟨k_232_173 L xs, List.forall_mem_cons.mpr ⟨k_232_174 L xs, List.forall_mem_cons.mpr ⟨k_232_175 L xs, List.forall_mem_cons.mpr ⟨k_232_177 L xs, List.forall_mem_cons.mpr ⟨k_232_178 L xs, List.forall_mem_cons.mpr ⟨k_232_179 L xs, List.forall_mem_cons.mpr ⟨k_232_180 L xs, List.forall_mem_cons.mpr ⟨k_232_181 L xs, List.forall_mem_cons.mpr ⟨k_232_182 L xs, List.forall_mem_cons.mpr ⟨k_232_183 L xs, List.forall_mem_cons.mpr ⟨k_232_184 L xs, List.forall_mem_cons.mpr ⟨k_232_187 L xs, List.forall_mem_cons.mpr ⟨k_232_188 L xs, List.forall_mem_cons.mpr ⟨k_232_189 L xs, List.forall_mem_cons.mpr ⟨k_232_192 L xs, List.forall_mem_cons.mpr ⟨k_232_195 L xs, List.forall_mem_cons.mpr ⟨k_232_196 L xs, List.forall_mem_cons.mpr ⟨k_232_197 L xs, List.forall_mem_cons.mpr ⟨k_232_198 L xs, List.forall_mem_cons.mpr ⟨k_232_199 L xs, List.forall_mem_cons.mpr ⟨k_232_200 L xs, List.forall_mem_cons.mpr ⟨k_232_201 L xs, List.forall_mem_cons.mpr ⟨k_232_202 L xs, List.forall_mem_cons.mpr ⟨k_232_203 L xs, List.forall_mem_cons.mpr ⟨k_232_206 L xs, List.forall_mem_cons.mpr ⟨k_232_207 L xs, List.forall_mem_cons.mpr ⟨k_232_208 L xs, List.forall_mem_cons.mpr ⟨k_232_209 L xs, List.forall_mem_cons.mpr ⟨k_232_210 L xs, List.forall_mem_cons.mpr ⟨k_232_211 L xs, List.forall_mem_cons.mpr ⟨k_232_212 L xs, List.forall_mem_cons.mpr ⟨k_232_215 L xs, List.forall_mem_cons.mpr ⟨k_232_218 L xs, List.forall_mem_cons.mpr ⟨k_232_219 L xs, List.forall_mem_cons.mpr ⟨k_232_220 L xs, List.forall_mem_cons.mpr ⟨k_232_221 L xs, List.forall_mem_cons.mpr ⟨k_232_224 L xs, List.forall_mem_cons.mpr ⟨k_232_225 L xs, List.forall_mem_cons.mpr ⟨k_232_228 L xs, List.forall_mem_cons.mpr ⟨k_232_231 L xs, List.forall_mem_cons.mpr ⟨k_232_232 L xs, List.forall_mem_cons.mpr ⟨k_232_233 L xs, List.forall_mem_cons.mpr ⟨k_232_234 L xs, List.forall_mem_cons.mpr ⟨k_232_237 L xs, List.forall_mem_cons.mpr ⟨k_232_238 L xs, List.forall_mem_cons.mpr ⟨k_232_241 L xs, List.forall_mem_cons.mpr ⟨k_232_244 L xs, List.forall_mem_cons.mpr ⟨k_232_245 L xs, List.forall_mem_cons.mpr ⟨k_232_246 L xs, List.forall_mem_cons.mpr ⟨k_232_247 L xs, List.forall_mem_cons.mpr ⟨k_232_248 L xs, List.forall_mem_cons.mpr ⟨k_232_249 L xs, List.forall_mem_cons.mpr ⟨k_232_250 L xs, List.forall_mem_cons.mpr ⟨k_232_251 L xs, List.forall_mem_cons.mpr ⟨k_232_252 L xs, List.forall_mem_cons.mpr ⟨k_232_253 L xs, List.forall_mem_cons.mpr ⟨k_232_254 L xs, List.forall_mem_cons.mpr ⟨k_232_255 L xs, List.forall_mem_cons.mpr ⟨k_232_258 L xs, List.forall_mem_cons.mpr ⟨k_232_259 L xs, List.forall_mem_cons.mpr ⟨k_232_260 L xs, List.forall_mem_cons.mpr ⟨k_232_261 L xs, List.forall_mem_cons.mpr ⟨k_232_262 L xs, List.forall_mem_cons.mpr ⟨k_232_263 L xs, List.forall_mem_cons.mpr ⟨k_232_264 L xs, List.forall_mem_cons.mpr ⟨k_232_265 L xs, List.forall_mem_cons.mpr ⟨k_232_266 L xs, List.forall_mem_cons.mpr ⟨k_232_267 L xs, List.forall_mem_cons.mpr ⟨k_232_268 L xs, List.forall_mem_cons.mpr ⟨k_232_269 L xs, List.forall_mem_cons.mpr ⟨k_232_272 L xs, List.forall_mem_cons.mpr ⟨k_232_275 L xs, List.forall_mem_cons.mpr ⟨k_232_276 L xs, List.forall_mem_cons.mpr ⟨k_232_277 L xs, List.forall_mem_cons.mpr ⟨k_232_278 L xs, List.forall_mem_cons.mpr ⟨k_232_279 L xs, List.forall_mem_cons.mpr ⟨k_232_280 L xs, List.forall_mem_cons.mpr ⟨k_232_281 L xs, List.forall_mem_cons.mpr ⟨k_232_282 L xs, List.forall_mem_cons.mpr ⟨k_232_283 L xs, List.forall_mem_cons.mpr ⟨k_232_284 L xs, List.forall_mem_cons.mpr ⟨k_232_285 L xs, List.forall_mem_cons.mpr ⟨k_232_286 L xs, List.forall_mem_cons.mpr ⟨k_232_287 L xs, List.forall_mem_cons.mpr ⟨k_232_288 L xs, List.forall_mem_cons.mpr ⟨k_232_289 L xs, List.forall_mem_cons.mpr ⟨k_232_290 L xs, List.forall_mem_cons.mpr ⟨k_232_291 L xs, List.forall_mem_cons.mpr ⟨k_232_292 L xs, List.forall_mem_cons.mpr ⟨k_232_293 L xs, List.forall_mem_cons.mpr ⟨k_232_294 L xs, List.forall_mem_cons.mpr ⟨k_232_295 L xs, List.forall_mem_cons.mpr ⟨k_232_296 L xs, List.forall_mem_cons.mpr ⟨k_232_297 L xs, List.forall_mem_cons.mpr ⟨k_232_298 L xs, List.forall_mem_cons.mpr ⟨k_232_301 L xs, List.forall_mem_cons.mpr ⟨k_232_302 L xs, List.forall_mem_cons.mpr ⟨k_232_303 L xs, List.forall_mem_cons.mpr ⟨k_232_304 L xs, List.forall_mem_cons.mpr ⟨k_232_305 L xs, List.forall_mem_cons.mpr ⟨k_232_306 L xs, List.forall_mem_cons.mpr ⟨k_232_307 L xs, List.forall_mem_cons.mpr ⟨k_232_308 L xs, List.forall_mem_cons.mpr ⟨k_232_309 L xs, List.forall_mem_cons.mpr ⟨k_232_310 L xs, List.forall_mem_cons.mpr ⟨k_232_311 L xs, List.forall_mem_cons.mpr ⟨k_232_312 L xs, List.forall_mem_cons.mpr ⟨k_232_313 L xs, List.forall_mem_cons.mpr ⟨k_232_314 L xs, List.forall_mem_cons.mpr ⟨k_232_315 L xs, List.forall_mem_cons.mpr ⟨k_232_316 L xs, List.forall_mem_cons.mpr ⟨k_232_317 L xs, List.forall_mem_cons.mpr ⟨k_232_318 L xs, List.forall_mem_cons.mpr ⟨k_232_319 L xs, List.forall_mem_cons.mpr ⟨k_232_320 L xs, List.forall_mem_cons.mpr ⟨k_232_321 L xs, List.forall_mem_cons.mpr ⟨k_232_322 L xs, List.forall_mem_cons.mpr ⟨k_232_325 L xs, List.forall_mem_cons.mpr ⟨k_232_328 L xs, List.forall_mem_cons.mpr ⟨k_232_329 L xs, List.forall_mem_cons.mpr ⟨k_232_330 L xs, List.forall_mem_cons.mpr ⟨k_232_331 L xs, List.forall_mem_cons.mpr ⟨k_232_332 L xs, List.forall_mem_cons.mpr ⟨k_232_333 L xs, List.forall_mem_cons.mpr ⟨k_232_334 L xs, List.forall_mem_cons.mpr ⟨k_232_335 L xs, List.forall_mem_cons.mpr ⟨k_232_336 L xs, List.forall_mem_cons.mpr ⟨k_232_337 L xs, List.forall_mem_cons.mpr ⟨k_232_338 L xs, List.forall_mem_cons.mpr ⟨k_232_339 L xs, List.forall_mem_cons.mpr ⟨k_232_340 L xs, List.forall_mem_cons.mpr ⟨k_232_341 L xs, List.forall_mem_cons.mpr ⟨k_232_344 L xs, List.forall_mem_cons.mpr ⟨k_232_345 L xs, List.forall_mem_cons.mpr ⟨k_232_346 L xs, List.forall_mem_cons.mpr ⟨k_232_347 L xs, List.forall_mem_cons.mpr ⟨k_232_348 L xs, List.forall_mem_cons.mpr ⟨k_232_349 L xs, List.forall_mem_cons.mpr ⟨k_232_350 L xs, List.forall_mem_cons.mpr ⟨k_232_351 L xs, List.forall_mem_cons.mpr ⟨k_232_352 L xs, List.forall_mem_cons.mpr ⟨k_232_353 L xs, List.forall_mem_cons.mpr ⟨k_232_354 L xs, List.forall_mem_cons.mpr ⟨k_232_355 L xs, List.forall_mem_cons.mpr ⟨k_232_358 L xs, List.forall_mem_cons.mpr ⟨k_232_361 L xs, List.forall_mem_cons.mpr ⟨k_232_362 L xs, List.forall_mem_cons.mpr ⟨k_232_363 L xs, List.forall_mem_cons.mpr ⟨k_232_364 L xs, List.forall_mem_cons.mpr ⟨k_232_365 L xs, List.forall_mem_cons.mpr ⟨k_232_366 L xs, List.forall_mem_cons.mpr ⟨k_232_367 L xs, List.forall_mem_cons.mpr ⟨k_232_368 L xs, List.forall_mem_cons.mpr ⟨k_232_369 L xs, List.forall_mem_cons.mpr ⟨k_232_370 L xs, List.forall_mem_cons.mpr ⟨k_232_371 L xs, List.forall_mem_cons.mpr ⟨k_232_372 L xs, List.forall_mem_cons.mpr ⟨k_232_373 L xs, List.forall_mem_cons.mpr ⟨k_232_374 L xs, List.forall_mem_cons.mpr ⟨k_232_375 L xs, List.forall_mem_cons.mpr ⟨k_232_376 L xs, List.forall_mem_cons.mpr ⟨k_232_377 L xs, List.forall_mem_cons.mpr ⟨k_232_378 L xs, List.forall_mem_cons.mpr ⟨k_232_379 L xs, List.forall_mem_cons.mpr ⟨k_232_382 L xs, List.forall_mem_cons.mpr ⟨k_232_383 L xs, List.forall_mem_cons.mpr ⟨k_232_384 L xs, List.forall_mem_cons.mpr ⟨k_232_385 L xs, List.forall_mem_cons.mpr ⟨k_232_386 L xs, List.forall_mem_cons.mpr ⟨k_232_387 L xs, List.forall_mem_cons.mpr ⟨k_232_388 L xs, List.forall_mem_cons.mpr ⟨k_232_389 L xs, List.forall_mem_cons.mpr ⟨k_232_390 L xs, List.forall_mem_cons.mpr ⟨k_232_391 L xs, List.forall_mem_cons.mpr ⟨k_232_392 L xs, List.forall_mem_cons.mpr ⟨k_232_393 L xs, List.forall_mem_cons.mpr ⟨k_232_394 L xs, List.forall_mem_cons.mpr ⟨k_232_395 L xs, List.forall_mem_cons.mpr ⟨k_232_396 L xs, List.forall_mem_cons.mpr ⟨k_232_397 L xs, List.forall_mem_cons.mpr ⟨k_232_398 L xs, List.forall_mem_cons.mpr ⟨k_232_401 L xs, List.forall_mem_cons.mpr ⟨k_232_404 L xs, List.forall_mem_cons.mpr ⟨k_232_405 L xs, List.forall_mem_cons.mpr ⟨k_232_406 L xs, List.forall_mem_cons.mpr ⟨k_232_407 L xs, List.forall_mem_cons.mpr ⟨k_232_408 L xs, List.forall_mem_cons.mpr ⟨k_232_409 L xs, List.forall_mem_cons.mpr ⟨k_232_410 L xs, List.forall_mem_cons.mpr ⟨k_232_411 L xs, List.forall_mem_cons.mpr ⟨k_232_412 L xs, List.forall_mem_cons.mpr ⟨k_232_413 L xs, List.forall_mem_cons.mpr ⟨k_232_414 L xs, List.forall_mem_cons.mpr ⟨k_232_415 L xs, List.forall_mem_cons.mpr ⟨k_232_416 L xs, List.forall_mem_cons.mpr ⟨k_232_417 L xs, List.forall_mem_cons.mpr ⟨k_232_420 L xs, List.forall_mem_cons.mpr ⟨k_232_421 L xs, List.forall_mem_cons.mpr ⟨k_232_422 L xs, List.forall_mem_cons.mpr ⟨k_232_423 L xs, List.forall_mem_cons.mpr ⟨k_232_424 L xs, List.forall_mem_cons.mpr ⟨k_232_425 L xs, List.forall_mem_cons.mpr ⟨k_232_426 L xs, List.forall_mem_cons.mpr ⟨k_232_427 L xs, List.forall_mem_cons.mpr ⟨k_232_428 L xs, List.forall_mem_cons.mpr ⟨k_232_429 L xs, List.forall_mem_cons.mpr ⟨k_232_430 L xs, List.forall_mem_cons.mpr ⟨k_232_431 L xs, List.forall_mem_cons.mpr ⟨k_232_434 L xs, List.forall_mem_cons.mpr ⟨k_232_437 L xs, List.forall_mem_cons.mpr ⟨k_232_438 L xs, List.forall_mem_cons.mpr ⟨k_232_439 L xs, List.forall_mem_cons.mpr ⟨k_232_440 L xs, List.forall_mem_cons.mpr ⟨k_232_441 L xs, List.forall_mem_cons.mpr ⟨k_232_442 L xs, List.forall_mem_cons.mpr ⟨k_232_443 L xs, List.forall_mem_cons.mpr ⟨k_232_444 L xs, List.forall_mem_cons.mpr ⟨k_232_445 L xs, List.forall_mem_cons.mpr ⟨k_232_448 L xs, List.forall_mem_cons.mpr ⟨k_232_449 L xs, List.forall_mem_cons.mpr ⟨k_232_450 L xs, List.forall_mem_cons.mpr ⟨k_232_451 L xs, List.forall_mem_cons.mpr ⟨k_232_452 L xs, List.forall_mem_cons.mpr ⟨k_232_453 L xs, List.forall_mem_cons.mpr ⟨k_232_454 L xs, List.forall_mem_cons.mpr ⟨k_232_457 L xs, List.forall_mem_cons.mpr ⟨k_232_460 L xs, List.forall_mem_cons.mpr ⟨k_232_461 L xs, List.forall_mem_cons.mpr ⟨k_232_462 L xs, List.forall_mem_cons.mpr ⟨k_232_463 L xs, List.forall_mem_cons.mpr ⟨k_232_464 L xs, List.forall_mem_cons.mpr ⟨k_232_465 L xs, List.forall_mem_cons.mpr ⟨k_232_466 L xs, List.forall_mem_cons.mpr ⟨k_232_467 L xs, List.forall_mem_cons.mpr ⟨k_232_468 L xs, List.forall_mem_cons.mpr ⟨k_232_469 L xs, List.forall_mem_cons.mpr ⟨k_232_470 L xs, List.forall_mem_cons.mpr ⟨k_232_471 L xs, List.forall_mem_cons.mpr ⟨k_232_472 L xs, List.forall_mem_cons.mpr ⟨k_232_473 L xs, List.forall_mem_cons.mpr ⟨k_232_476 L xs, List.forall_mem_cons.mpr ⟨k_232_477 L xs, List.forall_mem_cons.mpr ⟨k_232_478 L xs, List.forall_mem_cons.mpr ⟨k_232_479 L xs, List.forall_mem_cons.mpr ⟨k_232_480 L xs, List.forall_mem_cons.mpr ⟨k_232_481 L xs, List.forall_mem_cons.mpr ⟨k_232_482 L xs, List.forall_mem_cons.mpr ⟨k_232_483 L xs, List.forall_mem_cons.mpr ⟨k_232_484 L xs, List.forall_mem_cons.mpr ⟨k_232_485 L xs, List.forall_mem_cons.mpr ⟨k_232_486 L xs, List.forall_mem_cons.mpr ⟨k_232_487 L xs, List.forall_mem_cons.mpr ⟨k_232_490 L xs, List.forall_mem_cons.mpr ⟨k_232_493 L xs, List.forall_mem_cons.mpr ⟨k_232_494 L xs, List.forall_mem_cons.mpr ⟨k_232_495 L xs, List.forall_mem_cons.mpr ⟨k_232_496 L xs, List.forall_mem_cons.mpr ⟨k_232_497 L xs, List.forall_mem_cons.mpr ⟨k_232_498 L xs, List.forall_mem_cons.mpr ⟨k_232_499 L xs, List.forall_mem_cons.mpr ⟨k_232_500 L xs, List.forall_mem_cons.mpr ⟨k_232_501 L xs, List.forall_mem_cons.mpr ⟨k_232_502 L xs, List.forall_mem_cons.mpr ⟨k_232_503 L xs, List.forall_mem_cons.mpr ⟨k_232_504 L xs, List.forall_mem_cons.mpr ⟨k_232_505 L xs, List.forall_mem_cons.mpr ⟨k_232_506 L xs, List.forall_mem_cons.mpr ⟨k_232_507 L xs, List.forall_mem_cons.mpr ⟨k_232_508 L xs, List.forall_mem_cons.mpr ⟨k_232_509 L xs, List.forall_mem_cons.mpr ⟨k_232_510 L xs, List.forall_mem_cons.mpr ⟨k_232_511 L xs, List.forall_mem_cons.mpr ⟨k_232_514 L xs, List.forall_mem_cons.mpr ⟨k_232_515 L xs, List.forall_mem_cons.mpr ⟨k_232_516 L xs, List.forall_mem_cons.mpr ⟨k_232_517 L xs, List.forall_mem_cons.mpr ⟨k_232_518 L xs, List.forall_mem_cons.mpr ⟨k_232_519 L xs, List.forall_mem_cons.mpr ⟨k_232_520 L xs, List.forall_mem_cons.mpr ⟨k_232_521 L xs, List.forall_mem_cons.mpr ⟨k_232_522 L xs, List.forall_mem_cons.mpr ⟨k_232_523 L xs, List.forall_mem_cons.mpr ⟨k_232_524 L xs, List.forall_mem_cons.mpr ⟨k_232_525 L xs, List.forall_mem_cons.mpr ⟨k_232_526 L xs, List.forall_mem_cons.mpr ⟨k_232_527 L xs, List.forall_mem_cons.mpr ⟨k_232_528 L xs, List.forall_mem_cons.mpr ⟨k_232_529 L xs, List.forall_mem_cons.mpr ⟨k_232_530 L xs, List.forall_mem_cons.mpr ⟨k_232_533 L xs, List.forall_mem_cons.mpr ⟨k_232_536 L xs, List.forall_mem_cons.mpr ⟨k_232_537 L xs, List.forall_mem_cons.mpr ⟨k_232_538 L xs, List.forall_mem_cons.mpr ⟨k_232_539 L xs, List.forall_mem_cons.mpr ⟨k_232_542 L xs, List.forall_mem_cons.mpr ⟨k_232_543 L xs, List.forall_mem_cons.mpr ⟨k_232_546 L xs, List.forall_mem_cons.mpr ⟨k_232_549 L xs, List.forall_mem_cons.mpr ⟨k_232_550 L xs, List.forall_mem_cons.mpr ⟨k_232_551 L xs, List.forall_mem_cons.mpr ⟨k_232_552 L xs, List.forall_mem_cons.mpr ⟨k_232_553 L xs, List.forall_mem_cons.mpr ⟨k_232_554 L xs, List.forall_mem_cons.mpr ⟨k_232_555 L xs, List.forall_mem_cons.mpr ⟨k_232_556 L xs, List.forall_mem_cons.mpr ⟨k_232_557 L xs, List.forall_mem_cons.mpr ⟨k_232_560 L xs, List.forall_mem_cons.mpr ⟨k_232_561 L xs, List.forall_mem_cons.mpr ⟨k_232_562 L xs, List.forall_mem_cons.mpr ⟨k_232_563 L xs, List.forall_mem_cons.mpr ⟨k_232_564 L xs, List.forall_mem_cons.mpr ⟨k_232_565 L xs, List.forall_mem_cons.mpr ⟨k_232_566 L xs, List.forall_mem_cons.mpr ⟨k_232_569 L xs, List.forall_mem_cons.mpr ⟨k_232_572 L xs, List.forall_mem_cons.mpr ⟨k_232_573 L xs, List.forall_mem_cons.mpr ⟨k_232_574 L xs, List.forall_mem_cons.mpr ⟨k_232_575 L xs, List.forall_mem_cons.mpr ⟨k_232_576 L xs, List.forall_mem_cons.mpr ⟨k_232_577 L xs, List.forall_mem_cons.mpr ⟨k_232_578 L xs, List.forall_mem_cons.mpr ⟨k_232_579 L xs, List.forall_mem_cons.mpr ⟨k_232_580 L xs, List.forall_mem_cons.mpr ⟨k_232_583 L xs, List.forall_mem_cons.mpr ⟨k_232_584 L xs, List.forall_mem_cons.mpr ⟨k_232_585 L xs, List.forall_mem_cons.mpr ⟨k_232_586 L xs, List.forall_mem_cons.mpr ⟨k_232_587 L xs, List.forall_mem_cons.mpr ⟨k_232_588 L xs, List.forall_mem_cons.mpr ⟨k_232_589 L xs, List.forall_mem_cons.mpr ⟨k_232_592 L xs, List.forall_mem_cons.mpr ⟨k_232_595 L xs, List.forall_mem_cons.mpr ⟨k_232_596 L xs, List.forall_mem_cons.mpr ⟨k_232_597 L xs, List.forall_mem_cons.mpr ⟨k_232_598 L xs, List.forall_mem_cons.mpr ⟨k_232_599 L xs, List.forall_mem_cons.mpr ⟨k_232_600 L xs, List.forall_mem_cons.mpr ⟨k_232_601 L xs, List.forall_mem_cons.mpr ⟨k_232_602 L xs, List.forall_mem_cons.mpr ⟨k_232_603 L xs, List.forall_mem_cons.mpr ⟨k_232_604 L xs, List.forall_mem_cons.mpr ⟨k_232_605 L xs, List.forall_mem_cons.mpr ⟨k_232_606 L xs, List.forall_mem_cons.mpr ⟨k_232_607 L xs, List.forall_mem_cons.mpr ⟨k_232_608 L xs, List.forall_mem_cons.mpr ⟨k_232_611 L xs, List.forall_mem_cons.mpr ⟨k_232_612 L xs, List.forall_mem_cons.mpr ⟨k_232_613 L xs, List.forall_mem_cons.mpr ⟨k_232_614 L xs, List.forall_mem_cons.mpr ⟨k_232_615 L xs, List.forall_mem_cons.mpr ⟨k_232_616 L xs, List.forall_mem_cons.mpr ⟨k_232_617 L xs, List.forall_mem_cons.mpr ⟨k_232_618 L xs, List.forall_mem_cons.mpr ⟨k_232_619 L xs, List.forall_mem_cons.mpr ⟨k_232_620 L xs, List.forall_mem_cons.mpr ⟨k_232_621 L xs, List.forall_mem_cons.mpr ⟨k_232_622 L xs, List.forall_mem_cons.mpr ⟨k_232_625 L xs, List.forall_mem_cons.mpr ⟨k_232_628 L xs, List.forall_mem_cons.mpr ⟨k_232_629 L xs, List.forall_mem_cons.mpr ⟨k_232_630 L xs, List.forall_mem_cons.mpr ⟨k_232_631 L xs, List.forall_mem_cons.mpr ⟨k_232_632 L xs, List.forall_mem_cons.mpr ⟨k_232_633 L xs, List.forall_mem_cons.mpr ⟨k_232_634 L xs, List.forall_mem_cons.mpr ⟨k_232_635 L xs, List.forall_mem_cons.mpr ⟨k_232_636 L xs, List.forall_mem_cons.mpr ⟨k_232_637 L xs, List.forall_mem_cons.mpr ⟨k_232_638 L xs, List.forall_mem_cons.mpr ⟨k_232_639 L xs, List.forall_mem_cons.mpr ⟨k_232_640 L xs, List.forall_mem_cons.mpr ⟨k_232_641 L xs, List.forall_mem_cons.mpr ⟨k_232_642 L xs, List.forall_mem_cons.mpr ⟨k_232_643 L xs, List.forall_mem_cons.mpr ⟨k_232_644 L xs, List.forall_mem_cons.mpr ⟨k_232_645 L xs, List.forall_mem_cons.mpr ⟨k_232_646 L xs, List.forall_mem_cons.mpr ⟨k_232_649 L xs, List.forall_mem_cons.mpr ⟨k_232_650 L xs, List.forall_mem_cons.mpr ⟨k_232_651 L xs, List.forall_mem_cons.mpr ⟨k_232_652 L xs, List.forall_mem_cons.mpr ⟨k_232_653 L xs, List.forall_mem_cons.mpr ⟨k_232_654 L xs, List.forall_mem_cons.mpr ⟨k_232_655 L xs, List.forall_mem_cons.mpr ⟨k_232_656 L xs, List.forall_mem_cons.mpr ⟨k_232_657 L xs, List.forall_mem_cons.mpr ⟨k_232_658 L xs, List.forall_mem_cons.mpr ⟨k_232_659 L xs, List.forall_mem_cons.mpr ⟨k_232_660 L xs, List.forall_mem_cons.mpr ⟨k_232_661 L xs, List.forall_mem_cons.mpr ⟨k_232_662 L xs, List.forall_mem_cons.mpr ⟨k_232_663 L xs, List.forall_mem_cons.mpr ⟨k_232_664 L xs, List.forall_mem_cons.mpr ⟨k_232_665 L xs, List.forall_mem_cons.mpr ⟨k_232_668 L xs, List.forall_mem_cons.mpr ⟨k_232_671 L xs, List.forall_mem_cons.mpr ⟨k_232_672 L xs, List.forall_mem_cons.mpr ⟨k_232_673 L xs, List.forall_mem_cons.mpr ⟨k_232_674 L xs, List.forall_mem_cons.mpr ⟨k_232_677 L xs, List.forall_mem_cons.mpr ⟨k_232_678 L xs, List.forall_mem_cons.mpr ⟨k_232_681 L xs, List.forall_mem_cons.mpr ⟨k_232_684 L xs, List.forall_mem_cons.mpr ⟨k_232_685 L xs, List.forall_mem_cons.mpr ⟨k_232_686 L xs, List.forall_mem_cons.mpr ⟨k_232_687 L xs, List.forall_mem_cons.mpr ⟨k_232_690 L xs, List.forall_mem_cons.mpr ⟨k_232_691 L xs, List.forall_mem_cons.mpr ⟨k_232_694 L xs, List.forall_mem_cons.mpr ⟨k_232_697 L xs, List.forall_mem_cons.mpr ⟨k_232_698 L xs, List.forall_mem_cons.mpr ⟨k_232_699 L xs, List.forall_mem_cons.mpr ⟨k_232_700 L xs, List.forall_mem_cons.mpr ⟨k_232_701 L xs, List.forall_mem_cons.mpr ⟨k_232_702 L xs, List.forall_mem_cons.mpr ⟨k_232_703 L xs, List.forall_mem_cons.mpr ⟨k_232_704 L xs, List.forall_mem_cons.mpr ⟨k_232_705 L xs, List.forall_mem_cons.mpr ⟨k_232_708 L xs, List.forall_mem_cons.mpr ⟨k_232_709 L xs, List.forall_mem_cons.mpr ⟨k_232_710 L xs, List.forall_mem_cons.mpr ⟨k_232_711 L xs, List.forall_mem_cons.mpr ⟨k_232_712 L xs, List.forall_mem_cons.mpr ⟨k_232_713 L xs, List.forall_mem_cons.mpr ⟨k_232_714 L xs, List.forall_mem_cons.mpr ⟨k_232_717 L xs, List.forall_mem_cons.mpr ⟨k_232_720 L xs, List.forall_mem_cons.mpr ⟨k_232_721 L xs, List.forall_mem_cons.mpr ⟨k_232_722 L xs, List.forall_mem_cons.mpr ⟨k_232_723 L xs, List.forall_mem_cons.mpr ⟨k_232_726 L xs, List.forall_mem_cons.mpr ⟨k_232_727 L xs, List.forall_mem_cons.mpr ⟨k_232_730 L xs, List.forall_mem_cons.mpr ⟨k_232_733 L xs, List.forall_mem_cons.mpr ⟨k_232_734 L xs, List.forall_mem_cons.mpr ⟨k_232_735 L xs, List.forall_mem_cons.mpr ⟨k_232_736 L xs, List.forall_mem_cons.mpr ⟨k_232_737 L xs, List.forall_mem_cons.mpr ⟨k_232_738 L xs, List.forall_mem_cons.mpr ⟨k_232_739 L xs, List.forall_mem_cons.mpr ⟨k_232_740 L xs, List.forall_mem_cons.mpr ⟨k_232_741 L xs, List.forall_mem_cons.mpr ⟨k_232_742 L xs, List.forall_mem_cons.mpr ⟨k_232_743 L xs, List.forall_mem_cons.mpr ⟨k_232_744 L xs, List.forall_mem_cons.mpr ⟨k_232_745 L xs, List.forall_mem_cons.mpr ⟨k_232_746 L xs, List.forall_mem_cons.mpr ⟨k_232_749 L xs, List.forall_mem_cons.mpr ⟨k_232_750 L xs, List.forall_mem_cons.mpr ⟨k_232_751 L xs, List.forall_mem_cons.mpr ⟨k_232_752 L xs, List.forall_mem_cons.mpr ⟨k_232_753 L xs, List.forall_mem_cons.mpr ⟨k_232_754 L xs, List.forall_mem_cons.mpr ⟨k_232_755 L xs, List.forall_mem_cons.mpr ⟨k_232_756 L xs, List.forall_mem_cons.mpr ⟨k_232_757 L xs, List.forall_mem_cons.mpr ⟨k_232_758 L xs, List.forall_mem_cons.mpr ⟨k_232_759 L xs, List.forall_mem_cons.mpr ⟨k_232_760 L xs, List.forall_mem_cons.mpr ⟨k_232_763 L xs, List.forall_mem_cons.mpr ⟨k_232_766 L xs, List.forall_mem_cons.mpr ⟨k_232_767 L xs, List.forall_mem_cons.mpr ⟨k_232_768 L xs, List.forall_mem_cons.mpr ⟨k_232_769 L xs, List.forall_mem_cons.mpr ⟨k_232_770 L xs, List.forall_mem_cons.mpr ⟨k_232_771 L xs, List.forall_mem_cons.mpr ⟨k_232_772 L xs, List.forall_mem_cons.mpr ⟨k_232_773 L xs, List.forall_mem_cons.mpr ⟨k_232_774 L xs, List.forall_mem_cons.mpr ⟨k_232_777 L xs, List.forall_mem_cons.mpr ⟨k_232_778 L xs, List.forall_mem_cons.mpr ⟨k_232_779 L xs, List.forall_mem_cons.mpr ⟨k_232_780 L xs, List.forall_mem_cons.mpr ⟨k_232_781 L xs, List.forall_mem_cons.mpr ⟨k_232_782 L xs, List.forall_mem_cons.mpr ⟨k_232_783 L xs, List.forall_mem_cons.mpr ⟨k_232_786 L xs, List.forall_mem_cons.mpr ⟨k_232_789 L xs, List.forall_mem_cons.mpr ⟨k_232_790 L xs, List.forall_mem_cons.mpr ⟨k_232_791 L xs, List.forall_mem_cons.mpr ⟨k_232_792 L xs, List.forall_mem_cons.mpr ⟨k_232_793 L xs, List.forall_mem_cons.mpr ⟨k_232_794 L xs, List.forall_mem_cons.mpr ⟨k_232_795 L xs, List.forall_mem_cons.mpr ⟨k_232_796 L xs, List.forall_mem_cons.mpr ⟨k_232_797 L xs, List.forall_mem_cons.mpr ⟨k_232_800 L xs, List.forall_mem_cons.mpr ⟨k_232_801 L xs, List.forall_mem_cons.mpr ⟨k_232_802 L xs, List.forall_mem_cons.mpr ⟨k_232_803 L xs, List.forall_mem_cons.mpr ⟨k_232_804 L xs, List.forall_mem_cons.mpr ⟨k_232_805 L xs, List.forall_mem_cons.mpr ⟨k_232_806 L xs, List.forall_mem_cons.mpr ⟨k_232_809 L xs, List.forall_mem_cons.mpr ⟨k_232_812 L xs, List.forall_mem_cons.mpr ⟨k_232_813 L xs, List.forall_mem_cons.mpr ⟨k_232_814 L xs, List.forall_mem_cons.mpr ⟨k_232_817 L xs, List.forall_mem_cons.mpr ⟨k_232_820 L xs, List.forall_mem_cons.mpr ⟨k_232_821 L xs, fun _ h => absurd h List.not_mem_nil⟩⟩⟩⟩⟩⟩⟩⟩⟩⟩⟩⟩⟩⟩⟩⟩⟩⟩⟩⟩⟩⟩⟩⟩⟩⟩⟩⟩⟩⟩⟩⟩⟩⟩⟩⟩⟩⟩⟩⟩⟩⟩⟩⟩⟩⟩⟩⟩⟩⟩⟩⟩⟩⟩⟩⟩⟩⟩⟩⟩⟩⟩⟩⟩⟩⟩⟩⟩⟩⟩⟩⟩⟩⟩⟩⟩⟩⟩⟩⟩⟩⟩⟩⟩⟩⟩⟩⟩⟩⟩⟩⟩⟩⟩⟩⟩⟩⟩⟩⟩⟩⟩⟩⟩⟩⟩⟩⟩⟩⟩⟩⟩⟩⟩⟩⟩⟩⟩⟩⟩⟩⟩⟩⟩⟩⟩⟩⟩⟩⟩⟩⟩⟩⟩⟩⟩⟩⟩⟩⟩⟩⟩⟩⟩⟩⟩⟩⟩⟩⟩⟩⟩⟩⟩⟩⟩⟩⟩⟩⟩⟩⟩⟩⟩⟩⟩⟩⟩⟩⟩⟩⟩⟩⟩⟩⟩⟩⟩⟩⟩⟩⟩⟩⟩⟩⟩⟩⟩⟩⟩⟩⟩⟩⟩⟩⟩⟩⟩⟩⟩⟩⟩⟩⟩⟩⟩⟩⟩⟩⟩⟩⟩⟩⟩⟩⟩⟩⟩⟩⟩⟩⟩⟩⟩⟩⟩⟩⟩⟩⟩⟩⟩⟩⟩⟩⟩⟩⟩⟩⟩⟩⟩⟩⟩⟩⟩⟩⟩⟩⟩⟩⟩⟩⟩⟩⟩⟩⟩⟩⟩⟩⟩⟩⟩⟩⟩⟩⟩⟩⟩⟩⟩⟩⟩⟩⟩⟩⟩⟩⟩⟩⟩⟩⟩⟩⟩⟩⟩⟩⟩⟩⟩⟩⟩⟩⟩⟩⟩⟩⟩⟩⟩⟩⟩⟩⟩⟩⟩⟩⟩⟩⟩⟩⟩⟩⟩⟩⟩⟩⟩⟩⟩⟩⟩⟩⟩⟩⟩⟩⟩⟩⟩⟩⟩⟩⟩⟩⟩⟩⟩⟩⟩⟩⟩⟩⟩⟩⟩⟩⟩⟩⟩⟩⟩⟩⟩⟩⟩⟩⟩⟩⟩⟩⟩⟩⟩⟩⟩⟩⟩⟩⟩⟩⟩⟩⟩⟩⟩⟩⟩⟩⟩⟩⟩⟩⟩⟩⟩⟩⟩⟩⟩⟩⟩⟩⟩⟩⟩⟩⟩⟩⟩⟩⟩⟩⟩⟩⟩⟩⟩⟩⟩⟩⟩⟩⟩⟩⟩⟩⟩⟩⟩⟩⟩⟩⟩⟩⟩⟩⟩⟩⟩⟩⟩⟩⟩⟩⟩⟩⟩⟩⟩⟩⟩⟩⟩⟩⟩⟩⟩⟩⟩⟩⟩⟩⟩⟩⟩⟩⟩⟩⟩⟩⟩⟩⟩⟩⟩⟩⟩⟩⟩⟩⟩⟩⟩⟩⟩⟩⟩⟩⟩⟩⟩⟩⟩⟩⟩⟩⟩⟩⟩⟩⟩⟩⟩⟩⟩⟩⟩⟩⟩⟩⟩⟩⟩⟩⟩⟩⟩⟩⟩⟩⟩⟩⟩⟩⟩⟩⟩⟩⟩⟩⟩⟩⟩⟩⟩⟩⟩⟩⟩⟩⟩⟩⟩⟩⟩⟩⟩⟩⟩⟩⟩⟩⟩
