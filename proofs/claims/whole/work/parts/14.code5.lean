/-! CODE TABLES, and that each row is the machine's (written by wip/whole/gen.py) -/
/-- InclusionProver.image.(I)Z -/
def cd_136 : List (Nat × ll_O) := [
  (0, .inl (lo_iload 1 1)),
  (1, .inl (lo_if 9 4 (fun x => decide (x < 0)))),
  (4, .inl (lo_iload 5 1)),
  (5, .inl (lo_push 6 (.int 2))),
  (6, .inl (lo_cmp 11 9 (fun x y => decide (x < y)))),
  (9, .inl (lo_push 10 (.int 0))),
  (10, .inr (.inr 2)),
  (11, .inl (lo_aload 12 0)),
  (12, .inl (lo_getf 15 10 9)),
  (15, .inl (lo_iload 16 1)),
  (16, .inl (lo_aald 17)),
  (17, .inl (lo_aload 18 0)),
  (18, .inl (lo_getf 21 10 8)),
  (21, .inr (.inl (30, 2, 24))),
  (24, .inl (lo_aload 25 0)),
  (25, .inl (lo_getf 28 10 10)),
  (28, .inl (lo_iload 29 1)),
  (29, .inl (lo_push 30 (.int 1))),
  (30, .inl (lo_ast 31 1)),
  (31, .inl (lo_push 32 (.int 1))),
  (32, .inr (.inr 2))]
theorem k_136_0 (L : Nat) (xs : Nat → Int32) : ll_OK1 cX10_image RX10 (some .boolean) false ll_mN ll_mR ll_mK ll_cnt L xs false 0 (.inl (lo_iload 1 1)) := lk_iload_n (k := 1) (by decide +kernel) rfl
theorem k_136_1 (L : Nat) (xs : Nat → Int32) : ll_OK1 cX10_image RX10 (some .boolean) false ll_mN ll_mR ll_mK ll_cnt L xs false 1 (.inl (lo_if 9 4 (fun x => decide (x < 0)))) := lk_if_lt (off := 8) (by decide +kernel) rfl
theorem k_136_4 (L : Nat) (xs : Nat → Int32) : ll_OK1 cX10_image RX10 (some .boolean) false ll_mN ll_mR ll_mK ll_cnt L xs false 4 (.inl (lo_iload 5 1)) := lk_iload_n (k := 1) (by decide +kernel) rfl
theorem k_136_5 (L : Nat) (xs : Nat → Int32) : ll_OK1 cX10_image RX10 (some .boolean) false ll_mN ll_mR ll_mK ll_cnt L xs false 5 (.inl (lo_push 6 (.int 2))) := lk_iconst (n := 2) (by decide +kernel) (by decide)
theorem k_136_6 (L : Nat) (xs : Nat → Int32) : ll_OK1 cX10_image RX10 (some .boolean) false ll_mN ll_mR ll_mK ll_cnt L xs false 6 (.inl (lo_cmp 11 9 (fun x y => decide (x < y)))) := lk_icmp_lt (off := 5) (by decide +kernel) rfl
theorem k_136_9 (L : Nat) (xs : Nat → Int32) : ll_OK1 cX10_image RX10 (some .boolean) false ll_mN ll_mR ll_mK ll_cnt L xs false 9 (.inl (lo_push 10 (.int 0))) := lk_iconst (n := 0) (by decide +kernel) (by decide)
theorem k_136_10 (L : Nat) (xs : Nat → Int32) : ll_OK1 cX10_image RX10 (some .boolean) false ll_mN ll_mR ll_mK ll_cnt L xs false 10 (.inr (.inr 2)) := ⟨(fun h => by cases h), (fun h => by cases h), fun _ => ⟨(by decide +kernel), rfl⟩⟩
theorem k_136_11 (L : Nat) (xs : Nat → Int32) : ll_OK1 cX10_image RX10 (some .boolean) false ll_mN ll_mR ll_mK ll_cnt L xs false 11 (.inl (lo_aload 12 0)) := lk_aload_n (k := 0) (by decide +kernel) rfl
theorem k_136_12 (L : Nat) (xs : Nat → Int32) : ll_OK1 cX10_image RX10 (some .boolean) false ll_mN ll_mR ll_mK ll_cnt L xs false 12 (.inl (lo_getf 15 10 9)) := lk_getf (ix := 85) (ci := 10) (k := 9) (C := RX10) (T := TX10) (N := 11) (by decide +kernel) rfl in_10 (by decide) tb_487
theorem k_136_15 (L : Nat) (xs : Nat → Int32) : ll_OK1 cX10_image RX10 (some .boolean) false ll_mN ll_mR ll_mK ll_cnt L xs false 15 (.inl (lo_iload 16 1)) := lk_iload_n (k := 1) (by decide +kernel) rfl
theorem k_136_16 (L : Nat) (xs : Nat → Int32) : ll_OK1 cX10_image RX10 (some .boolean) false ll_mN ll_mR ll_mK ll_cnt L xs false 16 (.inl (lo_aald 17)) := lk_aald (by decide +kernel)
theorem k_136_17 (L : Nat) (xs : Nat → Int32) : ll_OK1 cX10_image RX10 (some .boolean) false ll_mN ll_mR ll_mK ll_cnt L xs false 17 (.inl (lo_aload 18 0)) := lk_aload_n (k := 0) (by decide +kernel) rfl
theorem k_136_18 (L : Nat) (xs : Nat → Int32) : ll_OK1 cX10_image RX10 (some .boolean) false ll_mN ll_mR ll_mK ll_cnt L xs false 18 (.inl (lo_getf 21 10 8)) := lk_getf (ix := 81) (ci := 10) (k := 8) (C := RX10) (T := TX10) (N := 11) (by decide +kernel) rfl in_10 (by decide) tb_485
theorem k_136_21 (L : Nat) (xs : Nat → Int32) : ll_OK1 cX10_image RX10 (some .boolean) false ll_mN ll_mR ll_mK ll_cnt L xs false 21 (.inr (.inl (30, 2, 24))) := ⟨rfl, by decide, by rw [mN_30, mK_30, mR_30]; exact lj_v 301 1 3 (RX3, TX3, 5) (by decide +kernel) tb_595 tb_596 tb_597 rfl rfl rfl rfl (by decide +kernel)⟩
theorem k_136_24 (L : Nat) (xs : Nat → Int32) : ll_OK1 cX10_image RX10 (some .boolean) false ll_mN ll_mR ll_mK ll_cnt L xs false 24 (.inl (lo_aload 25 0)) := lk_aload_n (k := 0) (by decide +kernel) rfl
theorem k_136_25 (L : Nat) (xs : Nat → Int32) : ll_OK1 cX10_image RX10 (some .boolean) false ll_mN ll_mR ll_mK ll_cnt L xs false 25 (.inl (lo_getf 28 10 10)) := lk_getf (ix := 89) (ci := 10) (k := 10) (C := RX10) (T := TX10) (N := 11) (by decide +kernel) rfl in_10 (by decide) tb_489
theorem k_136_28 (L : Nat) (xs : Nat → Int32) : ll_OK1 cX10_image RX10 (some .boolean) false ll_mN ll_mR ll_mK ll_cnt L xs false 28 (.inl (lo_iload 29 1)) := lk_iload_n (k := 1) (by decide +kernel) rfl
theorem k_136_29 (L : Nat) (xs : Nat → Int32) : ll_OK1 cX10_image RX10 (some .boolean) false ll_mN ll_mR ll_mK ll_cnt L xs false 29 (.inl (lo_push 30 (.int 1))) := lk_iconst (n := 1) (by decide +kernel) (by decide)
theorem k_136_30 (L : Nat) (xs : Nat → Int32) : ll_OK1 cX10_image RX10 (some .boolean) false ll_mN ll_mR ll_mK ll_cnt L xs false 30 (.inl (lo_ast 31 1)) := lk_zast (by decide +kernel)
theorem k_136_31 (L : Nat) (xs : Nat → Int32) : ll_OK1 cX10_image RX10 (some .boolean) false ll_mN ll_mR ll_mK ll_cnt L xs false 31 (.inl (lo_push 32 (.int 1))) := lk_iconst (n := 1) (by decide +kernel) (by decide)
theorem k_136_32 (L : Nat) (xs : Nat → Int32) : ll_OK1 cX10_image RX10 (some .boolean) false ll_mN ll_mR ll_mK ll_cnt L xs false 32 (.inr (.inr 2)) := ⟨(fun h => by cases h), (fun h => by cases h), fun _ => ⟨(by decide +kernel), rfl⟩⟩
theorem ok_136 (L : Nat) (xs : Nat → Int32) : ∀ q ∈ cd_136, ll_OK1 cX10_image RX10 (some .boolean) false ll_mN ll_mR ll_mK ll_cnt L xs false q.1 q.2 :=
  List.forall_mem_cons.mpr ⟨k_136_0 L xs, List.forall_mem_cons.mpr ⟨k_136_1 L xs, List.forall_mem_cons.mpr ⟨k_136_4 L xs, List.forall_mem_cons.mpr ⟨k_136_5 L xs, List.forall_mem_cons.mpr ⟨k_136_6 L xs, List.forall_mem_cons.mpr ⟨k_136_9 L xs, List.forall_mem_cons.mpr ⟨k_136_10 L xs, List.forall_mem_cons.mpr ⟨k_136_11 L xs, List.forall_mem_cons.mpr ⟨k_136_12 L xs, List.forall_mem_cons.mpr ⟨k_136_15 L xs, List.forall_mem_cons.mpr ⟨k_136_16 L xs, List.forall_mem_cons.mpr ⟨k_136_17 L xs, List.forall_mem_cons.mpr ⟨k_136_18 L xs, List.forall_mem_cons.mpr ⟨k_136_21 L xs, List.forall_mem_cons.mpr ⟨k_136_24 L xs, List.forall_mem_cons.mpr ⟨k_136_25 L xs, List.forall_mem_cons.mpr ⟨k_136_28 L xs, List.forall_mem_cons.mpr ⟨k_136_29 L xs, List.forall_mem_cons.mpr ⟨k_136_30 L xs, List.forall_mem_cons.mpr ⟨k_136_31 L xs, List.forall_mem_cons.mpr ⟨k_136_32 L xs, fun _ h => absurd h List.not_mem_nil⟩⟩⟩⟩⟩⟩⟩⟩⟩⟩⟩⟩⟩⟩⟩⟩⟩⟩⟩⟩⟩
/-- InclusionProver.again.(I)Z -/
def cd_137 : List (Nat × ll_O) := [
  (0, .inl (lo_iload 1 1)),
  (1, .inl (lo_if 18 4 (fun x => decide (x < 0)))),
  (4, .inl (lo_iload 5 1)),
  (5, .inl (lo_push 6 (.int 2))),
  (6, .inl (lo_cmp 18 9 (fun x y => decide (y ≤ x)))),
  (9, .inl (lo_aload 10 0)),
  (10, .inl (lo_getf 13 10 10)),
  (13, .inl (lo_iload 14 1)),
  (14, .inl (lo_ald 15 1)),
  (15, .inl (lo_if 20 18 (fun x => decide (¬ x = 0)))),
  (18, .inl (lo_push 19 (.int 0))),
  (19, .inr (.inr 2)),
  (20, .inl (lo_aload 21 0)),
  (21, .inl (lo_getf 24 10 8)),
  (24, .inl (lo_aload 25 0)),
  (25, .inl (lo_getf 28 10 9)),
  (28, .inl (lo_iload 29 1)),
  (29, .inl (lo_aald 30)),
  (30, .inr (.inl (30, 2, 33))),
  (33, .inl (lo_push 34 (.int 1))),
  (34, .inr (.inr 2))]
theorem k_137_0 (L : Nat) (xs : Nat → Int32) : ll_OK1 cX10_again RX10 (some .boolean) false ll_mN ll_mR ll_mK ll_cnt L xs false 0 (.inl (lo_iload 1 1)) := lk_iload_n (k := 1) (by decide +kernel) rfl
theorem k_137_1 (L : Nat) (xs : Nat → Int32) : ll_OK1 cX10_again RX10 (some .boolean) false ll_mN ll_mR ll_mK ll_cnt L xs false 1 (.inl (lo_if 18 4 (fun x => decide (x < 0)))) := lk_if_lt (off := 17) (by decide +kernel) rfl
theorem k_137_4 (L : Nat) (xs : Nat → Int32) : ll_OK1 cX10_again RX10 (some .boolean) false ll_mN ll_mR ll_mK ll_cnt L xs false 4 (.inl (lo_iload 5 1)) := lk_iload_n (k := 1) (by decide +kernel) rfl
theorem k_137_5 (L : Nat) (xs : Nat → Int32) : ll_OK1 cX10_again RX10 (some .boolean) false ll_mN ll_mR ll_mK ll_cnt L xs false 5 (.inl (lo_push 6 (.int 2))) := lk_iconst (n := 2) (by decide +kernel) (by decide)
theorem k_137_6 (L : Nat) (xs : Nat → Int32) : ll_OK1 cX10_again RX10 (some .boolean) false ll_mN ll_mR ll_mK ll_cnt L xs false 6 (.inl (lo_cmp 18 9 (fun x y => decide (y ≤ x)))) := lk_icmp_ge (off := 12) (by decide +kernel) rfl
theorem k_137_9 (L : Nat) (xs : Nat → Int32) : ll_OK1 cX10_again RX10 (some .boolean) false ll_mN ll_mR ll_mK ll_cnt L xs false 9 (.inl (lo_aload 10 0)) := lk_aload_n (k := 0) (by decide +kernel) rfl
theorem k_137_10 (L : Nat) (xs : Nat → Int32) : ll_OK1 cX10_again RX10 (some .boolean) false ll_mN ll_mR ll_mK ll_cnt L xs false 10 (.inl (lo_getf 13 10 10)) := lk_getf (ix := 89) (ci := 10) (k := 10) (C := RX10) (T := TX10) (N := 11) (by decide +kernel) rfl in_10 (by decide) tb_489
theorem k_137_13 (L : Nat) (xs : Nat → Int32) : ll_OK1 cX10_again RX10 (some .boolean) false ll_mN ll_mR ll_mK ll_cnt L xs false 13 (.inl (lo_iload 14 1)) := lk_iload_n (k := 1) (by decide +kernel) rfl
theorem k_137_14 (L : Nat) (xs : Nat → Int32) : ll_OK1 cX10_again RX10 (some .boolean) false ll_mN ll_mR ll_mK ll_cnt L xs false 14 (.inl (lo_ald 15 1)) := lk_zald (by decide +kernel)
theorem k_137_15 (L : Nat) (xs : Nat → Int32) : ll_OK1 cX10_again RX10 (some .boolean) false ll_mN ll_mR ll_mK ll_cnt L xs false 15 (.inl (lo_if 20 18 (fun x => decide (¬ x = 0)))) := lk_if_ne (off := 5) (by decide +kernel) rfl
theorem k_137_18 (L : Nat) (xs : Nat → Int32) : ll_OK1 cX10_again RX10 (some .boolean) false ll_mN ll_mR ll_mK ll_cnt L xs false 18 (.inl (lo_push 19 (.int 0))) := lk_iconst (n := 0) (by decide +kernel) (by decide)
theorem k_137_19 (L : Nat) (xs : Nat → Int32) : ll_OK1 cX10_again RX10 (some .boolean) false ll_mN ll_mR ll_mK ll_cnt L xs false 19 (.inr (.inr 2)) := ⟨(fun h => by cases h), (fun h => by cases h), fun _ => ⟨(by decide +kernel), rfl⟩⟩
theorem k_137_20 (L : Nat) (xs : Nat → Int32) : ll_OK1 cX10_again RX10 (some .boolean) false ll_mN ll_mR ll_mK ll_cnt L xs false 20 (.inl (lo_aload 21 0)) := lk_aload_n (k := 0) (by decide +kernel) rfl
theorem k_137_21 (L : Nat) (xs : Nat → Int32) : ll_OK1 cX10_again RX10 (some .boolean) false ll_mN ll_mR ll_mK ll_cnt L xs false 21 (.inl (lo_getf 24 10 8)) := lk_getf (ix := 81) (ci := 10) (k := 8) (C := RX10) (T := TX10) (N := 11) (by decide +kernel) rfl in_10 (by decide) tb_485
theorem k_137_24 (L : Nat) (xs : Nat → Int32) : ll_OK1 cX10_again RX10 (some .boolean) false ll_mN ll_mR ll_mK ll_cnt L xs false 24 (.inl (lo_aload 25 0)) := lk_aload_n (k := 0) (by decide +kernel) rfl
theorem k_137_25 (L : Nat) (xs : Nat → Int32) : ll_OK1 cX10_again RX10 (some .boolean) false ll_mN ll_mR ll_mK ll_cnt L xs false 25 (.inl (lo_getf 28 10 9)) := lk_getf (ix := 85) (ci := 10) (k := 9) (C := RX10) (T := TX10) (N := 11) (by decide +kernel) rfl in_10 (by decide) tb_487
theorem k_137_28 (L : Nat) (xs : Nat → Int32) : ll_OK1 cX10_again RX10 (some .boolean) false ll_mN ll_mR ll_mK ll_cnt L xs false 28 (.inl (lo_iload 29 1)) := lk_iload_n (k := 1) (by decide +kernel) rfl
theorem k_137_29 (L : Nat) (xs : Nat → Int32) : ll_OK1 cX10_again RX10 (some .boolean) false ll_mN ll_mR ll_mK ll_cnt L xs false 29 (.inl (lo_aald 30)) := lk_aald (by decide +kernel)
theorem k_137_30 (L : Nat) (xs : Nat → Int32) : ll_OK1 cX10_again RX10 (some .boolean) false ll_mN ll_mR ll_mK ll_cnt L xs false 30 (.inr (.inl (30, 2, 33))) := ⟨rfl, by decide, by rw [mN_30, mK_30, mR_30]; exact lj_v 301 1 3 (RX3, TX3, 5) (by decide +kernel) tb_595 tb_596 tb_597 rfl rfl rfl rfl (by decide +kernel)⟩
theorem k_137_33 (L : Nat) (xs : Nat → Int32) : ll_OK1 cX10_again RX10 (some .boolean) false ll_mN ll_mR ll_mK ll_cnt L xs false 33 (.inl (lo_push 34 (.int 1))) := lk_iconst (n := 1) (by decide +kernel) (by decide)
theorem k_137_34 (L : Nat) (xs : Nat → Int32) : ll_OK1 cX10_again RX10 (some .boolean) false ll_mN ll_mR ll_mK ll_cnt L xs false 34 (.inr (.inr 2)) := ⟨(fun h => by cases h), (fun h => by cases h), fun _ => ⟨(by decide +kernel), rfl⟩⟩
theorem ok_137 (L : Nat) (xs : Nat → Int32) : ∀ q ∈ cd_137, ll_OK1 cX10_again RX10 (some .boolean) false ll_mN ll_mR ll_mK ll_cnt L xs false q.1 q.2 :=
  List.forall_mem_cons.mpr ⟨k_137_0 L xs, List.forall_mem_cons.mpr ⟨k_137_1 L xs, List.forall_mem_cons.mpr ⟨k_137_4 L xs, List.forall_mem_cons.mpr ⟨k_137_5 L xs, List.forall_mem_cons.mpr ⟨k_137_6 L xs, List.forall_mem_cons.mpr ⟨k_137_9 L xs, List.forall_mem_cons.mpr ⟨k_137_10 L xs, List.forall_mem_cons.mpr ⟨k_137_13 L xs, List.forall_mem_cons.mpr ⟨k_137_14 L xs, List.forall_mem_cons.mpr ⟨k_137_15 L xs, List.forall_mem_cons.mpr ⟨k_137_18 L xs, List.forall_mem_cons.mpr ⟨k_137_19 L xs, List.forall_mem_cons.mpr ⟨k_137_20 L xs, List.forall_mem_cons.mpr ⟨k_137_21 L xs, List.forall_mem_cons.mpr ⟨k_137_24 L xs, List.forall_mem_cons.mpr ⟨k_137_25 L xs, List.forall_mem_cons.mpr ⟨k_137_28 L xs, List.forall_mem_cons.mpr ⟨k_137_29 L xs, List.forall_mem_cons.mpr ⟨k_137_30 L xs, List.forall_mem_cons.mpr ⟨k_137_33 L xs, List.forall_mem_cons.mpr ⟨k_137_34 L xs, fun _ h => absurd h List.not_mem_nil⟩⟩⟩⟩⟩⟩⟩⟩⟩⟩⟩⟩⟩⟩⟩⟩⟩⟩⟩⟩⟩
/-- InclusionProver.isSide.(I)Z -/
def cd_138 : List (Nat × ll_O) := [
  (0, .inl (lo_iload 1 0)),
  (1, .inl (lo_if 13 4 (fun x => decide (x < 0)))),
  (4, .inl (lo_iload 5 0)),
  (5, .inl (lo_push 6 (.int 2))),
  (6, .inl (lo_cmp 13 9 (fun x y => decide (y ≤ x)))),
  (9, .inl (lo_push 10 (.int 1))),
  (10, .inl (lo_goto 14)),
  (13, .inl (lo_push 14 (.int 0))),
  (14, .inr (.inr 2))]
theorem k_138_0 (L : Nat) (xs : Nat → Int32) : ll_OK1 cX10_isSide RX10 (some .boolean) false ll_mN ll_mR ll_mK ll_cnt L xs false 0 (.inl (lo_iload 1 0)) := lk_iload_n (k := 0) (by decide +kernel) rfl
theorem k_138_1 (L : Nat) (xs : Nat → Int32) : ll_OK1 cX10_isSide RX10 (some .boolean) false ll_mN ll_mR ll_mK ll_cnt L xs false 1 (.inl (lo_if 13 4 (fun x => decide (x < 0)))) := lk_if_lt (off := 12) (by decide +kernel) rfl
theorem k_138_4 (L : Nat) (xs : Nat → Int32) : ll_OK1 cX10_isSide RX10 (some .boolean) false ll_mN ll_mR ll_mK ll_cnt L xs false 4 (.inl (lo_iload 5 0)) := lk_iload_n (k := 0) (by decide +kernel) rfl
theorem k_138_5 (L : Nat) (xs : Nat → Int32) : ll_OK1 cX10_isSide RX10 (some .boolean) false ll_mN ll_mR ll_mK ll_cnt L xs false 5 (.inl (lo_push 6 (.int 2))) := lk_iconst (n := 2) (by decide +kernel) (by decide)
theorem k_138_6 (L : Nat) (xs : Nat → Int32) : ll_OK1 cX10_isSide RX10 (some .boolean) false ll_mN ll_mR ll_mK ll_cnt L xs false 6 (.inl (lo_cmp 13 9 (fun x y => decide (y ≤ x)))) := lk_icmp_ge (off := 7) (by decide +kernel) rfl
theorem k_138_9 (L : Nat) (xs : Nat → Int32) : ll_OK1 cX10_isSide RX10 (some .boolean) false ll_mN ll_mR ll_mK ll_cnt L xs false 9 (.inl (lo_push 10 (.int 1))) := lk_iconst (n := 1) (by decide +kernel) (by decide)
theorem k_138_10 (L : Nat) (xs : Nat → Int32) : ll_OK1 cX10_isSide RX10 (some .boolean) false ll_mN ll_mR ll_mK ll_cnt L xs false 10 (.inl (lo_goto 14)) := lk_goto (off := 4) (by decide +kernel) rfl
theorem k_138_13 (L : Nat) (xs : Nat → Int32) : ll_OK1 cX10_isSide RX10 (some .boolean) false ll_mN ll_mR ll_mK ll_cnt L xs false 13 (.inl (lo_push 14 (.int 0))) := lk_iconst (n := 0) (by decide +kernel) (by decide)
theorem k_138_14 (L : Nat) (xs : Nat → Int32) : ll_OK1 cX10_isSide RX10 (some .boolean) false ll_mN ll_mR ll_mK ll_cnt L xs false 14 (.inr (.inr 2)) := ⟨(fun h => by cases h), (fun h => by cases h), fun _ => ⟨(by decide +kernel), rfl⟩⟩
theorem ok_138 (L : Nat) (xs : Nat → Int32) : ∀ q ∈ cd_138, ll_OK1 cX10_isSide RX10 (some .boolean) false ll_mN ll_mR ll_mK ll_cnt L xs false q.1 q.2 :=
  List.forall_mem_cons.mpr ⟨k_138_0 L xs, List.forall_mem_cons.mpr ⟨k_138_1 L xs, List.forall_mem_cons.mpr ⟨k_138_4 L xs, List.forall_mem_cons.mpr ⟨k_138_5 L xs, List.forall_mem_cons.mpr ⟨k_138_6 L xs, List.forall_mem_cons.mpr ⟨k_138_9 L xs, List.forall_mem_cons.mpr ⟨k_138_10 L xs, List.forall_mem_cons.mpr ⟨k_138_13 L xs, List.forall_mem_cons.mpr ⟨k_138_14 L xs, fun _ h => absurd h List.not_mem_nil⟩⟩⟩⟩⟩⟩⟩⟩⟩
/-- InclusionProver.isSlot.(I)Z -/
def cd_139 : List (Nat × ll_O) := [
  (0, .inl (lo_iload 1 0)),
  (1, .inl (lo_if 13 4 (fun x => decide (x < 0)))),
  (4, .inl (lo_iload 5 0)),
  (5, .inl (lo_push 6 (.int 4))),
  (6, .inl (lo_cmp 13 9 (fun x y => decide (y ≤ x)))),
  (9, .inl (lo_push 10 (.int 1))),
  (10, .inl (lo_goto 14)),
  (13, .inl (lo_push 14 (.int 0))),
  (14, .inr (.inr 2))]
theorem k_139_0 (L : Nat) (xs : Nat → Int32) : ll_OK1 cX10_isSlot RX10 (some .boolean) false ll_mN ll_mR ll_mK ll_cnt L xs false 0 (.inl (lo_iload 1 0)) := lk_iload_n (k := 0) (by decide +kernel) rfl
theorem k_139_1 (L : Nat) (xs : Nat → Int32) : ll_OK1 cX10_isSlot RX10 (some .boolean) false ll_mN ll_mR ll_mK ll_cnt L xs false 1 (.inl (lo_if 13 4 (fun x => decide (x < 0)))) := lk_if_lt (off := 12) (by decide +kernel) rfl
theorem k_139_4 (L : Nat) (xs : Nat → Int32) : ll_OK1 cX10_isSlot RX10 (some .boolean) false ll_mN ll_mR ll_mK ll_cnt L xs false 4 (.inl (lo_iload 5 0)) := lk_iload_n (k := 0) (by decide +kernel) rfl
theorem k_139_5 (L : Nat) (xs : Nat → Int32) : ll_OK1 cX10_isSlot RX10 (some .boolean) false ll_mN ll_mR ll_mK ll_cnt L xs false 5 (.inl (lo_push 6 (.int 4))) := lk_iconst (n := 4) (by decide +kernel) (by decide)
theorem k_139_6 (L : Nat) (xs : Nat → Int32) : ll_OK1 cX10_isSlot RX10 (some .boolean) false ll_mN ll_mR ll_mK ll_cnt L xs false 6 (.inl (lo_cmp 13 9 (fun x y => decide (y ≤ x)))) := lk_icmp_ge (off := 7) (by decide +kernel) rfl
theorem k_139_9 (L : Nat) (xs : Nat → Int32) : ll_OK1 cX10_isSlot RX10 (some .boolean) false ll_mN ll_mR ll_mK ll_cnt L xs false 9 (.inl (lo_push 10 (.int 1))) := lk_iconst (n := 1) (by decide +kernel) (by decide)
theorem k_139_10 (L : Nat) (xs : Nat → Int32) : ll_OK1 cX10_isSlot RX10 (some .boolean) false ll_mN ll_mR ll_mK ll_cnt L xs false 10 (.inl (lo_goto 14)) := lk_goto (off := 4) (by decide +kernel) rfl
theorem k_139_13 (L : Nat) (xs : Nat → Int32) : ll_OK1 cX10_isSlot RX10 (some .boolean) false ll_mN ll_mR ll_mK ll_cnt L xs false 13 (.inl (lo_push 14 (.int 0))) := lk_iconst (n := 0) (by decide +kernel) (by decide)
theorem k_139_14 (L : Nat) (xs : Nat → Int32) : ll_OK1 cX10_isSlot RX10 (some .boolean) false ll_mN ll_mR ll_mK ll_cnt L xs false 14 (.inr (.inr 2)) := ⟨(fun h => by cases h), (fun h => by cases h), fun _ => ⟨(by decide +kernel), rfl⟩⟩
theorem ok_139 (L : Nat) (xs : Nat → Int32) : ∀ q ∈ cd_139, ll_OK1 cX10_isSlot RX10 (some .boolean) false ll_mN ll_mR ll_mK ll_cnt L xs false q.1 q.2 :=
  List.forall_mem_cons.mpr ⟨k_139_0 L xs, List.forall_mem_cons.mpr ⟨k_139_1 L xs, List.forall_mem_cons.mpr ⟨k_139_4 L xs, List.forall_mem_cons.mpr ⟨k_139_5 L xs, List.forall_mem_cons.mpr ⟨k_139_6 L xs, List.forall_mem_cons.mpr ⟨k_139_9 L xs, List.forall_mem_cons.mpr ⟨k_139_10 L xs, List.forall_mem_cons.mpr ⟨k_139_13 L xs, List.forall_mem_cons.mpr ⟨k_139_14 L xs, fun _ h => absurd h List.not_mem_nil⟩⟩⟩⟩⟩⟩⟩⟩⟩
/-- InclusionProver.canCount.(II)Z -/
def cd_140 : List (Nat × ll_O) := [
  (0, .inl (lo_iload 1 0)),
  (1, .inl (lo_if 24 4 (fun x => decide (x < 0)))),
  (4, .inl (lo_iload 5 0)),
  (5, .inl (lo_push 7 (.int 6))),
  (7, .inl (lo_cmp 24 10 (fun x y => decide (y ≤ x)))),
  (10, .inl (lo_iload 11 1)),
  (11, .inl (lo_if 24 14 (fun x => decide (x < 0)))),
  (14, .inl (lo_iload 15 1)),
  (15, .inl (lo_push 17 (.int 8))),
  (17, .inl (lo_cmp 24 20 (fun x y => decide (y < x)))),
  (20, .inl (lo_push 21 (.int 1))),
  (21, .inl (lo_goto 25)),
  (24, .inl (lo_push 25 (.int 0))),
  (25, .inr (.inr 2))]
theorem k_140_0 (L : Nat) (xs : Nat → Int32) : ll_OK1 cX10_canCount RX10 (some .boolean) false ll_mN ll_mR ll_mK ll_cnt L xs false 0 (.inl (lo_iload 1 0)) := lk_iload_n (k := 0) (by decide +kernel) rfl
theorem k_140_1 (L : Nat) (xs : Nat → Int32) : ll_OK1 cX10_canCount RX10 (some .boolean) false ll_mN ll_mR ll_mK ll_cnt L xs false 1 (.inl (lo_if 24 4 (fun x => decide (x < 0)))) := lk_if_lt (off := 23) (by decide +kernel) rfl
theorem k_140_4 (L : Nat) (xs : Nat → Int32) : ll_OK1 cX10_canCount RX10 (some .boolean) false ll_mN ll_mR ll_mK ll_cnt L xs false 4 (.inl (lo_iload 5 0)) := lk_iload_n (k := 0) (by decide +kernel) rfl
theorem k_140_5 (L : Nat) (xs : Nat → Int32) : ll_OK1 cX10_canCount RX10 (some .boolean) false ll_mN ll_mR ll_mK ll_cnt L xs false 5 (.inl (lo_push 7 (.int 6))) := lk_bipush (n := 6) (by decide +kernel) (by decide)
theorem k_140_7 (L : Nat) (xs : Nat → Int32) : ll_OK1 cX10_canCount RX10 (some .boolean) false ll_mN ll_mR ll_mK ll_cnt L xs false 7 (.inl (lo_cmp 24 10 (fun x y => decide (y ≤ x)))) := lk_icmp_ge (off := 17) (by decide +kernel) rfl
theorem k_140_10 (L : Nat) (xs : Nat → Int32) : ll_OK1 cX10_canCount RX10 (some .boolean) false ll_mN ll_mR ll_mK ll_cnt L xs false 10 (.inl (lo_iload 11 1)) := lk_iload_n (k := 1) (by decide +kernel) rfl
theorem k_140_11 (L : Nat) (xs : Nat → Int32) : ll_OK1 cX10_canCount RX10 (some .boolean) false ll_mN ll_mR ll_mK ll_cnt L xs false 11 (.inl (lo_if 24 14 (fun x => decide (x < 0)))) := lk_if_lt (off := 13) (by decide +kernel) rfl
theorem k_140_14 (L : Nat) (xs : Nat → Int32) : ll_OK1 cX10_canCount RX10 (some .boolean) false ll_mN ll_mR ll_mK ll_cnt L xs false 14 (.inl (lo_iload 15 1)) := lk_iload_n (k := 1) (by decide +kernel) rfl
theorem k_140_15 (L : Nat) (xs : Nat → Int32) : ll_OK1 cX10_canCount RX10 (some .boolean) false ll_mN ll_mR ll_mK ll_cnt L xs false 15 (.inl (lo_push 17 (.int 8))) := lk_bipush (n := 8) (by decide +kernel) (by decide)
theorem k_140_17 (L : Nat) (xs : Nat → Int32) : ll_OK1 cX10_canCount RX10 (some .boolean) false ll_mN ll_mR ll_mK ll_cnt L xs false 17 (.inl (lo_cmp 24 20 (fun x y => decide (y < x)))) := lk_icmp_gt (off := 7) (by decide +kernel) rfl
theorem k_140_20 (L : Nat) (xs : Nat → Int32) : ll_OK1 cX10_canCount RX10 (some .boolean) false ll_mN ll_mR ll_mK ll_cnt L xs false 20 (.inl (lo_push 21 (.int 1))) := lk_iconst (n := 1) (by decide +kernel) (by decide)
theorem k_140_21 (L : Nat) (xs : Nat → Int32) : ll_OK1 cX10_canCount RX10 (some .boolean) false ll_mN ll_mR ll_mK ll_cnt L xs false 21 (.inl (lo_goto 25)) := lk_goto (off := 4) (by decide +kernel) rfl
theorem k_140_24 (L : Nat) (xs : Nat → Int32) : ll_OK1 cX10_canCount RX10 (some .boolean) false ll_mN ll_mR ll_mK ll_cnt L xs false 24 (.inl (lo_push 25 (.int 0))) := lk_iconst (n := 0) (by decide +kernel) (by decide)
theorem k_140_25 (L : Nat) (xs : Nat → Int32) : ll_OK1 cX10_canCount RX10 (some .boolean) false ll_mN ll_mR ll_mK ll_cnt L xs false 25 (.inr (.inr 2)) := ⟨(fun h => by cases h), (fun h => by cases h), fun _ => ⟨(by decide +kernel), rfl⟩⟩
theorem ok_140 (L : Nat) (xs : Nat → Int32) : ∀ q ∈ cd_140, ll_OK1 cX10_canCount RX10 (some .boolean) false ll_mN ll_mR ll_mK ll_cnt L xs false q.1 q.2 :=
  List.forall_mem_cons.mpr ⟨k_140_0 L xs, List.forall_mem_cons.mpr ⟨k_140_1 L xs, List.forall_mem_cons.mpr ⟨k_140_4 L xs, List.forall_mem_cons.mpr ⟨k_140_5 L xs, List.forall_mem_cons.mpr ⟨k_140_7 L xs, List.forall_mem_cons.mpr ⟨k_140_10 L xs, List.forall_mem_cons.mpr ⟨k_140_11 L xs, List.forall_mem_cons.mpr ⟨k_140_14 L xs, List.forall_mem_cons.mpr ⟨k_140_15 L xs, List.forall_mem_cons.mpr ⟨k_140_17 L xs, List.forall_mem_cons.mpr ⟨k_140_20 L xs, List.forall_mem_cons.mpr ⟨k_140_21 L xs, List.forall_mem_cons.mpr ⟨k_140_24 L xs, List.forall_mem_cons.mpr ⟨k_140_25 L xs, fun _ h => absurd h List.not_mem_nil⟩⟩⟩⟩⟩⟩⟩⟩⟩⟩⟩⟩⟩⟩
/-- InclusionProver.byteOf.(JI)I -/
def cd_141 : List (Nat × ll_O) := [
  (0, .inl (lo_lload 1 0)),
  (1, .inl (lo_push 3 (.int 56))),
  (3, .inl (lo_push 5 (.int 8))),
  (5, .inl (lo_iload 6 2)),
  (6, .inl (lo_bin 7 (fun x y => x * y))),
  (7, .inl (lo_bin 8 (fun x y => x - y))),
  (8, .inl (lo_lsh 9 (fun x y => (x.toUInt64 >>> (y.toInt64.toUInt64 &&& Int64.toUInt64 63)).toInt64))),
  (9, .inl (lo_l2i 10)),
  (10, .inl (lo_push 13 (.int 255))),
  (13, .inl (lo_bin 14 (fun x y => x &&& y))),
  (14, .inr (.inr 1))]
theorem k_141_0 (L : Nat) (xs : Nat → Int32) : ll_OK1 cX10_byteOf RX10 (some .int) false ll_mN ll_mR ll_mK ll_cnt L xs false 0 (.inl (lo_lload 1 0)) := lk_lload_n (k := 0) (by decide +kernel) rfl
theorem k_141_1 (L : Nat) (xs : Nat → Int32) : ll_OK1 cX10_byteOf RX10 (some .int) false ll_mN ll_mR ll_mK ll_cnt L xs false 1 (.inl (lo_push 3 (.int 56))) := lk_bipush (n := 56) (by decide +kernel) (by decide)
theorem k_141_3 (L : Nat) (xs : Nat → Int32) : ll_OK1 cX10_byteOf RX10 (some .int) false ll_mN ll_mR ll_mK ll_cnt L xs false 3 (.inl (lo_push 5 (.int 8))) := lk_bipush (n := 8) (by decide +kernel) (by decide)
theorem k_141_5 (L : Nat) (xs : Nat → Int32) : ll_OK1 cX10_byteOf RX10 (some .int) false ll_mN ll_mR ll_mK ll_cnt L xs false 5 (.inl (lo_iload 6 2)) := lk_iload_n (k := 2) (by decide +kernel) rfl
theorem k_141_6 (L : Nat) (xs : Nat → Int32) : ll_OK1 cX10_byteOf RX10 (some .int) false ll_mN ll_mR ll_mK ll_cnt L xs false 6 (.inl (lo_bin 7 (fun x y => x * y))) := lk_imul (by decide +kernel)
theorem k_141_7 (L : Nat) (xs : Nat → Int32) : ll_OK1 cX10_byteOf RX10 (some .int) false ll_mN ll_mR ll_mK ll_cnt L xs false 7 (.inl (lo_bin 8 (fun x y => x - y))) := lk_isub (by decide +kernel)
theorem k_141_8 (L : Nat) (xs : Nat → Int32) : ll_OK1 cX10_byteOf RX10 (some .int) false ll_mN ll_mR ll_mK ll_cnt L xs false 8 (.inl (lo_lsh 9 (fun x y => (x.toUInt64 >>> (y.toInt64.toUInt64 &&& Int64.toUInt64 63)).toInt64))) := lk_lushr (by decide +kernel)
theorem k_141_9 (L : Nat) (xs : Nat → Int32) : ll_OK1 cX10_byteOf RX10 (some .int) false ll_mN ll_mR ll_mK ll_cnt L xs false 9 (.inl (lo_l2i 10)) := lk_l2i (by decide +kernel)
theorem k_141_10 (L : Nat) (xs : Nat → Int32) : ll_OK1 cX10_byteOf RX10 (some .int) false ll_mN ll_mR ll_mK ll_cnt L xs false 10 (.inl (lo_push 13 (.int 255))) := lk_sipush (n := 255) (by decide +kernel) (by decide)
theorem k_141_13 (L : Nat) (xs : Nat → Int32) : ll_OK1 cX10_byteOf RX10 (some .int) false ll_mN ll_mR ll_mK ll_cnt L xs false 13 (.inl (lo_bin 14 (fun x y => x &&& y))) := lk_iand (by decide +kernel)
theorem k_141_14 (L : Nat) (xs : Nat → Int32) : ll_OK1 cX10_byteOf RX10 (some .int) false ll_mN ll_mR ll_mK ll_cnt L xs false 14 (.inr (.inr 1)) := ⟨(fun h => by cases h), (fun _ => ⟨(by decide +kernel), rfl⟩), fun h => by cases h⟩
theorem ok_141 (L : Nat) (xs : Nat → Int32) : ∀ q ∈ cd_141, ll_OK1 cX10_byteOf RX10 (some .int) false ll_mN ll_mR ll_mK ll_cnt L xs false q.1 q.2 :=
  List.forall_mem_cons.mpr ⟨k_141_0 L xs, List.forall_mem_cons.mpr ⟨k_141_1 L xs, List.forall_mem_cons.mpr ⟨k_141_3 L xs, List.forall_mem_cons.mpr ⟨k_141_5 L xs, List.forall_mem_cons.mpr ⟨k_141_6 L xs, List.forall_mem_cons.mpr ⟨k_141_7 L xs, List.forall_mem_cons.mpr ⟨k_141_8 L xs, List.forall_mem_cons.mpr ⟨k_141_9 L xs, List.forall_mem_cons.mpr ⟨k_141_10 L xs, List.forall_mem_cons.mpr ⟨k_141_13 L xs, List.forall_mem_cons.mpr ⟨k_141_14 L xs, fun _ h => absurd h List.not_mem_nil⟩⟩⟩⟩⟩⟩⟩⟩⟩⟩⟩
/-- InclusionProver.bytesOf.(J)I -/
def cd_142 : List (Nat × ll_O) := [
  (0, .inl (lo_push 1 (.int 0))),
  (1, .inl (lo_istore 2 2)),
  (2, .inl (lo_iload 3 2)),
  (3, .inl (lo_push 5 (.int 8))),
  (5, .inl (lo_cmp 22 8 (fun x y => decide (y ≤ x)))),
  (8, .inl (lo_lload 9 0)),
  (9, .inl (lo_iload 10 2)),
  (10, .inr (.inl (141, 2, 13))),
  (13, .inl (lo_if 22 16 (fun x => decide (x = 0)))),
  (16, .inl (lo_iinc 19 2 1)),
  (19, .inl (lo_goto 2)),
  (22, .inl (lo_iload 23 2)),
  (23, .inr (.inr 1))]
theorem k_142_0 (L : Nat) (xs : Nat → Int32) : ll_OK1 cX10_bytesOf RX10 (some .int) false ll_mN ll_mR ll_mK ll_cnt L xs false 0 (.inl (lo_push 1 (.int 0))) := lk_iconst (n := 0) (by decide +kernel) (by decide)
theorem k_142_1 (L : Nat) (xs : Nat → Int32) : ll_OK1 cX10_bytesOf RX10 (some .int) false ll_mN ll_mR ll_mK ll_cnt L xs false 1 (.inl (lo_istore 2 2)) := lk_istore_n (k := 2) (by decide +kernel) rfl
theorem k_142_2 (L : Nat) (xs : Nat → Int32) : ll_OK1 cX10_bytesOf RX10 (some .int) false ll_mN ll_mR ll_mK ll_cnt L xs false 2 (.inl (lo_iload 3 2)) := lk_iload_n (k := 2) (by decide +kernel) rfl
theorem k_142_3 (L : Nat) (xs : Nat → Int32) : ll_OK1 cX10_bytesOf RX10 (some .int) false ll_mN ll_mR ll_mK ll_cnt L xs false 3 (.inl (lo_push 5 (.int 8))) := lk_bipush (n := 8) (by decide +kernel) (by decide)
theorem k_142_5 (L : Nat) (xs : Nat → Int32) : ll_OK1 cX10_bytesOf RX10 (some .int) false ll_mN ll_mR ll_mK ll_cnt L xs false 5 (.inl (lo_cmp 22 8 (fun x y => decide (y ≤ x)))) := lk_icmp_ge (off := 17) (by decide +kernel) rfl
theorem k_142_8 (L : Nat) (xs : Nat → Int32) : ll_OK1 cX10_bytesOf RX10 (some .int) false ll_mN ll_mR ll_mK ll_cnt L xs false 8 (.inl (lo_lload 9 0)) := lk_lload_n (k := 0) (by decide +kernel) rfl
theorem k_142_9 (L : Nat) (xs : Nat → Int32) : ll_OK1 cX10_bytesOf RX10 (some .int) false ll_mN ll_mR ll_mK ll_cnt L xs false 9 (.inl (lo_iload 10 2)) := lk_iload_n (k := 2) (by decide +kernel) rfl
theorem k_142_10 (L : Nat) (xs : Nat → Int32) : ll_OK1 cX10_bytesOf RX10 (some .int) false ll_mN ll_mR ll_mK ll_cnt L xs false 10 (.inr (.inl (141, 2, 13))) := ⟨rfl, by decide, by rw [mN_141, mK_141, mR_141]; exact lj_s 122 (by decide +kernel) tb_501 tb_502 (by decide +kernel)⟩
theorem k_142_13 (L : Nat) (xs : Nat → Int32) : ll_OK1 cX10_bytesOf RX10 (some .int) false ll_mN ll_mR ll_mK ll_cnt L xs false 13 (.inl (lo_if 22 16 (fun x => decide (x = 0)))) := lk_if_eq (off := 9) (by decide +kernel) rfl
theorem k_142_16 (L : Nat) (xs : Nat → Int32) : ll_OK1 cX10_bytesOf RX10 (some .int) false ll_mN ll_mR ll_mK ll_cnt L xs false 16 (.inl (lo_iinc 19 2 1)) := lk_iinc (n := 1) (by decide +kernel) (by decide)
theorem k_142_19 (L : Nat) (xs : Nat → Int32) : ll_OK1 cX10_bytesOf RX10 (some .int) false ll_mN ll_mR ll_mK ll_cnt L xs false 19 (.inl (lo_goto 2)) := lk_goto (off := (-17)) (by decide +kernel) rfl
theorem k_142_22 (L : Nat) (xs : Nat → Int32) : ll_OK1 cX10_bytesOf RX10 (some .int) false ll_mN ll_mR ll_mK ll_cnt L xs false 22 (.inl (lo_iload 23 2)) := lk_iload_n (k := 2) (by decide +kernel) rfl
theorem k_142_23 (L : Nat) (xs : Nat → Int32) : ll_OK1 cX10_bytesOf RX10 (some .int) false ll_mN ll_mR ll_mK ll_cnt L xs false 23 (.inr (.inr 1)) := ⟨(fun h => by cases h), (fun _ => ⟨(by decide +kernel), rfl⟩), fun h => by cases h⟩
theorem ok_142 (L : Nat) (xs : Nat → Int32) : ∀ q ∈ cd_142, ll_OK1 cX10_bytesOf RX10 (some .int) false ll_mN ll_mR ll_mK ll_cnt L xs false q.1 q.2 :=
  List.forall_mem_cons.mpr ⟨k_142_0 L xs, List.forall_mem_cons.mpr ⟨k_142_1 L xs, List.forall_mem_cons.mpr ⟨k_142_2 L xs, List.forall_mem_cons.mpr ⟨k_142_3 L xs, List.forall_mem_cons.mpr ⟨k_142_5 L xs, List.forall_mem_cons.mpr ⟨k_142_8 L xs, List.forall_mem_cons.mpr ⟨k_142_9 L xs, List.forall_mem_cons.mpr ⟨k_142_10 L xs, List.forall_mem_cons.mpr ⟨k_142_13 L xs, List.forall_mem_cons.mpr ⟨k_142_16 L xs, List.forall_mem_cons.mpr ⟨k_142_19 L xs, List.forall_mem_cons.mpr ⟨k_142_22 L xs, List.forall_mem_cons.mpr ⟨k_142_23 L xs, fun _ h => absurd h List.not_mem_nil⟩⟩⟩⟩⟩⟩⟩⟩⟩⟩⟩⟩⟩
/-- InclusionProver.replace.([III)I -/
def cd_143 : List (Nat × ll_O) := [
  (0, .inl (lo_iload 1 1)),
  (1, .inl (lo_if 10 4 (fun x => decide (x < 0)))),
  (4, .inl (lo_iload 5 1)),
  (5, .inl (lo_aload 6 0)),
  (6, .inl (lo_alen 7)),
  (7, .inl (lo_cmp 13 10 (fun x y => decide (x < y)))),
  (10, .inl (lo_push 12 (.int (-2)))),
  (12, .inr (.inr 1)),
  (13, .inl (lo_aload 14 0)),
  (14, .inl (lo_iload 15 1)),
  (15, .inl (lo_ald 16 0)),
  (16, .inl (lo_istore 17 3)),
  (17, .inl (lo_aload 18 0)),
  (18, .inl (lo_iload 19 1)),
  (19, .inl (lo_iload 20 2)),
  (20, .inl (lo_ast 21 0)),
  (21, .inl (lo_iload 22 3)),
  (22, .inr (.inr 1))]
theorem k_143_0 (L : Nat) (xs : Nat → Int32) : ll_OK1 cX10_replace RX10 (some .int) false ll_mN ll_mR ll_mK ll_cnt L xs false 0 (.inl (lo_iload 1 1)) := lk_iload_n (k := 1) (by decide +kernel) rfl
theorem k_143_1 (L : Nat) (xs : Nat → Int32) : ll_OK1 cX10_replace RX10 (some .int) false ll_mN ll_mR ll_mK ll_cnt L xs false 1 (.inl (lo_if 10 4 (fun x => decide (x < 0)))) := lk_if_lt (off := 9) (by decide +kernel) rfl
theorem k_143_4 (L : Nat) (xs : Nat → Int32) : ll_OK1 cX10_replace RX10 (some .int) false ll_mN ll_mR ll_mK ll_cnt L xs false 4 (.inl (lo_iload 5 1)) := lk_iload_n (k := 1) (by decide +kernel) rfl
theorem k_143_5 (L : Nat) (xs : Nat → Int32) : ll_OK1 cX10_replace RX10 (some .int) false ll_mN ll_mR ll_mK ll_cnt L xs false 5 (.inl (lo_aload 6 0)) := lk_aload_n (k := 0) (by decide +kernel) rfl
theorem k_143_6 (L : Nat) (xs : Nat → Int32) : ll_OK1 cX10_replace RX10 (some .int) false ll_mN ll_mR ll_mK ll_cnt L xs false 6 (.inl (lo_alen 7)) := lk_alen (by decide +kernel)
theorem k_143_7 (L : Nat) (xs : Nat → Int32) : ll_OK1 cX10_replace RX10 (some .int) false ll_mN ll_mR ll_mK ll_cnt L xs false 7 (.inl (lo_cmp 13 10 (fun x y => decide (x < y)))) := lk_icmp_lt (off := 6) (by decide +kernel) rfl
theorem k_143_10 (L : Nat) (xs : Nat → Int32) : ll_OK1 cX10_replace RX10 (some .int) false ll_mN ll_mR ll_mK ll_cnt L xs false 10 (.inl (lo_push 12 (.int (-2)))) := lk_bipush (n := (-2)) (by decide +kernel) (by decide)
theorem k_143_12 (L : Nat) (xs : Nat → Int32) : ll_OK1 cX10_replace RX10 (some .int) false ll_mN ll_mR ll_mK ll_cnt L xs false 12 (.inr (.inr 1)) := ⟨(fun h => by cases h), (fun _ => ⟨(by decide +kernel), rfl⟩), fun h => by cases h⟩
theorem k_143_13 (L : Nat) (xs : Nat → Int32) : ll_OK1 cX10_replace RX10 (some .int) false ll_mN ll_mR ll_mK ll_cnt L xs false 13 (.inl (lo_aload 14 0)) := lk_aload_n (k := 0) (by decide +kernel) rfl
theorem k_143_14 (L : Nat) (xs : Nat → Int32) : ll_OK1 cX10_replace RX10 (some .int) false ll_mN ll_mR ll_mK ll_cnt L xs false 14 (.inl (lo_iload 15 1)) := lk_iload_n (k := 1) (by decide +kernel) rfl
theorem k_143_15 (L : Nat) (xs : Nat → Int32) : ll_OK1 cX10_replace RX10 (some .int) false ll_mN ll_mR ll_mK ll_cnt L xs false 15 (.inl (lo_ald 16 0)) := lk_iald (by decide +kernel)
theorem k_143_16 (L : Nat) (xs : Nat → Int32) : ll_OK1 cX10_replace RX10 (some .int) false ll_mN ll_mR ll_mK ll_cnt L xs false 16 (.inl (lo_istore 17 3)) := lk_istore_n (k := 3) (by decide +kernel) rfl
theorem k_143_17 (L : Nat) (xs : Nat → Int32) : ll_OK1 cX10_replace RX10 (some .int) false ll_mN ll_mR ll_mK ll_cnt L xs false 17 (.inl (lo_aload 18 0)) := lk_aload_n (k := 0) (by decide +kernel) rfl
theorem k_143_18 (L : Nat) (xs : Nat → Int32) : ll_OK1 cX10_replace RX10 (some .int) false ll_mN ll_mR ll_mK ll_cnt L xs false 18 (.inl (lo_iload 19 1)) := lk_iload_n (k := 1) (by decide +kernel) rfl
theorem k_143_19 (L : Nat) (xs : Nat → Int32) : ll_OK1 cX10_replace RX10 (some .int) false ll_mN ll_mR ll_mK ll_cnt L xs false 19 (.inl (lo_iload 20 2)) := lk_iload_n (k := 2) (by decide +kernel) rfl
theorem k_143_20 (L : Nat) (xs : Nat → Int32) : ll_OK1 cX10_replace RX10 (some .int) false ll_mN ll_mR ll_mK ll_cnt L xs false 20 (.inl (lo_ast 21 0)) := lk_iast (by decide +kernel)
theorem k_143_21 (L : Nat) (xs : Nat → Int32) : ll_OK1 cX10_replace RX10 (some .int) false ll_mN ll_mR ll_mK ll_cnt L xs false 21 (.inl (lo_iload 22 3)) := lk_iload_n (k := 3) (by decide +kernel) rfl
theorem k_143_22 (L : Nat) (xs : Nat → Int32) : ll_OK1 cX10_replace RX10 (some .int) false ll_mN ll_mR ll_mK ll_cnt L xs false 22 (.inr (.inr 1)) := ⟨(fun h => by cases h), (fun _ => ⟨(by decide +kernel), rfl⟩), fun h => by cases h⟩
theorem ok_143 (L : Nat) (xs : Nat → Int32) : ∀ q ∈ cd_143, ll_OK1 cX10_replace RX10 (some .int) false ll_mN ll_mR ll_mK ll_cnt L xs false q.1 q.2 :=
  List.forall_mem_cons.mpr ⟨k_143_0 L xs, List.forall_mem_cons.mpr ⟨k_143_1 L xs, List.forall_mem_cons.mpr ⟨k_143_4 L xs, List.forall_mem_cons.mpr ⟨k_143_5 L xs, List.forall_mem_cons.mpr ⟨k_143_6 L xs, List.forall_mem_cons.mpr ⟨k_143_7 L xs, List.forall_mem_cons.mpr ⟨k_143_10 L xs, List.forall_mem_cons.mpr ⟨k_143_12 L xs, List.forall_mem_cons.mpr ⟨k_143_13 L xs, List.forall_mem_cons.mpr ⟨k_143_14 L xs, List.forall_mem_cons.mpr ⟨k_143_15 L xs, List.forall_mem_cons.mpr ⟨k_143_16 L xs, List.forall_mem_cons.mpr ⟨k_143_17 L xs, List.forall_mem_cons.mpr ⟨k_143_18 L xs, List.forall_mem_cons.mpr ⟨k_143_19 L xs, List.forall_mem_cons.mpr ⟨k_143_20 L xs, List.forall_mem_cons.mpr ⟨k_143_21 L xs, List.forall_mem_cons.mpr ⟨k_143_22 L xs, fun _ h => absurd h List.not_mem_nil⟩⟩⟩⟩⟩⟩⟩⟩⟩⟩⟩⟩⟩⟩⟩⟩⟩⟩
/-- InclusionProver.faultOf.(II)I -/
def cd_144 : List (Nat × ll_O) := [
  (0, .inl (lo_iload 1 1)),
  (1, .inl (lo_push 2 (.int (-1)))),
  (2, .inl (lo_cmp 13 5 (fun x y => decide (¬ x = y)))),
  (5, .inl (lo_aload 6 0)),
  (6, .inl (lo_getf 9 10 0)),
  (9, .inl (lo_getf 12 2 4)),
  (12, .inr (.inr 1)),
  (13, .inl (lo_iload 14 2)),
  (14, .inl (lo_push 16 (.int 30))),
  (16, .inl (lo_cmp 24 19 (fun x y => decide (x ≤ y)))),
  (19, .inl (lo_push 21 (.int 30))),
  (21, .inl (lo_goto 25)),
  (24, .inl (lo_push 25 (.int (-1)))),
  (25, .inr (.inr 1))]
theorem k_144_0 (L : Nat) (xs : Nat → Int32) : ll_OK1 cX10_faultOf RX10 (some .int) false ll_mN ll_mR ll_mK ll_cnt L xs false 0 (.inl (lo_iload 1 1)) := lk_iload_n (k := 1) (by decide +kernel) rfl
theorem k_144_1 (L : Nat) (xs : Nat → Int32) : ll_OK1 cX10_faultOf RX10 (some .int) false ll_mN ll_mR ll_mK ll_cnt L xs false 1 (.inl (lo_push 2 (.int (-1)))) := lk_iconst (n := (-1)) (by decide +kernel) (by decide)
theorem k_144_2 (L : Nat) (xs : Nat → Int32) : ll_OK1 cX10_faultOf RX10 (some .int) false ll_mN ll_mR ll_mK ll_cnt L xs false 2 (.inl (lo_cmp 13 5 (fun x y => decide (¬ x = y)))) := lk_icmp_ne (off := 11) (by decide +kernel) rfl
theorem k_144_5 (L : Nat) (xs : Nat → Int32) : ll_OK1 cX10_faultOf RX10 (some .int) false ll_mN ll_mR ll_mK ll_cnt L xs false 5 (.inl (lo_aload 6 0)) := lk_aload_n (k := 0) (by decide +kernel) rfl
theorem k_144_6 (L : Nat) (xs : Nat → Int32) : ll_OK1 cX10_faultOf RX10 (some .int) false ll_mN ll_mR ll_mK ll_cnt L xs false 6 (.inl (lo_getf 9 10 0)) := lk_getf (ix := 26) (ci := 10) (k := 0) (C := RX10) (T := TX10) (N := 11) (by decide +kernel) rfl in_10 (by decide) tb_450
theorem k_144_9 (L : Nat) (xs : Nat → Int32) : ll_OK1 cX10_faultOf RX10 (some .int) false ll_mN ll_mR ll_mK ll_cnt L xs false 9 (.inl (lo_getf 12 2 4)) := lk_getf (ix := 304) (ci := 2) (k := 4) (C := RX2) (T := TX2) (N := 5) (by decide +kernel) rfl in_2 (by decide) tb_598
theorem k_144_12 (L : Nat) (xs : Nat → Int32) : ll_OK1 cX10_faultOf RX10 (some .int) false ll_mN ll_mR ll_mK ll_cnt L xs false 12 (.inr (.inr 1)) := ⟨(fun h => by cases h), (fun _ => ⟨(by decide +kernel), rfl⟩), fun h => by cases h⟩
theorem k_144_13 (L : Nat) (xs : Nat → Int32) : ll_OK1 cX10_faultOf RX10 (some .int) false ll_mN ll_mR ll_mK ll_cnt L xs false 13 (.inl (lo_iload 14 2)) := lk_iload_n (k := 2) (by decide +kernel) rfl
theorem k_144_14 (L : Nat) (xs : Nat → Int32) : ll_OK1 cX10_faultOf RX10 (some .int) false ll_mN ll_mR ll_mK ll_cnt L xs false 14 (.inl (lo_push 16 (.int 30))) := lk_bipush (n := 30) (by decide +kernel) (by decide)
theorem k_144_16 (L : Nat) (xs : Nat → Int32) : ll_OK1 cX10_faultOf RX10 (some .int) false ll_mN ll_mR ll_mK ll_cnt L xs false 16 (.inl (lo_cmp 24 19 (fun x y => decide (x ≤ y)))) := lk_icmp_le (off := 8) (by decide +kernel) rfl
theorem k_144_19 (L : Nat) (xs : Nat → Int32) : ll_OK1 cX10_faultOf RX10 (some .int) false ll_mN ll_mR ll_mK ll_cnt L xs false 19 (.inl (lo_push 21 (.int 30))) := lk_bipush (n := 30) (by decide +kernel) (by decide)
theorem k_144_21 (L : Nat) (xs : Nat → Int32) : ll_OK1 cX10_faultOf RX10 (some .int) false ll_mN ll_mR ll_mK ll_cnt L xs false 21 (.inl (lo_goto 25)) := lk_goto (off := 4) (by decide +kernel) rfl
theorem k_144_24 (L : Nat) (xs : Nat → Int32) : ll_OK1 cX10_faultOf RX10 (some .int) false ll_mN ll_mR ll_mK ll_cnt L xs false 24 (.inl (lo_push 25 (.int (-1)))) := lk_iconst (n := (-1)) (by decide +kernel) (by decide)
theorem k_144_25 (L : Nat) (xs : Nat → Int32) : ll_OK1 cX10_faultOf RX10 (some .int) false ll_mN ll_mR ll_mK ll_cnt L xs false 25 (.inr (.inr 1)) := ⟨(fun h => by cases h), (fun _ => ⟨(by decide +kernel), rfl⟩), fun h => by cases h⟩
theorem ok_144 (L : Nat) (xs : Nat → Int32) : ∀ q ∈ cd_144, ll_OK1 cX10_faultOf RX10 (some .int) false ll_mN ll_mR ll_mK ll_cnt L xs false q.1 q.2 :=
  List.forall_mem_cons.mpr ⟨k_144_0 L xs, List.forall_mem_cons.mpr ⟨k_144_1 L xs, List.forall_mem_cons.mpr ⟨k_144_2 L xs, List.forall_mem_cons.mpr ⟨k_144_5 L xs, List.forall_mem_cons.mpr ⟨k_144_6 L xs, List.forall_mem_cons.mpr ⟨k_144_9 L xs, List.forall_mem_cons.mpr ⟨k_144_12 L xs, List.forall_mem_cons.mpr ⟨k_144_13 L xs, List.forall_mem_cons.mpr ⟨k_144_14 L xs, List.forall_mem_cons.mpr ⟨k_144_16 L xs, List.forall_mem_cons.mpr ⟨k_144_19 L xs, List.forall_mem_cons.mpr ⟨k_144_21 L xs, List.forall_mem_cons.mpr ⟨k_144_24 L xs, List.forall_mem_cons.mpr ⟨k_144_25 L xs, fun _ h => absurd h List.not_mem_nil⟩⟩⟩⟩⟩⟩⟩⟩⟩⟩⟩⟩⟩⟩
/-- InclusionProver.put.(II)I -/
def cd_145 : List (Nat × ll_O) := [
  (0, .inl (lo_aload 1 0)),
  (1, .inl (lo_getf 4 10 1)),
  (4, .inl (lo_iload 5 2)),
  (5, .inl (lo_aload 6 0)),
  (6, .inl (lo_getf 9 10 8)),
  (9, .inl (lo_getf 12 3 1)),
  (12, .inl (lo_iload 13 1)),
  (13, .inl (lo_aald 14)),
  (14, .inr (.inl (61, 3, 17))),
  (17, .inl (lo_aload 18 0)),
  (18, .inl (lo_getf 21 10 8)),
  (21, .inl (lo_getf 24 3 3)),
  (24, .inr (.inl (9, 1, 27))),
  (27, .inl (lo_aload 28 0)),
  (28, .inl (lo_getf 31 10 8)),
  (31, .inl (lo_getf 34 3 1)),
  (34, .inl (lo_iload 35 1)),
  (35, .inl (lo_aald 36)),
  (36, .inl (lo_getf 39 5 6)),
  (39, .inr (.inr 1))]
theorem k_145_0 (L : Nat) (xs : Nat → Int32) : ll_OK1 cX10_put RX10 (some .int) false ll_mN ll_mR ll_mK ll_cnt L xs false 0 (.inl (lo_aload 1 0)) := lk_aload_n (k := 0) (by decide +kernel) rfl
theorem k_145_1 (L : Nat) (xs : Nat → Int32) : ll_OK1 cX10_put RX10 (some .int) false ll_mN ll_mR ll_mK ll_cnt L xs false 1 (.inl (lo_getf 4 10 1)) := lk_getf (ix := 35) (ci := 10) (k := 1) (C := RX10) (T := TX10) (N := 11) (by decide +kernel) rfl in_10 (by decide) tb_456
theorem k_145_4 (L : Nat) (xs : Nat → Int32) : ll_OK1 cX10_put RX10 (some .int) false ll_mN ll_mR ll_mK ll_cnt L xs false 4 (.inl (lo_iload 5 2)) := lk_iload_n (k := 2) (by decide +kernel) rfl
theorem k_145_5 (L : Nat) (xs : Nat → Int32) : ll_OK1 cX10_put RX10 (some .int) false ll_mN ll_mR ll_mK ll_cnt L xs false 5 (.inl (lo_aload 6 0)) := lk_aload_n (k := 0) (by decide +kernel) rfl
theorem k_145_6 (L : Nat) (xs : Nat → Int32) : ll_OK1 cX10_put RX10 (some .int) false ll_mN ll_mR ll_mK ll_cnt L xs false 6 (.inl (lo_getf 9 10 8)) := lk_getf (ix := 81) (ci := 10) (k := 8) (C := RX10) (T := TX10) (N := 11) (by decide +kernel) rfl in_10 (by decide) tb_485
theorem k_145_9 (L : Nat) (xs : Nat → Int32) : ll_OK1 cX10_put RX10 (some .int) false ll_mN ll_mR ll_mK ll_cnt L xs false 9 (.inl (lo_getf 12 3 1)) := lk_getf (ix := 93) (ci := 3) (k := 1) (C := RX3) (T := TX3) (N := 5) (by decide +kernel) rfl in_3 (by decide) tb_490
theorem k_145_12 (L : Nat) (xs : Nat → Int32) : ll_OK1 cX10_put RX10 (some .int) false ll_mN ll_mR ll_mK ll_cnt L xs false 12 (.inl (lo_iload 13 1)) := lk_iload_n (k := 1) (by decide +kernel) rfl
theorem k_145_13 (L : Nat) (xs : Nat → Int32) : ll_OK1 cX10_put RX10 (some .int) false ll_mN ll_mR ll_mK ll_cnt L xs false 13 (.inl (lo_aald 14)) := lk_aald (by decide +kernel)
theorem k_145_14 (L : Nat) (xs : Nat → Int32) : ll_OK1 cX10_put RX10 (some .int) false ll_mN ll_mR ll_mK ll_cnt L xs false 14 (.inr (.inl (61, 3, 17))) := ⟨rfl, by decide, by rw [mN_61, mK_61, mR_61]; exact lj_v 96 2 6 (RX6, TX6, 8) (by decide +kernel) tb_491 tb_492 tb_493 rfl rfl rfl rfl (by decide +kernel)⟩
theorem k_145_17 (L : Nat) (xs : Nat → Int32) : ll_OK1 cX10_put RX10 (some .int) false ll_mN ll_mR ll_mK ll_cnt L xs false 17 (.inl (lo_aload 18 0)) := lk_aload_n (k := 0) (by decide +kernel) rfl
theorem k_145_18 (L : Nat) (xs : Nat → Int32) : ll_OK1 cX10_put RX10 (some .int) false ll_mN ll_mR ll_mK ll_cnt L xs false 18 (.inl (lo_getf 21 10 8)) := lk_getf (ix := 81) (ci := 10) (k := 8) (C := RX10) (T := TX10) (N := 11) (by decide +kernel) rfl in_10 (by decide) tb_485
theorem k_145_21 (L : Nat) (xs : Nat → Int32) : ll_OK1 cX10_put RX10 (some .int) false ll_mN ll_mR ll_mK ll_cnt L xs false 21 (.inl (lo_getf 24 3 3)) := lk_getf (ix := 155) (ci := 3) (k := 3) (C := RX3) (T := TX3) (N := 5) (by decide +kernel) rfl in_3 (by decide) tb_518
theorem k_145_24 (L : Nat) (xs : Nat → Int32) : ll_OK1 cX10_put RX10 (some .int) false ll_mN ll_mR ll_mK ll_cnt L xs false 24 (.inr (.inl (9, 1, 27))) := ⟨rfl, by decide, by rw [mN_9, mK_9, mR_9]; exact lj_v 158 0 1 (RX1, TX1, 12) (by decide +kernel) tb_519 tb_179 tb_180 rfl rfl rfl rfl (by decide +kernel)⟩
theorem k_145_27 (L : Nat) (xs : Nat → Int32) : ll_OK1 cX10_put RX10 (some .int) false ll_mN ll_mR ll_mK ll_cnt L xs false 27 (.inl (lo_aload 28 0)) := lk_aload_n (k := 0) (by decide +kernel) rfl
theorem k_145_28 (L : Nat) (xs : Nat → Int32) : ll_OK1 cX10_put RX10 (some .int) false ll_mN ll_mR ll_mK ll_cnt L xs false 28 (.inl (lo_getf 31 10 8)) := lk_getf (ix := 81) (ci := 10) (k := 8) (C := RX10) (T := TX10) (N := 11) (by decide +kernel) rfl in_10 (by decide) tb_485
theorem k_145_31 (L : Nat) (xs : Nat → Int32) : ll_OK1 cX10_put RX10 (some .int) false ll_mN ll_mR ll_mK ll_cnt L xs false 31 (.inl (lo_getf 34 3 1)) := lk_getf (ix := 93) (ci := 3) (k := 1) (C := RX3) (T := TX3) (N := 5) (by decide +kernel) rfl in_3 (by decide) tb_490
theorem k_145_34 (L : Nat) (xs : Nat → Int32) : ll_OK1 cX10_put RX10 (some .int) false ll_mN ll_mR ll_mK ll_cnt L xs false 34 (.inl (lo_iload 35 1)) := lk_iload_n (k := 1) (by decide +kernel) rfl
theorem k_145_35 (L : Nat) (xs : Nat → Int32) : ll_OK1 cX10_put RX10 (some .int) false ll_mN ll_mR ll_mK ll_cnt L xs false 35 (.inl (lo_aald 36)) := lk_aald (by decide +kernel)
theorem k_145_36 (L : Nat) (xs : Nat → Int32) : ll_OK1 cX10_put RX10 (some .int) false ll_mN ll_mR ll_mK ll_cnt L xs false 36 (.inl (lo_getf 39 5 6)) := lk_getf (ix := 170) (ci := 5) (k := 6) (C := RX5) (T := TX5) (N := 11) (by decide +kernel) rfl in_5 (by decide) tb_528
theorem k_145_39 (L : Nat) (xs : Nat → Int32) : ll_OK1 cX10_put RX10 (some .int) false ll_mN ll_mR ll_mK ll_cnt L xs false 39 (.inr (.inr 1)) := ⟨(fun h => by cases h), (fun _ => ⟨(by decide +kernel), rfl⟩), fun h => by cases h⟩
theorem ok_145 (L : Nat) (xs : Nat → Int32) : ∀ q ∈ cd_145, ll_OK1 cX10_put RX10 (some .int) false ll_mN ll_mR ll_mK ll_cnt L xs false q.1 q.2 :=
  List.forall_mem_cons.mpr ⟨k_145_0 L xs, List.forall_mem_cons.mpr ⟨k_145_1 L xs, List.forall_mem_cons.mpr ⟨k_145_4 L xs, List.forall_mem_cons.mpr ⟨k_145_5 L xs, List.forall_mem_cons.mpr ⟨k_145_6 L xs, List.forall_mem_cons.mpr ⟨k_145_9 L xs, List.forall_mem_cons.mpr ⟨k_145_12 L xs, List.forall_mem_cons.mpr ⟨k_145_13 L xs, List.forall_mem_cons.mpr ⟨k_145_14 L xs, List.forall_mem_cons.mpr ⟨k_145_17 L xs, List.forall_mem_cons.mpr ⟨k_145_18 L xs, List.forall_mem_cons.mpr ⟨k_145_21 L xs, List.forall_mem_cons.mpr ⟨k_145_24 L xs, List.forall_mem_cons.mpr ⟨k_145_27 L xs, List.forall_mem_cons.mpr ⟨k_145_28 L xs, List.forall_mem_cons.mpr ⟨k_145_31 L xs, List.forall_mem_cons.mpr ⟨k_145_34 L xs, List.forall_mem_cons.mpr ⟨k_145_35 L xs, List.forall_mem_cons.mpr ⟨k_145_36 L xs, List.forall_mem_cons.mpr ⟨k_145_39 L xs, fun _ h => absurd h List.not_mem_nil⟩⟩⟩⟩⟩⟩⟩⟩⟩⟩⟩⟩⟩⟩⟩⟩⟩⟩⟩⟩
/-- InclusionProver.readSlot.(I)I -/
def cd_146 : List (Nat × ll_O) := [
  (0, .inl (lo_aload 1 0)),
  (1, .inl (lo_getf 4 10 8)),
  (4, .inl (lo_getf 7 3 2)),
  (7, .inl (lo_iload 8 1)),
  (8, .inl (lo_aald 9)),
  (9, .inl (lo_astore 10 2)),
  (10, .inl (lo_aload 11 0)),
  (11, .inl (lo_getf 14 10 0)),
  (14, .inl (lo_aload 15 2)),
  (15, .inl (lo_aload 16 2)),
  (16, .inl (lo_getf 19 7 1)),
  (19, .inr (.inl (22, 3, 22))),
  (22, .inl (lo_istore 23 3)),
  (23, .inl (lo_iload 24 3)),
  (24, .inl (lo_push 25 (.int (-1)))),
  (25, .inl (lo_cmp 32 28 (fun x y => decide (¬ x = y)))),
  (28, .inl (lo_push 29 (.int 0))),
  (29, .inl (lo_goto 33)),
  (32, .inl (lo_iload 33 3)),
  (33, .inr (.inr 1))]
theorem k_146_0 (L : Nat) (xs : Nat → Int32) : ll_OK1 cX10_readSlot RX10 (some .int) false ll_mN ll_mR ll_mK ll_cnt L xs false 0 (.inl (lo_aload 1 0)) := lk_aload_n (k := 0) (by decide +kernel) rfl
theorem k_146_1 (L : Nat) (xs : Nat → Int32) : ll_OK1 cX10_readSlot RX10 (some .int) false ll_mN ll_mR ll_mK ll_cnt L xs false 1 (.inl (lo_getf 4 10 8)) := lk_getf (ix := 81) (ci := 10) (k := 8) (C := RX10) (T := TX10) (N := 11) (by decide +kernel) rfl in_10 (by decide) tb_485
theorem k_146_4 (L : Nat) (xs : Nat → Int32) : ll_OK1 cX10_readSlot RX10 (some .int) false ll_mN ll_mR ll_mK ll_cnt L xs false 4 (.inl (lo_getf 7 3 2)) := lk_getf (ix := 100) (ci := 3) (k := 2) (C := RX3) (T := TX3) (N := 5) (by decide +kernel) rfl in_3 (by decide) tb_494
theorem k_146_7 (L : Nat) (xs : Nat → Int32) : ll_OK1 cX10_readSlot RX10 (some .int) false ll_mN ll_mR ll_mK ll_cnt L xs false 7 (.inl (lo_iload 8 1)) := lk_iload_n (k := 1) (by decide +kernel) rfl
theorem k_146_8 (L : Nat) (xs : Nat → Int32) : ll_OK1 cX10_readSlot RX10 (some .int) false ll_mN ll_mR ll_mK ll_cnt L xs false 8 (.inl (lo_aald 9)) := lk_aald (by decide +kernel)
theorem k_146_9 (L : Nat) (xs : Nat → Int32) : ll_OK1 cX10_readSlot RX10 (some .int) false ll_mN ll_mR ll_mK ll_cnt L xs false 9 (.inl (lo_astore 10 2)) := lk_astore_n (k := 2) (by decide +kernel) rfl
theorem k_146_10 (L : Nat) (xs : Nat → Int32) : ll_OK1 cX10_readSlot RX10 (some .int) false ll_mN ll_mR ll_mK ll_cnt L xs false 10 (.inl (lo_aload 11 0)) := lk_aload_n (k := 0) (by decide +kernel) rfl
theorem k_146_11 (L : Nat) (xs : Nat → Int32) : ll_OK1 cX10_readSlot RX10 (some .int) false ll_mN ll_mR ll_mK ll_cnt L xs false 11 (.inl (lo_getf 14 10 0)) := lk_getf (ix := 26) (ci := 10) (k := 0) (C := RX10) (T := TX10) (N := 11) (by decide +kernel) rfl in_10 (by decide) tb_450
theorem k_146_14 (L : Nat) (xs : Nat → Int32) : ll_OK1 cX10_readSlot RX10 (some .int) false ll_mN ll_mR ll_mK ll_cnt L xs false 14 (.inl (lo_aload 15 2)) := lk_aload_n (k := 2) (by decide +kernel) rfl
theorem k_146_15 (L : Nat) (xs : Nat → Int32) : ll_OK1 cX10_readSlot RX10 (some .int) false ll_mN ll_mR ll_mK ll_cnt L xs false 15 (.inl (lo_aload 16 2)) := lk_aload_n (k := 2) (by decide +kernel) rfl
theorem k_146_16 (L : Nat) (xs : Nat → Int32) : ll_OK1 cX10_readSlot RX10 (some .int) false ll_mN ll_mR ll_mK ll_cnt L xs false 16 (.inl (lo_getf 19 7 1)) := lk_getf (ix := 118) (ci := 7) (k := 1) (C := RX7) (T := TX7) (N := 2) (by decide +kernel) rfl in_7 (by decide) tb_500
theorem k_146_19 (L : Nat) (xs : Nat → Int32) : ll_OK1 cX10_readSlot RX10 (some .int) false ll_mN ll_mR ll_mK ll_cnt L xs false 19 (.inr (.inl (22, 3, 22))) := ⟨rfl, by decide, by rw [mN_22, mK_22, mR_22]; exact lj_v 142 2 2 (RX2, TX2, 5) (by decide +kernel) tb_508 tb_509 tb_510 rfl rfl rfl rfl (by decide +kernel)⟩
theorem k_146_22 (L : Nat) (xs : Nat → Int32) : ll_OK1 cX10_readSlot RX10 (some .int) false ll_mN ll_mR ll_mK ll_cnt L xs false 22 (.inl (lo_istore 23 3)) := lk_istore_n (k := 3) (by decide +kernel) rfl
theorem k_146_23 (L : Nat) (xs : Nat → Int32) : ll_OK1 cX10_readSlot RX10 (some .int) false ll_mN ll_mR ll_mK ll_cnt L xs false 23 (.inl (lo_iload 24 3)) := lk_iload_n (k := 3) (by decide +kernel) rfl
theorem k_146_24 (L : Nat) (xs : Nat → Int32) : ll_OK1 cX10_readSlot RX10 (some .int) false ll_mN ll_mR ll_mK ll_cnt L xs false 24 (.inl (lo_push 25 (.int (-1)))) := lk_iconst (n := (-1)) (by decide +kernel) (by decide)
theorem k_146_25 (L : Nat) (xs : Nat → Int32) : ll_OK1 cX10_readSlot RX10 (some .int) false ll_mN ll_mR ll_mK ll_cnt L xs false 25 (.inl (lo_cmp 32 28 (fun x y => decide (¬ x = y)))) := lk_icmp_ne (off := 7) (by decide +kernel) rfl
theorem k_146_28 (L : Nat) (xs : Nat → Int32) : ll_OK1 cX10_readSlot RX10 (some .int) false ll_mN ll_mR ll_mK ll_cnt L xs false 28 (.inl (lo_push 29 (.int 0))) := lk_iconst (n := 0) (by decide +kernel) (by decide)
theorem k_146_29 (L : Nat) (xs : Nat → Int32) : ll_OK1 cX10_readSlot RX10 (some .int) false ll_mN ll_mR ll_mK ll_cnt L xs false 29 (.inl (lo_goto 33)) := lk_goto (off := 4) (by decide +kernel) rfl
theorem k_146_32 (L : Nat) (xs : Nat → Int32) : ll_OK1 cX10_readSlot RX10 (some .int) false ll_mN ll_mR ll_mK ll_cnt L xs false 32 (.inl (lo_iload 33 3)) := lk_iload_n (k := 3) (by decide +kernel) rfl
theorem k_146_33 (L : Nat) (xs : Nat → Int32) : ll_OK1 cX10_readSlot RX10 (some .int) false ll_mN ll_mR ll_mK ll_cnt L xs false 33 (.inr (.inr 1)) := ⟨(fun h => by cases h), (fun _ => ⟨(by decide +kernel), rfl⟩), fun h => by cases h⟩
theorem ok_146 (L : Nat) (xs : Nat → Int32) : ∀ q ∈ cd_146, ll_OK1 cX10_readSlot RX10 (some .int) false ll_mN ll_mR ll_mK ll_cnt L xs false q.1 q.2 :=
  List.forall_mem_cons.mpr ⟨k_146_0 L xs, List.forall_mem_cons.mpr ⟨k_146_1 L xs, List.forall_mem_cons.mpr ⟨k_146_4 L xs, List.forall_mem_cons.mpr ⟨k_146_7 L xs, List.forall_mem_cons.mpr ⟨k_146_8 L xs, List.forall_mem_cons.mpr ⟨k_146_9 L xs, List.forall_mem_cons.mpr ⟨k_146_10 L xs, List.forall_mem_cons.mpr ⟨k_146_11 L xs, List.forall_mem_cons.mpr ⟨k_146_14 L xs, List.forall_mem_cons.mpr ⟨k_146_15 L xs, List.forall_mem_cons.mpr ⟨k_146_16 L xs, List.forall_mem_cons.mpr ⟨k_146_19 L xs, List.forall_mem_cons.mpr ⟨k_146_22 L xs, List.forall_mem_cons.mpr ⟨k_146_23 L xs, List.forall_mem_cons.mpr ⟨k_146_24 L xs, List.forall_mem_cons.mpr ⟨k_146_25 L xs, List.forall_mem_cons.mpr ⟨k_146_28 L xs, List.forall_mem_cons.mpr ⟨k_146_29 L xs, List.forall_mem_cons.mpr ⟨k_146_32 L xs, List.forall_mem_cons.mpr ⟨k_146_33 L xs, fun _ h => absurd h List.not_mem_nil⟩⟩⟩⟩⟩⟩⟩⟩⟩⟩⟩⟩⟩⟩⟩⟩⟩⟩⟩⟩
/-- InclusionProver.draftOf.(ILInclusionProver$Text;LInclusionProver$Text;)V -/
def cd_147 : List (Nat × ll_O) := [
  (0, .inl (lo_aload 1 0)),
  (1, .inl (lo_getf 4 10 5)),
  (4, .inr (.inl (71, 1, 7))),
  (7, .inl (lo_iload 8 1)),
  (8, .inl (lo_tab 1 [36, 64, 83] 103)),
  (36, .inl (lo_aload 37 0)),
  (37, .inl (lo_getf 40 10 5)),
  (40, .inl (lo_aload 41 2)),
  (41, .inr (.inl (73, 2, 44))),
  (44, .inl (lo_aload 45 0)),
  (45, .inl (lo_getf 48 10 5)),
  (48, .inl (lo_push 50 (.int 43))),
  (50, .inr (.inl (72, 2, 53))),
  (53, .inl (lo_aload 54 0)),
  (54, .inl (lo_getf 57 10 5)),
  (57, .inl (lo_aload 58 3)),
  (58, .inr (.inl (73, 2, 61))),
  (61, .inl (lo_goto 111)),
  (64, .inl (lo_aload 65 0)),
  (65, .inl (lo_getf 68 10 5)),
  (68, .inl (lo_aload 69 2)),
  (69, .inr (.inl (74, 2, 72))),
  (72, .inl (lo_aload 73 0)),
  (73, .inl (lo_getf 76 10 5)),
  (76, .inl (lo_aload 77 3)),
  (77, .inr (.inl (74, 2, 80))),
  (80, .inl (lo_goto 111)),
  (83, .inl (lo_aload 84 0)),
  (84, .inl (lo_getf 87 10 5)),
  (87, .inl (lo_aload 88 2)),
  (88, .inr (.inl (74, 2, 91))),
  (91, .inl (lo_aload 92 0)),
  (92, .inl (lo_getf 95 10 5)),
  (95, .inl (lo_push 97 (.int 42))),
  (97, .inr (.inl (72, 2, 100))),
  (100, .inl (lo_goto 111)),
  (103, .inl (lo_aload 104 0)),
  (104, .inl (lo_getf 107 10 5)),
  (107, .inl (lo_aload 108 2)),
  (108, .inr (.inl (73, 2, 111))),
  (111, .inr (.inr 0))]
theorem k_147_0 (L : Nat) (xs : Nat → Int32) : ll_OK1 cX10_draftOf RX10 none false ll_mN ll_mR ll_mK ll_cnt L xs false 0 (.inl (lo_aload 1 0)) := lk_aload_n (k := 0) (by decide +kernel) rfl
theorem k_147_1 (L : Nat) (xs : Nat → Int32) : ll_OK1 cX10_draftOf RX10 none false ll_mN ll_mR ll_mK ll_cnt L xs false 1 (.inl (lo_getf 4 10 5)) := lk_getf (ix := 17) (ci := 10) (k := 5) (C := RX10) (T := TX10) (N := 11) (by decide +kernel) rfl in_10 (by decide) tb_444
theorem k_147_4 (L : Nat) (xs : Nat → Int32) : ll_OK1 cX10_draftOf RX10 none false ll_mN ll_mR ll_mK ll_cnt L xs false 4 (.inr (.inl (71, 1, 7))) := ⟨rfl, by decide, by rw [mN_71, mK_71, mR_71]; exact lj_v 149 0 7 (RX7, TX7, 2) (by decide +kernel) tb_514 tb_80 tb_81 rfl rfl rfl rfl (by decide +kernel)⟩
theorem k_147_7 (L : Nat) (xs : Nat → Int32) : ll_OK1 cX10_draftOf RX10 none false ll_mN ll_mR ll_mK ll_cnt L xs false 7 (.inl (lo_iload 8 1)) := lk_iload_n (k := 1) (by decide +kernel) rfl
theorem k_147_8 (L : Nat) (xs : Nat → Int32) : ll_OK1 cX10_draftOf RX10 none false ll_mN ll_mR ll_mK ll_cnt L xs false 8 (.inl (lo_tab 1 [36, 64, 83] 103)) := lk_tab (d0 := 95) (hi := 3) (offs := #[28, 56, 75]) (len := 28) (by decide +kernel) rfl rfl rfl
theorem k_147_36 (L : Nat) (xs : Nat → Int32) : ll_OK1 cX10_draftOf RX10 none false ll_mN ll_mR ll_mK ll_cnt L xs false 36 (.inl (lo_aload 37 0)) := lk_aload_n (k := 0) (by decide +kernel) rfl
theorem k_147_37 (L : Nat) (xs : Nat → Int32) : ll_OK1 cX10_draftOf RX10 none false ll_mN ll_mR ll_mK ll_cnt L xs false 37 (.inl (lo_getf 40 10 5)) := lk_getf (ix := 17) (ci := 10) (k := 5) (C := RX10) (T := TX10) (N := 11) (by decide +kernel) rfl in_10 (by decide) tb_444
theorem k_147_40 (L : Nat) (xs : Nat → Int32) : ll_OK1 cX10_draftOf RX10 none false ll_mN ll_mR ll_mK ll_cnt L xs false 40 (.inl (lo_aload 41 2)) := lk_aload_n (k := 2) (by decide +kernel) rfl
theorem k_147_41 (L : Nat) (xs : Nat → Int32) : ll_OK1 cX10_draftOf RX10 none false ll_mN ll_mR ll_mK ll_cnt L xs false 41 (.inr (.inl (73, 2, 44))) := ⟨rfl, by decide, by rw [mN_73, mK_73, mR_73]; exact lj_v 305 1 7 (RX7, TX7, 2) (by decide +kernel) tb_599 tb_352 tb_353 rfl rfl rfl rfl (by decide +kernel)⟩
theorem k_147_44 (L : Nat) (xs : Nat → Int32) : ll_OK1 cX10_draftOf RX10 none false ll_mN ll_mR ll_mK ll_cnt L xs false 44 (.inl (lo_aload 45 0)) := lk_aload_n (k := 0) (by decide +kernel) rfl
theorem k_147_45 (L : Nat) (xs : Nat → Int32) : ll_OK1 cX10_draftOf RX10 none false ll_mN ll_mR ll_mK ll_cnt L xs false 45 (.inl (lo_getf 48 10 5)) := lk_getf (ix := 17) (ci := 10) (k := 5) (C := RX10) (T := TX10) (N := 11) (by decide +kernel) rfl in_10 (by decide) tb_444
theorem k_147_48 (L : Nat) (xs : Nat → Int32) : ll_OK1 cX10_draftOf RX10 none false ll_mN ll_mR ll_mK ll_cnt L xs false 48 (.inl (lo_push 50 (.int 43))) := lk_bipush (n := 43) (by decide +kernel) (by decide)
theorem k_147_50 (L : Nat) (xs : Nat → Int32) : ll_OK1 cX10_draftOf RX10 none false ll_mN ll_mR ll_mK ll_cnt L xs false 50 (.inr (.inl (72, 2, 53))) := ⟨rfl, by decide, by rw [mN_72, mK_72, mR_72]; exact lj_v 126 1 7 (RX7, TX7, 2) (by decide +kernel) tb_503 tb_225 tb_226 rfl rfl rfl rfl (by decide +kernel)⟩
theorem k_147_53 (L : Nat) (xs : Nat → Int32) : ll_OK1 cX10_draftOf RX10 none false ll_mN ll_mR ll_mK ll_cnt L xs false 53 (.inl (lo_aload 54 0)) := lk_aload_n (k := 0) (by decide +kernel) rfl
theorem k_147_54 (L : Nat) (xs : Nat → Int32) : ll_OK1 cX10_draftOf RX10 none false ll_mN ll_mR ll_mK ll_cnt L xs false 54 (.inl (lo_getf 57 10 5)) := lk_getf (ix := 17) (ci := 10) (k := 5) (C := RX10) (T := TX10) (N := 11) (by decide +kernel) rfl in_10 (by decide) tb_444
theorem k_147_57 (L : Nat) (xs : Nat → Int32) : ll_OK1 cX10_draftOf RX10 none false ll_mN ll_mR ll_mK ll_cnt L xs false 57 (.inl (lo_aload 58 3)) := lk_aload_n (k := 3) (by decide +kernel) rfl
theorem k_147_58 (L : Nat) (xs : Nat → Int32) : ll_OK1 cX10_draftOf RX10 none false ll_mN ll_mR ll_mK ll_cnt L xs false 58 (.inr (.inl (73, 2, 61))) := ⟨rfl, by decide, by rw [mN_73, mK_73, mR_73]; exact lj_v 305 1 7 (RX7, TX7, 2) (by decide +kernel) tb_599 tb_352 tb_353 rfl rfl rfl rfl (by decide +kernel)⟩
theorem k_147_61 (L : Nat) (xs : Nat → Int32) : ll_OK1 cX10_draftOf RX10 none false ll_mN ll_mR ll_mK ll_cnt L xs false 61 (.inl (lo_goto 111)) := lk_goto (off := 50) (by decide +kernel) rfl
theorem k_147_64 (L : Nat) (xs : Nat → Int32) : ll_OK1 cX10_draftOf RX10 none false ll_mN ll_mR ll_mK ll_cnt L xs false 64 (.inl (lo_aload 65 0)) := lk_aload_n (k := 0) (by decide +kernel) rfl
theorem k_147_65 (L : Nat) (xs : Nat → Int32) : ll_OK1 cX10_draftOf RX10 none false ll_mN ll_mR ll_mK ll_cnt L xs false 65 (.inl (lo_getf 68 10 5)) := lk_getf (ix := 17) (ci := 10) (k := 5) (C := RX10) (T := TX10) (N := 11) (by decide +kernel) rfl in_10 (by decide) tb_444
theorem k_147_68 (L : Nat) (xs : Nat → Int32) : ll_OK1 cX10_draftOf RX10 none false ll_mN ll_mR ll_mK ll_cnt L xs false 68 (.inl (lo_aload 69 2)) := lk_aload_n (k := 2) (by decide +kernel) rfl
theorem k_147_69 (L : Nat) (xs : Nat → Int32) : ll_OK1 cX10_draftOf RX10 none false ll_mN ll_mR ll_mK ll_cnt L xs false 69 (.inr (.inl (74, 2, 72))) := ⟨rfl, by decide, by rw [mN_74, mK_74, mR_74]; exact lj_v 308 1 7 (RX7, TX7, 2) (by decide +kernel) tb_600 tb_601 tb_602 rfl rfl rfl rfl (by decide +kernel)⟩
theorem k_147_72 (L : Nat) (xs : Nat → Int32) : ll_OK1 cX10_draftOf RX10 none false ll_mN ll_mR ll_mK ll_cnt L xs false 72 (.inl (lo_aload 73 0)) := lk_aload_n (k := 0) (by decide +kernel) rfl
theorem k_147_73 (L : Nat) (xs : Nat → Int32) : ll_OK1 cX10_draftOf RX10 none false ll_mN ll_mR ll_mK ll_cnt L xs false 73 (.inl (lo_getf 76 10 5)) := lk_getf (ix := 17) (ci := 10) (k := 5) (C := RX10) (T := TX10) (N := 11) (by decide +kernel) rfl in_10 (by decide) tb_444
theorem k_147_76 (L : Nat) (xs : Nat → Int32) : ll_OK1 cX10_draftOf RX10 none false ll_mN ll_mR ll_mK ll_cnt L xs false 76 (.inl (lo_aload 77 3)) := lk_aload_n (k := 3) (by decide +kernel) rfl
theorem k_147_77 (L : Nat) (xs : Nat → Int32) : ll_OK1 cX10_draftOf RX10 none false ll_mN ll_mR ll_mK ll_cnt L xs false 77 (.inr (.inl (74, 2, 80))) := ⟨rfl, by decide, by rw [mN_74, mK_74, mR_74]; exact lj_v 308 1 7 (RX7, TX7, 2) (by decide +kernel) tb_600 tb_601 tb_602 rfl rfl rfl rfl (by decide +kernel)⟩
theorem k_147_80 (L : Nat) (xs : Nat → Int32) : ll_OK1 cX10_draftOf RX10 none false ll_mN ll_mR ll_mK ll_cnt L xs false 80 (.inl (lo_goto 111)) := lk_goto (off := 31) (by decide +kernel) rfl
theorem k_147_83 (L : Nat) (xs : Nat → Int32) : ll_OK1 cX10_draftOf RX10 none false ll_mN ll_mR ll_mK ll_cnt L xs false 83 (.inl (lo_aload 84 0)) := lk_aload_n (k := 0) (by decide +kernel) rfl
theorem k_147_84 (L : Nat) (xs : Nat → Int32) : ll_OK1 cX10_draftOf RX10 none false ll_mN ll_mR ll_mK ll_cnt L xs false 84 (.inl (lo_getf 87 10 5)) := lk_getf (ix := 17) (ci := 10) (k := 5) (C := RX10) (T := TX10) (N := 11) (by decide +kernel) rfl in_10 (by decide) tb_444
theorem k_147_87 (L : Nat) (xs : Nat → Int32) : ll_OK1 cX10_draftOf RX10 none false ll_mN ll_mR ll_mK ll_cnt L xs false 87 (.inl (lo_aload 88 2)) := lk_aload_n (k := 2) (by decide +kernel) rfl
theorem k_147_88 (L : Nat) (xs : Nat → Int32) : ll_OK1 cX10_draftOf RX10 none false ll_mN ll_mR ll_mK ll_cnt L xs false 88 (.inr (.inl (74, 2, 91))) := ⟨rfl, by decide, by rw [mN_74, mK_74, mR_74]; exact lj_v 308 1 7 (RX7, TX7, 2) (by decide +kernel) tb_600 tb_601 tb_602 rfl rfl rfl rfl (by decide +kernel)⟩
theorem k_147_91 (L : Nat) (xs : Nat → Int32) : ll_OK1 cX10_draftOf RX10 none false ll_mN ll_mR ll_mK ll_cnt L xs false 91 (.inl (lo_aload 92 0)) := lk_aload_n (k := 0) (by decide +kernel) rfl
theorem k_147_92 (L : Nat) (xs : Nat → Int32) : ll_OK1 cX10_draftOf RX10 none false ll_mN ll_mR ll_mK ll_cnt L xs false 92 (.inl (lo_getf 95 10 5)) := lk_getf (ix := 17) (ci := 10) (k := 5) (C := RX10) (T := TX10) (N := 11) (by decide +kernel) rfl in_10 (by decide) tb_444
theorem k_147_95 (L : Nat) (xs : Nat → Int32) : ll_OK1 cX10_draftOf RX10 none false ll_mN ll_mR ll_mK ll_cnt L xs false 95 (.inl (lo_push 97 (.int 42))) := lk_bipush (n := 42) (by decide +kernel) (by decide)
theorem k_147_97 (L : Nat) (xs : Nat → Int32) : ll_OK1 cX10_draftOf RX10 none false ll_mN ll_mR ll_mK ll_cnt L xs false 97 (.inr (.inl (72, 2, 100))) := ⟨rfl, by decide, by rw [mN_72, mK_72, mR_72]; exact lj_v 126 1 7 (RX7, TX7, 2) (by decide +kernel) tb_503 tb_225 tb_226 rfl rfl rfl rfl (by decide +kernel)⟩
theorem k_147_100 (L : Nat) (xs : Nat → Int32) : ll_OK1 cX10_draftOf RX10 none false ll_mN ll_mR ll_mK ll_cnt L xs false 100 (.inl (lo_goto 111)) := lk_goto (off := 11) (by decide +kernel) rfl
theorem k_147_103 (L : Nat) (xs : Nat → Int32) : ll_OK1 cX10_draftOf RX10 none false ll_mN ll_mR ll_mK ll_cnt L xs false 103 (.inl (lo_aload 104 0)) := lk_aload_n (k := 0) (by decide +kernel) rfl
theorem k_147_104 (L : Nat) (xs : Nat → Int32) : ll_OK1 cX10_draftOf RX10 none false ll_mN ll_mR ll_mK ll_cnt L xs false 104 (.inl (lo_getf 107 10 5)) := lk_getf (ix := 17) (ci := 10) (k := 5) (C := RX10) (T := TX10) (N := 11) (by decide +kernel) rfl in_10 (by decide) tb_444
theorem k_147_107 (L : Nat) (xs : Nat → Int32) : ll_OK1 cX10_draftOf RX10 none false ll_mN ll_mR ll_mK ll_cnt L xs false 107 (.inl (lo_aload 108 2)) := lk_aload_n (k := 2) (by decide +kernel) rfl
theorem k_147_108 (L : Nat) (xs : Nat → Int32) : ll_OK1 cX10_draftOf RX10 none false ll_mN ll_mR ll_mK ll_cnt L xs false 108 (.inr (.inl (73, 2, 111))) := ⟨rfl, by decide, by rw [mN_73, mK_73, mR_73]; exact lj_v 305 1 7 (RX7, TX7, 2) (by decide +kernel) tb_599 tb_352 tb_353 rfl rfl rfl rfl (by decide +kernel)⟩
theorem k_147_111 (L : Nat) (xs : Nat → Int32) : ll_OK1 cX10_draftOf RX10 none false ll_mN ll_mR ll_mK ll_cnt L xs false 111 (.inr (.inr 0)) := ⟨fun _ => ⟨(by decide +kernel), rfl⟩, (fun h => by cases h), fun h => by cases h⟩
theorem ok_147 (L : Nat) (xs : Nat → Int32) : ∀ q ∈ cd_147, ll_OK1 cX10_draftOf RX10 none false ll_mN ll_mR ll_mK ll_cnt L xs false q.1 q.2 :=
  List.forall_mem_cons.mpr ⟨k_147_0 L xs, List.forall_mem_cons.mpr ⟨k_147_1 L xs, List.forall_mem_cons.mpr ⟨k_147_4 L xs, List.forall_mem_cons.mpr ⟨k_147_7 L xs, List.forall_mem_cons.mpr ⟨k_147_8 L xs, List.forall_mem_cons.mpr ⟨k_147_36 L xs, List.forall_mem_cons.mpr ⟨k_147_37 L xs, List.forall_mem_cons.mpr ⟨k_147_40 L xs, List.forall_mem_cons.mpr ⟨k_147_41 L xs, List.forall_mem_cons.mpr ⟨k_147_44 L xs, List.forall_mem_cons.mpr ⟨k_147_45 L xs, List.forall_mem_cons.mpr ⟨k_147_48 L xs, List.forall_mem_cons.mpr ⟨k_147_50 L xs, List.forall_mem_cons.mpr ⟨k_147_53 L xs, List.forall_mem_cons.mpr ⟨k_147_54 L xs, List.forall_mem_cons.mpr ⟨k_147_57 L xs, List.forall_mem_cons.mpr ⟨k_147_58 L xs, List.forall_mem_cons.mpr ⟨k_147_61 L xs, List.forall_mem_cons.mpr ⟨k_147_64 L xs, List.forall_mem_cons.mpr ⟨k_147_65 L xs, List.forall_mem_cons.mpr ⟨k_147_68 L xs, List.forall_mem_cons.mpr ⟨k_147_69 L xs, List.forall_mem_cons.mpr ⟨k_147_72 L xs, List.forall_mem_cons.mpr ⟨k_147_73 L xs, List.forall_mem_cons.mpr ⟨k_147_76 L xs, List.forall_mem_cons.mpr ⟨k_147_77 L xs, List.forall_mem_cons.mpr ⟨k_147_80 L xs, List.forall_mem_cons.mpr ⟨k_147_83 L xs, List.forall_mem_cons.mpr ⟨k_147_84 L xs, List.forall_mem_cons.mpr ⟨k_147_87 L xs, List.forall_mem_cons.mpr ⟨k_147_88 L xs, List.forall_mem_cons.mpr ⟨k_147_91 L xs, List.forall_mem_cons.mpr ⟨k_147_92 L xs, List.forall_mem_cons.mpr ⟨k_147_95 L xs, List.forall_mem_cons.mpr ⟨k_147_97 L xs, List.forall_mem_cons.mpr ⟨k_147_100 L xs, List.forall_mem_cons.mpr ⟨k_147_103 L xs, List.forall_mem_cons.mpr ⟨k_147_104 L xs, List.forall_mem_cons.mpr ⟨k_147_107 L xs, List.forall_mem_cons.mpr ⟨k_147_108 L xs, List.forall_mem_cons.mpr ⟨k_147_111 L xs, fun _ h => absurd h List.not_mem_nil⟩⟩⟩⟩⟩⟩⟩⟩⟩⟩⟩⟩⟩⟩⟩⟩⟩⟩⟩⟩⟩⟩⟩⟩⟩⟩⟩⟩⟩⟩⟩⟩⟩⟩⟩⟩⟩⟩⟩⟩⟩
/-- InclusionProver.tapeIsWordOf.(LInclusionProver$Side;)Z -/
def cd_148 : List (Nat × ll_O) := [
  (0, .inl (lo_aload 1 0)),
  (1, .inl (lo_getf 4 10 8)),
  (4, .inl (lo_getf 7 3 0)),
  (7, .inl (lo_astore 8 2)),
  (8, .inl (lo_aload 9 2)),
  (9, .inl (lo_getf 12 7 1)),
  (12, .inl (lo_push 14 (.int 30))),
  (14, .inl (lo_cmp 19 17 (fun x y => decide (x ≤ y)))),
  (17, .inl (lo_push 18 (.int 0))),
  (18, .inr (.inr 2)),
  (19, .inl (lo_push 20 (.int 1))),
  (20, .inl (lo_istore 21 3)),
  (21, .inl (lo_push 22 (.int 0))),
  (22, .inl (lo_istore 24 4)),
  (24, .inl (lo_iload 26 4)),
  (26, .inl (lo_aload 27 2)),
  (27, .inl (lo_getf 30 7 1)),
  (30, .inl (lo_cmp 71 33 (fun x y => decide (y ≤ x)))),
  (33, .inl (lo_aload 34 2)),
  (34, .inl (lo_iload 36 4)),
  (36, .inr (.inl (77, 2, 39))),
  (39, .inl (lo_push 41 (.int 97))),
  (41, .inl (lo_bin 42 (fun x y => x - y))),
  (42, .inl (lo_istore 44 5)),
  (44, .inl (lo_iload 46 5)),
  (46, .inl (lo_if 55 49 (fun x => decide (x < 0)))),
  (49, .inl (lo_iload 51 5)),
  (51, .inl (lo_push 52 (.int 3))),
  (52, .inl (lo_cmp 57 55 (fun x y => decide (x < y)))),
  (55, .inl (lo_push 56 (.int 0))),
  (56, .inr (.inr 2)),
  (57, .inl (lo_aload 58 1)),
  (58, .inl (lo_iload 59 3)),
  (59, .inl (lo_iload 61 5)),
  (61, .inr (.inl (54, 3, 64))),
  (64, .inl (lo_istore 65 3)),
  (65, .inl (lo_iinc 68 4 1)),
  (68, .inl (lo_goto 24)),
  (71, .inl (lo_aload 72 1)),
  (72, .inl (lo_iload 73 3)),
  (73, .inr (.inl (47, 2, 76))),
  (76, .inr (.inr 2))]
theorem k_148_0 (L : Nat) (xs : Nat → Int32) : ll_OK1 cX10_tapeIsWordOf RX10 (some .boolean) false ll_mN ll_mR ll_mK ll_cnt L xs false 0 (.inl (lo_aload 1 0)) := lk_aload_n (k := 0) (by decide +kernel) rfl
theorem k_148_1 (L : Nat) (xs : Nat → Int32) : ll_OK1 cX10_tapeIsWordOf RX10 (some .boolean) false ll_mN ll_mR ll_mK ll_cnt L xs false 1 (.inl (lo_getf 4 10 8)) := lk_getf (ix := 81) (ci := 10) (k := 8) (C := RX10) (T := TX10) (N := 11) (by decide +kernel) rfl in_10 (by decide) tb_485
theorem k_148_4 (L : Nat) (xs : Nat → Int32) : ll_OK1 cX10_tapeIsWordOf RX10 (some .boolean) false ll_mN ll_mR ll_mK ll_cnt L xs false 4 (.inl (lo_getf 7 3 0)) := lk_getf (ix := 115) (ci := 3) (k := 0) (C := RX3) (T := TX3) (N := 5) (by decide +kernel) rfl in_3 (by decide) tb_499
theorem k_148_7 (L : Nat) (xs : Nat → Int32) : ll_OK1 cX10_tapeIsWordOf RX10 (some .boolean) false ll_mN ll_mR ll_mK ll_cnt L xs false 7 (.inl (lo_astore 8 2)) := lk_astore_n (k := 2) (by decide +kernel) rfl
theorem k_148_8 (L : Nat) (xs : Nat → Int32) : ll_OK1 cX10_tapeIsWordOf RX10 (some .boolean) false ll_mN ll_mR ll_mK ll_cnt L xs false 8 (.inl (lo_aload 9 2)) := lk_aload_n (k := 2) (by decide +kernel) rfl
theorem k_148_9 (L : Nat) (xs : Nat → Int32) : ll_OK1 cX10_tapeIsWordOf RX10 (some .boolean) false ll_mN ll_mR ll_mK ll_cnt L xs false 9 (.inl (lo_getf 12 7 1)) := lk_getf (ix := 118) (ci := 7) (k := 1) (C := RX7) (T := TX7) (N := 2) (by decide +kernel) rfl in_7 (by decide) tb_500
theorem k_148_12 (L : Nat) (xs : Nat → Int32) : ll_OK1 cX10_tapeIsWordOf RX10 (some .boolean) false ll_mN ll_mR ll_mK ll_cnt L xs false 12 (.inl (lo_push 14 (.int 30))) := lk_bipush (n := 30) (by decide +kernel) (by decide)
theorem k_148_14 (L : Nat) (xs : Nat → Int32) : ll_OK1 cX10_tapeIsWordOf RX10 (some .boolean) false ll_mN ll_mR ll_mK ll_cnt L xs false 14 (.inl (lo_cmp 19 17 (fun x y => decide (x ≤ y)))) := lk_icmp_le (off := 5) (by decide +kernel) rfl
theorem k_148_17 (L : Nat) (xs : Nat → Int32) : ll_OK1 cX10_tapeIsWordOf RX10 (some .boolean) false ll_mN ll_mR ll_mK ll_cnt L xs false 17 (.inl (lo_push 18 (.int 0))) := lk_iconst (n := 0) (by decide +kernel) (by decide)
theorem k_148_18 (L : Nat) (xs : Nat → Int32) : ll_OK1 cX10_tapeIsWordOf RX10 (some .boolean) false ll_mN ll_mR ll_mK ll_cnt L xs false 18 (.inr (.inr 2)) := ⟨(fun h => by cases h), (fun h => by cases h), fun _ => ⟨(by decide +kernel), rfl⟩⟩
theorem k_148_19 (L : Nat) (xs : Nat → Int32) : ll_OK1 cX10_tapeIsWordOf RX10 (some .boolean) false ll_mN ll_mR ll_mK ll_cnt L xs false 19 (.inl (lo_push 20 (.int 1))) := lk_iconst (n := 1) (by decide +kernel) (by decide)
theorem k_148_20 (L : Nat) (xs : Nat → Int32) : ll_OK1 cX10_tapeIsWordOf RX10 (some .boolean) false ll_mN ll_mR ll_mK ll_cnt L xs false 20 (.inl (lo_istore 21 3)) := lk_istore_n (k := 3) (by decide +kernel) rfl
theorem k_148_21 (L : Nat) (xs : Nat → Int32) : ll_OK1 cX10_tapeIsWordOf RX10 (some .boolean) false ll_mN ll_mR ll_mK ll_cnt L xs false 21 (.inl (lo_push 22 (.int 0))) := lk_iconst (n := 0) (by decide +kernel) (by decide)
theorem k_148_22 (L : Nat) (xs : Nat → Int32) : ll_OK1 cX10_tapeIsWordOf RX10 (some .boolean) false ll_mN ll_mR ll_mK ll_cnt L xs false 22 (.inl (lo_istore 24 4)) := lk_istore (by decide +kernel)
theorem k_148_24 (L : Nat) (xs : Nat → Int32) : ll_OK1 cX10_tapeIsWordOf RX10 (some .boolean) false ll_mN ll_mR ll_mK ll_cnt L xs false 24 (.inl (lo_iload 26 4)) := lk_iload (by decide +kernel)
theorem k_148_26 (L : Nat) (xs : Nat → Int32) : ll_OK1 cX10_tapeIsWordOf RX10 (some .boolean) false ll_mN ll_mR ll_mK ll_cnt L xs false 26 (.inl (lo_aload 27 2)) := lk_aload_n (k := 2) (by decide +kernel) rfl
theorem k_148_27 (L : Nat) (xs : Nat → Int32) : ll_OK1 cX10_tapeIsWordOf RX10 (some .boolean) false ll_mN ll_mR ll_mK ll_cnt L xs false 27 (.inl (lo_getf 30 7 1)) := lk_getf (ix := 118) (ci := 7) (k := 1) (C := RX7) (T := TX7) (N := 2) (by decide +kernel) rfl in_7 (by decide) tb_500
theorem k_148_30 (L : Nat) (xs : Nat → Int32) : ll_OK1 cX10_tapeIsWordOf RX10 (some .boolean) false ll_mN ll_mR ll_mK ll_cnt L xs false 30 (.inl (lo_cmp 71 33 (fun x y => decide (y ≤ x)))) := lk_icmp_ge (off := 41) (by decide +kernel) rfl
theorem k_148_33 (L : Nat) (xs : Nat → Int32) : ll_OK1 cX10_tapeIsWordOf RX10 (some .boolean) false ll_mN ll_mR ll_mK ll_cnt L xs false 33 (.inl (lo_aload 34 2)) := lk_aload_n (k := 2) (by decide +kernel) rfl
theorem k_148_34 (L : Nat) (xs : Nat → Int32) : ll_OK1 cX10_tapeIsWordOf RX10 (some .boolean) false ll_mN ll_mR ll_mK ll_cnt L xs false 34 (.inl (lo_iload 36 4)) := lk_iload (by decide +kernel)
theorem k_148_36 (L : Nat) (xs : Nat → Int32) : ll_OK1 cX10_tapeIsWordOf RX10 (some .boolean) false ll_mN ll_mR ll_mK ll_cnt L xs false 36 (.inr (.inl (77, 2, 39))) := ⟨rfl, by decide, by rw [mN_77, mK_77, mR_77]; exact lj_v 189 1 7 (RX7, TX7, 2) (by decide +kernel) tb_536 tb_140 tb_141 rfl rfl rfl rfl (by decide +kernel)⟩
theorem k_148_39 (L : Nat) (xs : Nat → Int32) : ll_OK1 cX10_tapeIsWordOf RX10 (some .boolean) false ll_mN ll_mR ll_mK ll_cnt L xs false 39 (.inl (lo_push 41 (.int 97))) := lk_bipush (n := 97) (by decide +kernel) (by decide)
theorem k_148_41 (L : Nat) (xs : Nat → Int32) : ll_OK1 cX10_tapeIsWordOf RX10 (some .boolean) false ll_mN ll_mR ll_mK ll_cnt L xs false 41 (.inl (lo_bin 42 (fun x y => x - y))) := lk_isub (by decide +kernel)
theorem k_148_42 (L : Nat) (xs : Nat → Int32) : ll_OK1 cX10_tapeIsWordOf RX10 (some .boolean) false ll_mN ll_mR ll_mK ll_cnt L xs false 42 (.inl (lo_istore 44 5)) := lk_istore (by decide +kernel)
theorem k_148_44 (L : Nat) (xs : Nat → Int32) : ll_OK1 cX10_tapeIsWordOf RX10 (some .boolean) false ll_mN ll_mR ll_mK ll_cnt L xs false 44 (.inl (lo_iload 46 5)) := lk_iload (by decide +kernel)
theorem k_148_46 (L : Nat) (xs : Nat → Int32) : ll_OK1 cX10_tapeIsWordOf RX10 (some .boolean) false ll_mN ll_mR ll_mK ll_cnt L xs false 46 (.inl (lo_if 55 49 (fun x => decide (x < 0)))) := lk_if_lt (off := 9) (by decide +kernel) rfl
theorem k_148_49 (L : Nat) (xs : Nat → Int32) : ll_OK1 cX10_tapeIsWordOf RX10 (some .boolean) false ll_mN ll_mR ll_mK ll_cnt L xs false 49 (.inl (lo_iload 51 5)) := lk_iload (by decide +kernel)
theorem k_148_51 (L : Nat) (xs : Nat → Int32) : ll_OK1 cX10_tapeIsWordOf RX10 (some .boolean) false ll_mN ll_mR ll_mK ll_cnt L xs false 51 (.inl (lo_push 52 (.int 3))) := lk_iconst (n := 3) (by decide +kernel) (by decide)
theorem k_148_52 (L : Nat) (xs : Nat → Int32) : ll_OK1 cX10_tapeIsWordOf RX10 (some .boolean) false ll_mN ll_mR ll_mK ll_cnt L xs false 52 (.inl (lo_cmp 57 55 (fun x y => decide (x < y)))) := lk_icmp_lt (off := 5) (by decide +kernel) rfl
theorem k_148_55 (L : Nat) (xs : Nat → Int32) : ll_OK1 cX10_tapeIsWordOf RX10 (some .boolean) false ll_mN ll_mR ll_mK ll_cnt L xs false 55 (.inl (lo_push 56 (.int 0))) := lk_iconst (n := 0) (by decide +kernel) (by decide)
theorem k_148_56 (L : Nat) (xs : Nat → Int32) : ll_OK1 cX10_tapeIsWordOf RX10 (some .boolean) false ll_mN ll_mR ll_mK ll_cnt L xs false 56 (.inr (.inr 2)) := ⟨(fun h => by cases h), (fun h => by cases h), fun _ => ⟨(by decide +kernel), rfl⟩⟩
theorem k_148_57 (L : Nat) (xs : Nat → Int32) : ll_OK1 cX10_tapeIsWordOf RX10 (some .boolean) false ll_mN ll_mR ll_mK ll_cnt L xs false 57 (.inl (lo_aload 58 1)) := lk_aload_n (k := 1) (by decide +kernel) rfl
theorem k_148_58 (L : Nat) (xs : Nat → Int32) : ll_OK1 cX10_tapeIsWordOf RX10 (some .boolean) false ll_mN ll_mR ll_mK ll_cnt L xs false 58 (.inl (lo_iload 59 3)) := lk_iload_n (k := 3) (by decide +kernel) rfl
theorem k_148_59 (L : Nat) (xs : Nat → Int32) : ll_OK1 cX10_tapeIsWordOf RX10 (some .boolean) false ll_mN ll_mR ll_mK ll_cnt L xs false 59 (.inl (lo_iload 61 5)) := lk_iload (by decide +kernel)
theorem k_148_61 (L : Nat) (xs : Nat → Int32) : ll_OK1 cX10_tapeIsWordOf RX10 (some .boolean) false ll_mN ll_mR ll_mK ll_cnt L xs false 61 (.inr (.inl (54, 3, 64))) := ⟨rfl, by decide, by rw [mN_54, mK_54, mR_54]; exact lj_v 311 2 5 (RX5, TX5, 11) (by decide +kernel) tb_603 tb_49 tb_50 rfl rfl rfl rfl (by decide +kernel)⟩
theorem k_148_64 (L : Nat) (xs : Nat → Int32) : ll_OK1 cX10_tapeIsWordOf RX10 (some .boolean) false ll_mN ll_mR ll_mK ll_cnt L xs false 64 (.inl (lo_istore 65 3)) := lk_istore_n (k := 3) (by decide +kernel) rfl
theorem k_148_65 (L : Nat) (xs : Nat → Int32) : ll_OK1 cX10_tapeIsWordOf RX10 (some .boolean) false ll_mN ll_mR ll_mK ll_cnt L xs false 65 (.inl (lo_iinc 68 4 1)) := lk_iinc (n := 1) (by decide +kernel) (by decide)
theorem k_148_68 (L : Nat) (xs : Nat → Int32) : ll_OK1 cX10_tapeIsWordOf RX10 (some .boolean) false ll_mN ll_mR ll_mK ll_cnt L xs false 68 (.inl (lo_goto 24)) := lk_goto (off := (-44)) (by decide +kernel) rfl
theorem k_148_71 (L : Nat) (xs : Nat → Int32) : ll_OK1 cX10_tapeIsWordOf RX10 (some .boolean) false ll_mN ll_mR ll_mK ll_cnt L xs false 71 (.inl (lo_aload 72 1)) := lk_aload_n (k := 1) (by decide +kernel) rfl
theorem k_148_72 (L : Nat) (xs : Nat → Int32) : ll_OK1 cX10_tapeIsWordOf RX10 (some .boolean) false ll_mN ll_mR ll_mK ll_cnt L xs false 72 (.inl (lo_iload 73 3)) := lk_iload_n (k := 3) (by decide +kernel) rfl
theorem k_148_73 (L : Nat) (xs : Nat → Int32) : ll_OK1 cX10_tapeIsWordOf RX10 (some .boolean) false ll_mN ll_mR ll_mK ll_cnt L xs false 73 (.inr (.inl (47, 2, 76))) := ⟨rfl, by decide, by rw [mN_47, mK_47, mR_47]; exact lj_v 173 1 5 (RX5, TX5, 11) (by decide +kernel) tb_529 tb_30 tb_31 rfl rfl rfl rfl (by decide +kernel)⟩
theorem k_148_76 (L : Nat) (xs : Nat → Int32) : ll_OK1 cX10_tapeIsWordOf RX10 (some .boolean) false ll_mN ll_mR ll_mK ll_cnt L xs false 76 (.inr (.inr 2)) := ⟨(fun h => by cases h), (fun h => by cases h), fun _ => ⟨(by decide +kernel), rfl⟩⟩
theorem ok_148 (L : Nat) (xs : Nat → Int32) : ∀ q ∈ cd_148, ll_OK1 cX10_tapeIsWordOf RX10 (some .boolean) false ll_mN ll_mR ll_mK ll_cnt L xs false q.1 q.2 :=
  List.forall_mem_cons.mpr ⟨k_148_0 L xs, List.forall_mem_cons.mpr ⟨k_148_1 L xs, List.forall_mem_cons.mpr ⟨k_148_4 L xs, List.forall_mem_cons.mpr ⟨k_148_7 L xs, List.forall_mem_cons.mpr ⟨k_148_8 L xs, List.forall_mem_cons.mpr ⟨k_148_9 L xs, List.forall_mem_cons.mpr ⟨k_148_12 L xs, List.forall_mem_cons.mpr ⟨k_148_14 L xs, List.forall_mem_cons.mpr ⟨k_148_17 L xs, List.forall_mem_cons.mpr ⟨k_148_18 L xs, List.forall_mem_cons.mpr ⟨k_148_19 L xs, List.forall_mem_cons.mpr ⟨k_148_20 L xs, List.forall_mem_cons.mpr ⟨k_148_21 L xs, List.forall_mem_cons.mpr ⟨k_148_22 L xs, List.forall_mem_cons.mpr ⟨k_148_24 L xs, List.forall_mem_cons.mpr ⟨k_148_26 L xs, List.forall_mem_cons.mpr ⟨k_148_27 L xs, List.forall_mem_cons.mpr ⟨k_148_30 L xs, List.forall_mem_cons.mpr ⟨k_148_33 L xs, List.forall_mem_cons.mpr ⟨k_148_34 L xs, List.forall_mem_cons.mpr ⟨k_148_36 L xs, List.forall_mem_cons.mpr ⟨k_148_39 L xs, List.forall_mem_cons.mpr ⟨k_148_41 L xs, List.forall_mem_cons.mpr ⟨k_148_42 L xs, List.forall_mem_cons.mpr ⟨k_148_44 L xs, List.forall_mem_cons.mpr ⟨k_148_46 L xs, List.forall_mem_cons.mpr ⟨k_148_49 L xs, List.forall_mem_cons.mpr ⟨k_148_51 L xs, List.forall_mem_cons.mpr ⟨k_148_52 L xs, List.forall_mem_cons.mpr ⟨k_148_55 L xs, List.forall_mem_cons.mpr ⟨k_148_56 L xs, List.forall_mem_cons.mpr ⟨k_148_57 L xs, List.forall_mem_cons.mpr ⟨k_148_58 L xs, List.forall_mem_cons.mpr ⟨k_148_59 L xs, List.forall_mem_cons.mpr ⟨k_148_61 L xs, List.forall_mem_cons.mpr ⟨k_148_64 L xs, List.forall_mem_cons.mpr ⟨k_148_65 L xs, List.forall_mem_cons.mpr ⟨k_148_68 L xs, List.forall_mem_cons.mpr ⟨k_148_71 L xs, List.forall_mem_cons.mpr ⟨k_148_72 L xs, List.forall_mem_cons.mpr ⟨k_148_73 L xs, List.forall_mem_cons.mpr ⟨k_148_76 L xs, fun _ h => absurd h List.not_mem_nil⟩⟩⟩⟩⟩⟩⟩⟩⟩⟩⟩⟩⟩⟩⟩⟩⟩⟩⟩⟩⟩⟩⟩⟩⟩⟩⟩⟩⟩⟩⟩⟩⟩⟩⟩⟩⟩⟩⟩⟩⟩⟩
/-- InclusionProverModel.<init>.()V -/
def cd_149 : List (Nat × ll_O) := [
  (0, .inl (lo_aload 1 0)),
  (1, .inl (lo_init 4)),
  (4, .inl (lo_aload 5 0)),
  (5, .inl (lo_push 7 (.int 42882))),
  (7, .inl (lo_newa 9 0)),
  (9, .inl (lo_putf 12 11 0 2)),
  (12, .inl (lo_aload 13 0)),
  (13, .inl (lo_push 15 (.int 60))),
  (15, .inl (lo_newa 17 0)),
  (17, .inl (lo_putf 20 11 1 2)),
  (20, .inl (lo_aload 21 0)),
  (21, .inl (lo_push 22 (.int 2))),
  (22, .inl (lo_newa 24 1)),
  (24, .inl (lo_putf 27 11 2 2)),
  (27, .inl (lo_aload 28 0)),
  (28, .inl (lo_push 29 (.int (-1)))),
  (29, .inl (lo_putf 32 11 4 0)),
  (32, .inl (lo_aload 33 0)),
  (33, .inl (lo_push 36 (.int 1500))),
  (36, .inl (lo_newa 38 0)),
  (38, .inl (lo_putf 41 11 5 2)),
  (41, .inl (lo_aload 42 0)),
  (42, .inl (lo_push 45 (.int 1500))),
  (45, .inl (lo_newa 47 0)),
  (47, .inl (lo_putf 50 11 6 2)),
  (50, .inl (lo_aload 51 0)),
  (51, .inl (lo_push 54 (.int 1500))),
  (54, .inl (lo_newa 56 0)),
  (56, .inl (lo_putf 59 11 7 2)),
  (59, .inl (lo_aload 60 0)),
  (60, .inl (lo_push 63 (.int 1500))),
  (63, .inl (lo_newa 65 0)),
  (65, .inl (lo_putf 68 11 8 2)),
  (68, .inl (lo_aload 69 0)),
  (69, .inl (lo_push 72 (.int 1500))),
  (72, .inl (lo_newa 74 0)),
  (74, .inl (lo_putf 77 11 9 2)),
  (77, .inl (lo_aload 78 0)),
  (78, .inl (lo_push 81 (.int 24000))),
  (81, .inl (lo_newa 83 0)),
  (83, .inl (lo_putf 86 11 10 2)),
  (86, .inl (lo_aload 87 0)),
  (87, .inl (lo_push 90 (.int 1500))),
  (90, .inl (lo_newa 92 1)),
  (92, .inl (lo_putf 95 11 11 2)),
  (95, .inl (lo_aload 96 0)),
  (96, .inl (lo_push 99 (.int 4500))),
  (99, .inl (lo_newa 101 0)),
  (101, .inl (lo_putf 104 11 14 2)),
  (104, .inl (lo_aload 105 0)),
  (105, .inl (lo_push 108 (.int 4500))),
  (108, .inl (lo_newa 110 0)),
  (110, .inl (lo_putf 113 11 15 2)),
  (113, .inl (lo_aload 114 0)),
  (114, .inl (lo_push 116 (.int 48000))),
  (116, .inl (lo_newa 118 0)),
  (118, .inl (lo_putf 121 11 16 2)),
  (121, .inl (lo_aload 122 0)),
  (122, .inl (lo_push 125 (.int 400))),
  (125, .inl (lo_newa 127 0)),
  (127, .inl (lo_putf 130 11 18 2)),
  (130, .inl (lo_aload 131 0)),
  (131, .inl (lo_push 134 (.int 400))),
  (134, .inl (lo_newa 136 0)),
  (136, .inl (lo_putf 139 11 20 2)),
  (139, .inl (lo_aload 140 0)),
  (140, .inl (lo_push 143 (.int 960))),
  (143, .inl (lo_newa 145 0)),
  (145, .inl (lo_putf 148 11 21 2)),
  (148, .inl (lo_aload 149 0)),
  (149, .inl (lo_push 152 (.int 960))),
  (152, .inl (lo_newa 154 0)),
  (154, .inl (lo_putf 157 11 22 2)),
  (157, .inl (lo_aload 158 0)),
  (158, .inl (lo_push 160 (.int 32))),
  (160, .inl (lo_newa 162 0)),
  (162, .inl (lo_putf 165 11 23 2)),
  (165, .inl (lo_aload 166 0)),
  (166, .inl (lo_push 168 (.int 32))),
  (168, .inl (lo_newa 170 0)),
  (170, .inl (lo_putf 173 11 24 2)),
  (173, .inl (lo_aload 174 0)),
  (174, .inl (lo_push 177 (.int 2000))),
  (177, .inl (lo_newa 179 0)),
  (179, .inl (lo_putf 182 11 27 2)),
  (182, .inl (lo_aload 183 0)),
  (183, .inl (lo_push 186 (.int 600))),
  (186, .inl (lo_newa 188 0)),
  (188, .inl (lo_putf 191 11 28 2)),
  (191, .inl (lo_aload 192 0)),
  (192, .inl (lo_push 195 (.int 1500))),
  (195, .inl (lo_newa 197 0)),
  (197, .inl (lo_putf 200 11 31 2)),
  (200, .inl (lo_aload 201 0)),
  (201, .inl (lo_push 204 (.int 200))),
  (204, .inl (lo_newa 206 0)),
  (206, .inl (lo_putf 209 11 32 2)),
  (209, .inl (lo_aload 210 0)),
  (210, .inl (lo_push 212 (.int 62))),
  (212, .inl (lo_newa 214 0)),
  (214, .inl (lo_putf 217 11 34 2)),
  (217, .inl (lo_aload 218 0)),
  (218, .inl (lo_push 219 (.int 2))),
  (219, .inl (lo_newa 221 0)),
  (221, .inl (lo_putf 224 11 35 2)),
  (224, .inl (lo_aload 225 0)),
  (225, .inl (lo_push 228 (.int 186))),
  (228, .inl (lo_newa 230 0)),
  (230, .inl (lo_putf 233 11 36 2)),
  (233, .inl (lo_aload 234 0)),
  (234, .inl (lo_push 237 (.int 5766))),
  (237, .inl (lo_newa 239 0)),
  (239, .inl (lo_putf 242 11 37 2)),
  (242, .inl (lo_aload 243 0)),
  (243, .inl (lo_push 246 (.int 186))),
  (246, .inl (lo_newa 248 0)),
  (248, .inl (lo_putf 251 11 38 2)),
  (251, .inl (lo_aload 252 0)),
  (252, .inl (lo_push 255 (.int 301))),
  (255, .inl (lo_newa 257 0)),
  (257, .inl (lo_putf 260 11 39 2)),
  (260, .inl (lo_aload 261 0)),
  (261, .inl (lo_push 264 (.int 301))),
  (264, .inl (lo_newa 266 0)),
  (266, .inl (lo_putf 269 11 40 2)),
  (269, .inl (lo_aload 270 0)),
  (270, .inl (lo_push 273 (.int 301))),
  (273, .inl (lo_newa 275 0)),
  (275, .inl (lo_putf 278 11 41 2)),
  (278, .inl (lo_aload 279 0)),
  (279, .inl (lo_push 281 (.int 8))),
  (281, .inl (lo_newa 283 0)),
  (283, .inl (lo_putf 286 11 45 2)),
  (286, .inl (lo_push 287 (.int 0))),
  (287, .inl (lo_istore 288 1)),
  (288, .inl (lo_iload 289 1)),
  (289, .inl (lo_push 291 (.int 6))),
  (291, .inl (lo_cmp 308 294 (fun x y => decide (y ≤ x)))),
  (294, .inl (lo_aload 295 0)),
  (295, .inl (lo_push 297 (.int 31))),
  (297, .inl (lo_iload 298 1)),
  (298, .inl (lo_bin 299 (fun x y => x * y))),
  (299, .inr (.inl (150, 2, 302))),
  (302, .inl (lo_iinc 305 1 1)),
  (305, .inl (lo_goto 288)),
  (308, .inl (lo_aload 309 0)),
  (309, .inl (lo_getf 312 11 0)),
  (312, .inl (lo_push 315 (.int 10388))),
  (315, .inl (lo_push 316 (.int (-1)))),
  (316, .inl (lo_ast 317 0)),
  (317, .inr (.inr 0))]
theorem k_149_0 (L : Nat) (xs : Nat → Int32) : ll_OK1 cX11_init RX11 none true ll_mN ll_mR ll_mK ll_cnt L xs false 0 (.inl (lo_aload 1 0)) := lk_aload_n (k := 0) (by decide +kernel) rfl
theorem k_149_1 (L : Nat) (xs : Nat → Int32) : ll_OK1 cX11_init RX11 none true ll_mN ll_mR ll_mK ll_cnt L xs false 1 (.inl (lo_init 4)) := lk_init (ix := 1) (by decide +kernel) tb_604 tb_1 tb_2
theorem k_149_4 (L : Nat) (xs : Nat → Int32) : ll_OK1 cX11_init RX11 none true ll_mN ll_mR ll_mK ll_cnt L xs false 4 (.inl (lo_aload 5 0)) := lk_aload_n (k := 0) (by decide +kernel) rfl
theorem k_149_5 (L : Nat) (xs : Nat → Int32) : ll_OK1 cX11_init RX11 none true ll_mN ll_mR ll_mK ll_cnt L xs false 5 (.inl (lo_push 7 (.int 42882))) := lk_ldc (ix := 7) (by decide +kernel) tb_605
theorem k_149_7 (L : Nat) (xs : Nat → Int32) : ll_OK1 cX11_init RX11 none true ll_mN ll_mR ll_mK ll_cnt L xs false 7 (.inl (lo_newa 9 0)) := lk_newa_int (by decide +kernel) tb_61
theorem k_149_9 (L : Nat) (xs : Nat → Int32) : ll_OK1 cX11_init RX11 none true ll_mN ll_mR ll_mK ll_cnt L xs false 9 (.inl (lo_putf 12 11 0 2)) := lk_putf (ix := 8) (ci := 11) (k := 0) (C := RX11) (T := TX11) (N := 46) (ty0 := tyX11) (by decide +kernel) rfl in_11 tyX11_ok nmX11 (by decide) tb_606 (fun B adr v w h1 h2 => ll_fit_arr (B := B) (adr := adr) h1 h2) (Or.inr ⟨rfl, rfl, rfl⟩)
theorem k_149_12 (L : Nat) (xs : Nat → Int32) : ll_OK1 cX11_init RX11 none true ll_mN ll_mR ll_mK ll_cnt L xs false 12 (.inl (lo_aload 13 0)) := lk_aload_n (k := 0) (by decide +kernel) rfl
theorem k_149_13 (L : Nat) (xs : Nat → Int32) : ll_OK1 cX11_init RX11 none true ll_mN ll_mR ll_mK ll_cnt L xs false 13 (.inl (lo_push 15 (.int 60))) := lk_bipush (n := 60) (by decide +kernel) (by decide)
theorem k_149_15 (L : Nat) (xs : Nat → Int32) : ll_OK1 cX11_init RX11 none true ll_mN ll_mR ll_mK ll_cnt L xs false 15 (.inl (lo_newa 17 0)) := lk_newa_int (by decide +kernel) tb_61
theorem k_149_17 (L : Nat) (xs : Nat → Int32) : ll_OK1 cX11_init RX11 none true ll_mN ll_mR ll_mK ll_cnt L xs false 17 (.inl (lo_putf 20 11 1 2)) := lk_putf (ix := 14) (ci := 11) (k := 1) (C := RX11) (T := TX11) (N := 46) (ty0 := tyX11) (by decide +kernel) rfl in_11 tyX11_ok nmX11 (by decide) tb_607 (fun B adr v w h1 h2 => ll_fit_arr (B := B) (adr := adr) h1 h2) (Or.inr ⟨rfl, rfl, rfl⟩)
theorem k_149_20 (L : Nat) (xs : Nat → Int32) : ll_OK1 cX11_init RX11 none true ll_mN ll_mR ll_mK ll_cnt L xs false 20 (.inl (lo_aload 21 0)) := lk_aload_n (k := 0) (by decide +kernel) rfl
theorem k_149_21 (L : Nat) (xs : Nat → Int32) : ll_OK1 cX11_init RX11 none true ll_mN ll_mR ll_mK ll_cnt L xs false 21 (.inl (lo_push 22 (.int 2))) := lk_iconst (n := 2) (by decide +kernel) (by decide)
theorem k_149_22 (L : Nat) (xs : Nat → Int32) : ll_OK1 cX11_init RX11 none true ll_mN ll_mR ll_mK ll_cnt L xs false 22 (.inl (lo_newa 24 1)) := lk_newa_bool (by decide +kernel) tb_488
theorem k_149_24 (L : Nat) (xs : Nat → Int32) : ll_OK1 cX11_init RX11 none true ll_mN ll_mR ll_mK ll_cnt L xs false 24 (.inl (lo_putf 27 11 2 2)) := lk_putf (ix := 17) (ci := 11) (k := 2) (C := RX11) (T := TX11) (N := 46) (ty0 := tyX11) (by decide +kernel) rfl in_11 tyX11_ok nmX11 (by decide) tb_608 (fun B adr v w h1 h2 => ll_fit_arr (B := B) (adr := adr) h1 h2) (Or.inr ⟨rfl, rfl, rfl⟩)
theorem k_149_27 (L : Nat) (xs : Nat → Int32) : ll_OK1 cX11_init RX11 none true ll_mN ll_mR ll_mK ll_cnt L xs false 27 (.inl (lo_aload 28 0)) := lk_aload_n (k := 0) (by decide +kernel) rfl
theorem k_149_28 (L : Nat) (xs : Nat → Int32) : ll_OK1 cX11_init RX11 none true ll_mN ll_mR ll_mK ll_cnt L xs false 28 (.inl (lo_push 29 (.int (-1)))) := lk_iconst (n := (-1)) (by decide +kernel) (by decide)
theorem k_149_29 (L : Nat) (xs : Nat → Int32) : ll_OK1 cX11_init RX11 none true ll_mN ll_mR ll_mK ll_cnt L xs false 29 (.inl (lo_putf 32 11 4 0)) := lk_putf (ix := 21) (ci := 11) (k := 4) (C := RX11) (T := TX11) (N := 46) (ty0 := tyX11) (by decide +kernel) rfl in_11 tyX11_ok nmX11 (by decide) tb_609 (fun B adr v w h1 h2 => ll_fit_int (B := B) (adr := adr) h1 h2) (Or.inl rfl)
theorem k_149_32 (L : Nat) (xs : Nat → Int32) : ll_OK1 cX11_init RX11 none true ll_mN ll_mR ll_mK ll_cnt L xs false 32 (.inl (lo_aload 33 0)) := lk_aload_n (k := 0) (by decide +kernel) rfl
theorem k_149_33 (L : Nat) (xs : Nat → Int32) : ll_OK1 cX11_init RX11 none true ll_mN ll_mR ll_mK ll_cnt L xs false 33 (.inl (lo_push 36 (.int 1500))) := lk_sipush (n := 1500) (by decide +kernel) (by decide)
theorem k_149_36 (L : Nat) (xs : Nat → Int32) : ll_OK1 cX11_init RX11 none true ll_mN ll_mR ll_mK ll_cnt L xs false 36 (.inl (lo_newa 38 0)) := lk_newa_int (by decide +kernel) tb_61
theorem k_149_38 (L : Nat) (xs : Nat → Int32) : ll_OK1 cX11_init RX11 none true ll_mN ll_mR ll_mK ll_cnt L xs false 38 (.inl (lo_putf 41 11 5 2)) := lk_putf (ix := 25) (ci := 11) (k := 5) (C := RX11) (T := TX11) (N := 46) (ty0 := tyX11) (by decide +kernel) rfl in_11 tyX11_ok nmX11 (by decide) tb_610 (fun B adr v w h1 h2 => ll_fit_arr (B := B) (adr := adr) h1 h2) (Or.inr ⟨rfl, rfl, rfl⟩)
theorem k_149_41 (L : Nat) (xs : Nat → Int32) : ll_OK1 cX11_init RX11 none true ll_mN ll_mR ll_mK ll_cnt L xs false 41 (.inl (lo_aload 42 0)) := lk_aload_n (k := 0) (by decide +kernel) rfl
theorem k_149_42 (L : Nat) (xs : Nat → Int32) : ll_OK1 cX11_init RX11 none true ll_mN ll_mR ll_mK ll_cnt L xs false 42 (.inl (lo_push 45 (.int 1500))) := lk_sipush (n := 1500) (by decide +kernel) (by decide)
theorem k_149_45 (L : Nat) (xs : Nat → Int32) : ll_OK1 cX11_init RX11 none true ll_mN ll_mR ll_mK ll_cnt L xs false 45 (.inl (lo_newa 47 0)) := lk_newa_int (by decide +kernel) tb_61
theorem k_149_47 (L : Nat) (xs : Nat → Int32) : ll_OK1 cX11_init RX11 none true ll_mN ll_mR ll_mK ll_cnt L xs false 47 (.inl (lo_putf 50 11 6 2)) := lk_putf (ix := 28) (ci := 11) (k := 6) (C := RX11) (T := TX11) (N := 46) (ty0 := tyX11) (by decide +kernel) rfl in_11 tyX11_ok nmX11 (by decide) tb_611 (fun B adr v w h1 h2 => ll_fit_arr (B := B) (adr := adr) h1 h2) (Or.inr ⟨rfl, rfl, rfl⟩)
theorem k_149_50 (L : Nat) (xs : Nat → Int32) : ll_OK1 cX11_init RX11 none true ll_mN ll_mR ll_mK ll_cnt L xs false 50 (.inl (lo_aload 51 0)) := lk_aload_n (k := 0) (by decide +kernel) rfl
theorem k_149_51 (L : Nat) (xs : Nat → Int32) : ll_OK1 cX11_init RX11 none true ll_mN ll_mR ll_mK ll_cnt L xs false 51 (.inl (lo_push 54 (.int 1500))) := lk_sipush (n := 1500) (by decide +kernel) (by decide)
theorem k_149_54 (L : Nat) (xs : Nat → Int32) : ll_OK1 cX11_init RX11 none true ll_mN ll_mR ll_mK ll_cnt L xs false 54 (.inl (lo_newa 56 0)) := lk_newa_int (by decide +kernel) tb_61
theorem k_149_56 (L : Nat) (xs : Nat → Int32) : ll_OK1 cX11_init RX11 none true ll_mN ll_mR ll_mK ll_cnt L xs false 56 (.inl (lo_putf 59 11 7 2)) := lk_putf (ix := 31) (ci := 11) (k := 7) (C := RX11) (T := TX11) (N := 46) (ty0 := tyX11) (by decide +kernel) rfl in_11 tyX11_ok nmX11 (by decide) tb_612 (fun B adr v w h1 h2 => ll_fit_arr (B := B) (adr := adr) h1 h2) (Or.inr ⟨rfl, rfl, rfl⟩)
theorem k_149_59 (L : Nat) (xs : Nat → Int32) : ll_OK1 cX11_init RX11 none true ll_mN ll_mR ll_mK ll_cnt L xs false 59 (.inl (lo_aload 60 0)) := lk_aload_n (k := 0) (by decide +kernel) rfl
theorem k_149_60 (L : Nat) (xs : Nat → Int32) : ll_OK1 cX11_init RX11 none true ll_mN ll_mR ll_mK ll_cnt L xs false 60 (.inl (lo_push 63 (.int 1500))) := lk_sipush (n := 1500) (by decide +kernel) (by decide)
theorem k_149_63 (L : Nat) (xs : Nat → Int32) : ll_OK1 cX11_init RX11 none true ll_mN ll_mR ll_mK ll_cnt L xs false 63 (.inl (lo_newa 65 0)) := lk_newa_int (by decide +kernel) tb_61
theorem k_149_65 (L : Nat) (xs : Nat → Int32) : ll_OK1 cX11_init RX11 none true ll_mN ll_mR ll_mK ll_cnt L xs false 65 (.inl (lo_putf 68 11 8 2)) := lk_putf (ix := 34) (ci := 11) (k := 8) (C := RX11) (T := TX11) (N := 46) (ty0 := tyX11) (by decide +kernel) rfl in_11 tyX11_ok nmX11 (by decide) tb_613 (fun B adr v w h1 h2 => ll_fit_arr (B := B) (adr := adr) h1 h2) (Or.inr ⟨rfl, rfl, rfl⟩)
theorem k_149_68 (L : Nat) (xs : Nat → Int32) : ll_OK1 cX11_init RX11 none true ll_mN ll_mR ll_mK ll_cnt L xs false 68 (.inl (lo_aload 69 0)) := lk_aload_n (k := 0) (by decide +kernel) rfl
theorem k_149_69 (L : Nat) (xs : Nat → Int32) : ll_OK1 cX11_init RX11 none true ll_mN ll_mR ll_mK ll_cnt L xs false 69 (.inl (lo_push 72 (.int 1500))) := lk_sipush (n := 1500) (by decide +kernel) (by decide)
theorem k_149_72 (L : Nat) (xs : Nat → Int32) : ll_OK1 cX11_init RX11 none true ll_mN ll_mR ll_mK ll_cnt L xs false 72 (.inl (lo_newa 74 0)) := lk_newa_int (by decide +kernel) tb_61
theorem k_149_74 (L : Nat) (xs : Nat → Int32) : ll_OK1 cX11_init RX11 none true ll_mN ll_mR ll_mK ll_cnt L xs false 74 (.inl (lo_putf 77 11 9 2)) := lk_putf (ix := 37) (ci := 11) (k := 9) (C := RX11) (T := TX11) (N := 46) (ty0 := tyX11) (by decide +kernel) rfl in_11 tyX11_ok nmX11 (by decide) tb_614 (fun B adr v w h1 h2 => ll_fit_arr (B := B) (adr := adr) h1 h2) (Or.inr ⟨rfl, rfl, rfl⟩)
theorem k_149_77 (L : Nat) (xs : Nat → Int32) : ll_OK1 cX11_init RX11 none true ll_mN ll_mR ll_mK ll_cnt L xs false 77 (.inl (lo_aload 78 0)) := lk_aload_n (k := 0) (by decide +kernel) rfl
theorem k_149_78 (L : Nat) (xs : Nat → Int32) : ll_OK1 cX11_init RX11 none true ll_mN ll_mR ll_mK ll_cnt L xs false 78 (.inl (lo_push 81 (.int 24000))) := lk_sipush (n := 24000) (by decide +kernel) (by decide)
theorem k_149_81 (L : Nat) (xs : Nat → Int32) : ll_OK1 cX11_init RX11 none true ll_mN ll_mR ll_mK ll_cnt L xs false 81 (.inl (lo_newa 83 0)) := lk_newa_int (by decide +kernel) tb_61
theorem k_149_83 (L : Nat) (xs : Nat → Int32) : ll_OK1 cX11_init RX11 none true ll_mN ll_mR ll_mK ll_cnt L xs false 83 (.inl (lo_putf 86 11 10 2)) := lk_putf (ix := 40) (ci := 11) (k := 10) (C := RX11) (T := TX11) (N := 46) (ty0 := tyX11) (by decide +kernel) rfl in_11 tyX11_ok nmX11 (by decide) tb_615 (fun B adr v w h1 h2 => ll_fit_arr (B := B) (adr := adr) h1 h2) (Or.inr ⟨rfl, rfl, rfl⟩)
theorem k_149_86 (L : Nat) (xs : Nat → Int32) : ll_OK1 cX11_init RX11 none true ll_mN ll_mR ll_mK ll_cnt L xs false 86 (.inl (lo_aload 87 0)) := lk_aload_n (k := 0) (by decide +kernel) rfl
theorem k_149_87 (L : Nat) (xs : Nat → Int32) : ll_OK1 cX11_init RX11 none true ll_mN ll_mR ll_mK ll_cnt L xs false 87 (.inl (lo_push 90 (.int 1500))) := lk_sipush (n := 1500) (by decide +kernel) (by decide)
theorem k_149_90 (L : Nat) (xs : Nat → Int32) : ll_OK1 cX11_init RX11 none true ll_mN ll_mR ll_mK ll_cnt L xs false 90 (.inl (lo_newa 92 1)) := lk_newa_bool (by decide +kernel) tb_488
theorem k_149_92 (L : Nat) (xs : Nat → Int32) : ll_OK1 cX11_init RX11 none true ll_mN ll_mR ll_mK ll_cnt L xs false 92 (.inl (lo_putf 95 11 11 2)) := lk_putf (ix := 43) (ci := 11) (k := 11) (C := RX11) (T := TX11) (N := 46) (ty0 := tyX11) (by decide +kernel) rfl in_11 tyX11_ok nmX11 (by decide) tb_616 (fun B adr v w h1 h2 => ll_fit_arr (B := B) (adr := adr) h1 h2) (Or.inr ⟨rfl, rfl, rfl⟩)
theorem k_149_95 (L : Nat) (xs : Nat → Int32) : ll_OK1 cX11_init RX11 none true ll_mN ll_mR ll_mK ll_cnt L xs false 95 (.inl (lo_aload 96 0)) := lk_aload_n (k := 0) (by decide +kernel) rfl
theorem k_149_96 (L : Nat) (xs : Nat → Int32) : ll_OK1 cX11_init RX11 none true ll_mN ll_mR ll_mK ll_cnt L xs false 96 (.inl (lo_push 99 (.int 4500))) := lk_sipush (n := 4500) (by decide +kernel) (by decide)
theorem k_149_99 (L : Nat) (xs : Nat → Int32) : ll_OK1 cX11_init RX11 none true ll_mN ll_mR ll_mK ll_cnt L xs false 99 (.inl (lo_newa 101 0)) := lk_newa_int (by decide +kernel) tb_61
theorem k_149_101 (L : Nat) (xs : Nat → Int32) : ll_OK1 cX11_init RX11 none true ll_mN ll_mR ll_mK ll_cnt L xs false 101 (.inl (lo_putf 104 11 14 2)) := lk_putf (ix := 46) (ci := 11) (k := 14) (C := RX11) (T := TX11) (N := 46) (ty0 := tyX11) (by decide +kernel) rfl in_11 tyX11_ok nmX11 (by decide) tb_617 (fun B adr v w h1 h2 => ll_fit_arr (B := B) (adr := adr) h1 h2) (Or.inr ⟨rfl, rfl, rfl⟩)
theorem k_149_104 (L : Nat) (xs : Nat → Int32) : ll_OK1 cX11_init RX11 none true ll_mN ll_mR ll_mK ll_cnt L xs false 104 (.inl (lo_aload 105 0)) := lk_aload_n (k := 0) (by decide +kernel) rfl
theorem k_149_105 (L : Nat) (xs : Nat → Int32) : ll_OK1 cX11_init RX11 none true ll_mN ll_mR ll_mK ll_cnt L xs false 105 (.inl (lo_push 108 (.int 4500))) := lk_sipush (n := 4500) (by decide +kernel) (by decide)
theorem k_149_108 (L : Nat) (xs : Nat → Int32) : ll_OK1 cX11_init RX11 none true ll_mN ll_mR ll_mK ll_cnt L xs false 108 (.inl (lo_newa 110 0)) := lk_newa_int (by decide +kernel) tb_61
theorem k_149_110 (L : Nat) (xs : Nat → Int32) : ll_OK1 cX11_init RX11 none true ll_mN ll_mR ll_mK ll_cnt L xs false 110 (.inl (lo_putf 113 11 15 2)) := lk_putf (ix := 49) (ci := 11) (k := 15) (C := RX11) (T := TX11) (N := 46) (ty0 := tyX11) (by decide +kernel) rfl in_11 tyX11_ok nmX11 (by decide) tb_618 (fun B adr v w h1 h2 => ll_fit_arr (B := B) (adr := adr) h1 h2) (Or.inr ⟨rfl, rfl, rfl⟩)
theorem k_149_113 (L : Nat) (xs : Nat → Int32) : ll_OK1 cX11_init RX11 none true ll_mN ll_mR ll_mK ll_cnt L xs false 113 (.inl (lo_aload 114 0)) := lk_aload_n (k := 0) (by decide +kernel) rfl
theorem k_149_114 (L : Nat) (xs : Nat → Int32) : ll_OK1 cX11_init RX11 none true ll_mN ll_mR ll_mK ll_cnt L xs false 114 (.inl (lo_push 116 (.int 48000))) := lk_ldc (ix := 52) (by decide +kernel) tb_619
theorem k_149_116 (L : Nat) (xs : Nat → Int32) : ll_OK1 cX11_init RX11 none true ll_mN ll_mR ll_mK ll_cnt L xs false 116 (.inl (lo_newa 118 0)) := lk_newa_int (by decide +kernel) tb_61
theorem k_149_118 (L : Nat) (xs : Nat → Int32) : ll_OK1 cX11_init RX11 none true ll_mN ll_mR ll_mK ll_cnt L xs false 118 (.inl (lo_putf 121 11 16 2)) := lk_putf (ix := 53) (ci := 11) (k := 16) (C := RX11) (T := TX11) (N := 46) (ty0 := tyX11) (by decide +kernel) rfl in_11 tyX11_ok nmX11 (by decide) tb_620 (fun B adr v w h1 h2 => ll_fit_arr (B := B) (adr := adr) h1 h2) (Or.inr ⟨rfl, rfl, rfl⟩)
theorem k_149_121 (L : Nat) (xs : Nat → Int32) : ll_OK1 cX11_init RX11 none true ll_mN ll_mR ll_mK ll_cnt L xs false 121 (.inl (lo_aload 122 0)) := lk_aload_n (k := 0) (by decide +kernel) rfl
theorem k_149_122 (L : Nat) (xs : Nat → Int32) : ll_OK1 cX11_init RX11 none true ll_mN ll_mR ll_mK ll_cnt L xs false 122 (.inl (lo_push 125 (.int 400))) := lk_sipush (n := 400) (by decide +kernel) (by decide)
theorem k_149_125 (L : Nat) (xs : Nat → Int32) : ll_OK1 cX11_init RX11 none true ll_mN ll_mR ll_mK ll_cnt L xs false 125 (.inl (lo_newa 127 0)) := lk_newa_int (by decide +kernel) tb_61
theorem k_149_127 (L : Nat) (xs : Nat → Int32) : ll_OK1 cX11_init RX11 none true ll_mN ll_mR ll_mK ll_cnt L xs false 127 (.inl (lo_putf 130 11 18 2)) := lk_putf (ix := 56) (ci := 11) (k := 18) (C := RX11) (T := TX11) (N := 46) (ty0 := tyX11) (by decide +kernel) rfl in_11 tyX11_ok nmX11 (by decide) tb_621 (fun B adr v w h1 h2 => ll_fit_arr (B := B) (adr := adr) h1 h2) (Or.inr ⟨rfl, rfl, rfl⟩)
theorem k_149_130 (L : Nat) (xs : Nat → Int32) : ll_OK1 cX11_init RX11 none true ll_mN ll_mR ll_mK ll_cnt L xs false 130 (.inl (lo_aload 131 0)) := lk_aload_n (k := 0) (by decide +kernel) rfl
theorem k_149_131 (L : Nat) (xs : Nat → Int32) : ll_OK1 cX11_init RX11 none true ll_mN ll_mR ll_mK ll_cnt L xs false 131 (.inl (lo_push 134 (.int 400))) := lk_sipush (n := 400) (by decide +kernel) (by decide)
theorem k_149_134 (L : Nat) (xs : Nat → Int32) : ll_OK1 cX11_init RX11 none true ll_mN ll_mR ll_mK ll_cnt L xs false 134 (.inl (lo_newa 136 0)) := lk_newa_int (by decide +kernel) tb_61
theorem k_149_136 (L : Nat) (xs : Nat → Int32) : ll_OK1 cX11_init RX11 none true ll_mN ll_mR ll_mK ll_cnt L xs false 136 (.inl (lo_putf 139 11 20 2)) := lk_putf (ix := 59) (ci := 11) (k := 20) (C := RX11) (T := TX11) (N := 46) (ty0 := tyX11) (by decide +kernel) rfl in_11 tyX11_ok nmX11 (by decide) tb_622 (fun B adr v w h1 h2 => ll_fit_arr (B := B) (adr := adr) h1 h2) (Or.inr ⟨rfl, rfl, rfl⟩)
theorem k_149_139 (L : Nat) (xs : Nat → Int32) : ll_OK1 cX11_init RX11 none true ll_mN ll_mR ll_mK ll_cnt L xs false 139 (.inl (lo_aload 140 0)) := lk_aload_n (k := 0) (by decide +kernel) rfl
theorem k_149_140 (L : Nat) (xs : Nat → Int32) : ll_OK1 cX11_init RX11 none true ll_mN ll_mR ll_mK ll_cnt L xs false 140 (.inl (lo_push 143 (.int 960))) := lk_sipush (n := 960) (by decide +kernel) (by decide)
theorem k_149_143 (L : Nat) (xs : Nat → Int32) : ll_OK1 cX11_init RX11 none true ll_mN ll_mR ll_mK ll_cnt L xs false 143 (.inl (lo_newa 145 0)) := lk_newa_int (by decide +kernel) tb_61
theorem k_149_145 (L : Nat) (xs : Nat → Int32) : ll_OK1 cX11_init RX11 none true ll_mN ll_mR ll_mK ll_cnt L xs false 145 (.inl (lo_putf 148 11 21 2)) := lk_putf (ix := 62) (ci := 11) (k := 21) (C := RX11) (T := TX11) (N := 46) (ty0 := tyX11) (by decide +kernel) rfl in_11 tyX11_ok nmX11 (by decide) tb_623 (fun B adr v w h1 h2 => ll_fit_arr (B := B) (adr := adr) h1 h2) (Or.inr ⟨rfl, rfl, rfl⟩)
theorem k_149_148 (L : Nat) (xs : Nat → Int32) : ll_OK1 cX11_init RX11 none true ll_mN ll_mR ll_mK ll_cnt L xs false 148 (.inl (lo_aload 149 0)) := lk_aload_n (k := 0) (by decide +kernel) rfl
theorem k_149_149 (L : Nat) (xs : Nat → Int32) : ll_OK1 cX11_init RX11 none true ll_mN ll_mR ll_mK ll_cnt L xs false 149 (.inl (lo_push 152 (.int 960))) := lk_sipush (n := 960) (by decide +kernel) (by decide)
theorem k_149_152 (L : Nat) (xs : Nat → Int32) : ll_OK1 cX11_init RX11 none true ll_mN ll_mR ll_mK ll_cnt L xs false 152 (.inl (lo_newa 154 0)) := lk_newa_int (by decide +kernel) tb_61
theorem k_149_154 (L : Nat) (xs : Nat → Int32) : ll_OK1 cX11_init RX11 none true ll_mN ll_mR ll_mK ll_cnt L xs false 154 (.inl (lo_putf 157 11 22 2)) := lk_putf (ix := 65) (ci := 11) (k := 22) (C := RX11) (T := TX11) (N := 46) (ty0 := tyX11) (by decide +kernel) rfl in_11 tyX11_ok nmX11 (by decide) tb_624 (fun B adr v w h1 h2 => ll_fit_arr (B := B) (adr := adr) h1 h2) (Or.inr ⟨rfl, rfl, rfl⟩)
theorem k_149_157 (L : Nat) (xs : Nat → Int32) : ll_OK1 cX11_init RX11 none true ll_mN ll_mR ll_mK ll_cnt L xs false 157 (.inl (lo_aload 158 0)) := lk_aload_n (k := 0) (by decide +kernel) rfl
theorem k_149_158 (L : Nat) (xs : Nat → Int32) : ll_OK1 cX11_init RX11 none true ll_mN ll_mR ll_mK ll_cnt L xs false 158 (.inl (lo_push 160 (.int 32))) := lk_bipush (n := 32) (by decide +kernel) (by decide)
theorem k_149_160 (L : Nat) (xs : Nat → Int32) : ll_OK1 cX11_init RX11 none true ll_mN ll_mR ll_mK ll_cnt L xs false 160 (.inl (lo_newa 162 0)) := lk_newa_int (by decide +kernel) tb_61
theorem k_149_162 (L : Nat) (xs : Nat → Int32) : ll_OK1 cX11_init RX11 none true ll_mN ll_mR ll_mK ll_cnt L xs false 162 (.inl (lo_putf 165 11 23 2)) := lk_putf (ix := 68) (ci := 11) (k := 23) (C := RX11) (T := TX11) (N := 46) (ty0 := tyX11) (by decide +kernel) rfl in_11 tyX11_ok nmX11 (by decide) tb_625 (fun B adr v w h1 h2 => ll_fit_arr (B := B) (adr := adr) h1 h2) (Or.inr ⟨rfl, rfl, rfl⟩)
theorem k_149_165 (L : Nat) (xs : Nat → Int32) : ll_OK1 cX11_init RX11 none true ll_mN ll_mR ll_mK ll_cnt L xs false 165 (.inl (lo_aload 166 0)) := lk_aload_n (k := 0) (by decide +kernel) rfl
theorem k_149_166 (L : Nat) (xs : Nat → Int32) : ll_OK1 cX11_init RX11 none true ll_mN ll_mR ll_mK ll_cnt L xs false 166 (.inl (lo_push 168 (.int 32))) := lk_bipush (n := 32) (by decide +kernel) (by decide)
theorem k_149_168 (L : Nat) (xs : Nat → Int32) : ll_OK1 cX11_init RX11 none true ll_mN ll_mR ll_mK ll_cnt L xs false 168 (.inl (lo_newa 170 0)) := lk_newa_int (by decide +kernel) tb_61
theorem k_149_170 (L : Nat) (xs : Nat → Int32) : ll_OK1 cX11_init RX11 none true ll_mN ll_mR ll_mK ll_cnt L xs false 170 (.inl (lo_putf 173 11 24 2)) := lk_putf (ix := 71) (ci := 11) (k := 24) (C := RX11) (T := TX11) (N := 46) (ty0 := tyX11) (by decide +kernel) rfl in_11 tyX11_ok nmX11 (by decide) tb_626 (fun B adr v w h1 h2 => ll_fit_arr (B := B) (adr := adr) h1 h2) (Or.inr ⟨rfl, rfl, rfl⟩)
theorem k_149_173 (L : Nat) (xs : Nat → Int32) : ll_OK1 cX11_init RX11 none true ll_mN ll_mR ll_mK ll_cnt L xs false 173 (.inl (lo_aload 174 0)) := lk_aload_n (k := 0) (by decide +kernel) rfl
theorem k_149_174 (L : Nat) (xs : Nat → Int32) : ll_OK1 cX11_init RX11 none true ll_mN ll_mR ll_mK ll_cnt L xs false 174 (.inl (lo_push 177 (.int 2000))) := lk_sipush (n := 2000) (by decide +kernel) (by decide)
theorem k_149_177 (L : Nat) (xs : Nat → Int32) : ll_OK1 cX11_init RX11 none true ll_mN ll_mR ll_mK ll_cnt L xs false 177 (.inl (lo_newa 179 0)) := lk_newa_int (by decide +kernel) tb_61
theorem k_149_179 (L : Nat) (xs : Nat → Int32) : ll_OK1 cX11_init RX11 none true ll_mN ll_mR ll_mK ll_cnt L xs false 179 (.inl (lo_putf 182 11 27 2)) := lk_putf (ix := 74) (ci := 11) (k := 27) (C := RX11) (T := TX11) (N := 46) (ty0 := tyX11) (by decide +kernel) rfl in_11 tyX11_ok nmX11 (by decide) tb_627 (fun B adr v w h1 h2 => ll_fit_arr (B := B) (adr := adr) h1 h2) (Or.inr ⟨rfl, rfl, rfl⟩)
theorem k_149_182 (L : Nat) (xs : Nat → Int32) : ll_OK1 cX11_init RX11 none true ll_mN ll_mR ll_mK ll_cnt L xs false 182 (.inl (lo_aload 183 0)) := lk_aload_n (k := 0) (by decide +kernel) rfl
theorem k_149_183 (L : Nat) (xs : Nat → Int32) : ll_OK1 cX11_init RX11 none true ll_mN ll_mR ll_mK ll_cnt L xs false 183 (.inl (lo_push 186 (.int 600))) := lk_sipush (n := 600) (by decide +kernel) (by decide)
theorem k_149_186 (L : Nat) (xs : Nat → Int32) : ll_OK1 cX11_init RX11 none true ll_mN ll_mR ll_mK ll_cnt L xs false 186 (.inl (lo_newa 188 0)) := lk_newa_int (by decide +kernel) tb_61
theorem k_149_188 (L : Nat) (xs : Nat → Int32) : ll_OK1 cX11_init RX11 none true ll_mN ll_mR ll_mK ll_cnt L xs false 188 (.inl (lo_putf 191 11 28 2)) := lk_putf (ix := 77) (ci := 11) (k := 28) (C := RX11) (T := TX11) (N := 46) (ty0 := tyX11) (by decide +kernel) rfl in_11 tyX11_ok nmX11 (by decide) tb_628 (fun B adr v w h1 h2 => ll_fit_arr (B := B) (adr := adr) h1 h2) (Or.inr ⟨rfl, rfl, rfl⟩)
theorem k_149_191 (L : Nat) (xs : Nat → Int32) : ll_OK1 cX11_init RX11 none true ll_mN ll_mR ll_mK ll_cnt L xs false 191 (.inl (lo_aload 192 0)) := lk_aload_n (k := 0) (by decide +kernel) rfl
theorem k_149_192 (L : Nat) (xs : Nat → Int32) : ll_OK1 cX11_init RX11 none true ll_mN ll_mR ll_mK ll_cnt L xs false 192 (.inl (lo_push 195 (.int 1500))) := lk_sipush (n := 1500) (by decide +kernel) (by decide)
theorem k_149_195 (L : Nat) (xs : Nat → Int32) : ll_OK1 cX11_init RX11 none true ll_mN ll_mR ll_mK ll_cnt L xs false 195 (.inl (lo_newa 197 0)) := lk_newa_int (by decide +kernel) tb_61
theorem k_149_197 (L : Nat) (xs : Nat → Int32) : ll_OK1 cX11_init RX11 none true ll_mN ll_mR ll_mK ll_cnt L xs false 197 (.inl (lo_putf 200 11 31 2)) := lk_putf (ix := 80) (ci := 11) (k := 31) (C := RX11) (T := TX11) (N := 46) (ty0 := tyX11) (by decide +kernel) rfl in_11 tyX11_ok nmX11 (by decide) tb_629 (fun B adr v w h1 h2 => ll_fit_arr (B := B) (adr := adr) h1 h2) (Or.inr ⟨rfl, rfl, rfl⟩)
theorem k_149_200 (L : Nat) (xs : Nat → Int32) : ll_OK1 cX11_init RX11 none true ll_mN ll_mR ll_mK ll_cnt L xs false 200 (.inl (lo_aload 201 0)) := lk_aload_n (k := 0) (by decide +kernel) rfl
theorem k_149_201 (L : Nat) (xs : Nat → Int32) : ll_OK1 cX11_init RX11 none true ll_mN ll_mR ll_mK ll_cnt L xs false 201 (.inl (lo_push 204 (.int 200))) := lk_sipush (n := 200) (by decide +kernel) (by decide)
theorem k_149_204 (L : Nat) (xs : Nat → Int32) : ll_OK1 cX11_init RX11 none true ll_mN ll_mR ll_mK ll_cnt L xs false 204 (.inl (lo_newa 206 0)) := lk_newa_int (by decide +kernel) tb_61
theorem k_149_206 (L : Nat) (xs : Nat → Int32) : ll_OK1 cX11_init RX11 none true ll_mN ll_mR ll_mK ll_cnt L xs false 206 (.inl (lo_putf 209 11 32 2)) := lk_putf (ix := 83) (ci := 11) (k := 32) (C := RX11) (T := TX11) (N := 46) (ty0 := tyX11) (by decide +kernel) rfl in_11 tyX11_ok nmX11 (by decide) tb_630 (fun B adr v w h1 h2 => ll_fit_arr (B := B) (adr := adr) h1 h2) (Or.inr ⟨rfl, rfl, rfl⟩)
theorem k_149_209 (L : Nat) (xs : Nat → Int32) : ll_OK1 cX11_init RX11 none true ll_mN ll_mR ll_mK ll_cnt L xs false 209 (.inl (lo_aload 210 0)) := lk_aload_n (k := 0) (by decide +kernel) rfl
theorem k_149_210 (L : Nat) (xs : Nat → Int32) : ll_OK1 cX11_init RX11 none true ll_mN ll_mR ll_mK ll_cnt L xs false 210 (.inl (lo_push 212 (.int 62))) := lk_bipush (n := 62) (by decide +kernel) (by decide)
theorem k_149_212 (L : Nat) (xs : Nat → Int32) : ll_OK1 cX11_init RX11 none true ll_mN ll_mR ll_mK ll_cnt L xs false 212 (.inl (lo_newa 214 0)) := lk_newa_int (by decide +kernel) tb_61
theorem k_149_214 (L : Nat) (xs : Nat → Int32) : ll_OK1 cX11_init RX11 none true ll_mN ll_mR ll_mK ll_cnt L xs false 214 (.inl (lo_putf 217 11 34 2)) := lk_putf (ix := 86) (ci := 11) (k := 34) (C := RX11) (T := TX11) (N := 46) (ty0 := tyX11) (by decide +kernel) rfl in_11 tyX11_ok nmX11 (by decide) tb_631 (fun B adr v w h1 h2 => ll_fit_arr (B := B) (adr := adr) h1 h2) (Or.inr ⟨rfl, rfl, rfl⟩)
theorem k_149_217 (L : Nat) (xs : Nat → Int32) : ll_OK1 cX11_init RX11 none true ll_mN ll_mR ll_mK ll_cnt L xs false 217 (.inl (lo_aload 218 0)) := lk_aload_n (k := 0) (by decide +kernel) rfl
theorem k_149_218 (L : Nat) (xs : Nat → Int32) : ll_OK1 cX11_init RX11 none true ll_mN ll_mR ll_mK ll_cnt L xs false 218 (.inl (lo_push 219 (.int 2))) := lk_iconst (n := 2) (by decide +kernel) (by decide)
theorem k_149_219 (L : Nat) (xs : Nat → Int32) : ll_OK1 cX11_init RX11 none true ll_mN ll_mR ll_mK ll_cnt L xs false 219 (.inl (lo_newa 221 0)) := lk_newa_int (by decide +kernel) tb_61
theorem k_149_221 (L : Nat) (xs : Nat → Int32) : ll_OK1 cX11_init RX11 none true ll_mN ll_mR ll_mK ll_cnt L xs false 221 (.inl (lo_putf 224 11 35 2)) := lk_putf (ix := 89) (ci := 11) (k := 35) (C := RX11) (T := TX11) (N := 46) (ty0 := tyX11) (by decide +kernel) rfl in_11 tyX11_ok nmX11 (by decide) tb_632 (fun B adr v w h1 h2 => ll_fit_arr (B := B) (adr := adr) h1 h2) (Or.inr ⟨rfl, rfl, rfl⟩)
theorem k_149_224 (L : Nat) (xs : Nat → Int32) : ll_OK1 cX11_init RX11 none true ll_mN ll_mR ll_mK ll_cnt L xs false 224 (.inl (lo_aload 225 0)) := lk_aload_n (k := 0) (by decide +kernel) rfl
theorem k_149_225 (L : Nat) (xs : Nat → Int32) : ll_OK1 cX11_init RX11 none true ll_mN ll_mR ll_mK ll_cnt L xs false 225 (.inl (lo_push 228 (.int 186))) := lk_sipush (n := 186) (by decide +kernel) (by decide)
theorem k_149_228 (L : Nat) (xs : Nat → Int32) : ll_OK1 cX11_init RX11 none true ll_mN ll_mR ll_mK ll_cnt L xs false 228 (.inl (lo_newa 230 0)) := lk_newa_int (by decide +kernel) tb_61
theorem k_149_230 (L : Nat) (xs : Nat → Int32) : ll_OK1 cX11_init RX11 none true ll_mN ll_mR ll_mK ll_cnt L xs false 230 (.inl (lo_putf 233 11 36 2)) := lk_putf (ix := 92) (ci := 11) (k := 36) (C := RX11) (T := TX11) (N := 46) (ty0 := tyX11) (by decide +kernel) rfl in_11 tyX11_ok nmX11 (by decide) tb_633 (fun B adr v w h1 h2 => ll_fit_arr (B := B) (adr := adr) h1 h2) (Or.inr ⟨rfl, rfl, rfl⟩)
theorem k_149_233 (L : Nat) (xs : Nat → Int32) : ll_OK1 cX11_init RX11 none true ll_mN ll_mR ll_mK ll_cnt L xs false 233 (.inl (lo_aload 234 0)) := lk_aload_n (k := 0) (by decide +kernel) rfl
theorem k_149_234 (L : Nat) (xs : Nat → Int32) : ll_OK1 cX11_init RX11 none true ll_mN ll_mR ll_mK ll_cnt L xs false 234 (.inl (lo_push 237 (.int 5766))) := lk_sipush (n := 5766) (by decide +kernel) (by decide)
theorem k_149_237 (L : Nat) (xs : Nat → Int32) : ll_OK1 cX11_init RX11 none true ll_mN ll_mR ll_mK ll_cnt L xs false 237 (.inl (lo_newa 239 0)) := lk_newa_int (by decide +kernel) tb_61
theorem k_149_239 (L : Nat) (xs : Nat → Int32) : ll_OK1 cX11_init RX11 none true ll_mN ll_mR ll_mK ll_cnt L xs false 239 (.inl (lo_putf 242 11 37 2)) := lk_putf (ix := 95) (ci := 11) (k := 37) (C := RX11) (T := TX11) (N := 46) (ty0 := tyX11) (by decide +kernel) rfl in_11 tyX11_ok nmX11 (by decide) tb_634 (fun B adr v w h1 h2 => ll_fit_arr (B := B) (adr := adr) h1 h2) (Or.inr ⟨rfl, rfl, rfl⟩)
theorem k_149_242 (L : Nat) (xs : Nat → Int32) : ll_OK1 cX11_init RX11 none true ll_mN ll_mR ll_mK ll_cnt L xs false 242 (.inl (lo_aload 243 0)) := lk_aload_n (k := 0) (by decide +kernel) rfl
theorem k_149_243 (L : Nat) (xs : Nat → Int32) : ll_OK1 cX11_init RX11 none true ll_mN ll_mR ll_mK ll_cnt L xs false 243 (.inl (lo_push 246 (.int 186))) := lk_sipush (n := 186) (by decide +kernel) (by decide)
theorem k_149_246 (L : Nat) (xs : Nat → Int32) : ll_OK1 cX11_init RX11 none true ll_mN ll_mR ll_mK ll_cnt L xs false 246 (.inl (lo_newa 248 0)) := lk_newa_int (by decide +kernel) tb_61
theorem k_149_248 (L : Nat) (xs : Nat → Int32) : ll_OK1 cX11_init RX11 none true ll_mN ll_mR ll_mK ll_cnt L xs false 248 (.inl (lo_putf 251 11 38 2)) := lk_putf (ix := 98) (ci := 11) (k := 38) (C := RX11) (T := TX11) (N := 46) (ty0 := tyX11) (by decide +kernel) rfl in_11 tyX11_ok nmX11 (by decide) tb_635 (fun B adr v w h1 h2 => ll_fit_arr (B := B) (adr := adr) h1 h2) (Or.inr ⟨rfl, rfl, rfl⟩)
theorem k_149_251 (L : Nat) (xs : Nat → Int32) : ll_OK1 cX11_init RX11 none true ll_mN ll_mR ll_mK ll_cnt L xs false 251 (.inl (lo_aload 252 0)) := lk_aload_n (k := 0) (by decide +kernel) rfl
theorem k_149_252 (L : Nat) (xs : Nat → Int32) : ll_OK1 cX11_init RX11 none true ll_mN ll_mR ll_mK ll_cnt L xs false 252 (.inl (lo_push 255 (.int 301))) := lk_sipush (n := 301) (by decide +kernel) (by decide)
theorem k_149_255 (L : Nat) (xs : Nat → Int32) : ll_OK1 cX11_init RX11 none true ll_mN ll_mR ll_mK ll_cnt L xs false 255 (.inl (lo_newa 257 0)) := lk_newa_int (by decide +kernel) tb_61
theorem k_149_257 (L : Nat) (xs : Nat → Int32) : ll_OK1 cX11_init RX11 none true ll_mN ll_mR ll_mK ll_cnt L xs false 257 (.inl (lo_putf 260 11 39 2)) := lk_putf (ix := 101) (ci := 11) (k := 39) (C := RX11) (T := TX11) (N := 46) (ty0 := tyX11) (by decide +kernel) rfl in_11 tyX11_ok nmX11 (by decide) tb_636 (fun B adr v w h1 h2 => ll_fit_arr (B := B) (adr := adr) h1 h2) (Or.inr ⟨rfl, rfl, rfl⟩)
theorem k_149_260 (L : Nat) (xs : Nat → Int32) : ll_OK1 cX11_init RX11 none true ll_mN ll_mR ll_mK ll_cnt L xs false 260 (.inl (lo_aload 261 0)) := lk_aload_n (k := 0) (by decide +kernel) rfl
theorem k_149_261 (L : Nat) (xs : Nat → Int32) : ll_OK1 cX11_init RX11 none true ll_mN ll_mR ll_mK ll_cnt L xs false 261 (.inl (lo_push 264 (.int 301))) := lk_sipush (n := 301) (by decide +kernel) (by decide)
theorem k_149_264 (L : Nat) (xs : Nat → Int32) : ll_OK1 cX11_init RX11 none true ll_mN ll_mR ll_mK ll_cnt L xs false 264 (.inl (lo_newa 266 0)) := lk_newa_int (by decide +kernel) tb_61
theorem k_149_266 (L : Nat) (xs : Nat → Int32) : ll_OK1 cX11_init RX11 none true ll_mN ll_mR ll_mK ll_cnt L xs false 266 (.inl (lo_putf 269 11 40 2)) := lk_putf (ix := 104) (ci := 11) (k := 40) (C := RX11) (T := TX11) (N := 46) (ty0 := tyX11) (by decide +kernel) rfl in_11 tyX11_ok nmX11 (by decide) tb_637 (fun B adr v w h1 h2 => ll_fit_arr (B := B) (adr := adr) h1 h2) (Or.inr ⟨rfl, rfl, rfl⟩)
theorem k_149_269 (L : Nat) (xs : Nat → Int32) : ll_OK1 cX11_init RX11 none true ll_mN ll_mR ll_mK ll_cnt L xs false 269 (.inl (lo_aload 270 0)) := lk_aload_n (k := 0) (by decide +kernel) rfl
theorem k_149_270 (L : Nat) (xs : Nat → Int32) : ll_OK1 cX11_init RX11 none true ll_mN ll_mR ll_mK ll_cnt L xs false 270 (.inl (lo_push 273 (.int 301))) := lk_sipush (n := 301) (by decide +kernel) (by decide)
theorem k_149_273 (L : Nat) (xs : Nat → Int32) : ll_OK1 cX11_init RX11 none true ll_mN ll_mR ll_mK ll_cnt L xs false 273 (.inl (lo_newa 275 0)) := lk_newa_int (by decide +kernel) tb_61
theorem k_149_275 (L : Nat) (xs : Nat → Int32) : ll_OK1 cX11_init RX11 none true ll_mN ll_mR ll_mK ll_cnt L xs false 275 (.inl (lo_putf 278 11 41 2)) := lk_putf (ix := 107) (ci := 11) (k := 41) (C := RX11) (T := TX11) (N := 46) (ty0 := tyX11) (by decide +kernel) rfl in_11 tyX11_ok nmX11 (by decide) tb_638 (fun B adr v w h1 h2 => ll_fit_arr (B := B) (adr := adr) h1 h2) (Or.inr ⟨rfl, rfl, rfl⟩)
theorem k_149_278 (L : Nat) (xs : Nat → Int32) : ll_OK1 cX11_init RX11 none true ll_mN ll_mR ll_mK ll_cnt L xs false 278 (.inl (lo_aload 279 0)) := lk_aload_n (k := 0) (by decide +kernel) rfl
theorem k_149_279 (L : Nat) (xs : Nat → Int32) : ll_OK1 cX11_init RX11 none true ll_mN ll_mR ll_mK ll_cnt L xs false 279 (.inl (lo_push 281 (.int 8))) := lk_bipush (n := 8) (by decide +kernel) (by decide)
theorem k_149_281 (L : Nat) (xs : Nat → Int32) : ll_OK1 cX11_init RX11 none true ll_mN ll_mR ll_mK ll_cnt L xs false 281 (.inl (lo_newa 283 0)) := lk_newa_int (by decide +kernel) tb_61
theorem k_149_283 (L : Nat) (xs : Nat → Int32) : ll_OK1 cX11_init RX11 none true ll_mN ll_mR ll_mK ll_cnt L xs false 283 (.inl (lo_putf 286 11 45 2)) := lk_putf (ix := 110) (ci := 11) (k := 45) (C := RX11) (T := TX11) (N := 46) (ty0 := tyX11) (by decide +kernel) rfl in_11 tyX11_ok nmX11 (by decide) tb_639 (fun B adr v w h1 h2 => ll_fit_arr (B := B) (adr := adr) h1 h2) (Or.inr ⟨rfl, rfl, rfl⟩)
theorem k_149_286 (L : Nat) (xs : Nat → Int32) : ll_OK1 cX11_init RX11 none true ll_mN ll_mR ll_mK ll_cnt L xs false 286 (.inl (lo_push 287 (.int 0))) := lk_iconst (n := 0) (by decide +kernel) (by decide)
theorem k_149_287 (L : Nat) (xs : Nat → Int32) : ll_OK1 cX11_init RX11 none true ll_mN ll_mR ll_mK ll_cnt L xs false 287 (.inl (lo_istore 288 1)) := lk_istore_n (k := 1) (by decide +kernel) rfl
theorem k_149_288 (L : Nat) (xs : Nat → Int32) : ll_OK1 cX11_init RX11 none true ll_mN ll_mR ll_mK ll_cnt L xs false 288 (.inl (lo_iload 289 1)) := lk_iload_n (k := 1) (by decide +kernel) rfl
theorem k_149_289 (L : Nat) (xs : Nat → Int32) : ll_OK1 cX11_init RX11 none true ll_mN ll_mR ll_mK ll_cnt L xs false 289 (.inl (lo_push 291 (.int 6))) := lk_bipush (n := 6) (by decide +kernel) (by decide)
theorem k_149_291 (L : Nat) (xs : Nat → Int32) : ll_OK1 cX11_init RX11 none true ll_mN ll_mR ll_mK ll_cnt L xs false 291 (.inl (lo_cmp 308 294 (fun x y => decide (y ≤ x)))) := lk_icmp_ge (off := 17) (by decide +kernel) rfl
theorem k_149_294 (L : Nat) (xs : Nat → Int32) : ll_OK1 cX11_init RX11 none true ll_mN ll_mR ll_mK ll_cnt L xs false 294 (.inl (lo_aload 295 0)) := lk_aload_n (k := 0) (by decide +kernel) rfl
theorem k_149_295 (L : Nat) (xs : Nat → Int32) : ll_OK1 cX11_init RX11 none true ll_mN ll_mR ll_mK ll_cnt L xs false 295 (.inl (lo_push 297 (.int 31))) := lk_bipush (n := 31) (by decide +kernel) (by decide)
theorem k_149_297 (L : Nat) (xs : Nat → Int32) : ll_OK1 cX11_init RX11 none true ll_mN ll_mR ll_mK ll_cnt L xs false 297 (.inl (lo_iload 298 1)) := lk_iload_n (k := 1) (by decide +kernel) rfl
theorem k_149_298 (L : Nat) (xs : Nat → Int32) : ll_OK1 cX11_init RX11 none true ll_mN ll_mR ll_mK ll_cnt L xs false 298 (.inl (lo_bin 299 (fun x y => x * y))) := lk_imul (by decide +kernel)
theorem k_149_299 (L : Nat) (xs : Nat → Int32) : ll_OK1 cX11_init RX11 none true ll_mN ll_mR ll_mK ll_cnt L xs false 299 (.inr (.inl (150, 2, 302))) := ⟨rfl, by decide, by rw [mN_150, mK_150, mR_150]; exact lj_v 113 1 11 (RX11, TX11, 46) (by decide +kernel) tb_640 tb_641 tb_642 rfl rfl rfl rfl (by decide +kernel)⟩
theorem k_149_302 (L : Nat) (xs : Nat → Int32) : ll_OK1 cX11_init RX11 none true ll_mN ll_mR ll_mK ll_cnt L xs false 302 (.inl (lo_iinc 305 1 1)) := lk_iinc (n := 1) (by decide +kernel) (by decide)
theorem k_149_305 (L : Nat) (xs : Nat → Int32) : ll_OK1 cX11_init RX11 none true ll_mN ll_mR ll_mK ll_cnt L xs false 305 (.inl (lo_goto 288)) := lk_goto (off := (-17)) (by decide +kernel) rfl
theorem k_149_308 (L : Nat) (xs : Nat → Int32) : ll_OK1 cX11_init RX11 none true ll_mN ll_mR ll_mK ll_cnt L xs false 308 (.inl (lo_aload 309 0)) := lk_aload_n (k := 0) (by decide +kernel) rfl
theorem k_149_309 (L : Nat) (xs : Nat → Int32) : ll_OK1 cX11_init RX11 none true ll_mN ll_mR ll_mK ll_cnt L xs false 309 (.inl (lo_getf 312 11 0)) := lk_getf (ix := 8) (ci := 11) (k := 0) (C := RX11) (T := TX11) (N := 46) (by decide +kernel) rfl in_11 (by decide) tb_606
theorem k_149_312 (L : Nat) (xs : Nat → Int32) : ll_OK1 cX11_init RX11 none true ll_mN ll_mR ll_mK ll_cnt L xs false 312 (.inl (lo_push 315 (.int 10388))) := lk_sipush (n := 10388) (by decide +kernel) (by decide)
theorem k_149_315 (L : Nat) (xs : Nat → Int32) : ll_OK1 cX11_init RX11 none true ll_mN ll_mR ll_mK ll_cnt L xs false 315 (.inl (lo_push 316 (.int (-1)))) := lk_iconst (n := (-1)) (by decide +kernel) (by decide)
theorem k_149_316 (L : Nat) (xs : Nat → Int32) : ll_OK1 cX11_init RX11 none true ll_mN ll_mR ll_mK ll_cnt L xs false 316 (.inl (lo_ast 317 0)) := lk_iast (by decide +kernel)
theorem k_149_317 (L : Nat) (xs : Nat → Int32) : ll_OK1 cX11_init RX11 none true ll_mN ll_mR ll_mK ll_cnt L xs false 317 (.inr (.inr 0)) := ⟨fun _ => ⟨(by decide +kernel), rfl⟩, (fun h => by cases h), fun h => by cases h⟩
theorem ok_149 (L : Nat) (xs : Nat → Int32) : ∀ q ∈ cd_149, ll_OK1 cX11_init RX11 none true ll_mN ll_mR ll_mK ll_cnt L xs false q.1 q.2 :=
  List.forall_mem_cons.mpr ⟨k_149_0 L xs, List.forall_mem_cons.mpr ⟨k_149_1 L xs, List.forall_mem_cons.mpr ⟨k_149_4 L xs, List.forall_mem_cons.mpr ⟨k_149_5 L xs, List.forall_mem_cons.mpr ⟨k_149_7 L xs, List.forall_mem_cons.mpr ⟨k_149_9 L xs, List.forall_mem_cons.mpr ⟨k_149_12 L xs, List.forall_mem_cons.mpr ⟨k_149_13 L xs, List.forall_mem_cons.mpr ⟨k_149_15 L xs, List.forall_mem_cons.mpr ⟨k_149_17 L xs, List.forall_mem_cons.mpr ⟨k_149_20 L xs, List.forall_mem_cons.mpr ⟨k_149_21 L xs, List.forall_mem_cons.mpr ⟨k_149_22 L xs, List.forall_mem_cons.mpr ⟨k_149_24 L xs, List.forall_mem_cons.mpr ⟨k_149_27 L xs, List.forall_mem_cons.mpr ⟨k_149_28 L xs, List.forall_mem_cons.mpr ⟨k_149_29 L xs, List.forall_mem_cons.mpr ⟨k_149_32 L xs, List.forall_mem_cons.mpr ⟨k_149_33 L xs, List.forall_mem_cons.mpr ⟨k_149_36 L xs, List.forall_mem_cons.mpr ⟨k_149_38 L xs, List.forall_mem_cons.mpr ⟨k_149_41 L xs, List.forall_mem_cons.mpr ⟨k_149_42 L xs, List.forall_mem_cons.mpr ⟨k_149_45 L xs, List.forall_mem_cons.mpr ⟨k_149_47 L xs, List.forall_mem_cons.mpr ⟨k_149_50 L xs, List.forall_mem_cons.mpr ⟨k_149_51 L xs, List.forall_mem_cons.mpr ⟨k_149_54 L xs, List.forall_mem_cons.mpr ⟨k_149_56 L xs, List.forall_mem_cons.mpr ⟨k_149_59 L xs, List.forall_mem_cons.mpr ⟨k_149_60 L xs, List.forall_mem_cons.mpr ⟨k_149_63 L xs, List.forall_mem_cons.mpr ⟨k_149_65 L xs, List.forall_mem_cons.mpr ⟨k_149_68 L xs, List.forall_mem_cons.mpr ⟨k_149_69 L xs, List.forall_mem_cons.mpr ⟨k_149_72 L xs, List.forall_mem_cons.mpr ⟨k_149_74 L xs, List.forall_mem_cons.mpr ⟨k_149_77 L xs, List.forall_mem_cons.mpr ⟨k_149_78 L xs, List.forall_mem_cons.mpr ⟨k_149_81 L xs, List.forall_mem_cons.mpr ⟨k_149_83 L xs, List.forall_mem_cons.mpr ⟨k_149_86 L xs, List.forall_mem_cons.mpr ⟨k_149_87 L xs, List.forall_mem_cons.mpr ⟨k_149_90 L xs, List.forall_mem_cons.mpr ⟨k_149_92 L xs, List.forall_mem_cons.mpr ⟨k_149_95 L xs, List.forall_mem_cons.mpr ⟨k_149_96 L xs, List.forall_mem_cons.mpr ⟨k_149_99 L xs, List.forall_mem_cons.mpr ⟨k_149_101 L xs, List.forall_mem_cons.mpr ⟨k_149_104 L xs, List.forall_mem_cons.mpr ⟨k_149_105 L xs, List.forall_mem_cons.mpr ⟨k_149_108 L xs, List.forall_mem_cons.mpr ⟨k_149_110 L xs, List.forall_mem_cons.mpr ⟨k_149_113 L xs, List.forall_mem_cons.mpr ⟨k_149_114 L xs, List.forall_mem_cons.mpr ⟨k_149_116 L xs, List.forall_mem_cons.mpr ⟨k_149_118 L xs, List.forall_mem_cons.mpr ⟨k_149_121 L xs, List.forall_mem_cons.mpr ⟨k_149_122 L xs, List.forall_mem_cons.mpr ⟨k_149_125 L xs, List.forall_mem_cons.mpr ⟨k_149_127 L xs, List.forall_mem_cons.mpr ⟨k_149_130 L xs, List.forall_mem_cons.mpr ⟨k_149_131 L xs, List.forall_mem_cons.mpr ⟨k_149_134 L xs, List.forall_mem_cons.mpr ⟨k_149_136 L xs, List.forall_mem_cons.mpr ⟨k_149_139 L xs, List.forall_mem_cons.mpr ⟨k_149_140 L xs, List.forall_mem_cons.mpr ⟨k_149_143 L xs, List.forall_mem_cons.mpr ⟨k_149_145 L xs, List.forall_mem_cons.mpr ⟨k_149_148 L xs, List.forall_mem_cons.mpr ⟨k_149_149 L xs, List.forall_mem_cons.mpr ⟨k_149_152 L xs, List.forall_mem_cons.mpr ⟨k_149_154 L xs, List.forall_mem_cons.mpr ⟨k_149_157 L xs, List.forall_mem_cons.mpr ⟨k_149_158 L xs, List.forall_mem_cons.mpr ⟨k_149_160 L xs, List.forall_mem_cons.mpr ⟨k_149_162 L xs, List.forall_mem_cons.mpr ⟨k_149_165 L xs, List.forall_mem_cons.mpr ⟨k_149_166 L xs, List.forall_mem_cons.mpr ⟨k_149_168 L xs, List.forall_mem_cons.mpr ⟨k_149_170 L xs, List.forall_mem_cons.mpr ⟨k_149_173 L xs, List.forall_mem_cons.mpr ⟨k_149_174 L xs, List.forall_mem_cons.mpr ⟨k_149_177 L xs, List.forall_mem_cons.mpr ⟨k_149_179 L xs, List.forall_mem_cons.mpr ⟨k_149_182 L xs, List.forall_mem_cons.mpr ⟨k_149_183 L xs, List.forall_mem_cons.mpr ⟨k_149_186 L xs, List.forall_mem_cons.mpr ⟨k_149_188 L xs, List.forall_mem_cons.mpr ⟨k_149_191 L xs, List.forall_mem_cons.mpr ⟨k_149_192 L xs, List.forall_mem_cons.mpr ⟨k_149_195 L xs, List.forall_mem_cons.mpr ⟨k_149_197 L xs, List.forall_mem_cons.mpr ⟨k_149_200 L xs, List.forall_mem_cons.mpr ⟨k_149_201 L xs, List.forall_mem_cons.mpr ⟨k_149_204 L xs, List.forall_mem_cons.mpr ⟨k_149_206 L xs, List.forall_mem_cons.mpr ⟨k_149_209 L xs, List.forall_mem_cons.mpr ⟨k_149_210 L xs, List.forall_mem_cons.mpr ⟨k_149_212 L xs, List.forall_mem_cons.mpr ⟨k_149_214 L xs, List.forall_mem_cons.mpr ⟨k_149_217 L xs, List.forall_mem_cons.mpr ⟨k_149_218 L xs, List.forall_mem_cons.mpr ⟨k_149_219 L xs, List.forall_mem_cons.mpr ⟨k_149_221 L xs, List.forall_mem_cons.mpr ⟨k_149_224 L xs, List.forall_mem_cons.mpr ⟨k_149_225 L xs, List.forall_mem_cons.mpr ⟨k_149_228 L xs, List.forall_mem_cons.mpr ⟨k_149_230 L xs, List.forall_mem_cons.mpr ⟨k_149_233 L xs, List.forall_mem_cons.mpr ⟨k_149_234 L xs, List.forall_mem_cons.mpr ⟨k_149_237 L xs, List.forall_mem_cons.mpr ⟨k_149_239 L xs, List.forall_mem_cons.mpr ⟨k_149_242 L xs, List.forall_mem_cons.mpr ⟨k_149_243 L xs, List.forall_mem_cons.mpr ⟨k_149_246 L xs, List.forall_mem_cons.mpr ⟨k_149_248 L xs, List.forall_mem_cons.mpr ⟨k_149_251 L xs, List.forall_mem_cons.mpr ⟨k_149_252 L xs, List.forall_mem_cons.mpr ⟨k_149_255 L xs, List.forall_mem_cons.mpr ⟨k_149_257 L xs, List.forall_mem_cons.mpr ⟨k_149_260 L xs, List.forall_mem_cons.mpr ⟨k_149_261 L xs, List.forall_mem_cons.mpr ⟨k_149_264 L xs, List.forall_mem_cons.mpr ⟨k_149_266 L xs, List.forall_mem_cons.mpr ⟨k_149_269 L xs, List.forall_mem_cons.mpr ⟨k_149_270 L xs, List.forall_mem_cons.mpr ⟨k_149_273 L xs, List.forall_mem_cons.mpr ⟨k_149_275 L xs, List.forall_mem_cons.mpr ⟨k_149_278 L xs, List.forall_mem_cons.mpr ⟨k_149_279 L xs, List.forall_mem_cons.mpr ⟨k_149_281 L xs, List.forall_mem_cons.mpr ⟨k_149_283 L xs, List.forall_mem_cons.mpr ⟨k_149_286 L xs, List.forall_mem_cons.mpr ⟨k_149_287 L xs, List.forall_mem_cons.mpr ⟨k_149_288 L xs, List.forall_mem_cons.mpr ⟨k_149_289 L xs, List.forall_mem_cons.mpr ⟨k_149_291 L xs, List.forall_mem_cons.mpr ⟨k_149_294 L xs, List.forall_mem_cons.mpr ⟨k_149_295 L xs, List.forall_mem_cons.mpr ⟨k_149_297 L xs, List.forall_mem_cons.mpr ⟨k_149_298 L xs, List.forall_mem_cons.mpr ⟨k_149_299 L xs, List.forall_mem_cons.mpr ⟨k_149_302 L xs, List.forall_mem_cons.mpr ⟨k_149_305 L xs, List.forall_mem_cons.mpr ⟨k_149_308 L xs, List.forall_mem_cons.mpr ⟨k_149_309 L xs, List.forall_mem_cons.mpr ⟨k_149_312 L xs, List.forall_mem_cons.mpr ⟨k_149_315 L xs, List.forall_mem_cons.mpr ⟨k_149_316 L xs, List.forall_mem_cons.mpr ⟨k_149_317 L xs, fun _ h => absurd h List.not_mem_nil⟩⟩⟩⟩⟩⟩⟩⟩⟩⟩⟩⟩⟩⟩⟩⟩⟩⟩⟩⟩⟩⟩⟩⟩⟩⟩⟩⟩⟩⟩⟩⟩⟩⟩⟩⟩⟩⟩⟩⟩⟩⟩⟩⟩⟩⟩⟩⟩⟩⟩⟩⟩⟩⟩⟩⟩⟩⟩⟩⟩⟩⟩⟩⟩⟩⟩⟩⟩⟩⟩⟩⟩⟩⟩⟩⟩⟩⟩⟩⟩⟩⟩⟩⟩⟩⟩⟩⟩⟩⟩⟩⟩⟩⟩⟩⟩⟩⟩⟩⟩⟩⟩⟩⟩⟩⟩⟩⟩⟩⟩⟩⟩⟩⟩⟩⟩⟩⟩⟩⟩⟩⟩⟩⟩⟩⟩⟩⟩⟩⟩⟩⟩⟩⟩⟩⟩⟩⟩⟩⟩⟩⟩⟩⟩⟩⟩⟩⟩⟩⟩⟩
/-- InclusionProverModel.zeroes.(I)V -/
def cd_150 : List (Nat × ll_O) := [
  (0, .inl (lo_aload 1 0)),
  (1, .inl (lo_getf 4 11 0)),
  (4, .inl (lo_iload 5 1)),
  (5, .inl (lo_push 6 (.int 1))),
  (6, .inl (lo_ast 7 0)),
  (7, .inl (lo_aload 8 0)),
  (8, .inl (lo_getf 11 11 0)),
  (11, .inl (lo_iload 12 1)),
  (12, .inl (lo_push 13 (.int 1))),
  (13, .inl (lo_bin 14 (fun x y => x + y))),
  (14, .inl (lo_push 16 (.int 48))),
  (16, .inl (lo_ast 17 0)),
  (17, .inr (.inr 0))]
theorem k_150_0 (L : Nat) (xs : Nat → Int32) : ll_OK1 cX11_zeroes RX11 none false ll_mN ll_mR ll_mK ll_cnt L xs false 0 (.inl (lo_aload 1 0)) := lk_aload_n (k := 0) (by decide +kernel) rfl
theorem k_150_1 (L : Nat) (xs : Nat → Int32) : ll_OK1 cX11_zeroes RX11 none false ll_mN ll_mR ll_mK ll_cnt L xs false 1 (.inl (lo_getf 4 11 0)) := lk_getf (ix := 8) (ci := 11) (k := 0) (C := RX11) (T := TX11) (N := 46) (by decide +kernel) rfl in_11 (by decide) tb_606
theorem k_150_4 (L : Nat) (xs : Nat → Int32) : ll_OK1 cX11_zeroes RX11 none false ll_mN ll_mR ll_mK ll_cnt L xs false 4 (.inl (lo_iload 5 1)) := lk_iload_n (k := 1) (by decide +kernel) rfl
theorem k_150_5 (L : Nat) (xs : Nat → Int32) : ll_OK1 cX11_zeroes RX11 none false ll_mN ll_mR ll_mK ll_cnt L xs false 5 (.inl (lo_push 6 (.int 1))) := lk_iconst (n := 1) (by decide +kernel) (by decide)
theorem k_150_6 (L : Nat) (xs : Nat → Int32) : ll_OK1 cX11_zeroes RX11 none false ll_mN ll_mR ll_mK ll_cnt L xs false 6 (.inl (lo_ast 7 0)) := lk_iast (by decide +kernel)
theorem k_150_7 (L : Nat) (xs : Nat → Int32) : ll_OK1 cX11_zeroes RX11 none false ll_mN ll_mR ll_mK ll_cnt L xs false 7 (.inl (lo_aload 8 0)) := lk_aload_n (k := 0) (by decide +kernel) rfl
theorem k_150_8 (L : Nat) (xs : Nat → Int32) : ll_OK1 cX11_zeroes RX11 none false ll_mN ll_mR ll_mK ll_cnt L xs false 8 (.inl (lo_getf 11 11 0)) := lk_getf (ix := 8) (ci := 11) (k := 0) (C := RX11) (T := TX11) (N := 46) (by decide +kernel) rfl in_11 (by decide) tb_606
theorem k_150_11 (L : Nat) (xs : Nat → Int32) : ll_OK1 cX11_zeroes RX11 none false ll_mN ll_mR ll_mK ll_cnt L xs false 11 (.inl (lo_iload 12 1)) := lk_iload_n (k := 1) (by decide +kernel) rfl
theorem k_150_12 (L : Nat) (xs : Nat → Int32) : ll_OK1 cX11_zeroes RX11 none false ll_mN ll_mR ll_mK ll_cnt L xs false 12 (.inl (lo_push 13 (.int 1))) := lk_iconst (n := 1) (by decide +kernel) (by decide)
theorem k_150_13 (L : Nat) (xs : Nat → Int32) : ll_OK1 cX11_zeroes RX11 none false ll_mN ll_mR ll_mK ll_cnt L xs false 13 (.inl (lo_bin 14 (fun x y => x + y))) := lk_iadd (by decide +kernel)
theorem k_150_14 (L : Nat) (xs : Nat → Int32) : ll_OK1 cX11_zeroes RX11 none false ll_mN ll_mR ll_mK ll_cnt L xs false 14 (.inl (lo_push 16 (.int 48))) := lk_bipush (n := 48) (by decide +kernel) (by decide)
theorem k_150_16 (L : Nat) (xs : Nat → Int32) : ll_OK1 cX11_zeroes RX11 none false ll_mN ll_mR ll_mK ll_cnt L xs false 16 (.inl (lo_ast 17 0)) := lk_iast (by decide +kernel)
theorem k_150_17 (L : Nat) (xs : Nat → Int32) : ll_OK1 cX11_zeroes RX11 none false ll_mN ll_mR ll_mK ll_cnt L xs false 17 (.inr (.inr 0)) := ⟨fun _ => ⟨(by decide +kernel), rfl⟩, (fun h => by cases h), fun h => by cases h⟩
theorem ok_150 (L : Nat) (xs : Nat → Int32) : ∀ q ∈ cd_150, ll_OK1 cX11_zeroes RX11 none false ll_mN ll_mR ll_mK ll_cnt L xs false q.1 q.2 :=
  List.forall_mem_cons.mpr ⟨k_150_0 L xs, List.forall_mem_cons.mpr ⟨k_150_1 L xs, List.forall_mem_cons.mpr ⟨k_150_4 L xs, List.forall_mem_cons.mpr ⟨k_150_5 L xs, List.forall_mem_cons.mpr ⟨k_150_6 L xs, List.forall_mem_cons.mpr ⟨k_150_7 L xs, List.forall_mem_cons.mpr ⟨k_150_8 L xs, List.forall_mem_cons.mpr ⟨k_150_11 L xs, List.forall_mem_cons.mpr ⟨k_150_12 L xs, List.forall_mem_cons.mpr ⟨k_150_13 L xs, List.forall_mem_cons.mpr ⟨k_150_14 L xs, List.forall_mem_cons.mpr ⟨k_150_16 L xs, List.forall_mem_cons.mpr ⟨k_150_17 L xs, fun _ h => absurd h List.not_mem_nil⟩⟩⟩⟩⟩⟩⟩⟩⟩⟩⟩⟩⟩
/-- InclusionProverModel.isIn.(III)Z -/
def cd_151 : List (Nat × ll_O) := [
  (0, .inl (lo_iload 1 0)),
  (1, .inl (lo_iload 2 1)),
  (2, .inl (lo_cmp 14 5 (fun x y => decide (x < y)))),
  (5, .inl (lo_iload 6 0)),
  (6, .inl (lo_iload 7 2)),
  (7, .inl (lo_cmp 14 10 (fun x y => decide (y < x)))),
  (10, .inl (lo_push 11 (.int 1))),
  (11, .inl (lo_goto 15)),
  (14, .inl (lo_push 15 (.int 0))),
  (15, .inr (.inr 2))]
theorem k_151_0 (L : Nat) (xs : Nat → Int32) : ll_OK1 cX11_isIn RX11 (some .boolean) false ll_mN ll_mR ll_mK ll_cnt L xs false 0 (.inl (lo_iload 1 0)) := lk_iload_n (k := 0) (by decide +kernel) rfl
theorem k_151_1 (L : Nat) (xs : Nat → Int32) : ll_OK1 cX11_isIn RX11 (some .boolean) false ll_mN ll_mR ll_mK ll_cnt L xs false 1 (.inl (lo_iload 2 1)) := lk_iload_n (k := 1) (by decide +kernel) rfl
theorem k_151_2 (L : Nat) (xs : Nat → Int32) : ll_OK1 cX11_isIn RX11 (some .boolean) false ll_mN ll_mR ll_mK ll_cnt L xs false 2 (.inl (lo_cmp 14 5 (fun x y => decide (x < y)))) := lk_icmp_lt (off := 12) (by decide +kernel) rfl
theorem k_151_5 (L : Nat) (xs : Nat → Int32) : ll_OK1 cX11_isIn RX11 (some .boolean) false ll_mN ll_mR ll_mK ll_cnt L xs false 5 (.inl (lo_iload 6 0)) := lk_iload_n (k := 0) (by decide +kernel) rfl
theorem k_151_6 (L : Nat) (xs : Nat → Int32) : ll_OK1 cX11_isIn RX11 (some .boolean) false ll_mN ll_mR ll_mK ll_cnt L xs false 6 (.inl (lo_iload 7 2)) := lk_iload_n (k := 2) (by decide +kernel) rfl
theorem k_151_7 (L : Nat) (xs : Nat → Int32) : ll_OK1 cX11_isIn RX11 (some .boolean) false ll_mN ll_mR ll_mK ll_cnt L xs false 7 (.inl (lo_cmp 14 10 (fun x y => decide (y < x)))) := lk_icmp_gt (off := 7) (by decide +kernel) rfl
theorem k_151_10 (L : Nat) (xs : Nat → Int32) : ll_OK1 cX11_isIn RX11 (some .boolean) false ll_mN ll_mR ll_mK ll_cnt L xs false 10 (.inl (lo_push 11 (.int 1))) := lk_iconst (n := 1) (by decide +kernel) (by decide)
theorem k_151_11 (L : Nat) (xs : Nat → Int32) : ll_OK1 cX11_isIn RX11 (some .boolean) false ll_mN ll_mR ll_mK ll_cnt L xs false 11 (.inl (lo_goto 15)) := lk_goto (off := 4) (by decide +kernel) rfl
theorem k_151_14 (L : Nat) (xs : Nat → Int32) : ll_OK1 cX11_isIn RX11 (some .boolean) false ll_mN ll_mR ll_mK ll_cnt L xs false 14 (.inl (lo_push 15 (.int 0))) := lk_iconst (n := 0) (by decide +kernel) (by decide)
theorem k_151_15 (L : Nat) (xs : Nat → Int32) : ll_OK1 cX11_isIn RX11 (some .boolean) false ll_mN ll_mR ll_mK ll_cnt L xs false 15 (.inr (.inr 2)) := ⟨(fun h => by cases h), (fun h => by cases h), fun _ => ⟨(by decide +kernel), rfl⟩⟩
theorem ok_151 (L : Nat) (xs : Nat → Int32) : ∀ q ∈ cd_151, ll_OK1 cX11_isIn RX11 (some .boolean) false ll_mN ll_mR ll_mK ll_cnt L xs false q.1 q.2 :=
  List.forall_mem_cons.mpr ⟨k_151_0 L xs, List.forall_mem_cons.mpr ⟨k_151_1 L xs, List.forall_mem_cons.mpr ⟨k_151_2 L xs, List.forall_mem_cons.mpr ⟨k_151_5 L xs, List.forall_mem_cons.mpr ⟨k_151_6 L xs, List.forall_mem_cons.mpr ⟨k_151_7 L xs, List.forall_mem_cons.mpr ⟨k_151_10 L xs, List.forall_mem_cons.mpr ⟨k_151_11 L xs, List.forall_mem_cons.mpr ⟨k_151_14 L xs, List.forall_mem_cons.mpr ⟨k_151_15 L xs, fun _ h => absurd h List.not_mem_nil⟩⟩⟩⟩⟩⟩⟩⟩⟩⟩
/-- InclusionProverModel.copies.(III)V -/
def cd_152 : List (Nat × ll_O) := [
  (0, .inl (lo_push 1 (.int 0))),
  (1, .inl (lo_istore 3 4)),
  (3, .inl (lo_iload 5 4)),
  (5, .inl (lo_iload 6 3)),
  (6, .inl (lo_cmp 33 9 (fun x y => decide (y ≤ x)))),
  (9, .inl (lo_aload 10 0)),
  (10, .inl (lo_getf 13 11 0)),
  (13, .inl (lo_iload 14 2)),
  (14, .inl (lo_iload 16 4)),
  (16, .inl (lo_bin 17 (fun x y => x + y))),
  (17, .inl (lo_aload 18 0)),
  (18, .inl (lo_getf 21 11 0)),
  (21, .inl (lo_iload 22 1)),
  (22, .inl (lo_iload 24 4)),
  (24, .inl (lo_bin 25 (fun x y => x + y))),
  (25, .inl (lo_ald 26 0)),
  (26, .inl (lo_ast 27 0)),
  (27, .inl (lo_iinc 30 4 1)),
  (30, .inl (lo_goto 3)),
  (33, .inr (.inr 0))]
theorem k_152_0 (L : Nat) (xs : Nat → Int32) : ll_OK1 cX11_copies RX11 none false ll_mN ll_mR ll_mK ll_cnt L xs false 0 (.inl (lo_push 1 (.int 0))) := lk_iconst (n := 0) (by decide +kernel) (by decide)
theorem k_152_1 (L : Nat) (xs : Nat → Int32) : ll_OK1 cX11_copies RX11 none false ll_mN ll_mR ll_mK ll_cnt L xs false 1 (.inl (lo_istore 3 4)) := lk_istore (by decide +kernel)
theorem k_152_3 (L : Nat) (xs : Nat → Int32) : ll_OK1 cX11_copies RX11 none false ll_mN ll_mR ll_mK ll_cnt L xs false 3 (.inl (lo_iload 5 4)) := lk_iload (by decide +kernel)
theorem k_152_5 (L : Nat) (xs : Nat → Int32) : ll_OK1 cX11_copies RX11 none false ll_mN ll_mR ll_mK ll_cnt L xs false 5 (.inl (lo_iload 6 3)) := lk_iload_n (k := 3) (by decide +kernel) rfl
theorem k_152_6 (L : Nat) (xs : Nat → Int32) : ll_OK1 cX11_copies RX11 none false ll_mN ll_mR ll_mK ll_cnt L xs false 6 (.inl (lo_cmp 33 9 (fun x y => decide (y ≤ x)))) := lk_icmp_ge (off := 27) (by decide +kernel) rfl
theorem k_152_9 (L : Nat) (xs : Nat → Int32) : ll_OK1 cX11_copies RX11 none false ll_mN ll_mR ll_mK ll_cnt L xs false 9 (.inl (lo_aload 10 0)) := lk_aload_n (k := 0) (by decide +kernel) rfl
theorem k_152_10 (L : Nat) (xs : Nat → Int32) : ll_OK1 cX11_copies RX11 none false ll_mN ll_mR ll_mK ll_cnt L xs false 10 (.inl (lo_getf 13 11 0)) := lk_getf (ix := 8) (ci := 11) (k := 0) (C := RX11) (T := TX11) (N := 46) (by decide +kernel) rfl in_11 (by decide) tb_606
theorem k_152_13 (L : Nat) (xs : Nat → Int32) : ll_OK1 cX11_copies RX11 none false ll_mN ll_mR ll_mK ll_cnt L xs false 13 (.inl (lo_iload 14 2)) := lk_iload_n (k := 2) (by decide +kernel) rfl
theorem k_152_14 (L : Nat) (xs : Nat → Int32) : ll_OK1 cX11_copies RX11 none false ll_mN ll_mR ll_mK ll_cnt L xs false 14 (.inl (lo_iload 16 4)) := lk_iload (by decide +kernel)
theorem k_152_16 (L : Nat) (xs : Nat → Int32) : ll_OK1 cX11_copies RX11 none false ll_mN ll_mR ll_mK ll_cnt L xs false 16 (.inl (lo_bin 17 (fun x y => x + y))) := lk_iadd (by decide +kernel)
theorem k_152_17 (L : Nat) (xs : Nat → Int32) : ll_OK1 cX11_copies RX11 none false ll_mN ll_mR ll_mK ll_cnt L xs false 17 (.inl (lo_aload 18 0)) := lk_aload_n (k := 0) (by decide +kernel) rfl
theorem k_152_18 (L : Nat) (xs : Nat → Int32) : ll_OK1 cX11_copies RX11 none false ll_mN ll_mR ll_mK ll_cnt L xs false 18 (.inl (lo_getf 21 11 0)) := lk_getf (ix := 8) (ci := 11) (k := 0) (C := RX11) (T := TX11) (N := 46) (by decide +kernel) rfl in_11 (by decide) tb_606
theorem k_152_21 (L : Nat) (xs : Nat → Int32) : ll_OK1 cX11_copies RX11 none false ll_mN ll_mR ll_mK ll_cnt L xs false 21 (.inl (lo_iload 22 1)) := lk_iload_n (k := 1) (by decide +kernel) rfl
theorem k_152_22 (L : Nat) (xs : Nat → Int32) : ll_OK1 cX11_copies RX11 none false ll_mN ll_mR ll_mK ll_cnt L xs false 22 (.inl (lo_iload 24 4)) := lk_iload (by decide +kernel)
theorem k_152_24 (L : Nat) (xs : Nat → Int32) : ll_OK1 cX11_copies RX11 none false ll_mN ll_mR ll_mK ll_cnt L xs false 24 (.inl (lo_bin 25 (fun x y => x + y))) := lk_iadd (by decide +kernel)
theorem k_152_25 (L : Nat) (xs : Nat → Int32) : ll_OK1 cX11_copies RX11 none false ll_mN ll_mR ll_mK ll_cnt L xs false 25 (.inl (lo_ald 26 0)) := lk_iald (by decide +kernel)
theorem k_152_26 (L : Nat) (xs : Nat → Int32) : ll_OK1 cX11_copies RX11 none false ll_mN ll_mR ll_mK ll_cnt L xs false 26 (.inl (lo_ast 27 0)) := lk_iast (by decide +kernel)
theorem k_152_27 (L : Nat) (xs : Nat → Int32) : ll_OK1 cX11_copies RX11 none false ll_mN ll_mR ll_mK ll_cnt L xs false 27 (.inl (lo_iinc 30 4 1)) := lk_iinc (n := 1) (by decide +kernel) (by decide)
theorem k_152_30 (L : Nat) (xs : Nat → Int32) : ll_OK1 cX11_copies RX11 none false ll_mN ll_mR ll_mK ll_cnt L xs false 30 (.inl (lo_goto 3)) := lk_goto (off := (-27)) (by decide +kernel) rfl
theorem k_152_33 (L : Nat) (xs : Nat → Int32) : ll_OK1 cX11_copies RX11 none false ll_mN ll_mR ll_mK ll_cnt L xs false 33 (.inr (.inr 0)) := ⟨fun _ => ⟨(by decide +kernel), rfl⟩, (fun h => by cases h), fun h => by cases h⟩
theorem ok_152 (L : Nat) (xs : Nat → Int32) : ∀ q ∈ cd_152, ll_OK1 cX11_copies RX11 none false ll_mN ll_mR ll_mK ll_cnt L xs false q.1 q.2 :=
  List.forall_mem_cons.mpr ⟨k_152_0 L xs, List.forall_mem_cons.mpr ⟨k_152_1 L xs, List.forall_mem_cons.mpr ⟨k_152_3 L xs, List.forall_mem_cons.mpr ⟨k_152_5 L xs, List.forall_mem_cons.mpr ⟨k_152_6 L xs, List.forall_mem_cons.mpr ⟨k_152_9 L xs, List.forall_mem_cons.mpr ⟨k_152_10 L xs, List.forall_mem_cons.mpr ⟨k_152_13 L xs, List.forall_mem_cons.mpr ⟨k_152_14 L xs, List.forall_mem_cons.mpr ⟨k_152_16 L xs, List.forall_mem_cons.mpr ⟨k_152_17 L xs, List.forall_mem_cons.mpr ⟨k_152_18 L xs, List.forall_mem_cons.mpr ⟨k_152_21 L xs, List.forall_mem_cons.mpr ⟨k_152_22 L xs, List.forall_mem_cons.mpr ⟨k_152_24 L xs, List.forall_mem_cons.mpr ⟨k_152_25 L xs, List.forall_mem_cons.mpr ⟨k_152_26 L xs, List.forall_mem_cons.mpr ⟨k_152_27 L xs, List.forall_mem_cons.mpr ⟨k_152_30 L xs, List.forall_mem_cons.mpr ⟨k_152_33 L xs, fun _ h => absurd h List.not_mem_nil⟩⟩⟩⟩⟩⟩⟩⟩⟩⟩⟩⟩⟩⟩⟩⟩⟩⟩⟩⟩
/-- InclusionProverModel.clears.()V -/
def cd_153 : List (Nat × ll_O) := [
  (0, .inl (lo_aload 1 0)),
  (1, .inl (lo_push 2 (.int 0))),
  (2, .inl (lo_putf 5 11 12 0)),
  (5, .inl (lo_aload 6 0)),
  (6, .inl (lo_push 7 (.int 0))),
  (7, .inl (lo_putf 10 11 13 0)),
  (10, .inl (lo_aload 11 0)),
  (11, .inl (lo_push 12 (.int 0))),
  (12, .inl (lo_putf 15 11 17 0)),
  (15, .inl (lo_aload 16 0)),
  (16, .inl (lo_push 17 (.int 0))),
  (17, .inl (lo_push 18 (.int 0))),
  (18, .inr (.inl (154, 3, 21))),
  (21, .inl (lo_pop 22)),
  (22, .inl (lo_aload 23 0)),
  (23, .inl (lo_push 24 (.int 1))),
  (24, .inl (lo_push 25 (.int 0))),
  (25, .inr (.inl (154, 3, 28))),
  (28, .inl (lo_pop 29)),
  (29, .inl (lo_push 30 (.int 0))),
  (30, .inl (lo_istore 31 1)),
  (31, .inl (lo_iload 32 1)),
  (32, .inl (lo_push 33 (.int 3))),
  (33, .inl (lo_cmp 56 36 (fun x y => decide (y ≤ x)))),
  (36, .inl (lo_aload 37 0)),
  (37, .inl (lo_getf 40 11 18)),
  (40, .inl (lo_push 41 (.int 0))),
  (41, .inl (lo_iload 42 1)),
  (42, .inl (lo_ast 43 0)),
  (43, .inl (lo_aload 44 0)),
  (44, .inl (lo_push 45 (.int 2))),
  (45, .inl (lo_push 46 (.int 1))),
  (46, .inr (.inl (154, 3, 49))),
  (49, .inl (lo_pop 50)),
  (50, .inl (lo_iinc 53 1 1)),
  (53, .inl (lo_goto 31)),
  (56, .inr (.inr 0))]
theorem k_153_0 (L : Nat) (xs : Nat → Int32) : ll_OK1 cX11_clears RX11 none false ll_mN ll_mR ll_mK ll_cnt L xs false 0 (.inl (lo_aload 1 0)) := lk_aload_n (k := 0) (by decide +kernel) rfl
theorem k_153_1 (L : Nat) (xs : Nat → Int32) : ll_OK1 cX11_clears RX11 none false ll_mN ll_mR ll_mK ll_cnt L xs false 1 (.inl (lo_push 2 (.int 0))) := lk_iconst (n := 0) (by decide +kernel) (by decide)
theorem k_153_2 (L : Nat) (xs : Nat → Int32) : ll_OK1 cX11_clears RX11 none false ll_mN ll_mR ll_mK ll_cnt L xs false 2 (.inl (lo_putf 5 11 12 0)) := lk_putf (ix := 117) (ci := 11) (k := 12) (C := RX11) (T := TX11) (N := 46) (ty0 := tyX11) (by decide +kernel) rfl in_11 tyX11_ok nmX11 (by decide) tb_643 (fun B adr v w h1 h2 => ll_fit_int (B := B) (adr := adr) h1 h2) (Or.inl rfl)
theorem k_153_5 (L : Nat) (xs : Nat → Int32) : ll_OK1 cX11_clears RX11 none false ll_mN ll_mR ll_mK ll_cnt L xs false 5 (.inl (lo_aload 6 0)) := lk_aload_n (k := 0) (by decide +kernel) rfl
theorem k_153_6 (L : Nat) (xs : Nat → Int32) : ll_OK1 cX11_clears RX11 none false ll_mN ll_mR ll_mK ll_cnt L xs false 6 (.inl (lo_push 7 (.int 0))) := lk_iconst (n := 0) (by decide +kernel) (by decide)
theorem k_153_7 (L : Nat) (xs : Nat → Int32) : ll_OK1 cX11_clears RX11 none false ll_mN ll_mR ll_mK ll_cnt L xs false 7 (.inl (lo_putf 10 11 13 0)) := lk_putf (ix := 120) (ci := 11) (k := 13) (C := RX11) (T := TX11) (N := 46) (ty0 := tyX11) (by decide +kernel) rfl in_11 tyX11_ok nmX11 (by decide) tb_644 (fun B adr v w h1 h2 => ll_fit_int (B := B) (adr := adr) h1 h2) (Or.inl rfl)
theorem k_153_10 (L : Nat) (xs : Nat → Int32) : ll_OK1 cX11_clears RX11 none false ll_mN ll_mR ll_mK ll_cnt L xs false 10 (.inl (lo_aload 11 0)) := lk_aload_n (k := 0) (by decide +kernel) rfl
theorem k_153_11 (L : Nat) (xs : Nat → Int32) : ll_OK1 cX11_clears RX11 none false ll_mN ll_mR ll_mK ll_cnt L xs false 11 (.inl (lo_push 12 (.int 0))) := lk_iconst (n := 0) (by decide +kernel) (by decide)
theorem k_153_12 (L : Nat) (xs : Nat → Int32) : ll_OK1 cX11_clears RX11 none false ll_mN ll_mR ll_mK ll_cnt L xs false 12 (.inl (lo_putf 15 11 17 0)) := lk_putf (ix := 123) (ci := 11) (k := 17) (C := RX11) (T := TX11) (N := 46) (ty0 := tyX11) (by decide +kernel) rfl in_11 tyX11_ok nmX11 (by decide) tb_645 (fun B adr v w h1 h2 => ll_fit_int (B := B) (adr := adr) h1 h2) (Or.inl rfl)
theorem k_153_15 (L : Nat) (xs : Nat → Int32) : ll_OK1 cX11_clears RX11 none false ll_mN ll_mR ll_mK ll_cnt L xs false 15 (.inl (lo_aload 16 0)) := lk_aload_n (k := 0) (by decide +kernel) rfl
theorem k_153_16 (L : Nat) (xs : Nat → Int32) : ll_OK1 cX11_clears RX11 none false ll_mN ll_mR ll_mK ll_cnt L xs false 16 (.inl (lo_push 17 (.int 0))) := lk_iconst (n := 0) (by decide +kernel) (by decide)
theorem k_153_17 (L : Nat) (xs : Nat → Int32) : ll_OK1 cX11_clears RX11 none false ll_mN ll_mR ll_mK ll_cnt L xs false 17 (.inl (lo_push 18 (.int 0))) := lk_iconst (n := 0) (by decide +kernel) (by decide)
theorem k_153_18 (L : Nat) (xs : Nat → Int32) : ll_OK1 cX11_clears RX11 none false ll_mN ll_mR ll_mK ll_cnt L xs false 18 (.inr (.inl (154, 3, 21))) := ⟨rfl, by decide, by rw [mN_154, mK_154, mR_154]; exact lj_v 126 2 11 (RX11, TX11, 46) (by decide +kernel) tb_646 tb_647 tb_648 rfl rfl rfl rfl (by decide +kernel)⟩
theorem k_153_21 (L : Nat) (xs : Nat → Int32) : ll_OK1 cX11_clears RX11 none false ll_mN ll_mR ll_mK ll_cnt L xs false 21 (.inl (lo_pop 22)) := lk_pop (by decide +kernel)
theorem k_153_22 (L : Nat) (xs : Nat → Int32) : ll_OK1 cX11_clears RX11 none false ll_mN ll_mR ll_mK ll_cnt L xs false 22 (.inl (lo_aload 23 0)) := lk_aload_n (k := 0) (by decide +kernel) rfl
theorem k_153_23 (L : Nat) (xs : Nat → Int32) : ll_OK1 cX11_clears RX11 none false ll_mN ll_mR ll_mK ll_cnt L xs false 23 (.inl (lo_push 24 (.int 1))) := lk_iconst (n := 1) (by decide +kernel) (by decide)
theorem k_153_24 (L : Nat) (xs : Nat → Int32) : ll_OK1 cX11_clears RX11 none false ll_mN ll_mR ll_mK ll_cnt L xs false 24 (.inl (lo_push 25 (.int 0))) := lk_iconst (n := 0) (by decide +kernel) (by decide)
theorem k_153_25 (L : Nat) (xs : Nat → Int32) : ll_OK1 cX11_clears RX11 none false ll_mN ll_mR ll_mK ll_cnt L xs false 25 (.inr (.inl (154, 3, 28))) := ⟨rfl, by decide, by rw [mN_154, mK_154, mR_154]; exact lj_v 126 2 11 (RX11, TX11, 46) (by decide +kernel) tb_646 tb_647 tb_648 rfl rfl rfl rfl (by decide +kernel)⟩
theorem k_153_28 (L : Nat) (xs : Nat → Int32) : ll_OK1 cX11_clears RX11 none false ll_mN ll_mR ll_mK ll_cnt L xs false 28 (.inl (lo_pop 29)) := lk_pop (by decide +kernel)
theorem k_153_29 (L : Nat) (xs : Nat → Int32) : ll_OK1 cX11_clears RX11 none false ll_mN ll_mR ll_mK ll_cnt L xs false 29 (.inl (lo_push 30 (.int 0))) := lk_iconst (n := 0) (by decide +kernel) (by decide)
theorem k_153_30 (L : Nat) (xs : Nat → Int32) : ll_OK1 cX11_clears RX11 none false ll_mN ll_mR ll_mK ll_cnt L xs false 30 (.inl (lo_istore 31 1)) := lk_istore_n (k := 1) (by decide +kernel) rfl
theorem k_153_31 (L : Nat) (xs : Nat → Int32) : ll_OK1 cX11_clears RX11 none false ll_mN ll_mR ll_mK ll_cnt L xs false 31 (.inl (lo_iload 32 1)) := lk_iload_n (k := 1) (by decide +kernel) rfl
theorem k_153_32 (L : Nat) (xs : Nat → Int32) : ll_OK1 cX11_clears RX11 none false ll_mN ll_mR ll_mK ll_cnt L xs false 32 (.inl (lo_push 33 (.int 3))) := lk_iconst (n := 3) (by decide +kernel) (by decide)
theorem k_153_33 (L : Nat) (xs : Nat → Int32) : ll_OK1 cX11_clears RX11 none false ll_mN ll_mR ll_mK ll_cnt L xs false 33 (.inl (lo_cmp 56 36 (fun x y => decide (y ≤ x)))) := lk_icmp_ge (off := 23) (by decide +kernel) rfl
theorem k_153_36 (L : Nat) (xs : Nat → Int32) : ll_OK1 cX11_clears RX11 none false ll_mN ll_mR ll_mK ll_cnt L xs false 36 (.inl (lo_aload 37 0)) := lk_aload_n (k := 0) (by decide +kernel) rfl
theorem k_153_37 (L : Nat) (xs : Nat → Int32) : ll_OK1 cX11_clears RX11 none false ll_mN ll_mR ll_mK ll_cnt L xs false 37 (.inl (lo_getf 40 11 18)) := lk_getf (ix := 56) (ci := 11) (k := 18) (C := RX11) (T := TX11) (N := 46) (by decide +kernel) rfl in_11 (by decide) tb_621
theorem k_153_40 (L : Nat) (xs : Nat → Int32) : ll_OK1 cX11_clears RX11 none false ll_mN ll_mR ll_mK ll_cnt L xs false 40 (.inl (lo_push 41 (.int 0))) := lk_iconst (n := 0) (by decide +kernel) (by decide)
theorem k_153_41 (L : Nat) (xs : Nat → Int32) : ll_OK1 cX11_clears RX11 none false ll_mN ll_mR ll_mK ll_cnt L xs false 41 (.inl (lo_iload 42 1)) := lk_iload_n (k := 1) (by decide +kernel) rfl
theorem k_153_42 (L : Nat) (xs : Nat → Int32) : ll_OK1 cX11_clears RX11 none false ll_mN ll_mR ll_mK ll_cnt L xs false 42 (.inl (lo_ast 43 0)) := lk_iast (by decide +kernel)
theorem k_153_43 (L : Nat) (xs : Nat → Int32) : ll_OK1 cX11_clears RX11 none false ll_mN ll_mR ll_mK ll_cnt L xs false 43 (.inl (lo_aload 44 0)) := lk_aload_n (k := 0) (by decide +kernel) rfl
theorem k_153_44 (L : Nat) (xs : Nat → Int32) : ll_OK1 cX11_clears RX11 none false ll_mN ll_mR ll_mK ll_cnt L xs false 44 (.inl (lo_push 45 (.int 2))) := lk_iconst (n := 2) (by decide +kernel) (by decide)
theorem k_153_45 (L : Nat) (xs : Nat → Int32) : ll_OK1 cX11_clears RX11 none false ll_mN ll_mR ll_mK ll_cnt L xs false 45 (.inl (lo_push 46 (.int 1))) := lk_iconst (n := 1) (by decide +kernel) (by decide)
theorem k_153_46 (L : Nat) (xs : Nat → Int32) : ll_OK1 cX11_clears RX11 none false ll_mN ll_mR ll_mK ll_cnt L xs false 46 (.inr (.inl (154, 3, 49))) := ⟨rfl, by decide, by rw [mN_154, mK_154, mR_154]; exact lj_v 126 2 11 (RX11, TX11, 46) (by decide +kernel) tb_646 tb_647 tb_648 rfl rfl rfl rfl (by decide +kernel)⟩
theorem k_153_49 (L : Nat) (xs : Nat → Int32) : ll_OK1 cX11_clears RX11 none false ll_mN ll_mR ll_mK ll_cnt L xs false 49 (.inl (lo_pop 50)) := lk_pop (by decide +kernel)
theorem k_153_50 (L : Nat) (xs : Nat → Int32) : ll_OK1 cX11_clears RX11 none false ll_mN ll_mR ll_mK ll_cnt L xs false 50 (.inl (lo_iinc 53 1 1)) := lk_iinc (n := 1) (by decide +kernel) (by decide)
theorem k_153_53 (L : Nat) (xs : Nat → Int32) : ll_OK1 cX11_clears RX11 none false ll_mN ll_mR ll_mK ll_cnt L xs false 53 (.inl (lo_goto 31)) := lk_goto (off := (-22)) (by decide +kernel) rfl
theorem k_153_56 (L : Nat) (xs : Nat → Int32) : ll_OK1 cX11_clears RX11 none false ll_mN ll_mR ll_mK ll_cnt L xs false 56 (.inr (.inr 0)) := ⟨fun _ => ⟨(by decide +kernel), rfl⟩, (fun h => by cases h), fun h => by cases h⟩
theorem ok_153 (L : Nat) (xs : Nat → Int32) : ∀ q ∈ cd_153, ll_OK1 cX11_clears RX11 none false ll_mN ll_mR ll_mK ll_cnt L xs false q.1 q.2 :=
  List.forall_mem_cons.mpr ⟨k_153_0 L xs, List.forall_mem_cons.mpr ⟨k_153_1 L xs, List.forall_mem_cons.mpr ⟨k_153_2 L xs, List.forall_mem_cons.mpr ⟨k_153_5 L xs, List.forall_mem_cons.mpr ⟨k_153_6 L xs, List.forall_mem_cons.mpr ⟨k_153_7 L xs, List.forall_mem_cons.mpr ⟨k_153_10 L xs, List.forall_mem_cons.mpr ⟨k_153_11 L xs, List.forall_mem_cons.mpr ⟨k_153_12 L xs, List.forall_mem_cons.mpr ⟨k_153_15 L xs, List.forall_mem_cons.mpr ⟨k_153_16 L xs, List.forall_mem_cons.mpr ⟨k_153_17 L xs, List.forall_mem_cons.mpr ⟨k_153_18 L xs, List.forall_mem_cons.mpr ⟨k_153_21 L xs, List.forall_mem_cons.mpr ⟨k_153_22 L xs, List.forall_mem_cons.mpr ⟨k_153_23 L xs, List.forall_mem_cons.mpr ⟨k_153_24 L xs, List.forall_mem_cons.mpr ⟨k_153_25 L xs, List.forall_mem_cons.mpr ⟨k_153_28 L xs, List.forall_mem_cons.mpr ⟨k_153_29 L xs, List.forall_mem_cons.mpr ⟨k_153_30 L xs, List.forall_mem_cons.mpr ⟨k_153_31 L xs, List.forall_mem_cons.mpr ⟨k_153_32 L xs, List.forall_mem_cons.mpr ⟨k_153_33 L xs, List.forall_mem_cons.mpr ⟨k_153_36 L xs, List.forall_mem_cons.mpr ⟨k_153_37 L xs, List.forall_mem_cons.mpr ⟨k_153_40 L xs, List.forall_mem_cons.mpr ⟨k_153_41 L xs, List.forall_mem_cons.mpr ⟨k_153_42 L xs, List.forall_mem_cons.mpr ⟨k_153_43 L xs, List.forall_mem_cons.mpr ⟨k_153_44 L xs, List.forall_mem_cons.mpr ⟨k_153_45 L xs, List.forall_mem_cons.mpr ⟨k_153_46 L xs, List.forall_mem_cons.mpr ⟨k_153_49 L xs, List.forall_mem_cons.mpr ⟨k_153_50 L xs, List.forall_mem_cons.mpr ⟨k_153_53 L xs, List.forall_mem_cons.mpr ⟨k_153_56 L xs, fun _ h => absurd h List.not_mem_nil⟩⟩⟩⟩⟩⟩⟩⟩⟩⟩⟩⟩⟩⟩⟩⟩⟩⟩⟩⟩⟩⟩⟩⟩⟩⟩⟩⟩⟩⟩⟩⟩⟩⟩⟩⟩⟩
/-- InclusionProverModel.addsNode.(II)I -/
def cd_154 : List (Nat × ll_O) := [
  (0, .inl (lo_aload 1 0)),
  (1, .inl (lo_getf 4 11 12)),
  (4, .inl (lo_istore 5 3)),
  (5, .inl (lo_aload 6 0)),
  (6, .inl (lo_getf 9 11 5)),
  (9, .inl (lo_iload 10 3)),
  (10, .inl (lo_iload 11 1)),
  (11, .inl (lo_ast 12 0)),
  (12, .inl (lo_aload 13 0)),
  (13, .inl (lo_getf 16 11 6)),
  (16, .inl (lo_iload 17 3)),
  (17, .inl (lo_aload 18 0)),
  (18, .inl (lo_getf 21 11 13)),
  (21, .inl (lo_ast 22 0)),
  (22, .inl (lo_aload 23 0)),
  (23, .inl (lo_getf 26 11 7)),
  (26, .inl (lo_iload 27 3)),
  (27, .inl (lo_iload 28 2)),
  (28, .inl (lo_ast 29 0)),
  (29, .inl (lo_push 30 (.int 0))),
  (30, .inl (lo_istore 32 4)),
  (32, .inl (lo_iload 34 4)),
  (34, .inl (lo_iload 35 2)),
  (35, .inl (lo_cmp 63 38 (fun x y => decide (y ≤ x)))),
  (38, .inl (lo_aload 39 0)),
  (39, .inl (lo_getf 42 11 10)),
  (42, .inl (lo_aload 43 0)),
  (43, .inl (lo_getf 46 11 13)),
  (46, .inl (lo_iload 48 4)),
  (48, .inl (lo_bin 49 (fun x y => x + y))),
  (49, .inl (lo_aload 50 0)),
  (50, .inl (lo_getf 53 11 18)),
  (53, .inl (lo_iload 55 4)),
  (55, .inl (lo_ald 56 0)),
  (56, .inl (lo_ast 57 0)),
  (57, .inl (lo_iinc 60 4 1)),
  (60, .inl (lo_goto 32)),
  (63, .inl (lo_aload 64 0)),
  (64, .inl (lo_dup 65)),
  (65, .inl (lo_getf 68 11 13)),
  (68, .inl (lo_iload 69 2)),
  (69, .inl (lo_bin 70 (fun x y => x + y))),
  (70, .inl (lo_putf 73 11 13 0)),
  (73, .inl (lo_aload 74 0)),
  (74, .inl (lo_getf 77 11 11)),
  (77, .inl (lo_iload 78 3)),
  (78, .inl (lo_iload 79 1)),
  (79, .inl (lo_push 80 (.int 1))),
  (80, .inl (lo_cmp 93 83 (fun x y => decide (x = y)))),
  (83, .inl (lo_iload 84 1)),
  (84, .inl (lo_push 85 (.int 5))),
  (85, .inl (lo_cmp 93 88 (fun x y => decide (x = y)))),
  (88, .inl (lo_iload 89 1)),
  (89, .inl (lo_push 90 (.int 4))),
  (90, .inl (lo_cmp 97 93 (fun x y => decide (¬ x = y)))),
  (93, .inl (lo_push 94 (.int 1))),
  (94, .inl (lo_goto 98)),
  (97, .inl (lo_push 98 (.int 0))),
  (98, .inl (lo_ast 99 1)),
  (99, .inl (lo_aload 100 0)),
  (100, .inl (lo_getf 103 11 8)),
  (103, .inl (lo_iload 104 3)),
  (104, .inl (lo_iload 105 1)),
  (105, .inl (lo_if 112 108 (fun x => decide (¬ x = 0)))),
  (108, .inl (lo_push 109 (.int (-1)))),
  (109, .inl (lo_goto 122)),
  (112, .inl (lo_iload 113 1)),
  (113, .inl (lo_push 114 (.int 2))),
  (114, .inl (lo_cmp 121 117 (fun x y => decide (¬ x = y)))),
  (117, .inl (lo_push 118 (.int 1))),
  (118, .inl (lo_goto 122)),
  (121, .inl (lo_push 122 (.int 0))),
  (122, .inl (lo_ast 123 0)),
  (123, .inl (lo_aload 124 0)),
  (124, .inl (lo_getf 127 11 9)),
  (127, .inl (lo_iload 128 3)),
  (128, .inl (lo_push 129 (.int 0))),
  (129, .inl (lo_ast 130 0)),
  (130, .inl (lo_push 131 (.int 0))),
  (131, .inl (lo_istore 133 4)),
  (133, .inl (lo_iload 135 4)),
  (135, .inl (lo_push 136 (.int 3))),
  (136, .inl (lo_cmp 157 139 (fun x y => decide (y ≤ x)))),
  (139, .inl (lo_aload 140 0)),
  (140, .inl (lo_getf 143 11 15)),
  (143, .inl (lo_push 144 (.int 3))),
  (144, .inl (lo_iload 145 3)),
  (145, .inl (lo_bin 146 (fun x y => x * y))),
  (146, .inl (lo_iload 148 4)),
  (148, .inl (lo_bin 149 (fun x y => x + y))),
  (149, .inl (lo_push 150 (.int (-1)))),
  (150, .inl (lo_ast 151 0)),
  (151, .inl (lo_iinc 154 4 1)),
  (154, .inl (lo_goto 133)),
  (157, .inl (lo_push 158 (.int 0))),
  (158, .inl (lo_istore 160 4)),
  (160, .inl (lo_iload 162 4)),
  (162, .inl (lo_iload 163 2)),
  (163, .inl (lo_cmp 191 166 (fun x y => decide (y ≤ x)))),
  (166, .inl (lo_iload 167 1)),
  (167, .inl (lo_push 168 (.int 2))),
  (168, .inl (lo_cmp 191 171 (fun x y => decide (x ≤ y)))),
  (171, .inl (lo_aload 172 0)),
  (172, .inl (lo_iload 173 3)),
  (173, .inl (lo_aload 174 0)),
  (174, .inl (lo_getf 177 11 18)),
  (177, .inl (lo_iload 179 4)),
  (179, .inl (lo_ald 180 0)),
  (180, .inl (lo_iload 182 4)),
  (182, .inr (.inl (155, 4, 185))),
  (185, .inl (lo_iinc 188 4 1)),
  (188, .inl (lo_goto 160)),
  (191, .inl (lo_iload 192 1)),
  (192, .inl (lo_push 193 (.int 5))),
  (193, .inl (lo_cmp 213 196 (fun x y => decide (¬ x = y)))),
  (196, .inl (lo_aload 197 0)),
  (197, .inl (lo_getf 200 11 8)),
  (200, .inl (lo_iload 201 3)),
  (201, .inl (lo_push 202 (.int 0))),
  (202, .inl (lo_ast 203 0)),
  (203, .inl (lo_aload 204 0)),
  (204, .inl (lo_getf 207 11 9)),
  (207, .inl (lo_iload 208 3)),
  (208, .inl (lo_dup2 209)),
  (209, .inl (lo_ald 210 0)),
  (210, .inl (lo_push 211 (.int 1))),
  (211, .inl (lo_bin 212 (fun x y => x + y))),
  (212, .inl (lo_ast 213 0)),
  (213, .inl (lo_aload 214 0)),
  (214, .inl (lo_dup 215)),
  (215, .inl (lo_getf 218 11 12)),
  (218, .inl (lo_push 219 (.int 1))),
  (219, .inl (lo_bin 220 (fun x y => x + y))),
  (220, .inl (lo_putf 223 11 12 0)),
  (223, .inl (lo_iload 224 3)),
  (224, .inr (.inr 1))]
theorem k_154_0 (L : Nat) (xs : Nat → Int32) : ll_OK1 cX11_addsNode RX11 (some .int) false ll_mN ll_mR ll_mK ll_cnt L xs false 0 (.inl (lo_aload 1 0)) := lk_aload_n (k := 0) (by decide +kernel) rfl
theorem k_154_1 (L : Nat) (xs : Nat → Int32) : ll_OK1 cX11_addsNode RX11 (some .int) false ll_mN ll_mR ll_mK ll_cnt L xs false 1 (.inl (lo_getf 4 11 12)) := lk_getf (ix := 117) (ci := 11) (k := 12) (C := RX11) (T := TX11) (N := 46) (by decide +kernel) rfl in_11 (by decide) tb_643
theorem k_154_4 (L : Nat) (xs : Nat → Int32) : ll_OK1 cX11_addsNode RX11 (some .int) false ll_mN ll_mR ll_mK ll_cnt L xs false 4 (.inl (lo_istore 5 3)) := lk_istore_n (k := 3) (by decide +kernel) rfl
theorem k_154_5 (L : Nat) (xs : Nat → Int32) : ll_OK1 cX11_addsNode RX11 (some .int) false ll_mN ll_mR ll_mK ll_cnt L xs false 5 (.inl (lo_aload 6 0)) := lk_aload_n (k := 0) (by decide +kernel) rfl
theorem k_154_6 (L : Nat) (xs : Nat → Int32) : ll_OK1 cX11_addsNode RX11 (some .int) false ll_mN ll_mR ll_mK ll_cnt L xs false 6 (.inl (lo_getf 9 11 5)) := lk_getf (ix := 25) (ci := 11) (k := 5) (C := RX11) (T := TX11) (N := 46) (by decide +kernel) rfl in_11 (by decide) tb_610
theorem k_154_9 (L : Nat) (xs : Nat → Int32) : ll_OK1 cX11_addsNode RX11 (some .int) false ll_mN ll_mR ll_mK ll_cnt L xs false 9 (.inl (lo_iload 10 3)) := lk_iload_n (k := 3) (by decide +kernel) rfl
theorem k_154_10 (L : Nat) (xs : Nat → Int32) : ll_OK1 cX11_addsNode RX11 (some .int) false ll_mN ll_mR ll_mK ll_cnt L xs false 10 (.inl (lo_iload 11 1)) := lk_iload_n (k := 1) (by decide +kernel) rfl
theorem k_154_11 (L : Nat) (xs : Nat → Int32) : ll_OK1 cX11_addsNode RX11 (some .int) false ll_mN ll_mR ll_mK ll_cnt L xs false 11 (.inl (lo_ast 12 0)) := lk_iast (by decide +kernel)
theorem k_154_12 (L : Nat) (xs : Nat → Int32) : ll_OK1 cX11_addsNode RX11 (some .int) false ll_mN ll_mR ll_mK ll_cnt L xs false 12 (.inl (lo_aload 13 0)) := lk_aload_n (k := 0) (by decide +kernel) rfl
theorem k_154_13 (L : Nat) (xs : Nat → Int32) : ll_OK1 cX11_addsNode RX11 (some .int) false ll_mN ll_mR ll_mK ll_cnt L xs false 13 (.inl (lo_getf 16 11 6)) := lk_getf (ix := 28) (ci := 11) (k := 6) (C := RX11) (T := TX11) (N := 46) (by decide +kernel) rfl in_11 (by decide) tb_611
theorem k_154_16 (L : Nat) (xs : Nat → Int32) : ll_OK1 cX11_addsNode RX11 (some .int) false ll_mN ll_mR ll_mK ll_cnt L xs false 16 (.inl (lo_iload 17 3)) := lk_iload_n (k := 3) (by decide +kernel) rfl
theorem k_154_17 (L : Nat) (xs : Nat → Int32) : ll_OK1 cX11_addsNode RX11 (some .int) false ll_mN ll_mR ll_mK ll_cnt L xs false 17 (.inl (lo_aload 18 0)) := lk_aload_n (k := 0) (by decide +kernel) rfl
theorem k_154_18 (L : Nat) (xs : Nat → Int32) : ll_OK1 cX11_addsNode RX11 (some .int) false ll_mN ll_mR ll_mK ll_cnt L xs false 18 (.inl (lo_getf 21 11 13)) := lk_getf (ix := 120) (ci := 11) (k := 13) (C := RX11) (T := TX11) (N := 46) (by decide +kernel) rfl in_11 (by decide) tb_644
theorem k_154_21 (L : Nat) (xs : Nat → Int32) : ll_OK1 cX11_addsNode RX11 (some .int) false ll_mN ll_mR ll_mK ll_cnt L xs false 21 (.inl (lo_ast 22 0)) := lk_iast (by decide +kernel)
theorem k_154_22 (L : Nat) (xs : Nat → Int32) : ll_OK1 cX11_addsNode RX11 (some .int) false ll_mN ll_mR ll_mK ll_cnt L xs false 22 (.inl (lo_aload 23 0)) := lk_aload_n (k := 0) (by decide +kernel) rfl
theorem k_154_23 (L : Nat) (xs : Nat → Int32) : ll_OK1 cX11_addsNode RX11 (some .int) false ll_mN ll_mR ll_mK ll_cnt L xs false 23 (.inl (lo_getf 26 11 7)) := lk_getf (ix := 31) (ci := 11) (k := 7) (C := RX11) (T := TX11) (N := 46) (by decide +kernel) rfl in_11 (by decide) tb_612
theorem k_154_26 (L : Nat) (xs : Nat → Int32) : ll_OK1 cX11_addsNode RX11 (some .int) false ll_mN ll_mR ll_mK ll_cnt L xs false 26 (.inl (lo_iload 27 3)) := lk_iload_n (k := 3) (by decide +kernel) rfl
theorem k_154_27 (L : Nat) (xs : Nat → Int32) : ll_OK1 cX11_addsNode RX11 (some .int) false ll_mN ll_mR ll_mK ll_cnt L xs false 27 (.inl (lo_iload 28 2)) := lk_iload_n (k := 2) (by decide +kernel) rfl
theorem k_154_28 (L : Nat) (xs : Nat → Int32) : ll_OK1 cX11_addsNode RX11 (some .int) false ll_mN ll_mR ll_mK ll_cnt L xs false 28 (.inl (lo_ast 29 0)) := lk_iast (by decide +kernel)
theorem k_154_29 (L : Nat) (xs : Nat → Int32) : ll_OK1 cX11_addsNode RX11 (some .int) false ll_mN ll_mR ll_mK ll_cnt L xs false 29 (.inl (lo_push 30 (.int 0))) := lk_iconst (n := 0) (by decide +kernel) (by decide)
theorem k_154_30 (L : Nat) (xs : Nat → Int32) : ll_OK1 cX11_addsNode RX11 (some .int) false ll_mN ll_mR ll_mK ll_cnt L xs false 30 (.inl (lo_istore 32 4)) := lk_istore (by decide +kernel)
theorem k_154_32 (L : Nat) (xs : Nat → Int32) : ll_OK1 cX11_addsNode RX11 (some .int) false ll_mN ll_mR ll_mK ll_cnt L xs false 32 (.inl (lo_iload 34 4)) := lk_iload (by decide +kernel)
theorem k_154_34 (L : Nat) (xs : Nat → Int32) : ll_OK1 cX11_addsNode RX11 (some .int) false ll_mN ll_mR ll_mK ll_cnt L xs false 34 (.inl (lo_iload 35 2)) := lk_iload_n (k := 2) (by decide +kernel) rfl
theorem k_154_35 (L : Nat) (xs : Nat → Int32) : ll_OK1 cX11_addsNode RX11 (some .int) false ll_mN ll_mR ll_mK ll_cnt L xs false 35 (.inl (lo_cmp 63 38 (fun x y => decide (y ≤ x)))) := lk_icmp_ge (off := 28) (by decide +kernel) rfl
theorem k_154_38 (L : Nat) (xs : Nat → Int32) : ll_OK1 cX11_addsNode RX11 (some .int) false ll_mN ll_mR ll_mK ll_cnt L xs false 38 (.inl (lo_aload 39 0)) := lk_aload_n (k := 0) (by decide +kernel) rfl
theorem k_154_39 (L : Nat) (xs : Nat → Int32) : ll_OK1 cX11_addsNode RX11 (some .int) false ll_mN ll_mR ll_mK ll_cnt L xs false 39 (.inl (lo_getf 42 11 10)) := lk_getf (ix := 40) (ci := 11) (k := 10) (C := RX11) (T := TX11) (N := 46) (by decide +kernel) rfl in_11 (by decide) tb_615
theorem k_154_42 (L : Nat) (xs : Nat → Int32) : ll_OK1 cX11_addsNode RX11 (some .int) false ll_mN ll_mR ll_mK ll_cnt L xs false 42 (.inl (lo_aload 43 0)) := lk_aload_n (k := 0) (by decide +kernel) rfl
theorem k_154_43 (L : Nat) (xs : Nat → Int32) : ll_OK1 cX11_addsNode RX11 (some .int) false ll_mN ll_mR ll_mK ll_cnt L xs false 43 (.inl (lo_getf 46 11 13)) := lk_getf (ix := 120) (ci := 11) (k := 13) (C := RX11) (T := TX11) (N := 46) (by decide +kernel) rfl in_11 (by decide) tb_644
theorem k_154_46 (L : Nat) (xs : Nat → Int32) : ll_OK1 cX11_addsNode RX11 (some .int) false ll_mN ll_mR ll_mK ll_cnt L xs false 46 (.inl (lo_iload 48 4)) := lk_iload (by decide +kernel)
theorem k_154_48 (L : Nat) (xs : Nat → Int32) : ll_OK1 cX11_addsNode RX11 (some .int) false ll_mN ll_mR ll_mK ll_cnt L xs false 48 (.inl (lo_bin 49 (fun x y => x + y))) := lk_iadd (by decide +kernel)
theorem k_154_49 (L : Nat) (xs : Nat → Int32) : ll_OK1 cX11_addsNode RX11 (some .int) false ll_mN ll_mR ll_mK ll_cnt L xs false 49 (.inl (lo_aload 50 0)) := lk_aload_n (k := 0) (by decide +kernel) rfl
theorem k_154_50 (L : Nat) (xs : Nat → Int32) : ll_OK1 cX11_addsNode RX11 (some .int) false ll_mN ll_mR ll_mK ll_cnt L xs false 50 (.inl (lo_getf 53 11 18)) := lk_getf (ix := 56) (ci := 11) (k := 18) (C := RX11) (T := TX11) (N := 46) (by decide +kernel) rfl in_11 (by decide) tb_621
theorem k_154_53 (L : Nat) (xs : Nat → Int32) : ll_OK1 cX11_addsNode RX11 (some .int) false ll_mN ll_mR ll_mK ll_cnt L xs false 53 (.inl (lo_iload 55 4)) := lk_iload (by decide +kernel)
theorem k_154_55 (L : Nat) (xs : Nat → Int32) : ll_OK1 cX11_addsNode RX11 (some .int) false ll_mN ll_mR ll_mK ll_cnt L xs false 55 (.inl (lo_ald 56 0)) := lk_iald (by decide +kernel)
theorem k_154_56 (L : Nat) (xs : Nat → Int32) : ll_OK1 cX11_addsNode RX11 (some .int) false ll_mN ll_mR ll_mK ll_cnt L xs false 56 (.inl (lo_ast 57 0)) := lk_iast (by decide +kernel)
theorem k_154_57 (L : Nat) (xs : Nat → Int32) : ll_OK1 cX11_addsNode RX11 (some .int) false ll_mN ll_mR ll_mK ll_cnt L xs false 57 (.inl (lo_iinc 60 4 1)) := lk_iinc (n := 1) (by decide +kernel) (by decide)
theorem k_154_60 (L : Nat) (xs : Nat → Int32) : ll_OK1 cX11_addsNode RX11 (some .int) false ll_mN ll_mR ll_mK ll_cnt L xs false 60 (.inl (lo_goto 32)) := lk_goto (off := (-28)) (by decide +kernel) rfl
theorem k_154_63 (L : Nat) (xs : Nat → Int32) : ll_OK1 cX11_addsNode RX11 (some .int) false ll_mN ll_mR ll_mK ll_cnt L xs false 63 (.inl (lo_aload 64 0)) := lk_aload_n (k := 0) (by decide +kernel) rfl
theorem k_154_64 (L : Nat) (xs : Nat → Int32) : ll_OK1 cX11_addsNode RX11 (some .int) false ll_mN ll_mR ll_mK ll_cnt L xs false 64 (.inl (lo_dup 65)) := lk_dup (by decide +kernel)
theorem k_154_65 (L : Nat) (xs : Nat → Int32) : ll_OK1 cX11_addsNode RX11 (some .int) false ll_mN ll_mR ll_mK ll_cnt L xs false 65 (.inl (lo_getf 68 11 13)) := lk_getf (ix := 120) (ci := 11) (k := 13) (C := RX11) (T := TX11) (N := 46) (by decide +kernel) rfl in_11 (by decide) tb_644
theorem k_154_68 (L : Nat) (xs : Nat → Int32) : ll_OK1 cX11_addsNode RX11 (some .int) false ll_mN ll_mR ll_mK ll_cnt L xs false 68 (.inl (lo_iload 69 2)) := lk_iload_n (k := 2) (by decide +kernel) rfl
theorem k_154_69 (L : Nat) (xs : Nat → Int32) : ll_OK1 cX11_addsNode RX11 (some .int) false ll_mN ll_mR ll_mK ll_cnt L xs false 69 (.inl (lo_bin 70 (fun x y => x + y))) := lk_iadd (by decide +kernel)
theorem k_154_70 (L : Nat) (xs : Nat → Int32) : ll_OK1 cX11_addsNode RX11 (some .int) false ll_mN ll_mR ll_mK ll_cnt L xs false 70 (.inl (lo_putf 73 11 13 0)) := lk_putf (ix := 120) (ci := 11) (k := 13) (C := RX11) (T := TX11) (N := 46) (ty0 := tyX11) (by decide +kernel) rfl in_11 tyX11_ok nmX11 (by decide) tb_644 (fun B adr v w h1 h2 => ll_fit_int (B := B) (adr := adr) h1 h2) (Or.inl rfl)
theorem k_154_73 (L : Nat) (xs : Nat → Int32) : ll_OK1 cX11_addsNode RX11 (some .int) false ll_mN ll_mR ll_mK ll_cnt L xs false 73 (.inl (lo_aload 74 0)) := lk_aload_n (k := 0) (by decide +kernel) rfl
theorem k_154_74 (L : Nat) (xs : Nat → Int32) : ll_OK1 cX11_addsNode RX11 (some .int) false ll_mN ll_mR ll_mK ll_cnt L xs false 74 (.inl (lo_getf 77 11 11)) := lk_getf (ix := 43) (ci := 11) (k := 11) (C := RX11) (T := TX11) (N := 46) (by decide +kernel) rfl in_11 (by decide) tb_616
theorem k_154_77 (L : Nat) (xs : Nat → Int32) : ll_OK1 cX11_addsNode RX11 (some .int) false ll_mN ll_mR ll_mK ll_cnt L xs false 77 (.inl (lo_iload 78 3)) := lk_iload_n (k := 3) (by decide +kernel) rfl
theorem k_154_78 (L : Nat) (xs : Nat → Int32) : ll_OK1 cX11_addsNode RX11 (some .int) false ll_mN ll_mR ll_mK ll_cnt L xs false 78 (.inl (lo_iload 79 1)) := lk_iload_n (k := 1) (by decide +kernel) rfl
theorem k_154_79 (L : Nat) (xs : Nat → Int32) : ll_OK1 cX11_addsNode RX11 (some .int) false ll_mN ll_mR ll_mK ll_cnt L xs false 79 (.inl (lo_push 80 (.int 1))) := lk_iconst (n := 1) (by decide +kernel) (by decide)
theorem k_154_80 (L : Nat) (xs : Nat → Int32) : ll_OK1 cX11_addsNode RX11 (some .int) false ll_mN ll_mR ll_mK ll_cnt L xs false 80 (.inl (lo_cmp 93 83 (fun x y => decide (x = y)))) := lk_icmp_eq (off := 13) (by decide +kernel) rfl
theorem k_154_83 (L : Nat) (xs : Nat → Int32) : ll_OK1 cX11_addsNode RX11 (some .int) false ll_mN ll_mR ll_mK ll_cnt L xs false 83 (.inl (lo_iload 84 1)) := lk_iload_n (k := 1) (by decide +kernel) rfl
theorem k_154_84 (L : Nat) (xs : Nat → Int32) : ll_OK1 cX11_addsNode RX11 (some .int) false ll_mN ll_mR ll_mK ll_cnt L xs false 84 (.inl (lo_push 85 (.int 5))) := lk_iconst (n := 5) (by decide +kernel) (by decide)
theorem k_154_85 (L : Nat) (xs : Nat → Int32) : ll_OK1 cX11_addsNode RX11 (some .int) false ll_mN ll_mR ll_mK ll_cnt L xs false 85 (.inl (lo_cmp 93 88 (fun x y => decide (x = y)))) := lk_icmp_eq (off := 8) (by decide +kernel) rfl
theorem k_154_88 (L : Nat) (xs : Nat → Int32) : ll_OK1 cX11_addsNode RX11 (some .int) false ll_mN ll_mR ll_mK ll_cnt L xs false 88 (.inl (lo_iload 89 1)) := lk_iload_n (k := 1) (by decide +kernel) rfl
theorem k_154_89 (L : Nat) (xs : Nat → Int32) : ll_OK1 cX11_addsNode RX11 (some .int) false ll_mN ll_mR ll_mK ll_cnt L xs false 89 (.inl (lo_push 90 (.int 4))) := lk_iconst (n := 4) (by decide +kernel) (by decide)
theorem k_154_90 (L : Nat) (xs : Nat → Int32) : ll_OK1 cX11_addsNode RX11 (some .int) false ll_mN ll_mR ll_mK ll_cnt L xs false 90 (.inl (lo_cmp 97 93 (fun x y => decide (¬ x = y)))) := lk_icmp_ne (off := 7) (by decide +kernel) rfl
theorem k_154_93 (L : Nat) (xs : Nat → Int32) : ll_OK1 cX11_addsNode RX11 (some .int) false ll_mN ll_mR ll_mK ll_cnt L xs false 93 (.inl (lo_push 94 (.int 1))) := lk_iconst (n := 1) (by decide +kernel) (by decide)
theorem k_154_94 (L : Nat) (xs : Nat → Int32) : ll_OK1 cX11_addsNode RX11 (some .int) false ll_mN ll_mR ll_mK ll_cnt L xs false 94 (.inl (lo_goto 98)) := lk_goto (off := 4) (by decide +kernel) rfl
theorem k_154_97 (L : Nat) (xs : Nat → Int32) : ll_OK1 cX11_addsNode RX11 (some .int) false ll_mN ll_mR ll_mK ll_cnt L xs false 97 (.inl (lo_push 98 (.int 0))) := lk_iconst (n := 0) (by decide +kernel) (by decide)
theorem k_154_98 (L : Nat) (xs : Nat → Int32) : ll_OK1 cX11_addsNode RX11 (some .int) false ll_mN ll_mR ll_mK ll_cnt L xs false 98 (.inl (lo_ast 99 1)) := lk_zast (by decide +kernel)
theorem k_154_99 (L : Nat) (xs : Nat → Int32) : ll_OK1 cX11_addsNode RX11 (some .int) false ll_mN ll_mR ll_mK ll_cnt L xs false 99 (.inl (lo_aload 100 0)) := lk_aload_n (k := 0) (by decide +kernel) rfl
theorem k_154_100 (L : Nat) (xs : Nat → Int32) : ll_OK1 cX11_addsNode RX11 (some .int) false ll_mN ll_mR ll_mK ll_cnt L xs false 100 (.inl (lo_getf 103 11 8)) := lk_getf (ix := 34) (ci := 11) (k := 8) (C := RX11) (T := TX11) (N := 46) (by decide +kernel) rfl in_11 (by decide) tb_613
theorem k_154_103 (L : Nat) (xs : Nat → Int32) : ll_OK1 cX11_addsNode RX11 (some .int) false ll_mN ll_mR ll_mK ll_cnt L xs false 103 (.inl (lo_iload 104 3)) := lk_iload_n (k := 3) (by decide +kernel) rfl
theorem k_154_104 (L : Nat) (xs : Nat → Int32) : ll_OK1 cX11_addsNode RX11 (some .int) false ll_mN ll_mR ll_mK ll_cnt L xs false 104 (.inl (lo_iload 105 1)) := lk_iload_n (k := 1) (by decide +kernel) rfl
theorem k_154_105 (L : Nat) (xs : Nat → Int32) : ll_OK1 cX11_addsNode RX11 (some .int) false ll_mN ll_mR ll_mK ll_cnt L xs false 105 (.inl (lo_if 112 108 (fun x => decide (¬ x = 0)))) := lk_if_ne (off := 7) (by decide +kernel) rfl
theorem k_154_108 (L : Nat) (xs : Nat → Int32) : ll_OK1 cX11_addsNode RX11 (some .int) false ll_mN ll_mR ll_mK ll_cnt L xs false 108 (.inl (lo_push 109 (.int (-1)))) := lk_iconst (n := (-1)) (by decide +kernel) (by decide)
theorem k_154_109 (L : Nat) (xs : Nat → Int32) : ll_OK1 cX11_addsNode RX11 (some .int) false ll_mN ll_mR ll_mK ll_cnt L xs false 109 (.inl (lo_goto 122)) := lk_goto (off := 13) (by decide +kernel) rfl
theorem k_154_112 (L : Nat) (xs : Nat → Int32) : ll_OK1 cX11_addsNode RX11 (some .int) false ll_mN ll_mR ll_mK ll_cnt L xs false 112 (.inl (lo_iload 113 1)) := lk_iload_n (k := 1) (by decide +kernel) rfl
theorem k_154_113 (L : Nat) (xs : Nat → Int32) : ll_OK1 cX11_addsNode RX11 (some .int) false ll_mN ll_mR ll_mK ll_cnt L xs false 113 (.inl (lo_push 114 (.int 2))) := lk_iconst (n := 2) (by decide +kernel) (by decide)
theorem k_154_114 (L : Nat) (xs : Nat → Int32) : ll_OK1 cX11_addsNode RX11 (some .int) false ll_mN ll_mR ll_mK ll_cnt L xs false 114 (.inl (lo_cmp 121 117 (fun x y => decide (¬ x = y)))) := lk_icmp_ne (off := 7) (by decide +kernel) rfl
theorem k_154_117 (L : Nat) (xs : Nat → Int32) : ll_OK1 cX11_addsNode RX11 (some .int) false ll_mN ll_mR ll_mK ll_cnt L xs false 117 (.inl (lo_push 118 (.int 1))) := lk_iconst (n := 1) (by decide +kernel) (by decide)
theorem k_154_118 (L : Nat) (xs : Nat → Int32) : ll_OK1 cX11_addsNode RX11 (some .int) false ll_mN ll_mR ll_mK ll_cnt L xs false 118 (.inl (lo_goto 122)) := lk_goto (off := 4) (by decide +kernel) rfl
theorem k_154_121 (L : Nat) (xs : Nat → Int32) : ll_OK1 cX11_addsNode RX11 (some .int) false ll_mN ll_mR ll_mK ll_cnt L xs false 121 (.inl (lo_push 122 (.int 0))) := lk_iconst (n := 0) (by decide +kernel) (by decide)
theorem k_154_122 (L : Nat) (xs : Nat → Int32) : ll_OK1 cX11_addsNode RX11 (some .int) false ll_mN ll_mR ll_mK ll_cnt L xs false 122 (.inl (lo_ast 123 0)) := lk_iast (by decide +kernel)
theorem k_154_123 (L : Nat) (xs : Nat → Int32) : ll_OK1 cX11_addsNode RX11 (some .int) false ll_mN ll_mR ll_mK ll_cnt L xs false 123 (.inl (lo_aload 124 0)) := lk_aload_n (k := 0) (by decide +kernel) rfl
theorem k_154_124 (L : Nat) (xs : Nat → Int32) : ll_OK1 cX11_addsNode RX11 (some .int) false ll_mN ll_mR ll_mK ll_cnt L xs false 124 (.inl (lo_getf 127 11 9)) := lk_getf (ix := 37) (ci := 11) (k := 9) (C := RX11) (T := TX11) (N := 46) (by decide +kernel) rfl in_11 (by decide) tb_614
theorem k_154_127 (L : Nat) (xs : Nat → Int32) : ll_OK1 cX11_addsNode RX11 (some .int) false ll_mN ll_mR ll_mK ll_cnt L xs false 127 (.inl (lo_iload 128 3)) := lk_iload_n (k := 3) (by decide +kernel) rfl
theorem k_154_128 (L : Nat) (xs : Nat → Int32) : ll_OK1 cX11_addsNode RX11 (some .int) false ll_mN ll_mR ll_mK ll_cnt L xs false 128 (.inl (lo_push 129 (.int 0))) := lk_iconst (n := 0) (by decide +kernel) (by decide)
theorem k_154_129 (L : Nat) (xs : Nat → Int32) : ll_OK1 cX11_addsNode RX11 (some .int) false ll_mN ll_mR ll_mK ll_cnt L xs false 129 (.inl (lo_ast 130 0)) := lk_iast (by decide +kernel)
theorem k_154_130 (L : Nat) (xs : Nat → Int32) : ll_OK1 cX11_addsNode RX11 (some .int) false ll_mN ll_mR ll_mK ll_cnt L xs false 130 (.inl (lo_push 131 (.int 0))) := lk_iconst (n := 0) (by decide +kernel) (by decide)
theorem k_154_131 (L : Nat) (xs : Nat → Int32) : ll_OK1 cX11_addsNode RX11 (some .int) false ll_mN ll_mR ll_mK ll_cnt L xs false 131 (.inl (lo_istore 133 4)) := lk_istore (by decide +kernel)
theorem k_154_133 (L : Nat) (xs : Nat → Int32) : ll_OK1 cX11_addsNode RX11 (some .int) false ll_mN ll_mR ll_mK ll_cnt L xs false 133 (.inl (lo_iload 135 4)) := lk_iload (by decide +kernel)
theorem k_154_135 (L : Nat) (xs : Nat → Int32) : ll_OK1 cX11_addsNode RX11 (some .int) false ll_mN ll_mR ll_mK ll_cnt L xs false 135 (.inl (lo_push 136 (.int 3))) := lk_iconst (n := 3) (by decide +kernel) (by decide)
theorem k_154_136 (L : Nat) (xs : Nat → Int32) : ll_OK1 cX11_addsNode RX11 (some .int) false ll_mN ll_mR ll_mK ll_cnt L xs false 136 (.inl (lo_cmp 157 139 (fun x y => decide (y ≤ x)))) := lk_icmp_ge (off := 21) (by decide +kernel) rfl
theorem k_154_139 (L : Nat) (xs : Nat → Int32) : ll_OK1 cX11_addsNode RX11 (some .int) false ll_mN ll_mR ll_mK ll_cnt L xs false 139 (.inl (lo_aload 140 0)) := lk_aload_n (k := 0) (by decide +kernel) rfl
theorem k_154_140 (L : Nat) (xs : Nat → Int32) : ll_OK1 cX11_addsNode RX11 (some .int) false ll_mN ll_mR ll_mK ll_cnt L xs false 140 (.inl (lo_getf 143 11 15)) := lk_getf (ix := 49) (ci := 11) (k := 15) (C := RX11) (T := TX11) (N := 46) (by decide +kernel) rfl in_11 (by decide) tb_618
theorem k_154_143 (L : Nat) (xs : Nat → Int32) : ll_OK1 cX11_addsNode RX11 (some .int) false ll_mN ll_mR ll_mK ll_cnt L xs false 143 (.inl (lo_push 144 (.int 3))) := lk_iconst (n := 3) (by decide +kernel) (by decide)
theorem k_154_144 (L : Nat) (xs : Nat → Int32) : ll_OK1 cX11_addsNode RX11 (some .int) false ll_mN ll_mR ll_mK ll_cnt L xs false 144 (.inl (lo_iload 145 3)) := lk_iload_n (k := 3) (by decide +kernel) rfl
theorem k_154_145 (L : Nat) (xs : Nat → Int32) : ll_OK1 cX11_addsNode RX11 (some .int) false ll_mN ll_mR ll_mK ll_cnt L xs false 145 (.inl (lo_bin 146 (fun x y => x * y))) := lk_imul (by decide +kernel)
theorem k_154_146 (L : Nat) (xs : Nat → Int32) : ll_OK1 cX11_addsNode RX11 (some .int) false ll_mN ll_mR ll_mK ll_cnt L xs false 146 (.inl (lo_iload 148 4)) := lk_iload (by decide +kernel)
theorem k_154_148 (L : Nat) (xs : Nat → Int32) : ll_OK1 cX11_addsNode RX11 (some .int) false ll_mN ll_mR ll_mK ll_cnt L xs false 148 (.inl (lo_bin 149 (fun x y => x + y))) := lk_iadd (by decide +kernel)
theorem k_154_149 (L : Nat) (xs : Nat → Int32) : ll_OK1 cX11_addsNode RX11 (some .int) false ll_mN ll_mR ll_mK ll_cnt L xs false 149 (.inl (lo_push 150 (.int (-1)))) := lk_iconst (n := (-1)) (by decide +kernel) (by decide)
theorem k_154_150 (L : Nat) (xs : Nat → Int32) : ll_OK1 cX11_addsNode RX11 (some .int) false ll_mN ll_mR ll_mK ll_cnt L xs false 150 (.inl (lo_ast 151 0)) := lk_iast (by decide +kernel)
theorem k_154_151 (L : Nat) (xs : Nat → Int32) : ll_OK1 cX11_addsNode RX11 (some .int) false ll_mN ll_mR ll_mK ll_cnt L xs false 151 (.inl (lo_iinc 154 4 1)) := lk_iinc (n := 1) (by decide +kernel) (by decide)
theorem k_154_154 (L : Nat) (xs : Nat → Int32) : ll_OK1 cX11_addsNode RX11 (some .int) false ll_mN ll_mR ll_mK ll_cnt L xs false 154 (.inl (lo_goto 133)) := lk_goto (off := (-21)) (by decide +kernel) rfl
theorem k_154_157 (L : Nat) (xs : Nat → Int32) : ll_OK1 cX11_addsNode RX11 (some .int) false ll_mN ll_mR ll_mK ll_cnt L xs false 157 (.inl (lo_push 158 (.int 0))) := lk_iconst (n := 0) (by decide +kernel) (by decide)
theorem k_154_158 (L : Nat) (xs : Nat → Int32) : ll_OK1 cX11_addsNode RX11 (some .int) false ll_mN ll_mR ll_mK ll_cnt L xs false 158 (.inl (lo_istore 160 4)) := lk_istore (by decide +kernel)
theorem k_154_160 (L : Nat) (xs : Nat → Int32) : ll_OK1 cX11_addsNode RX11 (some .int) false ll_mN ll_mR ll_mK ll_cnt L xs false 160 (.inl (lo_iload 162 4)) := lk_iload (by decide +kernel)
theorem k_154_162 (L : Nat) (xs : Nat → Int32) : ll_OK1 cX11_addsNode RX11 (some .int) false ll_mN ll_mR ll_mK ll_cnt L xs false 162 (.inl (lo_iload 163 2)) := lk_iload_n (k := 2) (by decide +kernel) rfl
theorem k_154_163 (L : Nat) (xs : Nat → Int32) : ll_OK1 cX11_addsNode RX11 (some .int) false ll_mN ll_mR ll_mK ll_cnt L xs false 163 (.inl (lo_cmp 191 166 (fun x y => decide (y ≤ x)))) := lk_icmp_ge (off := 28) (by decide +kernel) rfl
theorem k_154_166 (L : Nat) (xs : Nat → Int32) : ll_OK1 cX11_addsNode RX11 (some .int) false ll_mN ll_mR ll_mK ll_cnt L xs false 166 (.inl (lo_iload 167 1)) := lk_iload_n (k := 1) (by decide +kernel) rfl
theorem k_154_167 (L : Nat) (xs : Nat → Int32) : ll_OK1 cX11_addsNode RX11 (some .int) false ll_mN ll_mR ll_mK ll_cnt L xs false 167 (.inl (lo_push 168 (.int 2))) := lk_iconst (n := 2) (by decide +kernel) (by decide)
theorem k_154_168 (L : Nat) (xs : Nat → Int32) : ll_OK1 cX11_addsNode RX11 (some .int) false ll_mN ll_mR ll_mK ll_cnt L xs false 168 (.inl (lo_cmp 191 171 (fun x y => decide (x ≤ y)))) := lk_icmp_le (off := 23) (by decide +kernel) rfl
theorem k_154_171 (L : Nat) (xs : Nat → Int32) : ll_OK1 cX11_addsNode RX11 (some .int) false ll_mN ll_mR ll_mK ll_cnt L xs false 171 (.inl (lo_aload 172 0)) := lk_aload_n (k := 0) (by decide +kernel) rfl
theorem k_154_172 (L : Nat) (xs : Nat → Int32) : ll_OK1 cX11_addsNode RX11 (some .int) false ll_mN ll_mR ll_mK ll_cnt L xs false 172 (.inl (lo_iload 173 3)) := lk_iload_n (k := 3) (by decide +kernel) rfl
theorem k_154_173 (L : Nat) (xs : Nat → Int32) : ll_OK1 cX11_addsNode RX11 (some .int) false ll_mN ll_mR ll_mK ll_cnt L xs false 173 (.inl (lo_aload 174 0)) := lk_aload_n (k := 0) (by decide +kernel) rfl
theorem k_154_174 (L : Nat) (xs : Nat → Int32) : ll_OK1 cX11_addsNode RX11 (some .int) false ll_mN ll_mR ll_mK ll_cnt L xs false 174 (.inl (lo_getf 177 11 18)) := lk_getf (ix := 56) (ci := 11) (k := 18) (C := RX11) (T := TX11) (N := 46) (by decide +kernel) rfl in_11 (by decide) tb_621
theorem k_154_177 (L : Nat) (xs : Nat → Int32) : ll_OK1 cX11_addsNode RX11 (some .int) false ll_mN ll_mR ll_mK ll_cnt L xs false 177 (.inl (lo_iload 179 4)) := lk_iload (by decide +kernel)
theorem k_154_179 (L : Nat) (xs : Nat → Int32) : ll_OK1 cX11_addsNode RX11 (some .int) false ll_mN ll_mR ll_mK ll_cnt L xs false 179 (.inl (lo_ald 180 0)) := lk_iald (by decide +kernel)
theorem k_154_180 (L : Nat) (xs : Nat → Int32) : ll_OK1 cX11_addsNode RX11 (some .int) false ll_mN ll_mR ll_mK ll_cnt L xs false 180 (.inl (lo_iload 182 4)) := lk_iload (by decide +kernel)
theorem k_154_182 (L : Nat) (xs : Nat → Int32) : ll_OK1 cX11_addsNode RX11 (some .int) false ll_mN ll_mR ll_mK ll_cnt L xs false 182 (.inr (.inl (155, 4, 185))) := ⟨rfl, by decide, by rw [mN_155, mK_155, mR_155]; exact lj_v 130 3 11 (RX11, TX11, 46) (by decide +kernel) tb_649 tb_650 tb_651 rfl rfl rfl rfl (by decide +kernel)⟩
theorem k_154_185 (L : Nat) (xs : Nat → Int32) : ll_OK1 cX11_addsNode RX11 (some .int) false ll_mN ll_mR ll_mK ll_cnt L xs false 185 (.inl (lo_iinc 188 4 1)) := lk_iinc (n := 1) (by decide +kernel) (by decide)
theorem k_154_188 (L : Nat) (xs : Nat → Int32) : ll_OK1 cX11_addsNode RX11 (some .int) false ll_mN ll_mR ll_mK ll_cnt L xs false 188 (.inl (lo_goto 160)) := lk_goto (off := (-28)) (by decide +kernel) rfl
theorem k_154_191 (L : Nat) (xs : Nat → Int32) : ll_OK1 cX11_addsNode RX11 (some .int) false ll_mN ll_mR ll_mK ll_cnt L xs false 191 (.inl (lo_iload 192 1)) := lk_iload_n (k := 1) (by decide +kernel) rfl
theorem k_154_192 (L : Nat) (xs : Nat → Int32) : ll_OK1 cX11_addsNode RX11 (some .int) false ll_mN ll_mR ll_mK ll_cnt L xs false 192 (.inl (lo_push 193 (.int 5))) := lk_iconst (n := 5) (by decide +kernel) (by decide)
theorem k_154_193 (L : Nat) (xs : Nat → Int32) : ll_OK1 cX11_addsNode RX11 (some .int) false ll_mN ll_mR ll_mK ll_cnt L xs false 193 (.inl (lo_cmp 213 196 (fun x y => decide (¬ x = y)))) := lk_icmp_ne (off := 20) (by decide +kernel) rfl
theorem k_154_196 (L : Nat) (xs : Nat → Int32) : ll_OK1 cX11_addsNode RX11 (some .int) false ll_mN ll_mR ll_mK ll_cnt L xs false 196 (.inl (lo_aload 197 0)) := lk_aload_n (k := 0) (by decide +kernel) rfl
theorem k_154_197 (L : Nat) (xs : Nat → Int32) : ll_OK1 cX11_addsNode RX11 (some .int) false ll_mN ll_mR ll_mK ll_cnt L xs false 197 (.inl (lo_getf 200 11 8)) := lk_getf (ix := 34) (ci := 11) (k := 8) (C := RX11) (T := TX11) (N := 46) (by decide +kernel) rfl in_11 (by decide) tb_613
theorem k_154_200 (L : Nat) (xs : Nat → Int32) : ll_OK1 cX11_addsNode RX11 (some .int) false ll_mN ll_mR ll_mK ll_cnt L xs false 200 (.inl (lo_iload 201 3)) := lk_iload_n (k := 3) (by decide +kernel) rfl
theorem k_154_201 (L : Nat) (xs : Nat → Int32) : ll_OK1 cX11_addsNode RX11 (some .int) false ll_mN ll_mR ll_mK ll_cnt L xs false 201 (.inl (lo_push 202 (.int 0))) := lk_iconst (n := 0) (by decide +kernel) (by decide)
theorem k_154_202 (L : Nat) (xs : Nat → Int32) : ll_OK1 cX11_addsNode RX11 (some .int) false ll_mN ll_mR ll_mK ll_cnt L xs false 202 (.inl (lo_ast 203 0)) := lk_iast (by decide +kernel)
theorem k_154_203 (L : Nat) (xs : Nat → Int32) : ll_OK1 cX11_addsNode RX11 (some .int) false ll_mN ll_mR ll_mK ll_cnt L xs false 203 (.inl (lo_aload 204 0)) := lk_aload_n (k := 0) (by decide +kernel) rfl
theorem k_154_204 (L : Nat) (xs : Nat → Int32) : ll_OK1 cX11_addsNode RX11 (some .int) false ll_mN ll_mR ll_mK ll_cnt L xs false 204 (.inl (lo_getf 207 11 9)) := lk_getf (ix := 37) (ci := 11) (k := 9) (C := RX11) (T := TX11) (N := 46) (by decide +kernel) rfl in_11 (by decide) tb_614
theorem k_154_207 (L : Nat) (xs : Nat → Int32) : ll_OK1 cX11_addsNode RX11 (some .int) false ll_mN ll_mR ll_mK ll_cnt L xs false 207 (.inl (lo_iload 208 3)) := lk_iload_n (k := 3) (by decide +kernel) rfl
theorem k_154_208 (L : Nat) (xs : Nat → Int32) : ll_OK1 cX11_addsNode RX11 (some .int) false ll_mN ll_mR ll_mK ll_cnt L xs false 208 (.inl (lo_dup2 209)) := lk_dup2 (by decide +kernel)
theorem k_154_209 (L : Nat) (xs : Nat → Int32) : ll_OK1 cX11_addsNode RX11 (some .int) false ll_mN ll_mR ll_mK ll_cnt L xs false 209 (.inl (lo_ald 210 0)) := lk_iald (by decide +kernel)
theorem k_154_210 (L : Nat) (xs : Nat → Int32) : ll_OK1 cX11_addsNode RX11 (some .int) false ll_mN ll_mR ll_mK ll_cnt L xs false 210 (.inl (lo_push 211 (.int 1))) := lk_iconst (n := 1) (by decide +kernel) (by decide)
theorem k_154_211 (L : Nat) (xs : Nat → Int32) : ll_OK1 cX11_addsNode RX11 (some .int) false ll_mN ll_mR ll_mK ll_cnt L xs false 211 (.inl (lo_bin 212 (fun x y => x + y))) := lk_iadd (by decide +kernel)
theorem k_154_212 (L : Nat) (xs : Nat → Int32) : ll_OK1 cX11_addsNode RX11 (some .int) false ll_mN ll_mR ll_mK ll_cnt L xs false 212 (.inl (lo_ast 213 0)) := lk_iast (by decide +kernel)
theorem k_154_213 (L : Nat) (xs : Nat → Int32) : ll_OK1 cX11_addsNode RX11 (some .int) false ll_mN ll_mR ll_mK ll_cnt L xs false 213 (.inl (lo_aload 214 0)) := lk_aload_n (k := 0) (by decide +kernel) rfl
theorem k_154_214 (L : Nat) (xs : Nat → Int32) : ll_OK1 cX11_addsNode RX11 (some .int) false ll_mN ll_mR ll_mK ll_cnt L xs false 214 (.inl (lo_dup 215)) := lk_dup (by decide +kernel)
theorem k_154_215 (L : Nat) (xs : Nat → Int32) : ll_OK1 cX11_addsNode RX11 (some .int) false ll_mN ll_mR ll_mK ll_cnt L xs false 215 (.inl (lo_getf 218 11 12)) := lk_getf (ix := 117) (ci := 11) (k := 12) (C := RX11) (T := TX11) (N := 46) (by decide +kernel) rfl in_11 (by decide) tb_643
theorem k_154_218 (L : Nat) (xs : Nat → Int32) : ll_OK1 cX11_addsNode RX11 (some .int) false ll_mN ll_mR ll_mK ll_cnt L xs false 218 (.inl (lo_push 219 (.int 1))) := lk_iconst (n := 1) (by decide +kernel) (by decide)
theorem k_154_219 (L : Nat) (xs : Nat → Int32) : ll_OK1 cX11_addsNode RX11 (some .int) false ll_mN ll_mR ll_mK ll_cnt L xs false 219 (.inl (lo_bin 220 (fun x y => x + y))) := lk_iadd (by decide +kernel)
theorem k_154_220 (L : Nat) (xs : Nat → Int32) : ll_OK1 cX11_addsNode RX11 (some .int) false ll_mN ll_mR ll_mK ll_cnt L xs false 220 (.inl (lo_putf 223 11 12 0)) := lk_putf (ix := 117) (ci := 11) (k := 12) (C := RX11) (T := TX11) (N := 46) (ty0 := tyX11) (by decide +kernel) rfl in_11 tyX11_ok nmX11 (by decide) tb_643 (fun B adr v w h1 h2 => ll_fit_int (B := B) (adr := adr) h1 h2) (Or.inl rfl)
theorem k_154_223 (L : Nat) (xs : Nat → Int32) : ll_OK1 cX11_addsNode RX11 (some .int) false ll_mN ll_mR ll_mK ll_cnt L xs false 223 (.inl (lo_iload 224 3)) := lk_iload_n (k := 3) (by decide +kernel) rfl
theorem k_154_224 (L : Nat) (xs : Nat → Int32) : ll_OK1 cX11_addsNode RX11 (some .int) false ll_mN ll_mR ll_mK ll_cnt L xs false 224 (.inr (.inr 1)) := ⟨(fun h => by cases h), (fun _ => ⟨(by decide +kernel), rfl⟩), fun h => by cases h⟩
theorem ok_154 (L : Nat) (xs : Nat → Int32) : ∀ q ∈ cd_154, ll_OK1 cX11_addsNode RX11 (some .int) false ll_mN ll_mR ll_mK ll_cnt L xs false q.1 q.2 :=
  List.forall_mem_cons.mpr ⟨k_154_0 L xs, List.forall_mem_cons.mpr ⟨k_154_1 L xs, List.forall_mem_cons.mpr ⟨k_154_4 L xs, List.forall_mem_cons.mpr ⟨k_154_5 L xs, List.forall_mem_cons.mpr ⟨k_154_6 L xs, List.forall_mem_cons.mpr ⟨k_154_9 L xs, List.forall_mem_cons.mpr ⟨k_154_10 L xs, List.forall_mem_cons.mpr ⟨k_154_11 L xs, List.forall_mem_cons.mpr ⟨k_154_12 L xs, List.forall_mem_cons.mpr ⟨k_154_13 L xs, List.forall_mem_cons.mpr ⟨k_154_16 L xs, List.forall_mem_cons.mpr ⟨k_154_17 L xs, List.forall_mem_cons.mpr ⟨k_154_18 L xs, List.forall_mem_cons.mpr ⟨k_154_21 L xs, List.forall_mem_cons.mpr ⟨k_154_22 L xs, List.forall_mem_cons.mpr ⟨k_154_23 L xs, List.forall_mem_cons.mpr ⟨k_154_26 L xs, List.forall_mem_cons.mpr ⟨k_154_27 L xs, List.forall_mem_cons.mpr ⟨k_154_28 L xs, List.forall_mem_cons.mpr ⟨k_154_29 L xs, List.forall_mem_cons.mpr ⟨k_154_30 L xs, List.forall_mem_cons.mpr ⟨k_154_32 L xs, List.forall_mem_cons.mpr ⟨k_154_34 L xs, List.forall_mem_cons.mpr ⟨k_154_35 L xs, List.forall_mem_cons.mpr ⟨k_154_38 L xs, List.forall_mem_cons.mpr ⟨k_154_39 L xs, List.forall_mem_cons.mpr ⟨k_154_42 L xs, List.forall_mem_cons.mpr ⟨k_154_43 L xs, List.forall_mem_cons.mpr ⟨k_154_46 L xs, List.forall_mem_cons.mpr ⟨k_154_48 L xs, List.forall_mem_cons.mpr ⟨k_154_49 L xs, List.forall_mem_cons.mpr ⟨k_154_50 L xs, List.forall_mem_cons.mpr ⟨k_154_53 L xs, List.forall_mem_cons.mpr ⟨k_154_55 L xs, List.forall_mem_cons.mpr ⟨k_154_56 L xs, List.forall_mem_cons.mpr ⟨k_154_57 L xs, List.forall_mem_cons.mpr ⟨k_154_60 L xs, List.forall_mem_cons.mpr ⟨k_154_63 L xs, List.forall_mem_cons.mpr ⟨k_154_64 L xs, List.forall_mem_cons.mpr ⟨k_154_65 L xs, List.forall_mem_cons.mpr ⟨k_154_68 L xs, List.forall_mem_cons.mpr ⟨k_154_69 L xs, List.forall_mem_cons.mpr ⟨k_154_70 L xs, List.forall_mem_cons.mpr ⟨k_154_73 L xs, List.forall_mem_cons.mpr ⟨k_154_74 L xs, List.forall_mem_cons.mpr ⟨k_154_77 L xs, List.forall_mem_cons.mpr ⟨k_154_78 L xs, List.forall_mem_cons.mpr ⟨k_154_79 L xs, List.forall_mem_cons.mpr ⟨k_154_80 L xs, List.forall_mem_cons.mpr ⟨k_154_83 L xs, List.forall_mem_cons.mpr ⟨k_154_84 L xs, List.forall_mem_cons.mpr ⟨k_154_85 L xs, List.forall_mem_cons.mpr ⟨k_154_88 L xs, List.forall_mem_cons.mpr ⟨k_154_89 L xs, List.forall_mem_cons.mpr ⟨k_154_90 L xs, List.forall_mem_cons.mpr ⟨k_154_93 L xs, List.forall_mem_cons.mpr ⟨k_154_94 L xs, List.forall_mem_cons.mpr ⟨k_154_97 L xs, List.forall_mem_cons.mpr ⟨k_154_98 L xs, List.forall_mem_cons.mpr ⟨k_154_99 L xs, List.forall_mem_cons.mpr ⟨k_154_100 L xs, List.forall_mem_cons.mpr ⟨k_154_103 L xs, List.forall_mem_cons.mpr ⟨k_154_104 L xs, List.forall_mem_cons.mpr ⟨k_154_105 L xs, List.forall_mem_cons.mpr ⟨k_154_108 L xs, List.forall_mem_cons.mpr ⟨k_154_109 L xs, List.forall_mem_cons.mpr ⟨k_154_112 L xs, List.forall_mem_cons.mpr ⟨k_154_113 L xs, List.forall_mem_cons.mpr ⟨k_154_114 L xs, List.forall_mem_cons.mpr ⟨k_154_117 L xs, List.forall_mem_cons.mpr ⟨k_154_118 L xs, List.forall_mem_cons.mpr ⟨k_154_121 L xs, List.forall_mem_cons.mpr ⟨k_154_122 L xs, List.forall_mem_cons.mpr ⟨k_154_123 L xs, List.forall_mem_cons.mpr ⟨k_154_124 L xs, List.forall_mem_cons.mpr ⟨k_154_127 L xs, List.forall_mem_cons.mpr ⟨k_154_128 L xs, List.forall_mem_cons.mpr ⟨k_154_129 L xs, List.forall_mem_cons.mpr ⟨k_154_130 L xs, List.forall_mem_cons.mpr ⟨k_154_131 L xs, List.forall_mem_cons.mpr ⟨k_154_133 L xs, List.forall_mem_cons.mpr ⟨k_154_135 L xs, List.forall_mem_cons.mpr ⟨k_154_136 L xs, List.forall_mem_cons.mpr ⟨k_154_139 L xs, List.forall_mem_cons.mpr ⟨k_154_140 L xs, List.forall_mem_cons.mpr ⟨k_154_143 L xs, List.forall_mem_cons.mpr ⟨k_154_144 L xs, List.forall_mem_cons.mpr ⟨k_154_145 L xs, List.forall_mem_cons.mpr ⟨k_154_146 L xs, List.forall_mem_cons.mpr ⟨k_154_148 L xs, List.forall_mem_cons.mpr ⟨k_154_149 L xs, List.forall_mem_cons.mpr ⟨k_154_150 L xs, List.forall_mem_cons.mpr ⟨k_154_151 L xs, List.forall_mem_cons.mpr ⟨k_154_154 L xs, List.forall_mem_cons.mpr ⟨k_154_157 L xs, List.forall_mem_cons.mpr ⟨k_154_158 L xs, List.forall_mem_cons.mpr ⟨k_154_160 L xs, List.forall_mem_cons.mpr ⟨k_154_162 L xs, List.forall_mem_cons.mpr ⟨k_154_163 L xs, List.forall_mem_cons.mpr ⟨k_154_166 L xs, List.forall_mem_cons.mpr ⟨k_154_167 L xs, List.forall_mem_cons.mpr ⟨k_154_168 L xs, List.forall_mem_cons.mpr ⟨k_154_171 L xs, List.forall_mem_cons.mpr ⟨k_154_172 L xs, List.forall_mem_cons.mpr ⟨k_154_173 L xs, List.forall_mem_cons.mpr ⟨k_154_174 L xs, List.forall_mem_cons.mpr ⟨k_154_177 L xs, List.forall_mem_cons.mpr ⟨k_154_179 L xs, List.forall_mem_cons.mpr ⟨k_154_180 L xs, List.forall_mem_cons.mpr ⟨k_154_182 L xs, List.forall_mem_cons.mpr ⟨k_154_185 L xs, List.forall_mem_cons.mpr ⟨k_154_188 L xs, List.forall_mem_cons.mpr ⟨k_154_191 L xs, List.forall_mem_cons.mpr ⟨k_154_192 L xs, List.forall_mem_cons.mpr ⟨k_154_193 L xs, List.forall_mem_cons.mpr ⟨k_154_196 L xs, List.forall_mem_cons.mpr ⟨k_154_197 L xs, List.forall_mem_cons.mpr ⟨k_154_200 L xs, List.forall_mem_cons.mpr ⟨k_154_201 L xs, List.forall_mem_cons.mpr ⟨k_154_202 L xs, List.forall_mem_cons.mpr ⟨k_154_203 L xs, List.forall_mem_cons.mpr ⟨k_154_204 L xs, List.forall_mem_cons.mpr ⟨k_154_207 L xs, List.forall_mem_cons.mpr ⟨k_154_208 L xs, List.forall_mem_cons.mpr ⟨k_154_209 L xs, List.forall_mem_cons.mpr ⟨k_154_210 L xs, List.forall_mem_cons.mpr ⟨k_154_211 L xs, List.forall_mem_cons.mpr ⟨k_154_212 L xs, List.forall_mem_cons.mpr ⟨k_154_213 L xs, List.forall_mem_cons.mpr ⟨k_154_214 L xs, List.forall_mem_cons.mpr ⟨k_154_215 L xs, List.forall_mem_cons.mpr ⟨k_154_218 L xs, List.forall_mem_cons.mpr ⟨k_154_219 L xs, List.forall_mem_cons.mpr ⟨k_154_220 L xs, List.forall_mem_cons.mpr ⟨k_154_223 L xs, List.forall_mem_cons.mpr ⟨k_154_224 L xs, fun _ h => absurd h List.not_mem_nil⟩⟩⟩⟩⟩⟩⟩⟩⟩⟩⟩⟩⟩⟩⟩⟩⟩⟩⟩⟩⟩⟩⟩⟩⟩⟩⟩⟩⟩⟩⟩⟩⟩⟩⟩⟩⟩⟩⟩⟩⟩⟩⟩⟩⟩⟩⟩⟩⟩⟩⟩⟩⟩⟩⟩⟩⟩⟩⟩⟩⟩⟩⟩⟩⟩⟩⟩⟩⟩⟩⟩⟩⟩⟩⟩⟩⟩⟩⟩⟩⟩⟩⟩⟩⟩⟩⟩⟩⟩⟩⟩⟩⟩⟩⟩⟩⟩⟩⟩⟩⟩⟩⟩⟩⟩⟩⟩⟩⟩⟩⟩⟩⟩⟩⟩⟩⟩⟩⟩⟩⟩⟩⟩⟩⟩⟩⟩⟩⟩⟩⟩⟩⟩⟩⟩⟩
/-- InclusionProverModel.joins.(III)V -/
def cd_155 : List (Nat × ll_O) := [
  (0, .inl (lo_aload 1 0)),
  (1, .inl (lo_getf 4 11 9)),
  (4, .inl (lo_iload 5 1)),
  (5, .inl (lo_aload 6 0)),
  (6, .inl (lo_getf 9 11 9)),
  (9, .inl (lo_iload 10 2)),
  (10, .inl (lo_ald 11 0)),
  (11, .inl (lo_aload 12 0)),
  (12, .inl (lo_getf 15 11 9)),
  (15, .inl (lo_iload 16 1)),
  (16, .inl (lo_ald 17 0)),
  (17, .inl (lo_cmp 29 20 (fun x y => decide (x ≤ y)))),
  (20, .inl (lo_aload 21 0)),
  (21, .inl (lo_getf 24 11 9)),
  (24, .inl (lo_iload 25 2)),
  (25, .inl (lo_ald 26 0)),
  (26, .inl (lo_goto 35)),
  (29, .inl (lo_aload 30 0)),
  (30, .inl (lo_getf 33 11 9)),
  (33, .inl (lo_iload 34 1)),
  (34, .inl (lo_ald 35 0)),
  (35, .inl (lo_ast 36 0)),
  (36, .inl (lo_aload 37 0)),
  (37, .inl (lo_getf 40 11 5)),
  (40, .inl (lo_iload 41 1)),
  (41, .inl (lo_ald 42 0)),
  (42, .inl (lo_push 43 (.int 3))),
  (43, .inl (lo_cmp 115 46 (fun x y => decide (¬ x = y)))),
  (46, .inl (lo_aload 47 0)),
  (47, .inl (lo_getf 50 11 11)),
  (50, .inl (lo_iload 51 1)),
  (51, .inl (lo_aload 52 0)),
  (52, .inl (lo_getf 55 11 11)),
  (55, .inl (lo_iload 56 1)),
  (56, .inl (lo_ald 57 1)),
  (57, .inl (lo_if 69 60 (fun x => decide (¬ x = 0)))),
  (60, .inl (lo_aload 61 0)),
  (61, .inl (lo_getf 64 11 11)),
  (64, .inl (lo_iload 65 2)),
  (65, .inl (lo_ald 66 1)),
  (66, .inl (lo_if 73 69 (fun x => decide (x = 0)))),
  (69, .inl (lo_push 70 (.int 1))),
  (70, .inl (lo_goto 74)),
  (73, .inl (lo_push 74 (.int 0))),
  (74, .inl (lo_ast 75 1)),
  (75, .inl (lo_aload 76 0)),
  (76, .inl (lo_getf 79 11 8)),
  (79, .inl (lo_iload 80 1)),
  (80, .inl (lo_iload 81 3)),
  (81, .inl (lo_if 99 84 (fun x => decide (x = 0)))),
  (84, .inl (lo_aload 85 0)),
  (85, .inl (lo_getf 88 11 8)),
  (88, .inl (lo_iload 89 2)),
  (89, .inl (lo_ald 90 0)),
  (90, .inl (lo_aload 91 0)),
  (91, .inl (lo_getf 94 11 8)),
  (94, .inl (lo_iload 95 1)),
  (95, .inl (lo_ald 96 0)),
  (96, .inl (lo_cmp 108 99 (fun x y => decide (y ≤ x)))),
  (99, .inl (lo_aload 100 0)),
  (100, .inl (lo_getf 103 11 8)),
  (103, .inl (lo_iload 104 2)),
  (104, .inl (lo_ald 105 0)),
  (105, .inl (lo_goto 114)),
  (108, .inl (lo_aload 109 0)),
  (109, .inl (lo_getf 112 11 8)),
  (112, .inl (lo_iload 113 1)),
  (113, .inl (lo_ald 114 0)),
  (114, .inl (lo_ast 115 0)),
  (115, .inl (lo_aload 116 0)),
  (116, .inl (lo_getf 119 11 5)),
  (119, .inl (lo_iload 120 1)),
  (120, .inl (lo_ald 121 0)),
  (121, .inl (lo_push 122 (.int 4))),
  (122, .inl (lo_cmp 169 125 (fun x y => decide (¬ x = y)))),
  (125, .inl (lo_aload 126 0)),
  (126, .inl (lo_getf 129 11 11)),
  (129, .inl (lo_iload 130 1)),
  (130, .inl (lo_aload 131 0)),
  (131, .inl (lo_getf 134 11 11)),
  (134, .inl (lo_iload 135 1)),
  (135, .inl (lo_ald 136 1)),
  (136, .inl (lo_if 152 139 (fun x => decide (x = 0)))),
  (139, .inl (lo_aload 140 0)),
  (140, .inl (lo_getf 143 11 11)),
  (143, .inl (lo_iload 144 2)),
  (144, .inl (lo_ald 145 1)),
  (145, .inl (lo_if 152 148 (fun x => decide (x = 0)))),
  (148, .inl (lo_push 149 (.int 1))),
  (149, .inl (lo_goto 153)),
  (152, .inl (lo_push 153 (.int 0))),
  (153, .inl (lo_ast 154 1)),
  (154, .inl (lo_aload 155 0)),
  (155, .inl (lo_getf 158 11 8)),
  (158, .inl (lo_iload 159 1)),
  (159, .inl (lo_dup2 160)),
  (160, .inl (lo_ald 161 0)),
  (161, .inl (lo_aload 162 0)),
  (162, .inl (lo_getf 165 11 8)),
  (165, .inl (lo_iload 166 2)),
  (166, .inl (lo_ald 167 0)),
  (167, .inl (lo_bin 168 (fun x y => x + y))),
  (168, .inl (lo_ast 169 0)),
  (169, .inr (.inr 0))]
theorem k_155_0 (L : Nat) (xs : Nat → Int32) : ll_OK1 cX11_joins RX11 none false ll_mN ll_mR ll_mK ll_cnt L xs false 0 (.inl (lo_aload 1 0)) := lk_aload_n (k := 0) (by decide +kernel) rfl
theorem k_155_1 (L : Nat) (xs : Nat → Int32) : ll_OK1 cX11_joins RX11 none false ll_mN ll_mR ll_mK ll_cnt L xs false 1 (.inl (lo_getf 4 11 9)) := lk_getf (ix := 37) (ci := 11) (k := 9) (C := RX11) (T := TX11) (N := 46) (by decide +kernel) rfl in_11 (by decide) tb_614
theorem k_155_4 (L : Nat) (xs : Nat → Int32) : ll_OK1 cX11_joins RX11 none false ll_mN ll_mR ll_mK ll_cnt L xs false 4 (.inl (lo_iload 5 1)) := lk_iload_n (k := 1) (by decide +kernel) rfl
theorem k_155_5 (L : Nat) (xs : Nat → Int32) : ll_OK1 cX11_joins RX11 none false ll_mN ll_mR ll_mK ll_cnt L xs false 5 (.inl (lo_aload 6 0)) := lk_aload_n (k := 0) (by decide +kernel) rfl
theorem k_155_6 (L : Nat) (xs : Nat → Int32) : ll_OK1 cX11_joins RX11 none false ll_mN ll_mR ll_mK ll_cnt L xs false 6 (.inl (lo_getf 9 11 9)) := lk_getf (ix := 37) (ci := 11) (k := 9) (C := RX11) (T := TX11) (N := 46) (by decide +kernel) rfl in_11 (by decide) tb_614
theorem k_155_9 (L : Nat) (xs : Nat → Int32) : ll_OK1 cX11_joins RX11 none false ll_mN ll_mR ll_mK ll_cnt L xs false 9 (.inl (lo_iload 10 2)) := lk_iload_n (k := 2) (by decide +kernel) rfl
theorem k_155_10 (L : Nat) (xs : Nat → Int32) : ll_OK1 cX11_joins RX11 none false ll_mN ll_mR ll_mK ll_cnt L xs false 10 (.inl (lo_ald 11 0)) := lk_iald (by decide +kernel)
theorem k_155_11 (L : Nat) (xs : Nat → Int32) : ll_OK1 cX11_joins RX11 none false ll_mN ll_mR ll_mK ll_cnt L xs false 11 (.inl (lo_aload 12 0)) := lk_aload_n (k := 0) (by decide +kernel) rfl
theorem k_155_12 (L : Nat) (xs : Nat → Int32) : ll_OK1 cX11_joins RX11 none false ll_mN ll_mR ll_mK ll_cnt L xs false 12 (.inl (lo_getf 15 11 9)) := lk_getf (ix := 37) (ci := 11) (k := 9) (C := RX11) (T := TX11) (N := 46) (by decide +kernel) rfl in_11 (by decide) tb_614
theorem k_155_15 (L : Nat) (xs : Nat → Int32) : ll_OK1 cX11_joins RX11 none false ll_mN ll_mR ll_mK ll_cnt L xs false 15 (.inl (lo_iload 16 1)) := lk_iload_n (k := 1) (by decide +kernel) rfl
theorem k_155_16 (L : Nat) (xs : Nat → Int32) : ll_OK1 cX11_joins RX11 none false ll_mN ll_mR ll_mK ll_cnt L xs false 16 (.inl (lo_ald 17 0)) := lk_iald (by decide +kernel)
theorem k_155_17 (L : Nat) (xs : Nat → Int32) : ll_OK1 cX11_joins RX11 none false ll_mN ll_mR ll_mK ll_cnt L xs false 17 (.inl (lo_cmp 29 20 (fun x y => decide (x ≤ y)))) := lk_icmp_le (off := 12) (by decide +kernel) rfl
theorem k_155_20 (L : Nat) (xs : Nat → Int32) : ll_OK1 cX11_joins RX11 none false ll_mN ll_mR ll_mK ll_cnt L xs false 20 (.inl (lo_aload 21 0)) := lk_aload_n (k := 0) (by decide +kernel) rfl
theorem k_155_21 (L : Nat) (xs : Nat → Int32) : ll_OK1 cX11_joins RX11 none false ll_mN ll_mR ll_mK ll_cnt L xs false 21 (.inl (lo_getf 24 11 9)) := lk_getf (ix := 37) (ci := 11) (k := 9) (C := RX11) (T := TX11) (N := 46) (by decide +kernel) rfl in_11 (by decide) tb_614
theorem k_155_24 (L : Nat) (xs : Nat → Int32) : ll_OK1 cX11_joins RX11 none false ll_mN ll_mR ll_mK ll_cnt L xs false 24 (.inl (lo_iload 25 2)) := lk_iload_n (k := 2) (by decide +kernel) rfl
theorem k_155_25 (L : Nat) (xs : Nat → Int32) : ll_OK1 cX11_joins RX11 none false ll_mN ll_mR ll_mK ll_cnt L xs false 25 (.inl (lo_ald 26 0)) := lk_iald (by decide +kernel)
theorem k_155_26 (L : Nat) (xs : Nat → Int32) : ll_OK1 cX11_joins RX11 none false ll_mN ll_mR ll_mK ll_cnt L xs false 26 (.inl (lo_goto 35)) := lk_goto (off := 9) (by decide +kernel) rfl
theorem k_155_29 (L : Nat) (xs : Nat → Int32) : ll_OK1 cX11_joins RX11 none false ll_mN ll_mR ll_mK ll_cnt L xs false 29 (.inl (lo_aload 30 0)) := lk_aload_n (k := 0) (by decide +kernel) rfl
theorem k_155_30 (L : Nat) (xs : Nat → Int32) : ll_OK1 cX11_joins RX11 none false ll_mN ll_mR ll_mK ll_cnt L xs false 30 (.inl (lo_getf 33 11 9)) := lk_getf (ix := 37) (ci := 11) (k := 9) (C := RX11) (T := TX11) (N := 46) (by decide +kernel) rfl in_11 (by decide) tb_614
theorem k_155_33 (L : Nat) (xs : Nat → Int32) : ll_OK1 cX11_joins RX11 none false ll_mN ll_mR ll_mK ll_cnt L xs false 33 (.inl (lo_iload 34 1)) := lk_iload_n (k := 1) (by decide +kernel) rfl
theorem k_155_34 (L : Nat) (xs : Nat → Int32) : ll_OK1 cX11_joins RX11 none false ll_mN ll_mR ll_mK ll_cnt L xs false 34 (.inl (lo_ald 35 0)) := lk_iald (by decide +kernel)
theorem k_155_35 (L : Nat) (xs : Nat → Int32) : ll_OK1 cX11_joins RX11 none false ll_mN ll_mR ll_mK ll_cnt L xs false 35 (.inl (lo_ast 36 0)) := lk_iast (by decide +kernel)
theorem k_155_36 (L : Nat) (xs : Nat → Int32) : ll_OK1 cX11_joins RX11 none false ll_mN ll_mR ll_mK ll_cnt L xs false 36 (.inl (lo_aload 37 0)) := lk_aload_n (k := 0) (by decide +kernel) rfl
theorem k_155_37 (L : Nat) (xs : Nat → Int32) : ll_OK1 cX11_joins RX11 none false ll_mN ll_mR ll_mK ll_cnt L xs false 37 (.inl (lo_getf 40 11 5)) := lk_getf (ix := 25) (ci := 11) (k := 5) (C := RX11) (T := TX11) (N := 46) (by decide +kernel) rfl in_11 (by decide) tb_610
theorem k_155_40 (L : Nat) (xs : Nat → Int32) : ll_OK1 cX11_joins RX11 none false ll_mN ll_mR ll_mK ll_cnt L xs false 40 (.inl (lo_iload 41 1)) := lk_iload_n (k := 1) (by decide +kernel) rfl
theorem k_155_41 (L : Nat) (xs : Nat → Int32) : ll_OK1 cX11_joins RX11 none false ll_mN ll_mR ll_mK ll_cnt L xs false 41 (.inl (lo_ald 42 0)) := lk_iald (by decide +kernel)
theorem k_155_42 (L : Nat) (xs : Nat → Int32) : ll_OK1 cX11_joins RX11 none false ll_mN ll_mR ll_mK ll_cnt L xs false 42 (.inl (lo_push 43 (.int 3))) := lk_iconst (n := 3) (by decide +kernel) (by decide)
theorem k_155_43 (L : Nat) (xs : Nat → Int32) : ll_OK1 cX11_joins RX11 none false ll_mN ll_mR ll_mK ll_cnt L xs false 43 (.inl (lo_cmp 115 46 (fun x y => decide (¬ x = y)))) := lk_icmp_ne (off := 72) (by decide +kernel) rfl
theorem k_155_46 (L : Nat) (xs : Nat → Int32) : ll_OK1 cX11_joins RX11 none false ll_mN ll_mR ll_mK ll_cnt L xs false 46 (.inl (lo_aload 47 0)) := lk_aload_n (k := 0) (by decide +kernel) rfl
theorem k_155_47 (L : Nat) (xs : Nat → Int32) : ll_OK1 cX11_joins RX11 none false ll_mN ll_mR ll_mK ll_cnt L xs false 47 (.inl (lo_getf 50 11 11)) := lk_getf (ix := 43) (ci := 11) (k := 11) (C := RX11) (T := TX11) (N := 46) (by decide +kernel) rfl in_11 (by decide) tb_616
theorem k_155_50 (L : Nat) (xs : Nat → Int32) : ll_OK1 cX11_joins RX11 none false ll_mN ll_mR ll_mK ll_cnt L xs false 50 (.inl (lo_iload 51 1)) := lk_iload_n (k := 1) (by decide +kernel) rfl
theorem k_155_51 (L : Nat) (xs : Nat → Int32) : ll_OK1 cX11_joins RX11 none false ll_mN ll_mR ll_mK ll_cnt L xs false 51 (.inl (lo_aload 52 0)) := lk_aload_n (k := 0) (by decide +kernel) rfl
theorem k_155_52 (L : Nat) (xs : Nat → Int32) : ll_OK1 cX11_joins RX11 none false ll_mN ll_mR ll_mK ll_cnt L xs false 52 (.inl (lo_getf 55 11 11)) := lk_getf (ix := 43) (ci := 11) (k := 11) (C := RX11) (T := TX11) (N := 46) (by decide +kernel) rfl in_11 (by decide) tb_616
theorem k_155_55 (L : Nat) (xs : Nat → Int32) : ll_OK1 cX11_joins RX11 none false ll_mN ll_mR ll_mK ll_cnt L xs false 55 (.inl (lo_iload 56 1)) := lk_iload_n (k := 1) (by decide +kernel) rfl
theorem k_155_56 (L : Nat) (xs : Nat → Int32) : ll_OK1 cX11_joins RX11 none false ll_mN ll_mR ll_mK ll_cnt L xs false 56 (.inl (lo_ald 57 1)) := lk_zald (by decide +kernel)
theorem k_155_57 (L : Nat) (xs : Nat → Int32) : ll_OK1 cX11_joins RX11 none false ll_mN ll_mR ll_mK ll_cnt L xs false 57 (.inl (lo_if 69 60 (fun x => decide (¬ x = 0)))) := lk_if_ne (off := 12) (by decide +kernel) rfl
theorem k_155_60 (L : Nat) (xs : Nat → Int32) : ll_OK1 cX11_joins RX11 none false ll_mN ll_mR ll_mK ll_cnt L xs false 60 (.inl (lo_aload 61 0)) := lk_aload_n (k := 0) (by decide +kernel) rfl
theorem k_155_61 (L : Nat) (xs : Nat → Int32) : ll_OK1 cX11_joins RX11 none false ll_mN ll_mR ll_mK ll_cnt L xs false 61 (.inl (lo_getf 64 11 11)) := lk_getf (ix := 43) (ci := 11) (k := 11) (C := RX11) (T := TX11) (N := 46) (by decide +kernel) rfl in_11 (by decide) tb_616
theorem k_155_64 (L : Nat) (xs : Nat → Int32) : ll_OK1 cX11_joins RX11 none false ll_mN ll_mR ll_mK ll_cnt L xs false 64 (.inl (lo_iload 65 2)) := lk_iload_n (k := 2) (by decide +kernel) rfl
theorem k_155_65 (L : Nat) (xs : Nat → Int32) : ll_OK1 cX11_joins RX11 none false ll_mN ll_mR ll_mK ll_cnt L xs false 65 (.inl (lo_ald 66 1)) := lk_zald (by decide +kernel)
theorem k_155_66 (L : Nat) (xs : Nat → Int32) : ll_OK1 cX11_joins RX11 none false ll_mN ll_mR ll_mK ll_cnt L xs false 66 (.inl (lo_if 73 69 (fun x => decide (x = 0)))) := lk_if_eq (off := 7) (by decide +kernel) rfl
theorem k_155_69 (L : Nat) (xs : Nat → Int32) : ll_OK1 cX11_joins RX11 none false ll_mN ll_mR ll_mK ll_cnt L xs false 69 (.inl (lo_push 70 (.int 1))) := lk_iconst (n := 1) (by decide +kernel) (by decide)
theorem k_155_70 (L : Nat) (xs : Nat → Int32) : ll_OK1 cX11_joins RX11 none false ll_mN ll_mR ll_mK ll_cnt L xs false 70 (.inl (lo_goto 74)) := lk_goto (off := 4) (by decide +kernel) rfl
theorem k_155_73 (L : Nat) (xs : Nat → Int32) : ll_OK1 cX11_joins RX11 none false ll_mN ll_mR ll_mK ll_cnt L xs false 73 (.inl (lo_push 74 (.int 0))) := lk_iconst (n := 0) (by decide +kernel) (by decide)
theorem k_155_74 (L : Nat) (xs : Nat → Int32) : ll_OK1 cX11_joins RX11 none false ll_mN ll_mR ll_mK ll_cnt L xs false 74 (.inl (lo_ast 75 1)) := lk_zast (by decide +kernel)
theorem k_155_75 (L : Nat) (xs : Nat → Int32) : ll_OK1 cX11_joins RX11 none false ll_mN ll_mR ll_mK ll_cnt L xs false 75 (.inl (lo_aload 76 0)) := lk_aload_n (k := 0) (by decide +kernel) rfl
theorem k_155_76 (L : Nat) (xs : Nat → Int32) : ll_OK1 cX11_joins RX11 none false ll_mN ll_mR ll_mK ll_cnt L xs false 76 (.inl (lo_getf 79 11 8)) := lk_getf (ix := 34) (ci := 11) (k := 8) (C := RX11) (T := TX11) (N := 46) (by decide +kernel) rfl in_11 (by decide) tb_613
theorem k_155_79 (L : Nat) (xs : Nat → Int32) : ll_OK1 cX11_joins RX11 none false ll_mN ll_mR ll_mK ll_cnt L xs false 79 (.inl (lo_iload 80 1)) := lk_iload_n (k := 1) (by decide +kernel) rfl
theorem k_155_80 (L : Nat) (xs : Nat → Int32) : ll_OK1 cX11_joins RX11 none false ll_mN ll_mR ll_mK ll_cnt L xs false 80 (.inl (lo_iload 81 3)) := lk_iload_n (k := 3) (by decide +kernel) rfl
theorem k_155_81 (L : Nat) (xs : Nat → Int32) : ll_OK1 cX11_joins RX11 none false ll_mN ll_mR ll_mK ll_cnt L xs false 81 (.inl (lo_if 99 84 (fun x => decide (x = 0)))) := lk_if_eq (off := 18) (by decide +kernel) rfl
theorem k_155_84 (L : Nat) (xs : Nat → Int32) : ll_OK1 cX11_joins RX11 none false ll_mN ll_mR ll_mK ll_cnt L xs false 84 (.inl (lo_aload 85 0)) := lk_aload_n (k := 0) (by decide +kernel) rfl
theorem k_155_85 (L : Nat) (xs : Nat → Int32) : ll_OK1 cX11_joins RX11 none false ll_mN ll_mR ll_mK ll_cnt L xs false 85 (.inl (lo_getf 88 11 8)) := lk_getf (ix := 34) (ci := 11) (k := 8) (C := RX11) (T := TX11) (N := 46) (by decide +kernel) rfl in_11 (by decide) tb_613
theorem k_155_88 (L : Nat) (xs : Nat → Int32) : ll_OK1 cX11_joins RX11 none false ll_mN ll_mR ll_mK ll_cnt L xs false 88 (.inl (lo_iload 89 2)) := lk_iload_n (k := 2) (by decide +kernel) rfl
theorem k_155_89 (L : Nat) (xs : Nat → Int32) : ll_OK1 cX11_joins RX11 none false ll_mN ll_mR ll_mK ll_cnt L xs false 89 (.inl (lo_ald 90 0)) := lk_iald (by decide +kernel)
theorem k_155_90 (L : Nat) (xs : Nat → Int32) : ll_OK1 cX11_joins RX11 none false ll_mN ll_mR ll_mK ll_cnt L xs false 90 (.inl (lo_aload 91 0)) := lk_aload_n (k := 0) (by decide +kernel) rfl
theorem k_155_91 (L : Nat) (xs : Nat → Int32) : ll_OK1 cX11_joins RX11 none false ll_mN ll_mR ll_mK ll_cnt L xs false 91 (.inl (lo_getf 94 11 8)) := lk_getf (ix := 34) (ci := 11) (k := 8) (C := RX11) (T := TX11) (N := 46) (by decide +kernel) rfl in_11 (by decide) tb_613
theorem k_155_94 (L : Nat) (xs : Nat → Int32) : ll_OK1 cX11_joins RX11 none false ll_mN ll_mR ll_mK ll_cnt L xs false 94 (.inl (lo_iload 95 1)) := lk_iload_n (k := 1) (by decide +kernel) rfl
theorem k_155_95 (L : Nat) (xs : Nat → Int32) : ll_OK1 cX11_joins RX11 none false ll_mN ll_mR ll_mK ll_cnt L xs false 95 (.inl (lo_ald 96 0)) := lk_iald (by decide +kernel)
theorem k_155_96 (L : Nat) (xs : Nat → Int32) : ll_OK1 cX11_joins RX11 none false ll_mN ll_mR ll_mK ll_cnt L xs false 96 (.inl (lo_cmp 108 99 (fun x y => decide (y ≤ x)))) := lk_icmp_ge (off := 12) (by decide +kernel) rfl
theorem k_155_99 (L : Nat) (xs : Nat → Int32) : ll_OK1 cX11_joins RX11 none false ll_mN ll_mR ll_mK ll_cnt L xs false 99 (.inl (lo_aload 100 0)) := lk_aload_n (k := 0) (by decide +kernel) rfl
theorem k_155_100 (L : Nat) (xs : Nat → Int32) : ll_OK1 cX11_joins RX11 none false ll_mN ll_mR ll_mK ll_cnt L xs false 100 (.inl (lo_getf 103 11 8)) := lk_getf (ix := 34) (ci := 11) (k := 8) (C := RX11) (T := TX11) (N := 46) (by decide +kernel) rfl in_11 (by decide) tb_613
theorem k_155_103 (L : Nat) (xs : Nat → Int32) : ll_OK1 cX11_joins RX11 none false ll_mN ll_mR ll_mK ll_cnt L xs false 103 (.inl (lo_iload 104 2)) := lk_iload_n (k := 2) (by decide +kernel) rfl
theorem k_155_104 (L : Nat) (xs : Nat → Int32) : ll_OK1 cX11_joins RX11 none false ll_mN ll_mR ll_mK ll_cnt L xs false 104 (.inl (lo_ald 105 0)) := lk_iald (by decide +kernel)
theorem k_155_105 (L : Nat) (xs : Nat → Int32) : ll_OK1 cX11_joins RX11 none false ll_mN ll_mR ll_mK ll_cnt L xs false 105 (.inl (lo_goto 114)) := lk_goto (off := 9) (by decide +kernel) rfl
theorem k_155_108 (L : Nat) (xs : Nat → Int32) : ll_OK1 cX11_joins RX11 none false ll_mN ll_mR ll_mK ll_cnt L xs false 108 (.inl (lo_aload 109 0)) := lk_aload_n (k := 0) (by decide +kernel) rfl
theorem k_155_109 (L : Nat) (xs : Nat → Int32) : ll_OK1 cX11_joins RX11 none false ll_mN ll_mR ll_mK ll_cnt L xs false 109 (.inl (lo_getf 112 11 8)) := lk_getf (ix := 34) (ci := 11) (k := 8) (C := RX11) (T := TX11) (N := 46) (by decide +kernel) rfl in_11 (by decide) tb_613
theorem k_155_112 (L : Nat) (xs : Nat → Int32) : ll_OK1 cX11_joins RX11 none false ll_mN ll_mR ll_mK ll_cnt L xs false 112 (.inl (lo_iload 113 1)) := lk_iload_n (k := 1) (by decide +kernel) rfl
theorem k_155_113 (L : Nat) (xs : Nat → Int32) : ll_OK1 cX11_joins RX11 none false ll_mN ll_mR ll_mK ll_cnt L xs false 113 (.inl (lo_ald 114 0)) := lk_iald (by decide +kernel)
theorem k_155_114 (L : Nat) (xs : Nat → Int32) : ll_OK1 cX11_joins RX11 none false ll_mN ll_mR ll_mK ll_cnt L xs false 114 (.inl (lo_ast 115 0)) := lk_iast (by decide +kernel)
theorem k_155_115 (L : Nat) (xs : Nat → Int32) : ll_OK1 cX11_joins RX11 none false ll_mN ll_mR ll_mK ll_cnt L xs false 115 (.inl (lo_aload 116 0)) := lk_aload_n (k := 0) (by decide +kernel) rfl
theorem k_155_116 (L : Nat) (xs : Nat → Int32) : ll_OK1 cX11_joins RX11 none false ll_mN ll_mR ll_mK ll_cnt L xs false 116 (.inl (lo_getf 119 11 5)) := lk_getf (ix := 25) (ci := 11) (k := 5) (C := RX11) (T := TX11) (N := 46) (by decide +kernel) rfl in_11 (by decide) tb_610
theorem k_155_119 (L : Nat) (xs : Nat → Int32) : ll_OK1 cX11_joins RX11 none false ll_mN ll_mR ll_mK ll_cnt L xs false 119 (.inl (lo_iload 120 1)) := lk_iload_n (k := 1) (by decide +kernel) rfl
theorem k_155_120 (L : Nat) (xs : Nat → Int32) : ll_OK1 cX11_joins RX11 none false ll_mN ll_mR ll_mK ll_cnt L xs false 120 (.inl (lo_ald 121 0)) := lk_iald (by decide +kernel)
theorem k_155_121 (L : Nat) (xs : Nat → Int32) : ll_OK1 cX11_joins RX11 none false ll_mN ll_mR ll_mK ll_cnt L xs false 121 (.inl (lo_push 122 (.int 4))) := lk_iconst (n := 4) (by decide +kernel) (by decide)
theorem k_155_122 (L : Nat) (xs : Nat → Int32) : ll_OK1 cX11_joins RX11 none false ll_mN ll_mR ll_mK ll_cnt L xs false 122 (.inl (lo_cmp 169 125 (fun x y => decide (¬ x = y)))) := lk_icmp_ne (off := 47) (by decide +kernel) rfl
theorem k_155_125 (L : Nat) (xs : Nat → Int32) : ll_OK1 cX11_joins RX11 none false ll_mN ll_mR ll_mK ll_cnt L xs false 125 (.inl (lo_aload 126 0)) := lk_aload_n (k := 0) (by decide +kernel) rfl
theorem k_155_126 (L : Nat) (xs : Nat → Int32) : ll_OK1 cX11_joins RX11 none false ll_mN ll_mR ll_mK ll_cnt L xs false 126 (.inl (lo_getf 129 11 11)) := lk_getf (ix := 43) (ci := 11) (k := 11) (C := RX11) (T := TX11) (N := 46) (by decide +kernel) rfl in_11 (by decide) tb_616
theorem k_155_129 (L : Nat) (xs : Nat → Int32) : ll_OK1 cX11_joins RX11 none false ll_mN ll_mR ll_mK ll_cnt L xs false 129 (.inl (lo_iload 130 1)) := lk_iload_n (k := 1) (by decide +kernel) rfl
theorem k_155_130 (L : Nat) (xs : Nat → Int32) : ll_OK1 cX11_joins RX11 none false ll_mN ll_mR ll_mK ll_cnt L xs false 130 (.inl (lo_aload 131 0)) := lk_aload_n (k := 0) (by decide +kernel) rfl
theorem k_155_131 (L : Nat) (xs : Nat → Int32) : ll_OK1 cX11_joins RX11 none false ll_mN ll_mR ll_mK ll_cnt L xs false 131 (.inl (lo_getf 134 11 11)) := lk_getf (ix := 43) (ci := 11) (k := 11) (C := RX11) (T := TX11) (N := 46) (by decide +kernel) rfl in_11 (by decide) tb_616
theorem k_155_134 (L : Nat) (xs : Nat → Int32) : ll_OK1 cX11_joins RX11 none false ll_mN ll_mR ll_mK ll_cnt L xs false 134 (.inl (lo_iload 135 1)) := lk_iload_n (k := 1) (by decide +kernel) rfl
theorem k_155_135 (L : Nat) (xs : Nat → Int32) : ll_OK1 cX11_joins RX11 none false ll_mN ll_mR ll_mK ll_cnt L xs false 135 (.inl (lo_ald 136 1)) := lk_zald (by decide +kernel)
theorem k_155_136 (L : Nat) (xs : Nat → Int32) : ll_OK1 cX11_joins RX11 none false ll_mN ll_mR ll_mK ll_cnt L xs false 136 (.inl (lo_if 152 139 (fun x => decide (x = 0)))) := lk_if_eq (off := 16) (by decide +kernel) rfl
theorem k_155_139 (L : Nat) (xs : Nat → Int32) : ll_OK1 cX11_joins RX11 none false ll_mN ll_mR ll_mK ll_cnt L xs false 139 (.inl (lo_aload 140 0)) := lk_aload_n (k := 0) (by decide +kernel) rfl
theorem k_155_140 (L : Nat) (xs : Nat → Int32) : ll_OK1 cX11_joins RX11 none false ll_mN ll_mR ll_mK ll_cnt L xs false 140 (.inl (lo_getf 143 11 11)) := lk_getf (ix := 43) (ci := 11) (k := 11) (C := RX11) (T := TX11) (N := 46) (by decide +kernel) rfl in_11 (by decide) tb_616
theorem k_155_143 (L : Nat) (xs : Nat → Int32) : ll_OK1 cX11_joins RX11 none false ll_mN ll_mR ll_mK ll_cnt L xs false 143 (.inl (lo_iload 144 2)) := lk_iload_n (k := 2) (by decide +kernel) rfl
theorem k_155_144 (L : Nat) (xs : Nat → Int32) : ll_OK1 cX11_joins RX11 none false ll_mN ll_mR ll_mK ll_cnt L xs false 144 (.inl (lo_ald 145 1)) := lk_zald (by decide +kernel)
theorem k_155_145 (L : Nat) (xs : Nat → Int32) : ll_OK1 cX11_joins RX11 none false ll_mN ll_mR ll_mK ll_cnt L xs false 145 (.inl (lo_if 152 148 (fun x => decide (x = 0)))) := lk_if_eq (off := 7) (by decide +kernel) rfl
theorem k_155_148 (L : Nat) (xs : Nat → Int32) : ll_OK1 cX11_joins RX11 none false ll_mN ll_mR ll_mK ll_cnt L xs false 148 (.inl (lo_push 149 (.int 1))) := lk_iconst (n := 1) (by decide +kernel) (by decide)
theorem k_155_149 (L : Nat) (xs : Nat → Int32) : ll_OK1 cX11_joins RX11 none false ll_mN ll_mR ll_mK ll_cnt L xs false 149 (.inl (lo_goto 153)) := lk_goto (off := 4) (by decide +kernel) rfl
theorem k_155_152 (L : Nat) (xs : Nat → Int32) : ll_OK1 cX11_joins RX11 none false ll_mN ll_mR ll_mK ll_cnt L xs false 152 (.inl (lo_push 153 (.int 0))) := lk_iconst (n := 0) (by decide +kernel) (by decide)
theorem k_155_153 (L : Nat) (xs : Nat → Int32) : ll_OK1 cX11_joins RX11 none false ll_mN ll_mR ll_mK ll_cnt L xs false 153 (.inl (lo_ast 154 1)) := lk_zast (by decide +kernel)
theorem k_155_154 (L : Nat) (xs : Nat → Int32) : ll_OK1 cX11_joins RX11 none false ll_mN ll_mR ll_mK ll_cnt L xs false 154 (.inl (lo_aload 155 0)) := lk_aload_n (k := 0) (by decide +kernel) rfl
theorem k_155_155 (L : Nat) (xs : Nat → Int32) : ll_OK1 cX11_joins RX11 none false ll_mN ll_mR ll_mK ll_cnt L xs false 155 (.inl (lo_getf 158 11 8)) := lk_getf (ix := 34) (ci := 11) (k := 8) (C := RX11) (T := TX11) (N := 46) (by decide +kernel) rfl in_11 (by decide) tb_613
theorem k_155_158 (L : Nat) (xs : Nat → Int32) : ll_OK1 cX11_joins RX11 none false ll_mN ll_mR ll_mK ll_cnt L xs false 158 (.inl (lo_iload 159 1)) := lk_iload_n (k := 1) (by decide +kernel) rfl
theorem k_155_159 (L : Nat) (xs : Nat → Int32) : ll_OK1 cX11_joins RX11 none false ll_mN ll_mR ll_mK ll_cnt L xs false 159 (.inl (lo_dup2 160)) := lk_dup2 (by decide +kernel)
theorem k_155_160 (L : Nat) (xs : Nat → Int32) : ll_OK1 cX11_joins RX11 none false ll_mN ll_mR ll_mK ll_cnt L xs false 160 (.inl (lo_ald 161 0)) := lk_iald (by decide +kernel)
theorem k_155_161 (L : Nat) (xs : Nat → Int32) : ll_OK1 cX11_joins RX11 none false ll_mN ll_mR ll_mK ll_cnt L xs false 161 (.inl (lo_aload 162 0)) := lk_aload_n (k := 0) (by decide +kernel) rfl
theorem k_155_162 (L : Nat) (xs : Nat → Int32) : ll_OK1 cX11_joins RX11 none false ll_mN ll_mR ll_mK ll_cnt L xs false 162 (.inl (lo_getf 165 11 8)) := lk_getf (ix := 34) (ci := 11) (k := 8) (C := RX11) (T := TX11) (N := 46) (by decide +kernel) rfl in_11 (by decide) tb_613
theorem k_155_165 (L : Nat) (xs : Nat → Int32) : ll_OK1 cX11_joins RX11 none false ll_mN ll_mR ll_mK ll_cnt L xs false 165 (.inl (lo_iload 166 2)) := lk_iload_n (k := 2) (by decide +kernel) rfl
theorem k_155_166 (L : Nat) (xs : Nat → Int32) : ll_OK1 cX11_joins RX11 none false ll_mN ll_mR ll_mK ll_cnt L xs false 166 (.inl (lo_ald 167 0)) := lk_iald (by decide +kernel)
theorem k_155_167 (L : Nat) (xs : Nat → Int32) : ll_OK1 cX11_joins RX11 none false ll_mN ll_mR ll_mK ll_cnt L xs false 167 (.inl (lo_bin 168 (fun x y => x + y))) := lk_iadd (by decide +kernel)
theorem k_155_168 (L : Nat) (xs : Nat → Int32) : ll_OK1 cX11_joins RX11 none false ll_mN ll_mR ll_mK ll_cnt L xs false 168 (.inl (lo_ast 169 0)) := lk_iast (by decide +kernel)
theorem k_155_169 (L : Nat) (xs : Nat → Int32) : ll_OK1 cX11_joins RX11 none false ll_mN ll_mR ll_mK ll_cnt L xs false 169 (.inr (.inr 0)) := ⟨fun _ => ⟨(by decide +kernel), rfl⟩, (fun h => by cases h), fun h => by cases h⟩
theorem ok_155 (L : Nat) (xs : Nat → Int32) : ∀ q ∈ cd_155, ll_OK1 cX11_joins RX11 none false ll_mN ll_mR ll_mK ll_cnt L xs false q.1 q.2 :=
  List.forall_mem_cons.mpr ⟨k_155_0 L xs, List.forall_mem_cons.mpr ⟨k_155_1 L xs, List.forall_mem_cons.mpr ⟨k_155_4 L xs, List.forall_mem_cons.mpr ⟨k_155_5 L xs, List.forall_mem_cons.mpr ⟨k_155_6 L xs, List.forall_mem_cons.mpr ⟨k_155_9 L xs, List.forall_mem_cons.mpr ⟨k_155_10 L xs, List.forall_mem_cons.mpr ⟨k_155_11 L xs, List.forall_mem_cons.mpr ⟨k_155_12 L xs, List.forall_mem_cons.mpr ⟨k_155_15 L xs, List.forall_mem_cons.mpr ⟨k_155_16 L xs, List.forall_mem_cons.mpr ⟨k_155_17 L xs, List.forall_mem_cons.mpr ⟨k_155_20 L xs, List.forall_mem_cons.mpr ⟨k_155_21 L xs, List.forall_mem_cons.mpr ⟨k_155_24 L xs, List.forall_mem_cons.mpr ⟨k_155_25 L xs, List.forall_mem_cons.mpr ⟨k_155_26 L xs, List.forall_mem_cons.mpr ⟨k_155_29 L xs, List.forall_mem_cons.mpr ⟨k_155_30 L xs, List.forall_mem_cons.mpr ⟨k_155_33 L xs, List.forall_mem_cons.mpr ⟨k_155_34 L xs, List.forall_mem_cons.mpr ⟨k_155_35 L xs, List.forall_mem_cons.mpr ⟨k_155_36 L xs, List.forall_mem_cons.mpr ⟨k_155_37 L xs, List.forall_mem_cons.mpr ⟨k_155_40 L xs, List.forall_mem_cons.mpr ⟨k_155_41 L xs, List.forall_mem_cons.mpr ⟨k_155_42 L xs, List.forall_mem_cons.mpr ⟨k_155_43 L xs, List.forall_mem_cons.mpr ⟨k_155_46 L xs, List.forall_mem_cons.mpr ⟨k_155_47 L xs, List.forall_mem_cons.mpr ⟨k_155_50 L xs, List.forall_mem_cons.mpr ⟨k_155_51 L xs, List.forall_mem_cons.mpr ⟨k_155_52 L xs, List.forall_mem_cons.mpr ⟨k_155_55 L xs, List.forall_mem_cons.mpr ⟨k_155_56 L xs, List.forall_mem_cons.mpr ⟨k_155_57 L xs, List.forall_mem_cons.mpr ⟨k_155_60 L xs, List.forall_mem_cons.mpr ⟨k_155_61 L xs, List.forall_mem_cons.mpr ⟨k_155_64 L xs, List.forall_mem_cons.mpr ⟨k_155_65 L xs, List.forall_mem_cons.mpr ⟨k_155_66 L xs, List.forall_mem_cons.mpr ⟨k_155_69 L xs, List.forall_mem_cons.mpr ⟨k_155_70 L xs, List.forall_mem_cons.mpr ⟨k_155_73 L xs, List.forall_mem_cons.mpr ⟨k_155_74 L xs, List.forall_mem_cons.mpr ⟨k_155_75 L xs, List.forall_mem_cons.mpr ⟨k_155_76 L xs, List.forall_mem_cons.mpr ⟨k_155_79 L xs, List.forall_mem_cons.mpr ⟨k_155_80 L xs, List.forall_mem_cons.mpr ⟨k_155_81 L xs, List.forall_mem_cons.mpr ⟨k_155_84 L xs, List.forall_mem_cons.mpr ⟨k_155_85 L xs, List.forall_mem_cons.mpr ⟨k_155_88 L xs, List.forall_mem_cons.mpr ⟨k_155_89 L xs, List.forall_mem_cons.mpr ⟨k_155_90 L xs, List.forall_mem_cons.mpr ⟨k_155_91 L xs, List.forall_mem_cons.mpr ⟨k_155_94 L xs, List.forall_mem_cons.mpr ⟨k_155_95 L xs, List.forall_mem_cons.mpr ⟨k_155_96 L xs, List.forall_mem_cons.mpr ⟨k_155_99 L xs, List.forall_mem_cons.mpr ⟨k_155_100 L xs, List.forall_mem_cons.mpr ⟨k_155_103 L xs, List.forall_mem_cons.mpr ⟨k_155_104 L xs, List.forall_mem_cons.mpr ⟨k_155_105 L xs, List.forall_mem_cons.mpr ⟨k_155_108 L xs, List.forall_mem_cons.mpr ⟨k_155_109 L xs, List.forall_mem_cons.mpr ⟨k_155_112 L xs, List.forall_mem_cons.mpr ⟨k_155_113 L xs, List.forall_mem_cons.mpr ⟨k_155_114 L xs, List.forall_mem_cons.mpr ⟨k_155_115 L xs, List.forall_mem_cons.mpr ⟨k_155_116 L xs, List.forall_mem_cons.mpr ⟨k_155_119 L xs, List.forall_mem_cons.mpr ⟨k_155_120 L xs, List.forall_mem_cons.mpr ⟨k_155_121 L xs, List.forall_mem_cons.mpr ⟨k_155_122 L xs, List.forall_mem_cons.mpr ⟨k_155_125 L xs, List.forall_mem_cons.mpr ⟨k_155_126 L xs, List.forall_mem_cons.mpr ⟨k_155_129 L xs, List.forall_mem_cons.mpr ⟨k_155_130 L xs, List.forall_mem_cons.mpr ⟨k_155_131 L xs, List.forall_mem_cons.mpr ⟨k_155_134 L xs, List.forall_mem_cons.mpr ⟨k_155_135 L xs, List.forall_mem_cons.mpr ⟨k_155_136 L xs, List.forall_mem_cons.mpr ⟨k_155_139 L xs, List.forall_mem_cons.mpr ⟨k_155_140 L xs, List.forall_mem_cons.mpr ⟨k_155_143 L xs, List.forall_mem_cons.mpr ⟨k_155_144 L xs, List.forall_mem_cons.mpr ⟨k_155_145 L xs, List.forall_mem_cons.mpr ⟨k_155_148 L xs, List.forall_mem_cons.mpr ⟨k_155_149 L xs, List.forall_mem_cons.mpr ⟨k_155_152 L xs, List.forall_mem_cons.mpr ⟨k_155_153 L xs, List.forall_mem_cons.mpr ⟨k_155_154 L xs, List.forall_mem_cons.mpr ⟨k_155_155 L xs, List.forall_mem_cons.mpr ⟨k_155_158 L xs, List.forall_mem_cons.mpr ⟨k_155_159 L xs, List.forall_mem_cons.mpr ⟨k_155_160 L xs, List.forall_mem_cons.mpr ⟨k_155_161 L xs, List.forall_mem_cons.mpr ⟨k_155_162 L xs, List.forall_mem_cons.mpr ⟨k_155_165 L xs, List.forall_mem_cons.mpr ⟨k_155_166 L xs, List.forall_mem_cons.mpr ⟨k_155_167 L xs, List.forall_mem_cons.mpr ⟨k_155_168 L xs, List.forall_mem_cons.mpr ⟨k_155_169 L xs, fun _ h => absurd h List.not_mem_nil⟩⟩⟩⟩⟩⟩⟩⟩⟩⟩⟩⟩⟩⟩⟩⟩⟩⟩⟩⟩⟩⟩⟩⟩⟩⟩⟩⟩⟩⟩⟩⟩⟩⟩⟩⟩⟩⟩⟩⟩⟩⟩⟩⟩⟩⟩⟩⟩⟩⟩⟩⟩⟩⟩⟩⟩⟩⟩⟩⟩⟩⟩⟩⟩⟩⟩⟩⟩⟩⟩⟩⟩⟩⟩⟩⟩⟩⟩⟩⟩⟩⟩⟩⟩⟩⟩⟩⟩⟩⟩⟩⟩⟩⟩⟩⟩⟩⟩⟩⟩⟩⟩⟩⟩
/-- InclusionProverModel.kept.(II)I -/
def cd_156 : List (Nat × ll_O) := [
  (0, .inl (lo_push 1 (.int 0))),
  (1, .inl (lo_istore 2 3)),
  (2, .inl (lo_iload 3 3)),
  (3, .inl (lo_aload 4 0)),
  (4, .inl (lo_getf 7 11 12)),
  (7, .inl (lo_cmp 101 10 (fun x y => decide (y ≤ x)))),
  (10, .inl (lo_aload 11 0)),
  (11, .inl (lo_getf 14 11 5)),
  (14, .inl (lo_iload 15 3)),
  (15, .inl (lo_ald 16 0)),
  (16, .inl (lo_iload 17 1)),
  (17, .inl (lo_cmp 34 20 (fun x y => decide (¬ x = y)))),
  (20, .inl (lo_aload 21 0)),
  (21, .inl (lo_getf 24 11 7)),
  (24, .inl (lo_iload 25 3)),
  (25, .inl (lo_ald 26 0)),
  (26, .inl (lo_iload 27 2)),
  (27, .inl (lo_cmp 34 30 (fun x y => decide (¬ x = y)))),
  (30, .inl (lo_push 31 (.int 1))),
  (31, .inl (lo_goto 35)),
  (34, .inl (lo_push 35 (.int 0))),
  (35, .inl (lo_istore 37 4)),
  (37, .inl (lo_push 38 (.int 0))),
  (38, .inl (lo_istore 40 5)),
  (40, .inl (lo_iload 42 5)),
  (42, .inl (lo_iload 43 2)),
  (43, .inl (lo_cmp 88 46 (fun x y => decide (y ≤ x)))),
  (46, .inl (lo_iload 48 4)),
  (48, .inl (lo_if 88 51 (fun x => decide (x = 0)))),
  (51, .inl (lo_aload 52 0)),
  (52, .inl (lo_getf 55 11 10)),
  (55, .inl (lo_aload 56 0)),
  (56, .inl (lo_getf 59 11 6)),
  (59, .inl (lo_iload 60 3)),
  (60, .inl (lo_ald 61 0)),
  (61, .inl (lo_iload 63 5)),
  (63, .inl (lo_bin 64 (fun x y => x + y))),
  (64, .inl (lo_ald 65 0)),
  (65, .inl (lo_aload 66 0)),
  (66, .inl (lo_getf 69 11 18)),
  (69, .inl (lo_iload 71 5)),
  (71, .inl (lo_ald 72 0)),
  (72, .inl (lo_cmp 79 75 (fun x y => decide (¬ x = y)))),
  (75, .inl (lo_push 76 (.int 1))),
  (76, .inl (lo_goto 80)),
  (79, .inl (lo_push 80 (.int 0))),
  (80, .inl (lo_istore 82 4)),
  (82, .inl (lo_iinc 85 5 1)),
  (85, .inl (lo_goto 40)),
  (88, .inl (lo_iload 90 4)),
  (90, .inl (lo_if 95 93 (fun x => decide (x = 0)))),
  (93, .inl (lo_iload 94 3)),
  (94, .inr (.inr 1)),
  (95, .inl (lo_iinc 98 3 1)),
  (98, .inl (lo_goto 2)),
  (101, .inl (lo_aload 102 0)),
  (102, .inl (lo_iload 103 1)),
  (103, .inl (lo_iload 104 2)),
  (104, .inr (.inl (154, 3, 107))),
  (107, .inr (.inr 1))]
theorem k_156_0 (L : Nat) (xs : Nat → Int32) : ll_OK1 cX11_kept RX11 (some .int) false ll_mN ll_mR ll_mK ll_cnt L xs false 0 (.inl (lo_push 1 (.int 0))) := lk_iconst (n := 0) (by decide +kernel) (by decide)
theorem k_156_1 (L : Nat) (xs : Nat → Int32) : ll_OK1 cX11_kept RX11 (some .int) false ll_mN ll_mR ll_mK ll_cnt L xs false 1 (.inl (lo_istore 2 3)) := lk_istore_n (k := 3) (by decide +kernel) rfl
theorem k_156_2 (L : Nat) (xs : Nat → Int32) : ll_OK1 cX11_kept RX11 (some .int) false ll_mN ll_mR ll_mK ll_cnt L xs false 2 (.inl (lo_iload 3 3)) := lk_iload_n (k := 3) (by decide +kernel) rfl
theorem k_156_3 (L : Nat) (xs : Nat → Int32) : ll_OK1 cX11_kept RX11 (some .int) false ll_mN ll_mR ll_mK ll_cnt L xs false 3 (.inl (lo_aload 4 0)) := lk_aload_n (k := 0) (by decide +kernel) rfl
theorem k_156_4 (L : Nat) (xs : Nat → Int32) : ll_OK1 cX11_kept RX11 (some .int) false ll_mN ll_mR ll_mK ll_cnt L xs false 4 (.inl (lo_getf 7 11 12)) := lk_getf (ix := 117) (ci := 11) (k := 12) (C := RX11) (T := TX11) (N := 46) (by decide +kernel) rfl in_11 (by decide) tb_643
theorem k_156_7 (L : Nat) (xs : Nat → Int32) : ll_OK1 cX11_kept RX11 (some .int) false ll_mN ll_mR ll_mK ll_cnt L xs false 7 (.inl (lo_cmp 101 10 (fun x y => decide (y ≤ x)))) := lk_icmp_ge (off := 94) (by decide +kernel) rfl
theorem k_156_10 (L : Nat) (xs : Nat → Int32) : ll_OK1 cX11_kept RX11 (some .int) false ll_mN ll_mR ll_mK ll_cnt L xs false 10 (.inl (lo_aload 11 0)) := lk_aload_n (k := 0) (by decide +kernel) rfl
theorem k_156_11 (L : Nat) (xs : Nat → Int32) : ll_OK1 cX11_kept RX11 (some .int) false ll_mN ll_mR ll_mK ll_cnt L xs false 11 (.inl (lo_getf 14 11 5)) := lk_getf (ix := 25) (ci := 11) (k := 5) (C := RX11) (T := TX11) (N := 46) (by decide +kernel) rfl in_11 (by decide) tb_610
theorem k_156_14 (L : Nat) (xs : Nat → Int32) : ll_OK1 cX11_kept RX11 (some .int) false ll_mN ll_mR ll_mK ll_cnt L xs false 14 (.inl (lo_iload 15 3)) := lk_iload_n (k := 3) (by decide +kernel) rfl
theorem k_156_15 (L : Nat) (xs : Nat → Int32) : ll_OK1 cX11_kept RX11 (some .int) false ll_mN ll_mR ll_mK ll_cnt L xs false 15 (.inl (lo_ald 16 0)) := lk_iald (by decide +kernel)
theorem k_156_16 (L : Nat) (xs : Nat → Int32) : ll_OK1 cX11_kept RX11 (some .int) false ll_mN ll_mR ll_mK ll_cnt L xs false 16 (.inl (lo_iload 17 1)) := lk_iload_n (k := 1) (by decide +kernel) rfl
theorem k_156_17 (L : Nat) (xs : Nat → Int32) : ll_OK1 cX11_kept RX11 (some .int) false ll_mN ll_mR ll_mK ll_cnt L xs false 17 (.inl (lo_cmp 34 20 (fun x y => decide (¬ x = y)))) := lk_icmp_ne (off := 17) (by decide +kernel) rfl
theorem k_156_20 (L : Nat) (xs : Nat → Int32) : ll_OK1 cX11_kept RX11 (some .int) false ll_mN ll_mR ll_mK ll_cnt L xs false 20 (.inl (lo_aload 21 0)) := lk_aload_n (k := 0) (by decide +kernel) rfl
theorem k_156_21 (L : Nat) (xs : Nat → Int32) : ll_OK1 cX11_kept RX11 (some .int) false ll_mN ll_mR ll_mK ll_cnt L xs false 21 (.inl (lo_getf 24 11 7)) := lk_getf (ix := 31) (ci := 11) (k := 7) (C := RX11) (T := TX11) (N := 46) (by decide +kernel) rfl in_11 (by decide) tb_612
theorem k_156_24 (L : Nat) (xs : Nat → Int32) : ll_OK1 cX11_kept RX11 (some .int) false ll_mN ll_mR ll_mK ll_cnt L xs false 24 (.inl (lo_iload 25 3)) := lk_iload_n (k := 3) (by decide +kernel) rfl
theorem k_156_25 (L : Nat) (xs : Nat → Int32) : ll_OK1 cX11_kept RX11 (some .int) false ll_mN ll_mR ll_mK ll_cnt L xs false 25 (.inl (lo_ald 26 0)) := lk_iald (by decide +kernel)
theorem k_156_26 (L : Nat) (xs : Nat → Int32) : ll_OK1 cX11_kept RX11 (some .int) false ll_mN ll_mR ll_mK ll_cnt L xs false 26 (.inl (lo_iload 27 2)) := lk_iload_n (k := 2) (by decide +kernel) rfl
theorem k_156_27 (L : Nat) (xs : Nat → Int32) : ll_OK1 cX11_kept RX11 (some .int) false ll_mN ll_mR ll_mK ll_cnt L xs false 27 (.inl (lo_cmp 34 30 (fun x y => decide (¬ x = y)))) := lk_icmp_ne (off := 7) (by decide +kernel) rfl
theorem k_156_30 (L : Nat) (xs : Nat → Int32) : ll_OK1 cX11_kept RX11 (some .int) false ll_mN ll_mR ll_mK ll_cnt L xs false 30 (.inl (lo_push 31 (.int 1))) := lk_iconst (n := 1) (by decide +kernel) (by decide)
theorem k_156_31 (L : Nat) (xs : Nat → Int32) : ll_OK1 cX11_kept RX11 (some .int) false ll_mN ll_mR ll_mK ll_cnt L xs false 31 (.inl (lo_goto 35)) := lk_goto (off := 4) (by decide +kernel) rfl
theorem k_156_34 (L : Nat) (xs : Nat → Int32) : ll_OK1 cX11_kept RX11 (some .int) false ll_mN ll_mR ll_mK ll_cnt L xs false 34 (.inl (lo_push 35 (.int 0))) := lk_iconst (n := 0) (by decide +kernel) (by decide)
theorem k_156_35 (L : Nat) (xs : Nat → Int32) : ll_OK1 cX11_kept RX11 (some .int) false ll_mN ll_mR ll_mK ll_cnt L xs false 35 (.inl (lo_istore 37 4)) := lk_istore (by decide +kernel)
theorem k_156_37 (L : Nat) (xs : Nat → Int32) : ll_OK1 cX11_kept RX11 (some .int) false ll_mN ll_mR ll_mK ll_cnt L xs false 37 (.inl (lo_push 38 (.int 0))) := lk_iconst (n := 0) (by decide +kernel) (by decide)
theorem k_156_38 (L : Nat) (xs : Nat → Int32) : ll_OK1 cX11_kept RX11 (some .int) false ll_mN ll_mR ll_mK ll_cnt L xs false 38 (.inl (lo_istore 40 5)) := lk_istore (by decide +kernel)
theorem k_156_40 (L : Nat) (xs : Nat → Int32) : ll_OK1 cX11_kept RX11 (some .int) false ll_mN ll_mR ll_mK ll_cnt L xs false 40 (.inl (lo_iload 42 5)) := lk_iload (by decide +kernel)
theorem k_156_42 (L : Nat) (xs : Nat → Int32) : ll_OK1 cX11_kept RX11 (some .int) false ll_mN ll_mR ll_mK ll_cnt L xs false 42 (.inl (lo_iload 43 2)) := lk_iload_n (k := 2) (by decide +kernel) rfl
theorem k_156_43 (L : Nat) (xs : Nat → Int32) : ll_OK1 cX11_kept RX11 (some .int) false ll_mN ll_mR ll_mK ll_cnt L xs false 43 (.inl (lo_cmp 88 46 (fun x y => decide (y ≤ x)))) := lk_icmp_ge (off := 45) (by decide +kernel) rfl
theorem k_156_46 (L : Nat) (xs : Nat → Int32) : ll_OK1 cX11_kept RX11 (some .int) false ll_mN ll_mR ll_mK ll_cnt L xs false 46 (.inl (lo_iload 48 4)) := lk_iload (by decide +kernel)
theorem k_156_48 (L : Nat) (xs : Nat → Int32) : ll_OK1 cX11_kept RX11 (some .int) false ll_mN ll_mR ll_mK ll_cnt L xs false 48 (.inl (lo_if 88 51 (fun x => decide (x = 0)))) := lk_if_eq (off := 40) (by decide +kernel) rfl
theorem k_156_51 (L : Nat) (xs : Nat → Int32) : ll_OK1 cX11_kept RX11 (some .int) false ll_mN ll_mR ll_mK ll_cnt L xs false 51 (.inl (lo_aload 52 0)) := lk_aload_n (k := 0) (by decide +kernel) rfl
theorem k_156_52 (L : Nat) (xs : Nat → Int32) : ll_OK1 cX11_kept RX11 (some .int) false ll_mN ll_mR ll_mK ll_cnt L xs false 52 (.inl (lo_getf 55 11 10)) := lk_getf (ix := 40) (ci := 11) (k := 10) (C := RX11) (T := TX11) (N := 46) (by decide +kernel) rfl in_11 (by decide) tb_615
theorem k_156_55 (L : Nat) (xs : Nat → Int32) : ll_OK1 cX11_kept RX11 (some .int) false ll_mN ll_mR ll_mK ll_cnt L xs false 55 (.inl (lo_aload 56 0)) := lk_aload_n (k := 0) (by decide +kernel) rfl
theorem k_156_56 (L : Nat) (xs : Nat → Int32) : ll_OK1 cX11_kept RX11 (some .int) false ll_mN ll_mR ll_mK ll_cnt L xs false 56 (.inl (lo_getf 59 11 6)) := lk_getf (ix := 28) (ci := 11) (k := 6) (C := RX11) (T := TX11) (N := 46) (by decide +kernel) rfl in_11 (by decide) tb_611
theorem k_156_59 (L : Nat) (xs : Nat → Int32) : ll_OK1 cX11_kept RX11 (some .int) false ll_mN ll_mR ll_mK ll_cnt L xs false 59 (.inl (lo_iload 60 3)) := lk_iload_n (k := 3) (by decide +kernel) rfl
theorem k_156_60 (L : Nat) (xs : Nat → Int32) : ll_OK1 cX11_kept RX11 (some .int) false ll_mN ll_mR ll_mK ll_cnt L xs false 60 (.inl (lo_ald 61 0)) := lk_iald (by decide +kernel)
theorem k_156_61 (L : Nat) (xs : Nat → Int32) : ll_OK1 cX11_kept RX11 (some .int) false ll_mN ll_mR ll_mK ll_cnt L xs false 61 (.inl (lo_iload 63 5)) := lk_iload (by decide +kernel)
theorem k_156_63 (L : Nat) (xs : Nat → Int32) : ll_OK1 cX11_kept RX11 (some .int) false ll_mN ll_mR ll_mK ll_cnt L xs false 63 (.inl (lo_bin 64 (fun x y => x + y))) := lk_iadd (by decide +kernel)
theorem k_156_64 (L : Nat) (xs : Nat → Int32) : ll_OK1 cX11_kept RX11 (some .int) false ll_mN ll_mR ll_mK ll_cnt L xs false 64 (.inl (lo_ald 65 0)) := lk_iald (by decide +kernel)
theorem k_156_65 (L : Nat) (xs : Nat → Int32) : ll_OK1 cX11_kept RX11 (some .int) false ll_mN ll_mR ll_mK ll_cnt L xs false 65 (.inl (lo_aload 66 0)) := lk_aload_n (k := 0) (by decide +kernel) rfl
theorem k_156_66 (L : Nat) (xs : Nat → Int32) : ll_OK1 cX11_kept RX11 (some .int) false ll_mN ll_mR ll_mK ll_cnt L xs false 66 (.inl (lo_getf 69 11 18)) := lk_getf (ix := 56) (ci := 11) (k := 18) (C := RX11) (T := TX11) (N := 46) (by decide +kernel) rfl in_11 (by decide) tb_621
theorem k_156_69 (L : Nat) (xs : Nat → Int32) : ll_OK1 cX11_kept RX11 (some .int) false ll_mN ll_mR ll_mK ll_cnt L xs false 69 (.inl (lo_iload 71 5)) := lk_iload (by decide +kernel)
theorem k_156_71 (L : Nat) (xs : Nat → Int32) : ll_OK1 cX11_kept RX11 (some .int) false ll_mN ll_mR ll_mK ll_cnt L xs false 71 (.inl (lo_ald 72 0)) := lk_iald (by decide +kernel)
theorem k_156_72 (L : Nat) (xs : Nat → Int32) : ll_OK1 cX11_kept RX11 (some .int) false ll_mN ll_mR ll_mK ll_cnt L xs false 72 (.inl (lo_cmp 79 75 (fun x y => decide (¬ x = y)))) := lk_icmp_ne (off := 7) (by decide +kernel) rfl
theorem k_156_75 (L : Nat) (xs : Nat → Int32) : ll_OK1 cX11_kept RX11 (some .int) false ll_mN ll_mR ll_mK ll_cnt L xs false 75 (.inl (lo_push 76 (.int 1))) := lk_iconst (n := 1) (by decide +kernel) (by decide)
theorem k_156_76 (L : Nat) (xs : Nat → Int32) : ll_OK1 cX11_kept RX11 (some .int) false ll_mN ll_mR ll_mK ll_cnt L xs false 76 (.inl (lo_goto 80)) := lk_goto (off := 4) (by decide +kernel) rfl
theorem k_156_79 (L : Nat) (xs : Nat → Int32) : ll_OK1 cX11_kept RX11 (some .int) false ll_mN ll_mR ll_mK ll_cnt L xs false 79 (.inl (lo_push 80 (.int 0))) := lk_iconst (n := 0) (by decide +kernel) (by decide)
theorem k_156_80 (L : Nat) (xs : Nat → Int32) : ll_OK1 cX11_kept RX11 (some .int) false ll_mN ll_mR ll_mK ll_cnt L xs false 80 (.inl (lo_istore 82 4)) := lk_istore (by decide +kernel)
theorem k_156_82 (L : Nat) (xs : Nat → Int32) : ll_OK1 cX11_kept RX11 (some .int) false ll_mN ll_mR ll_mK ll_cnt L xs false 82 (.inl (lo_iinc 85 5 1)) := lk_iinc (n := 1) (by decide +kernel) (by decide)
theorem k_156_85 (L : Nat) (xs : Nat → Int32) : ll_OK1 cX11_kept RX11 (some .int) false ll_mN ll_mR ll_mK ll_cnt L xs false 85 (.inl (lo_goto 40)) := lk_goto (off := (-45)) (by decide +kernel) rfl
theorem k_156_88 (L : Nat) (xs : Nat → Int32) : ll_OK1 cX11_kept RX11 (some .int) false ll_mN ll_mR ll_mK ll_cnt L xs false 88 (.inl (lo_iload 90 4)) := lk_iload (by decide +kernel)
theorem k_156_90 (L : Nat) (xs : Nat → Int32) : ll_OK1 cX11_kept RX11 (some .int) false ll_mN ll_mR ll_mK ll_cnt L xs false 90 (.inl (lo_if 95 93 (fun x => decide (x = 0)))) := lk_if_eq (off := 5) (by decide +kernel) rfl
theorem k_156_93 (L : Nat) (xs : Nat → Int32) : ll_OK1 cX11_kept RX11 (some .int) false ll_mN ll_mR ll_mK ll_cnt L xs false 93 (.inl (lo_iload 94 3)) := lk_iload_n (k := 3) (by decide +kernel) rfl
theorem k_156_94 (L : Nat) (xs : Nat → Int32) : ll_OK1 cX11_kept RX11 (some .int) false ll_mN ll_mR ll_mK ll_cnt L xs false 94 (.inr (.inr 1)) := ⟨(fun h => by cases h), (fun _ => ⟨(by decide +kernel), rfl⟩), fun h => by cases h⟩
theorem k_156_95 (L : Nat) (xs : Nat → Int32) : ll_OK1 cX11_kept RX11 (some .int) false ll_mN ll_mR ll_mK ll_cnt L xs false 95 (.inl (lo_iinc 98 3 1)) := lk_iinc (n := 1) (by decide +kernel) (by decide)
theorem k_156_98 (L : Nat) (xs : Nat → Int32) : ll_OK1 cX11_kept RX11 (some .int) false ll_mN ll_mR ll_mK ll_cnt L xs false 98 (.inl (lo_goto 2)) := lk_goto (off := (-96)) (by decide +kernel) rfl
theorem k_156_101 (L : Nat) (xs : Nat → Int32) : ll_OK1 cX11_kept RX11 (some .int) false ll_mN ll_mR ll_mK ll_cnt L xs false 101 (.inl (lo_aload 102 0)) := lk_aload_n (k := 0) (by decide +kernel) rfl
theorem k_156_102 (L : Nat) (xs : Nat → Int32) : ll_OK1 cX11_kept RX11 (some .int) false ll_mN ll_mR ll_mK ll_cnt L xs false 102 (.inl (lo_iload 103 1)) := lk_iload_n (k := 1) (by decide +kernel) rfl
theorem k_156_103 (L : Nat) (xs : Nat → Int32) : ll_OK1 cX11_kept RX11 (some .int) false ll_mN ll_mR ll_mK ll_cnt L xs false 103 (.inl (lo_iload 104 2)) := lk_iload_n (k := 2) (by decide +kernel) rfl
theorem k_156_104 (L : Nat) (xs : Nat → Int32) : ll_OK1 cX11_kept RX11 (some .int) false ll_mN ll_mR ll_mK ll_cnt L xs false 104 (.inr (.inl (154, 3, 107))) := ⟨rfl, by decide, by rw [mN_154, mK_154, mR_154]; exact lj_v 126 2 11 (RX11, TX11, 46) (by decide +kernel) tb_646 tb_647 tb_648 rfl rfl rfl rfl (by decide +kernel)⟩
theorem k_156_107 (L : Nat) (xs : Nat → Int32) : ll_OK1 cX11_kept RX11 (some .int) false ll_mN ll_mR ll_mK ll_cnt L xs false 107 (.inr (.inr 1)) := ⟨(fun h => by cases h), (fun _ => ⟨(by decide +kernel), rfl⟩), fun h => by cases h⟩
theorem ok_156 (L : Nat) (xs : Nat → Int32) : ∀ q ∈ cd_156, ll_OK1 cX11_kept RX11 (some .int) false ll_mN ll_mR ll_mK ll_cnt L xs false q.1 q.2 :=
  List.forall_mem_cons.mpr ⟨k_156_0 L xs, List.forall_mem_cons.mpr ⟨k_156_1 L xs, List.forall_mem_cons.mpr ⟨k_156_2 L xs, List.forall_mem_cons.mpr ⟨k_156_3 L xs, List.forall_mem_cons.mpr ⟨k_156_4 L xs, List.forall_mem_cons.mpr ⟨k_156_7 L xs, List.forall_mem_cons.mpr ⟨k_156_10 L xs, List.forall_mem_cons.mpr ⟨k_156_11 L xs, List.forall_mem_cons.mpr ⟨k_156_14 L xs, List.forall_mem_cons.mpr ⟨k_156_15 L xs, List.forall_mem_cons.mpr ⟨k_156_16 L xs, List.forall_mem_cons.mpr ⟨k_156_17 L xs, List.forall_mem_cons.mpr ⟨k_156_20 L xs, List.forall_mem_cons.mpr ⟨k_156_21 L xs, List.forall_mem_cons.mpr ⟨k_156_24 L xs, List.forall_mem_cons.mpr ⟨k_156_25 L xs, List.forall_mem_cons.mpr ⟨k_156_26 L xs, List.forall_mem_cons.mpr ⟨k_156_27 L xs, List.forall_mem_cons.mpr ⟨k_156_30 L xs, List.forall_mem_cons.mpr ⟨k_156_31 L xs, List.forall_mem_cons.mpr ⟨k_156_34 L xs, List.forall_mem_cons.mpr ⟨k_156_35 L xs, List.forall_mem_cons.mpr ⟨k_156_37 L xs, List.forall_mem_cons.mpr ⟨k_156_38 L xs, List.forall_mem_cons.mpr ⟨k_156_40 L xs, List.forall_mem_cons.mpr ⟨k_156_42 L xs, List.forall_mem_cons.mpr ⟨k_156_43 L xs, List.forall_mem_cons.mpr ⟨k_156_46 L xs, List.forall_mem_cons.mpr ⟨k_156_48 L xs, List.forall_mem_cons.mpr ⟨k_156_51 L xs, List.forall_mem_cons.mpr ⟨k_156_52 L xs, List.forall_mem_cons.mpr ⟨k_156_55 L xs, List.forall_mem_cons.mpr ⟨k_156_56 L xs, List.forall_mem_cons.mpr ⟨k_156_59 L xs, List.forall_mem_cons.mpr ⟨k_156_60 L xs, List.forall_mem_cons.mpr ⟨k_156_61 L xs, List.forall_mem_cons.mpr ⟨k_156_63 L xs, List.forall_mem_cons.mpr ⟨k_156_64 L xs, List.forall_mem_cons.mpr ⟨k_156_65 L xs, List.forall_mem_cons.mpr ⟨k_156_66 L xs, List.forall_mem_cons.mpr ⟨k_156_69 L xs, List.forall_mem_cons.mpr ⟨k_156_71 L xs, List.forall_mem_cons.mpr ⟨k_156_72 L xs, List.forall_mem_cons.mpr ⟨k_156_75 L xs, List.forall_mem_cons.mpr ⟨k_156_76 L xs, List.forall_mem_cons.mpr ⟨k_156_79 L xs, List.forall_mem_cons.mpr ⟨k_156_80 L xs, List.forall_mem_cons.mpr ⟨k_156_82 L xs, List.forall_mem_cons.mpr ⟨k_156_85 L xs, List.forall_mem_cons.mpr ⟨k_156_88 L xs, List.forall_mem_cons.mpr ⟨k_156_90 L xs, List.forall_mem_cons.mpr ⟨k_156_93 L xs, List.forall_mem_cons.mpr ⟨k_156_94 L xs, List.forall_mem_cons.mpr ⟨k_156_95 L xs, List.forall_mem_cons.mpr ⟨k_156_98 L xs, List.forall_mem_cons.mpr ⟨k_156_101 L xs, List.forall_mem_cons.mpr ⟨k_156_102 L xs, List.forall_mem_cons.mpr ⟨k_156_103 L xs, List.forall_mem_cons.mpr ⟨k_156_104 L xs, List.forall_mem_cons.mpr ⟨k_156_107 L xs, fun _ h => absurd h List.not_mem_nil⟩⟩⟩⟩⟩⟩⟩⟩⟩⟩⟩⟩⟩⟩⟩⟩⟩⟩⟩⟩⟩⟩⟩⟩⟩⟩⟩⟩⟩⟩⟩⟩⟩⟩⟩⟩⟩⟩⟩⟩⟩⟩⟩⟩⟩⟩⟩⟩⟩⟩⟩⟩⟩⟩⟩⟩⟩⟩⟩⟩
/-- InclusionProverModel.notes.(IZ)V -/
def cd_157 : List (Nat × ll_O) := [
  (0, .inl (lo_push 1 (.int 0))),
  (1, .inl (lo_istore 2 3)),
  (2, .inl (lo_iload 3 3)),
  (3, .inl (lo_aload 4 0)),
  (4, .inl (lo_getf 7 11 19)),
  (7, .inl (lo_cmp 31 10 (fun x y => decide (y ≤ x)))),
  (10, .inl (lo_iload 11 2)),
  (11, .inl (lo_if 31 14 (fun x => decide (x = 0)))),
  (14, .inl (lo_aload 15 0)),
  (15, .inl (lo_getf 18 11 18)),
  (18, .inl (lo_iload 19 3)),
  (19, .inl (lo_ald 20 0)),
  (20, .inl (lo_iload 21 1)),
  (21, .inl (lo_cmp 25 24 (fun x y => decide (¬ x = y)))),
  (24, .inr (.inr 0)),
  (25, .inl (lo_iinc 28 3 1)),
  (28, .inl (lo_goto 2)),
  (31, .inl (lo_aload 32 0)),
  (32, .inl (lo_getf 35 11 18)),
  (35, .inl (lo_aload 36 0)),
  (36, .inl (lo_getf 39 11 19)),
  (39, .inl (lo_iload 40 1)),
  (40, .inl (lo_ast 41 0)),
  (41, .inl (lo_aload 42 0)),
  (42, .inl (lo_dup 43)),
  (43, .inl (lo_getf 46 11 19)),
  (46, .inl (lo_push 47 (.int 1))),
  (47, .inl (lo_bin 48 (fun x y => x + y))),
  (48, .inl (lo_putf 51 11 19 0)),
  (51, .inr (.inr 0))]
theorem k_157_0 (L : Nat) (xs : Nat → Int32) : ll_OK1 cX11_notes RX11 none false ll_mN ll_mR ll_mK ll_cnt L xs false 0 (.inl (lo_push 1 (.int 0))) := lk_iconst (n := 0) (by decide +kernel) (by decide)
theorem k_157_1 (L : Nat) (xs : Nat → Int32) : ll_OK1 cX11_notes RX11 none false ll_mN ll_mR ll_mK ll_cnt L xs false 1 (.inl (lo_istore 2 3)) := lk_istore_n (k := 3) (by decide +kernel) rfl
theorem k_157_2 (L : Nat) (xs : Nat → Int32) : ll_OK1 cX11_notes RX11 none false ll_mN ll_mR ll_mK ll_cnt L xs false 2 (.inl (lo_iload 3 3)) := lk_iload_n (k := 3) (by decide +kernel) rfl
theorem k_157_3 (L : Nat) (xs : Nat → Int32) : ll_OK1 cX11_notes RX11 none false ll_mN ll_mR ll_mK ll_cnt L xs false 3 (.inl (lo_aload 4 0)) := lk_aload_n (k := 0) (by decide +kernel) rfl
theorem k_157_4 (L : Nat) (xs : Nat → Int32) : ll_OK1 cX11_notes RX11 none false ll_mN ll_mR ll_mK ll_cnt L xs false 4 (.inl (lo_getf 7 11 19)) := lk_getf (ix := 134) (ci := 11) (k := 19) (C := RX11) (T := TX11) (N := 46) (by decide +kernel) rfl in_11 (by decide) tb_652
theorem k_157_7 (L : Nat) (xs : Nat → Int32) : ll_OK1 cX11_notes RX11 none false ll_mN ll_mR ll_mK ll_cnt L xs false 7 (.inl (lo_cmp 31 10 (fun x y => decide (y ≤ x)))) := lk_icmp_ge (off := 24) (by decide +kernel) rfl
theorem k_157_10 (L : Nat) (xs : Nat → Int32) : ll_OK1 cX11_notes RX11 none false ll_mN ll_mR ll_mK ll_cnt L xs false 10 (.inl (lo_iload 11 2)) := lk_iload_n (k := 2) (by decide +kernel) rfl
theorem k_157_11 (L : Nat) (xs : Nat → Int32) : ll_OK1 cX11_notes RX11 none false ll_mN ll_mR ll_mK ll_cnt L xs false 11 (.inl (lo_if 31 14 (fun x => decide (x = 0)))) := lk_if_eq (off := 20) (by decide +kernel) rfl
theorem k_157_14 (L : Nat) (xs : Nat → Int32) : ll_OK1 cX11_notes RX11 none false ll_mN ll_mR ll_mK ll_cnt L xs false 14 (.inl (lo_aload 15 0)) := lk_aload_n (k := 0) (by decide +kernel) rfl
theorem k_157_15 (L : Nat) (xs : Nat → Int32) : ll_OK1 cX11_notes RX11 none false ll_mN ll_mR ll_mK ll_cnt L xs false 15 (.inl (lo_getf 18 11 18)) := lk_getf (ix := 56) (ci := 11) (k := 18) (C := RX11) (T := TX11) (N := 46) (by decide +kernel) rfl in_11 (by decide) tb_621
theorem k_157_18 (L : Nat) (xs : Nat → Int32) : ll_OK1 cX11_notes RX11 none false ll_mN ll_mR ll_mK ll_cnt L xs false 18 (.inl (lo_iload 19 3)) := lk_iload_n (k := 3) (by decide +kernel) rfl
theorem k_157_19 (L : Nat) (xs : Nat → Int32) : ll_OK1 cX11_notes RX11 none false ll_mN ll_mR ll_mK ll_cnt L xs false 19 (.inl (lo_ald 20 0)) := lk_iald (by decide +kernel)
theorem k_157_20 (L : Nat) (xs : Nat → Int32) : ll_OK1 cX11_notes RX11 none false ll_mN ll_mR ll_mK ll_cnt L xs false 20 (.inl (lo_iload 21 1)) := lk_iload_n (k := 1) (by decide +kernel) rfl
theorem k_157_21 (L : Nat) (xs : Nat → Int32) : ll_OK1 cX11_notes RX11 none false ll_mN ll_mR ll_mK ll_cnt L xs false 21 (.inl (lo_cmp 25 24 (fun x y => decide (¬ x = y)))) := lk_icmp_ne (off := 4) (by decide +kernel) rfl
theorem k_157_24 (L : Nat) (xs : Nat → Int32) : ll_OK1 cX11_notes RX11 none false ll_mN ll_mR ll_mK ll_cnt L xs false 24 (.inr (.inr 0)) := ⟨fun _ => ⟨(by decide +kernel), rfl⟩, (fun h => by cases h), fun h => by cases h⟩
theorem k_157_25 (L : Nat) (xs : Nat → Int32) : ll_OK1 cX11_notes RX11 none false ll_mN ll_mR ll_mK ll_cnt L xs false 25 (.inl (lo_iinc 28 3 1)) := lk_iinc (n := 1) (by decide +kernel) (by decide)
theorem k_157_28 (L : Nat) (xs : Nat → Int32) : ll_OK1 cX11_notes RX11 none false ll_mN ll_mR ll_mK ll_cnt L xs false 28 (.inl (lo_goto 2)) := lk_goto (off := (-26)) (by decide +kernel) rfl
theorem k_157_31 (L : Nat) (xs : Nat → Int32) : ll_OK1 cX11_notes RX11 none false ll_mN ll_mR ll_mK ll_cnt L xs false 31 (.inl (lo_aload 32 0)) := lk_aload_n (k := 0) (by decide +kernel) rfl
theorem k_157_32 (L : Nat) (xs : Nat → Int32) : ll_OK1 cX11_notes RX11 none false ll_mN ll_mR ll_mK ll_cnt L xs false 32 (.inl (lo_getf 35 11 18)) := lk_getf (ix := 56) (ci := 11) (k := 18) (C := RX11) (T := TX11) (N := 46) (by decide +kernel) rfl in_11 (by decide) tb_621
theorem k_157_35 (L : Nat) (xs : Nat → Int32) : ll_OK1 cX11_notes RX11 none false ll_mN ll_mR ll_mK ll_cnt L xs false 35 (.inl (lo_aload 36 0)) := lk_aload_n (k := 0) (by decide +kernel) rfl
theorem k_157_36 (L : Nat) (xs : Nat → Int32) : ll_OK1 cX11_notes RX11 none false ll_mN ll_mR ll_mK ll_cnt L xs false 36 (.inl (lo_getf 39 11 19)) := lk_getf (ix := 134) (ci := 11) (k := 19) (C := RX11) (T := TX11) (N := 46) (by decide +kernel) rfl in_11 (by decide) tb_652
theorem k_157_39 (L : Nat) (xs : Nat → Int32) : ll_OK1 cX11_notes RX11 none false ll_mN ll_mR ll_mK ll_cnt L xs false 39 (.inl (lo_iload 40 1)) := lk_iload_n (k := 1) (by decide +kernel) rfl
theorem k_157_40 (L : Nat) (xs : Nat → Int32) : ll_OK1 cX11_notes RX11 none false ll_mN ll_mR ll_mK ll_cnt L xs false 40 (.inl (lo_ast 41 0)) := lk_iast (by decide +kernel)
theorem k_157_41 (L : Nat) (xs : Nat → Int32) : ll_OK1 cX11_notes RX11 none false ll_mN ll_mR ll_mK ll_cnt L xs false 41 (.inl (lo_aload 42 0)) := lk_aload_n (k := 0) (by decide +kernel) rfl
theorem k_157_42 (L : Nat) (xs : Nat → Int32) : ll_OK1 cX11_notes RX11 none false ll_mN ll_mR ll_mK ll_cnt L xs false 42 (.inl (lo_dup 43)) := lk_dup (by decide +kernel)
theorem k_157_43 (L : Nat) (xs : Nat → Int32) : ll_OK1 cX11_notes RX11 none false ll_mN ll_mR ll_mK ll_cnt L xs false 43 (.inl (lo_getf 46 11 19)) := lk_getf (ix := 134) (ci := 11) (k := 19) (C := RX11) (T := TX11) (N := 46) (by decide +kernel) rfl in_11 (by decide) tb_652
theorem k_157_46 (L : Nat) (xs : Nat → Int32) : ll_OK1 cX11_notes RX11 none false ll_mN ll_mR ll_mK ll_cnt L xs false 46 (.inl (lo_push 47 (.int 1))) := lk_iconst (n := 1) (by decide +kernel) (by decide)
theorem k_157_47 (L : Nat) (xs : Nat → Int32) : ll_OK1 cX11_notes RX11 none false ll_mN ll_mR ll_mK ll_cnt L xs false 47 (.inl (lo_bin 48 (fun x y => x + y))) := lk_iadd (by decide +kernel)
theorem k_157_48 (L : Nat) (xs : Nat → Int32) : ll_OK1 cX11_notes RX11 none false ll_mN ll_mR ll_mK ll_cnt L xs false 48 (.inl (lo_putf 51 11 19 0)) := lk_putf (ix := 134) (ci := 11) (k := 19) (C := RX11) (T := TX11) (N := 46) (ty0 := tyX11) (by decide +kernel) rfl in_11 tyX11_ok nmX11 (by decide) tb_652 (fun B adr v w h1 h2 => ll_fit_int (B := B) (adr := adr) h1 h2) (Or.inl rfl)
theorem k_157_51 (L : Nat) (xs : Nat → Int32) : ll_OK1 cX11_notes RX11 none false ll_mN ll_mR ll_mK ll_cnt L xs false 51 (.inr (.inr 0)) := ⟨fun _ => ⟨(by decide +kernel), rfl⟩, (fun h => by cases h), fun h => by cases h⟩
theorem ok_157 (L : Nat) (xs : Nat → Int32) : ∀ q ∈ cd_157, ll_OK1 cX11_notes RX11 none false ll_mN ll_mR ll_mK ll_cnt L xs false q.1 q.2 :=
  List.forall_mem_cons.mpr ⟨k_157_0 L xs, List.forall_mem_cons.mpr ⟨k_157_1 L xs, List.forall_mem_cons.mpr ⟨k_157_2 L xs, List.forall_mem_cons.mpr ⟨k_157_3 L xs, List.forall_mem_cons.mpr ⟨k_157_4 L xs, List.forall_mem_cons.mpr ⟨k_157_7 L xs, List.forall_mem_cons.mpr ⟨k_157_10 L xs, List.forall_mem_cons.mpr ⟨k_157_11 L xs, List.forall_mem_cons.mpr ⟨k_157_14 L xs, List.forall_mem_cons.mpr ⟨k_157_15 L xs, List.forall_mem_cons.mpr ⟨k_157_18 L xs, List.forall_mem_cons.mpr ⟨k_157_19 L xs, List.forall_mem_cons.mpr ⟨k_157_20 L xs, List.forall_mem_cons.mpr ⟨k_157_21 L xs, List.forall_mem_cons.mpr ⟨k_157_24 L xs, List.forall_mem_cons.mpr ⟨k_157_25 L xs, List.forall_mem_cons.mpr ⟨k_157_28 L xs, List.forall_mem_cons.mpr ⟨k_157_31 L xs, List.forall_mem_cons.mpr ⟨k_157_32 L xs, List.forall_mem_cons.mpr ⟨k_157_35 L xs, List.forall_mem_cons.mpr ⟨k_157_36 L xs, List.forall_mem_cons.mpr ⟨k_157_39 L xs, List.forall_mem_cons.mpr ⟨k_157_40 L xs, List.forall_mem_cons.mpr ⟨k_157_41 L xs, List.forall_mem_cons.mpr ⟨k_157_42 L xs, List.forall_mem_cons.mpr ⟨k_157_43 L xs, List.forall_mem_cons.mpr ⟨k_157_46 L xs, List.forall_mem_cons.mpr ⟨k_157_47 L xs, List.forall_mem_cons.mpr ⟨k_157_48 L xs, List.forall_mem_cons.mpr ⟨k_157_51 L xs, fun _ h => absurd h List.not_mem_nil⟩⟩⟩⟩⟩⟩⟩⟩⟩⟩⟩⟩⟩⟩⟩⟩⟩⟩⟩⟩⟩⟩⟩⟩⟩⟩⟩⟩⟩⟩
/-- InclusionProverModel.sum.([III)I -/
def cd_158 : List (Nat × ll_O) := [
  (0, .inl (lo_aload 1 0)),
  (1, .inl (lo_push 2 (.int 0))),
  (2, .inl (lo_putf 5 11 19 0)),
  (5, .inl (lo_push 6 (.int 0))),
  (6, .inl (lo_istore 8 4)),
  (8, .inl (lo_iload 10 4)),
  (10, .inl (lo_iload 11 3)),
  (11, .inl (lo_cmp 100 14 (fun x y => decide (y ≤ x)))),
  (14, .inl (lo_aload 15 1)),
  (15, .inl (lo_iload 16 2)),
  (16, .inl (lo_iload 18 4)),
  (18, .inl (lo_bin 19 (fun x y => x + y))),
  (19, .inl (lo_ald 20 0)),
  (20, .inl (lo_istore 22 5)),
  (22, .inl (lo_aload 23 0)),
  (23, .inl (lo_getf 26 11 5)),
  (26, .inl (lo_iload 28 5)),
  (28, .inl (lo_ald 29 0)),
  (29, .inl (lo_push 30 (.int 3))),
  (30, .inl (lo_cmp 77 33 (fun x y => decide (¬ x = y)))),
  (33, .inl (lo_push 34 (.int 0))),
  (34, .inl (lo_istore 36 6)),
  (36, .inl (lo_iload 38 6)),
  (38, .inl (lo_aload 39 0)),
  (39, .inl (lo_getf 42 11 7)),
  (42, .inl (lo_iload 44 5)),
  (44, .inl (lo_ald 45 0)),
  (45, .inl (lo_cmp 74 48 (fun x y => decide (y ≤ x)))),
  (48, .inl (lo_aload 49 0)),
  (49, .inl (lo_aload 50 0)),
  (50, .inl (lo_getf 53 11 10)),
  (53, .inl (lo_aload 54 0)),
  (54, .inl (lo_getf 57 11 6)),
  (57, .inl (lo_iload 59 5)),
  (59, .inl (lo_ald 60 0)),
  (60, .inl (lo_iload 62 6)),
  (62, .inl (lo_bin 63 (fun x y => x + y))),
  (63, .inl (lo_ald 64 0)),
  (64, .inl (lo_push 65 (.int 1))),
  (65, .inr (.inl (157, 3, 68))),
  (68, .inl (lo_iinc 71 6 1)),
  (71, .inl (lo_goto 36)),
  (74, .inl (lo_goto 94)),
  (77, .inl (lo_aload 78 0)),
  (78, .inl (lo_getf 81 11 5)),
  (81, .inl (lo_iload 83 5)),
  (83, .inl (lo_ald 84 0)),
  (84, .inl (lo_if 94 87 (fun x => decide (x = 0)))),
  (87, .inl (lo_aload 88 0)),
  (88, .inl (lo_iload 90 5)),
  (90, .inl (lo_push 91 (.int 1))),
  (91, .inr (.inl (157, 3, 94))),
  (94, .inl (lo_iinc 97 4 1)),
  (97, .inl (lo_goto 8)),
  (100, .inl (lo_aload 101 0)),
  (101, .inl (lo_getf 104 11 19)),
  (104, .inl (lo_if 111 107 (fun x => decide (¬ x = 0)))),
  (107, .inl (lo_push 108 (.int 0))),
  (108, .inl (lo_goto 137)),
  (111, .inl (lo_aload 112 0)),
  (112, .inl (lo_getf 115 11 19)),
  (115, .inl (lo_push 116 (.int 1))),
  (116, .inl (lo_cmp 128 119 (fun x y => decide (¬ x = y)))),
  (119, .inl (lo_aload 120 0)),
  (120, .inl (lo_getf 123 11 18)),
  (123, .inl (lo_push 124 (.int 0))),
  (124, .inl (lo_ald 125 0)),
  (125, .inl (lo_goto 137)),
  (128, .inl (lo_aload 129 0)),
  (129, .inl (lo_push 130 (.int 3))),
  (130, .inl (lo_aload 131 0)),
  (131, .inl (lo_getf 134 11 19)),
  (134, .inr (.inl (156, 3, 137))),
  (137, .inr (.inr 1))]
theorem k_158_0 (L : Nat) (xs : Nat → Int32) : ll_OK1 cX11_sum RX11 (some .int) false ll_mN ll_mR ll_mK ll_cnt L xs false 0 (.inl (lo_aload 1 0)) := lk_aload_n (k := 0) (by decide +kernel) rfl
theorem k_158_1 (L : Nat) (xs : Nat → Int32) : ll_OK1 cX11_sum RX11 (some .int) false ll_mN ll_mR ll_mK ll_cnt L xs false 1 (.inl (lo_push 2 (.int 0))) := lk_iconst (n := 0) (by decide +kernel) (by decide)
theorem k_158_2 (L : Nat) (xs : Nat → Int32) : ll_OK1 cX11_sum RX11 (some .int) false ll_mN ll_mR ll_mK ll_cnt L xs false 2 (.inl (lo_putf 5 11 19 0)) := lk_putf (ix := 134) (ci := 11) (k := 19) (C := RX11) (T := TX11) (N := 46) (ty0 := tyX11) (by decide +kernel) rfl in_11 tyX11_ok nmX11 (by decide) tb_652 (fun B adr v w h1 h2 => ll_fit_int (B := B) (adr := adr) h1 h2) (Or.inl rfl)
theorem k_158_5 (L : Nat) (xs : Nat → Int32) : ll_OK1 cX11_sum RX11 (some .int) false ll_mN ll_mR ll_mK ll_cnt L xs false 5 (.inl (lo_push 6 (.int 0))) := lk_iconst (n := 0) (by decide +kernel) (by decide)
theorem k_158_6 (L : Nat) (xs : Nat → Int32) : ll_OK1 cX11_sum RX11 (some .int) false ll_mN ll_mR ll_mK ll_cnt L xs false 6 (.inl (lo_istore 8 4)) := lk_istore (by decide +kernel)
theorem k_158_8 (L : Nat) (xs : Nat → Int32) : ll_OK1 cX11_sum RX11 (some .int) false ll_mN ll_mR ll_mK ll_cnt L xs false 8 (.inl (lo_iload 10 4)) := lk_iload (by decide +kernel)
theorem k_158_10 (L : Nat) (xs : Nat → Int32) : ll_OK1 cX11_sum RX11 (some .int) false ll_mN ll_mR ll_mK ll_cnt L xs false 10 (.inl (lo_iload 11 3)) := lk_iload_n (k := 3) (by decide +kernel) rfl
theorem k_158_11 (L : Nat) (xs : Nat → Int32) : ll_OK1 cX11_sum RX11 (some .int) false ll_mN ll_mR ll_mK ll_cnt L xs false 11 (.inl (lo_cmp 100 14 (fun x y => decide (y ≤ x)))) := lk_icmp_ge (off := 89) (by decide +kernel) rfl
theorem k_158_14 (L : Nat) (xs : Nat → Int32) : ll_OK1 cX11_sum RX11 (some .int) false ll_mN ll_mR ll_mK ll_cnt L xs false 14 (.inl (lo_aload 15 1)) := lk_aload_n (k := 1) (by decide +kernel) rfl
theorem k_158_15 (L : Nat) (xs : Nat → Int32) : ll_OK1 cX11_sum RX11 (some .int) false ll_mN ll_mR ll_mK ll_cnt L xs false 15 (.inl (lo_iload 16 2)) := lk_iload_n (k := 2) (by decide +kernel) rfl
theorem k_158_16 (L : Nat) (xs : Nat → Int32) : ll_OK1 cX11_sum RX11 (some .int) false ll_mN ll_mR ll_mK ll_cnt L xs false 16 (.inl (lo_iload 18 4)) := lk_iload (by decide +kernel)
theorem k_158_18 (L : Nat) (xs : Nat → Int32) : ll_OK1 cX11_sum RX11 (some .int) false ll_mN ll_mR ll_mK ll_cnt L xs false 18 (.inl (lo_bin 19 (fun x y => x + y))) := lk_iadd (by decide +kernel)
theorem k_158_19 (L : Nat) (xs : Nat → Int32) : ll_OK1 cX11_sum RX11 (some .int) false ll_mN ll_mR ll_mK ll_cnt L xs false 19 (.inl (lo_ald 20 0)) := lk_iald (by decide +kernel)
theorem k_158_20 (L : Nat) (xs : Nat → Int32) : ll_OK1 cX11_sum RX11 (some .int) false ll_mN ll_mR ll_mK ll_cnt L xs false 20 (.inl (lo_istore 22 5)) := lk_istore (by decide +kernel)
theorem k_158_22 (L : Nat) (xs : Nat → Int32) : ll_OK1 cX11_sum RX11 (some .int) false ll_mN ll_mR ll_mK ll_cnt L xs false 22 (.inl (lo_aload 23 0)) := lk_aload_n (k := 0) (by decide +kernel) rfl
theorem k_158_23 (L : Nat) (xs : Nat → Int32) : ll_OK1 cX11_sum RX11 (some .int) false ll_mN ll_mR ll_mK ll_cnt L xs false 23 (.inl (lo_getf 26 11 5)) := lk_getf (ix := 25) (ci := 11) (k := 5) (C := RX11) (T := TX11) (N := 46) (by decide +kernel) rfl in_11 (by decide) tb_610
theorem k_158_26 (L : Nat) (xs : Nat → Int32) : ll_OK1 cX11_sum RX11 (some .int) false ll_mN ll_mR ll_mK ll_cnt L xs false 26 (.inl (lo_iload 28 5)) := lk_iload (by decide +kernel)
theorem k_158_28 (L : Nat) (xs : Nat → Int32) : ll_OK1 cX11_sum RX11 (some .int) false ll_mN ll_mR ll_mK ll_cnt L xs false 28 (.inl (lo_ald 29 0)) := lk_iald (by decide +kernel)
theorem k_158_29 (L : Nat) (xs : Nat → Int32) : ll_OK1 cX11_sum RX11 (some .int) false ll_mN ll_mR ll_mK ll_cnt L xs false 29 (.inl (lo_push 30 (.int 3))) := lk_iconst (n := 3) (by decide +kernel) (by decide)
theorem k_158_30 (L : Nat) (xs : Nat → Int32) : ll_OK1 cX11_sum RX11 (some .int) false ll_mN ll_mR ll_mK ll_cnt L xs false 30 (.inl (lo_cmp 77 33 (fun x y => decide (¬ x = y)))) := lk_icmp_ne (off := 47) (by decide +kernel) rfl
theorem k_158_33 (L : Nat) (xs : Nat → Int32) : ll_OK1 cX11_sum RX11 (some .int) false ll_mN ll_mR ll_mK ll_cnt L xs false 33 (.inl (lo_push 34 (.int 0))) := lk_iconst (n := 0) (by decide +kernel) (by decide)
theorem k_158_34 (L : Nat) (xs : Nat → Int32) : ll_OK1 cX11_sum RX11 (some .int) false ll_mN ll_mR ll_mK ll_cnt L xs false 34 (.inl (lo_istore 36 6)) := lk_istore (by decide +kernel)
theorem k_158_36 (L : Nat) (xs : Nat → Int32) : ll_OK1 cX11_sum RX11 (some .int) false ll_mN ll_mR ll_mK ll_cnt L xs false 36 (.inl (lo_iload 38 6)) := lk_iload (by decide +kernel)
theorem k_158_38 (L : Nat) (xs : Nat → Int32) : ll_OK1 cX11_sum RX11 (some .int) false ll_mN ll_mR ll_mK ll_cnt L xs false 38 (.inl (lo_aload 39 0)) := lk_aload_n (k := 0) (by decide +kernel) rfl
theorem k_158_39 (L : Nat) (xs : Nat → Int32) : ll_OK1 cX11_sum RX11 (some .int) false ll_mN ll_mR ll_mK ll_cnt L xs false 39 (.inl (lo_getf 42 11 7)) := lk_getf (ix := 31) (ci := 11) (k := 7) (C := RX11) (T := TX11) (N := 46) (by decide +kernel) rfl in_11 (by decide) tb_612
theorem k_158_42 (L : Nat) (xs : Nat → Int32) : ll_OK1 cX11_sum RX11 (some .int) false ll_mN ll_mR ll_mK ll_cnt L xs false 42 (.inl (lo_iload 44 5)) := lk_iload (by decide +kernel)
theorem k_158_44 (L : Nat) (xs : Nat → Int32) : ll_OK1 cX11_sum RX11 (some .int) false ll_mN ll_mR ll_mK ll_cnt L xs false 44 (.inl (lo_ald 45 0)) := lk_iald (by decide +kernel)
theorem k_158_45 (L : Nat) (xs : Nat → Int32) : ll_OK1 cX11_sum RX11 (some .int) false ll_mN ll_mR ll_mK ll_cnt L xs false 45 (.inl (lo_cmp 74 48 (fun x y => decide (y ≤ x)))) := lk_icmp_ge (off := 29) (by decide +kernel) rfl
theorem k_158_48 (L : Nat) (xs : Nat → Int32) : ll_OK1 cX11_sum RX11 (some .int) false ll_mN ll_mR ll_mK ll_cnt L xs false 48 (.inl (lo_aload 49 0)) := lk_aload_n (k := 0) (by decide +kernel) rfl
theorem k_158_49 (L : Nat) (xs : Nat → Int32) : ll_OK1 cX11_sum RX11 (some .int) false ll_mN ll_mR ll_mK ll_cnt L xs false 49 (.inl (lo_aload 50 0)) := lk_aload_n (k := 0) (by decide +kernel) rfl
theorem k_158_50 (L : Nat) (xs : Nat → Int32) : ll_OK1 cX11_sum RX11 (some .int) false ll_mN ll_mR ll_mK ll_cnt L xs false 50 (.inl (lo_getf 53 11 10)) := lk_getf (ix := 40) (ci := 11) (k := 10) (C := RX11) (T := TX11) (N := 46) (by decide +kernel) rfl in_11 (by decide) tb_615
theorem k_158_53 (L : Nat) (xs : Nat → Int32) : ll_OK1 cX11_sum RX11 (some .int) false ll_mN ll_mR ll_mK ll_cnt L xs false 53 (.inl (lo_aload 54 0)) := lk_aload_n (k := 0) (by decide +kernel) rfl
theorem k_158_54 (L : Nat) (xs : Nat → Int32) : ll_OK1 cX11_sum RX11 (some .int) false ll_mN ll_mR ll_mK ll_cnt L xs false 54 (.inl (lo_getf 57 11 6)) := lk_getf (ix := 28) (ci := 11) (k := 6) (C := RX11) (T := TX11) (N := 46) (by decide +kernel) rfl in_11 (by decide) tb_611
theorem k_158_57 (L : Nat) (xs : Nat → Int32) : ll_OK1 cX11_sum RX11 (some .int) false ll_mN ll_mR ll_mK ll_cnt L xs false 57 (.inl (lo_iload 59 5)) := lk_iload (by decide +kernel)
theorem k_158_59 (L : Nat) (xs : Nat → Int32) : ll_OK1 cX11_sum RX11 (some .int) false ll_mN ll_mR ll_mK ll_cnt L xs false 59 (.inl (lo_ald 60 0)) := lk_iald (by decide +kernel)
theorem k_158_60 (L : Nat) (xs : Nat → Int32) : ll_OK1 cX11_sum RX11 (some .int) false ll_mN ll_mR ll_mK ll_cnt L xs false 60 (.inl (lo_iload 62 6)) := lk_iload (by decide +kernel)
theorem k_158_62 (L : Nat) (xs : Nat → Int32) : ll_OK1 cX11_sum RX11 (some .int) false ll_mN ll_mR ll_mK ll_cnt L xs false 62 (.inl (lo_bin 63 (fun x y => x + y))) := lk_iadd (by decide +kernel)
theorem k_158_63 (L : Nat) (xs : Nat → Int32) : ll_OK1 cX11_sum RX11 (some .int) false ll_mN ll_mR ll_mK ll_cnt L xs false 63 (.inl (lo_ald 64 0)) := lk_iald (by decide +kernel)
theorem k_158_64 (L : Nat) (xs : Nat → Int32) : ll_OK1 cX11_sum RX11 (some .int) false ll_mN ll_mR ll_mK ll_cnt L xs false 64 (.inl (lo_push 65 (.int 1))) := lk_iconst (n := 1) (by decide +kernel) (by decide)
theorem k_158_65 (L : Nat) (xs : Nat → Int32) : ll_OK1 cX11_sum RX11 (some .int) false ll_mN ll_mR ll_mK ll_cnt L xs false 65 (.inr (.inl (157, 3, 68))) := ⟨rfl, by decide, by rw [mN_157, mK_157, mR_157]; exact lj_v 137 2 11 (RX11, TX11, 46) (by decide +kernel) tb_653 tb_654 tb_655 rfl rfl rfl rfl (by decide +kernel)⟩
theorem k_158_68 (L : Nat) (xs : Nat → Int32) : ll_OK1 cX11_sum RX11 (some .int) false ll_mN ll_mR ll_mK ll_cnt L xs false 68 (.inl (lo_iinc 71 6 1)) := lk_iinc (n := 1) (by decide +kernel) (by decide)
theorem k_158_71 (L : Nat) (xs : Nat → Int32) : ll_OK1 cX11_sum RX11 (some .int) false ll_mN ll_mR ll_mK ll_cnt L xs false 71 (.inl (lo_goto 36)) := lk_goto (off := (-35)) (by decide +kernel) rfl
theorem k_158_74 (L : Nat) (xs : Nat → Int32) : ll_OK1 cX11_sum RX11 (some .int) false ll_mN ll_mR ll_mK ll_cnt L xs false 74 (.inl (lo_goto 94)) := lk_goto (off := 20) (by decide +kernel) rfl
theorem k_158_77 (L : Nat) (xs : Nat → Int32) : ll_OK1 cX11_sum RX11 (some .int) false ll_mN ll_mR ll_mK ll_cnt L xs false 77 (.inl (lo_aload 78 0)) := lk_aload_n (k := 0) (by decide +kernel) rfl
theorem k_158_78 (L : Nat) (xs : Nat → Int32) : ll_OK1 cX11_sum RX11 (some .int) false ll_mN ll_mR ll_mK ll_cnt L xs false 78 (.inl (lo_getf 81 11 5)) := lk_getf (ix := 25) (ci := 11) (k := 5) (C := RX11) (T := TX11) (N := 46) (by decide +kernel) rfl in_11 (by decide) tb_610
theorem k_158_81 (L : Nat) (xs : Nat → Int32) : ll_OK1 cX11_sum RX11 (some .int) false ll_mN ll_mR ll_mK ll_cnt L xs false 81 (.inl (lo_iload 83 5)) := lk_iload (by decide +kernel)
theorem k_158_83 (L : Nat) (xs : Nat → Int32) : ll_OK1 cX11_sum RX11 (some .int) false ll_mN ll_mR ll_mK ll_cnt L xs false 83 (.inl (lo_ald 84 0)) := lk_iald (by decide +kernel)
theorem k_158_84 (L : Nat) (xs : Nat → Int32) : ll_OK1 cX11_sum RX11 (some .int) false ll_mN ll_mR ll_mK ll_cnt L xs false 84 (.inl (lo_if 94 87 (fun x => decide (x = 0)))) := lk_if_eq (off := 10) (by decide +kernel) rfl
theorem k_158_87 (L : Nat) (xs : Nat → Int32) : ll_OK1 cX11_sum RX11 (some .int) false ll_mN ll_mR ll_mK ll_cnt L xs false 87 (.inl (lo_aload 88 0)) := lk_aload_n (k := 0) (by decide +kernel) rfl
theorem k_158_88 (L : Nat) (xs : Nat → Int32) : ll_OK1 cX11_sum RX11 (some .int) false ll_mN ll_mR ll_mK ll_cnt L xs false 88 (.inl (lo_iload 90 5)) := lk_iload (by decide +kernel)
theorem k_158_90 (L : Nat) (xs : Nat → Int32) : ll_OK1 cX11_sum RX11 (some .int) false ll_mN ll_mR ll_mK ll_cnt L xs false 90 (.inl (lo_push 91 (.int 1))) := lk_iconst (n := 1) (by decide +kernel) (by decide)
theorem k_158_91 (L : Nat) (xs : Nat → Int32) : ll_OK1 cX11_sum RX11 (some .int) false ll_mN ll_mR ll_mK ll_cnt L xs false 91 (.inr (.inl (157, 3, 94))) := ⟨rfl, by decide, by rw [mN_157, mK_157, mR_157]; exact lj_v 137 2 11 (RX11, TX11, 46) (by decide +kernel) tb_653 tb_654 tb_655 rfl rfl rfl rfl (by decide +kernel)⟩
theorem k_158_94 (L : Nat) (xs : Nat → Int32) : ll_OK1 cX11_sum RX11 (some .int) false ll_mN ll_mR ll_mK ll_cnt L xs false 94 (.inl (lo_iinc 97 4 1)) := lk_iinc (n := 1) (by decide +kernel) (by decide)
theorem k_158_97 (L : Nat) (xs : Nat → Int32) : ll_OK1 cX11_sum RX11 (some .int) false ll_mN ll_mR ll_mK ll_cnt L xs false 97 (.inl (lo_goto 8)) := lk_goto (off := (-89)) (by decide +kernel) rfl
theorem k_158_100 (L : Nat) (xs : Nat → Int32) : ll_OK1 cX11_sum RX11 (some .int) false ll_mN ll_mR ll_mK ll_cnt L xs false 100 (.inl (lo_aload 101 0)) := lk_aload_n (k := 0) (by decide +kernel) rfl
theorem k_158_101 (L : Nat) (xs : Nat → Int32) : ll_OK1 cX11_sum RX11 (some .int) false ll_mN ll_mR ll_mK ll_cnt L xs false 101 (.inl (lo_getf 104 11 19)) := lk_getf (ix := 134) (ci := 11) (k := 19) (C := RX11) (T := TX11) (N := 46) (by decide +kernel) rfl in_11 (by decide) tb_652
theorem k_158_104 (L : Nat) (xs : Nat → Int32) : ll_OK1 cX11_sum RX11 (some .int) false ll_mN ll_mR ll_mK ll_cnt L xs false 104 (.inl (lo_if 111 107 (fun x => decide (¬ x = 0)))) := lk_if_ne (off := 7) (by decide +kernel) rfl
theorem k_158_107 (L : Nat) (xs : Nat → Int32) : ll_OK1 cX11_sum RX11 (some .int) false ll_mN ll_mR ll_mK ll_cnt L xs false 107 (.inl (lo_push 108 (.int 0))) := lk_iconst (n := 0) (by decide +kernel) (by decide)
theorem k_158_108 (L : Nat) (xs : Nat → Int32) : ll_OK1 cX11_sum RX11 (some .int) false ll_mN ll_mR ll_mK ll_cnt L xs false 108 (.inl (lo_goto 137)) := lk_goto (off := 29) (by decide +kernel) rfl
theorem k_158_111 (L : Nat) (xs : Nat → Int32) : ll_OK1 cX11_sum RX11 (some .int) false ll_mN ll_mR ll_mK ll_cnt L xs false 111 (.inl (lo_aload 112 0)) := lk_aload_n (k := 0) (by decide +kernel) rfl
theorem k_158_112 (L : Nat) (xs : Nat → Int32) : ll_OK1 cX11_sum RX11 (some .int) false ll_mN ll_mR ll_mK ll_cnt L xs false 112 (.inl (lo_getf 115 11 19)) := lk_getf (ix := 134) (ci := 11) (k := 19) (C := RX11) (T := TX11) (N := 46) (by decide +kernel) rfl in_11 (by decide) tb_652
theorem k_158_115 (L : Nat) (xs : Nat → Int32) : ll_OK1 cX11_sum RX11 (some .int) false ll_mN ll_mR ll_mK ll_cnt L xs false 115 (.inl (lo_push 116 (.int 1))) := lk_iconst (n := 1) (by decide +kernel) (by decide)
theorem k_158_116 (L : Nat) (xs : Nat → Int32) : ll_OK1 cX11_sum RX11 (some .int) false ll_mN ll_mR ll_mK ll_cnt L xs false 116 (.inl (lo_cmp 128 119 (fun x y => decide (¬ x = y)))) := lk_icmp_ne (off := 12) (by decide +kernel) rfl
theorem k_158_119 (L : Nat) (xs : Nat → Int32) : ll_OK1 cX11_sum RX11 (some .int) false ll_mN ll_mR ll_mK ll_cnt L xs false 119 (.inl (lo_aload 120 0)) := lk_aload_n (k := 0) (by decide +kernel) rfl
theorem k_158_120 (L : Nat) (xs : Nat → Int32) : ll_OK1 cX11_sum RX11 (some .int) false ll_mN ll_mR ll_mK ll_cnt L xs false 120 (.inl (lo_getf 123 11 18)) := lk_getf (ix := 56) (ci := 11) (k := 18) (C := RX11) (T := TX11) (N := 46) (by decide +kernel) rfl in_11 (by decide) tb_621
theorem k_158_123 (L : Nat) (xs : Nat → Int32) : ll_OK1 cX11_sum RX11 (some .int) false ll_mN ll_mR ll_mK ll_cnt L xs false 123 (.inl (lo_push 124 (.int 0))) := lk_iconst (n := 0) (by decide +kernel) (by decide)
theorem k_158_124 (L : Nat) (xs : Nat → Int32) : ll_OK1 cX11_sum RX11 (some .int) false ll_mN ll_mR ll_mK ll_cnt L xs false 124 (.inl (lo_ald 125 0)) := lk_iald (by decide +kernel)
theorem k_158_125 (L : Nat) (xs : Nat → Int32) : ll_OK1 cX11_sum RX11 (some .int) false ll_mN ll_mR ll_mK ll_cnt L xs false 125 (.inl (lo_goto 137)) := lk_goto (off := 12) (by decide +kernel) rfl
theorem k_158_128 (L : Nat) (xs : Nat → Int32) : ll_OK1 cX11_sum RX11 (some .int) false ll_mN ll_mR ll_mK ll_cnt L xs false 128 (.inl (lo_aload 129 0)) := lk_aload_n (k := 0) (by decide +kernel) rfl
theorem k_158_129 (L : Nat) (xs : Nat → Int32) : ll_OK1 cX11_sum RX11 (some .int) false ll_mN ll_mR ll_mK ll_cnt L xs false 129 (.inl (lo_push 130 (.int 3))) := lk_iconst (n := 3) (by decide +kernel) (by decide)
theorem k_158_130 (L : Nat) (xs : Nat → Int32) : ll_OK1 cX11_sum RX11 (some .int) false ll_mN ll_mR ll_mK ll_cnt L xs false 130 (.inl (lo_aload 131 0)) := lk_aload_n (k := 0) (by decide +kernel) rfl
theorem k_158_131 (L : Nat) (xs : Nat → Int32) : ll_OK1 cX11_sum RX11 (some .int) false ll_mN ll_mR ll_mK ll_cnt L xs false 131 (.inl (lo_getf 134 11 19)) := lk_getf (ix := 134) (ci := 11) (k := 19) (C := RX11) (T := TX11) (N := 46) (by decide +kernel) rfl in_11 (by decide) tb_652
theorem k_158_134 (L : Nat) (xs : Nat → Int32) : ll_OK1 cX11_sum RX11 (some .int) false ll_mN ll_mR ll_mK ll_cnt L xs false 134 (.inr (.inl (156, 3, 137))) := ⟨rfl, by decide, by rw [mN_156, mK_156, mR_156]; exact lj_v 141 2 11 (RX11, TX11, 46) (by decide +kernel) tb_656 tb_657 tb_658 rfl rfl rfl rfl (by decide +kernel)⟩
theorem k_158_137 (L : Nat) (xs : Nat → Int32) : ll_OK1 cX11_sum RX11 (some .int) false ll_mN ll_mR ll_mK ll_cnt L xs false 137 (.inr (.inr 1)) := ⟨(fun h => by cases h), (fun _ => ⟨(by decide +kernel), rfl⟩), fun h => by cases h⟩
theorem ok_158 (L : Nat) (xs : Nat → Int32) : ∀ q ∈ cd_158, ll_OK1 cX11_sum RX11 (some .int) false ll_mN ll_mR ll_mK ll_cnt L xs false q.1 q.2 :=
  List.forall_mem_cons.mpr ⟨k_158_0 L xs, List.forall_mem_cons.mpr ⟨k_158_1 L xs, List.forall_mem_cons.mpr ⟨k_158_2 L xs, List.forall_mem_cons.mpr ⟨k_158_5 L xs, List.forall_mem_cons.mpr ⟨k_158_6 L xs, List.forall_mem_cons.mpr ⟨k_158_8 L xs, List.forall_mem_cons.mpr ⟨k_158_10 L xs, List.forall_mem_cons.mpr ⟨k_158_11 L xs, List.forall_mem_cons.mpr ⟨k_158_14 L xs, List.forall_mem_cons.mpr ⟨k_158_15 L xs, List.forall_mem_cons.mpr ⟨k_158_16 L xs, List.forall_mem_cons.mpr ⟨k_158_18 L xs, List.forall_mem_cons.mpr ⟨k_158_19 L xs, List.forall_mem_cons.mpr ⟨k_158_20 L xs, List.forall_mem_cons.mpr ⟨k_158_22 L xs, List.forall_mem_cons.mpr ⟨k_158_23 L xs, List.forall_mem_cons.mpr ⟨k_158_26 L xs, List.forall_mem_cons.mpr ⟨k_158_28 L xs, List.forall_mem_cons.mpr ⟨k_158_29 L xs, List.forall_mem_cons.mpr ⟨k_158_30 L xs, List.forall_mem_cons.mpr ⟨k_158_33 L xs, List.forall_mem_cons.mpr ⟨k_158_34 L xs, List.forall_mem_cons.mpr ⟨k_158_36 L xs, List.forall_mem_cons.mpr ⟨k_158_38 L xs, List.forall_mem_cons.mpr ⟨k_158_39 L xs, List.forall_mem_cons.mpr ⟨k_158_42 L xs, List.forall_mem_cons.mpr ⟨k_158_44 L xs, List.forall_mem_cons.mpr ⟨k_158_45 L xs, List.forall_mem_cons.mpr ⟨k_158_48 L xs, List.forall_mem_cons.mpr ⟨k_158_49 L xs, List.forall_mem_cons.mpr ⟨k_158_50 L xs, List.forall_mem_cons.mpr ⟨k_158_53 L xs, List.forall_mem_cons.mpr ⟨k_158_54 L xs, List.forall_mem_cons.mpr ⟨k_158_57 L xs, List.forall_mem_cons.mpr ⟨k_158_59 L xs, List.forall_mem_cons.mpr ⟨k_158_60 L xs, List.forall_mem_cons.mpr ⟨k_158_62 L xs, List.forall_mem_cons.mpr ⟨k_158_63 L xs, List.forall_mem_cons.mpr ⟨k_158_64 L xs, List.forall_mem_cons.mpr ⟨k_158_65 L xs, List.forall_mem_cons.mpr ⟨k_158_68 L xs, List.forall_mem_cons.mpr ⟨k_158_71 L xs, List.forall_mem_cons.mpr ⟨k_158_74 L xs, List.forall_mem_cons.mpr ⟨k_158_77 L xs, List.forall_mem_cons.mpr ⟨k_158_78 L xs, List.forall_mem_cons.mpr ⟨k_158_81 L xs, List.forall_mem_cons.mpr ⟨k_158_83 L xs, List.forall_mem_cons.mpr ⟨k_158_84 L xs, List.forall_mem_cons.mpr ⟨k_158_87 L xs, List.forall_mem_cons.mpr ⟨k_158_88 L xs, List.forall_mem_cons.mpr ⟨k_158_90 L xs, List.forall_mem_cons.mpr ⟨k_158_91 L xs, List.forall_mem_cons.mpr ⟨k_158_94 L xs, List.forall_mem_cons.mpr ⟨k_158_97 L xs, List.forall_mem_cons.mpr ⟨k_158_100 L xs, List.forall_mem_cons.mpr ⟨k_158_101 L xs, List.forall_mem_cons.mpr ⟨k_158_104 L xs, List.forall_mem_cons.mpr ⟨k_158_107 L xs, List.forall_mem_cons.mpr ⟨k_158_108 L xs, List.forall_mem_cons.mpr ⟨k_158_111 L xs, List.forall_mem_cons.mpr ⟨k_158_112 L xs, List.forall_mem_cons.mpr ⟨k_158_115 L xs, List.forall_mem_cons.mpr ⟨k_158_116 L xs, List.forall_mem_cons.mpr ⟨k_158_119 L xs, List.forall_mem_cons.mpr ⟨k_158_120 L xs, List.forall_mem_cons.mpr ⟨k_158_123 L xs, List.forall_mem_cons.mpr ⟨k_158_124 L xs, List.forall_mem_cons.mpr ⟨k_158_125 L xs, List.forall_mem_cons.mpr ⟨k_158_128 L xs, List.forall_mem_cons.mpr ⟨k_158_129 L xs, List.forall_mem_cons.mpr ⟨k_158_130 L xs, List.forall_mem_cons.mpr ⟨k_158_131 L xs, List.forall_mem_cons.mpr ⟨k_158_134 L xs, List.forall_mem_cons.mpr ⟨k_158_137 L xs, fun _ h => absurd h List.not_mem_nil⟩⟩⟩⟩⟩⟩⟩⟩⟩⟩⟩⟩⟩⟩⟩⟩⟩⟩⟩⟩⟩⟩⟩⟩⟩⟩⟩⟩⟩⟩⟩⟩⟩⟩⟩⟩⟩⟩⟩⟩⟩⟩⟩⟩⟩⟩⟩⟩⟩⟩⟩⟩⟩⟩⟩⟩⟩⟩⟩⟩⟩⟩⟩⟩⟩⟩⟩⟩⟩⟩⟩⟩⟩⟩
/-- InclusionProverModel.product.([III)I -/
def cd_159 : List (Nat × ll_O) := [
  (0, .inl (lo_aload 1 0)),
  (1, .inl (lo_push 2 (.int 0))),
  (2, .inl (lo_putf 5 11 19 0)),
  (5, .inl (lo_push 6 (.int 0))),
  (6, .inl (lo_istore 8 4)),
  (8, .inl (lo_iload 10 4)),
  (10, .inl (lo_iload 11 3)),
  (11, .inl (lo_cmp 113 14 (fun x y => decide (y ≤ x)))),
  (14, .inl (lo_aload 15 1)),
  (15, .inl (lo_iload 16 2)),
  (16, .inl (lo_iload 18 4)),
  (18, .inl (lo_bin 19 (fun x y => x + y))),
  (19, .inl (lo_ald 20 0)),
  (20, .inl (lo_istore 22 5)),
  (22, .inl (lo_aload 23 0)),
  (23, .inl (lo_getf 26 11 5)),
  (26, .inl (lo_iload 28 5)),
  (28, .inl (lo_ald 29 0)),
  (29, .inl (lo_if 34 32 (fun x => decide (¬ x = 0)))),
  (32, .inl (lo_push 33 (.int 0))),
  (33, .inr (.inr 1)),
  (34, .inl (lo_aload 35 0)),
  (35, .inl (lo_getf 38 11 5)),
  (38, .inl (lo_iload 40 5)),
  (40, .inl (lo_ald 41 0)),
  (41, .inl (lo_push 42 (.int 4))),
  (42, .inl (lo_cmp 89 45 (fun x y => decide (¬ x = y)))),
  (45, .inl (lo_push 46 (.int 0))),
  (46, .inl (lo_istore 48 6)),
  (48, .inl (lo_iload 50 6)),
  (50, .inl (lo_aload 51 0)),
  (51, .inl (lo_getf 54 11 7)),
  (54, .inl (lo_iload 56 5)),
  (56, .inl (lo_ald 57 0)),
  (57, .inl (lo_cmp 86 60 (fun x y => decide (y ≤ x)))),
  (60, .inl (lo_aload 61 0)),
  (61, .inl (lo_aload 62 0)),
  (62, .inl (lo_getf 65 11 10)),
  (65, .inl (lo_aload 66 0)),
  (66, .inl (lo_getf 69 11 6)),
  (69, .inl (lo_iload 71 5)),
  (71, .inl (lo_ald 72 0)),
  (72, .inl (lo_iload 74 6)),
  (74, .inl (lo_bin 75 (fun x y => x + y))),
  (75, .inl (lo_ald 76 0)),
  (76, .inl (lo_push 77 (.int 0))),
  (77, .inr (.inl (157, 3, 80))),
  (80, .inl (lo_iinc 83 6 1)),
  (83, .inl (lo_goto 48)),
  (86, .inl (lo_goto 107)),
  (89, .inl (lo_aload 90 0)),
  (90, .inl (lo_getf 93 11 5)),
  (93, .inl (lo_iload 95 5)),
  (95, .inl (lo_ald 96 0)),
  (96, .inl (lo_push 97 (.int 1))),
  (97, .inl (lo_cmp 107 100 (fun x y => decide (x = y)))),
  (100, .inl (lo_aload 101 0)),
  (101, .inl (lo_iload 103 5)),
  (103, .inl (lo_push 104 (.int 0))),
  (104, .inr (.inl (157, 3, 107))),
  (107, .inl (lo_iinc 110 4 1)),
  (110, .inl (lo_goto 8)),
  (113, .inl (lo_aload 114 0)),
  (114, .inl (lo_getf 117 11 19)),
  (117, .inl (lo_if 124 120 (fun x => decide (¬ x = 0)))),
  (120, .inl (lo_push 121 (.int 1))),
  (121, .inl (lo_goto 150)),
  (124, .inl (lo_aload 125 0)),
  (125, .inl (lo_getf 128 11 19)),
  (128, .inl (lo_push 129 (.int 1))),
  (129, .inl (lo_cmp 141 132 (fun x y => decide (¬ x = y)))),
  (132, .inl (lo_aload 133 0)),
  (133, .inl (lo_getf 136 11 18)),
  (136, .inl (lo_push 137 (.int 0))),
  (137, .inl (lo_ald 138 0)),
  (138, .inl (lo_goto 150)),
  (141, .inl (lo_aload 142 0)),
  (142, .inl (lo_push 143 (.int 4))),
  (143, .inl (lo_aload 144 0)),
  (144, .inl (lo_getf 147 11 19)),
  (147, .inr (.inl (156, 3, 150))),
  (150, .inr (.inr 1))]
theorem k_159_0 (L : Nat) (xs : Nat → Int32) : ll_OK1 cX11_product RX11 (some .int) false ll_mN ll_mR ll_mK ll_cnt L xs false 0 (.inl (lo_aload 1 0)) := lk_aload_n (k := 0) (by decide +kernel) rfl
theorem k_159_1 (L : Nat) (xs : Nat → Int32) : ll_OK1 cX11_product RX11 (some .int) false ll_mN ll_mR ll_mK ll_cnt L xs false 1 (.inl (lo_push 2 (.int 0))) := lk_iconst (n := 0) (by decide +kernel) (by decide)
theorem k_159_2 (L : Nat) (xs : Nat → Int32) : ll_OK1 cX11_product RX11 (some .int) false ll_mN ll_mR ll_mK ll_cnt L xs false 2 (.inl (lo_putf 5 11 19 0)) := lk_putf (ix := 134) (ci := 11) (k := 19) (C := RX11) (T := TX11) (N := 46) (ty0 := tyX11) (by decide +kernel) rfl in_11 tyX11_ok nmX11 (by decide) tb_652 (fun B adr v w h1 h2 => ll_fit_int (B := B) (adr := adr) h1 h2) (Or.inl rfl)
theorem k_159_5 (L : Nat) (xs : Nat → Int32) : ll_OK1 cX11_product RX11 (some .int) false ll_mN ll_mR ll_mK ll_cnt L xs false 5 (.inl (lo_push 6 (.int 0))) := lk_iconst (n := 0) (by decide +kernel) (by decide)
theorem k_159_6 (L : Nat) (xs : Nat → Int32) : ll_OK1 cX11_product RX11 (some .int) false ll_mN ll_mR ll_mK ll_cnt L xs false 6 (.inl (lo_istore 8 4)) := lk_istore (by decide +kernel)
theorem k_159_8 (L : Nat) (xs : Nat → Int32) : ll_OK1 cX11_product RX11 (some .int) false ll_mN ll_mR ll_mK ll_cnt L xs false 8 (.inl (lo_iload 10 4)) := lk_iload (by decide +kernel)
theorem k_159_10 (L : Nat) (xs : Nat → Int32) : ll_OK1 cX11_product RX11 (some .int) false ll_mN ll_mR ll_mK ll_cnt L xs false 10 (.inl (lo_iload 11 3)) := lk_iload_n (k := 3) (by decide +kernel) rfl
theorem k_159_11 (L : Nat) (xs : Nat → Int32) : ll_OK1 cX11_product RX11 (some .int) false ll_mN ll_mR ll_mK ll_cnt L xs false 11 (.inl (lo_cmp 113 14 (fun x y => decide (y ≤ x)))) := lk_icmp_ge (off := 102) (by decide +kernel) rfl
theorem k_159_14 (L : Nat) (xs : Nat → Int32) : ll_OK1 cX11_product RX11 (some .int) false ll_mN ll_mR ll_mK ll_cnt L xs false 14 (.inl (lo_aload 15 1)) := lk_aload_n (k := 1) (by decide +kernel) rfl
theorem k_159_15 (L : Nat) (xs : Nat → Int32) : ll_OK1 cX11_product RX11 (some .int) false ll_mN ll_mR ll_mK ll_cnt L xs false 15 (.inl (lo_iload 16 2)) := lk_iload_n (k := 2) (by decide +kernel) rfl
theorem k_159_16 (L : Nat) (xs : Nat → Int32) : ll_OK1 cX11_product RX11 (some .int) false ll_mN ll_mR ll_mK ll_cnt L xs false 16 (.inl (lo_iload 18 4)) := lk_iload (by decide +kernel)
theorem k_159_18 (L : Nat) (xs : Nat → Int32) : ll_OK1 cX11_product RX11 (some .int) false ll_mN ll_mR ll_mK ll_cnt L xs false 18 (.inl (lo_bin 19 (fun x y => x + y))) := lk_iadd (by decide +kernel)
theorem k_159_19 (L : Nat) (xs : Nat → Int32) : ll_OK1 cX11_product RX11 (some .int) false ll_mN ll_mR ll_mK ll_cnt L xs false 19 (.inl (lo_ald 20 0)) := lk_iald (by decide +kernel)
theorem k_159_20 (L : Nat) (xs : Nat → Int32) : ll_OK1 cX11_product RX11 (some .int) false ll_mN ll_mR ll_mK ll_cnt L xs false 20 (.inl (lo_istore 22 5)) := lk_istore (by decide +kernel)
theorem k_159_22 (L : Nat) (xs : Nat → Int32) : ll_OK1 cX11_product RX11 (some .int) false ll_mN ll_mR ll_mK ll_cnt L xs false 22 (.inl (lo_aload 23 0)) := lk_aload_n (k := 0) (by decide +kernel) rfl
theorem k_159_23 (L : Nat) (xs : Nat → Int32) : ll_OK1 cX11_product RX11 (some .int) false ll_mN ll_mR ll_mK ll_cnt L xs false 23 (.inl (lo_getf 26 11 5)) := lk_getf (ix := 25) (ci := 11) (k := 5) (C := RX11) (T := TX11) (N := 46) (by decide +kernel) rfl in_11 (by decide) tb_610
theorem k_159_26 (L : Nat) (xs : Nat → Int32) : ll_OK1 cX11_product RX11 (some .int) false ll_mN ll_mR ll_mK ll_cnt L xs false 26 (.inl (lo_iload 28 5)) := lk_iload (by decide +kernel)
theorem k_159_28 (L : Nat) (xs : Nat → Int32) : ll_OK1 cX11_product RX11 (some .int) false ll_mN ll_mR ll_mK ll_cnt L xs false 28 (.inl (lo_ald 29 0)) := lk_iald (by decide +kernel)
theorem k_159_29 (L : Nat) (xs : Nat → Int32) : ll_OK1 cX11_product RX11 (some .int) false ll_mN ll_mR ll_mK ll_cnt L xs false 29 (.inl (lo_if 34 32 (fun x => decide (¬ x = 0)))) := lk_if_ne (off := 5) (by decide +kernel) rfl
theorem k_159_32 (L : Nat) (xs : Nat → Int32) : ll_OK1 cX11_product RX11 (some .int) false ll_mN ll_mR ll_mK ll_cnt L xs false 32 (.inl (lo_push 33 (.int 0))) := lk_iconst (n := 0) (by decide +kernel) (by decide)
theorem k_159_33 (L : Nat) (xs : Nat → Int32) : ll_OK1 cX11_product RX11 (some .int) false ll_mN ll_mR ll_mK ll_cnt L xs false 33 (.inr (.inr 1)) := ⟨(fun h => by cases h), (fun _ => ⟨(by decide +kernel), rfl⟩), fun h => by cases h⟩
theorem k_159_34 (L : Nat) (xs : Nat → Int32) : ll_OK1 cX11_product RX11 (some .int) false ll_mN ll_mR ll_mK ll_cnt L xs false 34 (.inl (lo_aload 35 0)) := lk_aload_n (k := 0) (by decide +kernel) rfl
theorem k_159_35 (L : Nat) (xs : Nat → Int32) : ll_OK1 cX11_product RX11 (some .int) false ll_mN ll_mR ll_mK ll_cnt L xs false 35 (.inl (lo_getf 38 11 5)) := lk_getf (ix := 25) (ci := 11) (k := 5) (C := RX11) (T := TX11) (N := 46) (by decide +kernel) rfl in_11 (by decide) tb_610
theorem k_159_38 (L : Nat) (xs : Nat → Int32) : ll_OK1 cX11_product RX11 (some .int) false ll_mN ll_mR ll_mK ll_cnt L xs false 38 (.inl (lo_iload 40 5)) := lk_iload (by decide +kernel)
theorem k_159_40 (L : Nat) (xs : Nat → Int32) : ll_OK1 cX11_product RX11 (some .int) false ll_mN ll_mR ll_mK ll_cnt L xs false 40 (.inl (lo_ald 41 0)) := lk_iald (by decide +kernel)
theorem k_159_41 (L : Nat) (xs : Nat → Int32) : ll_OK1 cX11_product RX11 (some .int) false ll_mN ll_mR ll_mK ll_cnt L xs false 41 (.inl (lo_push 42 (.int 4))) := lk_iconst (n := 4) (by decide +kernel) (by decide)
theorem k_159_42 (L : Nat) (xs : Nat → Int32) : ll_OK1 cX11_product RX11 (some .int) false ll_mN ll_mR ll_mK ll_cnt L xs false 42 (.inl (lo_cmp 89 45 (fun x y => decide (¬ x = y)))) := lk_icmp_ne (off := 47) (by decide +kernel) rfl
theorem k_159_45 (L : Nat) (xs : Nat → Int32) : ll_OK1 cX11_product RX11 (some .int) false ll_mN ll_mR ll_mK ll_cnt L xs false 45 (.inl (lo_push 46 (.int 0))) := lk_iconst (n := 0) (by decide +kernel) (by decide)
theorem k_159_46 (L : Nat) (xs : Nat → Int32) : ll_OK1 cX11_product RX11 (some .int) false ll_mN ll_mR ll_mK ll_cnt L xs false 46 (.inl (lo_istore 48 6)) := lk_istore (by decide +kernel)
theorem k_159_48 (L : Nat) (xs : Nat → Int32) : ll_OK1 cX11_product RX11 (some .int) false ll_mN ll_mR ll_mK ll_cnt L xs false 48 (.inl (lo_iload 50 6)) := lk_iload (by decide +kernel)
theorem k_159_50 (L : Nat) (xs : Nat → Int32) : ll_OK1 cX11_product RX11 (some .int) false ll_mN ll_mR ll_mK ll_cnt L xs false 50 (.inl (lo_aload 51 0)) := lk_aload_n (k := 0) (by decide +kernel) rfl
theorem k_159_51 (L : Nat) (xs : Nat → Int32) : ll_OK1 cX11_product RX11 (some .int) false ll_mN ll_mR ll_mK ll_cnt L xs false 51 (.inl (lo_getf 54 11 7)) := lk_getf (ix := 31) (ci := 11) (k := 7) (C := RX11) (T := TX11) (N := 46) (by decide +kernel) rfl in_11 (by decide) tb_612
theorem k_159_54 (L : Nat) (xs : Nat → Int32) : ll_OK1 cX11_product RX11 (some .int) false ll_mN ll_mR ll_mK ll_cnt L xs false 54 (.inl (lo_iload 56 5)) := lk_iload (by decide +kernel)
theorem k_159_56 (L : Nat) (xs : Nat → Int32) : ll_OK1 cX11_product RX11 (some .int) false ll_mN ll_mR ll_mK ll_cnt L xs false 56 (.inl (lo_ald 57 0)) := lk_iald (by decide +kernel)
theorem k_159_57 (L : Nat) (xs : Nat → Int32) : ll_OK1 cX11_product RX11 (some .int) false ll_mN ll_mR ll_mK ll_cnt L xs false 57 (.inl (lo_cmp 86 60 (fun x y => decide (y ≤ x)))) := lk_icmp_ge (off := 29) (by decide +kernel) rfl
theorem k_159_60 (L : Nat) (xs : Nat → Int32) : ll_OK1 cX11_product RX11 (some .int) false ll_mN ll_mR ll_mK ll_cnt L xs false 60 (.inl (lo_aload 61 0)) := lk_aload_n (k := 0) (by decide +kernel) rfl
theorem k_159_61 (L : Nat) (xs : Nat → Int32) : ll_OK1 cX11_product RX11 (some .int) false ll_mN ll_mR ll_mK ll_cnt L xs false 61 (.inl (lo_aload 62 0)) := lk_aload_n (k := 0) (by decide +kernel) rfl
theorem k_159_62 (L : Nat) (xs : Nat → Int32) : ll_OK1 cX11_product RX11 (some .int) false ll_mN ll_mR ll_mK ll_cnt L xs false 62 (.inl (lo_getf 65 11 10)) := lk_getf (ix := 40) (ci := 11) (k := 10) (C := RX11) (T := TX11) (N := 46) (by decide +kernel) rfl in_11 (by decide) tb_615
theorem k_159_65 (L : Nat) (xs : Nat → Int32) : ll_OK1 cX11_product RX11 (some .int) false ll_mN ll_mR ll_mK ll_cnt L xs false 65 (.inl (lo_aload 66 0)) := lk_aload_n (k := 0) (by decide +kernel) rfl
theorem k_159_66 (L : Nat) (xs : Nat → Int32) : ll_OK1 cX11_product RX11 (some .int) false ll_mN ll_mR ll_mK ll_cnt L xs false 66 (.inl (lo_getf 69 11 6)) := lk_getf (ix := 28) (ci := 11) (k := 6) (C := RX11) (T := TX11) (N := 46) (by decide +kernel) rfl in_11 (by decide) tb_611
theorem k_159_69 (L : Nat) (xs : Nat → Int32) : ll_OK1 cX11_product RX11 (some .int) false ll_mN ll_mR ll_mK ll_cnt L xs false 69 (.inl (lo_iload 71 5)) := lk_iload (by decide +kernel)
theorem k_159_71 (L : Nat) (xs : Nat → Int32) : ll_OK1 cX11_product RX11 (some .int) false ll_mN ll_mR ll_mK ll_cnt L xs false 71 (.inl (lo_ald 72 0)) := lk_iald (by decide +kernel)
theorem k_159_72 (L : Nat) (xs : Nat → Int32) : ll_OK1 cX11_product RX11 (some .int) false ll_mN ll_mR ll_mK ll_cnt L xs false 72 (.inl (lo_iload 74 6)) := lk_iload (by decide +kernel)
theorem k_159_74 (L : Nat) (xs : Nat → Int32) : ll_OK1 cX11_product RX11 (some .int) false ll_mN ll_mR ll_mK ll_cnt L xs false 74 (.inl (lo_bin 75 (fun x y => x + y))) := lk_iadd (by decide +kernel)
theorem k_159_75 (L : Nat) (xs : Nat → Int32) : ll_OK1 cX11_product RX11 (some .int) false ll_mN ll_mR ll_mK ll_cnt L xs false 75 (.inl (lo_ald 76 0)) := lk_iald (by decide +kernel)
theorem k_159_76 (L : Nat) (xs : Nat → Int32) : ll_OK1 cX11_product RX11 (some .int) false ll_mN ll_mR ll_mK ll_cnt L xs false 76 (.inl (lo_push 77 (.int 0))) := lk_iconst (n := 0) (by decide +kernel) (by decide)
theorem k_159_77 (L : Nat) (xs : Nat → Int32) : ll_OK1 cX11_product RX11 (some .int) false ll_mN ll_mR ll_mK ll_cnt L xs false 77 (.inr (.inl (157, 3, 80))) := ⟨rfl, by decide, by rw [mN_157, mK_157, mR_157]; exact lj_v 137 2 11 (RX11, TX11, 46) (by decide +kernel) tb_653 tb_654 tb_655 rfl rfl rfl rfl (by decide +kernel)⟩
theorem k_159_80 (L : Nat) (xs : Nat → Int32) : ll_OK1 cX11_product RX11 (some .int) false ll_mN ll_mR ll_mK ll_cnt L xs false 80 (.inl (lo_iinc 83 6 1)) := lk_iinc (n := 1) (by decide +kernel) (by decide)
theorem k_159_83 (L : Nat) (xs : Nat → Int32) : ll_OK1 cX11_product RX11 (some .int) false ll_mN ll_mR ll_mK ll_cnt L xs false 83 (.inl (lo_goto 48)) := lk_goto (off := (-35)) (by decide +kernel) rfl
theorem k_159_86 (L : Nat) (xs : Nat → Int32) : ll_OK1 cX11_product RX11 (some .int) false ll_mN ll_mR ll_mK ll_cnt L xs false 86 (.inl (lo_goto 107)) := lk_goto (off := 21) (by decide +kernel) rfl
theorem k_159_89 (L : Nat) (xs : Nat → Int32) : ll_OK1 cX11_product RX11 (some .int) false ll_mN ll_mR ll_mK ll_cnt L xs false 89 (.inl (lo_aload 90 0)) := lk_aload_n (k := 0) (by decide +kernel) rfl
theorem k_159_90 (L : Nat) (xs : Nat → Int32) : ll_OK1 cX11_product RX11 (some .int) false ll_mN ll_mR ll_mK ll_cnt L xs false 90 (.inl (lo_getf 93 11 5)) := lk_getf (ix := 25) (ci := 11) (k := 5) (C := RX11) (T := TX11) (N := 46) (by decide +kernel) rfl in_11 (by decide) tb_610
theorem k_159_93 (L : Nat) (xs : Nat → Int32) : ll_OK1 cX11_product RX11 (some .int) false ll_mN ll_mR ll_mK ll_cnt L xs false 93 (.inl (lo_iload 95 5)) := lk_iload (by decide +kernel)
theorem k_159_95 (L : Nat) (xs : Nat → Int32) : ll_OK1 cX11_product RX11 (some .int) false ll_mN ll_mR ll_mK ll_cnt L xs false 95 (.inl (lo_ald 96 0)) := lk_iald (by decide +kernel)
theorem k_159_96 (L : Nat) (xs : Nat → Int32) : ll_OK1 cX11_product RX11 (some .int) false ll_mN ll_mR ll_mK ll_cnt L xs false 96 (.inl (lo_push 97 (.int 1))) := lk_iconst (n := 1) (by decide +kernel) (by decide)
theorem k_159_97 (L : Nat) (xs : Nat → Int32) : ll_OK1 cX11_product RX11 (some .int) false ll_mN ll_mR ll_mK ll_cnt L xs false 97 (.inl (lo_cmp 107 100 (fun x y => decide (x = y)))) := lk_icmp_eq (off := 10) (by decide +kernel) rfl
theorem k_159_100 (L : Nat) (xs : Nat → Int32) : ll_OK1 cX11_product RX11 (some .int) false ll_mN ll_mR ll_mK ll_cnt L xs false 100 (.inl (lo_aload 101 0)) := lk_aload_n (k := 0) (by decide +kernel) rfl
theorem k_159_101 (L : Nat) (xs : Nat → Int32) : ll_OK1 cX11_product RX11 (some .int) false ll_mN ll_mR ll_mK ll_cnt L xs false 101 (.inl (lo_iload 103 5)) := lk_iload (by decide +kernel)
theorem k_159_103 (L : Nat) (xs : Nat → Int32) : ll_OK1 cX11_product RX11 (some .int) false ll_mN ll_mR ll_mK ll_cnt L xs false 103 (.inl (lo_push 104 (.int 0))) := lk_iconst (n := 0) (by decide +kernel) (by decide)
theorem k_159_104 (L : Nat) (xs : Nat → Int32) : ll_OK1 cX11_product RX11 (some .int) false ll_mN ll_mR ll_mK ll_cnt L xs false 104 (.inr (.inl (157, 3, 107))) := ⟨rfl, by decide, by rw [mN_157, mK_157, mR_157]; exact lj_v 137 2 11 (RX11, TX11, 46) (by decide +kernel) tb_653 tb_654 tb_655 rfl rfl rfl rfl (by decide +kernel)⟩
theorem k_159_107 (L : Nat) (xs : Nat → Int32) : ll_OK1 cX11_product RX11 (some .int) false ll_mN ll_mR ll_mK ll_cnt L xs false 107 (.inl (lo_iinc 110 4 1)) := lk_iinc (n := 1) (by decide +kernel) (by decide)
theorem k_159_110 (L : Nat) (xs : Nat → Int32) : ll_OK1 cX11_product RX11 (some .int) false ll_mN ll_mR ll_mK ll_cnt L xs false 110 (.inl (lo_goto 8)) := lk_goto (off := (-102)) (by decide +kernel) rfl
theorem k_159_113 (L : Nat) (xs : Nat → Int32) : ll_OK1 cX11_product RX11 (some .int) false ll_mN ll_mR ll_mK ll_cnt L xs false 113 (.inl (lo_aload 114 0)) := lk_aload_n (k := 0) (by decide +kernel) rfl
theorem k_159_114 (L : Nat) (xs : Nat → Int32) : ll_OK1 cX11_product RX11 (some .int) false ll_mN ll_mR ll_mK ll_cnt L xs false 114 (.inl (lo_getf 117 11 19)) := lk_getf (ix := 134) (ci := 11) (k := 19) (C := RX11) (T := TX11) (N := 46) (by decide +kernel) rfl in_11 (by decide) tb_652
theorem k_159_117 (L : Nat) (xs : Nat → Int32) : ll_OK1 cX11_product RX11 (some .int) false ll_mN ll_mR ll_mK ll_cnt L xs false 117 (.inl (lo_if 124 120 (fun x => decide (¬ x = 0)))) := lk_if_ne (off := 7) (by decide +kernel) rfl
theorem k_159_120 (L : Nat) (xs : Nat → Int32) : ll_OK1 cX11_product RX11 (some .int) false ll_mN ll_mR ll_mK ll_cnt L xs false 120 (.inl (lo_push 121 (.int 1))) := lk_iconst (n := 1) (by decide +kernel) (by decide)
theorem k_159_121 (L : Nat) (xs : Nat → Int32) : ll_OK1 cX11_product RX11 (some .int) false ll_mN ll_mR ll_mK ll_cnt L xs false 121 (.inl (lo_goto 150)) := lk_goto (off := 29) (by decide +kernel) rfl
theorem k_159_124 (L : Nat) (xs : Nat → Int32) : ll_OK1 cX11_product RX11 (some .int) false ll_mN ll_mR ll_mK ll_cnt L xs false 124 (.inl (lo_aload 125 0)) := lk_aload_n (k := 0) (by decide +kernel) rfl
theorem k_159_125 (L : Nat) (xs : Nat → Int32) : ll_OK1 cX11_product RX11 (some .int) false ll_mN ll_mR ll_mK ll_cnt L xs false 125 (.inl (lo_getf 128 11 19)) := lk_getf (ix := 134) (ci := 11) (k := 19) (C := RX11) (T := TX11) (N := 46) (by decide +kernel) rfl in_11 (by decide) tb_652
theorem k_159_128 (L : Nat) (xs : Nat → Int32) : ll_OK1 cX11_product RX11 (some .int) false ll_mN ll_mR ll_mK ll_cnt L xs false 128 (.inl (lo_push 129 (.int 1))) := lk_iconst (n := 1) (by decide +kernel) (by decide)
theorem k_159_129 (L : Nat) (xs : Nat → Int32) : ll_OK1 cX11_product RX11 (some .int) false ll_mN ll_mR ll_mK ll_cnt L xs false 129 (.inl (lo_cmp 141 132 (fun x y => decide (¬ x = y)))) := lk_icmp_ne (off := 12) (by decide +kernel) rfl
theorem k_159_132 (L : Nat) (xs : Nat → Int32) : ll_OK1 cX11_product RX11 (some .int) false ll_mN ll_mR ll_mK ll_cnt L xs false 132 (.inl (lo_aload 133 0)) := lk_aload_n (k := 0) (by decide +kernel) rfl
theorem k_159_133 (L : Nat) (xs : Nat → Int32) : ll_OK1 cX11_product RX11 (some .int) false ll_mN ll_mR ll_mK ll_cnt L xs false 133 (.inl (lo_getf 136 11 18)) := lk_getf (ix := 56) (ci := 11) (k := 18) (C := RX11) (T := TX11) (N := 46) (by decide +kernel) rfl in_11 (by decide) tb_621
theorem k_159_136 (L : Nat) (xs : Nat → Int32) : ll_OK1 cX11_product RX11 (some .int) false ll_mN ll_mR ll_mK ll_cnt L xs false 136 (.inl (lo_push 137 (.int 0))) := lk_iconst (n := 0) (by decide +kernel) (by decide)
theorem k_159_137 (L : Nat) (xs : Nat → Int32) : ll_OK1 cX11_product RX11 (some .int) false ll_mN ll_mR ll_mK ll_cnt L xs false 137 (.inl (lo_ald 138 0)) := lk_iald (by decide +kernel)
theorem k_159_138 (L : Nat) (xs : Nat → Int32) : ll_OK1 cX11_product RX11 (some .int) false ll_mN ll_mR ll_mK ll_cnt L xs false 138 (.inl (lo_goto 150)) := lk_goto (off := 12) (by decide +kernel) rfl
theorem k_159_141 (L : Nat) (xs : Nat → Int32) : ll_OK1 cX11_product RX11 (some .int) false ll_mN ll_mR ll_mK ll_cnt L xs false 141 (.inl (lo_aload 142 0)) := lk_aload_n (k := 0) (by decide +kernel) rfl
theorem k_159_142 (L : Nat) (xs : Nat → Int32) : ll_OK1 cX11_product RX11 (some .int) false ll_mN ll_mR ll_mK ll_cnt L xs false 142 (.inl (lo_push 143 (.int 4))) := lk_iconst (n := 4) (by decide +kernel) (by decide)
theorem k_159_143 (L : Nat) (xs : Nat → Int32) : ll_OK1 cX11_product RX11 (some .int) false ll_mN ll_mR ll_mK ll_cnt L xs false 143 (.inl (lo_aload 144 0)) := lk_aload_n (k := 0) (by decide +kernel) rfl
theorem k_159_144 (L : Nat) (xs : Nat → Int32) : ll_OK1 cX11_product RX11 (some .int) false ll_mN ll_mR ll_mK ll_cnt L xs false 144 (.inl (lo_getf 147 11 19)) := lk_getf (ix := 134) (ci := 11) (k := 19) (C := RX11) (T := TX11) (N := 46) (by decide +kernel) rfl in_11 (by decide) tb_652
theorem k_159_147 (L : Nat) (xs : Nat → Int32) : ll_OK1 cX11_product RX11 (some .int) false ll_mN ll_mR ll_mK ll_cnt L xs false 147 (.inr (.inl (156, 3, 150))) := ⟨rfl, by decide, by rw [mN_156, mK_156, mR_156]; exact lj_v 141 2 11 (RX11, TX11, 46) (by decide +kernel) tb_656 tb_657 tb_658 rfl rfl rfl rfl (by decide +kernel)⟩
theorem k_159_150 (L : Nat) (xs : Nat → Int32) : ll_OK1 cX11_product RX11 (some .int) false ll_mN ll_mR ll_mK ll_cnt L xs false 150 (.inr (.inr 1)) := ⟨(fun h => by cases h), (fun _ => ⟨(by decide +kernel), rfl⟩), fun h => by cases h⟩
theorem ok_159 (L : Nat) (xs : Nat → Int32) : ∀ q ∈ cd_159, ll_OK1 cX11_product RX11 (some .int) false ll_mN ll_mR ll_mK ll_cnt L xs false q.1 q.2 :=
  List.forall_mem_cons.mpr ⟨k_159_0 L xs, List.forall_mem_cons.mpr ⟨k_159_1 L xs, List.forall_mem_cons.mpr ⟨k_159_2 L xs, List.forall_mem_cons.mpr ⟨k_159_5 L xs, List.forall_mem_cons.mpr ⟨k_159_6 L xs, List.forall_mem_cons.mpr ⟨k_159_8 L xs, List.forall_mem_cons.mpr ⟨k_159_10 L xs, List.forall_mem_cons.mpr ⟨k_159_11 L xs, List.forall_mem_cons.mpr ⟨k_159_14 L xs, List.forall_mem_cons.mpr ⟨k_159_15 L xs, List.forall_mem_cons.mpr ⟨k_159_16 L xs, List.forall_mem_cons.mpr ⟨k_159_18 L xs, List.forall_mem_cons.mpr ⟨k_159_19 L xs, List.forall_mem_cons.mpr ⟨k_159_20 L xs, List.forall_mem_cons.mpr ⟨k_159_22 L xs, List.forall_mem_cons.mpr ⟨k_159_23 L xs, List.forall_mem_cons.mpr ⟨k_159_26 L xs, List.forall_mem_cons.mpr ⟨k_159_28 L xs, List.forall_mem_cons.mpr ⟨k_159_29 L xs, List.forall_mem_cons.mpr ⟨k_159_32 L xs, List.forall_mem_cons.mpr ⟨k_159_33 L xs, List.forall_mem_cons.mpr ⟨k_159_34 L xs, List.forall_mem_cons.mpr ⟨k_159_35 L xs, List.forall_mem_cons.mpr ⟨k_159_38 L xs, List.forall_mem_cons.mpr ⟨k_159_40 L xs, List.forall_mem_cons.mpr ⟨k_159_41 L xs, List.forall_mem_cons.mpr ⟨k_159_42 L xs, List.forall_mem_cons.mpr ⟨k_159_45 L xs, List.forall_mem_cons.mpr ⟨k_159_46 L xs, List.forall_mem_cons.mpr ⟨k_159_48 L xs, List.forall_mem_cons.mpr ⟨k_159_50 L xs, List.forall_mem_cons.mpr ⟨k_159_51 L xs, List.forall_mem_cons.mpr ⟨k_159_54 L xs, List.forall_mem_cons.mpr ⟨k_159_56 L xs, List.forall_mem_cons.mpr ⟨k_159_57 L xs, List.forall_mem_cons.mpr ⟨k_159_60 L xs, List.forall_mem_cons.mpr ⟨k_159_61 L xs, List.forall_mem_cons.mpr ⟨k_159_62 L xs, List.forall_mem_cons.mpr ⟨k_159_65 L xs, List.forall_mem_cons.mpr ⟨k_159_66 L xs, List.forall_mem_cons.mpr ⟨k_159_69 L xs, List.forall_mem_cons.mpr ⟨k_159_71 L xs, List.forall_mem_cons.mpr ⟨k_159_72 L xs, List.forall_mem_cons.mpr ⟨k_159_74 L xs, List.forall_mem_cons.mpr ⟨k_159_75 L xs, List.forall_mem_cons.mpr ⟨k_159_76 L xs, List.forall_mem_cons.mpr ⟨k_159_77 L xs, List.forall_mem_cons.mpr ⟨k_159_80 L xs, List.forall_mem_cons.mpr ⟨k_159_83 L xs, List.forall_mem_cons.mpr ⟨k_159_86 L xs, List.forall_mem_cons.mpr ⟨k_159_89 L xs, List.forall_mem_cons.mpr ⟨k_159_90 L xs, List.forall_mem_cons.mpr ⟨k_159_93 L xs, List.forall_mem_cons.mpr ⟨k_159_95 L xs, List.forall_mem_cons.mpr ⟨k_159_96 L xs, List.forall_mem_cons.mpr ⟨k_159_97 L xs, List.forall_mem_cons.mpr ⟨k_159_100 L xs, List.forall_mem_cons.mpr ⟨k_159_101 L xs, List.forall_mem_cons.mpr ⟨k_159_103 L xs, List.forall_mem_cons.mpr ⟨k_159_104 L xs, List.forall_mem_cons.mpr ⟨k_159_107 L xs, List.forall_mem_cons.mpr ⟨k_159_110 L xs, List.forall_mem_cons.mpr ⟨k_159_113 L xs, List.forall_mem_cons.mpr ⟨k_159_114 L xs, List.forall_mem_cons.mpr ⟨k_159_117 L xs, List.forall_mem_cons.mpr ⟨k_159_120 L xs, List.forall_mem_cons.mpr ⟨k_159_121 L xs, List.forall_mem_cons.mpr ⟨k_159_124 L xs, List.forall_mem_cons.mpr ⟨k_159_125 L xs, List.forall_mem_cons.mpr ⟨k_159_128 L xs, List.forall_mem_cons.mpr ⟨k_159_129 L xs, List.forall_mem_cons.mpr ⟨k_159_132 L xs, List.forall_mem_cons.mpr ⟨k_159_133 L xs, List.forall_mem_cons.mpr ⟨k_159_136 L xs, List.forall_mem_cons.mpr ⟨k_159_137 L xs, List.forall_mem_cons.mpr ⟨k_159_138 L xs, List.forall_mem_cons.mpr ⟨k_159_141 L xs, List.forall_mem_cons.mpr ⟨k_159_142 L xs, List.forall_mem_cons.mpr ⟨k_159_143 L xs, List.forall_mem_cons.mpr ⟨k_159_144 L xs, List.forall_mem_cons.mpr ⟨k_159_147 L xs, List.forall_mem_cons.mpr ⟨k_159_150 L xs, fun _ h => absurd h List.not_mem_nil⟩⟩⟩⟩⟩⟩⟩⟩⟩⟩⟩⟩⟩⟩⟩⟩⟩⟩⟩⟩⟩⟩⟩⟩⟩⟩⟩⟩⟩⟩⟩⟩⟩⟩⟩⟩⟩⟩⟩⟩⟩⟩⟩⟩⟩⟩⟩⟩⟩⟩⟩⟩⟩⟩⟩⟩⟩⟩⟩⟩⟩⟩⟩⟩⟩⟩⟩⟩⟩⟩⟩⟩⟩⟩⟩⟩⟩⟩⟩⟩⟩⟩
/-- InclusionProverModel.star.(I)I -/
def cd_160 : List (Nat × ll_O) := [
  (0, .inl (lo_aload 1 0)),
  (1, .inl (lo_getf 4 11 5)),
  (4, .inl (lo_iload 5 1)),
  (5, .inl (lo_ald 6 0)),
  (6, .inl (lo_push 7 (.int 2))),
  (7, .inl (lo_cmp 12 10 (fun x y => decide (y ≤ x)))),
  (10, .inl (lo_push 11 (.int 1))),
  (11, .inr (.inr 1)),
  (12, .inl (lo_aload 13 0)),
  (13, .inl (lo_getf 16 11 5)),
  (16, .inl (lo_iload 17 1)),
  (17, .inl (lo_ald 18 0)),
  (18, .inl (lo_push 19 (.int 5))),
  (19, .inl (lo_cmp 24 22 (fun x y => decide (¬ x = y)))),
  (22, .inl (lo_iload 23 1)),
  (23, .inr (.inr 1)),
  (24, .inl (lo_aload 25 0)),
  (25, .inl (lo_getf 28 11 18)),
  (28, .inl (lo_push 29 (.int 0))),
  (29, .inl (lo_iload 30 1)),
  (30, .inl (lo_ast 31 0)),
  (31, .inl (lo_aload 32 0)),
  (32, .inl (lo_push 33 (.int 5))),
  (33, .inl (lo_push 34 (.int 1))),
  (34, .inr (.inl (156, 3, 37))),
  (37, .inr (.inr 1))]
theorem k_160_0 (L : Nat) (xs : Nat → Int32) : ll_OK1 cX11_star RX11 (some .int) false ll_mN ll_mR ll_mK ll_cnt L xs false 0 (.inl (lo_aload 1 0)) := lk_aload_n (k := 0) (by decide +kernel) rfl
theorem k_160_1 (L : Nat) (xs : Nat → Int32) : ll_OK1 cX11_star RX11 (some .int) false ll_mN ll_mR ll_mK ll_cnt L xs false 1 (.inl (lo_getf 4 11 5)) := lk_getf (ix := 25) (ci := 11) (k := 5) (C := RX11) (T := TX11) (N := 46) (by decide +kernel) rfl in_11 (by decide) tb_610
theorem k_160_4 (L : Nat) (xs : Nat → Int32) : ll_OK1 cX11_star RX11 (some .int) false ll_mN ll_mR ll_mK ll_cnt L xs false 4 (.inl (lo_iload 5 1)) := lk_iload_n (k := 1) (by decide +kernel) rfl
theorem k_160_5 (L : Nat) (xs : Nat → Int32) : ll_OK1 cX11_star RX11 (some .int) false ll_mN ll_mR ll_mK ll_cnt L xs false 5 (.inl (lo_ald 6 0)) := lk_iald (by decide +kernel)
theorem k_160_6 (L : Nat) (xs : Nat → Int32) : ll_OK1 cX11_star RX11 (some .int) false ll_mN ll_mR ll_mK ll_cnt L xs false 6 (.inl (lo_push 7 (.int 2))) := lk_iconst (n := 2) (by decide +kernel) (by decide)
theorem k_160_7 (L : Nat) (xs : Nat → Int32) : ll_OK1 cX11_star RX11 (some .int) false ll_mN ll_mR ll_mK ll_cnt L xs false 7 (.inl (lo_cmp 12 10 (fun x y => decide (y ≤ x)))) := lk_icmp_ge (off := 5) (by decide +kernel) rfl
theorem k_160_10 (L : Nat) (xs : Nat → Int32) : ll_OK1 cX11_star RX11 (some .int) false ll_mN ll_mR ll_mK ll_cnt L xs false 10 (.inl (lo_push 11 (.int 1))) := lk_iconst (n := 1) (by decide +kernel) (by decide)
theorem k_160_11 (L : Nat) (xs : Nat → Int32) : ll_OK1 cX11_star RX11 (some .int) false ll_mN ll_mR ll_mK ll_cnt L xs false 11 (.inr (.inr 1)) := ⟨(fun h => by cases h), (fun _ => ⟨(by decide +kernel), rfl⟩), fun h => by cases h⟩
theorem k_160_12 (L : Nat) (xs : Nat → Int32) : ll_OK1 cX11_star RX11 (some .int) false ll_mN ll_mR ll_mK ll_cnt L xs false 12 (.inl (lo_aload 13 0)) := lk_aload_n (k := 0) (by decide +kernel) rfl
theorem k_160_13 (L : Nat) (xs : Nat → Int32) : ll_OK1 cX11_star RX11 (some .int) false ll_mN ll_mR ll_mK ll_cnt L xs false 13 (.inl (lo_getf 16 11 5)) := lk_getf (ix := 25) (ci := 11) (k := 5) (C := RX11) (T := TX11) (N := 46) (by decide +kernel) rfl in_11 (by decide) tb_610
theorem k_160_16 (L : Nat) (xs : Nat → Int32) : ll_OK1 cX11_star RX11 (some .int) false ll_mN ll_mR ll_mK ll_cnt L xs false 16 (.inl (lo_iload 17 1)) := lk_iload_n (k := 1) (by decide +kernel) rfl
theorem k_160_17 (L : Nat) (xs : Nat → Int32) : ll_OK1 cX11_star RX11 (some .int) false ll_mN ll_mR ll_mK ll_cnt L xs false 17 (.inl (lo_ald 18 0)) := lk_iald (by decide +kernel)
theorem k_160_18 (L : Nat) (xs : Nat → Int32) : ll_OK1 cX11_star RX11 (some .int) false ll_mN ll_mR ll_mK ll_cnt L xs false 18 (.inl (lo_push 19 (.int 5))) := lk_iconst (n := 5) (by decide +kernel) (by decide)
theorem k_160_19 (L : Nat) (xs : Nat → Int32) : ll_OK1 cX11_star RX11 (some .int) false ll_mN ll_mR ll_mK ll_cnt L xs false 19 (.inl (lo_cmp 24 22 (fun x y => decide (¬ x = y)))) := lk_icmp_ne (off := 5) (by decide +kernel) rfl
theorem k_160_22 (L : Nat) (xs : Nat → Int32) : ll_OK1 cX11_star RX11 (some .int) false ll_mN ll_mR ll_mK ll_cnt L xs false 22 (.inl (lo_iload 23 1)) := lk_iload_n (k := 1) (by decide +kernel) rfl
theorem k_160_23 (L : Nat) (xs : Nat → Int32) : ll_OK1 cX11_star RX11 (some .int) false ll_mN ll_mR ll_mK ll_cnt L xs false 23 (.inr (.inr 1)) := ⟨(fun h => by cases h), (fun _ => ⟨(by decide +kernel), rfl⟩), fun h => by cases h⟩
theorem k_160_24 (L : Nat) (xs : Nat → Int32) : ll_OK1 cX11_star RX11 (some .int) false ll_mN ll_mR ll_mK ll_cnt L xs false 24 (.inl (lo_aload 25 0)) := lk_aload_n (k := 0) (by decide +kernel) rfl
theorem k_160_25 (L : Nat) (xs : Nat → Int32) : ll_OK1 cX11_star RX11 (some .int) false ll_mN ll_mR ll_mK ll_cnt L xs false 25 (.inl (lo_getf 28 11 18)) := lk_getf (ix := 56) (ci := 11) (k := 18) (C := RX11) (T := TX11) (N := 46) (by decide +kernel) rfl in_11 (by decide) tb_621
theorem k_160_28 (L : Nat) (xs : Nat → Int32) : ll_OK1 cX11_star RX11 (some .int) false ll_mN ll_mR ll_mK ll_cnt L xs false 28 (.inl (lo_push 29 (.int 0))) := lk_iconst (n := 0) (by decide +kernel) (by decide)
theorem k_160_29 (L : Nat) (xs : Nat → Int32) : ll_OK1 cX11_star RX11 (some .int) false ll_mN ll_mR ll_mK ll_cnt L xs false 29 (.inl (lo_iload 30 1)) := lk_iload_n (k := 1) (by decide +kernel) rfl
theorem k_160_30 (L : Nat) (xs : Nat → Int32) : ll_OK1 cX11_star RX11 (some .int) false ll_mN ll_mR ll_mK ll_cnt L xs false 30 (.inl (lo_ast 31 0)) := lk_iast (by decide +kernel)
theorem k_160_31 (L : Nat) (xs : Nat → Int32) : ll_OK1 cX11_star RX11 (some .int) false ll_mN ll_mR ll_mK ll_cnt L xs false 31 (.inl (lo_aload 32 0)) := lk_aload_n (k := 0) (by decide +kernel) rfl
theorem k_160_32 (L : Nat) (xs : Nat → Int32) : ll_OK1 cX11_star RX11 (some .int) false ll_mN ll_mR ll_mK ll_cnt L xs false 32 (.inl (lo_push 33 (.int 5))) := lk_iconst (n := 5) (by decide +kernel) (by decide)
theorem k_160_33 (L : Nat) (xs : Nat → Int32) : ll_OK1 cX11_star RX11 (some .int) false ll_mN ll_mR ll_mK ll_cnt L xs false 33 (.inl (lo_push 34 (.int 1))) := lk_iconst (n := 1) (by decide +kernel) (by decide)
theorem k_160_34 (L : Nat) (xs : Nat → Int32) : ll_OK1 cX11_star RX11 (some .int) false ll_mN ll_mR ll_mK ll_cnt L xs false 34 (.inr (.inl (156, 3, 37))) := ⟨rfl, by decide, by rw [mN_156, mK_156, mR_156]; exact lj_v 141 2 11 (RX11, TX11, 46) (by decide +kernel) tb_656 tb_657 tb_658 rfl rfl rfl rfl (by decide +kernel)⟩
theorem k_160_37 (L : Nat) (xs : Nat → Int32) : ll_OK1 cX11_star RX11 (some .int) false ll_mN ll_mR ll_mK ll_cnt L xs false 37 (.inr (.inr 1)) := ⟨(fun h => by cases h), (fun _ => ⟨(by decide +kernel), rfl⟩), fun h => by cases h⟩
theorem ok_160 (L : Nat) (xs : Nat → Int32) : ∀ q ∈ cd_160, ll_OK1 cX11_star RX11 (some .int) false ll_mN ll_mR ll_mK ll_cnt L xs false q.1 q.2 :=
  List.forall_mem_cons.mpr ⟨k_160_0 L xs, List.forall_mem_cons.mpr ⟨k_160_1 L xs, List.forall_mem_cons.mpr ⟨k_160_4 L xs, List.forall_mem_cons.mpr ⟨k_160_5 L xs, List.forall_mem_cons.mpr ⟨k_160_6 L xs, List.forall_mem_cons.mpr ⟨k_160_7 L xs, List.forall_mem_cons.mpr ⟨k_160_10 L xs, List.forall_mem_cons.mpr ⟨k_160_11 L xs, List.forall_mem_cons.mpr ⟨k_160_12 L xs, List.forall_mem_cons.mpr ⟨k_160_13 L xs, List.forall_mem_cons.mpr ⟨k_160_16 L xs, List.forall_mem_cons.mpr ⟨k_160_17 L xs, List.forall_mem_cons.mpr ⟨k_160_18 L xs, List.forall_mem_cons.mpr ⟨k_160_19 L xs, List.forall_mem_cons.mpr ⟨k_160_22 L xs, List.forall_mem_cons.mpr ⟨k_160_23 L xs, List.forall_mem_cons.mpr ⟨k_160_24 L xs, List.forall_mem_cons.mpr ⟨k_160_25 L xs, List.forall_mem_cons.mpr ⟨k_160_28 L xs, List.forall_mem_cons.mpr ⟨k_160_29 L xs, List.forall_mem_cons.mpr ⟨k_160_30 L xs, List.forall_mem_cons.mpr ⟨k_160_31 L xs, List.forall_mem_cons.mpr ⟨k_160_32 L xs, List.forall_mem_cons.mpr ⟨k_160_33 L xs, List.forall_mem_cons.mpr ⟨k_160_34 L xs, List.forall_mem_cons.mpr ⟨k_160_37 L xs, fun _ h => absurd h List.not_mem_nil⟩⟩⟩⟩⟩⟩⟩⟩⟩⟩⟩⟩⟩⟩⟩⟩⟩⟩⟩⟩⟩⟩⟩⟩⟩⟩
/-- InclusionProverModel.behind.(III)I -/
def cd_161 : List (Nat × ll_O) := [
  (0, .inl (lo_aload 1 0)),
  (1, .inl (lo_getf 4 11 20)),
  (4, .inl (lo_push 5 (.int 0))),
  (5, .inl (lo_iload 6 1)),
  (6, .inl (lo_ast 7 0)),
  (7, .inl (lo_aload 8 0)),
  (8, .inl (lo_getf 11 11 7)),
  (11, .inl (lo_iload 12 2)),
  (12, .inl (lo_ald 13 0)),
  (13, .inl (lo_iload 14 3)),
  (14, .inl (lo_bin 15 (fun x y => x - y))),
  (15, .inl (lo_istore 17 4)),
  (17, .inl (lo_push 18 (.int 0))),
  (18, .inl (lo_istore 20 5)),
  (20, .inl (lo_iload 22 5)),
  (22, .inl (lo_iload 24 4)),
  (24, .inl (lo_cmp 58 27 (fun x y => decide (y ≤ x)))),
  (27, .inl (lo_aload 28 0)),
  (28, .inl (lo_getf 31 11 20)),
  (31, .inl (lo_push 32 (.int 1))),
  (32, .inl (lo_iload 34 5)),
  (34, .inl (lo_bin 35 (fun x y => x + y))),
  (35, .inl (lo_aload 36 0)),
  (36, .inl (lo_getf 39 11 10)),
  (39, .inl (lo_aload 40 0)),
  (40, .inl (lo_getf 43 11 6)),
  (43, .inl (lo_iload 44 2)),
  (44, .inl (lo_ald 45 0)),
  (45, .inl (lo_iload 46 3)),
  (46, .inl (lo_bin 47 (fun x y => x + y))),
  (47, .inl (lo_iload 49 5)),
  (49, .inl (lo_bin 50 (fun x y => x + y))),
  (50, .inl (lo_ald 51 0)),
  (51, .inl (lo_ast 52 0)),
  (52, .inl (lo_iinc 55 5 1)),
  (55, .inl (lo_goto 20)),
  (58, .inl (lo_aload 59 0)),
  (59, .inl (lo_aload 60 0)),
  (60, .inl (lo_getf 63 11 20)),
  (63, .inl (lo_push 64 (.int 0))),
  (64, .inl (lo_iload 66 4)),
  (66, .inl (lo_push 67 (.int 1))),
  (67, .inl (lo_bin 68 (fun x y => x + y))),
  (68, .inr (.inl (159, 4, 71))),
  (71, .inr (.inr 1))]
theorem k_161_0 (L : Nat) (xs : Nat → Int32) : ll_OK1 cX11_behind RX11 (some .int) false ll_mN ll_mR ll_mK ll_cnt L xs false 0 (.inl (lo_aload 1 0)) := lk_aload_n (k := 0) (by decide +kernel) rfl
theorem k_161_1 (L : Nat) (xs : Nat → Int32) : ll_OK1 cX11_behind RX11 (some .int) false ll_mN ll_mR ll_mK ll_cnt L xs false 1 (.inl (lo_getf 4 11 20)) := lk_getf (ix := 59) (ci := 11) (k := 20) (C := RX11) (T := TX11) (N := 46) (by decide +kernel) rfl in_11 (by decide) tb_622
theorem k_161_4 (L : Nat) (xs : Nat → Int32) : ll_OK1 cX11_behind RX11 (some .int) false ll_mN ll_mR ll_mK ll_cnt L xs false 4 (.inl (lo_push 5 (.int 0))) := lk_iconst (n := 0) (by decide +kernel) (by decide)
theorem k_161_5 (L : Nat) (xs : Nat → Int32) : ll_OK1 cX11_behind RX11 (some .int) false ll_mN ll_mR ll_mK ll_cnt L xs false 5 (.inl (lo_iload 6 1)) := lk_iload_n (k := 1) (by decide +kernel) rfl
theorem k_161_6 (L : Nat) (xs : Nat → Int32) : ll_OK1 cX11_behind RX11 (some .int) false ll_mN ll_mR ll_mK ll_cnt L xs false 6 (.inl (lo_ast 7 0)) := lk_iast (by decide +kernel)
theorem k_161_7 (L : Nat) (xs : Nat → Int32) : ll_OK1 cX11_behind RX11 (some .int) false ll_mN ll_mR ll_mK ll_cnt L xs false 7 (.inl (lo_aload 8 0)) := lk_aload_n (k := 0) (by decide +kernel) rfl
theorem k_161_8 (L : Nat) (xs : Nat → Int32) : ll_OK1 cX11_behind RX11 (some .int) false ll_mN ll_mR ll_mK ll_cnt L xs false 8 (.inl (lo_getf 11 11 7)) := lk_getf (ix := 31) (ci := 11) (k := 7) (C := RX11) (T := TX11) (N := 46) (by decide +kernel) rfl in_11 (by decide) tb_612
theorem k_161_11 (L : Nat) (xs : Nat → Int32) : ll_OK1 cX11_behind RX11 (some .int) false ll_mN ll_mR ll_mK ll_cnt L xs false 11 (.inl (lo_iload 12 2)) := lk_iload_n (k := 2) (by decide +kernel) rfl
theorem k_161_12 (L : Nat) (xs : Nat → Int32) : ll_OK1 cX11_behind RX11 (some .int) false ll_mN ll_mR ll_mK ll_cnt L xs false 12 (.inl (lo_ald 13 0)) := lk_iald (by decide +kernel)
theorem k_161_13 (L : Nat) (xs : Nat → Int32) : ll_OK1 cX11_behind RX11 (some .int) false ll_mN ll_mR ll_mK ll_cnt L xs false 13 (.inl (lo_iload 14 3)) := lk_iload_n (k := 3) (by decide +kernel) rfl
theorem k_161_14 (L : Nat) (xs : Nat → Int32) : ll_OK1 cX11_behind RX11 (some .int) false ll_mN ll_mR ll_mK ll_cnt L xs false 14 (.inl (lo_bin 15 (fun x y => x - y))) := lk_isub (by decide +kernel)
theorem k_161_15 (L : Nat) (xs : Nat → Int32) : ll_OK1 cX11_behind RX11 (some .int) false ll_mN ll_mR ll_mK ll_cnt L xs false 15 (.inl (lo_istore 17 4)) := lk_istore (by decide +kernel)
theorem k_161_17 (L : Nat) (xs : Nat → Int32) : ll_OK1 cX11_behind RX11 (some .int) false ll_mN ll_mR ll_mK ll_cnt L xs false 17 (.inl (lo_push 18 (.int 0))) := lk_iconst (n := 0) (by decide +kernel) (by decide)
theorem k_161_18 (L : Nat) (xs : Nat → Int32) : ll_OK1 cX11_behind RX11 (some .int) false ll_mN ll_mR ll_mK ll_cnt L xs false 18 (.inl (lo_istore 20 5)) := lk_istore (by decide +kernel)
theorem k_161_20 (L : Nat) (xs : Nat → Int32) : ll_OK1 cX11_behind RX11 (some .int) false ll_mN ll_mR ll_mK ll_cnt L xs false 20 (.inl (lo_iload 22 5)) := lk_iload (by decide +kernel)
theorem k_161_22 (L : Nat) (xs : Nat → Int32) : ll_OK1 cX11_behind RX11 (some .int) false ll_mN ll_mR ll_mK ll_cnt L xs false 22 (.inl (lo_iload 24 4)) := lk_iload (by decide +kernel)
theorem k_161_24 (L : Nat) (xs : Nat → Int32) : ll_OK1 cX11_behind RX11 (some .int) false ll_mN ll_mR ll_mK ll_cnt L xs false 24 (.inl (lo_cmp 58 27 (fun x y => decide (y ≤ x)))) := lk_icmp_ge (off := 34) (by decide +kernel) rfl
theorem k_161_27 (L : Nat) (xs : Nat → Int32) : ll_OK1 cX11_behind RX11 (some .int) false ll_mN ll_mR ll_mK ll_cnt L xs false 27 (.inl (lo_aload 28 0)) := lk_aload_n (k := 0) (by decide +kernel) rfl
theorem k_161_28 (L : Nat) (xs : Nat → Int32) : ll_OK1 cX11_behind RX11 (some .int) false ll_mN ll_mR ll_mK ll_cnt L xs false 28 (.inl (lo_getf 31 11 20)) := lk_getf (ix := 59) (ci := 11) (k := 20) (C := RX11) (T := TX11) (N := 46) (by decide +kernel) rfl in_11 (by decide) tb_622
theorem k_161_31 (L : Nat) (xs : Nat → Int32) : ll_OK1 cX11_behind RX11 (some .int) false ll_mN ll_mR ll_mK ll_cnt L xs false 31 (.inl (lo_push 32 (.int 1))) := lk_iconst (n := 1) (by decide +kernel) (by decide)
theorem k_161_32 (L : Nat) (xs : Nat → Int32) : ll_OK1 cX11_behind RX11 (some .int) false ll_mN ll_mR ll_mK ll_cnt L xs false 32 (.inl (lo_iload 34 5)) := lk_iload (by decide +kernel)
theorem k_161_34 (L : Nat) (xs : Nat → Int32) : ll_OK1 cX11_behind RX11 (some .int) false ll_mN ll_mR ll_mK ll_cnt L xs false 34 (.inl (lo_bin 35 (fun x y => x + y))) := lk_iadd (by decide +kernel)
theorem k_161_35 (L : Nat) (xs : Nat → Int32) : ll_OK1 cX11_behind RX11 (some .int) false ll_mN ll_mR ll_mK ll_cnt L xs false 35 (.inl (lo_aload 36 0)) := lk_aload_n (k := 0) (by decide +kernel) rfl
theorem k_161_36 (L : Nat) (xs : Nat → Int32) : ll_OK1 cX11_behind RX11 (some .int) false ll_mN ll_mR ll_mK ll_cnt L xs false 36 (.inl (lo_getf 39 11 10)) := lk_getf (ix := 40) (ci := 11) (k := 10) (C := RX11) (T := TX11) (N := 46) (by decide +kernel) rfl in_11 (by decide) tb_615
theorem k_161_39 (L : Nat) (xs : Nat → Int32) : ll_OK1 cX11_behind RX11 (some .int) false ll_mN ll_mR ll_mK ll_cnt L xs false 39 (.inl (lo_aload 40 0)) := lk_aload_n (k := 0) (by decide +kernel) rfl
theorem k_161_40 (L : Nat) (xs : Nat → Int32) : ll_OK1 cX11_behind RX11 (some .int) false ll_mN ll_mR ll_mK ll_cnt L xs false 40 (.inl (lo_getf 43 11 6)) := lk_getf (ix := 28) (ci := 11) (k := 6) (C := RX11) (T := TX11) (N := 46) (by decide +kernel) rfl in_11 (by decide) tb_611
theorem k_161_43 (L : Nat) (xs : Nat → Int32) : ll_OK1 cX11_behind RX11 (some .int) false ll_mN ll_mR ll_mK ll_cnt L xs false 43 (.inl (lo_iload 44 2)) := lk_iload_n (k := 2) (by decide +kernel) rfl
theorem k_161_44 (L : Nat) (xs : Nat → Int32) : ll_OK1 cX11_behind RX11 (some .int) false ll_mN ll_mR ll_mK ll_cnt L xs false 44 (.inl (lo_ald 45 0)) := lk_iald (by decide +kernel)
theorem k_161_45 (L : Nat) (xs : Nat → Int32) : ll_OK1 cX11_behind RX11 (some .int) false ll_mN ll_mR ll_mK ll_cnt L xs false 45 (.inl (lo_iload 46 3)) := lk_iload_n (k := 3) (by decide +kernel) rfl
theorem k_161_46 (L : Nat) (xs : Nat → Int32) : ll_OK1 cX11_behind RX11 (some .int) false ll_mN ll_mR ll_mK ll_cnt L xs false 46 (.inl (lo_bin 47 (fun x y => x + y))) := lk_iadd (by decide +kernel)
theorem k_161_47 (L : Nat) (xs : Nat → Int32) : ll_OK1 cX11_behind RX11 (some .int) false ll_mN ll_mR ll_mK ll_cnt L xs false 47 (.inl (lo_iload 49 5)) := lk_iload (by decide +kernel)
theorem k_161_49 (L : Nat) (xs : Nat → Int32) : ll_OK1 cX11_behind RX11 (some .int) false ll_mN ll_mR ll_mK ll_cnt L xs false 49 (.inl (lo_bin 50 (fun x y => x + y))) := lk_iadd (by decide +kernel)
theorem k_161_50 (L : Nat) (xs : Nat → Int32) : ll_OK1 cX11_behind RX11 (some .int) false ll_mN ll_mR ll_mK ll_cnt L xs false 50 (.inl (lo_ald 51 0)) := lk_iald (by decide +kernel)
theorem k_161_51 (L : Nat) (xs : Nat → Int32) : ll_OK1 cX11_behind RX11 (some .int) false ll_mN ll_mR ll_mK ll_cnt L xs false 51 (.inl (lo_ast 52 0)) := lk_iast (by decide +kernel)
theorem k_161_52 (L : Nat) (xs : Nat → Int32) : ll_OK1 cX11_behind RX11 (some .int) false ll_mN ll_mR ll_mK ll_cnt L xs false 52 (.inl (lo_iinc 55 5 1)) := lk_iinc (n := 1) (by decide +kernel) (by decide)
theorem k_161_55 (L : Nat) (xs : Nat → Int32) : ll_OK1 cX11_behind RX11 (some .int) false ll_mN ll_mR ll_mK ll_cnt L xs false 55 (.inl (lo_goto 20)) := lk_goto (off := (-35)) (by decide +kernel) rfl
theorem k_161_58 (L : Nat) (xs : Nat → Int32) : ll_OK1 cX11_behind RX11 (some .int) false ll_mN ll_mR ll_mK ll_cnt L xs false 58 (.inl (lo_aload 59 0)) := lk_aload_n (k := 0) (by decide +kernel) rfl
theorem k_161_59 (L : Nat) (xs : Nat → Int32) : ll_OK1 cX11_behind RX11 (some .int) false ll_mN ll_mR ll_mK ll_cnt L xs false 59 (.inl (lo_aload 60 0)) := lk_aload_n (k := 0) (by decide +kernel) rfl
theorem k_161_60 (L : Nat) (xs : Nat → Int32) : ll_OK1 cX11_behind RX11 (some .int) false ll_mN ll_mR ll_mK ll_cnt L xs false 60 (.inl (lo_getf 63 11 20)) := lk_getf (ix := 59) (ci := 11) (k := 20) (C := RX11) (T := TX11) (N := 46) (by decide +kernel) rfl in_11 (by decide) tb_622
theorem k_161_63 (L : Nat) (xs : Nat → Int32) : ll_OK1 cX11_behind RX11 (some .int) false ll_mN ll_mR ll_mK ll_cnt L xs false 63 (.inl (lo_push 64 (.int 0))) := lk_iconst (n := 0) (by decide +kernel) (by decide)
theorem k_161_64 (L : Nat) (xs : Nat → Int32) : ll_OK1 cX11_behind RX11 (some .int) false ll_mN ll_mR ll_mK ll_cnt L xs false 64 (.inl (lo_iload 66 4)) := lk_iload (by decide +kernel)
theorem k_161_66 (L : Nat) (xs : Nat → Int32) : ll_OK1 cX11_behind RX11 (some .int) false ll_mN ll_mR ll_mK ll_cnt L xs false 66 (.inl (lo_push 67 (.int 1))) := lk_iconst (n := 1) (by decide +kernel) (by decide)
theorem k_161_67 (L : Nat) (xs : Nat → Int32) : ll_OK1 cX11_behind RX11 (some .int) false ll_mN ll_mR ll_mK ll_cnt L xs false 67 (.inl (lo_bin 68 (fun x y => x + y))) := lk_iadd (by decide +kernel)
theorem k_161_68 (L : Nat) (xs : Nat → Int32) : ll_OK1 cX11_behind RX11 (some .int) false ll_mN ll_mR ll_mK ll_cnt L xs false 68 (.inr (.inl (159, 4, 71))) := ⟨rfl, by decide, by rw [mN_159, mK_159, mR_159]; exact lj_v 144 3 11 (RX11, TX11, 46) (by decide +kernel) tb_659 tb_660 tb_661 rfl rfl rfl rfl (by decide +kernel)⟩
theorem k_161_71 (L : Nat) (xs : Nat → Int32) : ll_OK1 cX11_behind RX11 (some .int) false ll_mN ll_mR ll_mK ll_cnt L xs false 71 (.inr (.inr 1)) := ⟨(fun h => by cases h), (fun _ => ⟨(by decide +kernel), rfl⟩), fun h => by cases h⟩
theorem ok_161 (L : Nat) (xs : Nat → Int32) : ∀ q ∈ cd_161, ll_OK1 cX11_behind RX11 (some .int) false ll_mN ll_mR ll_mK ll_cnt L xs false q.1 q.2 :=
  List.forall_mem_cons.mpr ⟨k_161_0 L xs, List.forall_mem_cons.mpr ⟨k_161_1 L xs, List.forall_mem_cons.mpr ⟨k_161_4 L xs, List.forall_mem_cons.mpr ⟨k_161_5 L xs, List.forall_mem_cons.mpr ⟨k_161_6 L xs, List.forall_mem_cons.mpr ⟨k_161_7 L xs, List.forall_mem_cons.mpr ⟨k_161_8 L xs, List.forall_mem_cons.mpr ⟨k_161_11 L xs, List.forall_mem_cons.mpr ⟨k_161_12 L xs, List.forall_mem_cons.mpr ⟨k_161_13 L xs, List.forall_mem_cons.mpr ⟨k_161_14 L xs, List.forall_mem_cons.mpr ⟨k_161_15 L xs, List.forall_mem_cons.mpr ⟨k_161_17 L xs, List.forall_mem_cons.mpr ⟨k_161_18 L xs, List.forall_mem_cons.mpr ⟨k_161_20 L xs, List.forall_mem_cons.mpr ⟨k_161_22 L xs, List.forall_mem_cons.mpr ⟨k_161_24 L xs, List.forall_mem_cons.mpr ⟨k_161_27 L xs, List.forall_mem_cons.mpr ⟨k_161_28 L xs, List.forall_mem_cons.mpr ⟨k_161_31 L xs, List.forall_mem_cons.mpr ⟨k_161_32 L xs, List.forall_mem_cons.mpr ⟨k_161_34 L xs, List.forall_mem_cons.mpr ⟨k_161_35 L xs, List.forall_mem_cons.mpr ⟨k_161_36 L xs, List.forall_mem_cons.mpr ⟨k_161_39 L xs, List.forall_mem_cons.mpr ⟨k_161_40 L xs, List.forall_mem_cons.mpr ⟨k_161_43 L xs, List.forall_mem_cons.mpr ⟨k_161_44 L xs, List.forall_mem_cons.mpr ⟨k_161_45 L xs, List.forall_mem_cons.mpr ⟨k_161_46 L xs, List.forall_mem_cons.mpr ⟨k_161_47 L xs, List.forall_mem_cons.mpr ⟨k_161_49 L xs, List.forall_mem_cons.mpr ⟨k_161_50 L xs, List.forall_mem_cons.mpr ⟨k_161_51 L xs, List.forall_mem_cons.mpr ⟨k_161_52 L xs, List.forall_mem_cons.mpr ⟨k_161_55 L xs, List.forall_mem_cons.mpr ⟨k_161_58 L xs, List.forall_mem_cons.mpr ⟨k_161_59 L xs, List.forall_mem_cons.mpr ⟨k_161_60 L xs, List.forall_mem_cons.mpr ⟨k_161_63 L xs, List.forall_mem_cons.mpr ⟨k_161_64 L xs, List.forall_mem_cons.mpr ⟨k_161_66 L xs, List.forall_mem_cons.mpr ⟨k_161_67 L xs, List.forall_mem_cons.mpr ⟨k_161_68 L xs, List.forall_mem_cons.mpr ⟨k_161_71 L xs, fun _ h => absurd h List.not_mem_nil⟩⟩⟩⟩⟩⟩⟩⟩⟩⟩⟩⟩⟩⟩⟩⟩⟩⟩⟩⟩⟩⟩⟩⟩⟩⟩⟩⟩⟩⟩⟩⟩⟩⟩⟩⟩⟩⟩⟩⟩⟩⟩⟩⟩⟩
/-- InclusionProverModel.opens.()V -/
def cd_162 : List (Nat × ll_O) := [
  (0, .inl (lo_aload 1 0)),
  (1, .inl (lo_getf 4 11 23)),
  (4, .inl (lo_aload 5 0)),
  (5, .inl (lo_getf 8 11 25)),
  (8, .inl (lo_push 9 (.int 0))),
  (9, .inl (lo_ast 10 0)),
  (10, .inl (lo_aload 11 0)),
  (11, .inl (lo_getf 14 11 24)),
  (14, .inl (lo_aload 15 0)),
  (15, .inl (lo_getf 18 11 25)),
  (18, .inl (lo_push 19 (.int 0))),
  (19, .inl (lo_ast 20 0)),
  (20, .inr (.inr 0))]
theorem k_162_0 (L : Nat) (xs : Nat → Int32) : ll_OK1 cX11_opens RX11 none false ll_mN ll_mR ll_mK ll_cnt L xs false 0 (.inl (lo_aload 1 0)) := lk_aload_n (k := 0) (by decide +kernel) rfl
theorem k_162_1 (L : Nat) (xs : Nat → Int32) : ll_OK1 cX11_opens RX11 none false ll_mN ll_mR ll_mK ll_cnt L xs false 1 (.inl (lo_getf 4 11 23)) := lk_getf (ix := 68) (ci := 11) (k := 23) (C := RX11) (T := TX11) (N := 46) (by decide +kernel) rfl in_11 (by decide) tb_625
theorem k_162_4 (L : Nat) (xs : Nat → Int32) : ll_OK1 cX11_opens RX11 none false ll_mN ll_mR ll_mK ll_cnt L xs false 4 (.inl (lo_aload 5 0)) := lk_aload_n (k := 0) (by decide +kernel) rfl
theorem k_162_5 (L : Nat) (xs : Nat → Int32) : ll_OK1 cX11_opens RX11 none false ll_mN ll_mR ll_mK ll_cnt L xs false 5 (.inl (lo_getf 8 11 25)) := lk_getf (ix := 148) (ci := 11) (k := 25) (C := RX11) (T := TX11) (N := 46) (by decide +kernel) rfl in_11 (by decide) tb_662
theorem k_162_8 (L : Nat) (xs : Nat → Int32) : ll_OK1 cX11_opens RX11 none false ll_mN ll_mR ll_mK ll_cnt L xs false 8 (.inl (lo_push 9 (.int 0))) := lk_iconst (n := 0) (by decide +kernel) (by decide)
theorem k_162_9 (L : Nat) (xs : Nat → Int32) : ll_OK1 cX11_opens RX11 none false ll_mN ll_mR ll_mK ll_cnt L xs false 9 (.inl (lo_ast 10 0)) := lk_iast (by decide +kernel)
theorem k_162_10 (L : Nat) (xs : Nat → Int32) : ll_OK1 cX11_opens RX11 none false ll_mN ll_mR ll_mK ll_cnt L xs false 10 (.inl (lo_aload 11 0)) := lk_aload_n (k := 0) (by decide +kernel) rfl
theorem k_162_11 (L : Nat) (xs : Nat → Int32) : ll_OK1 cX11_opens RX11 none false ll_mN ll_mR ll_mK ll_cnt L xs false 11 (.inl (lo_getf 14 11 24)) := lk_getf (ix := 71) (ci := 11) (k := 24) (C := RX11) (T := TX11) (N := 46) (by decide +kernel) rfl in_11 (by decide) tb_626
theorem k_162_14 (L : Nat) (xs : Nat → Int32) : ll_OK1 cX11_opens RX11 none false ll_mN ll_mR ll_mK ll_cnt L xs false 14 (.inl (lo_aload 15 0)) := lk_aload_n (k := 0) (by decide +kernel) rfl
theorem k_162_15 (L : Nat) (xs : Nat → Int32) : ll_OK1 cX11_opens RX11 none false ll_mN ll_mR ll_mK ll_cnt L xs false 15 (.inl (lo_getf 18 11 25)) := lk_getf (ix := 148) (ci := 11) (k := 25) (C := RX11) (T := TX11) (N := 46) (by decide +kernel) rfl in_11 (by decide) tb_662
theorem k_162_18 (L : Nat) (xs : Nat → Int32) : ll_OK1 cX11_opens RX11 none false ll_mN ll_mR ll_mK ll_cnt L xs false 18 (.inl (lo_push 19 (.int 0))) := lk_iconst (n := 0) (by decide +kernel) (by decide)
theorem k_162_19 (L : Nat) (xs : Nat → Int32) : ll_OK1 cX11_opens RX11 none false ll_mN ll_mR ll_mK ll_cnt L xs false 19 (.inl (lo_ast 20 0)) := lk_iast (by decide +kernel)
theorem k_162_20 (L : Nat) (xs : Nat → Int32) : ll_OK1 cX11_opens RX11 none false ll_mN ll_mR ll_mK ll_cnt L xs false 20 (.inr (.inr 0)) := ⟨fun _ => ⟨(by decide +kernel), rfl⟩, (fun h => by cases h), fun h => by cases h⟩
theorem ok_162 (L : Nat) (xs : Nat → Int32) : ∀ q ∈ cd_162, ll_OK1 cX11_opens RX11 none false ll_mN ll_mR ll_mK ll_cnt L xs false q.1 q.2 :=
  List.forall_mem_cons.mpr ⟨k_162_0 L xs, List.forall_mem_cons.mpr ⟨k_162_1 L xs, List.forall_mem_cons.mpr ⟨k_162_4 L xs, List.forall_mem_cons.mpr ⟨k_162_5 L xs, List.forall_mem_cons.mpr ⟨k_162_8 L xs, List.forall_mem_cons.mpr ⟨k_162_9 L xs, List.forall_mem_cons.mpr ⟨k_162_10 L xs, List.forall_mem_cons.mpr ⟨k_162_11 L xs, List.forall_mem_cons.mpr ⟨k_162_14 L xs, List.forall_mem_cons.mpr ⟨k_162_15 L xs, List.forall_mem_cons.mpr ⟨k_162_18 L xs, List.forall_mem_cons.mpr ⟨k_162_19 L xs, List.forall_mem_cons.mpr ⟨k_162_20 L xs, fun _ h => absurd h List.not_mem_nil⟩⟩⟩⟩⟩⟩⟩⟩⟩⟩⟩⟩⟩
/-- InclusionProverModel.addsFactor.(I)V -/
def cd_163 : List (Nat × ll_O) := [
  (0, .inl (lo_aload 1 0)),
  (1, .inl (lo_getf 4 11 22)),
  (4, .inl (lo_push 6 (.int 30))),
  (6, .inl (lo_aload 7 0)),
  (7, .inl (lo_getf 10 11 25)),
  (10, .inl (lo_bin 11 (fun x y => x * y))),
  (11, .inl (lo_aload 12 0)),
  (12, .inl (lo_getf 15 11 24)),
  (15, .inl (lo_aload 16 0)),
  (16, .inl (lo_getf 19 11 25)),
  (19, .inl (lo_ald 20 0)),
  (20, .inl (lo_bin 21 (fun x y => x + y))),
  (21, .inl (lo_iload 22 1)),
  (22, .inl (lo_ast 23 0)),
  (23, .inl (lo_aload 24 0)),
  (24, .inl (lo_getf 27 11 24)),
  (27, .inl (lo_aload 28 0)),
  (28, .inl (lo_getf 31 11 25)),
  (31, .inl (lo_dup2 32)),
  (32, .inl (lo_ald 33 0)),
  (33, .inl (lo_push 34 (.int 1))),
  (34, .inl (lo_bin 35 (fun x y => x + y))),
  (35, .inl (lo_ast 36 0)),
  (36, .inr (.inr 0))]
theorem k_163_0 (L : Nat) (xs : Nat → Int32) : ll_OK1 cX11_addsFactor RX11 none false ll_mN ll_mR ll_mK ll_cnt L xs false 0 (.inl (lo_aload 1 0)) := lk_aload_n (k := 0) (by decide +kernel) rfl
theorem k_163_1 (L : Nat) (xs : Nat → Int32) : ll_OK1 cX11_addsFactor RX11 none false ll_mN ll_mR ll_mK ll_cnt L xs false 1 (.inl (lo_getf 4 11 22)) := lk_getf (ix := 65) (ci := 11) (k := 22) (C := RX11) (T := TX11) (N := 46) (by decide +kernel) rfl in_11 (by decide) tb_624
theorem k_163_4 (L : Nat) (xs : Nat → Int32) : ll_OK1 cX11_addsFactor RX11 none false ll_mN ll_mR ll_mK ll_cnt L xs false 4 (.inl (lo_push 6 (.int 30))) := lk_bipush (n := 30) (by decide +kernel) (by decide)
theorem k_163_6 (L : Nat) (xs : Nat → Int32) : ll_OK1 cX11_addsFactor RX11 none false ll_mN ll_mR ll_mK ll_cnt L xs false 6 (.inl (lo_aload 7 0)) := lk_aload_n (k := 0) (by decide +kernel) rfl
theorem k_163_7 (L : Nat) (xs : Nat → Int32) : ll_OK1 cX11_addsFactor RX11 none false ll_mN ll_mR ll_mK ll_cnt L xs false 7 (.inl (lo_getf 10 11 25)) := lk_getf (ix := 148) (ci := 11) (k := 25) (C := RX11) (T := TX11) (N := 46) (by decide +kernel) rfl in_11 (by decide) tb_662
theorem k_163_10 (L : Nat) (xs : Nat → Int32) : ll_OK1 cX11_addsFactor RX11 none false ll_mN ll_mR ll_mK ll_cnt L xs false 10 (.inl (lo_bin 11 (fun x y => x * y))) := lk_imul (by decide +kernel)
theorem k_163_11 (L : Nat) (xs : Nat → Int32) : ll_OK1 cX11_addsFactor RX11 none false ll_mN ll_mR ll_mK ll_cnt L xs false 11 (.inl (lo_aload 12 0)) := lk_aload_n (k := 0) (by decide +kernel) rfl
theorem k_163_12 (L : Nat) (xs : Nat → Int32) : ll_OK1 cX11_addsFactor RX11 none false ll_mN ll_mR ll_mK ll_cnt L xs false 12 (.inl (lo_getf 15 11 24)) := lk_getf (ix := 71) (ci := 11) (k := 24) (C := RX11) (T := TX11) (N := 46) (by decide +kernel) rfl in_11 (by decide) tb_626
theorem k_163_15 (L : Nat) (xs : Nat → Int32) : ll_OK1 cX11_addsFactor RX11 none false ll_mN ll_mR ll_mK ll_cnt L xs false 15 (.inl (lo_aload 16 0)) := lk_aload_n (k := 0) (by decide +kernel) rfl
theorem k_163_16 (L : Nat) (xs : Nat → Int32) : ll_OK1 cX11_addsFactor RX11 none false ll_mN ll_mR ll_mK ll_cnt L xs false 16 (.inl (lo_getf 19 11 25)) := lk_getf (ix := 148) (ci := 11) (k := 25) (C := RX11) (T := TX11) (N := 46) (by decide +kernel) rfl in_11 (by decide) tb_662
theorem k_163_19 (L : Nat) (xs : Nat → Int32) : ll_OK1 cX11_addsFactor RX11 none false ll_mN ll_mR ll_mK ll_cnt L xs false 19 (.inl (lo_ald 20 0)) := lk_iald (by decide +kernel)
theorem k_163_20 (L : Nat) (xs : Nat → Int32) : ll_OK1 cX11_addsFactor RX11 none false ll_mN ll_mR ll_mK ll_cnt L xs false 20 (.inl (lo_bin 21 (fun x y => x + y))) := lk_iadd (by decide +kernel)
theorem k_163_21 (L : Nat) (xs : Nat → Int32) : ll_OK1 cX11_addsFactor RX11 none false ll_mN ll_mR ll_mK ll_cnt L xs false 21 (.inl (lo_iload 22 1)) := lk_iload_n (k := 1) (by decide +kernel) rfl
theorem k_163_22 (L : Nat) (xs : Nat → Int32) : ll_OK1 cX11_addsFactor RX11 none false ll_mN ll_mR ll_mK ll_cnt L xs false 22 (.inl (lo_ast 23 0)) := lk_iast (by decide +kernel)
theorem k_163_23 (L : Nat) (xs : Nat → Int32) : ll_OK1 cX11_addsFactor RX11 none false ll_mN ll_mR ll_mK ll_cnt L xs false 23 (.inl (lo_aload 24 0)) := lk_aload_n (k := 0) (by decide +kernel) rfl
theorem k_163_24 (L : Nat) (xs : Nat → Int32) : ll_OK1 cX11_addsFactor RX11 none false ll_mN ll_mR ll_mK ll_cnt L xs false 24 (.inl (lo_getf 27 11 24)) := lk_getf (ix := 71) (ci := 11) (k := 24) (C := RX11) (T := TX11) (N := 46) (by decide +kernel) rfl in_11 (by decide) tb_626
theorem k_163_27 (L : Nat) (xs : Nat → Int32) : ll_OK1 cX11_addsFactor RX11 none false ll_mN ll_mR ll_mK ll_cnt L xs false 27 (.inl (lo_aload 28 0)) := lk_aload_n (k := 0) (by decide +kernel) rfl
theorem k_163_28 (L : Nat) (xs : Nat → Int32) : ll_OK1 cX11_addsFactor RX11 none false ll_mN ll_mR ll_mK ll_cnt L xs false 28 (.inl (lo_getf 31 11 25)) := lk_getf (ix := 148) (ci := 11) (k := 25) (C := RX11) (T := TX11) (N := 46) (by decide +kernel) rfl in_11 (by decide) tb_662
theorem k_163_31 (L : Nat) (xs : Nat → Int32) : ll_OK1 cX11_addsFactor RX11 none false ll_mN ll_mR ll_mK ll_cnt L xs false 31 (.inl (lo_dup2 32)) := lk_dup2 (by decide +kernel)
theorem k_163_32 (L : Nat) (xs : Nat → Int32) : ll_OK1 cX11_addsFactor RX11 none false ll_mN ll_mR ll_mK ll_cnt L xs false 32 (.inl (lo_ald 33 0)) := lk_iald (by decide +kernel)
theorem k_163_33 (L : Nat) (xs : Nat → Int32) : ll_OK1 cX11_addsFactor RX11 none false ll_mN ll_mR ll_mK ll_cnt L xs false 33 (.inl (lo_push 34 (.int 1))) := lk_iconst (n := 1) (by decide +kernel) (by decide)
theorem k_163_34 (L : Nat) (xs : Nat → Int32) : ll_OK1 cX11_addsFactor RX11 none false ll_mN ll_mR ll_mK ll_cnt L xs false 34 (.inl (lo_bin 35 (fun x y => x + y))) := lk_iadd (by decide +kernel)
theorem k_163_35 (L : Nat) (xs : Nat → Int32) : ll_OK1 cX11_addsFactor RX11 none false ll_mN ll_mR ll_mK ll_cnt L xs false 35 (.inl (lo_ast 36 0)) := lk_iast (by decide +kernel)
theorem k_163_36 (L : Nat) (xs : Nat → Int32) : ll_OK1 cX11_addsFactor RX11 none false ll_mN ll_mR ll_mK ll_cnt L xs false 36 (.inr (.inr 0)) := ⟨fun _ => ⟨(by decide +kernel), rfl⟩, (fun h => by cases h), fun h => by cases h⟩
theorem ok_163 (L : Nat) (xs : Nat → Int32) : ∀ q ∈ cd_163, ll_OK1 cX11_addsFactor RX11 none false ll_mN ll_mR ll_mK ll_cnt L xs false q.1 q.2 :=
  List.forall_mem_cons.mpr ⟨k_163_0 L xs, List.forall_mem_cons.mpr ⟨k_163_1 L xs, List.forall_mem_cons.mpr ⟨k_163_4 L xs, List.forall_mem_cons.mpr ⟨k_163_6 L xs, List.forall_mem_cons.mpr ⟨k_163_7 L xs, List.forall_mem_cons.mpr ⟨k_163_10 L xs, List.forall_mem_cons.mpr ⟨k_163_11 L xs, List.forall_mem_cons.mpr ⟨k_163_12 L xs, List.forall_mem_cons.mpr ⟨k_163_15 L xs, List.forall_mem_cons.mpr ⟨k_163_16 L xs, List.forall_mem_cons.mpr ⟨k_163_19 L xs, List.forall_mem_cons.mpr ⟨k_163_20 L xs, List.forall_mem_cons.mpr ⟨k_163_21 L xs, List.forall_mem_cons.mpr ⟨k_163_22 L xs, List.forall_mem_cons.mpr ⟨k_163_23 L xs, List.forall_mem_cons.mpr ⟨k_163_24 L xs, List.forall_mem_cons.mpr ⟨k_163_27 L xs, List.forall_mem_cons.mpr ⟨k_163_28 L xs, List.forall_mem_cons.mpr ⟨k_163_31 L xs, List.forall_mem_cons.mpr ⟨k_163_32 L xs, List.forall_mem_cons.mpr ⟨k_163_33 L xs, List.forall_mem_cons.mpr ⟨k_163_34 L xs, List.forall_mem_cons.mpr ⟨k_163_35 L xs, List.forall_mem_cons.mpr ⟨k_163_36 L xs, fun _ h => absurd h List.not_mem_nil⟩⟩⟩⟩⟩⟩⟩⟩⟩⟩⟩⟩⟩⟩⟩⟩⟩⟩⟩⟩⟩⟩⟩⟩
/-- InclusionProverModel.endsProduct.()V -/
def cd_164 : List (Nat × ll_O) := [
  (0, .inl (lo_aload 1 0)),
  (1, .inl (lo_getf 4 11 21)),
  (4, .inl (lo_push 6 (.int 30))),
  (6, .inl (lo_aload 7 0)),
  (7, .inl (lo_getf 10 11 25)),
  (10, .inl (lo_bin 11 (fun x y => x * y))),
  (11, .inl (lo_aload 12 0)),
  (12, .inl (lo_getf 15 11 23)),
  (15, .inl (lo_aload 16 0)),
  (16, .inl (lo_getf 19 11 25)),
  (19, .inl (lo_ald 20 0)),
  (20, .inl (lo_bin 21 (fun x y => x + y))),
  (21, .inl (lo_aload 22 0)),
  (22, .inl (lo_aload 23 0)),
  (23, .inl (lo_getf 26 11 22)),
  (26, .inl (lo_push 28 (.int 30))),
  (28, .inl (lo_aload 29 0)),
  (29, .inl (lo_getf 32 11 25)),
  (32, .inl (lo_bin 33 (fun x y => x * y))),
  (33, .inl (lo_aload 34 0)),
  (34, .inl (lo_getf 37 11 24)),
  (37, .inl (lo_aload 38 0)),
  (38, .inl (lo_getf 41 11 25)),
  (41, .inl (lo_ald 42 0)),
  (42, .inr (.inl (159, 4, 45))),
  (45, .inl (lo_ast 46 0)),
  (46, .inl (lo_aload 47 0)),
  (47, .inl (lo_getf 50 11 23)),
  (50, .inl (lo_aload 51 0)),
  (51, .inl (lo_getf 54 11 25)),
  (54, .inl (lo_dup2 55)),
  (55, .inl (lo_ald 56 0)),
  (56, .inl (lo_push 57 (.int 1))),
  (57, .inl (lo_bin 58 (fun x y => x + y))),
  (58, .inl (lo_ast 59 0)),
  (59, .inl (lo_aload 60 0)),
  (60, .inl (lo_getf 63 11 24)),
  (63, .inl (lo_aload 64 0)),
  (64, .inl (lo_getf 67 11 25)),
  (67, .inl (lo_push 68 (.int 0))),
  (68, .inl (lo_ast 69 0)),
  (69, .inr (.inr 0))]
theorem k_164_0 (L : Nat) (xs : Nat → Int32) : ll_OK1 cX11_endsProduct RX11 none false ll_mN ll_mR ll_mK ll_cnt L xs false 0 (.inl (lo_aload 1 0)) := lk_aload_n (k := 0) (by decide +kernel) rfl
theorem k_164_1 (L : Nat) (xs : Nat → Int32) : ll_OK1 cX11_endsProduct RX11 none false ll_mN ll_mR ll_mK ll_cnt L xs false 1 (.inl (lo_getf 4 11 21)) := lk_getf (ix := 62) (ci := 11) (k := 21) (C := RX11) (T := TX11) (N := 46) (by decide +kernel) rfl in_11 (by decide) tb_623
theorem k_164_4 (L : Nat) (xs : Nat → Int32) : ll_OK1 cX11_endsProduct RX11 none false ll_mN ll_mR ll_mK ll_cnt L xs false 4 (.inl (lo_push 6 (.int 30))) := lk_bipush (n := 30) (by decide +kernel) (by decide)
theorem k_164_6 (L : Nat) (xs : Nat → Int32) : ll_OK1 cX11_endsProduct RX11 none false ll_mN ll_mR ll_mK ll_cnt L xs false 6 (.inl (lo_aload 7 0)) := lk_aload_n (k := 0) (by decide +kernel) rfl
theorem k_164_7 (L : Nat) (xs : Nat → Int32) : ll_OK1 cX11_endsProduct RX11 none false ll_mN ll_mR ll_mK ll_cnt L xs false 7 (.inl (lo_getf 10 11 25)) := lk_getf (ix := 148) (ci := 11) (k := 25) (C := RX11) (T := TX11) (N := 46) (by decide +kernel) rfl in_11 (by decide) tb_662
theorem k_164_10 (L : Nat) (xs : Nat → Int32) : ll_OK1 cX11_endsProduct RX11 none false ll_mN ll_mR ll_mK ll_cnt L xs false 10 (.inl (lo_bin 11 (fun x y => x * y))) := lk_imul (by decide +kernel)
theorem k_164_11 (L : Nat) (xs : Nat → Int32) : ll_OK1 cX11_endsProduct RX11 none false ll_mN ll_mR ll_mK ll_cnt L xs false 11 (.inl (lo_aload 12 0)) := lk_aload_n (k := 0) (by decide +kernel) rfl
theorem k_164_12 (L : Nat) (xs : Nat → Int32) : ll_OK1 cX11_endsProduct RX11 none false ll_mN ll_mR ll_mK ll_cnt L xs false 12 (.inl (lo_getf 15 11 23)) := lk_getf (ix := 68) (ci := 11) (k := 23) (C := RX11) (T := TX11) (N := 46) (by decide +kernel) rfl in_11 (by decide) tb_625
theorem k_164_15 (L : Nat) (xs : Nat → Int32) : ll_OK1 cX11_endsProduct RX11 none false ll_mN ll_mR ll_mK ll_cnt L xs false 15 (.inl (lo_aload 16 0)) := lk_aload_n (k := 0) (by decide +kernel) rfl
theorem k_164_16 (L : Nat) (xs : Nat → Int32) : ll_OK1 cX11_endsProduct RX11 none false ll_mN ll_mR ll_mK ll_cnt L xs false 16 (.inl (lo_getf 19 11 25)) := lk_getf (ix := 148) (ci := 11) (k := 25) (C := RX11) (T := TX11) (N := 46) (by decide +kernel) rfl in_11 (by decide) tb_662
theorem k_164_19 (L : Nat) (xs : Nat → Int32) : ll_OK1 cX11_endsProduct RX11 none false ll_mN ll_mR ll_mK ll_cnt L xs false 19 (.inl (lo_ald 20 0)) := lk_iald (by decide +kernel)
theorem k_164_20 (L : Nat) (xs : Nat → Int32) : ll_OK1 cX11_endsProduct RX11 none false ll_mN ll_mR ll_mK ll_cnt L xs false 20 (.inl (lo_bin 21 (fun x y => x + y))) := lk_iadd (by decide +kernel)
theorem k_164_21 (L : Nat) (xs : Nat → Int32) : ll_OK1 cX11_endsProduct RX11 none false ll_mN ll_mR ll_mK ll_cnt L xs false 21 (.inl (lo_aload 22 0)) := lk_aload_n (k := 0) (by decide +kernel) rfl
theorem k_164_22 (L : Nat) (xs : Nat → Int32) : ll_OK1 cX11_endsProduct RX11 none false ll_mN ll_mR ll_mK ll_cnt L xs false 22 (.inl (lo_aload 23 0)) := lk_aload_n (k := 0) (by decide +kernel) rfl
theorem k_164_23 (L : Nat) (xs : Nat → Int32) : ll_OK1 cX11_endsProduct RX11 none false ll_mN ll_mR ll_mK ll_cnt L xs false 23 (.inl (lo_getf 26 11 22)) := lk_getf (ix := 65) (ci := 11) (k := 22) (C := RX11) (T := TX11) (N := 46) (by decide +kernel) rfl in_11 (by decide) tb_624
theorem k_164_26 (L : Nat) (xs : Nat → Int32) : ll_OK1 cX11_endsProduct RX11 none false ll_mN ll_mR ll_mK ll_cnt L xs false 26 (.inl (lo_push 28 (.int 30))) := lk_bipush (n := 30) (by decide +kernel) (by decide)
theorem k_164_28 (L : Nat) (xs : Nat → Int32) : ll_OK1 cX11_endsProduct RX11 none false ll_mN ll_mR ll_mK ll_cnt L xs false 28 (.inl (lo_aload 29 0)) := lk_aload_n (k := 0) (by decide +kernel) rfl
theorem k_164_29 (L : Nat) (xs : Nat → Int32) : ll_OK1 cX11_endsProduct RX11 none false ll_mN ll_mR ll_mK ll_cnt L xs false 29 (.inl (lo_getf 32 11 25)) := lk_getf (ix := 148) (ci := 11) (k := 25) (C := RX11) (T := TX11) (N := 46) (by decide +kernel) rfl in_11 (by decide) tb_662
theorem k_164_32 (L : Nat) (xs : Nat → Int32) : ll_OK1 cX11_endsProduct RX11 none false ll_mN ll_mR ll_mK ll_cnt L xs false 32 (.inl (lo_bin 33 (fun x y => x * y))) := lk_imul (by decide +kernel)
theorem k_164_33 (L : Nat) (xs : Nat → Int32) : ll_OK1 cX11_endsProduct RX11 none false ll_mN ll_mR ll_mK ll_cnt L xs false 33 (.inl (lo_aload 34 0)) := lk_aload_n (k := 0) (by decide +kernel) rfl
theorem k_164_34 (L : Nat) (xs : Nat → Int32) : ll_OK1 cX11_endsProduct RX11 none false ll_mN ll_mR ll_mK ll_cnt L xs false 34 (.inl (lo_getf 37 11 24)) := lk_getf (ix := 71) (ci := 11) (k := 24) (C := RX11) (T := TX11) (N := 46) (by decide +kernel) rfl in_11 (by decide) tb_626
theorem k_164_37 (L : Nat) (xs : Nat → Int32) : ll_OK1 cX11_endsProduct RX11 none false ll_mN ll_mR ll_mK ll_cnt L xs false 37 (.inl (lo_aload 38 0)) := lk_aload_n (k := 0) (by decide +kernel) rfl
theorem k_164_38 (L : Nat) (xs : Nat → Int32) : ll_OK1 cX11_endsProduct RX11 none false ll_mN ll_mR ll_mK ll_cnt L xs false 38 (.inl (lo_getf 41 11 25)) := lk_getf (ix := 148) (ci := 11) (k := 25) (C := RX11) (T := TX11) (N := 46) (by decide +kernel) rfl in_11 (by decide) tb_662
theorem k_164_41 (L : Nat) (xs : Nat → Int32) : ll_OK1 cX11_endsProduct RX11 none false ll_mN ll_mR ll_mK ll_cnt L xs false 41 (.inl (lo_ald 42 0)) := lk_iald (by decide +kernel)
theorem k_164_42 (L : Nat) (xs : Nat → Int32) : ll_OK1 cX11_endsProduct RX11 none false ll_mN ll_mR ll_mK ll_cnt L xs false 42 (.inr (.inl (159, 4, 45))) := ⟨rfl, by decide, by rw [mN_159, mK_159, mR_159]; exact lj_v 144 3 11 (RX11, TX11, 46) (by decide +kernel) tb_659 tb_660 tb_661 rfl rfl rfl rfl (by decide +kernel)⟩
theorem k_164_45 (L : Nat) (xs : Nat → Int32) : ll_OK1 cX11_endsProduct RX11 none false ll_mN ll_mR ll_mK ll_cnt L xs false 45 (.inl (lo_ast 46 0)) := lk_iast (by decide +kernel)
theorem k_164_46 (L : Nat) (xs : Nat → Int32) : ll_OK1 cX11_endsProduct RX11 none false ll_mN ll_mR ll_mK ll_cnt L xs false 46 (.inl (lo_aload 47 0)) := lk_aload_n (k := 0) (by decide +kernel) rfl
theorem k_164_47 (L : Nat) (xs : Nat → Int32) : ll_OK1 cX11_endsProduct RX11 none false ll_mN ll_mR ll_mK ll_cnt L xs false 47 (.inl (lo_getf 50 11 23)) := lk_getf (ix := 68) (ci := 11) (k := 23) (C := RX11) (T := TX11) (N := 46) (by decide +kernel) rfl in_11 (by decide) tb_625
theorem k_164_50 (L : Nat) (xs : Nat → Int32) : ll_OK1 cX11_endsProduct RX11 none false ll_mN ll_mR ll_mK ll_cnt L xs false 50 (.inl (lo_aload 51 0)) := lk_aload_n (k := 0) (by decide +kernel) rfl
theorem k_164_51 (L : Nat) (xs : Nat → Int32) : ll_OK1 cX11_endsProduct RX11 none false ll_mN ll_mR ll_mK ll_cnt L xs false 51 (.inl (lo_getf 54 11 25)) := lk_getf (ix := 148) (ci := 11) (k := 25) (C := RX11) (T := TX11) (N := 46) (by decide +kernel) rfl in_11 (by decide) tb_662
theorem k_164_54 (L : Nat) (xs : Nat → Int32) : ll_OK1 cX11_endsProduct RX11 none false ll_mN ll_mR ll_mK ll_cnt L xs false 54 (.inl (lo_dup2 55)) := lk_dup2 (by decide +kernel)
theorem k_164_55 (L : Nat) (xs : Nat → Int32) : ll_OK1 cX11_endsProduct RX11 none false ll_mN ll_mR ll_mK ll_cnt L xs false 55 (.inl (lo_ald 56 0)) := lk_iald (by decide +kernel)
theorem k_164_56 (L : Nat) (xs : Nat → Int32) : ll_OK1 cX11_endsProduct RX11 none false ll_mN ll_mR ll_mK ll_cnt L xs false 56 (.inl (lo_push 57 (.int 1))) := lk_iconst (n := 1) (by decide +kernel) (by decide)
theorem k_164_57 (L : Nat) (xs : Nat → Int32) : ll_OK1 cX11_endsProduct RX11 none false ll_mN ll_mR ll_mK ll_cnt L xs false 57 (.inl (lo_bin 58 (fun x y => x + y))) := lk_iadd (by decide +kernel)
theorem k_164_58 (L : Nat) (xs : Nat → Int32) : ll_OK1 cX11_endsProduct RX11 none false ll_mN ll_mR ll_mK ll_cnt L xs false 58 (.inl (lo_ast 59 0)) := lk_iast (by decide +kernel)
theorem k_164_59 (L : Nat) (xs : Nat → Int32) : ll_OK1 cX11_endsProduct RX11 none false ll_mN ll_mR ll_mK ll_cnt L xs false 59 (.inl (lo_aload 60 0)) := lk_aload_n (k := 0) (by decide +kernel) rfl
theorem k_164_60 (L : Nat) (xs : Nat → Int32) : ll_OK1 cX11_endsProduct RX11 none false ll_mN ll_mR ll_mK ll_cnt L xs false 60 (.inl (lo_getf 63 11 24)) := lk_getf (ix := 71) (ci := 11) (k := 24) (C := RX11) (T := TX11) (N := 46) (by decide +kernel) rfl in_11 (by decide) tb_626
theorem k_164_63 (L : Nat) (xs : Nat → Int32) : ll_OK1 cX11_endsProduct RX11 none false ll_mN ll_mR ll_mK ll_cnt L xs false 63 (.inl (lo_aload 64 0)) := lk_aload_n (k := 0) (by decide +kernel) rfl
theorem k_164_64 (L : Nat) (xs : Nat → Int32) : ll_OK1 cX11_endsProduct RX11 none false ll_mN ll_mR ll_mK ll_cnt L xs false 64 (.inl (lo_getf 67 11 25)) := lk_getf (ix := 148) (ci := 11) (k := 25) (C := RX11) (T := TX11) (N := 46) (by decide +kernel) rfl in_11 (by decide) tb_662
theorem k_164_67 (L : Nat) (xs : Nat → Int32) : ll_OK1 cX11_endsProduct RX11 none false ll_mN ll_mR ll_mK ll_cnt L xs false 67 (.inl (lo_push 68 (.int 0))) := lk_iconst (n := 0) (by decide +kernel) (by decide)
theorem k_164_68 (L : Nat) (xs : Nat → Int32) : ll_OK1 cX11_endsProduct RX11 none false ll_mN ll_mR ll_mK ll_cnt L xs false 68 (.inl (lo_ast 69 0)) := lk_iast (by decide +kernel)
theorem k_164_69 (L : Nat) (xs : Nat → Int32) : ll_OK1 cX11_endsProduct RX11 none false ll_mN ll_mR ll_mK ll_cnt L xs false 69 (.inr (.inr 0)) := ⟨fun _ => ⟨(by decide +kernel), rfl⟩, (fun h => by cases h), fun h => by cases h⟩
theorem ok_164 (L : Nat) (xs : Nat → Int32) : ∀ q ∈ cd_164, ll_OK1 cX11_endsProduct RX11 none false ll_mN ll_mR ll_mK ll_cnt L xs false q.1 q.2 :=
  List.forall_mem_cons.mpr ⟨k_164_0 L xs, List.forall_mem_cons.mpr ⟨k_164_1 L xs, List.forall_mem_cons.mpr ⟨k_164_4 L xs, List.forall_mem_cons.mpr ⟨k_164_6 L xs, List.forall_mem_cons.mpr ⟨k_164_7 L xs, List.forall_mem_cons.mpr ⟨k_164_10 L xs, List.forall_mem_cons.mpr ⟨k_164_11 L xs, List.forall_mem_cons.mpr ⟨k_164_12 L xs, List.forall_mem_cons.mpr ⟨k_164_15 L xs, List.forall_mem_cons.mpr ⟨k_164_16 L xs, List.forall_mem_cons.mpr ⟨k_164_19 L xs, List.forall_mem_cons.mpr ⟨k_164_20 L xs, List.forall_mem_cons.mpr ⟨k_164_21 L xs, List.forall_mem_cons.mpr ⟨k_164_22 L xs, List.forall_mem_cons.mpr ⟨k_164_23 L xs, List.forall_mem_cons.mpr ⟨k_164_26 L xs, List.forall_mem_cons.mpr ⟨k_164_28 L xs, List.forall_mem_cons.mpr ⟨k_164_29 L xs, List.forall_mem_cons.mpr ⟨k_164_32 L xs, List.forall_mem_cons.mpr ⟨k_164_33 L xs, List.forall_mem_cons.mpr ⟨k_164_34 L xs, List.forall_mem_cons.mpr ⟨k_164_37 L xs, List.forall_mem_cons.mpr ⟨k_164_38 L xs, List.forall_mem_cons.mpr ⟨k_164_41 L xs, List.forall_mem_cons.mpr ⟨k_164_42 L xs, List.forall_mem_cons.mpr ⟨k_164_45 L xs, List.forall_mem_cons.mpr ⟨k_164_46 L xs, List.forall_mem_cons.mpr ⟨k_164_47 L xs, List.forall_mem_cons.mpr ⟨k_164_50 L xs, List.forall_mem_cons.mpr ⟨k_164_51 L xs, List.forall_mem_cons.mpr ⟨k_164_54 L xs, List.forall_mem_cons.mpr ⟨k_164_55 L xs, List.forall_mem_cons.mpr ⟨k_164_56 L xs, List.forall_mem_cons.mpr ⟨k_164_57 L xs, List.forall_mem_cons.mpr ⟨k_164_58 L xs, List.forall_mem_cons.mpr ⟨k_164_59 L xs, List.forall_mem_cons.mpr ⟨k_164_60 L xs, List.forall_mem_cons.mpr ⟨k_164_63 L xs, List.forall_mem_cons.mpr ⟨k_164_64 L xs, List.forall_mem_cons.mpr ⟨k_164_67 L xs, List.forall_mem_cons.mpr ⟨k_164_68 L xs, List.forall_mem_cons.mpr ⟨k_164_69 L xs, fun _ h => absurd h List.not_mem_nil⟩⟩⟩⟩⟩⟩⟩⟩⟩⟩⟩⟩⟩⟩⟩⟩⟩⟩⟩⟩⟩⟩⟩⟩⟩⟩⟩⟩⟩⟩⟩⟩⟩⟩⟩⟩⟩⟩⟩⟩⟩⟩
