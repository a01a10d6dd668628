/-! CODE TABLES, and that each row is the machine's (written by wip/whole/gen.py) -/
/-- InclusionProver$WordCounter.begin.(LInclusionProver$Side;LInclusionProver$Side;I)V -/
def cd_105 : List (Nat × ll_O) := [
  (0, .inl (lo_aload 1 0)),
  (1, .inl (lo_aload 2 1)),
  (2, .inl (lo_putf 5 9 4 2)),
  (5, .inl (lo_aload 6 0)),
  (6, .inl (lo_aload 7 2)),
  (7, .inl (lo_putf 10 9 5 2)),
  (10, .inl (lo_aload 11 0)),
  (11, .inl (lo_iload 12 3)),
  (12, .inl (lo_putf 15 9 6 0)),
  (15, .inl (lo_aload 16 0)),
  (16, .inl (lo_getf 19 9 2)),
  (19, .inl (lo_push 20 (.int (-1)))),
  (20, .inr (.inl (231, 2, 23))),
  (23, .inr (.inr 0))]
theorem k_105_0 (L : Nat) (xs : Nat → Int32) : ll_OK1 cX9_begin RX9 none false ll_mN ll_mR ll_mK ll_cnt L xs false 0 (.inl (lo_aload 1 0)) := lk_aload_n (k := 0) (by decide +kernel) rfl
theorem k_105_1 (L : Nat) (xs : Nat → Int32) : ll_OK1 cX9_begin RX9 none false ll_mN ll_mR ll_mK ll_cnt L xs false 1 (.inl (lo_aload 2 1)) := lk_aload_n (k := 1) (by decide +kernel) rfl
theorem k_105_2 (L : Nat) (xs : Nat → Int32) : ll_OK1 cX9_begin RX9 none false ll_mN ll_mR ll_mK ll_cnt L xs false 2 (.inl (lo_putf 5 9 4 2)) := lk_putf (ix := 24) (ci := 9) (k := 4) (C := RX9) (T := TX9) (N := 7) (ty0 := tyX9) (by decide +kernel) rfl in_9 tyX9_ok nmX9 (by decide) tb_402 (fun B adr v w h1 h2 => ll_fit_obj (B := B) (adr := adr) h1 h2) (Or.inl rfl)
theorem k_105_5 (L : Nat) (xs : Nat → Int32) : ll_OK1 cX9_begin RX9 none false ll_mN ll_mR ll_mK ll_cnt L xs false 5 (.inl (lo_aload 6 0)) := lk_aload_n (k := 0) (by decide +kernel) rfl
theorem k_105_6 (L : Nat) (xs : Nat → Int32) : ll_OK1 cX9_begin RX9 none false ll_mN ll_mR ll_mK ll_cnt L xs false 6 (.inl (lo_aload 7 2)) := lk_aload_n (k := 2) (by decide +kernel) rfl
theorem k_105_7 (L : Nat) (xs : Nat → Int32) : ll_OK1 cX9_begin RX9 none false ll_mN ll_mR ll_mK ll_cnt L xs false 7 (.inl (lo_putf 10 9 5 2)) := lk_putf (ix := 28) (ci := 9) (k := 5) (C := RX9) (T := TX9) (N := 7) (ty0 := tyX9) (by decide +kernel) rfl in_9 tyX9_ok nmX9 (by decide) tb_403 (fun B adr v w h1 h2 => ll_fit_obj (B := B) (adr := adr) h1 h2) (Or.inl rfl)
theorem k_105_10 (L : Nat) (xs : Nat → Int32) : ll_OK1 cX9_begin RX9 none false ll_mN ll_mR ll_mK ll_cnt L xs false 10 (.inl (lo_aload 11 0)) := lk_aload_n (k := 0) (by decide +kernel) rfl
theorem k_105_11 (L : Nat) (xs : Nat → Int32) : ll_OK1 cX9_begin RX9 none false ll_mN ll_mR ll_mK ll_cnt L xs false 11 (.inl (lo_iload 12 3)) := lk_iload_n (k := 3) (by decide +kernel) rfl
theorem k_105_12 (L : Nat) (xs : Nat → Int32) : ll_OK1 cX9_begin RX9 none false ll_mN ll_mR ll_mK ll_cnt L xs false 12 (.inl (lo_putf 15 9 6 0)) := lk_putf (ix := 60) (ci := 9) (k := 6) (C := RX9) (T := TX9) (N := 7) (ty0 := tyX9) (by decide +kernel) rfl in_9 tyX9_ok nmX9 (by decide) tb_423 (fun B adr v w h1 h2 => ll_fit_int (B := B) (adr := adr) h1 h2) (Or.inl rfl)
theorem k_105_15 (L : Nat) (xs : Nat → Int32) : ll_OK1 cX9_begin RX9 none false ll_mN ll_mR ll_mK ll_cnt L xs false 15 (.inl (lo_aload 16 0)) := lk_aload_n (k := 0) (by decide +kernel) rfl
theorem k_105_16 (L : Nat) (xs : Nat → Int32) : ll_OK1 cX9_begin RX9 none false ll_mN ll_mR ll_mK ll_cnt L xs false 16 (.inl (lo_getf 19 9 2)) := lk_getf (ix := 18) (ci := 9) (k := 2) (C := RX9) (T := TX9) (N := 7) (by decide +kernel) rfl in_9 (by decide) tb_400
theorem k_105_19 (L : Nat) (xs : Nat → Int32) : ll_OK1 cX9_begin RX9 none false ll_mN ll_mR ll_mK ll_cnt L xs false 19 (.inl (lo_push 20 (.int (-1)))) := lk_iconst (n := (-1)) (by decide +kernel) (by decide)
theorem k_105_20 (L : Nat) (xs : Nat → Int32) : ll_OK1 cX9_begin RX9 none false ll_mN ll_mR ll_mK ll_cnt L xs false 20 (.inr (.inl (231, 2, 23))) := ⟨rfl, by decide, by rw [mN_231, mK_231, mR_231]; exact lj_s 64 (by decide +kernel) tb_424 tb_87 (by decide +kernel)⟩
theorem k_105_23 (L : Nat) (xs : Nat → Int32) : ll_OK1 cX9_begin RX9 none false ll_mN ll_mR ll_mK ll_cnt L xs false 23 (.inr (.inr 0)) := ⟨fun _ => ⟨(by decide +kernel), rfl⟩, (fun h => by cases h), fun h => by cases h⟩
theorem ok_105 (L : Nat) (xs : Nat → Int32) : ∀ q ∈ cd_105, ll_OK1 cX9_begin RX9 none false ll_mN ll_mR ll_mK ll_cnt L xs false q.1 q.2 :=
  List.forall_mem_cons.mpr ⟨k_105_0 L xs, List.forall_mem_cons.mpr ⟨k_105_1 L xs, List.forall_mem_cons.mpr ⟨k_105_2 L xs, List.forall_mem_cons.mpr ⟨k_105_5 L xs, List.forall_mem_cons.mpr ⟨k_105_6 L xs, List.forall_mem_cons.mpr ⟨k_105_7 L xs, List.forall_mem_cons.mpr ⟨k_105_10 L xs, List.forall_mem_cons.mpr ⟨k_105_11 L xs, List.forall_mem_cons.mpr ⟨k_105_12 L xs, List.forall_mem_cons.mpr ⟨k_105_15 L xs, List.forall_mem_cons.mpr ⟨k_105_16 L xs, List.forall_mem_cons.mpr ⟨k_105_19 L xs, List.forall_mem_cons.mpr ⟨k_105_20 L xs, List.forall_mem_cons.mpr ⟨k_105_23 L xs, fun _ h => absurd h List.not_mem_nil⟩⟩⟩⟩⟩⟩⟩⟩⟩⟩⟩⟩⟩⟩
/-- InclusionProver$WordCounter.startLeft.()I -/
def cd_106 : List (Nat × ll_O) := [
  (0, .inl (lo_aload 1 0)),
  (1, .inl (lo_getf 4 9 6)),
  (4, .inl (lo_push 5 (.int 1))),
  (5, .inl (lo_cmp 12 8 (fun x y => decide (¬ x = y)))),
  (8, .inl (lo_push 9 (.int 0))),
  (9, .inl (lo_goto 13)),
  (12, .inl (lo_push 13 (.int 1))),
  (13, .inr (.inr 1))]
theorem k_106_0 (L : Nat) (xs : Nat → Int32) : ll_OK1 cX9_startLeft RX9 (some .int) false ll_mN ll_mR ll_mK ll_cnt L xs false 0 (.inl (lo_aload 1 0)) := lk_aload_n (k := 0) (by decide +kernel) rfl
theorem k_106_1 (L : Nat) (xs : Nat → Int32) : ll_OK1 cX9_startLeft RX9 (some .int) false ll_mN ll_mR ll_mK ll_cnt L xs false 1 (.inl (lo_getf 4 9 6)) := lk_getf (ix := 60) (ci := 9) (k := 6) (C := RX9) (T := TX9) (N := 7) (by decide +kernel) rfl in_9 (by decide) tb_423
theorem k_106_4 (L : Nat) (xs : Nat → Int32) : ll_OK1 cX9_startLeft RX9 (some .int) false ll_mN ll_mR ll_mK ll_cnt L xs false 4 (.inl (lo_push 5 (.int 1))) := lk_iconst (n := 1) (by decide +kernel) (by decide)
theorem k_106_5 (L : Nat) (xs : Nat → Int32) : ll_OK1 cX9_startLeft RX9 (some .int) false ll_mN ll_mR ll_mK ll_cnt L xs false 5 (.inl (lo_cmp 12 8 (fun x y => decide (¬ x = y)))) := lk_icmp_ne (off := 7) (by decide +kernel) rfl
theorem k_106_8 (L : Nat) (xs : Nat → Int32) : ll_OK1 cX9_startLeft RX9 (some .int) false ll_mN ll_mR ll_mK ll_cnt L xs false 8 (.inl (lo_push 9 (.int 0))) := lk_iconst (n := 0) (by decide +kernel) (by decide)
theorem k_106_9 (L : Nat) (xs : Nat → Int32) : ll_OK1 cX9_startLeft RX9 (some .int) false ll_mN ll_mR ll_mK ll_cnt L xs false 9 (.inl (lo_goto 13)) := lk_goto (off := 4) (by decide +kernel) rfl
theorem k_106_12 (L : Nat) (xs : Nat → Int32) : ll_OK1 cX9_startLeft RX9 (some .int) false ll_mN ll_mR ll_mK ll_cnt L xs false 12 (.inl (lo_push 13 (.int 1))) := lk_iconst (n := 1) (by decide +kernel) (by decide)
theorem k_106_13 (L : Nat) (xs : Nat → Int32) : ll_OK1 cX9_startLeft RX9 (some .int) false ll_mN ll_mR ll_mK ll_cnt L xs false 13 (.inr (.inr 1)) := ⟨(fun h => by cases h), (fun _ => ⟨(by decide +kernel), rfl⟩), fun h => by cases h⟩
theorem ok_106 (L : Nat) (xs : Nat → Int32) : ∀ q ∈ cd_106, ll_OK1 cX9_startLeft RX9 (some .int) false ll_mN ll_mR ll_mK ll_cnt L xs false q.1 q.2 :=
  List.forall_mem_cons.mpr ⟨k_106_0 L xs, List.forall_mem_cons.mpr ⟨k_106_1 L xs, List.forall_mem_cons.mpr ⟨k_106_4 L xs, List.forall_mem_cons.mpr ⟨k_106_5 L xs, List.forall_mem_cons.mpr ⟨k_106_8 L xs, List.forall_mem_cons.mpr ⟨k_106_9 L xs, List.forall_mem_cons.mpr ⟨k_106_12 L xs, List.forall_mem_cons.mpr ⟨k_106_13 L xs, fun _ h => absurd h List.not_mem_nil⟩⟩⟩⟩⟩⟩⟩⟩
/-- InclusionProver$WordCounter.startRight.()I -/
def cd_107 : List (Nat × ll_O) := [
  (0, .inl (lo_aload 1 0)),
  (1, .inl (lo_getf 4 9 6)),
  (4, .inl (lo_if 11 7 (fun x => decide (¬ x = 0)))),
  (7, .inl (lo_push 8 (.int 0))),
  (8, .inl (lo_goto 12)),
  (11, .inl (lo_push 12 (.int 1))),
  (12, .inr (.inr 1))]
theorem k_107_0 (L : Nat) (xs : Nat → Int32) : ll_OK1 cX9_startRight RX9 (some .int) false ll_mN ll_mR ll_mK ll_cnt L xs false 0 (.inl (lo_aload 1 0)) := lk_aload_n (k := 0) (by decide +kernel) rfl
theorem k_107_1 (L : Nat) (xs : Nat → Int32) : ll_OK1 cX9_startRight RX9 (some .int) false ll_mN ll_mR ll_mK ll_cnt L xs false 1 (.inl (lo_getf 4 9 6)) := lk_getf (ix := 60) (ci := 9) (k := 6) (C := RX9) (T := TX9) (N := 7) (by decide +kernel) rfl in_9 (by decide) tb_423
theorem k_107_4 (L : Nat) (xs : Nat → Int32) : ll_OK1 cX9_startRight RX9 (some .int) false ll_mN ll_mR ll_mK ll_cnt L xs false 4 (.inl (lo_if 11 7 (fun x => decide (¬ x = 0)))) := lk_if_ne (off := 7) (by decide +kernel) rfl
theorem k_107_7 (L : Nat) (xs : Nat → Int32) : ll_OK1 cX9_startRight RX9 (some .int) false ll_mN ll_mR ll_mK ll_cnt L xs false 7 (.inl (lo_push 8 (.int 0))) := lk_iconst (n := 0) (by decide +kernel) (by decide)
theorem k_107_8 (L : Nat) (xs : Nat → Int32) : ll_OK1 cX9_startRight RX9 (some .int) false ll_mN ll_mR ll_mK ll_cnt L xs false 8 (.inl (lo_goto 12)) := lk_goto (off := 4) (by decide +kernel) rfl
theorem k_107_11 (L : Nat) (xs : Nat → Int32) : ll_OK1 cX9_startRight RX9 (some .int) false ll_mN ll_mR ll_mK ll_cnt L xs false 11 (.inl (lo_push 12 (.int 1))) := lk_iconst (n := 1) (by decide +kernel) (by decide)
theorem k_107_12 (L : Nat) (xs : Nat → Int32) : ll_OK1 cX9_startRight RX9 (some .int) false ll_mN ll_mR ll_mK ll_cnt L xs false 12 (.inr (.inr 1)) := ⟨(fun h => by cases h), (fun _ => ⟨(by decide +kernel), rfl⟩), fun h => by cases h⟩
theorem ok_107 (L : Nat) (xs : Nat → Int32) : ∀ q ∈ cd_107, ll_OK1 cX9_startRight RX9 (some .int) false ll_mN ll_mR ll_mK ll_cnt L xs false q.1 q.2 :=
  List.forall_mem_cons.mpr ⟨k_107_0 L xs, List.forall_mem_cons.mpr ⟨k_107_1 L xs, List.forall_mem_cons.mpr ⟨k_107_4 L xs, List.forall_mem_cons.mpr ⟨k_107_7 L xs, List.forall_mem_cons.mpr ⟨k_107_8 L xs, List.forall_mem_cons.mpr ⟨k_107_11 L xs, List.forall_mem_cons.mpr ⟨k_107_12 L xs, fun _ h => absurd h List.not_mem_nil⟩⟩⟩⟩⟩⟩⟩
/-- InclusionProver$WordCounter.countBehind.(IIII)I -/
def cd_108 : List (Nat × ll_O) := [
  (0, .inl (lo_aload 1 0)),
  (1, .inl (lo_aload 2 0)),
  (2, .inl (lo_getf 5 9 4)),
  (5, .inl (lo_iload 6 1)),
  (6, .inl (lo_iload 7 3)),
  (7, .inr (.inl (54, 3, 10))),
  (10, .inl (lo_aload 11 0)),
  (11, .inl (lo_getf 14 9 5)),
  (14, .inl (lo_iload 15 2)),
  (15, .inl (lo_iload 16 3)),
  (16, .inr (.inl (54, 3, 19))),
  (19, .inl (lo_iload 21 4)),
  (21, .inr (.inl (109, 4, 24))),
  (24, .inr (.inr 1))]
theorem k_108_0 (L : Nat) (xs : Nat → Int32) : ll_OK1 cX9_countBehind RX9 (some .int) false ll_mN ll_mR ll_mK ll_cnt L xs false 0 (.inl (lo_aload 1 0)) := lk_aload_n (k := 0) (by decide +kernel) rfl
theorem k_108_1 (L : Nat) (xs : Nat → Int32) : ll_OK1 cX9_countBehind RX9 (some .int) false ll_mN ll_mR ll_mK ll_cnt L xs false 1 (.inl (lo_aload 2 0)) := lk_aload_n (k := 0) (by decide +kernel) rfl
theorem k_108_2 (L : Nat) (xs : Nat → Int32) : ll_OK1 cX9_countBehind RX9 (some .int) false ll_mN ll_mR ll_mK ll_cnt L xs false 2 (.inl (lo_getf 5 9 4)) := lk_getf (ix := 24) (ci := 9) (k := 4) (C := RX9) (T := TX9) (N := 7) (by decide +kernel) rfl in_9 (by decide) tb_402
theorem k_108_5 (L : Nat) (xs : Nat → Int32) : ll_OK1 cX9_countBehind RX9 (some .int) false ll_mN ll_mR ll_mK ll_cnt L xs false 5 (.inl (lo_iload 6 1)) := lk_iload_n (k := 1) (by decide +kernel) rfl
theorem k_108_6 (L : Nat) (xs : Nat → Int32) : ll_OK1 cX9_countBehind RX9 (some .int) false ll_mN ll_mR ll_mK ll_cnt L xs false 6 (.inl (lo_iload 7 3)) := lk_iload_n (k := 3) (by decide +kernel) rfl
theorem k_108_7 (L : Nat) (xs : Nat → Int32) : ll_OK1 cX9_countBehind RX9 (some .int) false ll_mN ll_mR ll_mK ll_cnt L xs false 7 (.inr (.inl (54, 3, 10))) := ⟨rfl, by decide, by rw [mN_54, mK_54, mR_54]; exact lj_v 54 2 5 (RX5, TX5, 11) (by decide +kernel) tb_422 tb_49 tb_50 rfl rfl rfl rfl (by decide +kernel)⟩
theorem k_108_10 (L : Nat) (xs : Nat → Int32) : ll_OK1 cX9_countBehind RX9 (some .int) false ll_mN ll_mR ll_mK ll_cnt L xs false 10 (.inl (lo_aload 11 0)) := lk_aload_n (k := 0) (by decide +kernel) rfl
theorem k_108_11 (L : Nat) (xs : Nat → Int32) : ll_OK1 cX9_countBehind RX9 (some .int) false ll_mN ll_mR ll_mK ll_cnt L xs false 11 (.inl (lo_getf 14 9 5)) := lk_getf (ix := 28) (ci := 9) (k := 5) (C := RX9) (T := TX9) (N := 7) (by decide +kernel) rfl in_9 (by decide) tb_403
theorem k_108_14 (L : Nat) (xs : Nat → Int32) : ll_OK1 cX9_countBehind RX9 (some .int) false ll_mN ll_mR ll_mK ll_cnt L xs false 14 (.inl (lo_iload 15 2)) := lk_iload_n (k := 2) (by decide +kernel) rfl
theorem k_108_15 (L : Nat) (xs : Nat → Int32) : ll_OK1 cX9_countBehind RX9 (some .int) false ll_mN ll_mR ll_mK ll_cnt L xs false 15 (.inl (lo_iload 16 3)) := lk_iload_n (k := 3) (by decide +kernel) rfl
theorem k_108_16 (L : Nat) (xs : Nat → Int32) : ll_OK1 cX9_countBehind RX9 (some .int) false ll_mN ll_mR ll_mK ll_cnt L xs false 16 (.inr (.inl (54, 3, 19))) := ⟨rfl, by decide, by rw [mN_54, mK_54, mR_54]; exact lj_v 54 2 5 (RX5, TX5, 11) (by decide +kernel) tb_422 tb_49 tb_50 rfl rfl rfl rfl (by decide +kernel)⟩
theorem k_108_19 (L : Nat) (xs : Nat → Int32) : ll_OK1 cX9_countBehind RX9 (some .int) false ll_mN ll_mR ll_mK ll_cnt L xs false 19 (.inl (lo_iload 21 4)) := lk_iload (by decide +kernel)
theorem k_108_21 (L : Nat) (xs : Nat → Int32) : ll_OK1 cX9_countBehind RX9 (some .int) false ll_mN ll_mR ll_mK ll_cnt L xs false 21 (.inr (.inl (109, 4, 24))) := ⟨rfl, by decide, by rw [mN_109, mK_109, mR_109]; exact lj_v 42 3 9 (RX9, TX9, 7) (by decide +kernel) tb_413 tb_414 tb_415 rfl rfl rfl rfl (by decide +kernel)⟩
theorem k_108_24 (L : Nat) (xs : Nat → Int32) : ll_OK1 cX9_countBehind RX9 (some .int) false ll_mN ll_mR ll_mK ll_cnt L xs false 24 (.inr (.inr 1)) := ⟨(fun h => by cases h), (fun _ => ⟨(by decide +kernel), rfl⟩), fun h => by cases h⟩
theorem ok_108 (L : Nat) (xs : Nat → Int32) : ∀ q ∈ cd_108, ll_OK1 cX9_countBehind RX9 (some .int) false ll_mN ll_mR ll_mK ll_cnt L xs false q.1 q.2 :=
  List.forall_mem_cons.mpr ⟨k_108_0 L xs, List.forall_mem_cons.mpr ⟨k_108_1 L xs, List.forall_mem_cons.mpr ⟨k_108_2 L xs, List.forall_mem_cons.mpr ⟨k_108_5 L xs, List.forall_mem_cons.mpr ⟨k_108_6 L xs, List.forall_mem_cons.mpr ⟨k_108_7 L xs, List.forall_mem_cons.mpr ⟨k_108_10 L xs, List.forall_mem_cons.mpr ⟨k_108_11 L xs, List.forall_mem_cons.mpr ⟨k_108_14 L xs, List.forall_mem_cons.mpr ⟨k_108_15 L xs, List.forall_mem_cons.mpr ⟨k_108_16 L xs, List.forall_mem_cons.mpr ⟨k_108_19 L xs, List.forall_mem_cons.mpr ⟨k_108_21 L xs, List.forall_mem_cons.mpr ⟨k_108_24 L xs, fun _ h => absurd h List.not_mem_nil⟩⟩⟩⟩⟩⟩⟩⟩⟩⟩⟩⟩⟩⟩
/-- InclusionProver$WordCounter.countFrom.(III)I -/
def cd_109 : List (Nat × ll_O) := [
  (0, .inl (lo_iload 1 3)),
  (1, .inl (lo_if 33 4 (fun x => decide (0 < x)))),
  (4, .inl (lo_aload 5 0)),
  (5, .inl (lo_aload 6 0)),
  (6, .inl (lo_getf 9 9 4)),
  (9, .inl (lo_iload 10 1)),
  (10, .inr (.inl (47, 2, 13))),
  (13, .inl (lo_aload 14 0)),
  (14, .inl (lo_getf 17 9 5)),
  (17, .inl (lo_iload 18 2)),
  (18, .inr (.inl (47, 2, 21))),
  (21, .inr (.inl (110, 3, 24))),
  (24, .inl (lo_if 31 27 (fun x => decide (x = 0)))),
  (27, .inl (lo_push 28 (.int 1))),
  (28, .inl (lo_goto 32)),
  (31, .inl (lo_push 32 (.int 0))),
  (32, .inr (.inr 1)),
  (33, .inl (lo_iload 34 1)),
  (34, .inl (lo_if 58 37 (fun x => decide (¬ x = 0)))),
  (37, .inl (lo_iload 38 2)),
  (38, .inl (lo_if 58 41 (fun x => decide (¬ x = 0)))),
  (41, .inl (lo_aload 42 0)),
  (42, .inl (lo_getf 45 9 6)),
  (45, .inl (lo_push 46 (.int 5))),
  (46, .inl (lo_cmp 56 49 (fun x y => decide (¬ x = y)))),
  (49, .inl (lo_iload 50 3)),
  (50, .inr (.inl (111, 1, 53))),
  (53, .inl (lo_goto 57)),
  (56, .inl (lo_push 57 (.int 0))),
  (57, .inr (.inr 1)),
  (58, .inl (lo_iload 59 1)),
  (59, .inl (lo_iload 60 2)),
  (60, .inl (lo_iload 61 3)),
  (61, .inr (.inl (112, 3, 64))),
  (64, .inl (lo_istore 66 4)),
  (66, .inl (lo_aload 67 0)),
  (67, .inl (lo_getf 70 9 2)),
  (70, .inl (lo_iload 72 4)),
  (72, .inl (lo_ald 73 0)),
  (73, .inl (lo_iload 74 3)),
  (74, .inl (lo_cmp 107 77 (fun x y => decide (¬ x = y)))),
  (77, .inl (lo_aload 78 0)),
  (78, .inl (lo_getf 81 9 0)),
  (81, .inl (lo_iload 83 4)),
  (83, .inl (lo_ald 84 0)),
  (84, .inl (lo_iload 85 1)),
  (85, .inl (lo_cmp 107 88 (fun x y => decide (¬ x = y)))),
  (88, .inl (lo_aload 89 0)),
  (89, .inl (lo_getf 92 9 1)),
  (92, .inl (lo_iload 94 4)),
  (94, .inl (lo_ald 95 0)),
  (95, .inl (lo_iload 96 2)),
  (96, .inl (lo_cmp 107 99 (fun x y => decide (¬ x = y)))),
  (99, .inl (lo_aload 100 0)),
  (100, .inl (lo_getf 103 9 3)),
  (103, .inl (lo_iload 105 4)),
  (105, .inl (lo_ald 106 0)),
  (106, .inr (.inr 1)),
  (107, .inl (lo_push 108 (.int 0))),
  (108, .inl (lo_istore 110 5)),
  (110, .inl (lo_push 111 (.int 0))),
  (111, .inl (lo_istore 113 6)),
  (113, .inl (lo_iload 115 6)),
  (115, .inl (lo_push 116 (.int 3))),
  (116, .inl (lo_cmp 141 119 (fun x y => decide (y ≤ x)))),
  (119, .inl (lo_iload 121 5)),
  (121, .inl (lo_aload 122 0)),
  (122, .inl (lo_iload 123 1)),
  (123, .inl (lo_iload 124 2)),
  (124, .inl (lo_iload 126 6)),
  (126, .inl (lo_iload 127 3)),
  (127, .inl (lo_push 128 (.int 1))),
  (128, .inl (lo_bin 129 (fun x y => x - y))),
  (129, .inr (.inl (108, 5, 132))),
  (132, .inl (lo_bin 133 (fun x y => x + y))),
  (133, .inl (lo_istore 135 5)),
  (135, .inl (lo_iinc 138 6 1)),
  (138, .inl (lo_goto 113)),
  (141, .inl (lo_aload 142 0)),
  (142, .inl (lo_getf 145 9 0)),
  (145, .inl (lo_iload 147 4)),
  (147, .inl (lo_iload 148 1)),
  (148, .inl (lo_ast 149 0)),
  (149, .inl (lo_aload 150 0)),
  (150, .inl (lo_getf 153 9 1)),
  (153, .inl (lo_iload 155 4)),
  (155, .inl (lo_iload 156 2)),
  (156, .inl (lo_ast 157 0)),
  (157, .inl (lo_aload 158 0)),
  (158, .inl (lo_getf 161 9 2)),
  (161, .inl (lo_iload 163 4)),
  (163, .inl (lo_iload 164 3)),
  (164, .inl (lo_ast 165 0)),
  (165, .inl (lo_aload 166 0)),
  (166, .inl (lo_getf 169 9 3)),
  (169, .inl (lo_iload 171 4)),
  (171, .inl (lo_iload 173 5)),
  (173, .inl (lo_ast 174 0)),
  (174, .inl (lo_iload 176 5)),
  (176, .inr (.inr 1))]
theorem k_109_0 (L : Nat) (xs : Nat → Int32) : ll_OK1 cX9_countFrom RX9 (some .int) false ll_mN ll_mR ll_mK ll_cnt L xs false 0 (.inl (lo_iload 1 3)) := lk_iload_n (k := 3) (by decide +kernel) rfl
theorem k_109_1 (L : Nat) (xs : Nat → Int32) : ll_OK1 cX9_countFrom RX9 (some .int) false ll_mN ll_mR ll_mK ll_cnt L xs false 1 (.inl (lo_if 33 4 (fun x => decide (0 < x)))) := lk_if_gt (off := 32) (by decide +kernel) rfl
theorem k_109_4 (L : Nat) (xs : Nat → Int32) : ll_OK1 cX9_countFrom RX9 (some .int) false ll_mN ll_mR ll_mK ll_cnt L xs false 4 (.inl (lo_aload 5 0)) := lk_aload_n (k := 0) (by decide +kernel) rfl
theorem k_109_5 (L : Nat) (xs : Nat → Int32) : ll_OK1 cX9_countFrom RX9 (some .int) false ll_mN ll_mR ll_mK ll_cnt L xs false 5 (.inl (lo_aload 6 0)) := lk_aload_n (k := 0) (by decide +kernel) rfl
theorem k_109_6 (L : Nat) (xs : Nat → Int32) : ll_OK1 cX9_countFrom RX9 (some .int) false ll_mN ll_mR ll_mK ll_cnt L xs false 6 (.inl (lo_getf 9 9 4)) := lk_getf (ix := 24) (ci := 9) (k := 4) (C := RX9) (T := TX9) (N := 7) (by decide +kernel) rfl in_9 (by decide) tb_402
theorem k_109_9 (L : Nat) (xs : Nat → Int32) : ll_OK1 cX9_countFrom RX9 (some .int) false ll_mN ll_mR ll_mK ll_cnt L xs false 9 (.inl (lo_iload 10 1)) := lk_iload_n (k := 1) (by decide +kernel) rfl
theorem k_109_10 (L : Nat) (xs : Nat → Int32) : ll_OK1 cX9_countFrom RX9 (some .int) false ll_mN ll_mR ll_mK ll_cnt L xs false 10 (.inr (.inl (47, 2, 13))) := ⟨rfl, by decide, by rw [mN_47, mK_47, mR_47]; exact lj_v 70 1 5 (RX5, TX5, 11) (by decide +kernel) tb_425 tb_30 tb_31 rfl rfl rfl rfl (by decide +kernel)⟩
theorem k_109_13 (L : Nat) (xs : Nat → Int32) : ll_OK1 cX9_countFrom RX9 (some .int) false ll_mN ll_mR ll_mK ll_cnt L xs false 13 (.inl (lo_aload 14 0)) := lk_aload_n (k := 0) (by decide +kernel) rfl
theorem k_109_14 (L : Nat) (xs : Nat → Int32) : ll_OK1 cX9_countFrom RX9 (some .int) false ll_mN ll_mR ll_mK ll_cnt L xs false 14 (.inl (lo_getf 17 9 5)) := lk_getf (ix := 28) (ci := 9) (k := 5) (C := RX9) (T := TX9) (N := 7) (by decide +kernel) rfl in_9 (by decide) tb_403
theorem k_109_17 (L : Nat) (xs : Nat → Int32) : ll_OK1 cX9_countFrom RX9 (some .int) false ll_mN ll_mR ll_mK ll_cnt L xs false 17 (.inl (lo_iload 18 2)) := lk_iload_n (k := 2) (by decide +kernel) rfl
theorem k_109_18 (L : Nat) (xs : Nat → Int32) : ll_OK1 cX9_countFrom RX9 (some .int) false ll_mN ll_mR ll_mK ll_cnt L xs false 18 (.inr (.inl (47, 2, 21))) := ⟨rfl, by decide, by rw [mN_47, mK_47, mR_47]; exact lj_v 70 1 5 (RX5, TX5, 11) (by decide +kernel) tb_425 tb_30 tb_31 rfl rfl rfl rfl (by decide +kernel)⟩
theorem k_109_21 (L : Nat) (xs : Nat → Int32) : ll_OK1 cX9_countFrom RX9 (some .int) false ll_mN ll_mR ll_mK ll_cnt L xs false 21 (.inr (.inl (110, 3, 24))) := ⟨rfl, by decide, by rw [mN_110, mK_110, mR_110]; exact lj_v 74 2 9 (RX9, TX9, 7) (by decide +kernel) tb_426 tb_427 tb_428 rfl rfl rfl rfl (by decide +kernel)⟩
theorem k_109_24 (L : Nat) (xs : Nat → Int32) : ll_OK1 cX9_countFrom RX9 (some .int) false ll_mN ll_mR ll_mK ll_cnt L xs false 24 (.inl (lo_if 31 27 (fun x => decide (x = 0)))) := lk_if_eq (off := 7) (by decide +kernel) rfl
theorem k_109_27 (L : Nat) (xs : Nat → Int32) : ll_OK1 cX9_countFrom RX9 (some .int) false ll_mN ll_mR ll_mK ll_cnt L xs false 27 (.inl (lo_push 28 (.int 1))) := lk_iconst (n := 1) (by decide +kernel) (by decide)
theorem k_109_28 (L : Nat) (xs : Nat → Int32) : ll_OK1 cX9_countFrom RX9 (some .int) false ll_mN ll_mR ll_mK ll_cnt L xs false 28 (.inl (lo_goto 32)) := lk_goto (off := 4) (by decide +kernel) rfl
theorem k_109_31 (L : Nat) (xs : Nat → Int32) : ll_OK1 cX9_countFrom RX9 (some .int) false ll_mN ll_mR ll_mK ll_cnt L xs false 31 (.inl (lo_push 32 (.int 0))) := lk_iconst (n := 0) (by decide +kernel) (by decide)
theorem k_109_32 (L : Nat) (xs : Nat → Int32) : ll_OK1 cX9_countFrom RX9 (some .int) false ll_mN ll_mR ll_mK ll_cnt L xs false 32 (.inr (.inr 1)) := ⟨(fun h => by cases h), (fun _ => ⟨(by decide +kernel), rfl⟩), fun h => by cases h⟩
theorem k_109_33 (L : Nat) (xs : Nat → Int32) : ll_OK1 cX9_countFrom RX9 (some .int) false ll_mN ll_mR ll_mK ll_cnt L xs false 33 (.inl (lo_iload 34 1)) := lk_iload_n (k := 1) (by decide +kernel) rfl
theorem k_109_34 (L : Nat) (xs : Nat → Int32) : ll_OK1 cX9_countFrom RX9 (some .int) false ll_mN ll_mR ll_mK ll_cnt L xs false 34 (.inl (lo_if 58 37 (fun x => decide (¬ x = 0)))) := lk_if_ne (off := 24) (by decide +kernel) rfl
theorem k_109_37 (L : Nat) (xs : Nat → Int32) : ll_OK1 cX9_countFrom RX9 (some .int) false ll_mN ll_mR ll_mK ll_cnt L xs false 37 (.inl (lo_iload 38 2)) := lk_iload_n (k := 2) (by decide +kernel) rfl
theorem k_109_38 (L : Nat) (xs : Nat → Int32) : ll_OK1 cX9_countFrom RX9 (some .int) false ll_mN ll_mR ll_mK ll_cnt L xs false 38 (.inl (lo_if 58 41 (fun x => decide (¬ x = 0)))) := lk_if_ne (off := 20) (by decide +kernel) rfl
theorem k_109_41 (L : Nat) (xs : Nat → Int32) : ll_OK1 cX9_countFrom RX9 (some .int) false ll_mN ll_mR ll_mK ll_cnt L xs false 41 (.inl (lo_aload 42 0)) := lk_aload_n (k := 0) (by decide +kernel) rfl
theorem k_109_42 (L : Nat) (xs : Nat → Int32) : ll_OK1 cX9_countFrom RX9 (some .int) false ll_mN ll_mR ll_mK ll_cnt L xs false 42 (.inl (lo_getf 45 9 6)) := lk_getf (ix := 60) (ci := 9) (k := 6) (C := RX9) (T := TX9) (N := 7) (by decide +kernel) rfl in_9 (by decide) tb_423
theorem k_109_45 (L : Nat) (xs : Nat → Int32) : ll_OK1 cX9_countFrom RX9 (some .int) false ll_mN ll_mR ll_mK ll_cnt L xs false 45 (.inl (lo_push 46 (.int 5))) := lk_iconst (n := 5) (by decide +kernel) (by decide)
theorem k_109_46 (L : Nat) (xs : Nat → Int32) : ll_OK1 cX9_countFrom RX9 (some .int) false ll_mN ll_mR ll_mK ll_cnt L xs false 46 (.inl (lo_cmp 56 49 (fun x y => decide (¬ x = y)))) := lk_icmp_ne (off := 10) (by decide +kernel) rfl
theorem k_109_49 (L : Nat) (xs : Nat → Int32) : ll_OK1 cX9_countFrom RX9 (some .int) false ll_mN ll_mR ll_mK ll_cnt L xs false 49 (.inl (lo_iload 50 3)) := lk_iload_n (k := 3) (by decide +kernel) rfl
theorem k_109_50 (L : Nat) (xs : Nat → Int32) : ll_OK1 cX9_countFrom RX9 (some .int) false ll_mN ll_mR ll_mK ll_cnt L xs false 50 (.inr (.inl (111, 1, 53))) := ⟨rfl, by decide, by rw [mN_111, mK_111, mR_111]; exact lj_s 78 (by decide +kernel) tb_429 tb_430 (by decide +kernel)⟩
theorem k_109_53 (L : Nat) (xs : Nat → Int32) : ll_OK1 cX9_countFrom RX9 (some .int) false ll_mN ll_mR ll_mK ll_cnt L xs false 53 (.inl (lo_goto 57)) := lk_goto (off := 4) (by decide +kernel) rfl
theorem k_109_56 (L : Nat) (xs : Nat → Int32) : ll_OK1 cX9_countFrom RX9 (some .int) false ll_mN ll_mR ll_mK ll_cnt L xs false 56 (.inl (lo_push 57 (.int 0))) := lk_iconst (n := 0) (by decide +kernel) (by decide)
theorem k_109_57 (L : Nat) (xs : Nat → Int32) : ll_OK1 cX9_countFrom RX9 (some .int) false ll_mN ll_mR ll_mK ll_cnt L xs false 57 (.inr (.inr 1)) := ⟨(fun h => by cases h), (fun _ => ⟨(by decide +kernel), rfl⟩), fun h => by cases h⟩
theorem k_109_58 (L : Nat) (xs : Nat → Int32) : ll_OK1 cX9_countFrom RX9 (some .int) false ll_mN ll_mR ll_mK ll_cnt L xs false 58 (.inl (lo_iload 59 1)) := lk_iload_n (k := 1) (by decide +kernel) rfl
theorem k_109_59 (L : Nat) (xs : Nat → Int32) : ll_OK1 cX9_countFrom RX9 (some .int) false ll_mN ll_mR ll_mK ll_cnt L xs false 59 (.inl (lo_iload 60 2)) := lk_iload_n (k := 2) (by decide +kernel) rfl
theorem k_109_60 (L : Nat) (xs : Nat → Int32) : ll_OK1 cX9_countFrom RX9 (some .int) false ll_mN ll_mR ll_mK ll_cnt L xs false 60 (.inl (lo_iload 61 3)) := lk_iload_n (k := 3) (by decide +kernel) rfl
theorem k_109_61 (L : Nat) (xs : Nat → Int32) : ll_OK1 cX9_countFrom RX9 (some .int) false ll_mN ll_mR ll_mK ll_cnt L xs false 61 (.inr (.inl (112, 3, 64))) := ⟨rfl, by decide, by rw [mN_112, mK_112, mR_112]; exact lj_s 82 (by decide +kernel) tb_431 tb_432 (by decide +kernel)⟩
theorem k_109_64 (L : Nat) (xs : Nat → Int32) : ll_OK1 cX9_countFrom RX9 (some .int) false ll_mN ll_mR ll_mK ll_cnt L xs false 64 (.inl (lo_istore 66 4)) := lk_istore (by decide +kernel)
theorem k_109_66 (L : Nat) (xs : Nat → Int32) : ll_OK1 cX9_countFrom RX9 (some .int) false ll_mN ll_mR ll_mK ll_cnt L xs false 66 (.inl (lo_aload 67 0)) := lk_aload_n (k := 0) (by decide +kernel) rfl
theorem k_109_67 (L : Nat) (xs : Nat → Int32) : ll_OK1 cX9_countFrom RX9 (some .int) false ll_mN ll_mR ll_mK ll_cnt L xs false 67 (.inl (lo_getf 70 9 2)) := lk_getf (ix := 18) (ci := 9) (k := 2) (C := RX9) (T := TX9) (N := 7) (by decide +kernel) rfl in_9 (by decide) tb_400
theorem k_109_70 (L : Nat) (xs : Nat → Int32) : ll_OK1 cX9_countFrom RX9 (some .int) false ll_mN ll_mR ll_mK ll_cnt L xs false 70 (.inl (lo_iload 72 4)) := lk_iload (by decide +kernel)
theorem k_109_72 (L : Nat) (xs : Nat → Int32) : ll_OK1 cX9_countFrom RX9 (some .int) false ll_mN ll_mR ll_mK ll_cnt L xs false 72 (.inl (lo_ald 73 0)) := lk_iald (by decide +kernel)
theorem k_109_73 (L : Nat) (xs : Nat → Int32) : ll_OK1 cX9_countFrom RX9 (some .int) false ll_mN ll_mR ll_mK ll_cnt L xs false 73 (.inl (lo_iload 74 3)) := lk_iload_n (k := 3) (by decide +kernel) rfl
theorem k_109_74 (L : Nat) (xs : Nat → Int32) : ll_OK1 cX9_countFrom RX9 (some .int) false ll_mN ll_mR ll_mK ll_cnt L xs false 74 (.inl (lo_cmp 107 77 (fun x y => decide (¬ x = y)))) := lk_icmp_ne (off := 33) (by decide +kernel) rfl
theorem k_109_77 (L : Nat) (xs : Nat → Int32) : ll_OK1 cX9_countFrom RX9 (some .int) false ll_mN ll_mR ll_mK ll_cnt L xs false 77 (.inl (lo_aload 78 0)) := lk_aload_n (k := 0) (by decide +kernel) rfl
theorem k_109_78 (L : Nat) (xs : Nat → Int32) : ll_OK1 cX9_countFrom RX9 (some .int) false ll_mN ll_mR ll_mK ll_cnt L xs false 78 (.inl (lo_getf 81 9 0)) := lk_getf (ix := 11) (ci := 9) (k := 0) (C := RX9) (T := TX9) (N := 7) (by decide +kernel) rfl in_9 (by decide) tb_398
theorem k_109_81 (L : Nat) (xs : Nat → Int32) : ll_OK1 cX9_countFrom RX9 (some .int) false ll_mN ll_mR ll_mK ll_cnt L xs false 81 (.inl (lo_iload 83 4)) := lk_iload (by decide +kernel)
theorem k_109_83 (L : Nat) (xs : Nat → Int32) : ll_OK1 cX9_countFrom RX9 (some .int) false ll_mN ll_mR ll_mK ll_cnt L xs false 83 (.inl (lo_ald 84 0)) := lk_iald (by decide +kernel)
theorem k_109_84 (L : Nat) (xs : Nat → Int32) : ll_OK1 cX9_countFrom RX9 (some .int) false ll_mN ll_mR ll_mK ll_cnt L xs false 84 (.inl (lo_iload 85 1)) := lk_iload_n (k := 1) (by decide +kernel) rfl
theorem k_109_85 (L : Nat) (xs : Nat → Int32) : ll_OK1 cX9_countFrom RX9 (some .int) false ll_mN ll_mR ll_mK ll_cnt L xs false 85 (.inl (lo_cmp 107 88 (fun x y => decide (¬ x = y)))) := lk_icmp_ne (off := 22) (by decide +kernel) rfl
theorem k_109_88 (L : Nat) (xs : Nat → Int32) : ll_OK1 cX9_countFrom RX9 (some .int) false ll_mN ll_mR ll_mK ll_cnt L xs false 88 (.inl (lo_aload 89 0)) := lk_aload_n (k := 0) (by decide +kernel) rfl
theorem k_109_89 (L : Nat) (xs : Nat → Int32) : ll_OK1 cX9_countFrom RX9 (some .int) false ll_mN ll_mR ll_mK ll_cnt L xs false 89 (.inl (lo_getf 92 9 1)) := lk_getf (ix := 15) (ci := 9) (k := 1) (C := RX9) (T := TX9) (N := 7) (by decide +kernel) rfl in_9 (by decide) tb_399
theorem k_109_92 (L : Nat) (xs : Nat → Int32) : ll_OK1 cX9_countFrom RX9 (some .int) false ll_mN ll_mR ll_mK ll_cnt L xs false 92 (.inl (lo_iload 94 4)) := lk_iload (by decide +kernel)
theorem k_109_94 (L : Nat) (xs : Nat → Int32) : ll_OK1 cX9_countFrom RX9 (some .int) false ll_mN ll_mR ll_mK ll_cnt L xs false 94 (.inl (lo_ald 95 0)) := lk_iald (by decide +kernel)
theorem k_109_95 (L : Nat) (xs : Nat → Int32) : ll_OK1 cX9_countFrom RX9 (some .int) false ll_mN ll_mR ll_mK ll_cnt L xs false 95 (.inl (lo_iload 96 2)) := lk_iload_n (k := 2) (by decide +kernel) rfl
theorem k_109_96 (L : Nat) (xs : Nat → Int32) : ll_OK1 cX9_countFrom RX9 (some .int) false ll_mN ll_mR ll_mK ll_cnt L xs false 96 (.inl (lo_cmp 107 99 (fun x y => decide (¬ x = y)))) := lk_icmp_ne (off := 11) (by decide +kernel) rfl
theorem k_109_99 (L : Nat) (xs : Nat → Int32) : ll_OK1 cX9_countFrom RX9 (some .int) false ll_mN ll_mR ll_mK ll_cnt L xs false 99 (.inl (lo_aload 100 0)) := lk_aload_n (k := 0) (by decide +kernel) rfl
theorem k_109_100 (L : Nat) (xs : Nat → Int32) : ll_OK1 cX9_countFrom RX9 (some .int) false ll_mN ll_mR ll_mK ll_cnt L xs false 100 (.inl (lo_getf 103 9 3)) := lk_getf (ix := 21) (ci := 9) (k := 3) (C := RX9) (T := TX9) (N := 7) (by decide +kernel) rfl in_9 (by decide) tb_401
theorem k_109_103 (L : Nat) (xs : Nat → Int32) : ll_OK1 cX9_countFrom RX9 (some .int) false ll_mN ll_mR ll_mK ll_cnt L xs false 103 (.inl (lo_iload 105 4)) := lk_iload (by decide +kernel)
theorem k_109_105 (L : Nat) (xs : Nat → Int32) : ll_OK1 cX9_countFrom RX9 (some .int) false ll_mN ll_mR ll_mK ll_cnt L xs false 105 (.inl (lo_ald 106 0)) := lk_iald (by decide +kernel)
theorem k_109_106 (L : Nat) (xs : Nat → Int32) : ll_OK1 cX9_countFrom RX9 (some .int) false ll_mN ll_mR ll_mK ll_cnt L xs false 106 (.inr (.inr 1)) := ⟨(fun h => by cases h), (fun _ => ⟨(by decide +kernel), rfl⟩), fun h => by cases h⟩
theorem k_109_107 (L : Nat) (xs : Nat → Int32) : ll_OK1 cX9_countFrom RX9 (some .int) false ll_mN ll_mR ll_mK ll_cnt L xs false 107 (.inl (lo_push 108 (.int 0))) := lk_iconst (n := 0) (by decide +kernel) (by decide)
theorem k_109_108 (L : Nat) (xs : Nat → Int32) : ll_OK1 cX9_countFrom RX9 (some .int) false ll_mN ll_mR ll_mK ll_cnt L xs false 108 (.inl (lo_istore 110 5)) := lk_istore (by decide +kernel)
theorem k_109_110 (L : Nat) (xs : Nat → Int32) : ll_OK1 cX9_countFrom RX9 (some .int) false ll_mN ll_mR ll_mK ll_cnt L xs false 110 (.inl (lo_push 111 (.int 0))) := lk_iconst (n := 0) (by decide +kernel) (by decide)
theorem k_109_111 (L : Nat) (xs : Nat → Int32) : ll_OK1 cX9_countFrom RX9 (some .int) false ll_mN ll_mR ll_mK ll_cnt L xs false 111 (.inl (lo_istore 113 6)) := lk_istore (by decide +kernel)
theorem k_109_113 (L : Nat) (xs : Nat → Int32) : ll_OK1 cX9_countFrom RX9 (some .int) false ll_mN ll_mR ll_mK ll_cnt L xs false 113 (.inl (lo_iload 115 6)) := lk_iload (by decide +kernel)
theorem k_109_115 (L : Nat) (xs : Nat → Int32) : ll_OK1 cX9_countFrom RX9 (some .int) false ll_mN ll_mR ll_mK ll_cnt L xs false 115 (.inl (lo_push 116 (.int 3))) := lk_iconst (n := 3) (by decide +kernel) (by decide)
theorem k_109_116 (L : Nat) (xs : Nat → Int32) : ll_OK1 cX9_countFrom RX9 (some .int) false ll_mN ll_mR ll_mK ll_cnt L xs false 116 (.inl (lo_cmp 141 119 (fun x y => decide (y ≤ x)))) := lk_icmp_ge (off := 25) (by decide +kernel) rfl
theorem k_109_119 (L : Nat) (xs : Nat → Int32) : ll_OK1 cX9_countFrom RX9 (some .int) false ll_mN ll_mR ll_mK ll_cnt L xs false 119 (.inl (lo_iload 121 5)) := lk_iload (by decide +kernel)
theorem k_109_121 (L : Nat) (xs : Nat → Int32) : ll_OK1 cX9_countFrom RX9 (some .int) false ll_mN ll_mR ll_mK ll_cnt L xs false 121 (.inl (lo_aload 122 0)) := lk_aload_n (k := 0) (by decide +kernel) rfl
theorem k_109_122 (L : Nat) (xs : Nat → Int32) : ll_OK1 cX9_countFrom RX9 (some .int) false ll_mN ll_mR ll_mK ll_cnt L xs false 122 (.inl (lo_iload 123 1)) := lk_iload_n (k := 1) (by decide +kernel) rfl
theorem k_109_123 (L : Nat) (xs : Nat → Int32) : ll_OK1 cX9_countFrom RX9 (some .int) false ll_mN ll_mR ll_mK ll_cnt L xs false 123 (.inl (lo_iload 124 2)) := lk_iload_n (k := 2) (by decide +kernel) rfl
theorem k_109_124 (L : Nat) (xs : Nat → Int32) : ll_OK1 cX9_countFrom RX9 (some .int) false ll_mN ll_mR ll_mK ll_cnt L xs false 124 (.inl (lo_iload 126 6)) := lk_iload (by decide +kernel)
theorem k_109_126 (L : Nat) (xs : Nat → Int32) : ll_OK1 cX9_countFrom RX9 (some .int) false ll_mN ll_mR ll_mK ll_cnt L xs false 126 (.inl (lo_iload 127 3)) := lk_iload_n (k := 3) (by decide +kernel) rfl
theorem k_109_127 (L : Nat) (xs : Nat → Int32) : ll_OK1 cX9_countFrom RX9 (some .int) false ll_mN ll_mR ll_mK ll_cnt L xs false 127 (.inl (lo_push 128 (.int 1))) := lk_iconst (n := 1) (by decide +kernel) (by decide)
theorem k_109_128 (L : Nat) (xs : Nat → Int32) : ll_OK1 cX9_countFrom RX9 (some .int) false ll_mN ll_mR ll_mK ll_cnt L xs false 128 (.inl (lo_bin 129 (fun x y => x - y))) := lk_isub (by decide +kernel)
theorem k_109_129 (L : Nat) (xs : Nat → Int32) : ll_OK1 cX9_countFrom RX9 (some .int) false ll_mN ll_mR ll_mK ll_cnt L xs false 129 (.inr (.inl (108, 5, 132))) := ⟨rfl, by decide, by rw [mN_108, mK_108, mR_108]; exact lj_v 50 4 9 (RX9, TX9, 7) (by decide +kernel) tb_419 tb_420 tb_421 rfl rfl rfl rfl (by decide +kernel)⟩
theorem k_109_132 (L : Nat) (xs : Nat → Int32) : ll_OK1 cX9_countFrom RX9 (some .int) false ll_mN ll_mR ll_mK ll_cnt L xs false 132 (.inl (lo_bin 133 (fun x y => x + y))) := lk_iadd (by decide +kernel)
theorem k_109_133 (L : Nat) (xs : Nat → Int32) : ll_OK1 cX9_countFrom RX9 (some .int) false ll_mN ll_mR ll_mK ll_cnt L xs false 133 (.inl (lo_istore 135 5)) := lk_istore (by decide +kernel)
theorem k_109_135 (L : Nat) (xs : Nat → Int32) : ll_OK1 cX9_countFrom RX9 (some .int) false ll_mN ll_mR ll_mK ll_cnt L xs false 135 (.inl (lo_iinc 138 6 1)) := lk_iinc (n := 1) (by decide +kernel) (by decide)
theorem k_109_138 (L : Nat) (xs : Nat → Int32) : ll_OK1 cX9_countFrom RX9 (some .int) false ll_mN ll_mR ll_mK ll_cnt L xs false 138 (.inl (lo_goto 113)) := lk_goto (off := (-25)) (by decide +kernel) rfl
theorem k_109_141 (L : Nat) (xs : Nat → Int32) : ll_OK1 cX9_countFrom RX9 (some .int) false ll_mN ll_mR ll_mK ll_cnt L xs false 141 (.inl (lo_aload 142 0)) := lk_aload_n (k := 0) (by decide +kernel) rfl
theorem k_109_142 (L : Nat) (xs : Nat → Int32) : ll_OK1 cX9_countFrom RX9 (some .int) false ll_mN ll_mR ll_mK ll_cnt L xs false 142 (.inl (lo_getf 145 9 0)) := lk_getf (ix := 11) (ci := 9) (k := 0) (C := RX9) (T := TX9) (N := 7) (by decide +kernel) rfl in_9 (by decide) tb_398
theorem k_109_145 (L : Nat) (xs : Nat → Int32) : ll_OK1 cX9_countFrom RX9 (some .int) false ll_mN ll_mR ll_mK ll_cnt L xs false 145 (.inl (lo_iload 147 4)) := lk_iload (by decide +kernel)
theorem k_109_147 (L : Nat) (xs : Nat → Int32) : ll_OK1 cX9_countFrom RX9 (some .int) false ll_mN ll_mR ll_mK ll_cnt L xs false 147 (.inl (lo_iload 148 1)) := lk_iload_n (k := 1) (by decide +kernel) rfl
theorem k_109_148 (L : Nat) (xs : Nat → Int32) : ll_OK1 cX9_countFrom RX9 (some .int) false ll_mN ll_mR ll_mK ll_cnt L xs false 148 (.inl (lo_ast 149 0)) := lk_iast (by decide +kernel)
theorem k_109_149 (L : Nat) (xs : Nat → Int32) : ll_OK1 cX9_countFrom RX9 (some .int) false ll_mN ll_mR ll_mK ll_cnt L xs false 149 (.inl (lo_aload 150 0)) := lk_aload_n (k := 0) (by decide +kernel) rfl
theorem k_109_150 (L : Nat) (xs : Nat → Int32) : ll_OK1 cX9_countFrom RX9 (some .int) false ll_mN ll_mR ll_mK ll_cnt L xs false 150 (.inl (lo_getf 153 9 1)) := lk_getf (ix := 15) (ci := 9) (k := 1) (C := RX9) (T := TX9) (N := 7) (by decide +kernel) rfl in_9 (by decide) tb_399
theorem k_109_153 (L : Nat) (xs : Nat → Int32) : ll_OK1 cX9_countFrom RX9 (some .int) false ll_mN ll_mR ll_mK ll_cnt L xs false 153 (.inl (lo_iload 155 4)) := lk_iload (by decide +kernel)
theorem k_109_155 (L : Nat) (xs : Nat → Int32) : ll_OK1 cX9_countFrom RX9 (some .int) false ll_mN ll_mR ll_mK ll_cnt L xs false 155 (.inl (lo_iload 156 2)) := lk_iload_n (k := 2) (by decide +kernel) rfl
theorem k_109_156 (L : Nat) (xs : Nat → Int32) : ll_OK1 cX9_countFrom RX9 (some .int) false ll_mN ll_mR ll_mK ll_cnt L xs false 156 (.inl (lo_ast 157 0)) := lk_iast (by decide +kernel)
theorem k_109_157 (L : Nat) (xs : Nat → Int32) : ll_OK1 cX9_countFrom RX9 (some .int) false ll_mN ll_mR ll_mK ll_cnt L xs false 157 (.inl (lo_aload 158 0)) := lk_aload_n (k := 0) (by decide +kernel) rfl
theorem k_109_158 (L : Nat) (xs : Nat → Int32) : ll_OK1 cX9_countFrom RX9 (some .int) false ll_mN ll_mR ll_mK ll_cnt L xs false 158 (.inl (lo_getf 161 9 2)) := lk_getf (ix := 18) (ci := 9) (k := 2) (C := RX9) (T := TX9) (N := 7) (by decide +kernel) rfl in_9 (by decide) tb_400
theorem k_109_161 (L : Nat) (xs : Nat → Int32) : ll_OK1 cX9_countFrom RX9 (some .int) false ll_mN ll_mR ll_mK ll_cnt L xs false 161 (.inl (lo_iload 163 4)) := lk_iload (by decide +kernel)
theorem k_109_163 (L : Nat) (xs : Nat → Int32) : ll_OK1 cX9_countFrom RX9 (some .int) false ll_mN ll_mR ll_mK ll_cnt L xs false 163 (.inl (lo_iload 164 3)) := lk_iload_n (k := 3) (by decide +kernel) rfl
theorem k_109_164 (L : Nat) (xs : Nat → Int32) : ll_OK1 cX9_countFrom RX9 (some .int) false ll_mN ll_mR ll_mK ll_cnt L xs false 164 (.inl (lo_ast 165 0)) := lk_iast (by decide +kernel)
theorem k_109_165 (L : Nat) (xs : Nat → Int32) : ll_OK1 cX9_countFrom RX9 (some .int) false ll_mN ll_mR ll_mK ll_cnt L xs false 165 (.inl (lo_aload 166 0)) := lk_aload_n (k := 0) (by decide +kernel) rfl
theorem k_109_166 (L : Nat) (xs : Nat → Int32) : ll_OK1 cX9_countFrom RX9 (some .int) false ll_mN ll_mR ll_mK ll_cnt L xs false 166 (.inl (lo_getf 169 9 3)) := lk_getf (ix := 21) (ci := 9) (k := 3) (C := RX9) (T := TX9) (N := 7) (by decide +kernel) rfl in_9 (by decide) tb_401
theorem k_109_169 (L : Nat) (xs : Nat → Int32) : ll_OK1 cX9_countFrom RX9 (some .int) false ll_mN ll_mR ll_mK ll_cnt L xs false 169 (.inl (lo_iload 171 4)) := lk_iload (by decide +kernel)
theorem k_109_171 (L : Nat) (xs : Nat → Int32) : ll_OK1 cX9_countFrom RX9 (some .int) false ll_mN ll_mR ll_mK ll_cnt L xs false 171 (.inl (lo_iload 173 5)) := lk_iload (by decide +kernel)
theorem k_109_173 (L : Nat) (xs : Nat → Int32) : ll_OK1 cX9_countFrom RX9 (some .int) false ll_mN ll_mR ll_mK ll_cnt L xs false 173 (.inl (lo_ast 174 0)) := lk_iast (by decide +kernel)
theorem k_109_174 (L : Nat) (xs : Nat → Int32) : ll_OK1 cX9_countFrom RX9 (some .int) false ll_mN ll_mR ll_mK ll_cnt L xs false 174 (.inl (lo_iload 176 5)) := lk_iload (by decide +kernel)
theorem k_109_176 (L : Nat) (xs : Nat → Int32) : ll_OK1 cX9_countFrom RX9 (some .int) false ll_mN ll_mR ll_mK ll_cnt L xs false 176 (.inr (.inr 1)) := ⟨(fun h => by cases h), (fun _ => ⟨(by decide +kernel), rfl⟩), fun h => by cases h⟩
theorem ok_109 (L : Nat) (xs : Nat → Int32) : ∀ q ∈ cd_109, ll_OK1 cX9_countFrom RX9 (some .int) false ll_mN ll_mR ll_mK ll_cnt L xs false q.1 q.2 :=
  List.forall_mem_cons.mpr ⟨k_109_0 L xs, List.forall_mem_cons.mpr ⟨k_109_1 L xs, List.forall_mem_cons.mpr ⟨k_109_4 L xs, List.forall_mem_cons.mpr ⟨k_109_5 L xs, List.forall_mem_cons.mpr ⟨k_109_6 L xs, List.forall_mem_cons.mpr ⟨k_109_9 L xs, List.forall_mem_cons.mpr ⟨k_109_10 L xs, List.forall_mem_cons.mpr ⟨k_109_13 L xs, List.forall_mem_cons.mpr ⟨k_109_14 L xs, List.forall_mem_cons.mpr ⟨k_109_17 L xs, List.forall_mem_cons.mpr ⟨k_109_18 L xs, List.forall_mem_cons.mpr ⟨k_109_21 L xs, List.forall_mem_cons.mpr ⟨k_109_24 L xs, List.forall_mem_cons.mpr ⟨k_109_27 L xs, List.forall_mem_cons.mpr ⟨k_109_28 L xs, List.forall_mem_cons.mpr ⟨k_109_31 L xs, List.forall_mem_cons.mpr ⟨k_109_32 L xs, List.forall_mem_cons.mpr ⟨k_109_33 L xs, List.forall_mem_cons.mpr ⟨k_109_34 L xs, List.forall_mem_cons.mpr ⟨k_109_37 L xs, List.forall_mem_cons.mpr ⟨k_109_38 L xs, List.forall_mem_cons.mpr ⟨k_109_41 L xs, List.forall_mem_cons.mpr ⟨k_109_42 L xs, List.forall_mem_cons.mpr ⟨k_109_45 L xs, List.forall_mem_cons.mpr ⟨k_109_46 L xs, List.forall_mem_cons.mpr ⟨k_109_49 L xs, List.forall_mem_cons.mpr ⟨k_109_50 L xs, List.forall_mem_cons.mpr ⟨k_109_53 L xs, List.forall_mem_cons.mpr ⟨k_109_56 L xs, List.forall_mem_cons.mpr ⟨k_109_57 L xs, List.forall_mem_cons.mpr ⟨k_109_58 L xs, List.forall_mem_cons.mpr ⟨k_109_59 L xs, List.forall_mem_cons.mpr ⟨k_109_60 L xs, List.forall_mem_cons.mpr ⟨k_109_61 L xs, List.forall_mem_cons.mpr ⟨k_109_64 L xs, List.forall_mem_cons.mpr ⟨k_109_66 L xs, List.forall_mem_cons.mpr ⟨k_109_67 L xs, List.forall_mem_cons.mpr ⟨k_109_70 L xs, List.forall_mem_cons.mpr ⟨k_109_72 L xs, List.forall_mem_cons.mpr ⟨k_109_73 L xs, List.forall_mem_cons.mpr ⟨k_109_74 L xs, List.forall_mem_cons.mpr ⟨k_109_77 L xs, List.forall_mem_cons.mpr ⟨k_109_78 L xs, List.forall_mem_cons.mpr ⟨k_109_81 L xs, List.forall_mem_cons.mpr ⟨k_109_83 L xs, List.forall_mem_cons.mpr ⟨k_109_84 L xs, List.forall_mem_cons.mpr ⟨k_109_85 L xs, List.forall_mem_cons.mpr ⟨k_109_88 L xs, List.forall_mem_cons.mpr ⟨k_109_89 L xs, List.forall_mem_cons.mpr ⟨k_109_92 L xs, List.forall_mem_cons.mpr ⟨k_109_94 L xs, List.forall_mem_cons.mpr ⟨k_109_95 L xs, List.forall_mem_cons.mpr ⟨k_109_96 L xs, List.forall_mem_cons.mpr ⟨k_109_99 L xs, List.forall_mem_cons.mpr ⟨k_109_100 L xs, List.forall_mem_cons.mpr ⟨k_109_103 L xs, List.forall_mem_cons.mpr ⟨k_109_105 L xs, List.forall_mem_cons.mpr ⟨k_109_106 L xs, List.forall_mem_cons.mpr ⟨k_109_107 L xs, List.forall_mem_cons.mpr ⟨k_109_108 L xs, List.forall_mem_cons.mpr ⟨k_109_110 L xs, List.forall_mem_cons.mpr ⟨k_109_111 L xs, List.forall_mem_cons.mpr ⟨k_109_113 L xs, List.forall_mem_cons.mpr ⟨k_109_115 L xs, List.forall_mem_cons.mpr ⟨k_109_116 L xs, List.forall_mem_cons.mpr ⟨k_109_119 L xs, List.forall_mem_cons.mpr ⟨k_109_121 L xs, List.forall_mem_cons.mpr ⟨k_109_122 L xs, List.forall_mem_cons.mpr ⟨k_109_123 L xs, List.forall_mem_cons.mpr ⟨k_109_124 L xs, List.forall_mem_cons.mpr ⟨k_109_126 L xs, List.forall_mem_cons.mpr ⟨k_109_127 L xs, List.forall_mem_cons.mpr ⟨k_109_128 L xs, List.forall_mem_cons.mpr ⟨k_109_129 L xs, List.forall_mem_cons.mpr ⟨k_109_132 L xs, List.forall_mem_cons.mpr ⟨k_109_133 L xs, List.forall_mem_cons.mpr ⟨k_109_135 L xs, List.forall_mem_cons.mpr ⟨k_109_138 L xs, List.forall_mem_cons.mpr ⟨k_109_141 L xs, List.forall_mem_cons.mpr ⟨k_109_142 L xs, List.forall_mem_cons.mpr ⟨k_109_145 L xs, List.forall_mem_cons.mpr ⟨k_109_147 L xs, List.forall_mem_cons.mpr ⟨k_109_148 L xs, List.forall_mem_cons.mpr ⟨k_109_149 L xs, List.forall_mem_cons.mpr ⟨k_109_150 L xs, List.forall_mem_cons.mpr ⟨k_109_153 L xs, List.forall_mem_cons.mpr ⟨k_109_155 L xs, List.forall_mem_cons.mpr ⟨k_109_156 L xs, List.forall_mem_cons.mpr ⟨k_109_157 L xs, List.forall_mem_cons.mpr ⟨k_109_158 L xs, List.forall_mem_cons.mpr ⟨k_109_161 L xs, List.forall_mem_cons.mpr ⟨k_109_163 L xs, List.forall_mem_cons.mpr ⟨k_109_164 L xs, List.forall_mem_cons.mpr ⟨k_109_165 L xs, List.forall_mem_cons.mpr ⟨k_109_166 L xs, List.forall_mem_cons.mpr ⟨k_109_169 L xs, List.forall_mem_cons.mpr ⟨k_109_171 L xs, List.forall_mem_cons.mpr ⟨k_109_173 L xs, List.forall_mem_cons.mpr ⟨k_109_174 L xs, List.forall_mem_cons.mpr ⟨k_109_176 L xs, fun _ h => absurd h List.not_mem_nil⟩⟩⟩⟩⟩⟩⟩⟩⟩⟩⟩⟩⟩⟩⟩⟩⟩⟩⟩⟩⟩⟩⟩⟩⟩⟩⟩⟩⟩⟩⟩⟩⟩⟩⟩⟩⟩⟩⟩⟩⟩⟩⟩⟩⟩⟩⟩⟩⟩⟩⟩⟩⟩⟩⟩⟩⟩⟩⟩⟩⟩⟩⟩⟩⟩⟩⟩⟩⟩⟩⟩⟩⟩⟩⟩⟩⟩⟩⟩⟩⟩⟩⟩⟩⟩⟩⟩⟩⟩⟩⟩⟩⟩⟩⟩⟩⟩⟩⟩⟩
/-- InclusionProver$WordCounter.fits.(ZZ)Z -/
def cd_110 : List (Nat × ll_O) := [
  (0, .inl (lo_aload 1 0)),
  (1, .inl (lo_getf 4 9 6)),
  (4, .inl (lo_tab 0 [40, 42, 44, 58, 72] 86)),
  (40, .inl (lo_iload 41 1)),
  (41, .inr (.inr 2)),
  (42, .inl (lo_iload 43 2)),
  (43, .inr (.inr 2)),
  (44, .inl (lo_iload 45 1)),
  (45, .inl (lo_if 56 48 (fun x => decide (x = 0)))),
  (48, .inl (lo_iload 49 2)),
  (49, .inl (lo_if 56 52 (fun x => decide (x = 0)))),
  (52, .inl (lo_push 53 (.int 1))),
  (53, .inl (lo_goto 57)),
  (56, .inl (lo_push 57 (.int 0))),
  (57, .inr (.inr 2)),
  (58, .inl (lo_iload 59 1)),
  (59, .inl (lo_if 70 62 (fun x => decide (x = 0)))),
  (62, .inl (lo_iload 63 2)),
  (63, .inl (lo_if 70 66 (fun x => decide (¬ x = 0)))),
  (66, .inl (lo_push 67 (.int 1))),
  (67, .inl (lo_goto 71)),
  (70, .inl (lo_push 71 (.int 0))),
  (71, .inr (.inr 2)),
  (72, .inl (lo_iload 73 2)),
  (73, .inl (lo_if 84 76 (fun x => decide (x = 0)))),
  (76, .inl (lo_iload 77 1)),
  (77, .inl (lo_if 84 80 (fun x => decide (¬ x = 0)))),
  (80, .inl (lo_push 81 (.int 1))),
  (81, .inl (lo_goto 85)),
  (84, .inl (lo_push 85 (.int 0))),
  (85, .inr (.inr 2)),
  (86, .inl (lo_iload 87 1)),
  (87, .inl (lo_if 98 90 (fun x => decide (¬ x = 0)))),
  (90, .inl (lo_iload 91 2)),
  (91, .inl (lo_if 98 94 (fun x => decide (¬ x = 0)))),
  (94, .inl (lo_push 95 (.int 1))),
  (95, .inl (lo_goto 99)),
  (98, .inl (lo_push 99 (.int 0))),
  (99, .inr (.inr 2))]
theorem k_110_0 (L : Nat) (xs : Nat → Int32) : ll_OK1 cX9_fits RX9 (some .boolean) false ll_mN ll_mR ll_mK ll_cnt L xs false 0 (.inl (lo_aload 1 0)) := lk_aload_n (k := 0) (by decide +kernel) rfl
theorem k_110_1 (L : Nat) (xs : Nat → Int32) : ll_OK1 cX9_fits RX9 (some .boolean) false ll_mN ll_mR ll_mK ll_cnt L xs false 1 (.inl (lo_getf 4 9 6)) := lk_getf (ix := 60) (ci := 9) (k := 6) (C := RX9) (T := TX9) (N := 7) (by decide +kernel) rfl in_9 (by decide) tb_423
theorem k_110_4 (L : Nat) (xs : Nat → Int32) : ll_OK1 cX9_fits RX9 (some .boolean) false ll_mN ll_mR ll_mK ll_cnt L xs false 4 (.inl (lo_tab 0 [40, 42, 44, 58, 72] 86)) := lk_tab (d0 := 82) (hi := 4) (offs := #[36, 38, 40, 54, 68]) (len := 36) (by decide +kernel) rfl rfl rfl
theorem k_110_40 (L : Nat) (xs : Nat → Int32) : ll_OK1 cX9_fits RX9 (some .boolean) false ll_mN ll_mR ll_mK ll_cnt L xs false 40 (.inl (lo_iload 41 1)) := lk_iload_n (k := 1) (by decide +kernel) rfl
theorem k_110_41 (L : Nat) (xs : Nat → Int32) : ll_OK1 cX9_fits RX9 (some .boolean) false ll_mN ll_mR ll_mK ll_cnt L xs false 41 (.inr (.inr 2)) := ⟨(fun h => by cases h), (fun h => by cases h), fun _ => ⟨(by decide +kernel), rfl⟩⟩
theorem k_110_42 (L : Nat) (xs : Nat → Int32) : ll_OK1 cX9_fits RX9 (some .boolean) false ll_mN ll_mR ll_mK ll_cnt L xs false 42 (.inl (lo_iload 43 2)) := lk_iload_n (k := 2) (by decide +kernel) rfl
theorem k_110_43 (L : Nat) (xs : Nat → Int32) : ll_OK1 cX9_fits RX9 (some .boolean) false ll_mN ll_mR ll_mK ll_cnt L xs false 43 (.inr (.inr 2)) := ⟨(fun h => by cases h), (fun h => by cases h), fun _ => ⟨(by decide +kernel), rfl⟩⟩
theorem k_110_44 (L : Nat) (xs : Nat → Int32) : ll_OK1 cX9_fits RX9 (some .boolean) false ll_mN ll_mR ll_mK ll_cnt L xs false 44 (.inl (lo_iload 45 1)) := lk_iload_n (k := 1) (by decide +kernel) rfl
theorem k_110_45 (L : Nat) (xs : Nat → Int32) : ll_OK1 cX9_fits RX9 (some .boolean) false ll_mN ll_mR ll_mK ll_cnt L xs false 45 (.inl (lo_if 56 48 (fun x => decide (x = 0)))) := lk_if_eq (off := 11) (by decide +kernel) rfl
theorem k_110_48 (L : Nat) (xs : Nat → Int32) : ll_OK1 cX9_fits RX9 (some .boolean) false ll_mN ll_mR ll_mK ll_cnt L xs false 48 (.inl (lo_iload 49 2)) := lk_iload_n (k := 2) (by decide +kernel) rfl
theorem k_110_49 (L : Nat) (xs : Nat → Int32) : ll_OK1 cX9_fits RX9 (some .boolean) false ll_mN ll_mR ll_mK ll_cnt L xs false 49 (.inl (lo_if 56 52 (fun x => decide (x = 0)))) := lk_if_eq (off := 7) (by decide +kernel) rfl
theorem k_110_52 (L : Nat) (xs : Nat → Int32) : ll_OK1 cX9_fits RX9 (some .boolean) false ll_mN ll_mR ll_mK ll_cnt L xs false 52 (.inl (lo_push 53 (.int 1))) := lk_iconst (n := 1) (by decide +kernel) (by decide)
theorem k_110_53 (L : Nat) (xs : Nat → Int32) : ll_OK1 cX9_fits RX9 (some .boolean) false ll_mN ll_mR ll_mK ll_cnt L xs false 53 (.inl (lo_goto 57)) := lk_goto (off := 4) (by decide +kernel) rfl
theorem k_110_56 (L : Nat) (xs : Nat → Int32) : ll_OK1 cX9_fits RX9 (some .boolean) false ll_mN ll_mR ll_mK ll_cnt L xs false 56 (.inl (lo_push 57 (.int 0))) := lk_iconst (n := 0) (by decide +kernel) (by decide)
theorem k_110_57 (L : Nat) (xs : Nat → Int32) : ll_OK1 cX9_fits RX9 (some .boolean) false ll_mN ll_mR ll_mK ll_cnt L xs false 57 (.inr (.inr 2)) := ⟨(fun h => by cases h), (fun h => by cases h), fun _ => ⟨(by decide +kernel), rfl⟩⟩
theorem k_110_58 (L : Nat) (xs : Nat → Int32) : ll_OK1 cX9_fits RX9 (some .boolean) false ll_mN ll_mR ll_mK ll_cnt L xs false 58 (.inl (lo_iload 59 1)) := lk_iload_n (k := 1) (by decide +kernel) rfl
theorem k_110_59 (L : Nat) (xs : Nat → Int32) : ll_OK1 cX9_fits RX9 (some .boolean) false ll_mN ll_mR ll_mK ll_cnt L xs false 59 (.inl (lo_if 70 62 (fun x => decide (x = 0)))) := lk_if_eq (off := 11) (by decide +kernel) rfl
theorem k_110_62 (L : Nat) (xs : Nat → Int32) : ll_OK1 cX9_fits RX9 (some .boolean) false ll_mN ll_mR ll_mK ll_cnt L xs false 62 (.inl (lo_iload 63 2)) := lk_iload_n (k := 2) (by decide +kernel) rfl
theorem k_110_63 (L : Nat) (xs : Nat → Int32) : ll_OK1 cX9_fits RX9 (some .boolean) false ll_mN ll_mR ll_mK ll_cnt L xs false 63 (.inl (lo_if 70 66 (fun x => decide (¬ x = 0)))) := lk_if_ne (off := 7) (by decide +kernel) rfl
theorem k_110_66 (L : Nat) (xs : Nat → Int32) : ll_OK1 cX9_fits RX9 (some .boolean) false ll_mN ll_mR ll_mK ll_cnt L xs false 66 (.inl (lo_push 67 (.int 1))) := lk_iconst (n := 1) (by decide +kernel) (by decide)
theorem k_110_67 (L : Nat) (xs : Nat → Int32) : ll_OK1 cX9_fits RX9 (some .boolean) false ll_mN ll_mR ll_mK ll_cnt L xs false 67 (.inl (lo_goto 71)) := lk_goto (off := 4) (by decide +kernel) rfl
theorem k_110_70 (L : Nat) (xs : Nat → Int32) : ll_OK1 cX9_fits RX9 (some .boolean) false ll_mN ll_mR ll_mK ll_cnt L xs false 70 (.inl (lo_push 71 (.int 0))) := lk_iconst (n := 0) (by decide +kernel) (by decide)
theorem k_110_71 (L : Nat) (xs : Nat → Int32) : ll_OK1 cX9_fits RX9 (some .boolean) false ll_mN ll_mR ll_mK ll_cnt L xs false 71 (.inr (.inr 2)) := ⟨(fun h => by cases h), (fun h => by cases h), fun _ => ⟨(by decide +kernel), rfl⟩⟩
theorem k_110_72 (L : Nat) (xs : Nat → Int32) : ll_OK1 cX9_fits RX9 (some .boolean) false ll_mN ll_mR ll_mK ll_cnt L xs false 72 (.inl (lo_iload 73 2)) := lk_iload_n (k := 2) (by decide +kernel) rfl
theorem k_110_73 (L : Nat) (xs : Nat → Int32) : ll_OK1 cX9_fits RX9 (some .boolean) false ll_mN ll_mR ll_mK ll_cnt L xs false 73 (.inl (lo_if 84 76 (fun x => decide (x = 0)))) := lk_if_eq (off := 11) (by decide +kernel) rfl
theorem k_110_76 (L : Nat) (xs : Nat → Int32) : ll_OK1 cX9_fits RX9 (some .boolean) false ll_mN ll_mR ll_mK ll_cnt L xs false 76 (.inl (lo_iload 77 1)) := lk_iload_n (k := 1) (by decide +kernel) rfl
theorem k_110_77 (L : Nat) (xs : Nat → Int32) : ll_OK1 cX9_fits RX9 (some .boolean) false ll_mN ll_mR ll_mK ll_cnt L xs false 77 (.inl (lo_if 84 80 (fun x => decide (¬ x = 0)))) := lk_if_ne (off := 7) (by decide +kernel) rfl
theorem k_110_80 (L : Nat) (xs : Nat → Int32) : ll_OK1 cX9_fits RX9 (some .boolean) false ll_mN ll_mR ll_mK ll_cnt L xs false 80 (.inl (lo_push 81 (.int 1))) := lk_iconst (n := 1) (by decide +kernel) (by decide)
theorem k_110_81 (L : Nat) (xs : Nat → Int32) : ll_OK1 cX9_fits RX9 (some .boolean) false ll_mN ll_mR ll_mK ll_cnt L xs false 81 (.inl (lo_goto 85)) := lk_goto (off := 4) (by decide +kernel) rfl
theorem k_110_84 (L : Nat) (xs : Nat → Int32) : ll_OK1 cX9_fits RX9 (some .boolean) false ll_mN ll_mR ll_mK ll_cnt L xs false 84 (.inl (lo_push 85 (.int 0))) := lk_iconst (n := 0) (by decide +kernel) (by decide)
theorem k_110_85 (L : Nat) (xs : Nat → Int32) : ll_OK1 cX9_fits RX9 (some .boolean) false ll_mN ll_mR ll_mK ll_cnt L xs false 85 (.inr (.inr 2)) := ⟨(fun h => by cases h), (fun h => by cases h), fun _ => ⟨(by decide +kernel), rfl⟩⟩
theorem k_110_86 (L : Nat) (xs : Nat → Int32) : ll_OK1 cX9_fits RX9 (some .boolean) false ll_mN ll_mR ll_mK ll_cnt L xs false 86 (.inl (lo_iload 87 1)) := lk_iload_n (k := 1) (by decide +kernel) rfl
theorem k_110_87 (L : Nat) (xs : Nat → Int32) : ll_OK1 cX9_fits RX9 (some .boolean) false ll_mN ll_mR ll_mK ll_cnt L xs false 87 (.inl (lo_if 98 90 (fun x => decide (¬ x = 0)))) := lk_if_ne (off := 11) (by decide +kernel) rfl
theorem k_110_90 (L : Nat) (xs : Nat → Int32) : ll_OK1 cX9_fits RX9 (some .boolean) false ll_mN ll_mR ll_mK ll_cnt L xs false 90 (.inl (lo_iload 91 2)) := lk_iload_n (k := 2) (by decide +kernel) rfl
theorem k_110_91 (L : Nat) (xs : Nat → Int32) : ll_OK1 cX9_fits RX9 (some .boolean) false ll_mN ll_mR ll_mK ll_cnt L xs false 91 (.inl (lo_if 98 94 (fun x => decide (¬ x = 0)))) := lk_if_ne (off := 7) (by decide +kernel) rfl
theorem k_110_94 (L : Nat) (xs : Nat → Int32) : ll_OK1 cX9_fits RX9 (some .boolean) false ll_mN ll_mR ll_mK ll_cnt L xs false 94 (.inl (lo_push 95 (.int 1))) := lk_iconst (n := 1) (by decide +kernel) (by decide)
theorem k_110_95 (L : Nat) (xs : Nat → Int32) : ll_OK1 cX9_fits RX9 (some .boolean) false ll_mN ll_mR ll_mK ll_cnt L xs false 95 (.inl (lo_goto 99)) := lk_goto (off := 4) (by decide +kernel) rfl
theorem k_110_98 (L : Nat) (xs : Nat → Int32) : ll_OK1 cX9_fits RX9 (some .boolean) false ll_mN ll_mR ll_mK ll_cnt L xs false 98 (.inl (lo_push 99 (.int 0))) := lk_iconst (n := 0) (by decide +kernel) (by decide)
theorem k_110_99 (L : Nat) (xs : Nat → Int32) : ll_OK1 cX9_fits RX9 (some .boolean) false ll_mN ll_mR ll_mK ll_cnt L xs false 99 (.inr (.inr 2)) := ⟨(fun h => by cases h), (fun h => by cases h), fun _ => ⟨(by decide +kernel), rfl⟩⟩
theorem ok_110 (L : Nat) (xs : Nat → Int32) : ∀ q ∈ cd_110, ll_OK1 cX9_fits RX9 (some .boolean) false ll_mN ll_mR ll_mK ll_cnt L xs false q.1 q.2 :=
  List.forall_mem_cons.mpr ⟨k_110_0 L xs, List.forall_mem_cons.mpr ⟨k_110_1 L xs, List.forall_mem_cons.mpr ⟨k_110_4 L xs, List.forall_mem_cons.mpr ⟨k_110_40 L xs, List.forall_mem_cons.mpr ⟨k_110_41 L xs, List.forall_mem_cons.mpr ⟨k_110_42 L xs, List.forall_mem_cons.mpr ⟨k_110_43 L xs, List.forall_mem_cons.mpr ⟨k_110_44 L xs, List.forall_mem_cons.mpr ⟨k_110_45 L xs, List.forall_mem_cons.mpr ⟨k_110_48 L xs, List.forall_mem_cons.mpr ⟨k_110_49 L xs, List.forall_mem_cons.mpr ⟨k_110_52 L xs, List.forall_mem_cons.mpr ⟨k_110_53 L xs, List.forall_mem_cons.mpr ⟨k_110_56 L xs, List.forall_mem_cons.mpr ⟨k_110_57 L xs, List.forall_mem_cons.mpr ⟨k_110_58 L xs, List.forall_mem_cons.mpr ⟨k_110_59 L xs, List.forall_mem_cons.mpr ⟨k_110_62 L xs, List.forall_mem_cons.mpr ⟨k_110_63 L xs, List.forall_mem_cons.mpr ⟨k_110_66 L xs, List.forall_mem_cons.mpr ⟨k_110_67 L xs, List.forall_mem_cons.mpr ⟨k_110_70 L xs, List.forall_mem_cons.mpr ⟨k_110_71 L xs, List.forall_mem_cons.mpr ⟨k_110_72 L xs, List.forall_mem_cons.mpr ⟨k_110_73 L xs, List.forall_mem_cons.mpr ⟨k_110_76 L xs, List.forall_mem_cons.mpr ⟨k_110_77 L xs, List.forall_mem_cons.mpr ⟨k_110_80 L xs, List.forall_mem_cons.mpr ⟨k_110_81 L xs, List.forall_mem_cons.mpr ⟨k_110_84 L xs, List.forall_mem_cons.mpr ⟨k_110_85 L xs, List.forall_mem_cons.mpr ⟨k_110_86 L xs, List.forall_mem_cons.mpr ⟨k_110_87 L xs, List.forall_mem_cons.mpr ⟨k_110_90 L xs, List.forall_mem_cons.mpr ⟨k_110_91 L xs, List.forall_mem_cons.mpr ⟨k_110_94 L xs, List.forall_mem_cons.mpr ⟨k_110_95 L xs, List.forall_mem_cons.mpr ⟨k_110_98 L xs, List.forall_mem_cons.mpr ⟨k_110_99 L xs, fun _ h => absurd h List.not_mem_nil⟩⟩⟩⟩⟩⟩⟩⟩⟩⟩⟩⟩⟩⟩⟩⟩⟩⟩⟩⟩⟩⟩⟩⟩⟩⟩⟩⟩⟩⟩⟩⟩⟩⟩⟩⟩⟩⟩⟩
/-- InclusionProver$WordCounter.allWords.(I)I -/
def cd_111 : List (Nat × ll_O) := [
  (0, .inl (lo_push 1 (.int 1))),
  (1, .inl (lo_istore 2 1)),
  (2, .inl (lo_push 3 (.int 0))),
  (3, .inl (lo_istore 4 2)),
  (4, .inl (lo_iload 5 2)),
  (5, .inl (lo_iload 6 0)),
  (6, .inl (lo_cmp 19 9 (fun x y => decide (y ≤ x)))),
  (9, .inl (lo_iload 10 1)),
  (10, .inl (lo_push 11 (.int 3))),
  (11, .inl (lo_bin 12 (fun x y => x * y))),
  (12, .inl (lo_istore 13 1)),
  (13, .inl (lo_iinc 16 2 1)),
  (16, .inl (lo_goto 4)),
  (19, .inl (lo_iload 20 1)),
  (20, .inr (.inr 1))]
theorem k_111_0 (L : Nat) (xs : Nat → Int32) : ll_OK1 cX9_allWords RX9 (some .int) false ll_mN ll_mR ll_mK ll_cnt L xs false 0 (.inl (lo_push 1 (.int 1))) := lk_iconst (n := 1) (by decide +kernel) (by decide)
theorem k_111_1 (L : Nat) (xs : Nat → Int32) : ll_OK1 cX9_allWords RX9 (some .int) false ll_mN ll_mR ll_mK ll_cnt L xs false 1 (.inl (lo_istore 2 1)) := lk_istore_n (k := 1) (by decide +kernel) rfl
theorem k_111_2 (L : Nat) (xs : Nat → Int32) : ll_OK1 cX9_allWords RX9 (some .int) false ll_mN ll_mR ll_mK ll_cnt L xs false 2 (.inl (lo_push 3 (.int 0))) := lk_iconst (n := 0) (by decide +kernel) (by decide)
theorem k_111_3 (L : Nat) (xs : Nat → Int32) : ll_OK1 cX9_allWords RX9 (some .int) false ll_mN ll_mR ll_mK ll_cnt L xs false 3 (.inl (lo_istore 4 2)) := lk_istore_n (k := 2) (by decide +kernel) rfl
theorem k_111_4 (L : Nat) (xs : Nat → Int32) : ll_OK1 cX9_allWords RX9 (some .int) false ll_mN ll_mR ll_mK ll_cnt L xs false 4 (.inl (lo_iload 5 2)) := lk_iload_n (k := 2) (by decide +kernel) rfl
theorem k_111_5 (L : Nat) (xs : Nat → Int32) : ll_OK1 cX9_allWords RX9 (some .int) false ll_mN ll_mR ll_mK ll_cnt L xs false 5 (.inl (lo_iload 6 0)) := lk_iload_n (k := 0) (by decide +kernel) rfl
theorem k_111_6 (L : Nat) (xs : Nat → Int32) : ll_OK1 cX9_allWords RX9 (some .int) false ll_mN ll_mR ll_mK ll_cnt L xs false 6 (.inl (lo_cmp 19 9 (fun x y => decide (y ≤ x)))) := lk_icmp_ge (off := 13) (by decide +kernel) rfl
theorem k_111_9 (L : Nat) (xs : Nat → Int32) : ll_OK1 cX9_allWords RX9 (some .int) false ll_mN ll_mR ll_mK ll_cnt L xs false 9 (.inl (lo_iload 10 1)) := lk_iload_n (k := 1) (by decide +kernel) rfl
theorem k_111_10 (L : Nat) (xs : Nat → Int32) : ll_OK1 cX9_allWords RX9 (some .int) false ll_mN ll_mR ll_mK ll_cnt L xs false 10 (.inl (lo_push 11 (.int 3))) := lk_iconst (n := 3) (by decide +kernel) (by decide)
theorem k_111_11 (L : Nat) (xs : Nat → Int32) : ll_OK1 cX9_allWords RX9 (some .int) false ll_mN ll_mR ll_mK ll_cnt L xs false 11 (.inl (lo_bin 12 (fun x y => x * y))) := lk_imul (by decide +kernel)
theorem k_111_12 (L : Nat) (xs : Nat → Int32) : ll_OK1 cX9_allWords RX9 (some .int) false ll_mN ll_mR ll_mK ll_cnt L xs false 12 (.inl (lo_istore 13 1)) := lk_istore_n (k := 1) (by decide +kernel) rfl
theorem k_111_13 (L : Nat) (xs : Nat → Int32) : ll_OK1 cX9_allWords RX9 (some .int) false ll_mN ll_mR ll_mK ll_cnt L xs false 13 (.inl (lo_iinc 16 2 1)) := lk_iinc (n := 1) (by decide +kernel) (by decide)
theorem k_111_16 (L : Nat) (xs : Nat → Int32) : ll_OK1 cX9_allWords RX9 (some .int) false ll_mN ll_mR ll_mK ll_cnt L xs false 16 (.inl (lo_goto 4)) := lk_goto (off := (-12)) (by decide +kernel) rfl
theorem k_111_19 (L : Nat) (xs : Nat → Int32) : ll_OK1 cX9_allWords RX9 (some .int) false ll_mN ll_mR ll_mK ll_cnt L xs false 19 (.inl (lo_iload 20 1)) := lk_iload_n (k := 1) (by decide +kernel) rfl
theorem k_111_20 (L : Nat) (xs : Nat → Int32) : ll_OK1 cX9_allWords RX9 (some .int) false ll_mN ll_mR ll_mK ll_cnt L xs false 20 (.inr (.inr 1)) := ⟨(fun h => by cases h), (fun _ => ⟨(by decide +kernel), rfl⟩), fun h => by cases h⟩
theorem ok_111 (L : Nat) (xs : Nat → Int32) : ∀ q ∈ cd_111, ll_OK1 cX9_allWords RX9 (some .int) false ll_mN ll_mR ll_mK ll_cnt L xs false q.1 q.2 :=
  List.forall_mem_cons.mpr ⟨k_111_0 L xs, List.forall_mem_cons.mpr ⟨k_111_1 L xs, List.forall_mem_cons.mpr ⟨k_111_2 L xs, List.forall_mem_cons.mpr ⟨k_111_3 L xs, List.forall_mem_cons.mpr ⟨k_111_4 L xs, List.forall_mem_cons.mpr ⟨k_111_5 L xs, List.forall_mem_cons.mpr ⟨k_111_6 L xs, List.forall_mem_cons.mpr ⟨k_111_9 L xs, List.forall_mem_cons.mpr ⟨k_111_10 L xs, List.forall_mem_cons.mpr ⟨k_111_11 L xs, List.forall_mem_cons.mpr ⟨k_111_12 L xs, List.forall_mem_cons.mpr ⟨k_111_13 L xs, List.forall_mem_cons.mpr ⟨k_111_16 L xs, List.forall_mem_cons.mpr ⟨k_111_19 L xs, List.forall_mem_cons.mpr ⟨k_111_20 L xs, fun _ h => absurd h List.not_mem_nil⟩⟩⟩⟩⟩⟩⟩⟩⟩⟩⟩⟩⟩⟩⟩
/-- InclusionProver$WordCounter.cellOf.(III)I -/
def cd_112 : List (Nat × ll_O) := [
  (0, .inl (lo_iload 1 0)),
  (1, .inl (lo_push 3 (.int (-1640531535)))),
  (3, .inl (lo_bin 4 (fun x y => x * y))),
  (4, .inl (lo_iload 5 1)),
  (5, .inl (lo_push 7 (.int (-2048144789)))),
  (7, .inl (lo_bin 8 (fun x y => x * y))),
  (8, .inl (lo_bin 9 (fun x y => x + y))),
  (9, .inl (lo_iload 10 2)),
  (10, .inl (lo_push 12 (.int 668265263))),
  (12, .inl (lo_bin 13 (fun x y => x * y))),
  (13, .inl (lo_bin 14 (fun x y => x + y))),
  (14, .inl (lo_istore 15 3)),
  (15, .inl (lo_iload 16 3)),
  (16, .inl (lo_iload 17 3)),
  (17, .inl (lo_push 19 (.int 15))),
  (19, .inl (lo_bin 20 (fun x y => (x.toUInt32 >>> (y.toUInt32 &&& Int32.toUInt32 31)).toInt32))),
  (20, .inl (lo_bin 21 (fun x y => x ^^^ y))),
  (21, .inl (lo_push 24 (.int 511))),
  (24, .inl (lo_bin 25 (fun x y => x &&& y))),
  (25, .inr (.inr 1))]
theorem k_112_0 (L : Nat) (xs : Nat → Int32) : ll_OK1 cX9_cellOf RX9 (some .int) false ll_mN ll_mR ll_mK ll_cnt L xs false 0 (.inl (lo_iload 1 0)) := lk_iload_n (k := 0) (by decide +kernel) rfl
theorem k_112_1 (L : Nat) (xs : Nat → Int32) : ll_OK1 cX9_cellOf RX9 (some .int) false ll_mN ll_mR ll_mK ll_cnt L xs false 1 (.inl (lo_push 3 (.int (-1640531535)))) := lk_ldc (ix := 85) (by decide +kernel) tb_433
theorem k_112_3 (L : Nat) (xs : Nat → Int32) : ll_OK1 cX9_cellOf RX9 (some .int) false ll_mN ll_mR ll_mK ll_cnt L xs false 3 (.inl (lo_bin 4 (fun x y => x * y))) := lk_imul (by decide +kernel)
theorem k_112_4 (L : Nat) (xs : Nat → Int32) : ll_OK1 cX9_cellOf RX9 (some .int) false ll_mN ll_mR ll_mK ll_cnt L xs false 4 (.inl (lo_iload 5 1)) := lk_iload_n (k := 1) (by decide +kernel) rfl
theorem k_112_5 (L : Nat) (xs : Nat → Int32) : ll_OK1 cX9_cellOf RX9 (some .int) false ll_mN ll_mR ll_mK ll_cnt L xs false 5 (.inl (lo_push 7 (.int (-2048144789)))) := lk_ldc (ix := 86) (by decide +kernel) tb_434
theorem k_112_7 (L : Nat) (xs : Nat → Int32) : ll_OK1 cX9_cellOf RX9 (some .int) false ll_mN ll_mR ll_mK ll_cnt L xs false 7 (.inl (lo_bin 8 (fun x y => x * y))) := lk_imul (by decide +kernel)
theorem k_112_8 (L : Nat) (xs : Nat → Int32) : ll_OK1 cX9_cellOf RX9 (some .int) false ll_mN ll_mR ll_mK ll_cnt L xs false 8 (.inl (lo_bin 9 (fun x y => x + y))) := lk_iadd (by decide +kernel)
theorem k_112_9 (L : Nat) (xs : Nat → Int32) : ll_OK1 cX9_cellOf RX9 (some .int) false ll_mN ll_mR ll_mK ll_cnt L xs false 9 (.inl (lo_iload 10 2)) := lk_iload_n (k := 2) (by decide +kernel) rfl
theorem k_112_10 (L : Nat) (xs : Nat → Int32) : ll_OK1 cX9_cellOf RX9 (some .int) false ll_mN ll_mR ll_mK ll_cnt L xs false 10 (.inl (lo_push 12 (.int 668265263))) := lk_ldc (ix := 87) (by decide +kernel) tb_435
theorem k_112_12 (L : Nat) (xs : Nat → Int32) : ll_OK1 cX9_cellOf RX9 (some .int) false ll_mN ll_mR ll_mK ll_cnt L xs false 12 (.inl (lo_bin 13 (fun x y => x * y))) := lk_imul (by decide +kernel)
theorem k_112_13 (L : Nat) (xs : Nat → Int32) : ll_OK1 cX9_cellOf RX9 (some .int) false ll_mN ll_mR ll_mK ll_cnt L xs false 13 (.inl (lo_bin 14 (fun x y => x + y))) := lk_iadd (by decide +kernel)
theorem k_112_14 (L : Nat) (xs : Nat → Int32) : ll_OK1 cX9_cellOf RX9 (some .int) false ll_mN ll_mR ll_mK ll_cnt L xs false 14 (.inl (lo_istore 15 3)) := lk_istore_n (k := 3) (by decide +kernel) rfl
theorem k_112_15 (L : Nat) (xs : Nat → Int32) : ll_OK1 cX9_cellOf RX9 (some .int) false ll_mN ll_mR ll_mK ll_cnt L xs false 15 (.inl (lo_iload 16 3)) := lk_iload_n (k := 3) (by decide +kernel) rfl
theorem k_112_16 (L : Nat) (xs : Nat → Int32) : ll_OK1 cX9_cellOf RX9 (some .int) false ll_mN ll_mR ll_mK ll_cnt L xs false 16 (.inl (lo_iload 17 3)) := lk_iload_n (k := 3) (by decide +kernel) rfl
theorem k_112_17 (L : Nat) (xs : Nat → Int32) : ll_OK1 cX9_cellOf RX9 (some .int) false ll_mN ll_mR ll_mK ll_cnt L xs false 17 (.inl (lo_push 19 (.int 15))) := lk_bipush (n := 15) (by decide +kernel) (by decide)
theorem k_112_19 (L : Nat) (xs : Nat → Int32) : ll_OK1 cX9_cellOf RX9 (some .int) false ll_mN ll_mR ll_mK ll_cnt L xs false 19 (.inl (lo_bin 20 (fun x y => (x.toUInt32 >>> (y.toUInt32 &&& Int32.toUInt32 31)).toInt32))) := lk_iushr (by decide +kernel)
theorem k_112_20 (L : Nat) (xs : Nat → Int32) : ll_OK1 cX9_cellOf RX9 (some .int) false ll_mN ll_mR ll_mK ll_cnt L xs false 20 (.inl (lo_bin 21 (fun x y => x ^^^ y))) := lk_ixor (by decide +kernel)
theorem k_112_21 (L : Nat) (xs : Nat → Int32) : ll_OK1 cX9_cellOf RX9 (some .int) false ll_mN ll_mR ll_mK ll_cnt L xs false 21 (.inl (lo_push 24 (.int 511))) := lk_sipush (n := 511) (by decide +kernel) (by decide)
theorem k_112_24 (L : Nat) (xs : Nat → Int32) : ll_OK1 cX9_cellOf RX9 (some .int) false ll_mN ll_mR ll_mK ll_cnt L xs false 24 (.inl (lo_bin 25 (fun x y => x &&& y))) := lk_iand (by decide +kernel)
theorem k_112_25 (L : Nat) (xs : Nat → Int32) : ll_OK1 cX9_cellOf RX9 (some .int) false ll_mN ll_mR ll_mK ll_cnt L xs false 25 (.inr (.inr 1)) := ⟨(fun h => by cases h), (fun _ => ⟨(by decide +kernel), rfl⟩), fun h => by cases h⟩
theorem ok_112 (L : Nat) (xs : Nat → Int32) : ∀ q ∈ cd_112, ll_OK1 cX9_cellOf RX9 (some .int) false ll_mN ll_mR ll_mK ll_cnt L xs false q.1 q.2 :=
  List.forall_mem_cons.mpr ⟨k_112_0 L xs, List.forall_mem_cons.mpr ⟨k_112_1 L xs, List.forall_mem_cons.mpr ⟨k_112_3 L xs, List.forall_mem_cons.mpr ⟨k_112_4 L xs, List.forall_mem_cons.mpr ⟨k_112_5 L xs, List.forall_mem_cons.mpr ⟨k_112_7 L xs, List.forall_mem_cons.mpr ⟨k_112_8 L xs, List.forall_mem_cons.mpr ⟨k_112_9 L xs, List.forall_mem_cons.mpr ⟨k_112_10 L xs, List.forall_mem_cons.mpr ⟨k_112_12 L xs, List.forall_mem_cons.mpr ⟨k_112_13 L xs, List.forall_mem_cons.mpr ⟨k_112_14 L xs, List.forall_mem_cons.mpr ⟨k_112_15 L xs, List.forall_mem_cons.mpr ⟨k_112_16 L xs, List.forall_mem_cons.mpr ⟨k_112_17 L xs, List.forall_mem_cons.mpr ⟨k_112_19 L xs, List.forall_mem_cons.mpr ⟨k_112_20 L xs, List.forall_mem_cons.mpr ⟨k_112_21 L xs, List.forall_mem_cons.mpr ⟨k_112_24 L xs, List.forall_mem_cons.mpr ⟨k_112_25 L xs, fun _ h => absurd h List.not_mem_nil⟩⟩⟩⟩⟩⟩⟩⟩⟩⟩⟩⟩⟩⟩⟩⟩⟩⟩⟩⟩
/-- InclusionProver.<init>.()V -/
def cd_113 : List (Nat × ll_O) := [
  (0, .inl (lo_aload 1 0)),
  (1, .inl (lo_init 4)),
  (4, .inl (lo_new 7 8 10 [.null, .null, .null, .null, .null, .null, .null, .int 0, .int 0, .int 0])),
  (7, .inl (lo_dup 8)),
  (8, .inr (.inl (79, 1, 11))),
  (11, .inl (lo_astore 12 1)),
  (12, .inl (lo_aload 13 0)),
  (13, .inl (lo_new 16 7 2 [.null, .int 0])),
  (16, .inl (lo_dup 17)),
  (17, .inl (lo_push 19 (.int 68))),
  (19, .inr (.inl (70, 2, 22))),
  (22, .inl (lo_putf 25 10 5 2)),
  (25, .inl (lo_aload 26 0)),
  (26, .inl (lo_new 29 2 5 [.null, .null, .int 0, .int 0, .int 0])),
  (29, .inl (lo_dup 30)),
  (30, .inl (lo_aload 31 1)),
  (31, .inl (lo_aload 32 0)),
  (32, .inl (lo_getf 35 10 5)),
  (35, .inr (.inl (21, 3, 38))),
  (38, .inl (lo_putf 41 10 0 2)),
  (41, .inl (lo_aload 42 0)),
  (42, .inl (lo_new 45 6 8 [.null, .null, .null, .null, .null, .int 0, .int 0, .int 0])),
  (45, .inl (lo_dup 46)),
  (46, .inl (lo_aload 47 1)),
  (47, .inr (.inl (59, 2, 50))),
  (50, .inl (lo_putf 53 10 1 2)),
  (53, .inl (lo_aload 54 0)),
  (54, .inl (lo_push 55 (.int 2))),
  (55, .inl (lo_anew 58 5)),
  (58, .inl (lo_dup 59)),
  (59, .inl (lo_push 60 (.int 0))),
  (60, .inl (lo_new 63 5 11 [.null, .null, .null, .null, .null, .null, .int 0, .int 0, .int 0, .int 0, .int 0])),
  (63, .inl (lo_dup 64)),
  (64, .inr (.inl (38, 1, 67))),
  (67, .inl (lo_aast 68)),
  (68, .inl (lo_dup 69)),
  (69, .inl (lo_push 70 (.int 1))),
  (70, .inl (lo_new 73 5 11 [.null, .null, .null, .null, .null, .null, .int 0, .int 0, .int 0, .int 0, .int 0])),
  (73, .inl (lo_dup 74)),
  (74, .inr (.inl (38, 1, 77))),
  (77, .inl (lo_aast 78)),
  (78, .inl (lo_putf 81 10 6 2)),
  (81, .inl (lo_aload 82 0)),
  (82, .inl (lo_new 85 1 12 [.null, .null, .null, .null, .null, .null, .null, .null, .int 0, .int 0, .int 0, .int 0])),
  (85, .inl (lo_dup 86)),
  (86, .inr (.inl (8, 1, 89))),
  (89, .inl (lo_putf 92 10 7 2)),
  (92, .inl (lo_aload 93 0)),
  (93, .inl (lo_new 96 4 10 [.null, .null, .null, .null, .null, .null, .null, .null, .null, .null])),
  (96, .inl (lo_dup 97)),
  (97, .inl (lo_aload 98 0)),
  (98, .inl (lo_getf 101 10 6)),
  (101, .inl (lo_push 102 (.int 0))),
  (102, .inl (lo_aald 103)),
  (103, .inl (lo_aload 104 0)),
  (104, .inl (lo_getf 107 10 6)),
  (107, .inl (lo_push 108 (.int 1))),
  (108, .inl (lo_aald 109)),
  (109, .inl (lo_aload 110 0)),
  (110, .inl (lo_getf 113 10 7)),
  (113, .inr (.inl (31, 4, 116))),
  (116, .inl (lo_putf 119 10 2 2)),
  (119, .inl (lo_aload 120 0)),
  (120, .inl (lo_new 123 0 7 [.null, .null, .null, .int 0, .int 0, .int 0, .int 0])),
  (123, .inl (lo_dup 124)),
  (124, .inl (lo_aload 125 0)),
  (125, .inl (lo_getf 128 10 6)),
  (128, .inl (lo_push 129 (.int 0))),
  (129, .inl (lo_aald 130)),
  (130, .inl (lo_aload 131 0)),
  (131, .inl (lo_getf 134 10 6)),
  (134, .inl (lo_push 135 (.int 1))),
  (135, .inl (lo_aald 136)),
  (136, .inl (lo_aload 137 0)),
  (137, .inl (lo_getf 140 10 7)),
  (140, .inr (.inl (0, 4, 143))),
  (143, .inl (lo_putf 146 10 3 2)),
  (146, .inl (lo_aload 147 0)),
  (147, .inl (lo_new 150 9 7 [.null, .null, .null, .null, .null, .null, .int 0])),
  (150, .inl (lo_dup 151)),
  (151, .inl (lo_aload 152 0)),
  (152, .inl (lo_getf 155 10 6)),
  (155, .inl (lo_push 156 (.int 0))),
  (156, .inl (lo_aald 157)),
  (157, .inl (lo_aload 158 0)),
  (158, .inl (lo_getf 161 10 6)),
  (161, .inl (lo_push 162 (.int 1))),
  (162, .inl (lo_aald 163)),
  (163, .inr (.inl (102, 3, 166))),
  (166, .inl (lo_putf 169 10 4 2)),
  (169, .inl (lo_aload 170 0)),
  (170, .inl (lo_new 173 3 5 [.null, .null, .null, .null, .int 0])),
  (173, .inl (lo_dup 174)),
  (174, .inr (.inl (29, 1, 177))),
  (177, .inl (lo_putf 180 10 8 2)),
  (180, .inl (lo_aload 181 0)),
  (181, .inl (lo_push 182 (.int 2))),
  (182, .inl (lo_anew 185 3)),
  (185, .inl (lo_dup 186)),
  (186, .inl (lo_push 187 (.int 0))),
  (187, .inl (lo_new 190 3 5 [.null, .null, .null, .null, .int 0])),
  (190, .inl (lo_dup 191)),
  (191, .inr (.inl (29, 1, 194))),
  (194, .inl (lo_aast 195)),
  (195, .inl (lo_dup 196)),
  (196, .inl (lo_push 197 (.int 1))),
  (197, .inl (lo_new 200 3 5 [.null, .null, .null, .null, .int 0])),
  (200, .inl (lo_dup 201)),
  (201, .inr (.inl (29, 1, 204))),
  (204, .inl (lo_aast 205)),
  (205, .inl (lo_putf 208 10 9 2)),
  (208, .inl (lo_aload 209 0)),
  (209, .inl (lo_push 210 (.int 2))),
  (210, .inl (lo_newa 212 1)),
  (212, .inl (lo_putf 215 10 10 2)),
  (215, .inl (lo_push 216 (.int 0))),
  (216, .inl (lo_istore 217 2)),
  (217, .inl (lo_iload 218 2)),
  (218, .inl (lo_push 219 (.int 2))),
  (219, .inl (lo_cmp 245 222 (fun x y => decide (y ≤ x)))),
  (222, .inl (lo_aload 223 0)),
  (223, .inl (lo_getf 226 10 1)),
  (226, .inl (lo_push 227 (.int 0))),
  (227, .inl (lo_aload 228 0)),
  (228, .inl (lo_getf 231 10 8)),
  (231, .inl (lo_getf 234 3 1)),
  (234, .inl (lo_iload 235 2)),
  (235, .inl (lo_aald 236)),
  (236, .inr (.inl (61, 3, 239))),
  (239, .inl (lo_iinc 242 2 1)),
  (242, .inl (lo_goto 217)),
  (245, .inl (lo_push 246 (.int 0))),
  (246, .inl (lo_istore 247 2)),
  (247, .inl (lo_iload 248 2)),
  (248, .inl (lo_push 249 (.int 4))),
  (249, .inl (lo_cmp 282 252 (fun x y => decide (y ≤ x)))),
  (252, .inl (lo_aload 253 0)),
  (253, .inl (lo_getf 256 10 8)),
  (256, .inl (lo_getf 259 3 2)),
  (259, .inl (lo_iload 260 2)),
  (260, .inl (lo_aald 261)),
  (261, .inl (lo_aload 262 0)),
  (262, .inl (lo_getf 265 10 8)),
  (265, .inl (lo_getf 268 3 1)),
  (268, .inl (lo_push 269 (.int 0))),
  (269, .inl (lo_aald 270)),
  (270, .inl (lo_getf 273 5 0)),
  (273, .inr (.inl (75, 2, 276))),
  (276, .inl (lo_iinc 279 2 1)),
  (279, .inl (lo_goto 247)),
  (282, .inr (.inr 0))]
theorem k_113_0 (L : Nat) (xs : Nat → Int32) : ll_OK1 cX10_init RX10 none true ll_mN ll_mR ll_mK ll_cnt L xs false 0 (.inl (lo_aload 1 0)) := lk_aload_n (k := 0) (by decide +kernel) rfl
theorem k_113_1 (L : Nat) (xs : Nat → Int32) : ll_OK1 cX10_init RX10 none true ll_mN ll_mR ll_mK ll_cnt L xs false 1 (.inl (lo_init 4)) := lk_init (ix := 3) (by decide +kernel) tb_436 tb_1 tb_2
theorem k_113_4 (L : Nat) (xs : Nat → Int32) : ll_OK1 cX10_init RX10 none true ll_mN ll_mR ll_mK ll_cnt L xs false 4 (.inl (lo_new 7 8 10 [.null, .null, .null, .null, .null, .null, .null, .int 0, .int 0, .int 0])) := lk_new (ix := 9) (ci := 8) (N := 10) (C := RX8) (T := TX8) (ty0 := tyX8) (by decide +kernel) rfl in_8 tyX8_ok tb_437 tb_438 tb_439 rfl (by decide +kernel) (by decide +kernel)
theorem k_113_7 (L : Nat) (xs : Nat → Int32) : ll_OK1 cX10_init RX10 none true ll_mN ll_mR ll_mK ll_cnt L xs false 7 (.inl (lo_dup 8)) := lk_dup (by decide +kernel)
theorem k_113_8 (L : Nat) (xs : Nat → Int32) : ll_OK1 cX10_init RX10 none true ll_mN ll_mR ll_mK ll_cnt L xs false 8 (.inr (.inl (79, 1, 11))) := ⟨rfl, by decide, by rw [mN_79, mK_79, mR_79]; exact lj_i 11 0 8 (by decide +kernel) (Or.inl tb_440) tb_441 rfl rfl rfl (by decide +kernel) rfl⟩
theorem k_113_11 (L : Nat) (xs : Nat → Int32) : ll_OK1 cX10_init RX10 none true ll_mN ll_mR ll_mK ll_cnt L xs false 11 (.inl (lo_astore 12 1)) := lk_astore_n (k := 1) (by decide +kernel) rfl
theorem k_113_12 (L : Nat) (xs : Nat → Int32) : ll_OK1 cX10_init RX10 none true ll_mN ll_mR ll_mK ll_cnt L xs false 12 (.inl (lo_aload 13 0)) := lk_aload_n (k := 0) (by decide +kernel) rfl
theorem k_113_13 (L : Nat) (xs : Nat → Int32) : ll_OK1 cX10_init RX10 none true ll_mN ll_mR ll_mK ll_cnt L xs false 13 (.inl (lo_new 16 7 2 [.null, .int 0])) := lk_new (ix := 12) (ci := 7) (N := 2) (C := RX7) (T := TX7) (ty0 := tyX7) (by decide +kernel) rfl in_7 tyX7_ok tb_442 tb_69 tb_70 rfl (by decide +kernel) (by decide +kernel)
theorem k_113_16 (L : Nat) (xs : Nat → Int32) : ll_OK1 cX10_init RX10 none true ll_mN ll_mR ll_mK ll_cnt L xs false 16 (.inl (lo_dup 17)) := lk_dup (by decide +kernel)
theorem k_113_17 (L : Nat) (xs : Nat → Int32) : ll_OK1 cX10_init RX10 none true ll_mN ll_mR ll_mK ll_cnt L xs false 17 (.inl (lo_push 19 (.int 68))) := lk_bipush (n := 68) (by decide +kernel) (by decide)
theorem k_113_19 (L : Nat) (xs : Nat → Int32) : ll_OK1 cX10_init RX10 none true ll_mN ll_mR ll_mK ll_cnt L xs false 19 (.inr (.inl (70, 2, 22))) := ⟨rfl, by decide, by rw [mN_70, mK_70, mR_70]; exact lj_i 14 1 7 (by decide +kernel) (Or.inl tb_443) tb_72 rfl rfl rfl (by decide +kernel) rfl⟩
theorem k_113_22 (L : Nat) (xs : Nat → Int32) : ll_OK1 cX10_init RX10 none true ll_mN ll_mR ll_mK ll_cnt L xs false 22 (.inl (lo_putf 25 10 5 2)) := lk_putf (ix := 17) (ci := 10) (k := 5) (C := RX10) (T := TX10) (N := 11) (ty0 := tyX10) (by decide +kernel) rfl in_10 tyX10_ok nmX10 (by decide) tb_444 (fun B adr v w h1 h2 => ll_fit_obj (B := B) (adr := adr) h1 h2) (Or.inr ⟨rfl, rfl, rfl⟩)
theorem k_113_25 (L : Nat) (xs : Nat → Int32) : ll_OK1 cX10_init RX10 none true ll_mN ll_mR ll_mK ll_cnt L xs false 25 (.inl (lo_aload 26 0)) := lk_aload_n (k := 0) (by decide +kernel) rfl
theorem k_113_26 (L : Nat) (xs : Nat → Int32) : ll_OK1 cX10_init RX10 none true ll_mN ll_mR ll_mK ll_cnt L xs false 26 (.inl (lo_new 29 2 5 [.null, .null, .int 0, .int 0, .int 0])) := lk_new (ix := 21) (ci := 2) (N := 5) (C := RX2) (T := TX2) (ty0 := tyX2) (by decide +kernel) rfl in_2 tyX2_ok tb_445 tb_446 tb_447 rfl (by decide +kernel) (by decide +kernel)
theorem k_113_29 (L : Nat) (xs : Nat → Int32) : ll_OK1 cX10_init RX10 none true ll_mN ll_mR ll_mK ll_cnt L xs false 29 (.inl (lo_dup 30)) := lk_dup (by decide +kernel)
theorem k_113_30 (L : Nat) (xs : Nat → Int32) : ll_OK1 cX10_init RX10 none true ll_mN ll_mR ll_mK ll_cnt L xs false 30 (.inl (lo_aload 31 1)) := lk_aload_n (k := 1) (by decide +kernel) rfl
theorem k_113_31 (L : Nat) (xs : Nat → Int32) : ll_OK1 cX10_init RX10 none true ll_mN ll_mR ll_mK ll_cnt L xs false 31 (.inl (lo_aload 32 0)) := lk_aload_n (k := 0) (by decide +kernel) rfl
theorem k_113_32 (L : Nat) (xs : Nat → Int32) : ll_OK1 cX10_init RX10 none true ll_mN ll_mR ll_mK ll_cnt L xs false 32 (.inl (lo_getf 35 10 5)) := lk_getf (ix := 17) (ci := 10) (k := 5) (C := RX10) (T := TX10) (N := 11) (by decide +kernel) rfl in_10 (by decide) tb_444
theorem k_113_35 (L : Nat) (xs : Nat → Int32) : ll_OK1 cX10_init RX10 none true ll_mN ll_mR ll_mK ll_cnt L xs false 35 (.inr (.inl (21, 3, 38))) := ⟨rfl, by decide, by rw [mN_21, mK_21, mR_21]; exact lj_i 23 2 2 (by decide +kernel) (Or.inl tb_448) tb_449 rfl rfl rfl (by decide +kernel) rfl⟩
theorem k_113_38 (L : Nat) (xs : Nat → Int32) : ll_OK1 cX10_init RX10 none true ll_mN ll_mR ll_mK ll_cnt L xs false 38 (.inl (lo_putf 41 10 0 2)) := lk_putf (ix := 26) (ci := 10) (k := 0) (C := RX10) (T := TX10) (N := 11) (ty0 := tyX10) (by decide +kernel) rfl in_10 tyX10_ok nmX10 (by decide) tb_450 (fun B adr v w h1 h2 => ll_fit_obj (B := B) (adr := adr) h1 h2) (Or.inr ⟨rfl, rfl, rfl⟩)
theorem k_113_41 (L : Nat) (xs : Nat → Int32) : ll_OK1 cX10_init RX10 none true ll_mN ll_mR ll_mK ll_cnt L xs false 41 (.inl (lo_aload 42 0)) := lk_aload_n (k := 0) (by decide +kernel) rfl
theorem k_113_42 (L : Nat) (xs : Nat → Int32) : ll_OK1 cX10_init RX10 none true ll_mN ll_mR ll_mK ll_cnt L xs false 42 (.inl (lo_new 45 6 8 [.null, .null, .null, .null, .null, .int 0, .int 0, .int 0])) := lk_new (ix := 30) (ci := 6) (N := 8) (C := RX6) (T := TX6) (ty0 := tyX6) (by decide +kernel) rfl in_6 tyX6_ok tb_451 tb_452 tb_453 rfl (by decide +kernel) (by decide +kernel)
theorem k_113_45 (L : Nat) (xs : Nat → Int32) : ll_OK1 cX10_init RX10 none true ll_mN ll_mR ll_mK ll_cnt L xs false 45 (.inl (lo_dup 46)) := lk_dup (by decide +kernel)
theorem k_113_46 (L : Nat) (xs : Nat → Int32) : ll_OK1 cX10_init RX10 none true ll_mN ll_mR ll_mK ll_cnt L xs false 46 (.inl (lo_aload 47 1)) := lk_aload_n (k := 1) (by decide +kernel) rfl
theorem k_113_47 (L : Nat) (xs : Nat → Int32) : ll_OK1 cX10_init RX10 none true ll_mN ll_mR ll_mK ll_cnt L xs false 47 (.inr (.inl (59, 2, 50))) := ⟨rfl, by decide, by rw [mN_59, mK_59, mR_59]; exact lj_i 32 1 6 (by decide +kernel) (Or.inl tb_454) tb_455 rfl rfl rfl (by decide +kernel) rfl⟩
theorem k_113_50 (L : Nat) (xs : Nat → Int32) : ll_OK1 cX10_init RX10 none true ll_mN ll_mR ll_mK ll_cnt L xs false 50 (.inl (lo_putf 53 10 1 2)) := lk_putf (ix := 35) (ci := 10) (k := 1) (C := RX10) (T := TX10) (N := 11) (ty0 := tyX10) (by decide +kernel) rfl in_10 tyX10_ok nmX10 (by decide) tb_456 (fun B adr v w h1 h2 => ll_fit_obj (B := B) (adr := adr) h1 h2) (Or.inr ⟨rfl, rfl, rfl⟩)
theorem k_113_53 (L : Nat) (xs : Nat → Int32) : ll_OK1 cX10_init RX10 none true ll_mN ll_mR ll_mK ll_cnt L xs false 53 (.inl (lo_aload 54 0)) := lk_aload_n (k := 0) (by decide +kernel) rfl
theorem k_113_54 (L : Nat) (xs : Nat → Int32) : ll_OK1 cX10_init RX10 none true ll_mN ll_mR ll_mK ll_cnt L xs false 54 (.inl (lo_push 55 (.int 2))) := lk_iconst (n := 2) (by decide +kernel) (by decide)
theorem k_113_55 (L : Nat) (xs : Nat → Int32) : ll_OK1 cX10_init RX10 none true ll_mN ll_mR ll_mK ll_cnt L xs false 55 (.inl (lo_anew 58 5)) := lk_anew (ix := 39) (t := 5) (by decide +kernel) tb_457 (by decide +kernel)
theorem k_113_58 (L : Nat) (xs : Nat → Int32) : ll_OK1 cX10_init RX10 none true ll_mN ll_mR ll_mK ll_cnt L xs false 58 (.inl (lo_dup 59)) := lk_dup (by decide +kernel)
theorem k_113_59 (L : Nat) (xs : Nat → Int32) : ll_OK1 cX10_init RX10 none true ll_mN ll_mR ll_mK ll_cnt L xs false 59 (.inl (lo_push 60 (.int 0))) := lk_iconst (n := 0) (by decide +kernel) (by decide)
theorem k_113_60 (L : Nat) (xs : Nat → Int32) : ll_OK1 cX10_init RX10 none true ll_mN ll_mR ll_mK ll_cnt L xs false 60 (.inl (lo_new 63 5 11 [.null, .null, .null, .null, .null, .null, .int 0, .int 0, .int 0, .int 0, .int 0])) := lk_new (ix := 39) (ci := 5) (N := 11) (C := RX5) (T := TX5) (ty0 := tyX5) (by decide +kernel) rfl in_5 tyX5_ok tb_458 tb_148 tb_149 rfl (by decide +kernel) (by decide +kernel)
theorem k_113_63 (L : Nat) (xs : Nat → Int32) : ll_OK1 cX10_init RX10 none true ll_mN ll_mR ll_mK ll_cnt L xs false 63 (.inl (lo_dup 64)) := lk_dup (by decide +kernel)
theorem k_113_64 (L : Nat) (xs : Nat → Int32) : ll_OK1 cX10_init RX10 none true ll_mN ll_mR ll_mK ll_cnt L xs false 64 (.inr (.inl (38, 1, 67))) := ⟨rfl, by decide, by rw [mN_38, mK_38, mR_38]; exact lj_i 41 0 5 (by decide +kernel) (Or.inr ⟨"InclusionProver", by decide +kernel⟩) tb_150 rfl rfl rfl (by decide +kernel) rfl⟩
theorem k_113_67 (L : Nat) (xs : Nat → Int32) : ll_OK1 cX10_init RX10 none true ll_mN ll_mR ll_mK ll_cnt L xs false 67 (.inl (lo_aast 68)) := lk_aast (by decide +kernel)
theorem k_113_68 (L : Nat) (xs : Nat → Int32) : ll_OK1 cX10_init RX10 none true ll_mN ll_mR ll_mK ll_cnt L xs false 68 (.inl (lo_dup 69)) := lk_dup (by decide +kernel)
theorem k_113_69 (L : Nat) (xs : Nat → Int32) : ll_OK1 cX10_init RX10 none true ll_mN ll_mR ll_mK ll_cnt L xs false 69 (.inl (lo_push 70 (.int 1))) := lk_iconst (n := 1) (by decide +kernel) (by decide)
theorem k_113_70 (L : Nat) (xs : Nat → Int32) : ll_OK1 cX10_init RX10 none true ll_mN ll_mR ll_mK ll_cnt L xs false 70 (.inl (lo_new 73 5 11 [.null, .null, .null, .null, .null, .null, .int 0, .int 0, .int 0, .int 0, .int 0])) := lk_new (ix := 39) (ci := 5) (N := 11) (C := RX5) (T := TX5) (ty0 := tyX5) (by decide +kernel) rfl in_5 tyX5_ok tb_458 tb_148 tb_149 rfl (by decide +kernel) (by decide +kernel)
theorem k_113_73 (L : Nat) (xs : Nat → Int32) : ll_OK1 cX10_init RX10 none true ll_mN ll_mR ll_mK ll_cnt L xs false 73 (.inl (lo_dup 74)) := lk_dup (by decide +kernel)
theorem k_113_74 (L : Nat) (xs : Nat → Int32) : ll_OK1 cX10_init RX10 none true ll_mN ll_mR ll_mK ll_cnt L xs false 74 (.inr (.inl (38, 1, 77))) := ⟨rfl, by decide, by rw [mN_38, mK_38, mR_38]; exact lj_i 41 0 5 (by decide +kernel) (Or.inr ⟨"InclusionProver", by decide +kernel⟩) tb_150 rfl rfl rfl (by decide +kernel) rfl⟩
theorem k_113_77 (L : Nat) (xs : Nat → Int32) : ll_OK1 cX10_init RX10 none true ll_mN ll_mR ll_mK ll_cnt L xs false 77 (.inl (lo_aast 78)) := lk_aast (by decide +kernel)
theorem k_113_78 (L : Nat) (xs : Nat → Int32) : ll_OK1 cX10_init RX10 none true ll_mN ll_mR ll_mK ll_cnt L xs false 78 (.inl (lo_putf 81 10 6 2)) := lk_putf (ix := 42) (ci := 10) (k := 6) (C := RX10) (T := TX10) (N := 11) (ty0 := tyX10) (by decide +kernel) rfl in_10 tyX10_ok nmX10 (by decide) tb_459 (fun B adr v w h1 h2 => ll_fit_arr (B := B) (adr := adr) h1 h2) (Or.inr ⟨rfl, rfl, rfl⟩)
theorem k_113_81 (L : Nat) (xs : Nat → Int32) : ll_OK1 cX10_init RX10 none true ll_mN ll_mR ll_mK ll_cnt L xs false 81 (.inl (lo_aload 82 0)) := lk_aload_n (k := 0) (by decide +kernel) rfl
theorem k_113_82 (L : Nat) (xs : Nat → Int32) : ll_OK1 cX10_init RX10 none true ll_mN ll_mR ll_mK ll_cnt L xs false 82 (.inl (lo_new 85 1 12 [.null, .null, .null, .null, .null, .null, .null, .null, .int 0, .int 0, .int 0, .int 0])) := lk_new (ix := 46) (ci := 1) (N := 12) (C := RX1) (T := TX1) (ty0 := tyX1) (by decide +kernel) rfl in_1 tyX1_ok tb_460 tb_155 tb_156 rfl (by decide +kernel) (by decide +kernel)
theorem k_113_85 (L : Nat) (xs : Nat → Int32) : ll_OK1 cX10_init RX10 none true ll_mN ll_mR ll_mK ll_cnt L xs false 85 (.inl (lo_dup 86)) := lk_dup (by decide +kernel)
theorem k_113_86 (L : Nat) (xs : Nat → Int32) : ll_OK1 cX10_init RX10 none true ll_mN ll_mR ll_mK ll_cnt L xs false 86 (.inr (.inl (8, 1, 89))) := ⟨rfl, by decide, by rw [mN_8, mK_8, mR_8]; exact lj_i 48 0 1 (by decide +kernel) (Or.inr ⟨"InclusionProver", by decide +kernel⟩) tb_157 rfl rfl rfl (by decide +kernel) rfl⟩
theorem k_113_89 (L : Nat) (xs : Nat → Int32) : ll_OK1 cX10_init RX10 none true ll_mN ll_mR ll_mK ll_cnt L xs false 89 (.inl (lo_putf 92 10 7 2)) := lk_putf (ix := 49) (ci := 10) (k := 7) (C := RX10) (T := TX10) (N := 11) (ty0 := tyX10) (by decide +kernel) rfl in_10 tyX10_ok nmX10 (by decide) tb_461 (fun B adr v w h1 h2 => ll_fit_obj (B := B) (adr := adr) h1 h2) (Or.inr ⟨rfl, rfl, rfl⟩)
theorem k_113_92 (L : Nat) (xs : Nat → Int32) : ll_OK1 cX10_init RX10 none true ll_mN ll_mR ll_mK ll_cnt L xs false 92 (.inl (lo_aload 93 0)) := lk_aload_n (k := 0) (by decide +kernel) rfl
theorem k_113_93 (L : Nat) (xs : Nat → Int32) : ll_OK1 cX10_init RX10 none true ll_mN ll_mR ll_mK ll_cnt L xs false 93 (.inl (lo_new 96 4 10 [.null, .null, .null, .null, .null, .null, .null, .null, .null, .null])) := lk_new (ix := 53) (ci := 4) (N := 10) (C := RX4) (T := TX4) (ty0 := tyX4) (by decide +kernel) rfl in_4 tyX4_ok tb_462 tb_463 tb_464 rfl (by decide +kernel) (by decide +kernel)
theorem k_113_96 (L : Nat) (xs : Nat → Int32) : ll_OK1 cX10_init RX10 none true ll_mN ll_mR ll_mK ll_cnt L xs false 96 (.inl (lo_dup 97)) := lk_dup (by decide +kernel)
theorem k_113_97 (L : Nat) (xs : Nat → Int32) : ll_OK1 cX10_init RX10 none true ll_mN ll_mR ll_mK ll_cnt L xs false 97 (.inl (lo_aload 98 0)) := lk_aload_n (k := 0) (by decide +kernel) rfl
theorem k_113_98 (L : Nat) (xs : Nat → Int32) : ll_OK1 cX10_init RX10 none true ll_mN ll_mR ll_mK ll_cnt L xs false 98 (.inl (lo_getf 101 10 6)) := lk_getf (ix := 42) (ci := 10) (k := 6) (C := RX10) (T := TX10) (N := 11) (by decide +kernel) rfl in_10 (by decide) tb_459
theorem k_113_101 (L : Nat) (xs : Nat → Int32) : ll_OK1 cX10_init RX10 none true ll_mN ll_mR ll_mK ll_cnt L xs false 101 (.inl (lo_push 102 (.int 0))) := lk_iconst (n := 0) (by decide +kernel) (by decide)
theorem k_113_102 (L : Nat) (xs : Nat → Int32) : ll_OK1 cX10_init RX10 none true ll_mN ll_mR ll_mK ll_cnt L xs false 102 (.inl (lo_aald 103)) := lk_aald (by decide +kernel)
theorem k_113_103 (L : Nat) (xs : Nat → Int32) : ll_OK1 cX10_init RX10 none true ll_mN ll_mR ll_mK ll_cnt L xs false 103 (.inl (lo_aload 104 0)) := lk_aload_n (k := 0) (by decide +kernel) rfl
theorem k_113_104 (L : Nat) (xs : Nat → Int32) : ll_OK1 cX10_init RX10 none true ll_mN ll_mR ll_mK ll_cnt L xs false 104 (.inl (lo_getf 107 10 6)) := lk_getf (ix := 42) (ci := 10) (k := 6) (C := RX10) (T := TX10) (N := 11) (by decide +kernel) rfl in_10 (by decide) tb_459
theorem k_113_107 (L : Nat) (xs : Nat → Int32) : ll_OK1 cX10_init RX10 none true ll_mN ll_mR ll_mK ll_cnt L xs false 107 (.inl (lo_push 108 (.int 1))) := lk_iconst (n := 1) (by decide +kernel) (by decide)
theorem k_113_108 (L : Nat) (xs : Nat → Int32) : ll_OK1 cX10_init RX10 none true ll_mN ll_mR ll_mK ll_cnt L xs false 108 (.inl (lo_aald 109)) := lk_aald (by decide +kernel)
theorem k_113_109 (L : Nat) (xs : Nat → Int32) : ll_OK1 cX10_init RX10 none true ll_mN ll_mR ll_mK ll_cnt L xs false 109 (.inl (lo_aload 110 0)) := lk_aload_n (k := 0) (by decide +kernel) rfl
theorem k_113_110 (L : Nat) (xs : Nat → Int32) : ll_OK1 cX10_init RX10 none true ll_mN ll_mR ll_mK ll_cnt L xs false 110 (.inl (lo_getf 113 10 7)) := lk_getf (ix := 49) (ci := 10) (k := 7) (C := RX10) (T := TX10) (N := 11) (by decide +kernel) rfl in_10 (by decide) tb_461
theorem k_113_113 (L : Nat) (xs : Nat → Int32) : ll_OK1 cX10_init RX10 none true ll_mN ll_mR ll_mK ll_cnt L xs false 113 (.inr (.inl (31, 4, 116))) := ⟨rfl, by decide, by rw [mN_31, mK_31, mR_31]; exact lj_i 55 3 4 (by decide +kernel) (Or.inl tb_465) tb_466 rfl rfl rfl (by decide +kernel) rfl⟩
theorem k_113_116 (L : Nat) (xs : Nat → Int32) : ll_OK1 cX10_init RX10 none true ll_mN ll_mR ll_mK ll_cnt L xs false 116 (.inl (lo_putf 119 10 2 2)) := lk_putf (ix := 58) (ci := 10) (k := 2) (C := RX10) (T := TX10) (N := 11) (ty0 := tyX10) (by decide +kernel) rfl in_10 tyX10_ok nmX10 (by decide) tb_467 (fun B adr v w h1 h2 => ll_fit_obj (B := B) (adr := adr) h1 h2) (Or.inr ⟨rfl, rfl, rfl⟩)
theorem k_113_119 (L : Nat) (xs : Nat → Int32) : ll_OK1 cX10_init RX10 none true ll_mN ll_mR ll_mK ll_cnt L xs false 119 (.inl (lo_aload 120 0)) := lk_aload_n (k := 0) (by decide +kernel) rfl
theorem k_113_120 (L : Nat) (xs : Nat → Int32) : ll_OK1 cX10_init RX10 none true ll_mN ll_mR ll_mK ll_cnt L xs false 120 (.inl (lo_new 123 0 7 [.null, .null, .null, .int 0, .int 0, .int 0, .int 0])) := lk_new (ix := 62) (ci := 0) (N := 7) (C := RX0) (T := TX0) (ty0 := tyX0) (by decide +kernel) rfl in_0 tyX0_ok tb_468 tb_469 tb_470 rfl (by decide +kernel) (by decide +kernel)
theorem k_113_123 (L : Nat) (xs : Nat → Int32) : ll_OK1 cX10_init RX10 none true ll_mN ll_mR ll_mK ll_cnt L xs false 123 (.inl (lo_dup 124)) := lk_dup (by decide +kernel)
theorem k_113_124 (L : Nat) (xs : Nat → Int32) : ll_OK1 cX10_init RX10 none true ll_mN ll_mR ll_mK ll_cnt L xs false 124 (.inl (lo_aload 125 0)) := lk_aload_n (k := 0) (by decide +kernel) rfl
theorem k_113_125 (L : Nat) (xs : Nat → Int32) : ll_OK1 cX10_init RX10 none true ll_mN ll_mR ll_mK ll_cnt L xs false 125 (.inl (lo_getf 128 10 6)) := lk_getf (ix := 42) (ci := 10) (k := 6) (C := RX10) (T := TX10) (N := 11) (by decide +kernel) rfl in_10 (by decide) tb_459
theorem k_113_128 (L : Nat) (xs : Nat → Int32) : ll_OK1 cX10_init RX10 none true ll_mN ll_mR ll_mK ll_cnt L xs false 128 (.inl (lo_push 129 (.int 0))) := lk_iconst (n := 0) (by decide +kernel) (by decide)
theorem k_113_129 (L : Nat) (xs : Nat → Int32) : ll_OK1 cX10_init RX10 none true ll_mN ll_mR ll_mK ll_cnt L xs false 129 (.inl (lo_aald 130)) := lk_aald (by decide +kernel)
theorem k_113_130 (L : Nat) (xs : Nat → Int32) : ll_OK1 cX10_init RX10 none true ll_mN ll_mR ll_mK ll_cnt L xs false 130 (.inl (lo_aload 131 0)) := lk_aload_n (k := 0) (by decide +kernel) rfl
theorem k_113_131 (L : Nat) (xs : Nat → Int32) : ll_OK1 cX10_init RX10 none true ll_mN ll_mR ll_mK ll_cnt L xs false 131 (.inl (lo_getf 134 10 6)) := lk_getf (ix := 42) (ci := 10) (k := 6) (C := RX10) (T := TX10) (N := 11) (by decide +kernel) rfl in_10 (by decide) tb_459
theorem k_113_134 (L : Nat) (xs : Nat → Int32) : ll_OK1 cX10_init RX10 none true ll_mN ll_mR ll_mK ll_cnt L xs false 134 (.inl (lo_push 135 (.int 1))) := lk_iconst (n := 1) (by decide +kernel) (by decide)
theorem k_113_135 (L : Nat) (xs : Nat → Int32) : ll_OK1 cX10_init RX10 none true ll_mN ll_mR ll_mK ll_cnt L xs false 135 (.inl (lo_aald 136)) := lk_aald (by decide +kernel)
theorem k_113_136 (L : Nat) (xs : Nat → Int32) : ll_OK1 cX10_init RX10 none true ll_mN ll_mR ll_mK ll_cnt L xs false 136 (.inl (lo_aload 137 0)) := lk_aload_n (k := 0) (by decide +kernel) rfl
theorem k_113_137 (L : Nat) (xs : Nat → Int32) : ll_OK1 cX10_init RX10 none true ll_mN ll_mR ll_mK ll_cnt L xs false 137 (.inl (lo_getf 140 10 7)) := lk_getf (ix := 49) (ci := 10) (k := 7) (C := RX10) (T := TX10) (N := 11) (by decide +kernel) rfl in_10 (by decide) tb_461
theorem k_113_140 (L : Nat) (xs : Nat → Int32) : ll_OK1 cX10_init RX10 none true ll_mN ll_mR ll_mK ll_cnt L xs false 140 (.inr (.inl (0, 4, 143))) := ⟨rfl, by decide, by rw [mN_0, mK_0, mR_0]; exact lj_i 64 3 0 (by decide +kernel) (Or.inl tb_471) tb_472 rfl rfl rfl (by decide +kernel) rfl⟩
theorem k_113_143 (L : Nat) (xs : Nat → Int32) : ll_OK1 cX10_init RX10 none true ll_mN ll_mR ll_mK ll_cnt L xs false 143 (.inl (lo_putf 146 10 3 2)) := lk_putf (ix := 65) (ci := 10) (k := 3) (C := RX10) (T := TX10) (N := 11) (ty0 := tyX10) (by decide +kernel) rfl in_10 tyX10_ok nmX10 (by decide) tb_473 (fun B adr v w h1 h2 => ll_fit_obj (B := B) (adr := adr) h1 h2) (Or.inr ⟨rfl, rfl, rfl⟩)
theorem k_113_146 (L : Nat) (xs : Nat → Int32) : ll_OK1 cX10_init RX10 none true ll_mN ll_mR ll_mK ll_cnt L xs false 146 (.inl (lo_aload 147 0)) := lk_aload_n (k := 0) (by decide +kernel) rfl
theorem k_113_147 (L : Nat) (xs : Nat → Int32) : ll_OK1 cX10_init RX10 none true ll_mN ll_mR ll_mK ll_cnt L xs false 147 (.inl (lo_new 150 9 7 [.null, .null, .null, .null, .null, .null, .int 0])) := lk_new (ix := 69) (ci := 9) (N := 7) (C := RX9) (T := TX9) (ty0 := tyX9) (by decide +kernel) rfl in_9 tyX9_ok tb_474 tb_475 tb_476 rfl (by decide +kernel) (by decide +kernel)
theorem k_113_150 (L : Nat) (xs : Nat → Int32) : ll_OK1 cX10_init RX10 none true ll_mN ll_mR ll_mK ll_cnt L xs false 150 (.inl (lo_dup 151)) := lk_dup (by decide +kernel)
theorem k_113_151 (L : Nat) (xs : Nat → Int32) : ll_OK1 cX10_init RX10 none true ll_mN ll_mR ll_mK ll_cnt L xs false 151 (.inl (lo_aload 152 0)) := lk_aload_n (k := 0) (by decide +kernel) rfl
theorem k_113_152 (L : Nat) (xs : Nat → Int32) : ll_OK1 cX10_init RX10 none true ll_mN ll_mR ll_mK ll_cnt L xs false 152 (.inl (lo_getf 155 10 6)) := lk_getf (ix := 42) (ci := 10) (k := 6) (C := RX10) (T := TX10) (N := 11) (by decide +kernel) rfl in_10 (by decide) tb_459
theorem k_113_155 (L : Nat) (xs : Nat → Int32) : ll_OK1 cX10_init RX10 none true ll_mN ll_mR ll_mK ll_cnt L xs false 155 (.inl (lo_push 156 (.int 0))) := lk_iconst (n := 0) (by decide +kernel) (by decide)
theorem k_113_156 (L : Nat) (xs : Nat → Int32) : ll_OK1 cX10_init RX10 none true ll_mN ll_mR ll_mK ll_cnt L xs false 156 (.inl (lo_aald 157)) := lk_aald (by decide +kernel)
theorem k_113_157 (L : Nat) (xs : Nat → Int32) : ll_OK1 cX10_init RX10 none true ll_mN ll_mR ll_mK ll_cnt L xs false 157 (.inl (lo_aload 158 0)) := lk_aload_n (k := 0) (by decide +kernel) rfl
theorem k_113_158 (L : Nat) (xs : Nat → Int32) : ll_OK1 cX10_init RX10 none true ll_mN ll_mR ll_mK ll_cnt L xs false 158 (.inl (lo_getf 161 10 6)) := lk_getf (ix := 42) (ci := 10) (k := 6) (C := RX10) (T := TX10) (N := 11) (by decide +kernel) rfl in_10 (by decide) tb_459
theorem k_113_161 (L : Nat) (xs : Nat → Int32) : ll_OK1 cX10_init RX10 none true ll_mN ll_mR ll_mK ll_cnt L xs false 161 (.inl (lo_push 162 (.int 1))) := lk_iconst (n := 1) (by decide +kernel) (by decide)
theorem k_113_162 (L : Nat) (xs : Nat → Int32) : ll_OK1 cX10_init RX10 none true ll_mN ll_mR ll_mK ll_cnt L xs false 162 (.inl (lo_aald 163)) := lk_aald (by decide +kernel)
theorem k_113_163 (L : Nat) (xs : Nat → Int32) : ll_OK1 cX10_init RX10 none true ll_mN ll_mR ll_mK ll_cnt L xs false 163 (.inr (.inl (102, 3, 166))) := ⟨rfl, by decide, by rw [mN_102, mK_102, mR_102]; exact lj_i 71 2 9 (by decide +kernel) (Or.inl tb_477) tb_478 rfl rfl rfl (by decide +kernel) rfl⟩
theorem k_113_166 (L : Nat) (xs : Nat → Int32) : ll_OK1 cX10_init RX10 none true ll_mN ll_mR ll_mK ll_cnt L xs false 166 (.inl (lo_putf 169 10 4 2)) := lk_putf (ix := 74) (ci := 10) (k := 4) (C := RX10) (T := TX10) (N := 11) (ty0 := tyX10) (by decide +kernel) rfl in_10 tyX10_ok nmX10 (by decide) tb_479 (fun B adr v w h1 h2 => ll_fit_obj (B := B) (adr := adr) h1 h2) (Or.inr ⟨rfl, rfl, rfl⟩)
theorem k_113_169 (L : Nat) (xs : Nat → Int32) : ll_OK1 cX10_init RX10 none true ll_mN ll_mR ll_mK ll_cnt L xs false 169 (.inl (lo_aload 170 0)) := lk_aload_n (k := 0) (by decide +kernel) rfl
theorem k_113_170 (L : Nat) (xs : Nat → Int32) : ll_OK1 cX10_init RX10 none true ll_mN ll_mR ll_mK ll_cnt L xs false 170 (.inl (lo_new 173 3 5 [.null, .null, .null, .null, .int 0])) := lk_new (ix := 78) (ci := 3) (N := 5) (C := RX3) (T := TX3) (ty0 := tyX3) (by decide +kernel) rfl in_3 tyX3_ok tb_480 tb_481 tb_482 rfl (by decide +kernel) (by decide +kernel)
theorem k_113_173 (L : Nat) (xs : Nat → Int32) : ll_OK1 cX10_init RX10 none true ll_mN ll_mR ll_mK ll_cnt L xs false 173 (.inl (lo_dup 174)) := lk_dup (by decide +kernel)
theorem k_113_174 (L : Nat) (xs : Nat → Int32) : ll_OK1 cX10_init RX10 none true ll_mN ll_mR ll_mK ll_cnt L xs false 174 (.inr (.inl (29, 1, 177))) := ⟨rfl, by decide, by rw [mN_29, mK_29, mR_29]; exact lj_i 80 0 3 (by decide +kernel) (Or.inl tb_483) tb_484 rfl rfl rfl (by decide +kernel) rfl⟩
theorem k_113_177 (L : Nat) (xs : Nat → Int32) : ll_OK1 cX10_init RX10 none true ll_mN ll_mR ll_mK ll_cnt L xs false 177 (.inl (lo_putf 180 10 8 2)) := lk_putf (ix := 81) (ci := 10) (k := 8) (C := RX10) (T := TX10) (N := 11) (ty0 := tyX10) (by decide +kernel) rfl in_10 tyX10_ok nmX10 (by decide) tb_485 (fun B adr v w h1 h2 => ll_fit_obj (B := B) (adr := adr) h1 h2) (Or.inr ⟨rfl, rfl, rfl⟩)
theorem k_113_180 (L : Nat) (xs : Nat → Int32) : ll_OK1 cX10_init RX10 none true ll_mN ll_mR ll_mK ll_cnt L xs false 180 (.inl (lo_aload 181 0)) := lk_aload_n (k := 0) (by decide +kernel) rfl
theorem k_113_181 (L : Nat) (xs : Nat → Int32) : ll_OK1 cX10_init RX10 none true ll_mN ll_mR ll_mK ll_cnt L xs false 181 (.inl (lo_push 182 (.int 2))) := lk_iconst (n := 2) (by decide +kernel) (by decide)
theorem k_113_182 (L : Nat) (xs : Nat → Int32) : ll_OK1 cX10_init RX10 none true ll_mN ll_mR ll_mK ll_cnt L xs false 182 (.inl (lo_anew 185 3)) := lk_anew (ix := 78) (t := 3) (by decide +kernel) tb_486 (by decide +kernel)
theorem k_113_185 (L : Nat) (xs : Nat → Int32) : ll_OK1 cX10_init RX10 none true ll_mN ll_mR ll_mK ll_cnt L xs false 185 (.inl (lo_dup 186)) := lk_dup (by decide +kernel)
theorem k_113_186 (L : Nat) (xs : Nat → Int32) : ll_OK1 cX10_init RX10 none true ll_mN ll_mR ll_mK ll_cnt L xs false 186 (.inl (lo_push 187 (.int 0))) := lk_iconst (n := 0) (by decide +kernel) (by decide)
theorem k_113_187 (L : Nat) (xs : Nat → Int32) : ll_OK1 cX10_init RX10 none true ll_mN ll_mR ll_mK ll_cnt L xs false 187 (.inl (lo_new 190 3 5 [.null, .null, .null, .null, .int 0])) := lk_new (ix := 78) (ci := 3) (N := 5) (C := RX3) (T := TX3) (ty0 := tyX3) (by decide +kernel) rfl in_3 tyX3_ok tb_480 tb_481 tb_482 rfl (by decide +kernel) (by decide +kernel)
theorem k_113_190 (L : Nat) (xs : Nat → Int32) : ll_OK1 cX10_init RX10 none true ll_mN ll_mR ll_mK ll_cnt L xs false 190 (.inl (lo_dup 191)) := lk_dup (by decide +kernel)
theorem k_113_191 (L : Nat) (xs : Nat → Int32) : ll_OK1 cX10_init RX10 none true ll_mN ll_mR ll_mK ll_cnt L xs false 191 (.inr (.inl (29, 1, 194))) := ⟨rfl, by decide, by rw [mN_29, mK_29, mR_29]; exact lj_i 80 0 3 (by decide +kernel) (Or.inl tb_483) tb_484 rfl rfl rfl (by decide +kernel) rfl⟩
theorem k_113_194 (L : Nat) (xs : Nat → Int32) : ll_OK1 cX10_init RX10 none true ll_mN ll_mR ll_mK ll_cnt L xs false 194 (.inl (lo_aast 195)) := lk_aast (by decide +kernel)
theorem k_113_195 (L : Nat) (xs : Nat → Int32) : ll_OK1 cX10_init RX10 none true ll_mN ll_mR ll_mK ll_cnt L xs false 195 (.inl (lo_dup 196)) := lk_dup (by decide +kernel)
theorem k_113_196 (L : Nat) (xs : Nat → Int32) : ll_OK1 cX10_init RX10 none true ll_mN ll_mR ll_mK ll_cnt L xs false 196 (.inl (lo_push 197 (.int 1))) := lk_iconst (n := 1) (by decide +kernel) (by decide)
theorem k_113_197 (L : Nat) (xs : Nat → Int32) : ll_OK1 cX10_init RX10 none true ll_mN ll_mR ll_mK ll_cnt L xs false 197 (.inl (lo_new 200 3 5 [.null, .null, .null, .null, .int 0])) := lk_new (ix := 78) (ci := 3) (N := 5) (C := RX3) (T := TX3) (ty0 := tyX3) (by decide +kernel) rfl in_3 tyX3_ok tb_480 tb_481 tb_482 rfl (by decide +kernel) (by decide +kernel)
theorem k_113_200 (L : Nat) (xs : Nat → Int32) : ll_OK1 cX10_init RX10 none true ll_mN ll_mR ll_mK ll_cnt L xs false 200 (.inl (lo_dup 201)) := lk_dup (by decide +kernel)
theorem k_113_201 (L : Nat) (xs : Nat → Int32) : ll_OK1 cX10_init RX10 none true ll_mN ll_mR ll_mK ll_cnt L xs false 201 (.inr (.inl (29, 1, 204))) := ⟨rfl, by decide, by rw [mN_29, mK_29, mR_29]; exact lj_i 80 0 3 (by decide +kernel) (Or.inl tb_483) tb_484 rfl rfl rfl (by decide +kernel) rfl⟩
theorem k_113_204 (L : Nat) (xs : Nat → Int32) : ll_OK1 cX10_init RX10 none true ll_mN ll_mR ll_mK ll_cnt L xs false 204 (.inl (lo_aast 205)) := lk_aast (by decide +kernel)
theorem k_113_205 (L : Nat) (xs : Nat → Int32) : ll_OK1 cX10_init RX10 none true ll_mN ll_mR ll_mK ll_cnt L xs false 205 (.inl (lo_putf 208 10 9 2)) := lk_putf (ix := 85) (ci := 10) (k := 9) (C := RX10) (T := TX10) (N := 11) (ty0 := tyX10) (by decide +kernel) rfl in_10 tyX10_ok nmX10 (by decide) tb_487 (fun B adr v w h1 h2 => ll_fit_arr (B := B) (adr := adr) h1 h2) (Or.inr ⟨rfl, rfl, rfl⟩)
theorem k_113_208 (L : Nat) (xs : Nat → Int32) : ll_OK1 cX10_init RX10 none true ll_mN ll_mR ll_mK ll_cnt L xs false 208 (.inl (lo_aload 209 0)) := lk_aload_n (k := 0) (by decide +kernel) rfl
theorem k_113_209 (L : Nat) (xs : Nat → Int32) : ll_OK1 cX10_init RX10 none true ll_mN ll_mR ll_mK ll_cnt L xs false 209 (.inl (lo_push 210 (.int 2))) := lk_iconst (n := 2) (by decide +kernel) (by decide)
theorem k_113_210 (L : Nat) (xs : Nat → Int32) : ll_OK1 cX10_init RX10 none true ll_mN ll_mR ll_mK ll_cnt L xs false 210 (.inl (lo_newa 212 1)) := lk_newa_bool (by decide +kernel) tb_488
theorem k_113_212 (L : Nat) (xs : Nat → Int32) : ll_OK1 cX10_init RX10 none true ll_mN ll_mR ll_mK ll_cnt L xs false 212 (.inl (lo_putf 215 10 10 2)) := lk_putf (ix := 89) (ci := 10) (k := 10) (C := RX10) (T := TX10) (N := 11) (ty0 := tyX10) (by decide +kernel) rfl in_10 tyX10_ok nmX10 (by decide) tb_489 (fun B adr v w h1 h2 => ll_fit_arr (B := B) (adr := adr) h1 h2) (Or.inr ⟨rfl, rfl, rfl⟩)
theorem k_113_215 (L : Nat) (xs : Nat → Int32) : ll_OK1 cX10_init RX10 none true ll_mN ll_mR ll_mK ll_cnt L xs false 215 (.inl (lo_push 216 (.int 0))) := lk_iconst (n := 0) (by decide +kernel) (by decide)
theorem k_113_216 (L : Nat) (xs : Nat → Int32) : ll_OK1 cX10_init RX10 none true ll_mN ll_mR ll_mK ll_cnt L xs false 216 (.inl (lo_istore 217 2)) := lk_istore_n (k := 2) (by decide +kernel) rfl
theorem k_113_217 (L : Nat) (xs : Nat → Int32) : ll_OK1 cX10_init RX10 none true ll_mN ll_mR ll_mK ll_cnt L xs false 217 (.inl (lo_iload 218 2)) := lk_iload_n (k := 2) (by decide +kernel) rfl
theorem k_113_218 (L : Nat) (xs : Nat → Int32) : ll_OK1 cX10_init RX10 none true ll_mN ll_mR ll_mK ll_cnt L xs false 218 (.inl (lo_push 219 (.int 2))) := lk_iconst (n := 2) (by decide +kernel) (by decide)
theorem k_113_219 (L : Nat) (xs : Nat → Int32) : ll_OK1 cX10_init RX10 none true ll_mN ll_mR ll_mK ll_cnt L xs false 219 (.inl (lo_cmp 245 222 (fun x y => decide (y ≤ x)))) := lk_icmp_ge (off := 26) (by decide +kernel) rfl
theorem k_113_222 (L : Nat) (xs : Nat → Int32) : ll_OK1 cX10_init RX10 none true ll_mN ll_mR ll_mK ll_cnt L xs false 222 (.inl (lo_aload 223 0)) := lk_aload_n (k := 0) (by decide +kernel) rfl
theorem k_113_223 (L : Nat) (xs : Nat → Int32) : ll_OK1 cX10_init RX10 none true ll_mN ll_mR ll_mK ll_cnt L xs false 223 (.inl (lo_getf 226 10 1)) := lk_getf (ix := 35) (ci := 10) (k := 1) (C := RX10) (T := TX10) (N := 11) (by decide +kernel) rfl in_10 (by decide) tb_456
theorem k_113_226 (L : Nat) (xs : Nat → Int32) : ll_OK1 cX10_init RX10 none true ll_mN ll_mR ll_mK ll_cnt L xs false 226 (.inl (lo_push 227 (.int 0))) := lk_iconst (n := 0) (by decide +kernel) (by decide)
theorem k_113_227 (L : Nat) (xs : Nat → Int32) : ll_OK1 cX10_init RX10 none true ll_mN ll_mR ll_mK ll_cnt L xs false 227 (.inl (lo_aload 228 0)) := lk_aload_n (k := 0) (by decide +kernel) rfl
theorem k_113_228 (L : Nat) (xs : Nat → Int32) : ll_OK1 cX10_init RX10 none true ll_mN ll_mR ll_mK ll_cnt L xs false 228 (.inl (lo_getf 231 10 8)) := lk_getf (ix := 81) (ci := 10) (k := 8) (C := RX10) (T := TX10) (N := 11) (by decide +kernel) rfl in_10 (by decide) tb_485
theorem k_113_231 (L : Nat) (xs : Nat → Int32) : ll_OK1 cX10_init RX10 none true ll_mN ll_mR ll_mK ll_cnt L xs false 231 (.inl (lo_getf 234 3 1)) := lk_getf (ix := 93) (ci := 3) (k := 1) (C := RX3) (T := TX3) (N := 5) (by decide +kernel) rfl in_3 (by decide) tb_490
theorem k_113_234 (L : Nat) (xs : Nat → Int32) : ll_OK1 cX10_init RX10 none true ll_mN ll_mR ll_mK ll_cnt L xs false 234 (.inl (lo_iload 235 2)) := lk_iload_n (k := 2) (by decide +kernel) rfl
theorem k_113_235 (L : Nat) (xs : Nat → Int32) : ll_OK1 cX10_init RX10 none true ll_mN ll_mR ll_mK ll_cnt L xs false 235 (.inl (lo_aald 236)) := lk_aald (by decide +kernel)
theorem k_113_236 (L : Nat) (xs : Nat → Int32) : ll_OK1 cX10_init RX10 none true ll_mN ll_mR ll_mK ll_cnt L xs false 236 (.inr (.inl (61, 3, 239))) := ⟨rfl, by decide, by rw [mN_61, mK_61, mR_61]; exact lj_v 96 2 6 (RX6, TX6, 8) (by decide +kernel) tb_491 tb_492 tb_493 rfl rfl rfl rfl (by decide +kernel)⟩
theorem k_113_239 (L : Nat) (xs : Nat → Int32) : ll_OK1 cX10_init RX10 none true ll_mN ll_mR ll_mK ll_cnt L xs false 239 (.inl (lo_iinc 242 2 1)) := lk_iinc (n := 1) (by decide +kernel) (by decide)
theorem k_113_242 (L : Nat) (xs : Nat → Int32) : ll_OK1 cX10_init RX10 none true ll_mN ll_mR ll_mK ll_cnt L xs false 242 (.inl (lo_goto 217)) := lk_goto (off := (-25)) (by decide +kernel) rfl
theorem k_113_245 (L : Nat) (xs : Nat → Int32) : ll_OK1 cX10_init RX10 none true ll_mN ll_mR ll_mK ll_cnt L xs false 245 (.inl (lo_push 246 (.int 0))) := lk_iconst (n := 0) (by decide +kernel) (by decide)
theorem k_113_246 (L : Nat) (xs : Nat → Int32) : ll_OK1 cX10_init RX10 none true ll_mN ll_mR ll_mK ll_cnt L xs false 246 (.inl (lo_istore 247 2)) := lk_istore_n (k := 2) (by decide +kernel) rfl
theorem k_113_247 (L : Nat) (xs : Nat → Int32) : ll_OK1 cX10_init RX10 none true ll_mN ll_mR ll_mK ll_cnt L xs false 247 (.inl (lo_iload 248 2)) := lk_iload_n (k := 2) (by decide +kernel) rfl
theorem k_113_248 (L : Nat) (xs : Nat → Int32) : ll_OK1 cX10_init RX10 none true ll_mN ll_mR ll_mK ll_cnt L xs false 248 (.inl (lo_push 249 (.int 4))) := lk_iconst (n := 4) (by decide +kernel) (by decide)
theorem k_113_249 (L : Nat) (xs : Nat → Int32) : ll_OK1 cX10_init RX10 none true ll_mN ll_mR ll_mK ll_cnt L xs false 249 (.inl (lo_cmp 282 252 (fun x y => decide (y ≤ x)))) := lk_icmp_ge (off := 33) (by decide +kernel) rfl
theorem k_113_252 (L : Nat) (xs : Nat → Int32) : ll_OK1 cX10_init RX10 none true ll_mN ll_mR ll_mK ll_cnt L xs false 252 (.inl (lo_aload 253 0)) := lk_aload_n (k := 0) (by decide +kernel) rfl
theorem k_113_253 (L : Nat) (xs : Nat → Int32) : ll_OK1 cX10_init RX10 none true ll_mN ll_mR ll_mK ll_cnt L xs false 253 (.inl (lo_getf 256 10 8)) := lk_getf (ix := 81) (ci := 10) (k := 8) (C := RX10) (T := TX10) (N := 11) (by decide +kernel) rfl in_10 (by decide) tb_485
theorem k_113_256 (L : Nat) (xs : Nat → Int32) : ll_OK1 cX10_init RX10 none true ll_mN ll_mR ll_mK ll_cnt L xs false 256 (.inl (lo_getf 259 3 2)) := lk_getf (ix := 100) (ci := 3) (k := 2) (C := RX3) (T := TX3) (N := 5) (by decide +kernel) rfl in_3 (by decide) tb_494
theorem k_113_259 (L : Nat) (xs : Nat → Int32) : ll_OK1 cX10_init RX10 none true ll_mN ll_mR ll_mK ll_cnt L xs false 259 (.inl (lo_iload 260 2)) := lk_iload_n (k := 2) (by decide +kernel) rfl
theorem k_113_260 (L : Nat) (xs : Nat → Int32) : ll_OK1 cX10_init RX10 none true ll_mN ll_mR ll_mK ll_cnt L xs false 260 (.inl (lo_aald 261)) := lk_aald (by decide +kernel)
theorem k_113_261 (L : Nat) (xs : Nat → Int32) : ll_OK1 cX10_init RX10 none true ll_mN ll_mR ll_mK ll_cnt L xs false 261 (.inl (lo_aload 262 0)) := lk_aload_n (k := 0) (by decide +kernel) rfl
theorem k_113_262 (L : Nat) (xs : Nat → Int32) : ll_OK1 cX10_init RX10 none true ll_mN ll_mR ll_mK ll_cnt L xs false 262 (.inl (lo_getf 265 10 8)) := lk_getf (ix := 81) (ci := 10) (k := 8) (C := RX10) (T := TX10) (N := 11) (by decide +kernel) rfl in_10 (by decide) tb_485
theorem k_113_265 (L : Nat) (xs : Nat → Int32) : ll_OK1 cX10_init RX10 none true ll_mN ll_mR ll_mK ll_cnt L xs false 265 (.inl (lo_getf 268 3 1)) := lk_getf (ix := 93) (ci := 3) (k := 1) (C := RX3) (T := TX3) (N := 5) (by decide +kernel) rfl in_3 (by decide) tb_490
theorem k_113_268 (L : Nat) (xs : Nat → Int32) : ll_OK1 cX10_init RX10 none true ll_mN ll_mR ll_mK ll_cnt L xs false 268 (.inl (lo_push 269 (.int 0))) := lk_iconst (n := 0) (by decide +kernel) (by decide)
theorem k_113_269 (L : Nat) (xs : Nat → Int32) : ll_OK1 cX10_init RX10 none true ll_mN ll_mR ll_mK ll_cnt L xs false 269 (.inl (lo_aald 270)) := lk_aald (by decide +kernel)
theorem k_113_270 (L : Nat) (xs : Nat → Int32) : ll_OK1 cX10_init RX10 none true ll_mN ll_mR ll_mK ll_cnt L xs false 270 (.inl (lo_getf 273 5 0)) := lk_getf (ix := 104) (ci := 5) (k := 0) (C := RX5) (T := TX5) (N := 11) (by decide +kernel) rfl in_5 (by decide) tb_495
theorem k_113_273 (L : Nat) (xs : Nat → Int32) : ll_OK1 cX10_init RX10 none true ll_mN ll_mR ll_mK ll_cnt L xs false 273 (.inr (.inl (75, 2, 276))) := ⟨rfl, by decide, by rw [mN_75, mK_75, mR_75]; exact lj_v 107 1 7 (RX7, TX7, 2) (by decide +kernel) tb_496 tb_89 tb_90 rfl rfl rfl rfl (by decide +kernel)⟩
theorem k_113_276 (L : Nat) (xs : Nat → Int32) : ll_OK1 cX10_init RX10 none true ll_mN ll_mR ll_mK ll_cnt L xs false 276 (.inl (lo_iinc 279 2 1)) := lk_iinc (n := 1) (by decide +kernel) (by decide)
theorem k_113_279 (L : Nat) (xs : Nat → Int32) : ll_OK1 cX10_init RX10 none true ll_mN ll_mR ll_mK ll_cnt L xs false 279 (.inl (lo_goto 247)) := lk_goto (off := (-32)) (by decide +kernel) rfl
theorem k_113_282 (L : Nat) (xs : Nat → Int32) : ll_OK1 cX10_init RX10 none true ll_mN ll_mR ll_mK ll_cnt L xs false 282 (.inr (.inr 0)) := ⟨fun _ => ⟨(by decide +kernel), rfl⟩, (fun h => by cases h), fun h => by cases h⟩
theorem ok_113 (L : Nat) (xs : Nat → Int32) : ∀ q ∈ cd_113, ll_OK1 cX10_init RX10 none true ll_mN ll_mR ll_mK ll_cnt L xs false q.1 q.2 :=
  List.forall_mem_cons.mpr ⟨k_113_0 L xs, List.forall_mem_cons.mpr ⟨k_113_1 L xs, List.forall_mem_cons.mpr ⟨k_113_4 L xs, List.forall_mem_cons.mpr ⟨k_113_7 L xs, List.forall_mem_cons.mpr ⟨k_113_8 L xs, List.forall_mem_cons.mpr ⟨k_113_11 L xs, List.forall_mem_cons.mpr ⟨k_113_12 L xs, List.forall_mem_cons.mpr ⟨k_113_13 L xs, List.forall_mem_cons.mpr ⟨k_113_16 L xs, List.forall_mem_cons.mpr ⟨k_113_17 L xs, List.forall_mem_cons.mpr ⟨k_113_19 L xs, List.forall_mem_cons.mpr ⟨k_113_22 L xs, List.forall_mem_cons.mpr ⟨k_113_25 L xs, List.forall_mem_cons.mpr ⟨k_113_26 L xs, List.forall_mem_cons.mpr ⟨k_113_29 L xs, List.forall_mem_cons.mpr ⟨k_113_30 L xs, List.forall_mem_cons.mpr ⟨k_113_31 L xs, List.forall_mem_cons.mpr ⟨k_113_32 L xs, List.forall_mem_cons.mpr ⟨k_113_35 L xs, List.forall_mem_cons.mpr ⟨k_113_38 L xs, List.forall_mem_cons.mpr ⟨k_113_41 L xs, List.forall_mem_cons.mpr ⟨k_113_42 L xs, List.forall_mem_cons.mpr ⟨k_113_45 L xs, List.forall_mem_cons.mpr ⟨k_113_46 L xs, List.forall_mem_cons.mpr ⟨k_113_47 L xs, List.forall_mem_cons.mpr ⟨k_113_50 L xs, List.forall_mem_cons.mpr ⟨k_113_53 L xs, List.forall_mem_cons.mpr ⟨k_113_54 L xs, List.forall_mem_cons.mpr ⟨k_113_55 L xs, List.forall_mem_cons.mpr ⟨k_113_58 L xs, List.forall_mem_cons.mpr ⟨k_113_59 L xs, List.forall_mem_cons.mpr ⟨k_113_60 L xs, List.forall_mem_cons.mpr ⟨k_113_63 L xs, List.forall_mem_cons.mpr ⟨k_113_64 L xs, List.forall_mem_cons.mpr ⟨k_113_67 L xs, List.forall_mem_cons.mpr ⟨k_113_68 L xs, List.forall_mem_cons.mpr ⟨k_113_69 L xs, List.forall_mem_cons.mpr ⟨k_113_70 L xs, List.forall_mem_cons.mpr ⟨k_113_73 L xs, List.forall_mem_cons.mpr ⟨k_113_74 L xs, List.forall_mem_cons.mpr ⟨k_113_77 L xs, List.forall_mem_cons.mpr ⟨k_113_78 L xs, List.forall_mem_cons.mpr ⟨k_113_81 L xs, List.forall_mem_cons.mpr ⟨k_113_82 L xs, List.forall_mem_cons.mpr ⟨k_113_85 L xs, List.forall_mem_cons.mpr ⟨k_113_86 L xs, List.forall_mem_cons.mpr ⟨k_113_89 L xs, List.forall_mem_cons.mpr ⟨k_113_92 L xs, List.forall_mem_cons.mpr ⟨k_113_93 L xs, List.forall_mem_cons.mpr ⟨k_113_96 L xs, List.forall_mem_cons.mpr ⟨k_113_97 L xs, List.forall_mem_cons.mpr ⟨k_113_98 L xs, List.forall_mem_cons.mpr ⟨k_113_101 L xs, List.forall_mem_cons.mpr ⟨k_113_102 L xs, List.forall_mem_cons.mpr ⟨k_113_103 L xs, List.forall_mem_cons.mpr ⟨k_113_104 L xs, List.forall_mem_cons.mpr ⟨k_113_107 L xs, List.forall_mem_cons.mpr ⟨k_113_108 L xs, List.forall_mem_cons.mpr ⟨k_113_109 L xs, List.forall_mem_cons.mpr ⟨k_113_110 L xs, List.forall_mem_cons.mpr ⟨k_113_113 L xs, List.forall_mem_cons.mpr ⟨k_113_116 L xs, List.forall_mem_cons.mpr ⟨k_113_119 L xs, List.forall_mem_cons.mpr ⟨k_113_120 L xs, List.forall_mem_cons.mpr ⟨k_113_123 L xs, List.forall_mem_cons.mpr ⟨k_113_124 L xs, List.forall_mem_cons.mpr ⟨k_113_125 L xs, List.forall_mem_cons.mpr ⟨k_113_128 L xs, List.forall_mem_cons.mpr ⟨k_113_129 L xs, List.forall_mem_cons.mpr ⟨k_113_130 L xs, List.forall_mem_cons.mpr ⟨k_113_131 L xs, List.forall_mem_cons.mpr ⟨k_113_134 L xs, List.forall_mem_cons.mpr ⟨k_113_135 L xs, List.forall_mem_cons.mpr ⟨k_113_136 L xs, List.forall_mem_cons.mpr ⟨k_113_137 L xs, List.forall_mem_cons.mpr ⟨k_113_140 L xs, List.forall_mem_cons.mpr ⟨k_113_143 L xs, List.forall_mem_cons.mpr ⟨k_113_146 L xs, List.forall_mem_cons.mpr ⟨k_113_147 L xs, List.forall_mem_cons.mpr ⟨k_113_150 L xs, List.forall_mem_cons.mpr ⟨k_113_151 L xs, List.forall_mem_cons.mpr ⟨k_113_152 L xs, List.forall_mem_cons.mpr ⟨k_113_155 L xs, List.forall_mem_cons.mpr ⟨k_113_156 L xs, List.forall_mem_cons.mpr ⟨k_113_157 L xs, List.forall_mem_cons.mpr ⟨k_113_158 L xs, List.forall_mem_cons.mpr ⟨k_113_161 L xs, List.forall_mem_cons.mpr ⟨k_113_162 L xs, List.forall_mem_cons.mpr ⟨k_113_163 L xs, List.forall_mem_cons.mpr ⟨k_113_166 L xs, List.forall_mem_cons.mpr ⟨k_113_169 L xs, List.forall_mem_cons.mpr ⟨k_113_170 L xs, List.forall_mem_cons.mpr ⟨k_113_173 L xs, List.forall_mem_cons.mpr ⟨k_113_174 L xs, List.forall_mem_cons.mpr ⟨k_113_177 L xs, List.forall_mem_cons.mpr ⟨k_113_180 L xs, List.forall_mem_cons.mpr ⟨k_113_181 L xs, List.forall_mem_cons.mpr ⟨k_113_182 L xs, List.forall_mem_cons.mpr ⟨k_113_185 L xs, List.forall_mem_cons.mpr ⟨k_113_186 L xs, List.forall_mem_cons.mpr ⟨k_113_187 L xs, List.forall_mem_cons.mpr ⟨k_113_190 L xs, List.forall_mem_cons.mpr ⟨k_113_191 L xs, List.forall_mem_cons.mpr ⟨k_113_194 L xs, List.forall_mem_cons.mpr ⟨k_113_195 L xs, List.forall_mem_cons.mpr ⟨k_113_196 L xs, List.forall_mem_cons.mpr ⟨k_113_197 L xs, List.forall_mem_cons.mpr ⟨k_113_200 L xs, List.forall_mem_cons.mpr ⟨k_113_201 L xs, List.forall_mem_cons.mpr ⟨k_113_204 L xs, List.forall_mem_cons.mpr ⟨k_113_205 L xs, List.forall_mem_cons.mpr ⟨k_113_208 L xs, List.forall_mem_cons.mpr ⟨k_113_209 L xs, List.forall_mem_cons.mpr ⟨k_113_210 L xs, List.forall_mem_cons.mpr ⟨k_113_212 L xs, List.forall_mem_cons.mpr ⟨k_113_215 L xs, List.forall_mem_cons.mpr ⟨k_113_216 L xs, List.forall_mem_cons.mpr ⟨k_113_217 L xs, List.forall_mem_cons.mpr ⟨k_113_218 L xs, List.forall_mem_cons.mpr ⟨k_113_219 L xs, List.forall_mem_cons.mpr ⟨k_113_222 L xs, List.forall_mem_cons.mpr ⟨k_113_223 L xs, List.forall_mem_cons.mpr ⟨k_113_226 L xs, List.forall_mem_cons.mpr ⟨k_113_227 L xs, List.forall_mem_cons.mpr ⟨k_113_228 L xs, List.forall_mem_cons.mpr ⟨k_113_231 L xs, List.forall_mem_cons.mpr ⟨k_113_234 L xs, List.forall_mem_cons.mpr ⟨k_113_235 L xs, List.forall_mem_cons.mpr ⟨k_113_236 L xs, List.forall_mem_cons.mpr ⟨k_113_239 L xs, List.forall_mem_cons.mpr ⟨k_113_242 L xs, List.forall_mem_cons.mpr ⟨k_113_245 L xs, List.forall_mem_cons.mpr ⟨k_113_246 L xs, List.forall_mem_cons.mpr ⟨k_113_247 L xs, List.forall_mem_cons.mpr ⟨k_113_248 L xs, List.forall_mem_cons.mpr ⟨k_113_249 L xs, List.forall_mem_cons.mpr ⟨k_113_252 L xs, List.forall_mem_cons.mpr ⟨k_113_253 L xs, List.forall_mem_cons.mpr ⟨k_113_256 L xs, List.forall_mem_cons.mpr ⟨k_113_259 L xs, List.forall_mem_cons.mpr ⟨k_113_260 L xs, List.forall_mem_cons.mpr ⟨k_113_261 L xs, List.forall_mem_cons.mpr ⟨k_113_262 L xs, List.forall_mem_cons.mpr ⟨k_113_265 L xs, List.forall_mem_cons.mpr ⟨k_113_268 L xs, List.forall_mem_cons.mpr ⟨k_113_269 L xs, List.forall_mem_cons.mpr ⟨k_113_270 L xs, List.forall_mem_cons.mpr ⟨k_113_273 L xs, List.forall_mem_cons.mpr ⟨k_113_276 L xs, List.forall_mem_cons.mpr ⟨k_113_279 L xs, List.forall_mem_cons.mpr ⟨k_113_282 L xs, fun _ h => absurd h List.not_mem_nil⟩⟩⟩⟩⟩⟩⟩⟩⟩⟩⟩⟩⟩⟩⟩⟩⟩⟩⟩⟩⟩⟩⟩⟩⟩⟩⟩⟩⟩⟩⟩⟩⟩⟩⟩⟩⟩⟩⟩⟩⟩⟩⟩⟩⟩⟩⟩⟩⟩⟩⟩⟩⟩⟩⟩⟩⟩⟩⟩⟩⟩⟩⟩⟩⟩⟩⟩⟩⟩⟩⟩⟩⟩⟩⟩⟩⟩⟩⟩⟩⟩⟩⟩⟩⟩⟩⟩⟩⟩⟩⟩⟩⟩⟩⟩⟩⟩⟩⟩⟩⟩⟩⟩⟩⟩⟩⟩⟩⟩⟩⟩⟩⟩⟩⟩⟩⟩⟩⟩⟩⟩⟩⟩⟩⟩⟩⟩⟩⟩⟩⟩⟩⟩⟩⟩⟩⟩⟩⟩⟩⟩⟩⟩⟩⟩⟩⟩⟩⟩⟩⟩
/-- InclusionProver.write.(J)I -/
def cd_114 : List (Nat × ll_O) := [
  (0, .inl (lo_lload 1 1)),
  (1, .inr (.inl (142, 1, 4))),
  (4, .inl (lo_istore 5 3)),
  (5, .inl (lo_aload 6 0)),
  (6, .inl (lo_getf 9 10 8)),
  (9, .inl (lo_getf 12 3 0)),
  (12, .inl (lo_astore 14 4)),
  (14, .inl (lo_aload 16 4)),
  (16, .inl (lo_getf 19 7 1)),
  (19, .inl (lo_iload 20 3)),
  (20, .inl (lo_bin 21 (fun x y => x + y))),
  (21, .inl (lo_push 23 (.int 60))),
  (23, .inl (lo_cmp 28 26 (fun x y => decide (x ≤ y)))),
  (26, .inl (lo_push 27 (.int (-1)))),
  (27, .inr (.inr 1)),
  (28, .inl (lo_push 29 (.int 0))),
  (29, .inl (lo_istore 31 5)),
  (31, .inl (lo_iload 33 5)),
  (33, .inl (lo_iload 34 3)),
  (34, .inl (lo_cmp 54 37 (fun x y => decide (y ≤ x)))),
  (37, .inl (lo_aload 39 4)),
  (39, .inl (lo_lload 40 1)),
  (40, .inl (lo_iload 42 5)),
  (42, .inr (.inl (141, 2, 45))),
  (45, .inr (.inl (72, 2, 48))),
  (48, .inl (lo_iinc 51 5 1)),
  (51, .inl (lo_goto 31)),
  (54, .inl (lo_aload 56 4)),
  (56, .inl (lo_getf 59 7 1)),
  (59, .inr (.inr 1))]
theorem k_114_0 (L : Nat) (xs : Nat → Int32) : ll_OK1 cX10_write RX10 (some .int) false ll_mN ll_mR ll_mK ll_cnt L xs false 0 (.inl (lo_lload 1 1)) := lk_lload_n (k := 1) (by decide +kernel) rfl
theorem k_114_1 (L : Nat) (xs : Nat → Int32) : ll_OK1 cX10_write RX10 (some .int) false ll_mN ll_mR ll_mK ll_cnt L xs false 1 (.inr (.inl (142, 1, 4))) := ⟨rfl, by decide, by rw [mN_142, mK_142, mR_142]; exact lj_s 111 (by decide +kernel) tb_497 tb_498 (by decide +kernel)⟩
theorem k_114_4 (L : Nat) (xs : Nat → Int32) : ll_OK1 cX10_write RX10 (some .int) false ll_mN ll_mR ll_mK ll_cnt L xs false 4 (.inl (lo_istore 5 3)) := lk_istore_n (k := 3) (by decide +kernel) rfl
theorem k_114_5 (L : Nat) (xs : Nat → Int32) : ll_OK1 cX10_write RX10 (some .int) false ll_mN ll_mR ll_mK ll_cnt L xs false 5 (.inl (lo_aload 6 0)) := lk_aload_n (k := 0) (by decide +kernel) rfl
theorem k_114_6 (L : Nat) (xs : Nat → Int32) : ll_OK1 cX10_write RX10 (some .int) false ll_mN ll_mR ll_mK ll_cnt L xs false 6 (.inl (lo_getf 9 10 8)) := lk_getf (ix := 81) (ci := 10) (k := 8) (C := RX10) (T := TX10) (N := 11) (by decide +kernel) rfl in_10 (by decide) tb_485
theorem k_114_9 (L : Nat) (xs : Nat → Int32) : ll_OK1 cX10_write RX10 (some .int) false ll_mN ll_mR ll_mK ll_cnt L xs false 9 (.inl (lo_getf 12 3 0)) := lk_getf (ix := 115) (ci := 3) (k := 0) (C := RX3) (T := TX3) (N := 5) (by decide +kernel) rfl in_3 (by decide) tb_499
theorem k_114_12 (L : Nat) (xs : Nat → Int32) : ll_OK1 cX10_write RX10 (some .int) false ll_mN ll_mR ll_mK ll_cnt L xs false 12 (.inl (lo_astore 14 4)) := lk_astore (by decide +kernel)
theorem k_114_14 (L : Nat) (xs : Nat → Int32) : ll_OK1 cX10_write RX10 (some .int) false ll_mN ll_mR ll_mK ll_cnt L xs false 14 (.inl (lo_aload 16 4)) := lk_aload (by decide +kernel)
theorem k_114_16 (L : Nat) (xs : Nat → Int32) : ll_OK1 cX10_write RX10 (some .int) false ll_mN ll_mR ll_mK ll_cnt L xs false 16 (.inl (lo_getf 19 7 1)) := lk_getf (ix := 118) (ci := 7) (k := 1) (C := RX7) (T := TX7) (N := 2) (by decide +kernel) rfl in_7 (by decide) tb_500
theorem k_114_19 (L : Nat) (xs : Nat → Int32) : ll_OK1 cX10_write RX10 (some .int) false ll_mN ll_mR ll_mK ll_cnt L xs false 19 (.inl (lo_iload 20 3)) := lk_iload_n (k := 3) (by decide +kernel) rfl
theorem k_114_20 (L : Nat) (xs : Nat → Int32) : ll_OK1 cX10_write RX10 (some .int) false ll_mN ll_mR ll_mK ll_cnt L xs false 20 (.inl (lo_bin 21 (fun x y => x + y))) := lk_iadd (by decide +kernel)
theorem k_114_21 (L : Nat) (xs : Nat → Int32) : ll_OK1 cX10_write RX10 (some .int) false ll_mN ll_mR ll_mK ll_cnt L xs false 21 (.inl (lo_push 23 (.int 60))) := lk_bipush (n := 60) (by decide +kernel) (by decide)
theorem k_114_23 (L : Nat) (xs : Nat → Int32) : ll_OK1 cX10_write RX10 (some .int) false ll_mN ll_mR ll_mK ll_cnt L xs false 23 (.inl (lo_cmp 28 26 (fun x y => decide (x ≤ y)))) := lk_icmp_le (off := 5) (by decide +kernel) rfl
theorem k_114_26 (L : Nat) (xs : Nat → Int32) : ll_OK1 cX10_write RX10 (some .int) false ll_mN ll_mR ll_mK ll_cnt L xs false 26 (.inl (lo_push 27 (.int (-1)))) := lk_iconst (n := (-1)) (by decide +kernel) (by decide)
theorem k_114_27 (L : Nat) (xs : Nat → Int32) : ll_OK1 cX10_write RX10 (some .int) false ll_mN ll_mR ll_mK ll_cnt L xs false 27 (.inr (.inr 1)) := ⟨(fun h => by cases h), (fun _ => ⟨(by decide +kernel), rfl⟩), fun h => by cases h⟩
theorem k_114_28 (L : Nat) (xs : Nat → Int32) : ll_OK1 cX10_write RX10 (some .int) false ll_mN ll_mR ll_mK ll_cnt L xs false 28 (.inl (lo_push 29 (.int 0))) := lk_iconst (n := 0) (by decide +kernel) (by decide)
theorem k_114_29 (L : Nat) (xs : Nat → Int32) : ll_OK1 cX10_write RX10 (some .int) false ll_mN ll_mR ll_mK ll_cnt L xs false 29 (.inl (lo_istore 31 5)) := lk_istore (by decide +kernel)
theorem k_114_31 (L : Nat) (xs : Nat → Int32) : ll_OK1 cX10_write RX10 (some .int) false ll_mN ll_mR ll_mK ll_cnt L xs false 31 (.inl (lo_iload 33 5)) := lk_iload (by decide +kernel)
theorem k_114_33 (L : Nat) (xs : Nat → Int32) : ll_OK1 cX10_write RX10 (some .int) false ll_mN ll_mR ll_mK ll_cnt L xs false 33 (.inl (lo_iload 34 3)) := lk_iload_n (k := 3) (by decide +kernel) rfl
theorem k_114_34 (L : Nat) (xs : Nat → Int32) : ll_OK1 cX10_write RX10 (some .int) false ll_mN ll_mR ll_mK ll_cnt L xs false 34 (.inl (lo_cmp 54 37 (fun x y => decide (y ≤ x)))) := lk_icmp_ge (off := 20) (by decide +kernel) rfl
theorem k_114_37 (L : Nat) (xs : Nat → Int32) : ll_OK1 cX10_write RX10 (some .int) false ll_mN ll_mR ll_mK ll_cnt L xs false 37 (.inl (lo_aload 39 4)) := lk_aload (by decide +kernel)
theorem k_114_39 (L : Nat) (xs : Nat → Int32) : ll_OK1 cX10_write RX10 (some .int) false ll_mN ll_mR ll_mK ll_cnt L xs false 39 (.inl (lo_lload 40 1)) := lk_lload_n (k := 1) (by decide +kernel) rfl
theorem k_114_40 (L : Nat) (xs : Nat → Int32) : ll_OK1 cX10_write RX10 (some .int) false ll_mN ll_mR ll_mK ll_cnt L xs false 40 (.inl (lo_iload 42 5)) := lk_iload (by decide +kernel)
theorem k_114_42 (L : Nat) (xs : Nat → Int32) : ll_OK1 cX10_write RX10 (some .int) false ll_mN ll_mR ll_mK ll_cnt L xs false 42 (.inr (.inl (141, 2, 45))) := ⟨rfl, by decide, by rw [mN_141, mK_141, mR_141]; exact lj_s 122 (by decide +kernel) tb_501 tb_502 (by decide +kernel)⟩
theorem k_114_45 (L : Nat) (xs : Nat → Int32) : ll_OK1 cX10_write RX10 (some .int) false ll_mN ll_mR ll_mK ll_cnt L xs false 45 (.inr (.inl (72, 2, 48))) := ⟨rfl, by decide, by rw [mN_72, mK_72, mR_72]; exact lj_v 126 1 7 (RX7, TX7, 2) (by decide +kernel) tb_503 tb_225 tb_226 rfl rfl rfl rfl (by decide +kernel)⟩
theorem k_114_48 (L : Nat) (xs : Nat → Int32) : ll_OK1 cX10_write RX10 (some .int) false ll_mN ll_mR ll_mK ll_cnt L xs false 48 (.inl (lo_iinc 51 5 1)) := lk_iinc (n := 1) (by decide +kernel) (by decide)
theorem k_114_51 (L : Nat) (xs : Nat → Int32) : ll_OK1 cX10_write RX10 (some .int) false ll_mN ll_mR ll_mK ll_cnt L xs false 51 (.inl (lo_goto 31)) := lk_goto (off := (-20)) (by decide +kernel) rfl
theorem k_114_54 (L : Nat) (xs : Nat → Int32) : ll_OK1 cX10_write RX10 (some .int) false ll_mN ll_mR ll_mK ll_cnt L xs false 54 (.inl (lo_aload 56 4)) := lk_aload (by decide +kernel)
theorem k_114_56 (L : Nat) (xs : Nat → Int32) : ll_OK1 cX10_write RX10 (some .int) false ll_mN ll_mR ll_mK ll_cnt L xs false 56 (.inl (lo_getf 59 7 1)) := lk_getf (ix := 118) (ci := 7) (k := 1) (C := RX7) (T := TX7) (N := 2) (by decide +kernel) rfl in_7 (by decide) tb_500
theorem k_114_59 (L : Nat) (xs : Nat → Int32) : ll_OK1 cX10_write RX10 (some .int) false ll_mN ll_mR ll_mK ll_cnt L xs false 59 (.inr (.inr 1)) := ⟨(fun h => by cases h), (fun _ => ⟨(by decide +kernel), rfl⟩), fun h => by cases h⟩
theorem ok_114 (L : Nat) (xs : Nat → Int32) : ∀ q ∈ cd_114, ll_OK1 cX10_write RX10 (some .int) false ll_mN ll_mR ll_mK ll_cnt L xs false q.1 q.2 :=
  List.forall_mem_cons.mpr ⟨k_114_0 L xs, List.forall_mem_cons.mpr ⟨k_114_1 L xs, List.forall_mem_cons.mpr ⟨k_114_4 L xs, List.forall_mem_cons.mpr ⟨k_114_5 L xs, List.forall_mem_cons.mpr ⟨k_114_6 L xs, List.forall_mem_cons.mpr ⟨k_114_9 L xs, List.forall_mem_cons.mpr ⟨k_114_12 L xs, List.forall_mem_cons.mpr ⟨k_114_14 L xs, List.forall_mem_cons.mpr ⟨k_114_16 L xs, List.forall_mem_cons.mpr ⟨k_114_19 L xs, List.forall_mem_cons.mpr ⟨k_114_20 L xs, List.forall_mem_cons.mpr ⟨k_114_21 L xs, List.forall_mem_cons.mpr ⟨k_114_23 L xs, List.forall_mem_cons.mpr ⟨k_114_26 L xs, List.forall_mem_cons.mpr ⟨k_114_27 L xs, List.forall_mem_cons.mpr ⟨k_114_28 L xs, List.forall_mem_cons.mpr ⟨k_114_29 L xs, List.forall_mem_cons.mpr ⟨k_114_31 L xs, List.forall_mem_cons.mpr ⟨k_114_33 L xs, List.forall_mem_cons.mpr ⟨k_114_34 L xs, List.forall_mem_cons.mpr ⟨k_114_37 L xs, List.forall_mem_cons.mpr ⟨k_114_39 L xs, List.forall_mem_cons.mpr ⟨k_114_40 L xs, List.forall_mem_cons.mpr ⟨k_114_42 L xs, List.forall_mem_cons.mpr ⟨k_114_45 L xs, List.forall_mem_cons.mpr ⟨k_114_48 L xs, List.forall_mem_cons.mpr ⟨k_114_51 L xs, List.forall_mem_cons.mpr ⟨k_114_54 L xs, List.forall_mem_cons.mpr ⟨k_114_56 L xs, List.forall_mem_cons.mpr ⟨k_114_59 L xs, fun _ h => absurd h List.not_mem_nil⟩⟩⟩⟩⟩⟩⟩⟩⟩⟩⟩⟩⟩⟩⟩⟩⟩⟩⟩⟩⟩⟩⟩⟩⟩⟩⟩⟩⟩⟩
/-- InclusionProver.side.(I)I -/
def cd_115 : List (Nat × ll_O) := [
  (0, .inl (lo_aload 1 0)),
  (1, .inl (lo_getf 4 10 8)),
  (4, .inl (lo_getf 7 3 0)),
  (7, .inl (lo_astore 8 2)),
  (8, .inl (lo_aload 9 2)),
  (9, .inl (lo_getf 12 7 1)),
  (12, .inl (lo_istore 13 3)),
  (13, .inl (lo_push 14 (.int 0))),
  (14, .inl (lo_istore 16 4)),
  (16, .inl (lo_aload 17 0)),
  (17, .inl (lo_getf 20 10 8)),
  (20, .inl (lo_push 21 (.int (-1)))),
  (21, .inl (lo_putf 24 3 4 0)),
  (24, .inl (lo_iload 25 1)),
  (25, .inr (.inl (138, 1, 28))),
  (28, .inl (lo_if 61 31 (fun x => decide (x = 0)))),
  (31, .inl (lo_aload 32 0)),
  (32, .inl (lo_getf 35 10 0)),
  (35, .inl (lo_aload 36 2)),
  (36, .inl (lo_iload 37 3)),
  (37, .inl (lo_push 39 (.int 30))),
  (39, .inl (lo_mm 42 (fun x y => if y < x then y else x))),
  (42, .inr (.inl (22, 3, 45))),
  (45, .inl (lo_istore 47 4)),
  (47, .inl (lo_aload 48 0)),
  (48, .inl (lo_getf 51 10 8)),
  (51, .inl (lo_aload 52 0)),
  (52, .inl (lo_iload 54 4)),
  (54, .inl (lo_iload 55 3)),
  (55, .inr (.inl (144, 3, 58))),
  (58, .inl (lo_putf 61 3 4 0)),
  (61, .inl (lo_aload 62 2)),
  (62, .inr (.inl (71, 1, 65))),
  (65, .inl (lo_iload 66 1)),
  (66, .inr (.inl (138, 1, 69))),
  (69, .inl (lo_if 83 72 (fun x => decide (x = 0)))),
  (72, .inl (lo_aload 73 0)),
  (73, .inl (lo_getf 76 10 8)),
  (76, .inl (lo_getf 79 3 4)),
  (79, .inl (lo_push 80 (.int (-1)))),
  (80, .inl (lo_cmp 85 83 (fun x y => decide (x = y)))),
  (83, .inl (lo_push 84 (.int (-1)))),
  (84, .inr (.inr 1)),
  (85, .inl (lo_aload 86 0)),
  (86, .inl (lo_iload 87 1)),
  (87, .inl (lo_iload 89 4)),
  (89, .inr (.inl (145, 3, 92))),
  (92, .inr (.inr 1))]
theorem k_115_0 (L : Nat) (xs : Nat → Int32) : ll_OK1 cX10_side RX10 (some .int) false ll_mN ll_mR ll_mK ll_cnt L xs false 0 (.inl (lo_aload 1 0)) := lk_aload_n (k := 0) (by decide +kernel) rfl
theorem k_115_1 (L : Nat) (xs : Nat → Int32) : ll_OK1 cX10_side RX10 (some .int) false ll_mN ll_mR ll_mK ll_cnt L xs false 1 (.inl (lo_getf 4 10 8)) := lk_getf (ix := 81) (ci := 10) (k := 8) (C := RX10) (T := TX10) (N := 11) (by decide +kernel) rfl in_10 (by decide) tb_485
theorem k_115_4 (L : Nat) (xs : Nat → Int32) : ll_OK1 cX10_side RX10 (some .int) false ll_mN ll_mR ll_mK ll_cnt L xs false 4 (.inl (lo_getf 7 3 0)) := lk_getf (ix := 115) (ci := 3) (k := 0) (C := RX3) (T := TX3) (N := 5) (by decide +kernel) rfl in_3 (by decide) tb_499
theorem k_115_7 (L : Nat) (xs : Nat → Int32) : ll_OK1 cX10_side RX10 (some .int) false ll_mN ll_mR ll_mK ll_cnt L xs false 7 (.inl (lo_astore 8 2)) := lk_astore_n (k := 2) (by decide +kernel) rfl
theorem k_115_8 (L : Nat) (xs : Nat → Int32) : ll_OK1 cX10_side RX10 (some .int) false ll_mN ll_mR ll_mK ll_cnt L xs false 8 (.inl (lo_aload 9 2)) := lk_aload_n (k := 2) (by decide +kernel) rfl
theorem k_115_9 (L : Nat) (xs : Nat → Int32) : ll_OK1 cX10_side RX10 (some .int) false ll_mN ll_mR ll_mK ll_cnt L xs false 9 (.inl (lo_getf 12 7 1)) := lk_getf (ix := 118) (ci := 7) (k := 1) (C := RX7) (T := TX7) (N := 2) (by decide +kernel) rfl in_7 (by decide) tb_500
theorem k_115_12 (L : Nat) (xs : Nat → Int32) : ll_OK1 cX10_side RX10 (some .int) false ll_mN ll_mR ll_mK ll_cnt L xs false 12 (.inl (lo_istore 13 3)) := lk_istore_n (k := 3) (by decide +kernel) rfl
theorem k_115_13 (L : Nat) (xs : Nat → Int32) : ll_OK1 cX10_side RX10 (some .int) false ll_mN ll_mR ll_mK ll_cnt L xs false 13 (.inl (lo_push 14 (.int 0))) := lk_iconst (n := 0) (by decide +kernel) (by decide)
theorem k_115_14 (L : Nat) (xs : Nat → Int32) : ll_OK1 cX10_side RX10 (some .int) false ll_mN ll_mR ll_mK ll_cnt L xs false 14 (.inl (lo_istore 16 4)) := lk_istore (by decide +kernel)
theorem k_115_16 (L : Nat) (xs : Nat → Int32) : ll_OK1 cX10_side RX10 (some .int) false ll_mN ll_mR ll_mK ll_cnt L xs false 16 (.inl (lo_aload 17 0)) := lk_aload_n (k := 0) (by decide +kernel) rfl
theorem k_115_17 (L : Nat) (xs : Nat → Int32) : ll_OK1 cX10_side RX10 (some .int) false ll_mN ll_mR ll_mK ll_cnt L xs false 17 (.inl (lo_getf 20 10 8)) := lk_getf (ix := 81) (ci := 10) (k := 8) (C := RX10) (T := TX10) (N := 11) (by decide +kernel) rfl in_10 (by decide) tb_485
theorem k_115_20 (L : Nat) (xs : Nat → Int32) : ll_OK1 cX10_side RX10 (some .int) false ll_mN ll_mR ll_mK ll_cnt L xs false 20 (.inl (lo_push 21 (.int (-1)))) := lk_iconst (n := (-1)) (by decide +kernel) (by decide)
theorem k_115_21 (L : Nat) (xs : Nat → Int32) : ll_OK1 cX10_side RX10 (some .int) false ll_mN ll_mR ll_mK ll_cnt L xs false 21 (.inl (lo_putf 24 3 4 0)) := lk_putf (ix := 129) (ci := 3) (k := 4) (C := RX3) (T := TX3) (N := 5) (ty0 := tyX3) (by decide +kernel) rfl in_3 tyX3_ok nmX3 (by decide) tb_504 (fun B adr v w h1 h2 => ll_fit_int (B := B) (adr := adr) h1 h2) (Or.inl rfl)
theorem k_115_24 (L : Nat) (xs : Nat → Int32) : ll_OK1 cX10_side RX10 (some .int) false ll_mN ll_mR ll_mK ll_cnt L xs false 24 (.inl (lo_iload 25 1)) := lk_iload_n (k := 1) (by decide +kernel) rfl
theorem k_115_25 (L : Nat) (xs : Nat → Int32) : ll_OK1 cX10_side RX10 (some .int) false ll_mN ll_mR ll_mK ll_cnt L xs false 25 (.inr (.inl (138, 1, 28))) := ⟨rfl, by decide, by rw [mN_138, mK_138, mR_138]; exact lj_s 132 (by decide +kernel) tb_505 tb_506 (by decide +kernel)⟩
theorem k_115_28 (L : Nat) (xs : Nat → Int32) : ll_OK1 cX10_side RX10 (some .int) false ll_mN ll_mR ll_mK ll_cnt L xs false 28 (.inl (lo_if 61 31 (fun x => decide (x = 0)))) := lk_if_eq (off := 33) (by decide +kernel) rfl
theorem k_115_31 (L : Nat) (xs : Nat → Int32) : ll_OK1 cX10_side RX10 (some .int) false ll_mN ll_mR ll_mK ll_cnt L xs false 31 (.inl (lo_aload 32 0)) := lk_aload_n (k := 0) (by decide +kernel) rfl
theorem k_115_32 (L : Nat) (xs : Nat → Int32) : ll_OK1 cX10_side RX10 (some .int) false ll_mN ll_mR ll_mK ll_cnt L xs false 32 (.inl (lo_getf 35 10 0)) := lk_getf (ix := 26) (ci := 10) (k := 0) (C := RX10) (T := TX10) (N := 11) (by decide +kernel) rfl in_10 (by decide) tb_450
theorem k_115_35 (L : Nat) (xs : Nat → Int32) : ll_OK1 cX10_side RX10 (some .int) false ll_mN ll_mR ll_mK ll_cnt L xs false 35 (.inl (lo_aload 36 2)) := lk_aload_n (k := 2) (by decide +kernel) rfl
theorem k_115_36 (L : Nat) (xs : Nat → Int32) : ll_OK1 cX10_side RX10 (some .int) false ll_mN ll_mR ll_mK ll_cnt L xs false 36 (.inl (lo_iload 37 3)) := lk_iload_n (k := 3) (by decide +kernel) rfl
theorem k_115_37 (L : Nat) (xs : Nat → Int32) : ll_OK1 cX10_side RX10 (some .int) false ll_mN ll_mR ll_mK ll_cnt L xs false 37 (.inl (lo_push 39 (.int 30))) := lk_bipush (n := 30) (by decide +kernel) (by decide)
theorem k_115_39 (L : Nat) (xs : Nat → Int32) : ll_OK1 cX10_side RX10 (some .int) false ll_mN ll_mR ll_mK ll_cnt L xs false 39 (.inl (lo_mm 42 (fun x y => if y < x then y else x))) := lk_min (ix := 136) (by decide +kernel) tb_507 tb_347 tb_220 tb_348
theorem k_115_42 (L : Nat) (xs : Nat → Int32) : ll_OK1 cX10_side RX10 (some .int) false ll_mN ll_mR ll_mK ll_cnt L xs false 42 (.inr (.inl (22, 3, 45))) := ⟨rfl, by decide, by rw [mN_22, mK_22, mR_22]; exact lj_v 142 2 2 (RX2, TX2, 5) (by decide +kernel) tb_508 tb_509 tb_510 rfl rfl rfl rfl (by decide +kernel)⟩
theorem k_115_45 (L : Nat) (xs : Nat → Int32) : ll_OK1 cX10_side RX10 (some .int) false ll_mN ll_mR ll_mK ll_cnt L xs false 45 (.inl (lo_istore 47 4)) := lk_istore (by decide +kernel)
theorem k_115_47 (L : Nat) (xs : Nat → Int32) : ll_OK1 cX10_side RX10 (some .int) false ll_mN ll_mR ll_mK ll_cnt L xs false 47 (.inl (lo_aload 48 0)) := lk_aload_n (k := 0) (by decide +kernel) rfl
theorem k_115_48 (L : Nat) (xs : Nat → Int32) : ll_OK1 cX10_side RX10 (some .int) false ll_mN ll_mR ll_mK ll_cnt L xs false 48 (.inl (lo_getf 51 10 8)) := lk_getf (ix := 81) (ci := 10) (k := 8) (C := RX10) (T := TX10) (N := 11) (by decide +kernel) rfl in_10 (by decide) tb_485
theorem k_115_51 (L : Nat) (xs : Nat → Int32) : ll_OK1 cX10_side RX10 (some .int) false ll_mN ll_mR ll_mK ll_cnt L xs false 51 (.inl (lo_aload 52 0)) := lk_aload_n (k := 0) (by decide +kernel) rfl
theorem k_115_52 (L : Nat) (xs : Nat → Int32) : ll_OK1 cX10_side RX10 (some .int) false ll_mN ll_mR ll_mK ll_cnt L xs false 52 (.inl (lo_iload 54 4)) := lk_iload (by decide +kernel)
theorem k_115_54 (L : Nat) (xs : Nat → Int32) : ll_OK1 cX10_side RX10 (some .int) false ll_mN ll_mR ll_mK ll_cnt L xs false 54 (.inl (lo_iload 55 3)) := lk_iload_n (k := 3) (by decide +kernel) rfl
theorem k_115_55 (L : Nat) (xs : Nat → Int32) : ll_OK1 cX10_side RX10 (some .int) false ll_mN ll_mR ll_mK ll_cnt L xs false 55 (.inr (.inl (144, 3, 58))) := ⟨rfl, by decide, by rw [mN_144, mK_144, mR_144]; exact lj_v 146 2 10 (RX10, TX10, 11) (by decide +kernel) tb_511 tb_512 tb_513 rfl rfl rfl rfl (by decide +kernel)⟩
theorem k_115_58 (L : Nat) (xs : Nat → Int32) : ll_OK1 cX10_side RX10 (some .int) false ll_mN ll_mR ll_mK ll_cnt L xs false 58 (.inl (lo_putf 61 3 4 0)) := lk_putf (ix := 129) (ci := 3) (k := 4) (C := RX3) (T := TX3) (N := 5) (ty0 := tyX3) (by decide +kernel) rfl in_3 tyX3_ok nmX3 (by decide) tb_504 (fun B adr v w h1 h2 => ll_fit_int (B := B) (adr := adr) h1 h2) (Or.inl rfl)
theorem k_115_61 (L : Nat) (xs : Nat → Int32) : ll_OK1 cX10_side RX10 (some .int) false ll_mN ll_mR ll_mK ll_cnt L xs false 61 (.inl (lo_aload 62 2)) := lk_aload_n (k := 2) (by decide +kernel) rfl
theorem k_115_62 (L : Nat) (xs : Nat → Int32) : ll_OK1 cX10_side RX10 (some .int) false ll_mN ll_mR ll_mK ll_cnt L xs false 62 (.inr (.inl (71, 1, 65))) := ⟨rfl, by decide, by rw [mN_71, mK_71, mR_71]; exact lj_v 149 0 7 (RX7, TX7, 2) (by decide +kernel) tb_514 tb_80 tb_81 rfl rfl rfl rfl (by decide +kernel)⟩
theorem k_115_65 (L : Nat) (xs : Nat → Int32) : ll_OK1 cX10_side RX10 (some .int) false ll_mN ll_mR ll_mK ll_cnt L xs false 65 (.inl (lo_iload 66 1)) := lk_iload_n (k := 1) (by decide +kernel) rfl
theorem k_115_66 (L : Nat) (xs : Nat → Int32) : ll_OK1 cX10_side RX10 (some .int) false ll_mN ll_mR ll_mK ll_cnt L xs false 66 (.inr (.inl (138, 1, 69))) := ⟨rfl, by decide, by rw [mN_138, mK_138, mR_138]; exact lj_s 132 (by decide +kernel) tb_505 tb_506 (by decide +kernel)⟩
theorem k_115_69 (L : Nat) (xs : Nat → Int32) : ll_OK1 cX10_side RX10 (some .int) false ll_mN ll_mR ll_mK ll_cnt L xs false 69 (.inl (lo_if 83 72 (fun x => decide (x = 0)))) := lk_if_eq (off := 14) (by decide +kernel) rfl
theorem k_115_72 (L : Nat) (xs : Nat → Int32) : ll_OK1 cX10_side RX10 (some .int) false ll_mN ll_mR ll_mK ll_cnt L xs false 72 (.inl (lo_aload 73 0)) := lk_aload_n (k := 0) (by decide +kernel) rfl
theorem k_115_73 (L : Nat) (xs : Nat → Int32) : ll_OK1 cX10_side RX10 (some .int) false ll_mN ll_mR ll_mK ll_cnt L xs false 73 (.inl (lo_getf 76 10 8)) := lk_getf (ix := 81) (ci := 10) (k := 8) (C := RX10) (T := TX10) (N := 11) (by decide +kernel) rfl in_10 (by decide) tb_485
theorem k_115_76 (L : Nat) (xs : Nat → Int32) : ll_OK1 cX10_side RX10 (some .int) false ll_mN ll_mR ll_mK ll_cnt L xs false 76 (.inl (lo_getf 79 3 4)) := lk_getf (ix := 129) (ci := 3) (k := 4) (C := RX3) (T := TX3) (N := 5) (by decide +kernel) rfl in_3 (by decide) tb_504
theorem k_115_79 (L : Nat) (xs : Nat → Int32) : ll_OK1 cX10_side RX10 (some .int) false ll_mN ll_mR ll_mK ll_cnt L xs false 79 (.inl (lo_push 80 (.int (-1)))) := lk_iconst (n := (-1)) (by decide +kernel) (by decide)
theorem k_115_80 (L : Nat) (xs : Nat → Int32) : ll_OK1 cX10_side RX10 (some .int) false ll_mN ll_mR ll_mK ll_cnt L xs false 80 (.inl (lo_cmp 85 83 (fun x y => decide (x = y)))) := lk_icmp_eq (off := 5) (by decide +kernel) rfl
theorem k_115_83 (L : Nat) (xs : Nat → Int32) : ll_OK1 cX10_side RX10 (some .int) false ll_mN ll_mR ll_mK ll_cnt L xs false 83 (.inl (lo_push 84 (.int (-1)))) := lk_iconst (n := (-1)) (by decide +kernel) (by decide)
theorem k_115_84 (L : Nat) (xs : Nat → Int32) : ll_OK1 cX10_side RX10 (some .int) false ll_mN ll_mR ll_mK ll_cnt L xs false 84 (.inr (.inr 1)) := ⟨(fun h => by cases h), (fun _ => ⟨(by decide +kernel), rfl⟩), fun h => by cases h⟩
theorem k_115_85 (L : Nat) (xs : Nat → Int32) : ll_OK1 cX10_side RX10 (some .int) false ll_mN ll_mR ll_mK ll_cnt L xs false 85 (.inl (lo_aload 86 0)) := lk_aload_n (k := 0) (by decide +kernel) rfl
theorem k_115_86 (L : Nat) (xs : Nat → Int32) : ll_OK1 cX10_side RX10 (some .int) false ll_mN ll_mR ll_mK ll_cnt L xs false 86 (.inl (lo_iload 87 1)) := lk_iload_n (k := 1) (by decide +kernel) rfl
theorem k_115_87 (L : Nat) (xs : Nat → Int32) : ll_OK1 cX10_side RX10 (some .int) false ll_mN ll_mR ll_mK ll_cnt L xs false 87 (.inl (lo_iload 89 4)) := lk_iload (by decide +kernel)
theorem k_115_89 (L : Nat) (xs : Nat → Int32) : ll_OK1 cX10_side RX10 (some .int) false ll_mN ll_mR ll_mK ll_cnt L xs false 89 (.inr (.inl (145, 3, 92))) := ⟨rfl, by decide, by rw [mN_145, mK_145, mR_145]; exact lj_v 152 2 10 (RX10, TX10, 11) (by decide +kernel) tb_515 tb_516 tb_517 rfl rfl rfl rfl (by decide +kernel)⟩
theorem k_115_92 (L : Nat) (xs : Nat → Int32) : ll_OK1 cX10_side RX10 (some .int) false ll_mN ll_mR ll_mK ll_cnt L xs false 92 (.inr (.inr 1)) := ⟨(fun h => by cases h), (fun _ => ⟨(by decide +kernel), rfl⟩), fun h => by cases h⟩
theorem ok_115 (L : Nat) (xs : Nat → Int32) : ∀ q ∈ cd_115, ll_OK1 cX10_side RX10 (some .int) false ll_mN ll_mR ll_mK ll_cnt L xs false q.1 q.2 :=
  List.forall_mem_cons.mpr ⟨k_115_0 L xs, List.forall_mem_cons.mpr ⟨k_115_1 L xs, List.forall_mem_cons.mpr ⟨k_115_4 L xs, List.forall_mem_cons.mpr ⟨k_115_7 L xs, List.forall_mem_cons.mpr ⟨k_115_8 L xs, List.forall_mem_cons.mpr ⟨k_115_9 L xs, List.forall_mem_cons.mpr ⟨k_115_12 L xs, List.forall_mem_cons.mpr ⟨k_115_13 L xs, List.forall_mem_cons.mpr ⟨k_115_14 L xs, List.forall_mem_cons.mpr ⟨k_115_16 L xs, List.forall_mem_cons.mpr ⟨k_115_17 L xs, List.forall_mem_cons.mpr ⟨k_115_20 L xs, List.forall_mem_cons.mpr ⟨k_115_21 L xs, List.forall_mem_cons.mpr ⟨k_115_24 L xs, List.forall_mem_cons.mpr ⟨k_115_25 L xs, List.forall_mem_cons.mpr ⟨k_115_28 L xs, List.forall_mem_cons.mpr ⟨k_115_31 L xs, List.forall_mem_cons.mpr ⟨k_115_32 L xs, List.forall_mem_cons.mpr ⟨k_115_35 L xs, List.forall_mem_cons.mpr ⟨k_115_36 L xs, List.forall_mem_cons.mpr ⟨k_115_37 L xs, List.forall_mem_cons.mpr ⟨k_115_39 L xs, List.forall_mem_cons.mpr ⟨k_115_42 L xs, List.forall_mem_cons.mpr ⟨k_115_45 L xs, List.forall_mem_cons.mpr ⟨k_115_47 L xs, List.forall_mem_cons.mpr ⟨k_115_48 L xs, List.forall_mem_cons.mpr ⟨k_115_51 L xs, List.forall_mem_cons.mpr ⟨k_115_52 L xs, List.forall_mem_cons.mpr ⟨k_115_54 L xs, List.forall_mem_cons.mpr ⟨k_115_55 L xs, List.forall_mem_cons.mpr ⟨k_115_58 L xs, List.forall_mem_cons.mpr ⟨k_115_61 L xs, List.forall_mem_cons.mpr ⟨k_115_62 L xs, List.forall_mem_cons.mpr ⟨k_115_65 L xs, List.forall_mem_cons.mpr ⟨k_115_66 L xs, List.forall_mem_cons.mpr ⟨k_115_69 L xs, List.forall_mem_cons.mpr ⟨k_115_72 L xs, List.forall_mem_cons.mpr ⟨k_115_73 L xs, List.forall_mem_cons.mpr ⟨k_115_76 L xs, List.forall_mem_cons.mpr ⟨k_115_79 L xs, List.forall_mem_cons.mpr ⟨k_115_80 L xs, List.forall_mem_cons.mpr ⟨k_115_83 L xs, List.forall_mem_cons.mpr ⟨k_115_84 L xs, List.forall_mem_cons.mpr ⟨k_115_85 L xs, List.forall_mem_cons.mpr ⟨k_115_86 L xs, List.forall_mem_cons.mpr ⟨k_115_87 L xs, List.forall_mem_cons.mpr ⟨k_115_89 L xs, List.forall_mem_cons.mpr ⟨k_115_92 L xs, fun _ h => absurd h List.not_mem_nil⟩⟩⟩⟩⟩⟩⟩⟩⟩⟩⟩⟩⟩⟩⟩⟩⟩⟩⟩⟩⟩⟩⟩⟩⟩⟩⟩⟩⟩⟩⟩⟩⟩⟩⟩⟩⟩⟩⟩⟩⟩⟩⟩⟩⟩⟩⟩⟩
/-- InclusionProver.fault.()I -/
def cd_116 : List (Nat × ll_O) := [
  (0, .inl (lo_aload 1 0)),
  (1, .inl (lo_getf 4 10 8)),
  (4, .inl (lo_getf 7 3 4)),
  (7, .inr (.inr 1))]
theorem k_116_0 (L : Nat) (xs : Nat → Int32) : ll_OK1 cX10_fault RX10 (some .int) false ll_mN ll_mR ll_mK ll_cnt L xs false 0 (.inl (lo_aload 1 0)) := lk_aload_n (k := 0) (by decide +kernel) rfl
theorem k_116_1 (L : Nat) (xs : Nat → Int32) : ll_OK1 cX10_fault RX10 (some .int) false ll_mN ll_mR ll_mK ll_cnt L xs false 1 (.inl (lo_getf 4 10 8)) := lk_getf (ix := 81) (ci := 10) (k := 8) (C := RX10) (T := TX10) (N := 11) (by decide +kernel) rfl in_10 (by decide) tb_485
theorem k_116_4 (L : Nat) (xs : Nat → Int32) : ll_OK1 cX10_fault RX10 (some .int) false ll_mN ll_mR ll_mK ll_cnt L xs false 4 (.inl (lo_getf 7 3 4)) := lk_getf (ix := 129) (ci := 3) (k := 4) (C := RX3) (T := TX3) (N := 5) (by decide +kernel) rfl in_3 (by decide) tb_504
theorem k_116_7 (L : Nat) (xs : Nat → Int32) : ll_OK1 cX10_fault RX10 (some .int) false ll_mN ll_mR ll_mK ll_cnt L xs false 7 (.inr (.inr 1)) := ⟨(fun h => by cases h), (fun _ => ⟨(by decide +kernel), rfl⟩), fun h => by cases h⟩
theorem ok_116 (L : Nat) (xs : Nat → Int32) : ∀ q ∈ cd_116, ll_OK1 cX10_fault RX10 (some .int) false ll_mN ll_mR ll_mK ll_cnt L xs false q.1 q.2 :=
  List.forall_mem_cons.mpr ⟨k_116_0 L xs, List.forall_mem_cons.mpr ⟨k_116_1 L xs, List.forall_mem_cons.mpr ⟨k_116_4 L xs, List.forall_mem_cons.mpr ⟨k_116_7 L xs, fun _ h => absurd h List.not_mem_nil⟩⟩⟩⟩
/-- InclusionProver.swap.()V -/
def cd_117 : List (Nat × ll_O) := [
  (0, .inl (lo_aload 1 0)),
  (1, .inl (lo_getf 4 10 8)),
  (4, .inl (lo_getf 7 3 1)),
  (7, .inl (lo_push 8 (.int 0))),
  (8, .inl (lo_aald 9)),
  (9, .inl (lo_astore 10 1)),
  (10, .inl (lo_aload 11 0)),
  (11, .inl (lo_getf 14 10 8)),
  (14, .inl (lo_getf 17 3 1)),
  (17, .inl (lo_push 18 (.int 0))),
  (18, .inl (lo_aload 19 0)),
  (19, .inl (lo_getf 22 10 8)),
  (22, .inl (lo_getf 25 3 1)),
  (25, .inl (lo_push 26 (.int 1))),
  (26, .inl (lo_aald 27)),
  (27, .inl (lo_aast 28)),
  (28, .inl (lo_aload 29 0)),
  (29, .inl (lo_getf 32 10 8)),
  (32, .inl (lo_getf 35 3 1)),
  (35, .inl (lo_push 36 (.int 1))),
  (36, .inl (lo_aload 37 1)),
  (37, .inl (lo_aast 38)),
  (38, .inl (lo_aload 39 0)),
  (39, .inl (lo_getf 42 10 8)),
  (42, .inl (lo_getf 45 3 3)),
  (45, .inr (.inl (9, 1, 48))),
  (48, .inr (.inr 0))]
theorem k_117_0 (L : Nat) (xs : Nat → Int32) : ll_OK1 cX10_swap RX10 none false ll_mN ll_mR ll_mK ll_cnt L xs false 0 (.inl (lo_aload 1 0)) := lk_aload_n (k := 0) (by decide +kernel) rfl
theorem k_117_1 (L : Nat) (xs : Nat → Int32) : ll_OK1 cX10_swap RX10 none false ll_mN ll_mR ll_mK ll_cnt L xs false 1 (.inl (lo_getf 4 10 8)) := lk_getf (ix := 81) (ci := 10) (k := 8) (C := RX10) (T := TX10) (N := 11) (by decide +kernel) rfl in_10 (by decide) tb_485
theorem k_117_4 (L : Nat) (xs : Nat → Int32) : ll_OK1 cX10_swap RX10 none false ll_mN ll_mR ll_mK ll_cnt L xs false 4 (.inl (lo_getf 7 3 1)) := lk_getf (ix := 93) (ci := 3) (k := 1) (C := RX3) (T := TX3) (N := 5) (by decide +kernel) rfl in_3 (by decide) tb_490
theorem k_117_7 (L : Nat) (xs : Nat → Int32) : ll_OK1 cX10_swap RX10 none false ll_mN ll_mR ll_mK ll_cnt L xs false 7 (.inl (lo_push 8 (.int 0))) := lk_iconst (n := 0) (by decide +kernel) (by decide)
theorem k_117_8 (L : Nat) (xs : Nat → Int32) : ll_OK1 cX10_swap RX10 none false ll_mN ll_mR ll_mK ll_cnt L xs false 8 (.inl (lo_aald 9)) := lk_aald (by decide +kernel)
theorem k_117_9 (L : Nat) (xs : Nat → Int32) : ll_OK1 cX10_swap RX10 none false ll_mN ll_mR ll_mK ll_cnt L xs false 9 (.inl (lo_astore 10 1)) := lk_astore_n (k := 1) (by decide +kernel) rfl
theorem k_117_10 (L : Nat) (xs : Nat → Int32) : ll_OK1 cX10_swap RX10 none false ll_mN ll_mR ll_mK ll_cnt L xs false 10 (.inl (lo_aload 11 0)) := lk_aload_n (k := 0) (by decide +kernel) rfl
theorem k_117_11 (L : Nat) (xs : Nat → Int32) : ll_OK1 cX10_swap RX10 none false ll_mN ll_mR ll_mK ll_cnt L xs false 11 (.inl (lo_getf 14 10 8)) := lk_getf (ix := 81) (ci := 10) (k := 8) (C := RX10) (T := TX10) (N := 11) (by decide +kernel) rfl in_10 (by decide) tb_485
theorem k_117_14 (L : Nat) (xs : Nat → Int32) : ll_OK1 cX10_swap RX10 none false ll_mN ll_mR ll_mK ll_cnt L xs false 14 (.inl (lo_getf 17 3 1)) := lk_getf (ix := 93) (ci := 3) (k := 1) (C := RX3) (T := TX3) (N := 5) (by decide +kernel) rfl in_3 (by decide) tb_490
theorem k_117_17 (L : Nat) (xs : Nat → Int32) : ll_OK1 cX10_swap RX10 none false ll_mN ll_mR ll_mK ll_cnt L xs false 17 (.inl (lo_push 18 (.int 0))) := lk_iconst (n := 0) (by decide +kernel) (by decide)
theorem k_117_18 (L : Nat) (xs : Nat → Int32) : ll_OK1 cX10_swap RX10 none false ll_mN ll_mR ll_mK ll_cnt L xs false 18 (.inl (lo_aload 19 0)) := lk_aload_n (k := 0) (by decide +kernel) rfl
theorem k_117_19 (L : Nat) (xs : Nat → Int32) : ll_OK1 cX10_swap RX10 none false ll_mN ll_mR ll_mK ll_cnt L xs false 19 (.inl (lo_getf 22 10 8)) := lk_getf (ix := 81) (ci := 10) (k := 8) (C := RX10) (T := TX10) (N := 11) (by decide +kernel) rfl in_10 (by decide) tb_485
theorem k_117_22 (L : Nat) (xs : Nat → Int32) : ll_OK1 cX10_swap RX10 none false ll_mN ll_mR ll_mK ll_cnt L xs false 22 (.inl (lo_getf 25 3 1)) := lk_getf (ix := 93) (ci := 3) (k := 1) (C := RX3) (T := TX3) (N := 5) (by decide +kernel) rfl in_3 (by decide) tb_490
theorem k_117_25 (L : Nat) (xs : Nat → Int32) : ll_OK1 cX10_swap RX10 none false ll_mN ll_mR ll_mK ll_cnt L xs false 25 (.inl (lo_push 26 (.int 1))) := lk_iconst (n := 1) (by decide +kernel) (by decide)
theorem k_117_26 (L : Nat) (xs : Nat → Int32) : ll_OK1 cX10_swap RX10 none false ll_mN ll_mR ll_mK ll_cnt L xs false 26 (.inl (lo_aald 27)) := lk_aald (by decide +kernel)
theorem k_117_27 (L : Nat) (xs : Nat → Int32) : ll_OK1 cX10_swap RX10 none false ll_mN ll_mR ll_mK ll_cnt L xs false 27 (.inl (lo_aast 28)) := lk_aast (by decide +kernel)
theorem k_117_28 (L : Nat) (xs : Nat → Int32) : ll_OK1 cX10_swap RX10 none false ll_mN ll_mR ll_mK ll_cnt L xs false 28 (.inl (lo_aload 29 0)) := lk_aload_n (k := 0) (by decide +kernel) rfl
theorem k_117_29 (L : Nat) (xs : Nat → Int32) : ll_OK1 cX10_swap RX10 none false ll_mN ll_mR ll_mK ll_cnt L xs false 29 (.inl (lo_getf 32 10 8)) := lk_getf (ix := 81) (ci := 10) (k := 8) (C := RX10) (T := TX10) (N := 11) (by decide +kernel) rfl in_10 (by decide) tb_485
theorem k_117_32 (L : Nat) (xs : Nat → Int32) : ll_OK1 cX10_swap RX10 none false ll_mN ll_mR ll_mK ll_cnt L xs false 32 (.inl (lo_getf 35 3 1)) := lk_getf (ix := 93) (ci := 3) (k := 1) (C := RX3) (T := TX3) (N := 5) (by decide +kernel) rfl in_3 (by decide) tb_490
theorem k_117_35 (L : Nat) (xs : Nat → Int32) : ll_OK1 cX10_swap RX10 none false ll_mN ll_mR ll_mK ll_cnt L xs false 35 (.inl (lo_push 36 (.int 1))) := lk_iconst (n := 1) (by decide +kernel) (by decide)
theorem k_117_36 (L : Nat) (xs : Nat → Int32) : ll_OK1 cX10_swap RX10 none false ll_mN ll_mR ll_mK ll_cnt L xs false 36 (.inl (lo_aload 37 1)) := lk_aload_n (k := 1) (by decide +kernel) rfl
theorem k_117_37 (L : Nat) (xs : Nat → Int32) : ll_OK1 cX10_swap RX10 none false ll_mN ll_mR ll_mK ll_cnt L xs false 37 (.inl (lo_aast 38)) := lk_aast (by decide +kernel)
theorem k_117_38 (L : Nat) (xs : Nat → Int32) : ll_OK1 cX10_swap RX10 none false ll_mN ll_mR ll_mK ll_cnt L xs false 38 (.inl (lo_aload 39 0)) := lk_aload_n (k := 0) (by decide +kernel) rfl
theorem k_117_39 (L : Nat) (xs : Nat → Int32) : ll_OK1 cX10_swap RX10 none false ll_mN ll_mR ll_mK ll_cnt L xs false 39 (.inl (lo_getf 42 10 8)) := lk_getf (ix := 81) (ci := 10) (k := 8) (C := RX10) (T := TX10) (N := 11) (by decide +kernel) rfl in_10 (by decide) tb_485
theorem k_117_42 (L : Nat) (xs : Nat → Int32) : ll_OK1 cX10_swap RX10 none false ll_mN ll_mR ll_mK ll_cnt L xs false 42 (.inl (lo_getf 45 3 3)) := lk_getf (ix := 155) (ci := 3) (k := 3) (C := RX3) (T := TX3) (N := 5) (by decide +kernel) rfl in_3 (by decide) tb_518
theorem k_117_45 (L : Nat) (xs : Nat → Int32) : ll_OK1 cX10_swap RX10 none false ll_mN ll_mR ll_mK ll_cnt L xs false 45 (.inr (.inl (9, 1, 48))) := ⟨rfl, by decide, by rw [mN_9, mK_9, mR_9]; exact lj_v 158 0 1 (RX1, TX1, 12) (by decide +kernel) tb_519 tb_179 tb_180 rfl rfl rfl rfl (by decide +kernel)⟩
theorem k_117_48 (L : Nat) (xs : Nat → Int32) : ll_OK1 cX10_swap RX10 none false ll_mN ll_mR ll_mK ll_cnt L xs false 48 (.inr (.inr 0)) := ⟨fun _ => ⟨(by decide +kernel), rfl⟩, (fun h => by cases h), fun h => by cases h⟩
theorem ok_117 (L : Nat) (xs : Nat → Int32) : ∀ q ∈ cd_117, ll_OK1 cX10_swap RX10 none false ll_mN ll_mR ll_mK ll_cnt L xs false q.1 q.2 :=
  List.forall_mem_cons.mpr ⟨k_117_0 L xs, List.forall_mem_cons.mpr ⟨k_117_1 L xs, List.forall_mem_cons.mpr ⟨k_117_4 L xs, List.forall_mem_cons.mpr ⟨k_117_7 L xs, List.forall_mem_cons.mpr ⟨k_117_8 L xs, List.forall_mem_cons.mpr ⟨k_117_9 L xs, List.forall_mem_cons.mpr ⟨k_117_10 L xs, List.forall_mem_cons.mpr ⟨k_117_11 L xs, List.forall_mem_cons.mpr ⟨k_117_14 L xs, List.forall_mem_cons.mpr ⟨k_117_17 L xs, List.forall_mem_cons.mpr ⟨k_117_18 L xs, List.forall_mem_cons.mpr ⟨k_117_19 L xs, List.forall_mem_cons.mpr ⟨k_117_22 L xs, List.forall_mem_cons.mpr ⟨k_117_25 L xs, List.forall_mem_cons.mpr ⟨k_117_26 L xs, List.forall_mem_cons.mpr ⟨k_117_27 L xs, List.forall_mem_cons.mpr ⟨k_117_28 L xs, List.forall_mem_cons.mpr ⟨k_117_29 L xs, List.forall_mem_cons.mpr ⟨k_117_32 L xs, List.forall_mem_cons.mpr ⟨k_117_35 L xs, List.forall_mem_cons.mpr ⟨k_117_36 L xs, List.forall_mem_cons.mpr ⟨k_117_37 L xs, List.forall_mem_cons.mpr ⟨k_117_38 L xs, List.forall_mem_cons.mpr ⟨k_117_39 L xs, List.forall_mem_cons.mpr ⟨k_117_42 L xs, List.forall_mem_cons.mpr ⟨k_117_45 L xs, List.forall_mem_cons.mpr ⟨k_117_48 L xs, fun _ h => absurd h List.not_mem_nil⟩⟩⟩⟩⟩⟩⟩⟩⟩⟩⟩⟩⟩⟩⟩⟩⟩⟩⟩⟩⟩⟩⟩⟩⟩⟩⟩
/-- InclusionProver.keep.(II)Z -/
def cd_118 : List (Nat × ll_O) := [
  (0, .inl (lo_iload 1 1)),
  (1, .inr (.inl (138, 1, 4))),
  (4, .inl (lo_if 14 7 (fun x => decide (x = 0)))),
  (7, .inl (lo_iload 8 2)),
  (8, .inr (.inl (139, 1, 11))),
  (11, .inl (lo_if 16 14 (fun x => decide (¬ x = 0)))),
  (14, .inl (lo_push 15 (.int 0))),
  (15, .inr (.inr 2)),
  (16, .inl (lo_aload 17 0)),
  (17, .inl (lo_getf 20 10 8)),
  (20, .inl (lo_getf 23 3 2)),
  (23, .inl (lo_iload 24 2)),
  (24, .inl (lo_aald 25)),
  (25, .inl (lo_aload 26 0)),
  (26, .inl (lo_getf 29 10 8)),
  (29, .inl (lo_getf 32 3 1)),
  (32, .inl (lo_iload 33 1)),
  (33, .inl (lo_aald 34)),
  (34, .inl (lo_getf 37 5 0)),
  (37, .inr (.inl (75, 2, 40))),
  (40, .inl (lo_push 41 (.int 1))),
  (41, .inr (.inr 2))]
theorem k_118_0 (L : Nat) (xs : Nat → Int32) : ll_OK1 cX10_keep RX10 (some .boolean) false ll_mN ll_mR ll_mK ll_cnt L xs false 0 (.inl (lo_iload 1 1)) := lk_iload_n (k := 1) (by decide +kernel) rfl
theorem k_118_1 (L : Nat) (xs : Nat → Int32) : ll_OK1 cX10_keep RX10 (some .boolean) false ll_mN ll_mR ll_mK ll_cnt L xs false 1 (.inr (.inl (138, 1, 4))) := ⟨rfl, by decide, by rw [mN_138, mK_138, mR_138]; exact lj_s 132 (by decide +kernel) tb_505 tb_506 (by decide +kernel)⟩
theorem k_118_4 (L : Nat) (xs : Nat → Int32) : ll_OK1 cX10_keep RX10 (some .boolean) false ll_mN ll_mR ll_mK ll_cnt L xs false 4 (.inl (lo_if 14 7 (fun x => decide (x = 0)))) := lk_if_eq (off := 10) (by decide +kernel) rfl
theorem k_118_7 (L : Nat) (xs : Nat → Int32) : ll_OK1 cX10_keep RX10 (some .boolean) false ll_mN ll_mR ll_mK ll_cnt L xs false 7 (.inl (lo_iload 8 2)) := lk_iload_n (k := 2) (by decide +kernel) rfl
theorem k_118_8 (L : Nat) (xs : Nat → Int32) : ll_OK1 cX10_keep RX10 (some .boolean) false ll_mN ll_mR ll_mK ll_cnt L xs false 8 (.inr (.inl (139, 1, 11))) := ⟨rfl, by decide, by rw [mN_139, mK_139, mR_139]; exact lj_s 159 (by decide +kernel) tb_520 tb_521 (by decide +kernel)⟩
theorem k_118_11 (L : Nat) (xs : Nat → Int32) : ll_OK1 cX10_keep RX10 (some .boolean) false ll_mN ll_mR ll_mK ll_cnt L xs false 11 (.inl (lo_if 16 14 (fun x => decide (¬ x = 0)))) := lk_if_ne (off := 5) (by decide +kernel) rfl
theorem k_118_14 (L : Nat) (xs : Nat → Int32) : ll_OK1 cX10_keep RX10 (some .boolean) false ll_mN ll_mR ll_mK ll_cnt L xs false 14 (.inl (lo_push 15 (.int 0))) := lk_iconst (n := 0) (by decide +kernel) (by decide)
theorem k_118_15 (L : Nat) (xs : Nat → Int32) : ll_OK1 cX10_keep RX10 (some .boolean) false ll_mN ll_mR ll_mK ll_cnt L xs false 15 (.inr (.inr 2)) := ⟨(fun h => by cases h), (fun h => by cases h), fun _ => ⟨(by decide +kernel), rfl⟩⟩
theorem k_118_16 (L : Nat) (xs : Nat → Int32) : ll_OK1 cX10_keep RX10 (some .boolean) false ll_mN ll_mR ll_mK ll_cnt L xs false 16 (.inl (lo_aload 17 0)) := lk_aload_n (k := 0) (by decide +kernel) rfl
theorem k_118_17 (L : Nat) (xs : Nat → Int32) : ll_OK1 cX10_keep RX10 (some .boolean) false ll_mN ll_mR ll_mK ll_cnt L xs false 17 (.inl (lo_getf 20 10 8)) := lk_getf (ix := 81) (ci := 10) (k := 8) (C := RX10) (T := TX10) (N := 11) (by decide +kernel) rfl in_10 (by decide) tb_485
theorem k_118_20 (L : Nat) (xs : Nat → Int32) : ll_OK1 cX10_keep RX10 (some .boolean) false ll_mN ll_mR ll_mK ll_cnt L xs false 20 (.inl (lo_getf 23 3 2)) := lk_getf (ix := 100) (ci := 3) (k := 2) (C := RX3) (T := TX3) (N := 5) (by decide +kernel) rfl in_3 (by decide) tb_494
theorem k_118_23 (L : Nat) (xs : Nat → Int32) : ll_OK1 cX10_keep RX10 (some .boolean) false ll_mN ll_mR ll_mK ll_cnt L xs false 23 (.inl (lo_iload 24 2)) := lk_iload_n (k := 2) (by decide +kernel) rfl
theorem k_118_24 (L : Nat) (xs : Nat → Int32) : ll_OK1 cX10_keep RX10 (some .boolean) false ll_mN ll_mR ll_mK ll_cnt L xs false 24 (.inl (lo_aald 25)) := lk_aald (by decide +kernel)
theorem k_118_25 (L : Nat) (xs : Nat → Int32) : ll_OK1 cX10_keep RX10 (some .boolean) false ll_mN ll_mR ll_mK ll_cnt L xs false 25 (.inl (lo_aload 26 0)) := lk_aload_n (k := 0) (by decide +kernel) rfl
theorem k_118_26 (L : Nat) (xs : Nat → Int32) : ll_OK1 cX10_keep RX10 (some .boolean) false ll_mN ll_mR ll_mK ll_cnt L xs false 26 (.inl (lo_getf 29 10 8)) := lk_getf (ix := 81) (ci := 10) (k := 8) (C := RX10) (T := TX10) (N := 11) (by decide +kernel) rfl in_10 (by decide) tb_485
theorem k_118_29 (L : Nat) (xs : Nat → Int32) : ll_OK1 cX10_keep RX10 (some .boolean) false ll_mN ll_mR ll_mK ll_cnt L xs false 29 (.inl (lo_getf 32 3 1)) := lk_getf (ix := 93) (ci := 3) (k := 1) (C := RX3) (T := TX3) (N := 5) (by decide +kernel) rfl in_3 (by decide) tb_490
theorem k_118_32 (L : Nat) (xs : Nat → Int32) : ll_OK1 cX10_keep RX10 (some .boolean) false ll_mN ll_mR ll_mK ll_cnt L xs false 32 (.inl (lo_iload 33 1)) := lk_iload_n (k := 1) (by decide +kernel) rfl
theorem k_118_33 (L : Nat) (xs : Nat → Int32) : ll_OK1 cX10_keep RX10 (some .boolean) false ll_mN ll_mR ll_mK ll_cnt L xs false 33 (.inl (lo_aald 34)) := lk_aald (by decide +kernel)
theorem k_118_34 (L : Nat) (xs : Nat → Int32) : ll_OK1 cX10_keep RX10 (some .boolean) false ll_mN ll_mR ll_mK ll_cnt L xs false 34 (.inl (lo_getf 37 5 0)) := lk_getf (ix := 104) (ci := 5) (k := 0) (C := RX5) (T := TX5) (N := 11) (by decide +kernel) rfl in_5 (by decide) tb_495
theorem k_118_37 (L : Nat) (xs : Nat → Int32) : ll_OK1 cX10_keep RX10 (some .boolean) false ll_mN ll_mR ll_mK ll_cnt L xs false 37 (.inr (.inl (75, 2, 40))) := ⟨rfl, by decide, by rw [mN_75, mK_75, mR_75]; exact lj_v 107 1 7 (RX7, TX7, 2) (by decide +kernel) tb_496 tb_89 tb_90 rfl rfl rfl rfl (by decide +kernel)⟩
theorem k_118_40 (L : Nat) (xs : Nat → Int32) : ll_OK1 cX10_keep RX10 (some .boolean) false ll_mN ll_mR ll_mK ll_cnt L xs false 40 (.inl (lo_push 41 (.int 1))) := lk_iconst (n := 1) (by decide +kernel) (by decide)
theorem k_118_41 (L : Nat) (xs : Nat → Int32) : ll_OK1 cX10_keep RX10 (some .boolean) false ll_mN ll_mR ll_mK ll_cnt L xs false 41 (.inr (.inr 2)) := ⟨(fun h => by cases h), (fun h => by cases h), fun _ => ⟨(by decide +kernel), rfl⟩⟩
theorem ok_118 (L : Nat) (xs : Nat → Int32) : ∀ q ∈ cd_118, ll_OK1 cX10_keep RX10 (some .boolean) false ll_mN ll_mR ll_mK ll_cnt L xs false q.1 q.2 :=
  List.forall_mem_cons.mpr ⟨k_118_0 L xs, List.forall_mem_cons.mpr ⟨k_118_1 L xs, List.forall_mem_cons.mpr ⟨k_118_4 L xs, List.forall_mem_cons.mpr ⟨k_118_7 L xs, List.forall_mem_cons.mpr ⟨k_118_8 L xs, List.forall_mem_cons.mpr ⟨k_118_11 L xs, List.forall_mem_cons.mpr ⟨k_118_14 L xs, List.forall_mem_cons.mpr ⟨k_118_15 L xs, List.forall_mem_cons.mpr ⟨k_118_16 L xs, List.forall_mem_cons.mpr ⟨k_118_17 L xs, List.forall_mem_cons.mpr ⟨k_118_20 L xs, List.forall_mem_cons.mpr ⟨k_118_23 L xs, List.forall_mem_cons.mpr ⟨k_118_24 L xs, List.forall_mem_cons.mpr ⟨k_118_25 L xs, List.forall_mem_cons.mpr ⟨k_118_26 L xs, List.forall_mem_cons.mpr ⟨k_118_29 L xs, List.forall_mem_cons.mpr ⟨k_118_32 L xs, List.forall_mem_cons.mpr ⟨k_118_33 L xs, List.forall_mem_cons.mpr ⟨k_118_34 L xs, List.forall_mem_cons.mpr ⟨k_118_37 L xs, List.forall_mem_cons.mpr ⟨k_118_40 L xs, List.forall_mem_cons.mpr ⟨k_118_41 L xs, fun _ h => absurd h List.not_mem_nil⟩⟩⟩⟩⟩⟩⟩⟩⟩⟩⟩⟩⟩⟩⟩⟩⟩⟩⟩⟩⟩⟩
/-- InclusionProver.make.(IIII)I -/
def cd_119 : List (Nat × ll_O) := [
  (0, .inl (lo_iload 1 2)),
  (1, .inl (lo_push 2 (.int 1))),
  (2, .inl (lo_cmp 10 5 (fun x y => decide (x = y)))),
  (5, .inl (lo_iload 6 2)),
  (6, .inl (lo_push 7 (.int 2))),
  (7, .inl (lo_cmp 14 10 (fun x y => decide (¬ x = y)))),
  (10, .inl (lo_push 11 (.int 1))),
  (11, .inl (lo_goto 15)),
  (14, .inl (lo_push 15 (.int 0))),
  (15, .inl (lo_istore 17 5)),
  (17, .inl (lo_iload 18 1)),
  (18, .inr (.inl (138, 1, 21))),
  (21, .inl (lo_if 53 24 (fun x => decide (x = 0)))),
  (24, .inl (lo_iload 25 2)),
  (25, .inl (lo_if 53 28 (fun x => decide (x < 0)))),
  (28, .inl (lo_iload 29 2)),
  (29, .inl (lo_push 30 (.int 3))),
  (30, .inl (lo_cmp 53 33 (fun x y => decide (y < x)))),
  (33, .inl (lo_iload 34 3)),
  (34, .inr (.inl (139, 1, 37))),
  (37, .inl (lo_if 53 40 (fun x => decide (x = 0)))),
  (40, .inl (lo_iload 42 5)),
  (42, .inl (lo_if 55 45 (fun x => decide (x = 0)))),
  (45, .inl (lo_iload 47 4)),
  (47, .inr (.inl (139, 1, 50))),
  (50, .inl (lo_if 55 53 (fun x => decide (¬ x = 0)))),
  (53, .inl (lo_push 54 (.int (-1)))),
  (54, .inr (.inr 1)),
  (55, .inl (lo_aload 56 0)),
  (56, .inl (lo_iload 57 2)),
  (57, .inl (lo_aload 58 0)),
  (58, .inl (lo_getf 61 10 8)),
  (61, .inl (lo_getf 64 3 2)),
  (64, .inl (lo_iload 65 3)),
  (65, .inl (lo_aald 66)),
  (66, .inl (lo_aload 67 0)),
  (67, .inl (lo_getf 70 10 8)),
  (70, .inl (lo_getf 73 3 2)),
  (73, .inl (lo_iload 75 5)),
  (75, .inl (lo_if 83 78 (fun x => decide (x = 0)))),
  (78, .inl (lo_iload 80 4)),
  (80, .inl (lo_goto 84)),
  (83, .inl (lo_iload 84 3)),
  (84, .inl (lo_aald 85)),
  (85, .inr (.inl (147, 4, 88))),
  (88, .inl (lo_aload 89 0)),
  (89, .inl (lo_getf 92 10 0)),
  (92, .inl (lo_aload 93 0)),
  (93, .inl (lo_getf 96 10 5)),
  (96, .inl (lo_aload 97 0)),
  (97, .inl (lo_getf 100 10 5)),
  (100, .inl (lo_getf 103 7 1)),
  (103, .inr (.inl (22, 3, 106))),
  (106, .inl (lo_istore 108 6)),
  (108, .inl (lo_iload 110 6)),
  (110, .inl (lo_push 111 (.int (-1)))),
  (111, .inl (lo_cmp 128 114 (fun x y => decide (x = y)))),
  (114, .inl (lo_aload 115 0)),
  (115, .inl (lo_getf 118 10 1)),
  (118, .inl (lo_iload 120 6)),
  (120, .inr (.inl (60, 2, 123))),
  (123, .inl (lo_push 125 (.int 30))),
  (125, .inl (lo_cmp 130 128 (fun x y => decide (x ≤ y)))),
  (128, .inl (lo_push 129 (.int (-1)))),
  (129, .inr (.inr 1)),
  (130, .inl (lo_aload 131 0)),
  (131, .inl (lo_iload 132 1)),
  (132, .inl (lo_iload 134 6)),
  (134, .inr (.inl (145, 3, 137))),
  (137, .inr (.inr 1))]
theorem k_119_0 (L : Nat) (xs : Nat → Int32) : ll_OK1 cX10_make RX10 (some .int) false ll_mN ll_mR ll_mK ll_cnt L xs false 0 (.inl (lo_iload 1 2)) := lk_iload_n (k := 2) (by decide +kernel) rfl
theorem k_119_1 (L : Nat) (xs : Nat → Int32) : ll_OK1 cX10_make RX10 (some .int) false ll_mN ll_mR ll_mK ll_cnt L xs false 1 (.inl (lo_push 2 (.int 1))) := lk_iconst (n := 1) (by decide +kernel) (by decide)
theorem k_119_2 (L : Nat) (xs : Nat → Int32) : ll_OK1 cX10_make RX10 (some .int) false ll_mN ll_mR ll_mK ll_cnt L xs false 2 (.inl (lo_cmp 10 5 (fun x y => decide (x = y)))) := lk_icmp_eq (off := 8) (by decide +kernel) rfl
theorem k_119_5 (L : Nat) (xs : Nat → Int32) : ll_OK1 cX10_make RX10 (some .int) false ll_mN ll_mR ll_mK ll_cnt L xs false 5 (.inl (lo_iload 6 2)) := lk_iload_n (k := 2) (by decide +kernel) rfl
theorem k_119_6 (L : Nat) (xs : Nat → Int32) : ll_OK1 cX10_make RX10 (some .int) false ll_mN ll_mR ll_mK ll_cnt L xs false 6 (.inl (lo_push 7 (.int 2))) := lk_iconst (n := 2) (by decide +kernel) (by decide)
theorem k_119_7 (L : Nat) (xs : Nat → Int32) : ll_OK1 cX10_make RX10 (some .int) false ll_mN ll_mR ll_mK ll_cnt L xs false 7 (.inl (lo_cmp 14 10 (fun x y => decide (¬ x = y)))) := lk_icmp_ne (off := 7) (by decide +kernel) rfl
theorem k_119_10 (L : Nat) (xs : Nat → Int32) : ll_OK1 cX10_make RX10 (some .int) false ll_mN ll_mR ll_mK ll_cnt L xs false 10 (.inl (lo_push 11 (.int 1))) := lk_iconst (n := 1) (by decide +kernel) (by decide)
theorem k_119_11 (L : Nat) (xs : Nat → Int32) : ll_OK1 cX10_make RX10 (some .int) false ll_mN ll_mR ll_mK ll_cnt L xs false 11 (.inl (lo_goto 15)) := lk_goto (off := 4) (by decide +kernel) rfl
theorem k_119_14 (L : Nat) (xs : Nat → Int32) : ll_OK1 cX10_make RX10 (some .int) false ll_mN ll_mR ll_mK ll_cnt L xs false 14 (.inl (lo_push 15 (.int 0))) := lk_iconst (n := 0) (by decide +kernel) (by decide)
theorem k_119_15 (L : Nat) (xs : Nat → Int32) : ll_OK1 cX10_make RX10 (some .int) false ll_mN ll_mR ll_mK ll_cnt L xs false 15 (.inl (lo_istore 17 5)) := lk_istore (by decide +kernel)
theorem k_119_17 (L : Nat) (xs : Nat → Int32) : ll_OK1 cX10_make RX10 (some .int) false ll_mN ll_mR ll_mK ll_cnt L xs false 17 (.inl (lo_iload 18 1)) := lk_iload_n (k := 1) (by decide +kernel) rfl
theorem k_119_18 (L : Nat) (xs : Nat → Int32) : ll_OK1 cX10_make RX10 (some .int) false ll_mN ll_mR ll_mK ll_cnt L xs false 18 (.inr (.inl (138, 1, 21))) := ⟨rfl, by decide, by rw [mN_138, mK_138, mR_138]; exact lj_s 132 (by decide +kernel) tb_505 tb_506 (by decide +kernel)⟩
theorem k_119_21 (L : Nat) (xs : Nat → Int32) : ll_OK1 cX10_make RX10 (some .int) false ll_mN ll_mR ll_mK ll_cnt L xs false 21 (.inl (lo_if 53 24 (fun x => decide (x = 0)))) := lk_if_eq (off := 32) (by decide +kernel) rfl
theorem k_119_24 (L : Nat) (xs : Nat → Int32) : ll_OK1 cX10_make RX10 (some .int) false ll_mN ll_mR ll_mK ll_cnt L xs false 24 (.inl (lo_iload 25 2)) := lk_iload_n (k := 2) (by decide +kernel) rfl
theorem k_119_25 (L : Nat) (xs : Nat → Int32) : ll_OK1 cX10_make RX10 (some .int) false ll_mN ll_mR ll_mK ll_cnt L xs false 25 (.inl (lo_if 53 28 (fun x => decide (x < 0)))) := lk_if_lt (off := 28) (by decide +kernel) rfl
theorem k_119_28 (L : Nat) (xs : Nat → Int32) : ll_OK1 cX10_make RX10 (some .int) false ll_mN ll_mR ll_mK ll_cnt L xs false 28 (.inl (lo_iload 29 2)) := lk_iload_n (k := 2) (by decide +kernel) rfl
theorem k_119_29 (L : Nat) (xs : Nat → Int32) : ll_OK1 cX10_make RX10 (some .int) false ll_mN ll_mR ll_mK ll_cnt L xs false 29 (.inl (lo_push 30 (.int 3))) := lk_iconst (n := 3) (by decide +kernel) (by decide)
theorem k_119_30 (L : Nat) (xs : Nat → Int32) : ll_OK1 cX10_make RX10 (some .int) false ll_mN ll_mR ll_mK ll_cnt L xs false 30 (.inl (lo_cmp 53 33 (fun x y => decide (y < x)))) := lk_icmp_gt (off := 23) (by decide +kernel) rfl
theorem k_119_33 (L : Nat) (xs : Nat → Int32) : ll_OK1 cX10_make RX10 (some .int) false ll_mN ll_mR ll_mK ll_cnt L xs false 33 (.inl (lo_iload 34 3)) := lk_iload_n (k := 3) (by decide +kernel) rfl
theorem k_119_34 (L : Nat) (xs : Nat → Int32) : ll_OK1 cX10_make RX10 (some .int) false ll_mN ll_mR ll_mK ll_cnt L xs false 34 (.inr (.inl (139, 1, 37))) := ⟨rfl, by decide, by rw [mN_139, mK_139, mR_139]; exact lj_s 159 (by decide +kernel) tb_520 tb_521 (by decide +kernel)⟩
theorem k_119_37 (L : Nat) (xs : Nat → Int32) : ll_OK1 cX10_make RX10 (some .int) false ll_mN ll_mR ll_mK ll_cnt L xs false 37 (.inl (lo_if 53 40 (fun x => decide (x = 0)))) := lk_if_eq (off := 16) (by decide +kernel) rfl
theorem k_119_40 (L : Nat) (xs : Nat → Int32) : ll_OK1 cX10_make RX10 (some .int) false ll_mN ll_mR ll_mK ll_cnt L xs false 40 (.inl (lo_iload 42 5)) := lk_iload (by decide +kernel)
theorem k_119_42 (L : Nat) (xs : Nat → Int32) : ll_OK1 cX10_make RX10 (some .int) false ll_mN ll_mR ll_mK ll_cnt L xs false 42 (.inl (lo_if 55 45 (fun x => decide (x = 0)))) := lk_if_eq (off := 13) (by decide +kernel) rfl
theorem k_119_45 (L : Nat) (xs : Nat → Int32) : ll_OK1 cX10_make RX10 (some .int) false ll_mN ll_mR ll_mK ll_cnt L xs false 45 (.inl (lo_iload 47 4)) := lk_iload (by decide +kernel)
theorem k_119_47 (L : Nat) (xs : Nat → Int32) : ll_OK1 cX10_make RX10 (some .int) false ll_mN ll_mR ll_mK ll_cnt L xs false 47 (.inr (.inl (139, 1, 50))) := ⟨rfl, by decide, by rw [mN_139, mK_139, mR_139]; exact lj_s 159 (by decide +kernel) tb_520 tb_521 (by decide +kernel)⟩
theorem k_119_50 (L : Nat) (xs : Nat → Int32) : ll_OK1 cX10_make RX10 (some .int) false ll_mN ll_mR ll_mK ll_cnt L xs false 50 (.inl (lo_if 55 53 (fun x => decide (¬ x = 0)))) := lk_if_ne (off := 5) (by decide +kernel) rfl
theorem k_119_53 (L : Nat) (xs : Nat → Int32) : ll_OK1 cX10_make RX10 (some .int) false ll_mN ll_mR ll_mK ll_cnt L xs false 53 (.inl (lo_push 54 (.int (-1)))) := lk_iconst (n := (-1)) (by decide +kernel) (by decide)
theorem k_119_54 (L : Nat) (xs : Nat → Int32) : ll_OK1 cX10_make RX10 (some .int) false ll_mN ll_mR ll_mK ll_cnt L xs false 54 (.inr (.inr 1)) := ⟨(fun h => by cases h), (fun _ => ⟨(by decide +kernel), rfl⟩), fun h => by cases h⟩
theorem k_119_55 (L : Nat) (xs : Nat → Int32) : ll_OK1 cX10_make RX10 (some .int) false ll_mN ll_mR ll_mK ll_cnt L xs false 55 (.inl (lo_aload 56 0)) := lk_aload_n (k := 0) (by decide +kernel) rfl
theorem k_119_56 (L : Nat) (xs : Nat → Int32) : ll_OK1 cX10_make RX10 (some .int) false ll_mN ll_mR ll_mK ll_cnt L xs false 56 (.inl (lo_iload 57 2)) := lk_iload_n (k := 2) (by decide +kernel) rfl
theorem k_119_57 (L : Nat) (xs : Nat → Int32) : ll_OK1 cX10_make RX10 (some .int) false ll_mN ll_mR ll_mK ll_cnt L xs false 57 (.inl (lo_aload 58 0)) := lk_aload_n (k := 0) (by decide +kernel) rfl
theorem k_119_58 (L : Nat) (xs : Nat → Int32) : ll_OK1 cX10_make RX10 (some .int) false ll_mN ll_mR ll_mK ll_cnt L xs false 58 (.inl (lo_getf 61 10 8)) := lk_getf (ix := 81) (ci := 10) (k := 8) (C := RX10) (T := TX10) (N := 11) (by decide +kernel) rfl in_10 (by decide) tb_485
theorem k_119_61 (L : Nat) (xs : Nat → Int32) : ll_OK1 cX10_make RX10 (some .int) false ll_mN ll_mR ll_mK ll_cnt L xs false 61 (.inl (lo_getf 64 3 2)) := lk_getf (ix := 100) (ci := 3) (k := 2) (C := RX3) (T := TX3) (N := 5) (by decide +kernel) rfl in_3 (by decide) tb_494
theorem k_119_64 (L : Nat) (xs : Nat → Int32) : ll_OK1 cX10_make RX10 (some .int) false ll_mN ll_mR ll_mK ll_cnt L xs false 64 (.inl (lo_iload 65 3)) := lk_iload_n (k := 3) (by decide +kernel) rfl
theorem k_119_65 (L : Nat) (xs : Nat → Int32) : ll_OK1 cX10_make RX10 (some .int) false ll_mN ll_mR ll_mK ll_cnt L xs false 65 (.inl (lo_aald 66)) := lk_aald (by decide +kernel)
theorem k_119_66 (L : Nat) (xs : Nat → Int32) : ll_OK1 cX10_make RX10 (some .int) false ll_mN ll_mR ll_mK ll_cnt L xs false 66 (.inl (lo_aload 67 0)) := lk_aload_n (k := 0) (by decide +kernel) rfl
theorem k_119_67 (L : Nat) (xs : Nat → Int32) : ll_OK1 cX10_make RX10 (some .int) false ll_mN ll_mR ll_mK ll_cnt L xs false 67 (.inl (lo_getf 70 10 8)) := lk_getf (ix := 81) (ci := 10) (k := 8) (C := RX10) (T := TX10) (N := 11) (by decide +kernel) rfl in_10 (by decide) tb_485
theorem k_119_70 (L : Nat) (xs : Nat → Int32) : ll_OK1 cX10_make RX10 (some .int) false ll_mN ll_mR ll_mK ll_cnt L xs false 70 (.inl (lo_getf 73 3 2)) := lk_getf (ix := 100) (ci := 3) (k := 2) (C := RX3) (T := TX3) (N := 5) (by decide +kernel) rfl in_3 (by decide) tb_494
theorem k_119_73 (L : Nat) (xs : Nat → Int32) : ll_OK1 cX10_make RX10 (some .int) false ll_mN ll_mR ll_mK ll_cnt L xs false 73 (.inl (lo_iload 75 5)) := lk_iload (by decide +kernel)
theorem k_119_75 (L : Nat) (xs : Nat → Int32) : ll_OK1 cX10_make RX10 (some .int) false ll_mN ll_mR ll_mK ll_cnt L xs false 75 (.inl (lo_if 83 78 (fun x => decide (x = 0)))) := lk_if_eq (off := 8) (by decide +kernel) rfl
theorem k_119_78 (L : Nat) (xs : Nat → Int32) : ll_OK1 cX10_make RX10 (some .int) false ll_mN ll_mR ll_mK ll_cnt L xs false 78 (.inl (lo_iload 80 4)) := lk_iload (by decide +kernel)
theorem k_119_80 (L : Nat) (xs : Nat → Int32) : ll_OK1 cX10_make RX10 (some .int) false ll_mN ll_mR ll_mK ll_cnt L xs false 80 (.inl (lo_goto 84)) := lk_goto (off := 4) (by decide +kernel) rfl
theorem k_119_83 (L : Nat) (xs : Nat → Int32) : ll_OK1 cX10_make RX10 (some .int) false ll_mN ll_mR ll_mK ll_cnt L xs false 83 (.inl (lo_iload 84 3)) := lk_iload_n (k := 3) (by decide +kernel) rfl
theorem k_119_84 (L : Nat) (xs : Nat → Int32) : ll_OK1 cX10_make RX10 (some .int) false ll_mN ll_mR ll_mK ll_cnt L xs false 84 (.inl (lo_aald 85)) := lk_aald (by decide +kernel)
theorem k_119_85 (L : Nat) (xs : Nat → Int32) : ll_OK1 cX10_make RX10 (some .int) false ll_mN ll_mR ll_mK ll_cnt L xs false 85 (.inr (.inl (147, 4, 88))) := ⟨rfl, by decide, by rw [mN_147, mK_147, mR_147]; exact lj_v 162 3 10 (RX10, TX10, 11) (by decide +kernel) tb_522 tb_523 tb_524 rfl rfl rfl rfl (by decide +kernel)⟩
theorem k_119_88 (L : Nat) (xs : Nat → Int32) : ll_OK1 cX10_make RX10 (some .int) false ll_mN ll_mR ll_mK ll_cnt L xs false 88 (.inl (lo_aload 89 0)) := lk_aload_n (k := 0) (by decide +kernel) rfl
theorem k_119_89 (L : Nat) (xs : Nat → Int32) : ll_OK1 cX10_make RX10 (some .int) false ll_mN ll_mR ll_mK ll_cnt L xs false 89 (.inl (lo_getf 92 10 0)) := lk_getf (ix := 26) (ci := 10) (k := 0) (C := RX10) (T := TX10) (N := 11) (by decide +kernel) rfl in_10 (by decide) tb_450
theorem k_119_92 (L : Nat) (xs : Nat → Int32) : ll_OK1 cX10_make RX10 (some .int) false ll_mN ll_mR ll_mK ll_cnt L xs false 92 (.inl (lo_aload 93 0)) := lk_aload_n (k := 0) (by decide +kernel) rfl
theorem k_119_93 (L : Nat) (xs : Nat → Int32) : ll_OK1 cX10_make RX10 (some .int) false ll_mN ll_mR ll_mK ll_cnt L xs false 93 (.inl (lo_getf 96 10 5)) := lk_getf (ix := 17) (ci := 10) (k := 5) (C := RX10) (T := TX10) (N := 11) (by decide +kernel) rfl in_10 (by decide) tb_444
theorem k_119_96 (L : Nat) (xs : Nat → Int32) : ll_OK1 cX10_make RX10 (some .int) false ll_mN ll_mR ll_mK ll_cnt L xs false 96 (.inl (lo_aload 97 0)) := lk_aload_n (k := 0) (by decide +kernel) rfl
theorem k_119_97 (L : Nat) (xs : Nat → Int32) : ll_OK1 cX10_make RX10 (some .int) false ll_mN ll_mR ll_mK ll_cnt L xs false 97 (.inl (lo_getf 100 10 5)) := lk_getf (ix := 17) (ci := 10) (k := 5) (C := RX10) (T := TX10) (N := 11) (by decide +kernel) rfl in_10 (by decide) tb_444
theorem k_119_100 (L : Nat) (xs : Nat → Int32) : ll_OK1 cX10_make RX10 (some .int) false ll_mN ll_mR ll_mK ll_cnt L xs false 100 (.inl (lo_getf 103 7 1)) := lk_getf (ix := 118) (ci := 7) (k := 1) (C := RX7) (T := TX7) (N := 2) (by decide +kernel) rfl in_7 (by decide) tb_500
theorem k_119_103 (L : Nat) (xs : Nat → Int32) : ll_OK1 cX10_make RX10 (some .int) false ll_mN ll_mR ll_mK ll_cnt L xs false 103 (.inr (.inl (22, 3, 106))) := ⟨rfl, by decide, by rw [mN_22, mK_22, mR_22]; exact lj_v 142 2 2 (RX2, TX2, 5) (by decide +kernel) tb_508 tb_509 tb_510 rfl rfl rfl rfl (by decide +kernel)⟩
theorem k_119_106 (L : Nat) (xs : Nat → Int32) : ll_OK1 cX10_make RX10 (some .int) false ll_mN ll_mR ll_mK ll_cnt L xs false 106 (.inl (lo_istore 108 6)) := lk_istore (by decide +kernel)
theorem k_119_108 (L : Nat) (xs : Nat → Int32) : ll_OK1 cX10_make RX10 (some .int) false ll_mN ll_mR ll_mK ll_cnt L xs false 108 (.inl (lo_iload 110 6)) := lk_iload (by decide +kernel)
theorem k_119_110 (L : Nat) (xs : Nat → Int32) : ll_OK1 cX10_make RX10 (some .int) false ll_mN ll_mR ll_mK ll_cnt L xs false 110 (.inl (lo_push 111 (.int (-1)))) := lk_iconst (n := (-1)) (by decide +kernel) (by decide)
theorem k_119_111 (L : Nat) (xs : Nat → Int32) : ll_OK1 cX10_make RX10 (some .int) false ll_mN ll_mR ll_mK ll_cnt L xs false 111 (.inl (lo_cmp 128 114 (fun x y => decide (x = y)))) := lk_icmp_eq (off := 17) (by decide +kernel) rfl
theorem k_119_114 (L : Nat) (xs : Nat → Int32) : ll_OK1 cX10_make RX10 (some .int) false ll_mN ll_mR ll_mK ll_cnt L xs false 114 (.inl (lo_aload 115 0)) := lk_aload_n (k := 0) (by decide +kernel) rfl
theorem k_119_115 (L : Nat) (xs : Nat → Int32) : ll_OK1 cX10_make RX10 (some .int) false ll_mN ll_mR ll_mK ll_cnt L xs false 115 (.inl (lo_getf 118 10 1)) := lk_getf (ix := 35) (ci := 10) (k := 1) (C := RX10) (T := TX10) (N := 11) (by decide +kernel) rfl in_10 (by decide) tb_456
theorem k_119_118 (L : Nat) (xs : Nat → Int32) : ll_OK1 cX10_make RX10 (some .int) false ll_mN ll_mR ll_mK ll_cnt L xs false 118 (.inl (lo_iload 120 6)) := lk_iload (by decide +kernel)
theorem k_119_120 (L : Nat) (xs : Nat → Int32) : ll_OK1 cX10_make RX10 (some .int) false ll_mN ll_mR ll_mK ll_cnt L xs false 120 (.inr (.inl (60, 2, 123))) := ⟨rfl, by decide, by rw [mN_60, mK_60, mR_60]; exact lj_v 166 1 6 (RX6, TX6, 8) (by decide +kernel) tb_525 tb_526 tb_527 rfl rfl rfl rfl (by decide +kernel)⟩
theorem k_119_123 (L : Nat) (xs : Nat → Int32) : ll_OK1 cX10_make RX10 (some .int) false ll_mN ll_mR ll_mK ll_cnt L xs false 123 (.inl (lo_push 125 (.int 30))) := lk_bipush (n := 30) (by decide +kernel) (by decide)
theorem k_119_125 (L : Nat) (xs : Nat → Int32) : ll_OK1 cX10_make RX10 (some .int) false ll_mN ll_mR ll_mK ll_cnt L xs false 125 (.inl (lo_cmp 130 128 (fun x y => decide (x ≤ y)))) := lk_icmp_le (off := 5) (by decide +kernel) rfl
theorem k_119_128 (L : Nat) (xs : Nat → Int32) : ll_OK1 cX10_make RX10 (some .int) false ll_mN ll_mR ll_mK ll_cnt L xs false 128 (.inl (lo_push 129 (.int (-1)))) := lk_iconst (n := (-1)) (by decide +kernel) (by decide)
theorem k_119_129 (L : Nat) (xs : Nat → Int32) : ll_OK1 cX10_make RX10 (some .int) false ll_mN ll_mR ll_mK ll_cnt L xs false 129 (.inr (.inr 1)) := ⟨(fun h => by cases h), (fun _ => ⟨(by decide +kernel), rfl⟩), fun h => by cases h⟩
theorem k_119_130 (L : Nat) (xs : Nat → Int32) : ll_OK1 cX10_make RX10 (some .int) false ll_mN ll_mR ll_mK ll_cnt L xs false 130 (.inl (lo_aload 131 0)) := lk_aload_n (k := 0) (by decide +kernel) rfl
theorem k_119_131 (L : Nat) (xs : Nat → Int32) : ll_OK1 cX10_make RX10 (some .int) false ll_mN ll_mR ll_mK ll_cnt L xs false 131 (.inl (lo_iload 132 1)) := lk_iload_n (k := 1) (by decide +kernel) rfl
theorem k_119_132 (L : Nat) (xs : Nat → Int32) : ll_OK1 cX10_make RX10 (some .int) false ll_mN ll_mR ll_mK ll_cnt L xs false 132 (.inl (lo_iload 134 6)) := lk_iload (by decide +kernel)
theorem k_119_134 (L : Nat) (xs : Nat → Int32) : ll_OK1 cX10_make RX10 (some .int) false ll_mN ll_mR ll_mK ll_cnt L xs false 134 (.inr (.inl (145, 3, 137))) := ⟨rfl, by decide, by rw [mN_145, mK_145, mR_145]; exact lj_v 152 2 10 (RX10, TX10, 11) (by decide +kernel) tb_515 tb_516 tb_517 rfl rfl rfl rfl (by decide +kernel)⟩
theorem k_119_137 (L : Nat) (xs : Nat → Int32) : ll_OK1 cX10_make RX10 (some .int) false ll_mN ll_mR ll_mK ll_cnt L xs false 137 (.inr (.inr 1)) := ⟨(fun h => by cases h), (fun _ => ⟨(by decide +kernel), rfl⟩), fun h => by cases h⟩
theorem ok_119 (L : Nat) (xs : Nat → Int32) : ∀ q ∈ cd_119, ll_OK1 cX10_make RX10 (some .int) false ll_mN ll_mR ll_mK ll_cnt L xs false q.1 q.2 :=
  List.forall_mem_cons.mpr ⟨k_119_0 L xs, List.forall_mem_cons.mpr ⟨k_119_1 L xs, List.forall_mem_cons.mpr ⟨k_119_2 L xs, List.forall_mem_cons.mpr ⟨k_119_5 L xs, List.forall_mem_cons.mpr ⟨k_119_6 L xs, List.forall_mem_cons.mpr ⟨k_119_7 L xs, List.forall_mem_cons.mpr ⟨k_119_10 L xs, List.forall_mem_cons.mpr ⟨k_119_11 L xs, List.forall_mem_cons.mpr ⟨k_119_14 L xs, List.forall_mem_cons.mpr ⟨k_119_15 L xs, List.forall_mem_cons.mpr ⟨k_119_17 L xs, List.forall_mem_cons.mpr ⟨k_119_18 L xs, List.forall_mem_cons.mpr ⟨k_119_21 L xs, List.forall_mem_cons.mpr ⟨k_119_24 L xs, List.forall_mem_cons.mpr ⟨k_119_25 L xs, List.forall_mem_cons.mpr ⟨k_119_28 L xs, List.forall_mem_cons.mpr ⟨k_119_29 L xs, List.forall_mem_cons.mpr ⟨k_119_30 L xs, List.forall_mem_cons.mpr ⟨k_119_33 L xs, List.forall_mem_cons.mpr ⟨k_119_34 L xs, List.forall_mem_cons.mpr ⟨k_119_37 L xs, List.forall_mem_cons.mpr ⟨k_119_40 L xs, List.forall_mem_cons.mpr ⟨k_119_42 L xs, List.forall_mem_cons.mpr ⟨k_119_45 L xs, List.forall_mem_cons.mpr ⟨k_119_47 L xs, List.forall_mem_cons.mpr ⟨k_119_50 L xs, List.forall_mem_cons.mpr ⟨k_119_53 L xs, List.forall_mem_cons.mpr ⟨k_119_54 L xs, List.forall_mem_cons.mpr ⟨k_119_55 L xs, List.forall_mem_cons.mpr ⟨k_119_56 L xs, List.forall_mem_cons.mpr ⟨k_119_57 L xs, List.forall_mem_cons.mpr ⟨k_119_58 L xs, List.forall_mem_cons.mpr ⟨k_119_61 L xs, List.forall_mem_cons.mpr ⟨k_119_64 L xs, List.forall_mem_cons.mpr ⟨k_119_65 L xs, List.forall_mem_cons.mpr ⟨k_119_66 L xs, List.forall_mem_cons.mpr ⟨k_119_67 L xs, List.forall_mem_cons.mpr ⟨k_119_70 L xs, List.forall_mem_cons.mpr ⟨k_119_73 L xs, List.forall_mem_cons.mpr ⟨k_119_75 L xs, List.forall_mem_cons.mpr ⟨k_119_78 L xs, List.forall_mem_cons.mpr ⟨k_119_80 L xs, List.forall_mem_cons.mpr ⟨k_119_83 L xs, List.forall_mem_cons.mpr ⟨k_119_84 L xs, List.forall_mem_cons.mpr ⟨k_119_85 L xs, List.forall_mem_cons.mpr ⟨k_119_88 L xs, List.forall_mem_cons.mpr ⟨k_119_89 L xs, List.forall_mem_cons.mpr ⟨k_119_92 L xs, List.forall_mem_cons.mpr ⟨k_119_93 L xs, List.forall_mem_cons.mpr ⟨k_119_96 L xs, List.forall_mem_cons.mpr ⟨k_119_97 L xs, List.forall_mem_cons.mpr ⟨k_119_100 L xs, List.forall_mem_cons.mpr ⟨k_119_103 L xs, List.forall_mem_cons.mpr ⟨k_119_106 L xs, List.forall_mem_cons.mpr ⟨k_119_108 L xs, List.forall_mem_cons.mpr ⟨k_119_110 L xs, List.forall_mem_cons.mpr ⟨k_119_111 L xs, List.forall_mem_cons.mpr ⟨k_119_114 L xs, List.forall_mem_cons.mpr ⟨k_119_115 L xs, List.forall_mem_cons.mpr ⟨k_119_118 L xs, List.forall_mem_cons.mpr ⟨k_119_120 L xs, List.forall_mem_cons.mpr ⟨k_119_123 L xs, List.forall_mem_cons.mpr ⟨k_119_125 L xs, List.forall_mem_cons.mpr ⟨k_119_128 L xs, List.forall_mem_cons.mpr ⟨k_119_129 L xs, List.forall_mem_cons.mpr ⟨k_119_130 L xs, List.forall_mem_cons.mpr ⟨k_119_131 L xs, List.forall_mem_cons.mpr ⟨k_119_132 L xs, List.forall_mem_cons.mpr ⟨k_119_134 L xs, List.forall_mem_cons.mpr ⟨k_119_137 L xs, fun _ h => absurd h List.not_mem_nil⟩⟩⟩⟩⟩⟩⟩⟩⟩⟩⟩⟩⟩⟩⟩⟩⟩⟩⟩⟩⟩⟩⟩⟩⟩⟩⟩⟩⟩⟩⟩⟩⟩⟩⟩⟩⟩⟩⟩⟩⟩⟩⟩⟩⟩⟩⟩⟩⟩⟩⟩⟩⟩⟩⟩⟩⟩⟩⟩⟩⟩⟩⟩⟩⟩⟩⟩⟩⟩⟩
/-- InclusionProver.shape.(II)I -/
def cd_120 : List (Nat × ll_O) := [
  (0, .inl (lo_iload 1 1)),
  (1, .inr (.inl (138, 1, 4))),
  (4, .inl (lo_if 9 7 (fun x => decide (¬ x = 0)))),
  (7, .inl (lo_push 8 (.int (-1)))),
  (8, .inr (.inr 1)),
  (9, .inl (lo_aload 10 0)),
  (10, .inl (lo_getf 13 10 8)),
  (13, .inl (lo_getf 16 3 1)),
  (16, .inl (lo_iload 17 1)),
  (17, .inl (lo_aald 18)),
  (18, .inl (lo_astore 19 3)),
  (19, .inl (lo_iload 20 2)),
  (20, .inl (lo_tab 0 [72, 77, 91, 99, 104, 114, 128, 141, 146] 151)),
  (72, .inl (lo_aload 73 3)),
  (73, .inl (lo_getf 76 5 6)),
  (76, .inr (.inr 1)),
  (77, .inl (lo_aload 78 3)),
  (78, .inl (lo_push 79 (.int 1))),
  (79, .inr (.inl (47, 2, 82))),
  (82, .inl (lo_if 89 85 (fun x => decide (x = 0)))),
  (85, .inl (lo_push 86 (.int 1))),
  (86, .inl (lo_goto 90)),
  (89, .inl (lo_push 90 (.int 0))),
  (90, .inr (.inr 1)),
  (91, .inl (lo_aload 92 3)),
  (92, .inl (lo_getf 95 5 0)),
  (95, .inl (lo_getf 98 7 1)),
  (98, .inr (.inr 1)),
  (99, .inl (lo_aload 100 3)),
  (100, .inr (.inl (48, 1, 103))),
  (103, .inr (.inr 1)),
  (104, .inl (lo_aload 105 3)),
  (105, .inl (lo_getf 108 5 0)),
  (108, .inl (lo_push 110 (.int 42))),
  (110, .inr (.inl (78, 2, 113))),
  (113, .inr (.inr 1)),
  (114, .inl (lo_aload 115 3)),
  (115, .inl (lo_getf 118 5 7)),
  (118, .inl (lo_push 119 (.int (-1)))),
  (119, .inl (lo_cmp 126 122 (fun x y => decide (¬ x = y)))),
  (122, .inl (lo_push 123 (.int 1))),
  (123, .inl (lo_goto 127)),
  (126, .inl (lo_push 127 (.int 0))),
  (127, .inr (.inr 1)),
  (128, .inl (lo_aload 129 3)),
  (129, .inl (lo_getf 132 5 8)),
  (132, .inl (lo_if 139 135 (fun x => decide (¬ x = 0)))),
  (135, .inl (lo_push 136 (.int 1))),
  (136, .inl (lo_goto 140)),
  (139, .inl (lo_push 140 (.int 0))),
  (140, .inr (.inr 1)),
  (141, .inl (lo_aload 142 3)),
  (142, .inl (lo_getf 145 5 7)),
  (145, .inr (.inr 1)),
  (146, .inl (lo_aload 147 3)),
  (147, .inl (lo_getf 150 5 8)),
  (150, .inr (.inr 1)),
  (151, .inl (lo_iload 152 2)),
  (152, .inl (lo_push 154 (.int 10))),
  (154, .inl (lo_cmp 161 157 (fun x y => decide (y ≤ x)))),
  (157, .inl (lo_push 158 (.int (-1)))),
  (158, .inl (lo_goto 172)),
  (161, .inl (lo_aload 162 3)),
  (162, .inl (lo_getf 165 5 0)),
  (165, .inl (lo_iload 166 2)),
  (166, .inl (lo_push 168 (.int 10))),
  (168, .inl (lo_bin 169 (fun x y => x - y))),
  (169, .inr (.inl (77, 2, 172))),
  (172, .inr (.inr 1))]
theorem k_120_0 (L : Nat) (xs : Nat → Int32) : ll_OK1 cX10_shape RX10 (some .int) false ll_mN ll_mR ll_mK ll_cnt L xs false 0 (.inl (lo_iload 1 1)) := lk_iload_n (k := 1) (by decide +kernel) rfl
theorem k_120_1 (L : Nat) (xs : Nat → Int32) : ll_OK1 cX10_shape RX10 (some .int) false ll_mN ll_mR ll_mK ll_cnt L xs false 1 (.inr (.inl (138, 1, 4))) := ⟨rfl, by decide, by rw [mN_138, mK_138, mR_138]; exact lj_s 132 (by decide +kernel) tb_505 tb_506 (by decide +kernel)⟩
theorem k_120_4 (L : Nat) (xs : Nat → Int32) : ll_OK1 cX10_shape RX10 (some .int) false ll_mN ll_mR ll_mK ll_cnt L xs false 4 (.inl (lo_if 9 7 (fun x => decide (¬ x = 0)))) := lk_if_ne (off := 5) (by decide +kernel) rfl
theorem k_120_7 (L : Nat) (xs : Nat → Int32) : ll_OK1 cX10_shape RX10 (some .int) false ll_mN ll_mR ll_mK ll_cnt L xs false 7 (.inl (lo_push 8 (.int (-1)))) := lk_iconst (n := (-1)) (by decide +kernel) (by decide)
theorem k_120_8 (L : Nat) (xs : Nat → Int32) : ll_OK1 cX10_shape RX10 (some .int) false ll_mN ll_mR ll_mK ll_cnt L xs false 8 (.inr (.inr 1)) := ⟨(fun h => by cases h), (fun _ => ⟨(by decide +kernel), rfl⟩), fun h => by cases h⟩
theorem k_120_9 (L : Nat) (xs : Nat → Int32) : ll_OK1 cX10_shape RX10 (some .int) false ll_mN ll_mR ll_mK ll_cnt L xs false 9 (.inl (lo_aload 10 0)) := lk_aload_n (k := 0) (by decide +kernel) rfl
theorem k_120_10 (L : Nat) (xs : Nat → Int32) : ll_OK1 cX10_shape RX10 (some .int) false ll_mN ll_mR ll_mK ll_cnt L xs false 10 (.inl (lo_getf 13 10 8)) := lk_getf (ix := 81) (ci := 10) (k := 8) (C := RX10) (T := TX10) (N := 11) (by decide +kernel) rfl in_10 (by decide) tb_485
theorem k_120_13 (L : Nat) (xs : Nat → Int32) : ll_OK1 cX10_shape RX10 (some .int) false ll_mN ll_mR ll_mK ll_cnt L xs false 13 (.inl (lo_getf 16 3 1)) := lk_getf (ix := 93) (ci := 3) (k := 1) (C := RX3) (T := TX3) (N := 5) (by decide +kernel) rfl in_3 (by decide) tb_490
theorem k_120_16 (L : Nat) (xs : Nat → Int32) : ll_OK1 cX10_shape RX10 (some .int) false ll_mN ll_mR ll_mK ll_cnt L xs false 16 (.inl (lo_iload 17 1)) := lk_iload_n (k := 1) (by decide +kernel) rfl
theorem k_120_17 (L : Nat) (xs : Nat → Int32) : ll_OK1 cX10_shape RX10 (some .int) false ll_mN ll_mR ll_mK ll_cnt L xs false 17 (.inl (lo_aald 18)) := lk_aald (by decide +kernel)
theorem k_120_18 (L : Nat) (xs : Nat → Int32) : ll_OK1 cX10_shape RX10 (some .int) false ll_mN ll_mR ll_mK ll_cnt L xs false 18 (.inl (lo_astore 19 3)) := lk_astore_n (k := 3) (by decide +kernel) rfl
theorem k_120_19 (L : Nat) (xs : Nat → Int32) : ll_OK1 cX10_shape RX10 (some .int) false ll_mN ll_mR ll_mK ll_cnt L xs false 19 (.inl (lo_iload 20 2)) := lk_iload_n (k := 2) (by decide +kernel) rfl
theorem k_120_20 (L : Nat) (xs : Nat → Int32) : ll_OK1 cX10_shape RX10 (some .int) false ll_mN ll_mR ll_mK ll_cnt L xs false 20 (.inl (lo_tab 0 [72, 77, 91, 99, 104, 114, 128, 141, 146] 151)) := lk_tab (d0 := 131) (hi := 8) (offs := #[52, 57, 71, 79, 84, 94, 108, 121, 126]) (len := 52) (by decide +kernel) rfl rfl rfl
theorem k_120_72 (L : Nat) (xs : Nat → Int32) : ll_OK1 cX10_shape RX10 (some .int) false ll_mN ll_mR ll_mK ll_cnt L xs false 72 (.inl (lo_aload 73 3)) := lk_aload_n (k := 3) (by decide +kernel) rfl
theorem k_120_73 (L : Nat) (xs : Nat → Int32) : ll_OK1 cX10_shape RX10 (some .int) false ll_mN ll_mR ll_mK ll_cnt L xs false 73 (.inl (lo_getf 76 5 6)) := lk_getf (ix := 170) (ci := 5) (k := 6) (C := RX5) (T := TX5) (N := 11) (by decide +kernel) rfl in_5 (by decide) tb_528
theorem k_120_76 (L : Nat) (xs : Nat → Int32) : ll_OK1 cX10_shape RX10 (some .int) false ll_mN ll_mR ll_mK ll_cnt L xs false 76 (.inr (.inr 1)) := ⟨(fun h => by cases h), (fun _ => ⟨(by decide +kernel), rfl⟩), fun h => by cases h⟩
theorem k_120_77 (L : Nat) (xs : Nat → Int32) : ll_OK1 cX10_shape RX10 (some .int) false ll_mN ll_mR ll_mK ll_cnt L xs false 77 (.inl (lo_aload 78 3)) := lk_aload_n (k := 3) (by decide +kernel) rfl
theorem k_120_78 (L : Nat) (xs : Nat → Int32) : ll_OK1 cX10_shape RX10 (some .int) false ll_mN ll_mR ll_mK ll_cnt L xs false 78 (.inl (lo_push 79 (.int 1))) := lk_iconst (n := 1) (by decide +kernel) (by decide)
theorem k_120_79 (L : Nat) (xs : Nat → Int32) : ll_OK1 cX10_shape RX10 (some .int) false ll_mN ll_mR ll_mK ll_cnt L xs false 79 (.inr (.inl (47, 2, 82))) := ⟨rfl, by decide, by rw [mN_47, mK_47, mR_47]; exact lj_v 173 1 5 (RX5, TX5, 11) (by decide +kernel) tb_529 tb_30 tb_31 rfl rfl rfl rfl (by decide +kernel)⟩
theorem k_120_82 (L : Nat) (xs : Nat → Int32) : ll_OK1 cX10_shape RX10 (some .int) false ll_mN ll_mR ll_mK ll_cnt L xs false 82 (.inl (lo_if 89 85 (fun x => decide (x = 0)))) := lk_if_eq (off := 7) (by decide +kernel) rfl
theorem k_120_85 (L : Nat) (xs : Nat → Int32) : ll_OK1 cX10_shape RX10 (some .int) false ll_mN ll_mR ll_mK ll_cnt L xs false 85 (.inl (lo_push 86 (.int 1))) := lk_iconst (n := 1) (by decide +kernel) (by decide)
theorem k_120_86 (L : Nat) (xs : Nat → Int32) : ll_OK1 cX10_shape RX10 (some .int) false ll_mN ll_mR ll_mK ll_cnt L xs false 86 (.inl (lo_goto 90)) := lk_goto (off := 4) (by decide +kernel) rfl
theorem k_120_89 (L : Nat) (xs : Nat → Int32) : ll_OK1 cX10_shape RX10 (some .int) false ll_mN ll_mR ll_mK ll_cnt L xs false 89 (.inl (lo_push 90 (.int 0))) := lk_iconst (n := 0) (by decide +kernel) (by decide)
theorem k_120_90 (L : Nat) (xs : Nat → Int32) : ll_OK1 cX10_shape RX10 (some .int) false ll_mN ll_mR ll_mK ll_cnt L xs false 90 (.inr (.inr 1)) := ⟨(fun h => by cases h), (fun _ => ⟨(by decide +kernel), rfl⟩), fun h => by cases h⟩
theorem k_120_91 (L : Nat) (xs : Nat → Int32) : ll_OK1 cX10_shape RX10 (some .int) false ll_mN ll_mR ll_mK ll_cnt L xs false 91 (.inl (lo_aload 92 3)) := lk_aload_n (k := 3) (by decide +kernel) rfl
theorem k_120_92 (L : Nat) (xs : Nat → Int32) : ll_OK1 cX10_shape RX10 (some .int) false ll_mN ll_mR ll_mK ll_cnt L xs false 92 (.inl (lo_getf 95 5 0)) := lk_getf (ix := 104) (ci := 5) (k := 0) (C := RX5) (T := TX5) (N := 11) (by decide +kernel) rfl in_5 (by decide) tb_495
theorem k_120_95 (L : Nat) (xs : Nat → Int32) : ll_OK1 cX10_shape RX10 (some .int) false ll_mN ll_mR ll_mK ll_cnt L xs false 95 (.inl (lo_getf 98 7 1)) := lk_getf (ix := 118) (ci := 7) (k := 1) (C := RX7) (T := TX7) (N := 2) (by decide +kernel) rfl in_7 (by decide) tb_500
theorem k_120_98 (L : Nat) (xs : Nat → Int32) : ll_OK1 cX10_shape RX10 (some .int) false ll_mN ll_mR ll_mK ll_cnt L xs false 98 (.inr (.inr 1)) := ⟨(fun h => by cases h), (fun _ => ⟨(by decide +kernel), rfl⟩), fun h => by cases h⟩
theorem k_120_99 (L : Nat) (xs : Nat → Int32) : ll_OK1 cX10_shape RX10 (some .int) false ll_mN ll_mR ll_mK ll_cnt L xs false 99 (.inl (lo_aload 100 3)) := lk_aload_n (k := 3) (by decide +kernel) rfl
theorem k_120_100 (L : Nat) (xs : Nat → Int32) : ll_OK1 cX10_shape RX10 (some .int) false ll_mN ll_mR ll_mK ll_cnt L xs false 100 (.inr (.inl (48, 1, 103))) := ⟨rfl, by decide, by rw [mN_48, mK_48, mR_48]; exact lj_v 176 0 5 (RX5, TX5, 11) (by decide +kernel) tb_530 tb_531 tb_532 rfl rfl rfl rfl (by decide +kernel)⟩
theorem k_120_103 (L : Nat) (xs : Nat → Int32) : ll_OK1 cX10_shape RX10 (some .int) false ll_mN ll_mR ll_mK ll_cnt L xs false 103 (.inr (.inr 1)) := ⟨(fun h => by cases h), (fun _ => ⟨(by decide +kernel), rfl⟩), fun h => by cases h⟩
theorem k_120_104 (L : Nat) (xs : Nat → Int32) : ll_OK1 cX10_shape RX10 (some .int) false ll_mN ll_mR ll_mK ll_cnt L xs false 104 (.inl (lo_aload 105 3)) := lk_aload_n (k := 3) (by decide +kernel) rfl
theorem k_120_105 (L : Nat) (xs : Nat → Int32) : ll_OK1 cX10_shape RX10 (some .int) false ll_mN ll_mR ll_mK ll_cnt L xs false 105 (.inl (lo_getf 108 5 0)) := lk_getf (ix := 104) (ci := 5) (k := 0) (C := RX5) (T := TX5) (N := 11) (by decide +kernel) rfl in_5 (by decide) tb_495
theorem k_120_108 (L : Nat) (xs : Nat → Int32) : ll_OK1 cX10_shape RX10 (some .int) false ll_mN ll_mR ll_mK ll_cnt L xs false 108 (.inl (lo_push 110 (.int 42))) := lk_bipush (n := 42) (by decide +kernel) (by decide)
theorem k_120_110 (L : Nat) (xs : Nat → Int32) : ll_OK1 cX10_shape RX10 (some .int) false ll_mN ll_mR ll_mK ll_cnt L xs false 110 (.inr (.inl (78, 2, 113))) := ⟨rfl, by decide, by rw [mN_78, mK_78, mR_78]; exact lj_v 180 1 7 (RX7, TX7, 2) (by decide +kernel) tb_533 tb_249 tb_250 rfl rfl rfl rfl (by decide +kernel)⟩
theorem k_120_113 (L : Nat) (xs : Nat → Int32) : ll_OK1 cX10_shape RX10 (some .int) false ll_mN ll_mR ll_mK ll_cnt L xs false 113 (.inr (.inr 1)) := ⟨(fun h => by cases h), (fun _ => ⟨(by decide +kernel), rfl⟩), fun h => by cases h⟩
theorem k_120_114 (L : Nat) (xs : Nat → Int32) : ll_OK1 cX10_shape RX10 (some .int) false ll_mN ll_mR ll_mK ll_cnt L xs false 114 (.inl (lo_aload 115 3)) := lk_aload_n (k := 3) (by decide +kernel) rfl
theorem k_120_115 (L : Nat) (xs : Nat → Int32) : ll_OK1 cX10_shape RX10 (some .int) false ll_mN ll_mR ll_mK ll_cnt L xs false 115 (.inl (lo_getf 118 5 7)) := lk_getf (ix := 183) (ci := 5) (k := 7) (C := RX5) (T := TX5) (N := 11) (by decide +kernel) rfl in_5 (by decide) tb_534
theorem k_120_118 (L : Nat) (xs : Nat → Int32) : ll_OK1 cX10_shape RX10 (some .int) false ll_mN ll_mR ll_mK ll_cnt L xs false 118 (.inl (lo_push 119 (.int (-1)))) := lk_iconst (n := (-1)) (by decide +kernel) (by decide)
theorem k_120_119 (L : Nat) (xs : Nat → Int32) : ll_OK1 cX10_shape RX10 (some .int) false ll_mN ll_mR ll_mK ll_cnt L xs false 119 (.inl (lo_cmp 126 122 (fun x y => decide (¬ x = y)))) := lk_icmp_ne (off := 7) (by decide +kernel) rfl
theorem k_120_122 (L : Nat) (xs : Nat → Int32) : ll_OK1 cX10_shape RX10 (some .int) false ll_mN ll_mR ll_mK ll_cnt L xs false 122 (.inl (lo_push 123 (.int 1))) := lk_iconst (n := 1) (by decide +kernel) (by decide)
theorem k_120_123 (L : Nat) (xs : Nat → Int32) : ll_OK1 cX10_shape RX10 (some .int) false ll_mN ll_mR ll_mK ll_cnt L xs false 123 (.inl (lo_goto 127)) := lk_goto (off := 4) (by decide +kernel) rfl
theorem k_120_126 (L : Nat) (xs : Nat → Int32) : ll_OK1 cX10_shape RX10 (some .int) false ll_mN ll_mR ll_mK ll_cnt L xs false 126 (.inl (lo_push 127 (.int 0))) := lk_iconst (n := 0) (by decide +kernel) (by decide)
theorem k_120_127 (L : Nat) (xs : Nat → Int32) : ll_OK1 cX10_shape RX10 (some .int) false ll_mN ll_mR ll_mK ll_cnt L xs false 127 (.inr (.inr 1)) := ⟨(fun h => by cases h), (fun _ => ⟨(by decide +kernel), rfl⟩), fun h => by cases h⟩
theorem k_120_128 (L : Nat) (xs : Nat → Int32) : ll_OK1 cX10_shape RX10 (some .int) false ll_mN ll_mR ll_mK ll_cnt L xs false 128 (.inl (lo_aload 129 3)) := lk_aload_n (k := 3) (by decide +kernel) rfl
theorem k_120_129 (L : Nat) (xs : Nat → Int32) : ll_OK1 cX10_shape RX10 (some .int) false ll_mN ll_mR ll_mK ll_cnt L xs false 129 (.inl (lo_getf 132 5 8)) := lk_getf (ix := 186) (ci := 5) (k := 8) (C := RX5) (T := TX5) (N := 11) (by decide +kernel) rfl in_5 (by decide) tb_535
theorem k_120_132 (L : Nat) (xs : Nat → Int32) : ll_OK1 cX10_shape RX10 (some .int) false ll_mN ll_mR ll_mK ll_cnt L xs false 132 (.inl (lo_if 139 135 (fun x => decide (¬ x = 0)))) := lk_if_ne (off := 7) (by decide +kernel) rfl
theorem k_120_135 (L : Nat) (xs : Nat → Int32) : ll_OK1 cX10_shape RX10 (some .int) false ll_mN ll_mR ll_mK ll_cnt L xs false 135 (.inl (lo_push 136 (.int 1))) := lk_iconst (n := 1) (by decide +kernel) (by decide)
theorem k_120_136 (L : Nat) (xs : Nat → Int32) : ll_OK1 cX10_shape RX10 (some .int) false ll_mN ll_mR ll_mK ll_cnt L xs false 136 (.inl (lo_goto 140)) := lk_goto (off := 4) (by decide +kernel) rfl
theorem k_120_139 (L : Nat) (xs : Nat → Int32) : ll_OK1 cX10_shape RX10 (some .int) false ll_mN ll_mR ll_mK ll_cnt L xs false 139 (.inl (lo_push 140 (.int 0))) := lk_iconst (n := 0) (by decide +kernel) (by decide)
theorem k_120_140 (L : Nat) (xs : Nat → Int32) : ll_OK1 cX10_shape RX10 (some .int) false ll_mN ll_mR ll_mK ll_cnt L xs false 140 (.inr (.inr 1)) := ⟨(fun h => by cases h), (fun _ => ⟨(by decide +kernel), rfl⟩), fun h => by cases h⟩
theorem k_120_141 (L : Nat) (xs : Nat → Int32) : ll_OK1 cX10_shape RX10 (some .int) false ll_mN ll_mR ll_mK ll_cnt L xs false 141 (.inl (lo_aload 142 3)) := lk_aload_n (k := 3) (by decide +kernel) rfl
theorem k_120_142 (L : Nat) (xs : Nat → Int32) : ll_OK1 cX10_shape RX10 (some .int) false ll_mN ll_mR ll_mK ll_cnt L xs false 142 (.inl (lo_getf 145 5 7)) := lk_getf (ix := 183) (ci := 5) (k := 7) (C := RX5) (T := TX5) (N := 11) (by decide +kernel) rfl in_5 (by decide) tb_534
theorem k_120_145 (L : Nat) (xs : Nat → Int32) : ll_OK1 cX10_shape RX10 (some .int) false ll_mN ll_mR ll_mK ll_cnt L xs false 145 (.inr (.inr 1)) := ⟨(fun h => by cases h), (fun _ => ⟨(by decide +kernel), rfl⟩), fun h => by cases h⟩
theorem k_120_146 (L : Nat) (xs : Nat → Int32) : ll_OK1 cX10_shape RX10 (some .int) false ll_mN ll_mR ll_mK ll_cnt L xs false 146 (.inl (lo_aload 147 3)) := lk_aload_n (k := 3) (by decide +kernel) rfl
theorem k_120_147 (L : Nat) (xs : Nat → Int32) : ll_OK1 cX10_shape RX10 (some .int) false ll_mN ll_mR ll_mK ll_cnt L xs false 147 (.inl (lo_getf 150 5 8)) := lk_getf (ix := 186) (ci := 5) (k := 8) (C := RX5) (T := TX5) (N := 11) (by decide +kernel) rfl in_5 (by decide) tb_535
theorem k_120_150 (L : Nat) (xs : Nat → Int32) : ll_OK1 cX10_shape RX10 (some .int) false ll_mN ll_mR ll_mK ll_cnt L xs false 150 (.inr (.inr 1)) := ⟨(fun h => by cases h), (fun _ => ⟨(by decide +kernel), rfl⟩), fun h => by cases h⟩
theorem k_120_151 (L : Nat) (xs : Nat → Int32) : ll_OK1 cX10_shape RX10 (some .int) false ll_mN ll_mR ll_mK ll_cnt L xs false 151 (.inl (lo_iload 152 2)) := lk_iload_n (k := 2) (by decide +kernel) rfl
theorem k_120_152 (L : Nat) (xs : Nat → Int32) : ll_OK1 cX10_shape RX10 (some .int) false ll_mN ll_mR ll_mK ll_cnt L xs false 152 (.inl (lo_push 154 (.int 10))) := lk_bipush (n := 10) (by decide +kernel) (by decide)
theorem k_120_154 (L : Nat) (xs : Nat → Int32) : ll_OK1 cX10_shape RX10 (some .int) false ll_mN ll_mR ll_mK ll_cnt L xs false 154 (.inl (lo_cmp 161 157 (fun x y => decide (y ≤ x)))) := lk_icmp_ge (off := 7) (by decide +kernel) rfl
theorem k_120_157 (L : Nat) (xs : Nat → Int32) : ll_OK1 cX10_shape RX10 (some .int) false ll_mN ll_mR ll_mK ll_cnt L xs false 157 (.inl (lo_push 158 (.int (-1)))) := lk_iconst (n := (-1)) (by decide +kernel) (by decide)
theorem k_120_158 (L : Nat) (xs : Nat → Int32) : ll_OK1 cX10_shape RX10 (some .int) false ll_mN ll_mR ll_mK ll_cnt L xs false 158 (.inl (lo_goto 172)) := lk_goto (off := 14) (by decide +kernel) rfl
theorem k_120_161 (L : Nat) (xs : Nat → Int32) : ll_OK1 cX10_shape RX10 (some .int) false ll_mN ll_mR ll_mK ll_cnt L xs false 161 (.inl (lo_aload 162 3)) := lk_aload_n (k := 3) (by decide +kernel) rfl
theorem k_120_162 (L : Nat) (xs : Nat → Int32) : ll_OK1 cX10_shape RX10 (some .int) false ll_mN ll_mR ll_mK ll_cnt L xs false 162 (.inl (lo_getf 165 5 0)) := lk_getf (ix := 104) (ci := 5) (k := 0) (C := RX5) (T := TX5) (N := 11) (by decide +kernel) rfl in_5 (by decide) tb_495
theorem k_120_165 (L : Nat) (xs : Nat → Int32) : ll_OK1 cX10_shape RX10 (some .int) false ll_mN ll_mR ll_mK ll_cnt L xs false 165 (.inl (lo_iload 166 2)) := lk_iload_n (k := 2) (by decide +kernel) rfl
theorem k_120_166 (L : Nat) (xs : Nat → Int32) : ll_OK1 cX10_shape RX10 (some .int) false ll_mN ll_mR ll_mK ll_cnt L xs false 166 (.inl (lo_push 168 (.int 10))) := lk_bipush (n := 10) (by decide +kernel) (by decide)
theorem k_120_168 (L : Nat) (xs : Nat → Int32) : ll_OK1 cX10_shape RX10 (some .int) false ll_mN ll_mR ll_mK ll_cnt L xs false 168 (.inl (lo_bin 169 (fun x y => x - y))) := lk_isub (by decide +kernel)
theorem k_120_169 (L : Nat) (xs : Nat → Int32) : ll_OK1 cX10_shape RX10 (some .int) false ll_mN ll_mR ll_mK ll_cnt L xs false 169 (.inr (.inl (77, 2, 172))) := ⟨rfl, by decide, by rw [mN_77, mK_77, mR_77]; exact lj_v 189 1 7 (RX7, TX7, 2) (by decide +kernel) tb_536 tb_140 tb_141 rfl rfl rfl rfl (by decide +kernel)⟩
theorem k_120_172 (L : Nat) (xs : Nat → Int32) : ll_OK1 cX10_shape RX10 (some .int) false ll_mN ll_mR ll_mK ll_cnt L xs false 172 (.inr (.inr 1)) := ⟨(fun h => by cases h), (fun _ => ⟨(by decide +kernel), rfl⟩), fun h => by cases h⟩
theorem ok_120 (L : Nat) (xs : Nat → Int32) : ∀ q ∈ cd_120, ll_OK1 cX10_shape RX10 (some .int) false ll_mN ll_mR ll_mK ll_cnt L xs false q.1 q.2 :=
  List.forall_mem_cons.mpr ⟨k_120_0 L xs, List.forall_mem_cons.mpr ⟨k_120_1 L xs, List.forall_mem_cons.mpr ⟨k_120_4 L xs, List.forall_mem_cons.mpr ⟨k_120_7 L xs, List.forall_mem_cons.mpr ⟨k_120_8 L xs, List.forall_mem_cons.mpr ⟨k_120_9 L xs, List.forall_mem_cons.mpr ⟨k_120_10 L xs, List.forall_mem_cons.mpr ⟨k_120_13 L xs, List.forall_mem_cons.mpr ⟨k_120_16 L xs, List.forall_mem_cons.mpr ⟨k_120_17 L xs, List.forall_mem_cons.mpr ⟨k_120_18 L xs, List.forall_mem_cons.mpr ⟨k_120_19 L xs, List.forall_mem_cons.mpr ⟨k_120_20 L xs, List.forall_mem_cons.mpr ⟨k_120_72 L xs, List.forall_mem_cons.mpr ⟨k_120_73 L xs, List.forall_mem_cons.mpr ⟨k_120_76 L xs, List.forall_mem_cons.mpr ⟨k_120_77 L xs, List.forall_mem_cons.mpr ⟨k_120_78 L xs, List.forall_mem_cons.mpr ⟨k_120_79 L xs, List.forall_mem_cons.mpr ⟨k_120_82 L xs, List.forall_mem_cons.mpr ⟨k_120_85 L xs, List.forall_mem_cons.mpr ⟨k_120_86 L xs, List.forall_mem_cons.mpr ⟨k_120_89 L xs, List.forall_mem_cons.mpr ⟨k_120_90 L xs, List.forall_mem_cons.mpr ⟨k_120_91 L xs, List.forall_mem_cons.mpr ⟨k_120_92 L xs, List.forall_mem_cons.mpr ⟨k_120_95 L xs, List.forall_mem_cons.mpr ⟨k_120_98 L xs, List.forall_mem_cons.mpr ⟨k_120_99 L xs, List.forall_mem_cons.mpr ⟨k_120_100 L xs, List.forall_mem_cons.mpr ⟨k_120_103 L xs, List.forall_mem_cons.mpr ⟨k_120_104 L xs, List.forall_mem_cons.mpr ⟨k_120_105 L xs, List.forall_mem_cons.mpr ⟨k_120_108 L xs, List.forall_mem_cons.mpr ⟨k_120_110 L xs, List.forall_mem_cons.mpr ⟨k_120_113 L xs, List.forall_mem_cons.mpr ⟨k_120_114 L xs, List.forall_mem_cons.mpr ⟨k_120_115 L xs, List.forall_mem_cons.mpr ⟨k_120_118 L xs, List.forall_mem_cons.mpr ⟨k_120_119 L xs, List.forall_mem_cons.mpr ⟨k_120_122 L xs, List.forall_mem_cons.mpr ⟨k_120_123 L xs, List.forall_mem_cons.mpr ⟨k_120_126 L xs, List.forall_mem_cons.mpr ⟨k_120_127 L xs, List.forall_mem_cons.mpr ⟨k_120_128 L xs, List.forall_mem_cons.mpr ⟨k_120_129 L xs, List.forall_mem_cons.mpr ⟨k_120_132 L xs, List.forall_mem_cons.mpr ⟨k_120_135 L xs, List.forall_mem_cons.mpr ⟨k_120_136 L xs, List.forall_mem_cons.mpr ⟨k_120_139 L xs, List.forall_mem_cons.mpr ⟨k_120_140 L xs, List.forall_mem_cons.mpr ⟨k_120_141 L xs, List.forall_mem_cons.mpr ⟨k_120_142 L xs, List.forall_mem_cons.mpr ⟨k_120_145 L xs, List.forall_mem_cons.mpr ⟨k_120_146 L xs, List.forall_mem_cons.mpr ⟨k_120_147 L xs, List.forall_mem_cons.mpr ⟨k_120_150 L xs, List.forall_mem_cons.mpr ⟨k_120_151 L xs, List.forall_mem_cons.mpr ⟨k_120_152 L xs, List.forall_mem_cons.mpr ⟨k_120_154 L xs, List.forall_mem_cons.mpr ⟨k_120_157 L xs, List.forall_mem_cons.mpr ⟨k_120_158 L xs, List.forall_mem_cons.mpr ⟨k_120_161 L xs, List.forall_mem_cons.mpr ⟨k_120_162 L xs, List.forall_mem_cons.mpr ⟨k_120_165 L xs, List.forall_mem_cons.mpr ⟨k_120_166 L xs, List.forall_mem_cons.mpr ⟨k_120_168 L xs, List.forall_mem_cons.mpr ⟨k_120_169 L xs, List.forall_mem_cons.mpr ⟨k_120_172 L xs, fun _ h => absurd h List.not_mem_nil⟩⟩⟩⟩⟩⟩⟩⟩⟩⟩⟩⟩⟩⟩⟩⟩⟩⟩⟩⟩⟩⟩⟩⟩⟩⟩⟩⟩⟩⟩⟩⟩⟩⟩⟩⟩⟩⟩⟩⟩⟩⟩⟩⟩⟩⟩⟩⟩⟩⟩⟩⟩⟩⟩⟩⟩⟩⟩⟩⟩⟩⟩⟩⟩⟩⟩⟩⟩⟩
/-- InclusionProver.term.(III)I -/
def cd_121 : List (Nat × ll_O) := [
  (0, .inl (lo_iload 1 1)),
  (1, .inr (.inl (138, 1, 4))),
  (4, .inl (lo_if 23 7 (fun x => decide (x = 0)))),
  (7, .inl (lo_aload 8 0)),
  (8, .inl (lo_getf 11 10 8)),
  (11, .inl (lo_getf 14 3 1)),
  (14, .inl (lo_iload 15 1)),
  (15, .inl (lo_aald 16)),
  (16, .inl (lo_iload 17 2)),
  (17, .inr (.inl (45, 2, 20))),
  (20, .inl (lo_if 25 23 (fun x => decide (¬ x = 0)))),
  (23, .inl (lo_push 24 (.int (-1)))),
  (24, .inr (.inr 1)),
  (25, .inl (lo_aload 26 0)),
  (26, .inl (lo_getf 29 10 8)),
  (29, .inl (lo_getf 32 3 1)),
  (32, .inl (lo_iload 33 1)),
  (33, .inl (lo_aald 34)),
  (34, .inl (lo_astore 36 4)),
  (36, .inl (lo_iload 37 3)),
  (37, .inl (lo_tab 0 [72, 89, 96, 96, 96] 106)),
  (72, .inl (lo_aload 74 4)),
  (74, .inl (lo_push 75 (.int 1))),
  (75, .inl (lo_iload 76 2)),
  (76, .inl (lo_bin 77 (fun x y => x <<< (y &&& 31)))),
  (77, .inr (.inl (47, 2, 80))),
  (80, .inl (lo_if 87 83 (fun x => decide (x = 0)))),
  (83, .inl (lo_push 84 (.int 1))),
  (84, .inl (lo_goto 88)),
  (87, .inl (lo_push 88 (.int 0))),
  (88, .inr (.inr 1)),
  (89, .inl (lo_aload 91 4)),
  (91, .inl (lo_iload 92 2)),
  (92, .inr (.inl (49, 2, 95))),
  (95, .inr (.inr 1)),
  (96, .inl (lo_aload 98 4)),
  (98, .inl (lo_iload 99 2)),
  (99, .inl (lo_iload 100 3)),
  (100, .inl (lo_push 101 (.int 2))),
  (101, .inl (lo_bin 102 (fun x y => x - y))),
  (102, .inr (.inl (51, 3, 105))),
  (105, .inr (.inr 1)),
  (106, .inl (lo_iload 107 3)),
  (107, .inl (lo_push 109 (.int 10))),
  (109, .inl (lo_cmp 116 112 (fun x y => decide (y ≤ x)))),
  (112, .inl (lo_push 113 (.int (-1)))),
  (113, .inl (lo_goto 126)),
  (116, .inl (lo_aload 118 4)),
  (118, .inl (lo_iload 119 2)),
  (119, .inl (lo_iload 120 3)),
  (120, .inl (lo_push 122 (.int 10))),
  (122, .inl (lo_bin 123 (fun x y => x - y))),
  (123, .inr (.inl (50, 3, 126))),
  (126, .inr (.inr 1))]
theorem k_121_0 (L : Nat) (xs : Nat → Int32) : ll_OK1 cX10_term RX10 (some .int) false ll_mN ll_mR ll_mK ll_cnt L xs false 0 (.inl (lo_iload 1 1)) := lk_iload_n (k := 1) (by decide +kernel) rfl
theorem k_121_1 (L : Nat) (xs : Nat → Int32) : ll_OK1 cX10_term RX10 (some .int) false ll_mN ll_mR ll_mK ll_cnt L xs false 1 (.inr (.inl (138, 1, 4))) := ⟨rfl, by decide, by rw [mN_138, mK_138, mR_138]; exact lj_s 132 (by decide +kernel) tb_505 tb_506 (by decide +kernel)⟩
theorem k_121_4 (L : Nat) (xs : Nat → Int32) : ll_OK1 cX10_term RX10 (some .int) false ll_mN ll_mR ll_mK ll_cnt L xs false 4 (.inl (lo_if 23 7 (fun x => decide (x = 0)))) := lk_if_eq (off := 19) (by decide +kernel) rfl
theorem k_121_7 (L : Nat) (xs : Nat → Int32) : ll_OK1 cX10_term RX10 (some .int) false ll_mN ll_mR ll_mK ll_cnt L xs false 7 (.inl (lo_aload 8 0)) := lk_aload_n (k := 0) (by decide +kernel) rfl
theorem k_121_8 (L : Nat) (xs : Nat → Int32) : ll_OK1 cX10_term RX10 (some .int) false ll_mN ll_mR ll_mK ll_cnt L xs false 8 (.inl (lo_getf 11 10 8)) := lk_getf (ix := 81) (ci := 10) (k := 8) (C := RX10) (T := TX10) (N := 11) (by decide +kernel) rfl in_10 (by decide) tb_485
theorem k_121_11 (L : Nat) (xs : Nat → Int32) : ll_OK1 cX10_term RX10 (some .int) false ll_mN ll_mR ll_mK ll_cnt L xs false 11 (.inl (lo_getf 14 3 1)) := lk_getf (ix := 93) (ci := 3) (k := 1) (C := RX3) (T := TX3) (N := 5) (by decide +kernel) rfl in_3 (by decide) tb_490
theorem k_121_14 (L : Nat) (xs : Nat → Int32) : ll_OK1 cX10_term RX10 (some .int) false ll_mN ll_mR ll_mK ll_cnt L xs false 14 (.inl (lo_iload 15 1)) := lk_iload_n (k := 1) (by decide +kernel) rfl
theorem k_121_15 (L : Nat) (xs : Nat → Int32) : ll_OK1 cX10_term RX10 (some .int) false ll_mN ll_mR ll_mK ll_cnt L xs false 15 (.inl (lo_aald 16)) := lk_aald (by decide +kernel)
theorem k_121_16 (L : Nat) (xs : Nat → Int32) : ll_OK1 cX10_term RX10 (some .int) false ll_mN ll_mR ll_mK ll_cnt L xs false 16 (.inl (lo_iload 17 2)) := lk_iload_n (k := 2) (by decide +kernel) rfl
theorem k_121_17 (L : Nat) (xs : Nat → Int32) : ll_OK1 cX10_term RX10 (some .int) false ll_mN ll_mR ll_mK ll_cnt L xs false 17 (.inr (.inl (45, 2, 20))) := ⟨rfl, by decide, by rw [mN_45, mK_45, mR_45]; exact lj_v 192 1 5 (RX5, TX5, 11) (by decide +kernel) tb_537 tb_21 tb_22 rfl rfl rfl rfl (by decide +kernel)⟩
theorem k_121_20 (L : Nat) (xs : Nat → Int32) : ll_OK1 cX10_term RX10 (some .int) false ll_mN ll_mR ll_mK ll_cnt L xs false 20 (.inl (lo_if 25 23 (fun x => decide (¬ x = 0)))) := lk_if_ne (off := 5) (by decide +kernel) rfl
theorem k_121_23 (L : Nat) (xs : Nat → Int32) : ll_OK1 cX10_term RX10 (some .int) false ll_mN ll_mR ll_mK ll_cnt L xs false 23 (.inl (lo_push 24 (.int (-1)))) := lk_iconst (n := (-1)) (by decide +kernel) (by decide)
theorem k_121_24 (L : Nat) (xs : Nat → Int32) : ll_OK1 cX10_term RX10 (some .int) false ll_mN ll_mR ll_mK ll_cnt L xs false 24 (.inr (.inr 1)) := ⟨(fun h => by cases h), (fun _ => ⟨(by decide +kernel), rfl⟩), fun h => by cases h⟩
theorem k_121_25 (L : Nat) (xs : Nat → Int32) : ll_OK1 cX10_term RX10 (some .int) false ll_mN ll_mR ll_mK ll_cnt L xs false 25 (.inl (lo_aload 26 0)) := lk_aload_n (k := 0) (by decide +kernel) rfl
theorem k_121_26 (L : Nat) (xs : Nat → Int32) : ll_OK1 cX10_term RX10 (some .int) false ll_mN ll_mR ll_mK ll_cnt L xs false 26 (.inl (lo_getf 29 10 8)) := lk_getf (ix := 81) (ci := 10) (k := 8) (C := RX10) (T := TX10) (N := 11) (by decide +kernel) rfl in_10 (by decide) tb_485
theorem k_121_29 (L : Nat) (xs : Nat → Int32) : ll_OK1 cX10_term RX10 (some .int) false ll_mN ll_mR ll_mK ll_cnt L xs false 29 (.inl (lo_getf 32 3 1)) := lk_getf (ix := 93) (ci := 3) (k := 1) (C := RX3) (T := TX3) (N := 5) (by decide +kernel) rfl in_3 (by decide) tb_490
theorem k_121_32 (L : Nat) (xs : Nat → Int32) : ll_OK1 cX10_term RX10 (some .int) false ll_mN ll_mR ll_mK ll_cnt L xs false 32 (.inl (lo_iload 33 1)) := lk_iload_n (k := 1) (by decide +kernel) rfl
theorem k_121_33 (L : Nat) (xs : Nat → Int32) : ll_OK1 cX10_term RX10 (some .int) false ll_mN ll_mR ll_mK ll_cnt L xs false 33 (.inl (lo_aald 34)) := lk_aald (by decide +kernel)
theorem k_121_34 (L : Nat) (xs : Nat → Int32) : ll_OK1 cX10_term RX10 (some .int) false ll_mN ll_mR ll_mK ll_cnt L xs false 34 (.inl (lo_astore 36 4)) := lk_astore (by decide +kernel)
theorem k_121_36 (L : Nat) (xs : Nat → Int32) : ll_OK1 cX10_term RX10 (some .int) false ll_mN ll_mR ll_mK ll_cnt L xs false 36 (.inl (lo_iload 37 3)) := lk_iload_n (k := 3) (by decide +kernel) rfl
theorem k_121_37 (L : Nat) (xs : Nat → Int32) : ll_OK1 cX10_term RX10 (some .int) false ll_mN ll_mR ll_mK ll_cnt L xs false 37 (.inl (lo_tab 0 [72, 89, 96, 96, 96] 106)) := lk_tab (d0 := 69) (hi := 4) (offs := #[35, 52, 59, 59, 59]) (len := 35) (by decide +kernel) rfl rfl rfl
theorem k_121_72 (L : Nat) (xs : Nat → Int32) : ll_OK1 cX10_term RX10 (some .int) false ll_mN ll_mR ll_mK ll_cnt L xs false 72 (.inl (lo_aload 74 4)) := lk_aload (by decide +kernel)
theorem k_121_74 (L : Nat) (xs : Nat → Int32) : ll_OK1 cX10_term RX10 (some .int) false ll_mN ll_mR ll_mK ll_cnt L xs false 74 (.inl (lo_push 75 (.int 1))) := lk_iconst (n := 1) (by decide +kernel) (by decide)
theorem k_121_75 (L : Nat) (xs : Nat → Int32) : ll_OK1 cX10_term RX10 (some .int) false ll_mN ll_mR ll_mK ll_cnt L xs false 75 (.inl (lo_iload 76 2)) := lk_iload_n (k := 2) (by decide +kernel) rfl
theorem k_121_76 (L : Nat) (xs : Nat → Int32) : ll_OK1 cX10_term RX10 (some .int) false ll_mN ll_mR ll_mK ll_cnt L xs false 76 (.inl (lo_bin 77 (fun x y => x <<< (y &&& 31)))) := lk_ishl (by decide +kernel)
theorem k_121_77 (L : Nat) (xs : Nat → Int32) : ll_OK1 cX10_term RX10 (some .int) false ll_mN ll_mR ll_mK ll_cnt L xs false 77 (.inr (.inl (47, 2, 80))) := ⟨rfl, by decide, by rw [mN_47, mK_47, mR_47]; exact lj_v 173 1 5 (RX5, TX5, 11) (by decide +kernel) tb_529 tb_30 tb_31 rfl rfl rfl rfl (by decide +kernel)⟩
theorem k_121_80 (L : Nat) (xs : Nat → Int32) : ll_OK1 cX10_term RX10 (some .int) false ll_mN ll_mR ll_mK ll_cnt L xs false 80 (.inl (lo_if 87 83 (fun x => decide (x = 0)))) := lk_if_eq (off := 7) (by decide +kernel) rfl
theorem k_121_83 (L : Nat) (xs : Nat → Int32) : ll_OK1 cX10_term RX10 (some .int) false ll_mN ll_mR ll_mK ll_cnt L xs false 83 (.inl (lo_push 84 (.int 1))) := lk_iconst (n := 1) (by decide +kernel) (by decide)
theorem k_121_84 (L : Nat) (xs : Nat → Int32) : ll_OK1 cX10_term RX10 (some .int) false ll_mN ll_mR ll_mK ll_cnt L xs false 84 (.inl (lo_goto 88)) := lk_goto (off := 4) (by decide +kernel) rfl
theorem k_121_87 (L : Nat) (xs : Nat → Int32) : ll_OK1 cX10_term RX10 (some .int) false ll_mN ll_mR ll_mK ll_cnt L xs false 87 (.inl (lo_push 88 (.int 0))) := lk_iconst (n := 0) (by decide +kernel) (by decide)
theorem k_121_88 (L : Nat) (xs : Nat → Int32) : ll_OK1 cX10_term RX10 (some .int) false ll_mN ll_mR ll_mK ll_cnt L xs false 88 (.inr (.inr 1)) := ⟨(fun h => by cases h), (fun _ => ⟨(by decide +kernel), rfl⟩), fun h => by cases h⟩
theorem k_121_89 (L : Nat) (xs : Nat → Int32) : ll_OK1 cX10_term RX10 (some .int) false ll_mN ll_mR ll_mK ll_cnt L xs false 89 (.inl (lo_aload 91 4)) := lk_aload (by decide +kernel)
theorem k_121_91 (L : Nat) (xs : Nat → Int32) : ll_OK1 cX10_term RX10 (some .int) false ll_mN ll_mR ll_mK ll_cnt L xs false 91 (.inl (lo_iload 92 2)) := lk_iload_n (k := 2) (by decide +kernel) rfl
theorem k_121_92 (L : Nat) (xs : Nat → Int32) : ll_OK1 cX10_term RX10 (some .int) false ll_mN ll_mR ll_mK ll_cnt L xs false 92 (.inr (.inl (49, 2, 95))) := ⟨rfl, by decide, by rw [mN_49, mK_49, mR_49]; exact lj_v 195 1 5 (RX5, TX5, 11) (by decide +kernel) tb_538 tb_256 tb_257 rfl rfl rfl rfl (by decide +kernel)⟩
theorem k_121_95 (L : Nat) (xs : Nat → Int32) : ll_OK1 cX10_term RX10 (some .int) false ll_mN ll_mR ll_mK ll_cnt L xs false 95 (.inr (.inr 1)) := ⟨(fun h => by cases h), (fun _ => ⟨(by decide +kernel), rfl⟩), fun h => by cases h⟩
theorem k_121_96 (L : Nat) (xs : Nat → Int32) : ll_OK1 cX10_term RX10 (some .int) false ll_mN ll_mR ll_mK ll_cnt L xs false 96 (.inl (lo_aload 98 4)) := lk_aload (by decide +kernel)
theorem k_121_98 (L : Nat) (xs : Nat → Int32) : ll_OK1 cX10_term RX10 (some .int) false ll_mN ll_mR ll_mK ll_cnt L xs false 98 (.inl (lo_iload 99 2)) := lk_iload_n (k := 2) (by decide +kernel) rfl
theorem k_121_99 (L : Nat) (xs : Nat → Int32) : ll_OK1 cX10_term RX10 (some .int) false ll_mN ll_mR ll_mK ll_cnt L xs false 99 (.inl (lo_iload 100 3)) := lk_iload_n (k := 3) (by decide +kernel) rfl
theorem k_121_100 (L : Nat) (xs : Nat → Int32) : ll_OK1 cX10_term RX10 (some .int) false ll_mN ll_mR ll_mK ll_cnt L xs false 100 (.inl (lo_push 101 (.int 2))) := lk_iconst (n := 2) (by decide +kernel) (by decide)
theorem k_121_101 (L : Nat) (xs : Nat → Int32) : ll_OK1 cX10_term RX10 (some .int) false ll_mN ll_mR ll_mK ll_cnt L xs false 101 (.inl (lo_bin 102 (fun x y => x - y))) := lk_isub (by decide +kernel)
theorem k_121_102 (L : Nat) (xs : Nat → Int32) : ll_OK1 cX10_term RX10 (some .int) false ll_mN ll_mR ll_mK ll_cnt L xs false 102 (.inr (.inl (51, 3, 105))) := ⟨rfl, by decide, by rw [mN_51, mK_51, mR_51]; exact lj_v 198 2 5 (RX5, TX5, 11) (by decide +kernel) tb_539 tb_540 tb_541 rfl rfl rfl rfl (by decide +kernel)⟩
theorem k_121_105 (L : Nat) (xs : Nat → Int32) : ll_OK1 cX10_term RX10 (some .int) false ll_mN ll_mR ll_mK ll_cnt L xs false 105 (.inr (.inr 1)) := ⟨(fun h => by cases h), (fun _ => ⟨(by decide +kernel), rfl⟩), fun h => by cases h⟩
theorem k_121_106 (L : Nat) (xs : Nat → Int32) : ll_OK1 cX10_term RX10 (some .int) false ll_mN ll_mR ll_mK ll_cnt L xs false 106 (.inl (lo_iload 107 3)) := lk_iload_n (k := 3) (by decide +kernel) rfl
theorem k_121_107 (L : Nat) (xs : Nat → Int32) : ll_OK1 cX10_term RX10 (some .int) false ll_mN ll_mR ll_mK ll_cnt L xs false 107 (.inl (lo_push 109 (.int 10))) := lk_bipush (n := 10) (by decide +kernel) (by decide)
theorem k_121_109 (L : Nat) (xs : Nat → Int32) : ll_OK1 cX10_term RX10 (some .int) false ll_mN ll_mR ll_mK ll_cnt L xs false 109 (.inl (lo_cmp 116 112 (fun x y => decide (y ≤ x)))) := lk_icmp_ge (off := 7) (by decide +kernel) rfl
theorem k_121_112 (L : Nat) (xs : Nat → Int32) : ll_OK1 cX10_term RX10 (some .int) false ll_mN ll_mR ll_mK ll_cnt L xs false 112 (.inl (lo_push 113 (.int (-1)))) := lk_iconst (n := (-1)) (by decide +kernel) (by decide)
theorem k_121_113 (L : Nat) (xs : Nat → Int32) : ll_OK1 cX10_term RX10 (some .int) false ll_mN ll_mR ll_mK ll_cnt L xs false 113 (.inl (lo_goto 126)) := lk_goto (off := 13) (by decide +kernel) rfl
theorem k_121_116 (L : Nat) (xs : Nat → Int32) : ll_OK1 cX10_term RX10 (some .int) false ll_mN ll_mR ll_mK ll_cnt L xs false 116 (.inl (lo_aload 118 4)) := lk_aload (by decide +kernel)
theorem k_121_118 (L : Nat) (xs : Nat → Int32) : ll_OK1 cX10_term RX10 (some .int) false ll_mN ll_mR ll_mK ll_cnt L xs false 118 (.inl (lo_iload 119 2)) := lk_iload_n (k := 2) (by decide +kernel) rfl
theorem k_121_119 (L : Nat) (xs : Nat → Int32) : ll_OK1 cX10_term RX10 (some .int) false ll_mN ll_mR ll_mK ll_cnt L xs false 119 (.inl (lo_iload 120 3)) := lk_iload_n (k := 3) (by decide +kernel) rfl
theorem k_121_120 (L : Nat) (xs : Nat → Int32) : ll_OK1 cX10_term RX10 (some .int) false ll_mN ll_mR ll_mK ll_cnt L xs false 120 (.inl (lo_push 122 (.int 10))) := lk_bipush (n := 10) (by decide +kernel) (by decide)
theorem k_121_122 (L : Nat) (xs : Nat → Int32) : ll_OK1 cX10_term RX10 (some .int) false ll_mN ll_mR ll_mK ll_cnt L xs false 122 (.inl (lo_bin 123 (fun x y => x - y))) := lk_isub (by decide +kernel)
theorem k_121_123 (L : Nat) (xs : Nat → Int32) : ll_OK1 cX10_term RX10 (some .int) false ll_mN ll_mR ll_mK ll_cnt L xs false 123 (.inr (.inl (50, 3, 126))) := ⟨rfl, by decide, by rw [mN_50, mK_50, mR_50]; exact lj_v 201 2 5 (RX5, TX5, 11) (by decide +kernel) tb_542 tb_543 tb_544 rfl rfl rfl rfl (by decide +kernel)⟩
theorem k_121_126 (L : Nat) (xs : Nat → Int32) : ll_OK1 cX10_term RX10 (some .int) false ll_mN ll_mR ll_mK ll_cnt L xs false 126 (.inr (.inr 1)) := ⟨(fun h => by cases h), (fun _ => ⟨(by decide +kernel), rfl⟩), fun h => by cases h⟩
theorem ok_121 (L : Nat) (xs : Nat → Int32) : ∀ q ∈ cd_121, ll_OK1 cX10_term RX10 (some .int) false ll_mN ll_mR ll_mK ll_cnt L xs false q.1 q.2 :=
  List.forall_mem_cons.mpr ⟨k_121_0 L xs, List.forall_mem_cons.mpr ⟨k_121_1 L xs, List.forall_mem_cons.mpr ⟨k_121_4 L xs, List.forall_mem_cons.mpr ⟨k_121_7 L xs, List.forall_mem_cons.mpr ⟨k_121_8 L xs, List.forall_mem_cons.mpr ⟨k_121_11 L xs, List.forall_mem_cons.mpr ⟨k_121_14 L xs, List.forall_mem_cons.mpr ⟨k_121_15 L xs, List.forall_mem_cons.mpr ⟨k_121_16 L xs, List.forall_mem_cons.mpr ⟨k_121_17 L xs, List.forall_mem_cons.mpr ⟨k_121_20 L xs, List.forall_mem_cons.mpr ⟨k_121_23 L xs, List.forall_mem_cons.mpr ⟨k_121_24 L xs, List.forall_mem_cons.mpr ⟨k_121_25 L xs, List.forall_mem_cons.mpr ⟨k_121_26 L xs, List.forall_mem_cons.mpr ⟨k_121_29 L xs, List.forall_mem_cons.mpr ⟨k_121_32 L xs, List.forall_mem_cons.mpr ⟨k_121_33 L xs, List.forall_mem_cons.mpr ⟨k_121_34 L xs, List.forall_mem_cons.mpr ⟨k_121_36 L xs, List.forall_mem_cons.mpr ⟨k_121_37 L xs, List.forall_mem_cons.mpr ⟨k_121_72 L xs, List.forall_mem_cons.mpr ⟨k_121_74 L xs, List.forall_mem_cons.mpr ⟨k_121_75 L xs, List.forall_mem_cons.mpr ⟨k_121_76 L xs, List.forall_mem_cons.mpr ⟨k_121_77 L xs, List.forall_mem_cons.mpr ⟨k_121_80 L xs, List.forall_mem_cons.mpr ⟨k_121_83 L xs, List.forall_mem_cons.mpr ⟨k_121_84 L xs, List.forall_mem_cons.mpr ⟨k_121_87 L xs, List.forall_mem_cons.mpr ⟨k_121_88 L xs, List.forall_mem_cons.mpr ⟨k_121_89 L xs, List.forall_mem_cons.mpr ⟨k_121_91 L xs, List.forall_mem_cons.mpr ⟨k_121_92 L xs, List.forall_mem_cons.mpr ⟨k_121_95 L xs, List.forall_mem_cons.mpr ⟨k_121_96 L xs, List.forall_mem_cons.mpr ⟨k_121_98 L xs, List.forall_mem_cons.mpr ⟨k_121_99 L xs, List.forall_mem_cons.mpr ⟨k_121_100 L xs, List.forall_mem_cons.mpr ⟨k_121_101 L xs, List.forall_mem_cons.mpr ⟨k_121_102 L xs, List.forall_mem_cons.mpr ⟨k_121_105 L xs, List.forall_mem_cons.mpr ⟨k_121_106 L xs, List.forall_mem_cons.mpr ⟨k_121_107 L xs, List.forall_mem_cons.mpr ⟨k_121_109 L xs, List.forall_mem_cons.mpr ⟨k_121_112 L xs, List.forall_mem_cons.mpr ⟨k_121_113 L xs, List.forall_mem_cons.mpr ⟨k_121_116 L xs, List.forall_mem_cons.mpr ⟨k_121_118 L xs, List.forall_mem_cons.mpr ⟨k_121_119 L xs, List.forall_mem_cons.mpr ⟨k_121_120 L xs, List.forall_mem_cons.mpr ⟨k_121_122 L xs, List.forall_mem_cons.mpr ⟨k_121_123 L xs, List.forall_mem_cons.mpr ⟨k_121_126 L xs, fun _ h => absurd h List.not_mem_nil⟩⟩⟩⟩⟩⟩⟩⟩⟩⟩⟩⟩⟩⟩⟩⟩⟩⟩⟩⟩⟩⟩⟩⟩⟩⟩⟩⟩⟩⟩⟩⟩⟩⟩⟩⟩⟩⟩⟩⟩⟩⟩⟩⟩⟩⟩⟩⟩⟩⟩⟩⟩⟩⟩
/-- InclusionProver.like.(II)I -/
def cd_122 : List (Nat × ll_O) := [
  (0, .inl (lo_iload 1 1)),
  (1, .inr (.inl (138, 1, 4))),
  (4, .inl (lo_if 9 7 (fun x => decide (¬ x = 0)))),
  (7, .inl (lo_push 8 (.int (-1)))),
  (8, .inr (.inr 1)),
  (9, .inl (lo_aload 10 0)),
  (10, .inl (lo_getf 13 10 8)),
  (13, .inl (lo_getf 16 3 1)),
  (16, .inl (lo_iload 17 1)),
  (17, .inl (lo_aald 18)),
  (18, .inl (lo_aload 19 0)),
  (19, .inl (lo_getf 22 10 8)),
  (22, .inl (lo_getf 25 3 1)),
  (25, .inl (lo_push 26 (.int 1))),
  (26, .inl (lo_iload 27 1)),
  (27, .inl (lo_bin 28 (fun x y => x - y))),
  (28, .inl (lo_aald 29)),
  (29, .inl (lo_iload 30 2)),
  (30, .inr (.inl (55, 3, 33))),
  (33, .inr (.inr 1))]
theorem k_122_0 (L : Nat) (xs : Nat → Int32) : ll_OK1 cX10_like RX10 (some .int) false ll_mN ll_mR ll_mK ll_cnt L xs false 0 (.inl (lo_iload 1 1)) := lk_iload_n (k := 1) (by decide +kernel) rfl
theorem k_122_1 (L : Nat) (xs : Nat → Int32) : ll_OK1 cX10_like RX10 (some .int) false ll_mN ll_mR ll_mK ll_cnt L xs false 1 (.inr (.inl (138, 1, 4))) := ⟨rfl, by decide, by rw [mN_138, mK_138, mR_138]; exact lj_s 132 (by decide +kernel) tb_505 tb_506 (by decide +kernel)⟩
theorem k_122_4 (L : Nat) (xs : Nat → Int32) : ll_OK1 cX10_like RX10 (some .int) false ll_mN ll_mR ll_mK ll_cnt L xs false 4 (.inl (lo_if 9 7 (fun x => decide (¬ x = 0)))) := lk_if_ne (off := 5) (by decide +kernel) rfl
theorem k_122_7 (L : Nat) (xs : Nat → Int32) : ll_OK1 cX10_like RX10 (some .int) false ll_mN ll_mR ll_mK ll_cnt L xs false 7 (.inl (lo_push 8 (.int (-1)))) := lk_iconst (n := (-1)) (by decide +kernel) (by decide)
theorem k_122_8 (L : Nat) (xs : Nat → Int32) : ll_OK1 cX10_like RX10 (some .int) false ll_mN ll_mR ll_mK ll_cnt L xs false 8 (.inr (.inr 1)) := ⟨(fun h => by cases h), (fun _ => ⟨(by decide +kernel), rfl⟩), fun h => by cases h⟩
theorem k_122_9 (L : Nat) (xs : Nat → Int32) : ll_OK1 cX10_like RX10 (some .int) false ll_mN ll_mR ll_mK ll_cnt L xs false 9 (.inl (lo_aload 10 0)) := lk_aload_n (k := 0) (by decide +kernel) rfl
theorem k_122_10 (L : Nat) (xs : Nat → Int32) : ll_OK1 cX10_like RX10 (some .int) false ll_mN ll_mR ll_mK ll_cnt L xs false 10 (.inl (lo_getf 13 10 8)) := lk_getf (ix := 81) (ci := 10) (k := 8) (C := RX10) (T := TX10) (N := 11) (by decide +kernel) rfl in_10 (by decide) tb_485
theorem k_122_13 (L : Nat) (xs : Nat → Int32) : ll_OK1 cX10_like RX10 (some .int) false ll_mN ll_mR ll_mK ll_cnt L xs false 13 (.inl (lo_getf 16 3 1)) := lk_getf (ix := 93) (ci := 3) (k := 1) (C := RX3) (T := TX3) (N := 5) (by decide +kernel) rfl in_3 (by decide) tb_490
theorem k_122_16 (L : Nat) (xs : Nat → Int32) : ll_OK1 cX10_like RX10 (some .int) false ll_mN ll_mR ll_mK ll_cnt L xs false 16 (.inl (lo_iload 17 1)) := lk_iload_n (k := 1) (by decide +kernel) rfl
theorem k_122_17 (L : Nat) (xs : Nat → Int32) : ll_OK1 cX10_like RX10 (some .int) false ll_mN ll_mR ll_mK ll_cnt L xs false 17 (.inl (lo_aald 18)) := lk_aald (by decide +kernel)
theorem k_122_18 (L : Nat) (xs : Nat → Int32) : ll_OK1 cX10_like RX10 (some .int) false ll_mN ll_mR ll_mK ll_cnt L xs false 18 (.inl (lo_aload 19 0)) := lk_aload_n (k := 0) (by decide +kernel) rfl
theorem k_122_19 (L : Nat) (xs : Nat → Int32) : ll_OK1 cX10_like RX10 (some .int) false ll_mN ll_mR ll_mK ll_cnt L xs false 19 (.inl (lo_getf 22 10 8)) := lk_getf (ix := 81) (ci := 10) (k := 8) (C := RX10) (T := TX10) (N := 11) (by decide +kernel) rfl in_10 (by decide) tb_485
theorem k_122_22 (L : Nat) (xs : Nat → Int32) : ll_OK1 cX10_like RX10 (some .int) false ll_mN ll_mR ll_mK ll_cnt L xs false 22 (.inl (lo_getf 25 3 1)) := lk_getf (ix := 93) (ci := 3) (k := 1) (C := RX3) (T := TX3) (N := 5) (by decide +kernel) rfl in_3 (by decide) tb_490
theorem k_122_25 (L : Nat) (xs : Nat → Int32) : ll_OK1 cX10_like RX10 (some .int) false ll_mN ll_mR ll_mK ll_cnt L xs false 25 (.inl (lo_push 26 (.int 1))) := lk_iconst (n := 1) (by decide +kernel) (by decide)
theorem k_122_26 (L : Nat) (xs : Nat → Int32) : ll_OK1 cX10_like RX10 (some .int) false ll_mN ll_mR ll_mK ll_cnt L xs false 26 (.inl (lo_iload 27 1)) := lk_iload_n (k := 1) (by decide +kernel) rfl
theorem k_122_27 (L : Nat) (xs : Nat → Int32) : ll_OK1 cX10_like RX10 (some .int) false ll_mN ll_mR ll_mK ll_cnt L xs false 27 (.inl (lo_bin 28 (fun x y => x - y))) := lk_isub (by decide +kernel)
theorem k_122_28 (L : Nat) (xs : Nat → Int32) : ll_OK1 cX10_like RX10 (some .int) false ll_mN ll_mR ll_mK ll_cnt L xs false 28 (.inl (lo_aald 29)) := lk_aald (by decide +kernel)
theorem k_122_29 (L : Nat) (xs : Nat → Int32) : ll_OK1 cX10_like RX10 (some .int) false ll_mN ll_mR ll_mK ll_cnt L xs false 29 (.inl (lo_iload 30 2)) := lk_iload_n (k := 2) (by decide +kernel) rfl
theorem k_122_30 (L : Nat) (xs : Nat → Int32) : ll_OK1 cX10_like RX10 (some .int) false ll_mN ll_mR ll_mK ll_cnt L xs false 30 (.inr (.inl (55, 3, 33))) := ⟨rfl, by decide, by rw [mN_55, mK_55, mR_55]; exact lj_v 204 2 5 (RX5, TX5, 11) (by decide +kernel) tb_545 tb_39 tb_40 rfl rfl rfl rfl (by decide +kernel)⟩
theorem k_122_33 (L : Nat) (xs : Nat → Int32) : ll_OK1 cX10_like RX10 (some .int) false ll_mN ll_mR ll_mK ll_cnt L xs false 33 (.inr (.inr 1)) := ⟨(fun h => by cases h), (fun _ => ⟨(by decide +kernel), rfl⟩), fun h => by cases h⟩
theorem ok_122 (L : Nat) (xs : Nat → Int32) : ∀ q ∈ cd_122, ll_OK1 cX10_like RX10 (some .int) false ll_mN ll_mR ll_mK ll_cnt L xs false q.1 q.2 :=
  List.forall_mem_cons.mpr ⟨k_122_0 L xs, List.forall_mem_cons.mpr ⟨k_122_1 L xs, List.forall_mem_cons.mpr ⟨k_122_4 L xs, List.forall_mem_cons.mpr ⟨k_122_7 L xs, List.forall_mem_cons.mpr ⟨k_122_8 L xs, List.forall_mem_cons.mpr ⟨k_122_9 L xs, List.forall_mem_cons.mpr ⟨k_122_10 L xs, List.forall_mem_cons.mpr ⟨k_122_13 L xs, List.forall_mem_cons.mpr ⟨k_122_16 L xs, List.forall_mem_cons.mpr ⟨k_122_17 L xs, List.forall_mem_cons.mpr ⟨k_122_18 L xs, List.forall_mem_cons.mpr ⟨k_122_19 L xs, List.forall_mem_cons.mpr ⟨k_122_22 L xs, List.forall_mem_cons.mpr ⟨k_122_25 L xs, List.forall_mem_cons.mpr ⟨k_122_26 L xs, List.forall_mem_cons.mpr ⟨k_122_27 L xs, List.forall_mem_cons.mpr ⟨k_122_28 L xs, List.forall_mem_cons.mpr ⟨k_122_29 L xs, List.forall_mem_cons.mpr ⟨k_122_30 L xs, List.forall_mem_cons.mpr ⟨k_122_33 L xs, fun _ h => absurd h List.not_mem_nil⟩⟩⟩⟩⟩⟩⟩⟩⟩⟩⟩⟩⟩⟩⟩⟩⟩⟩⟩⟩
/-- InclusionProver.has.(I)Z -/
def cd_123 : List (Nat × ll_O) := [
  (0, .inl (lo_iload 1 1)),
  (1, .inr (.inl (138, 1, 4))),
  (4, .inl (lo_if 27 7 (fun x => decide (x = 0)))),
  (7, .inl (lo_aload 8 0)),
  (8, .inl (lo_aload 9 0)),
  (9, .inl (lo_getf 12 10 8)),
  (12, .inl (lo_getf 15 3 1)),
  (15, .inl (lo_iload 16 1)),
  (16, .inl (lo_aald 17)),
  (17, .inr (.inl (148, 2, 20))),
  (20, .inl (lo_if 27 23 (fun x => decide (x = 0)))),
  (23, .inl (lo_push 24 (.int 1))),
  (24, .inl (lo_goto 28)),
  (27, .inl (lo_push 28 (.int 0))),
  (28, .inl (lo_istore 29 2)),
  (29, .inl (lo_aload 30 0)),
  (30, .inl (lo_getf 33 10 8)),
  (33, .inl (lo_getf 36 3 0)),
  (36, .inr (.inl (71, 1, 39))),
  (39, .inl (lo_iload 40 2)),
  (40, .inr (.inr 2))]
theorem k_123_0 (L : Nat) (xs : Nat → Int32) : ll_OK1 cX10_has RX10 (some .boolean) false ll_mN ll_mR ll_mK ll_cnt L xs false 0 (.inl (lo_iload 1 1)) := lk_iload_n (k := 1) (by decide +kernel) rfl
theorem k_123_1 (L : Nat) (xs : Nat → Int32) : ll_OK1 cX10_has RX10 (some .boolean) false ll_mN ll_mR ll_mK ll_cnt L xs false 1 (.inr (.inl (138, 1, 4))) := ⟨rfl, by decide, by rw [mN_138, mK_138, mR_138]; exact lj_s 132 (by decide +kernel) tb_505 tb_506 (by decide +kernel)⟩
theorem k_123_4 (L : Nat) (xs : Nat → Int32) : ll_OK1 cX10_has RX10 (some .boolean) false ll_mN ll_mR ll_mK ll_cnt L xs false 4 (.inl (lo_if 27 7 (fun x => decide (x = 0)))) := lk_if_eq (off := 23) (by decide +kernel) rfl
theorem k_123_7 (L : Nat) (xs : Nat → Int32) : ll_OK1 cX10_has RX10 (some .boolean) false ll_mN ll_mR ll_mK ll_cnt L xs false 7 (.inl (lo_aload 8 0)) := lk_aload_n (k := 0) (by decide +kernel) rfl
theorem k_123_8 (L : Nat) (xs : Nat → Int32) : ll_OK1 cX10_has RX10 (some .boolean) false ll_mN ll_mR ll_mK ll_cnt L xs false 8 (.inl (lo_aload 9 0)) := lk_aload_n (k := 0) (by decide +kernel) rfl
theorem k_123_9 (L : Nat) (xs : Nat → Int32) : ll_OK1 cX10_has RX10 (some .boolean) false ll_mN ll_mR ll_mK ll_cnt L xs false 9 (.inl (lo_getf 12 10 8)) := lk_getf (ix := 81) (ci := 10) (k := 8) (C := RX10) (T := TX10) (N := 11) (by decide +kernel) rfl in_10 (by decide) tb_485
theorem k_123_12 (L : Nat) (xs : Nat → Int32) : ll_OK1 cX10_has RX10 (some .boolean) false ll_mN ll_mR ll_mK ll_cnt L xs false 12 (.inl (lo_getf 15 3 1)) := lk_getf (ix := 93) (ci := 3) (k := 1) (C := RX3) (T := TX3) (N := 5) (by decide +kernel) rfl in_3 (by decide) tb_490
theorem k_123_15 (L : Nat) (xs : Nat → Int32) : ll_OK1 cX10_has RX10 (some .boolean) false ll_mN ll_mR ll_mK ll_cnt L xs false 15 (.inl (lo_iload 16 1)) := lk_iload_n (k := 1) (by decide +kernel) rfl
theorem k_123_16 (L : Nat) (xs : Nat → Int32) : ll_OK1 cX10_has RX10 (some .boolean) false ll_mN ll_mR ll_mK ll_cnt L xs false 16 (.inl (lo_aald 17)) := lk_aald (by decide +kernel)
theorem k_123_17 (L : Nat) (xs : Nat → Int32) : ll_OK1 cX10_has RX10 (some .boolean) false ll_mN ll_mR ll_mK ll_cnt L xs false 17 (.inr (.inl (148, 2, 20))) := ⟨rfl, by decide, by rw [mN_148, mK_148, mR_148]; exact lj_v 208 1 10 (RX10, TX10, 11) (by decide +kernel) tb_546 tb_547 tb_548 rfl rfl rfl rfl (by decide +kernel)⟩
theorem k_123_20 (L : Nat) (xs : Nat → Int32) : ll_OK1 cX10_has RX10 (some .boolean) false ll_mN ll_mR ll_mK ll_cnt L xs false 20 (.inl (lo_if 27 23 (fun x => decide (x = 0)))) := lk_if_eq (off := 7) (by decide +kernel) rfl
theorem k_123_23 (L : Nat) (xs : Nat → Int32) : ll_OK1 cX10_has RX10 (some .boolean) false ll_mN ll_mR ll_mK ll_cnt L xs false 23 (.inl (lo_push 24 (.int 1))) := lk_iconst (n := 1) (by decide +kernel) (by decide)
theorem k_123_24 (L : Nat) (xs : Nat → Int32) : ll_OK1 cX10_has RX10 (some .boolean) false ll_mN ll_mR ll_mK ll_cnt L xs false 24 (.inl (lo_goto 28)) := lk_goto (off := 4) (by decide +kernel) rfl
theorem k_123_27 (L : Nat) (xs : Nat → Int32) : ll_OK1 cX10_has RX10 (some .boolean) false ll_mN ll_mR ll_mK ll_cnt L xs false 27 (.inl (lo_push 28 (.int 0))) := lk_iconst (n := 0) (by decide +kernel) (by decide)
theorem k_123_28 (L : Nat) (xs : Nat → Int32) : ll_OK1 cX10_has RX10 (some .boolean) false ll_mN ll_mR ll_mK ll_cnt L xs false 28 (.inl (lo_istore 29 2)) := lk_istore_n (k := 2) (by decide +kernel) rfl
theorem k_123_29 (L : Nat) (xs : Nat → Int32) : ll_OK1 cX10_has RX10 (some .boolean) false ll_mN ll_mR ll_mK ll_cnt L xs false 29 (.inl (lo_aload 30 0)) := lk_aload_n (k := 0) (by decide +kernel) rfl
theorem k_123_30 (L : Nat) (xs : Nat → Int32) : ll_OK1 cX10_has RX10 (some .boolean) false ll_mN ll_mR ll_mK ll_cnt L xs false 30 (.inl (lo_getf 33 10 8)) := lk_getf (ix := 81) (ci := 10) (k := 8) (C := RX10) (T := TX10) (N := 11) (by decide +kernel) rfl in_10 (by decide) tb_485
theorem k_123_33 (L : Nat) (xs : Nat → Int32) : ll_OK1 cX10_has RX10 (some .boolean) false ll_mN ll_mR ll_mK ll_cnt L xs false 33 (.inl (lo_getf 36 3 0)) := lk_getf (ix := 115) (ci := 3) (k := 0) (C := RX3) (T := TX3) (N := 5) (by decide +kernel) rfl in_3 (by decide) tb_499
theorem k_123_36 (L : Nat) (xs : Nat → Int32) : ll_OK1 cX10_has RX10 (some .boolean) false ll_mN ll_mR ll_mK ll_cnt L xs false 36 (.inr (.inl (71, 1, 39))) := ⟨rfl, by decide, by rw [mN_71, mK_71, mR_71]; exact lj_v 149 0 7 (RX7, TX7, 2) (by decide +kernel) tb_514 tb_80 tb_81 rfl rfl rfl rfl (by decide +kernel)⟩
theorem k_123_39 (L : Nat) (xs : Nat → Int32) : ll_OK1 cX10_has RX10 (some .boolean) false ll_mN ll_mR ll_mK ll_cnt L xs false 39 (.inl (lo_iload 40 2)) := lk_iload_n (k := 2) (by decide +kernel) rfl
theorem k_123_40 (L : Nat) (xs : Nat → Int32) : ll_OK1 cX10_has RX10 (some .boolean) false ll_mN ll_mR ll_mK ll_cnt L xs false 40 (.inr (.inr 2)) := ⟨(fun h => by cases h), (fun h => by cases h), fun _ => ⟨(by decide +kernel), rfl⟩⟩
theorem ok_123 (L : Nat) (xs : Nat → Int32) : ∀ q ∈ cd_123, ll_OK1 cX10_has RX10 (some .boolean) false ll_mN ll_mR ll_mK ll_cnt L xs false q.1 q.2 :=
  List.forall_mem_cons.mpr ⟨k_123_0 L xs, List.forall_mem_cons.mpr ⟨k_123_1 L xs, List.forall_mem_cons.mpr ⟨k_123_4 L xs, List.forall_mem_cons.mpr ⟨k_123_7 L xs, List.forall_mem_cons.mpr ⟨k_123_8 L xs, List.forall_mem_cons.mpr ⟨k_123_9 L xs, List.forall_mem_cons.mpr ⟨k_123_12 L xs, List.forall_mem_cons.mpr ⟨k_123_15 L xs, List.forall_mem_cons.mpr ⟨k_123_16 L xs, List.forall_mem_cons.mpr ⟨k_123_17 L xs, List.forall_mem_cons.mpr ⟨k_123_20 L xs, List.forall_mem_cons.mpr ⟨k_123_23 L xs, List.forall_mem_cons.mpr ⟨k_123_24 L xs, List.forall_mem_cons.mpr ⟨k_123_27 L xs, List.forall_mem_cons.mpr ⟨k_123_28 L xs, List.forall_mem_cons.mpr ⟨k_123_29 L xs, List.forall_mem_cons.mpr ⟨k_123_30 L xs, List.forall_mem_cons.mpr ⟨k_123_33 L xs, List.forall_mem_cons.mpr ⟨k_123_36 L xs, List.forall_mem_cons.mpr ⟨k_123_39 L xs, List.forall_mem_cons.mpr ⟨k_123_40 L xs, fun _ h => absurd h List.not_mem_nil⟩⟩⟩⟩⟩⟩⟩⟩⟩⟩⟩⟩⟩⟩⟩⟩⟩⟩⟩⟩⟩
/-- InclusionProver.words.(II)I -/
def cd_124 : List (Nat × ll_O) := [
  (0, .inl (lo_iload 1 1)),
  (1, .inl (lo_iload 2 2)),
  (2, .inr (.inl (140, 2, 5))),
  (5, .inl (lo_if 10 8 (fun x => decide (¬ x = 0)))),
  (8, .inl (lo_push 9 (.int (-1)))),
  (9, .inr (.inr 1)),
  (10, .inl (lo_aload 11 0)),
  (11, .inl (lo_getf 14 10 4)),
  (14, .inl (lo_aload 15 0)),
  (15, .inl (lo_getf 18 10 8)),
  (18, .inl (lo_getf 21 3 1)),
  (21, .inl (lo_push 22 (.int 0))),
  (22, .inl (lo_aald 23)),
  (23, .inl (lo_aload 24 0)),
  (24, .inl (lo_getf 27 10 8)),
  (27, .inl (lo_getf 30 3 1)),
  (30, .inl (lo_push 31 (.int 1))),
  (31, .inl (lo_aald 32)),
  (32, .inl (lo_iload 33 1)),
  (33, .inl (lo_iload 34 2)),
  (34, .inr (.inl (103, 5, 37))),
  (37, .inr (.inr 1))]
theorem k_124_0 (L : Nat) (xs : Nat → Int32) : ll_OK1 cX10_words RX10 (some .int) false ll_mN ll_mR ll_mK ll_cnt L xs false 0 (.inl (lo_iload 1 1)) := lk_iload_n (k := 1) (by decide +kernel) rfl
theorem k_124_1 (L : Nat) (xs : Nat → Int32) : ll_OK1 cX10_words RX10 (some .int) false ll_mN ll_mR ll_mK ll_cnt L xs false 1 (.inl (lo_iload 2 2)) := lk_iload_n (k := 2) (by decide +kernel) rfl
theorem k_124_2 (L : Nat) (xs : Nat → Int32) : ll_OK1 cX10_words RX10 (some .int) false ll_mN ll_mR ll_mK ll_cnt L xs false 2 (.inr (.inl (140, 2, 5))) := ⟨rfl, by decide, by rw [mN_140, mK_140, mR_140]; exact lj_s 212 (by decide +kernel) tb_549 tb_550 (by decide +kernel)⟩
theorem k_124_5 (L : Nat) (xs : Nat → Int32) : ll_OK1 cX10_words RX10 (some .int) false ll_mN ll_mR ll_mK ll_cnt L xs false 5 (.inl (lo_if 10 8 (fun x => decide (¬ x = 0)))) := lk_if_ne (off := 5) (by decide +kernel) rfl
theorem k_124_8 (L : Nat) (xs : Nat → Int32) : ll_OK1 cX10_words RX10 (some .int) false ll_mN ll_mR ll_mK ll_cnt L xs false 8 (.inl (lo_push 9 (.int (-1)))) := lk_iconst (n := (-1)) (by decide +kernel) (by decide)
theorem k_124_9 (L : Nat) (xs : Nat → Int32) : ll_OK1 cX10_words RX10 (some .int) false ll_mN ll_mR ll_mK ll_cnt L xs false 9 (.inr (.inr 1)) := ⟨(fun h => by cases h), (fun _ => ⟨(by decide +kernel), rfl⟩), fun h => by cases h⟩
theorem k_124_10 (L : Nat) (xs : Nat → Int32) : ll_OK1 cX10_words RX10 (some .int) false ll_mN ll_mR ll_mK ll_cnt L xs false 10 (.inl (lo_aload 11 0)) := lk_aload_n (k := 0) (by decide +kernel) rfl
theorem k_124_11 (L : Nat) (xs : Nat → Int32) : ll_OK1 cX10_words RX10 (some .int) false ll_mN ll_mR ll_mK ll_cnt L xs false 11 (.inl (lo_getf 14 10 4)) := lk_getf (ix := 74) (ci := 10) (k := 4) (C := RX10) (T := TX10) (N := 11) (by decide +kernel) rfl in_10 (by decide) tb_479
theorem k_124_14 (L : Nat) (xs : Nat → Int32) : ll_OK1 cX10_words RX10 (some .int) false ll_mN ll_mR ll_mK ll_cnt L xs false 14 (.inl (lo_aload 15 0)) := lk_aload_n (k := 0) (by decide +kernel) rfl
theorem k_124_15 (L : Nat) (xs : Nat → Int32) : ll_OK1 cX10_words RX10 (some .int) false ll_mN ll_mR ll_mK ll_cnt L xs false 15 (.inl (lo_getf 18 10 8)) := lk_getf (ix := 81) (ci := 10) (k := 8) (C := RX10) (T := TX10) (N := 11) (by decide +kernel) rfl in_10 (by decide) tb_485
theorem k_124_18 (L : Nat) (xs : Nat → Int32) : ll_OK1 cX10_words RX10 (some .int) false ll_mN ll_mR ll_mK ll_cnt L xs false 18 (.inl (lo_getf 21 3 1)) := lk_getf (ix := 93) (ci := 3) (k := 1) (C := RX3) (T := TX3) (N := 5) (by decide +kernel) rfl in_3 (by decide) tb_490
theorem k_124_21 (L : Nat) (xs : Nat → Int32) : ll_OK1 cX10_words RX10 (some .int) false ll_mN ll_mR ll_mK ll_cnt L xs false 21 (.inl (lo_push 22 (.int 0))) := lk_iconst (n := 0) (by decide +kernel) (by decide)
theorem k_124_22 (L : Nat) (xs : Nat → Int32) : ll_OK1 cX10_words RX10 (some .int) false ll_mN ll_mR ll_mK ll_cnt L xs false 22 (.inl (lo_aald 23)) := lk_aald (by decide +kernel)
theorem k_124_23 (L : Nat) (xs : Nat → Int32) : ll_OK1 cX10_words RX10 (some .int) false ll_mN ll_mR ll_mK ll_cnt L xs false 23 (.inl (lo_aload 24 0)) := lk_aload_n (k := 0) (by decide +kernel) rfl
theorem k_124_24 (L : Nat) (xs : Nat → Int32) : ll_OK1 cX10_words RX10 (some .int) false ll_mN ll_mR ll_mK ll_cnt L xs false 24 (.inl (lo_getf 27 10 8)) := lk_getf (ix := 81) (ci := 10) (k := 8) (C := RX10) (T := TX10) (N := 11) (by decide +kernel) rfl in_10 (by decide) tb_485
theorem k_124_27 (L : Nat) (xs : Nat → Int32) : ll_OK1 cX10_words RX10 (some .int) false ll_mN ll_mR ll_mK ll_cnt L xs false 27 (.inl (lo_getf 30 3 1)) := lk_getf (ix := 93) (ci := 3) (k := 1) (C := RX3) (T := TX3) (N := 5) (by decide +kernel) rfl in_3 (by decide) tb_490
theorem k_124_30 (L : Nat) (xs : Nat → Int32) : ll_OK1 cX10_words RX10 (some .int) false ll_mN ll_mR ll_mK ll_cnt L xs false 30 (.inl (lo_push 31 (.int 1))) := lk_iconst (n := 1) (by decide +kernel) (by decide)
theorem k_124_31 (L : Nat) (xs : Nat → Int32) : ll_OK1 cX10_words RX10 (some .int) false ll_mN ll_mR ll_mK ll_cnt L xs false 31 (.inl (lo_aald 32)) := lk_aald (by decide +kernel)
theorem k_124_32 (L : Nat) (xs : Nat → Int32) : ll_OK1 cX10_words RX10 (some .int) false ll_mN ll_mR ll_mK ll_cnt L xs false 32 (.inl (lo_iload 33 1)) := lk_iload_n (k := 1) (by decide +kernel) rfl
theorem k_124_33 (L : Nat) (xs : Nat → Int32) : ll_OK1 cX10_words RX10 (some .int) false ll_mN ll_mR ll_mK ll_cnt L xs false 33 (.inl (lo_iload 34 2)) := lk_iload_n (k := 2) (by decide +kernel) rfl
theorem k_124_34 (L : Nat) (xs : Nat → Int32) : ll_OK1 cX10_words RX10 (some .int) false ll_mN ll_mR ll_mK ll_cnt L xs false 34 (.inr (.inl (103, 5, 37))) := ⟨rfl, by decide, by rw [mN_103, mK_103, mR_103]; exact lj_v 216 4 9 (RX9, TX9, 7) (by decide +kernel) tb_551 tb_417 tb_418 rfl rfl rfl rfl (by decide +kernel)⟩
theorem k_124_37 (L : Nat) (xs : Nat → Int32) : ll_OK1 cX10_words RX10 (some .int) false ll_mN ll_mR ll_mK ll_cnt L xs false 37 (.inr (.inr 1)) := ⟨(fun h => by cases h), (fun _ => ⟨(by decide +kernel), rfl⟩), fun h => by cases h⟩
theorem ok_124 (L : Nat) (xs : Nat → Int32) : ∀ q ∈ cd_124, ll_OK1 cX10_words RX10 (some .int) false ll_mN ll_mR ll_mK ll_cnt L xs false q.1 q.2 :=
  List.forall_mem_cons.mpr ⟨k_124_0 L xs, List.forall_mem_cons.mpr ⟨k_124_1 L xs, List.forall_mem_cons.mpr ⟨k_124_2 L xs, List.forall_mem_cons.mpr ⟨k_124_5 L xs, List.forall_mem_cons.mpr ⟨k_124_8 L xs, List.forall_mem_cons.mpr ⟨k_124_9 L xs, List.forall_mem_cons.mpr ⟨k_124_10 L xs, List.forall_mem_cons.mpr ⟨k_124_11 L xs, List.forall_mem_cons.mpr ⟨k_124_14 L xs, List.forall_mem_cons.mpr ⟨k_124_15 L xs, List.forall_mem_cons.mpr ⟨k_124_18 L xs, List.forall_mem_cons.mpr ⟨k_124_21 L xs, List.forall_mem_cons.mpr ⟨k_124_22 L xs, List.forall_mem_cons.mpr ⟨k_124_23 L xs, List.forall_mem_cons.mpr ⟨k_124_24 L xs, List.forall_mem_cons.mpr ⟨k_124_27 L xs, List.forall_mem_cons.mpr ⟨k_124_30 L xs, List.forall_mem_cons.mpr ⟨k_124_31 L xs, List.forall_mem_cons.mpr ⟨k_124_32 L xs, List.forall_mem_cons.mpr ⟨k_124_33 L xs, List.forall_mem_cons.mpr ⟨k_124_34 L xs, List.forall_mem_cons.mpr ⟨k_124_37 L xs, fun _ h => absurd h List.not_mem_nil⟩⟩⟩⟩⟩⟩⟩⟩⟩⟩⟩⟩⟩⟩⟩⟩⟩⟩⟩⟩⟩⟩
/-- InclusionProver.word.(III)I -/
def cd_125 : List (Nat × ll_O) := [
  (0, .inl (lo_iload 1 1)),
  (1, .inl (lo_iload 2 2)),
  (2, .inr (.inl (140, 2, 5))),
  (5, .inl (lo_if 12 8 (fun x => decide (x = 0)))),
  (8, .inl (lo_iload 9 3)),
  (9, .inl (lo_if 14 12 (fun x => decide (0 ≤ x)))),
  (12, .inl (lo_push 13 (.int (-1)))),
  (13, .inr (.inr 1)),
  (14, .inl (lo_aload 15 0)),
  (15, .inl (lo_getf 18 10 4)),
  (18, .inl (lo_aload 19 0)),
  (19, .inl (lo_getf 22 10 8)),
  (22, .inl (lo_getf 25 3 1)),
  (25, .inl (lo_push 26 (.int 0))),
  (26, .inl (lo_aald 27)),
  (27, .inl (lo_aload 28 0)),
  (28, .inl (lo_getf 31 10 8)),
  (31, .inl (lo_getf 34 3 1)),
  (34, .inl (lo_push 35 (.int 1))),
  (35, .inl (lo_aald 36)),
  (36, .inl (lo_iload 37 1)),
  (37, .inl (lo_iload 38 2)),
  (38, .inl (lo_iload 39 3)),
  (39, .inr (.inl (104, 6, 42))),
  (42, .inr (.inr 1))]
theorem k_125_0 (L : Nat) (xs : Nat → Int32) : ll_OK1 cX10_word RX10 (some .int) false ll_mN ll_mR ll_mK ll_cnt L xs false 0 (.inl (lo_iload 1 1)) := lk_iload_n (k := 1) (by decide +kernel) rfl
theorem k_125_1 (L : Nat) (xs : Nat → Int32) : ll_OK1 cX10_word RX10 (some .int) false ll_mN ll_mR ll_mK ll_cnt L xs false 1 (.inl (lo_iload 2 2)) := lk_iload_n (k := 2) (by decide +kernel) rfl
theorem k_125_2 (L : Nat) (xs : Nat → Int32) : ll_OK1 cX10_word RX10 (some .int) false ll_mN ll_mR ll_mK ll_cnt L xs false 2 (.inr (.inl (140, 2, 5))) := ⟨rfl, by decide, by rw [mN_140, mK_140, mR_140]; exact lj_s 212 (by decide +kernel) tb_549 tb_550 (by decide +kernel)⟩
theorem k_125_5 (L : Nat) (xs : Nat → Int32) : ll_OK1 cX10_word RX10 (some .int) false ll_mN ll_mR ll_mK ll_cnt L xs false 5 (.inl (lo_if 12 8 (fun x => decide (x = 0)))) := lk_if_eq (off := 7) (by decide +kernel) rfl
theorem k_125_8 (L : Nat) (xs : Nat → Int32) : ll_OK1 cX10_word RX10 (some .int) false ll_mN ll_mR ll_mK ll_cnt L xs false 8 (.inl (lo_iload 9 3)) := lk_iload_n (k := 3) (by decide +kernel) rfl
theorem k_125_9 (L : Nat) (xs : Nat → Int32) : ll_OK1 cX10_word RX10 (some .int) false ll_mN ll_mR ll_mK ll_cnt L xs false 9 (.inl (lo_if 14 12 (fun x => decide (0 ≤ x)))) := lk_if_ge (off := 5) (by decide +kernel) rfl
theorem k_125_12 (L : Nat) (xs : Nat → Int32) : ll_OK1 cX10_word RX10 (some .int) false ll_mN ll_mR ll_mK ll_cnt L xs false 12 (.inl (lo_push 13 (.int (-1)))) := lk_iconst (n := (-1)) (by decide +kernel) (by decide)
theorem k_125_13 (L : Nat) (xs : Nat → Int32) : ll_OK1 cX10_word RX10 (some .int) false ll_mN ll_mR ll_mK ll_cnt L xs false 13 (.inr (.inr 1)) := ⟨(fun h => by cases h), (fun _ => ⟨(by decide +kernel), rfl⟩), fun h => by cases h⟩
theorem k_125_14 (L : Nat) (xs : Nat → Int32) : ll_OK1 cX10_word RX10 (some .int) false ll_mN ll_mR ll_mK ll_cnt L xs false 14 (.inl (lo_aload 15 0)) := lk_aload_n (k := 0) (by decide +kernel) rfl
theorem k_125_15 (L : Nat) (xs : Nat → Int32) : ll_OK1 cX10_word RX10 (some .int) false ll_mN ll_mR ll_mK ll_cnt L xs false 15 (.inl (lo_getf 18 10 4)) := lk_getf (ix := 74) (ci := 10) (k := 4) (C := RX10) (T := TX10) (N := 11) (by decide +kernel) rfl in_10 (by decide) tb_479
theorem k_125_18 (L : Nat) (xs : Nat → Int32) : ll_OK1 cX10_word RX10 (some .int) false ll_mN ll_mR ll_mK ll_cnt L xs false 18 (.inl (lo_aload 19 0)) := lk_aload_n (k := 0) (by decide +kernel) rfl
theorem k_125_19 (L : Nat) (xs : Nat → Int32) : ll_OK1 cX10_word RX10 (some .int) false ll_mN ll_mR ll_mK ll_cnt L xs false 19 (.inl (lo_getf 22 10 8)) := lk_getf (ix := 81) (ci := 10) (k := 8) (C := RX10) (T := TX10) (N := 11) (by decide +kernel) rfl in_10 (by decide) tb_485
theorem k_125_22 (L : Nat) (xs : Nat → Int32) : ll_OK1 cX10_word RX10 (some .int) false ll_mN ll_mR ll_mK ll_cnt L xs false 22 (.inl (lo_getf 25 3 1)) := lk_getf (ix := 93) (ci := 3) (k := 1) (C := RX3) (T := TX3) (N := 5) (by decide +kernel) rfl in_3 (by decide) tb_490
theorem k_125_25 (L : Nat) (xs : Nat → Int32) : ll_OK1 cX10_word RX10 (some .int) false ll_mN ll_mR ll_mK ll_cnt L xs false 25 (.inl (lo_push 26 (.int 0))) := lk_iconst (n := 0) (by decide +kernel) (by decide)
theorem k_125_26 (L : Nat) (xs : Nat → Int32) : ll_OK1 cX10_word RX10 (some .int) false ll_mN ll_mR ll_mK ll_cnt L xs false 26 (.inl (lo_aald 27)) := lk_aald (by decide +kernel)
theorem k_125_27 (L : Nat) (xs : Nat → Int32) : ll_OK1 cX10_word RX10 (some .int) false ll_mN ll_mR ll_mK ll_cnt L xs false 27 (.inl (lo_aload 28 0)) := lk_aload_n (k := 0) (by decide +kernel) rfl
theorem k_125_28 (L : Nat) (xs : Nat → Int32) : ll_OK1 cX10_word RX10 (some .int) false ll_mN ll_mR ll_mK ll_cnt L xs false 28 (.inl (lo_getf 31 10 8)) := lk_getf (ix := 81) (ci := 10) (k := 8) (C := RX10) (T := TX10) (N := 11) (by decide +kernel) rfl in_10 (by decide) tb_485
theorem k_125_31 (L : Nat) (xs : Nat → Int32) : ll_OK1 cX10_word RX10 (some .int) false ll_mN ll_mR ll_mK ll_cnt L xs false 31 (.inl (lo_getf 34 3 1)) := lk_getf (ix := 93) (ci := 3) (k := 1) (C := RX3) (T := TX3) (N := 5) (by decide +kernel) rfl in_3 (by decide) tb_490
theorem k_125_34 (L : Nat) (xs : Nat → Int32) : ll_OK1 cX10_word RX10 (some .int) false ll_mN ll_mR ll_mK ll_cnt L xs false 34 (.inl (lo_push 35 (.int 1))) := lk_iconst (n := 1) (by decide +kernel) (by decide)
theorem k_125_35 (L : Nat) (xs : Nat → Int32) : ll_OK1 cX10_word RX10 (some .int) false ll_mN ll_mR ll_mK ll_cnt L xs false 35 (.inl (lo_aald 36)) := lk_aald (by decide +kernel)
theorem k_125_36 (L : Nat) (xs : Nat → Int32) : ll_OK1 cX10_word RX10 (some .int) false ll_mN ll_mR ll_mK ll_cnt L xs false 36 (.inl (lo_iload 37 1)) := lk_iload_n (k := 1) (by decide +kernel) rfl
theorem k_125_37 (L : Nat) (xs : Nat → Int32) : ll_OK1 cX10_word RX10 (some .int) false ll_mN ll_mR ll_mK ll_cnt L xs false 37 (.inl (lo_iload 38 2)) := lk_iload_n (k := 2) (by decide +kernel) rfl
theorem k_125_38 (L : Nat) (xs : Nat → Int32) : ll_OK1 cX10_word RX10 (some .int) false ll_mN ll_mR ll_mK ll_cnt L xs false 38 (.inl (lo_iload 39 3)) := lk_iload_n (k := 3) (by decide +kernel) rfl
theorem k_125_39 (L : Nat) (xs : Nat → Int32) : ll_OK1 cX10_word RX10 (some .int) false ll_mN ll_mR ll_mK ll_cnt L xs false 39 (.inr (.inl (104, 6, 42))) := ⟨rfl, by decide, by rw [mN_104, mK_104, mR_104]; exact lj_v 220 5 9 (RX9, TX9, 7) (by decide +kernel) tb_552 tb_553 tb_554 rfl rfl rfl rfl (by decide +kernel)⟩
theorem k_125_42 (L : Nat) (xs : Nat → Int32) : ll_OK1 cX10_word RX10 (some .int) false ll_mN ll_mR ll_mK ll_cnt L xs false 42 (.inr (.inr 1)) := ⟨(fun h => by cases h), (fun _ => ⟨(by decide +kernel), rfl⟩), fun h => by cases h⟩
theorem ok_125 (L : Nat) (xs : Nat → Int32) : ∀ q ∈ cd_125, ll_OK1 cX10_word RX10 (some .int) false ll_mN ll_mR ll_mK ll_cnt L xs false q.1 q.2 :=
  List.forall_mem_cons.mpr ⟨k_125_0 L xs, List.forall_mem_cons.mpr ⟨k_125_1 L xs, List.forall_mem_cons.mpr ⟨k_125_2 L xs, List.forall_mem_cons.mpr ⟨k_125_5 L xs, List.forall_mem_cons.mpr ⟨k_125_8 L xs, List.forall_mem_cons.mpr ⟨k_125_9 L xs, List.forall_mem_cons.mpr ⟨k_125_12 L xs, List.forall_mem_cons.mpr ⟨k_125_13 L xs, List.forall_mem_cons.mpr ⟨k_125_14 L xs, List.forall_mem_cons.mpr ⟨k_125_15 L xs, List.forall_mem_cons.mpr ⟨k_125_18 L xs, List.forall_mem_cons.mpr ⟨k_125_19 L xs, List.forall_mem_cons.mpr ⟨k_125_22 L xs, List.forall_mem_cons.mpr ⟨k_125_25 L xs, List.forall_mem_cons.mpr ⟨k_125_26 L xs, List.forall_mem_cons.mpr ⟨k_125_27 L xs, List.forall_mem_cons.mpr ⟨k_125_28 L xs, List.forall_mem_cons.mpr ⟨k_125_31 L xs, List.forall_mem_cons.mpr ⟨k_125_34 L xs, List.forall_mem_cons.mpr ⟨k_125_35 L xs, List.forall_mem_cons.mpr ⟨k_125_36 L xs, List.forall_mem_cons.mpr ⟨k_125_37 L xs, List.forall_mem_cons.mpr ⟨k_125_38 L xs, List.forall_mem_cons.mpr ⟨k_125_39 L xs, List.forall_mem_cons.mpr ⟨k_125_42 L xs, fun _ h => absurd h List.not_mem_nil⟩⟩⟩⟩⟩⟩⟩⟩⟩⟩⟩⟩⟩⟩⟩⟩⟩⟩⟩⟩⟩⟩⟩⟩⟩
/-- InclusionProver.prove.()I -/
def cd_126 : List (Nat × ll_O) := [
  (0, .inl (lo_aload 1 0)),
  (1, .inl (lo_getf 4 10 2)),
  (4, .inl (lo_aload 5 0)),
  (5, .inl (lo_getf 8 10 8)),
  (8, .inl (lo_getf 11 3 1)),
  (11, .inl (lo_push 12 (.int 0))),
  (12, .inl (lo_aald 13)),
  (13, .inl (lo_aload 14 0)),
  (14, .inl (lo_getf 17 10 8)),
  (17, .inl (lo_getf 20 3 1)),
  (20, .inl (lo_push 21 (.int 1))),
  (21, .inl (lo_aald 22)),
  (22, .inl (lo_aload 23 0)),
  (23, .inl (lo_getf 26 10 8)),
  (26, .inl (lo_getf 29 3 3)),
  (29, .inr (.inl (32, 4, 32))),
  (32, .inr (.inr 1))]
theorem k_126_0 (L : Nat) (xs : Nat → Int32) : ll_OK1 cX10_prove RX10 (some .int) false ll_mN ll_mR ll_mK ll_cnt L xs false 0 (.inl (lo_aload 1 0)) := lk_aload_n (k := 0) (by decide +kernel) rfl
theorem k_126_1 (L : Nat) (xs : Nat → Int32) : ll_OK1 cX10_prove RX10 (some .int) false ll_mN ll_mR ll_mK ll_cnt L xs false 1 (.inl (lo_getf 4 10 2)) := lk_getf (ix := 58) (ci := 10) (k := 2) (C := RX10) (T := TX10) (N := 11) (by decide +kernel) rfl in_10 (by decide) tb_467
theorem k_126_4 (L : Nat) (xs : Nat → Int32) : ll_OK1 cX10_prove RX10 (some .int) false ll_mN ll_mR ll_mK ll_cnt L xs false 4 (.inl (lo_aload 5 0)) := lk_aload_n (k := 0) (by decide +kernel) rfl
theorem k_126_5 (L : Nat) (xs : Nat → Int32) : ll_OK1 cX10_prove RX10 (some .int) false ll_mN ll_mR ll_mK ll_cnt L xs false 5 (.inl (lo_getf 8 10 8)) := lk_getf (ix := 81) (ci := 10) (k := 8) (C := RX10) (T := TX10) (N := 11) (by decide +kernel) rfl in_10 (by decide) tb_485
theorem k_126_8 (L : Nat) (xs : Nat → Int32) : ll_OK1 cX10_prove RX10 (some .int) false ll_mN ll_mR ll_mK ll_cnt L xs false 8 (.inl (lo_getf 11 3 1)) := lk_getf (ix := 93) (ci := 3) (k := 1) (C := RX3) (T := TX3) (N := 5) (by decide +kernel) rfl in_3 (by decide) tb_490
theorem k_126_11 (L : Nat) (xs : Nat → Int32) : ll_OK1 cX10_prove RX10 (some .int) false ll_mN ll_mR ll_mK ll_cnt L xs false 11 (.inl (lo_push 12 (.int 0))) := lk_iconst (n := 0) (by decide +kernel) (by decide)
theorem k_126_12 (L : Nat) (xs : Nat → Int32) : ll_OK1 cX10_prove RX10 (some .int) false ll_mN ll_mR ll_mK ll_cnt L xs false 12 (.inl (lo_aald 13)) := lk_aald (by decide +kernel)
theorem k_126_13 (L : Nat) (xs : Nat → Int32) : ll_OK1 cX10_prove RX10 (some .int) false ll_mN ll_mR ll_mK ll_cnt L xs false 13 (.inl (lo_aload 14 0)) := lk_aload_n (k := 0) (by decide +kernel) rfl
theorem k_126_14 (L : Nat) (xs : Nat → Int32) : ll_OK1 cX10_prove RX10 (some .int) false ll_mN ll_mR ll_mK ll_cnt L xs false 14 (.inl (lo_getf 17 10 8)) := lk_getf (ix := 81) (ci := 10) (k := 8) (C := RX10) (T := TX10) (N := 11) (by decide +kernel) rfl in_10 (by decide) tb_485
theorem k_126_17 (L : Nat) (xs : Nat → Int32) : ll_OK1 cX10_prove RX10 (some .int) false ll_mN ll_mR ll_mK ll_cnt L xs false 17 (.inl (lo_getf 20 3 1)) := lk_getf (ix := 93) (ci := 3) (k := 1) (C := RX3) (T := TX3) (N := 5) (by decide +kernel) rfl in_3 (by decide) tb_490
theorem k_126_20 (L : Nat) (xs : Nat → Int32) : ll_OK1 cX10_prove RX10 (some .int) false ll_mN ll_mR ll_mK ll_cnt L xs false 20 (.inl (lo_push 21 (.int 1))) := lk_iconst (n := 1) (by decide +kernel) (by decide)
theorem k_126_21 (L : Nat) (xs : Nat → Int32) : ll_OK1 cX10_prove RX10 (some .int) false ll_mN ll_mR ll_mK ll_cnt L xs false 21 (.inl (lo_aald 22)) := lk_aald (by decide +kernel)
theorem k_126_22 (L : Nat) (xs : Nat → Int32) : ll_OK1 cX10_prove RX10 (some .int) false ll_mN ll_mR ll_mK ll_cnt L xs false 22 (.inl (lo_aload 23 0)) := lk_aload_n (k := 0) (by decide +kernel) rfl
theorem k_126_23 (L : Nat) (xs : Nat → Int32) : ll_OK1 cX10_prove RX10 (some .int) false ll_mN ll_mR ll_mK ll_cnt L xs false 23 (.inl (lo_getf 26 10 8)) := lk_getf (ix := 81) (ci := 10) (k := 8) (C := RX10) (T := TX10) (N := 11) (by decide +kernel) rfl in_10 (by decide) tb_485
theorem k_126_26 (L : Nat) (xs : Nat → Int32) : ll_OK1 cX10_prove RX10 (some .int) false ll_mN ll_mR ll_mK ll_cnt L xs false 26 (.inl (lo_getf 29 3 3)) := lk_getf (ix := 155) (ci := 3) (k := 3) (C := RX3) (T := TX3) (N := 5) (by decide +kernel) rfl in_3 (by decide) tb_518
theorem k_126_29 (L : Nat) (xs : Nat → Int32) : ll_OK1 cX10_prove RX10 (some .int) false ll_mN ll_mR ll_mK ll_cnt L xs false 29 (.inr (.inl (32, 4, 32))) := ⟨rfl, by decide, by rw [mN_32, mK_32, mR_32]; exact lj_v 224 3 4 (RX4, TX4, 10) (by decide +kernel) tb_555 tb_556 tb_557 rfl rfl rfl rfl (by decide +kernel)⟩
theorem k_126_32 (L : Nat) (xs : Nat → Int32) : ll_OK1 cX10_prove RX10 (some .int) false ll_mN ll_mR ll_mK ll_cnt L xs false 32 (.inr (.inr 1)) := ⟨(fun h => by cases h), (fun _ => ⟨(by decide +kernel), rfl⟩), fun h => by cases h⟩
theorem ok_126 (L : Nat) (xs : Nat → Int32) : ∀ q ∈ cd_126, ll_OK1 cX10_prove RX10 (some .int) false ll_mN ll_mR ll_mK ll_cnt L xs false q.1 q.2 :=
  List.forall_mem_cons.mpr ⟨k_126_0 L xs, List.forall_mem_cons.mpr ⟨k_126_1 L xs, List.forall_mem_cons.mpr ⟨k_126_4 L xs, List.forall_mem_cons.mpr ⟨k_126_5 L xs, List.forall_mem_cons.mpr ⟨k_126_8 L xs, List.forall_mem_cons.mpr ⟨k_126_11 L xs, List.forall_mem_cons.mpr ⟨k_126_12 L xs, List.forall_mem_cons.mpr ⟨k_126_13 L xs, List.forall_mem_cons.mpr ⟨k_126_14 L xs, List.forall_mem_cons.mpr ⟨k_126_17 L xs, List.forall_mem_cons.mpr ⟨k_126_20 L xs, List.forall_mem_cons.mpr ⟨k_126_21 L xs, List.forall_mem_cons.mpr ⟨k_126_22 L xs, List.forall_mem_cons.mpr ⟨k_126_23 L xs, List.forall_mem_cons.mpr ⟨k_126_26 L xs, List.forall_mem_cons.mpr ⟨k_126_29 L xs, List.forall_mem_cons.mpr ⟨k_126_32 L xs, fun _ h => absurd h List.not_mem_nil⟩⟩⟩⟩⟩⟩⟩⟩⟩⟩⟩⟩⟩⟩⟩⟩⟩
/-- InclusionProver.apart.(I)I -/
def cd_127 : List (Nat × ll_O) := [
  (0, .inl (lo_aload 1 0)),
  (1, .inl (lo_getf 4 10 8)),
  (4, .inl (lo_getf 7 3 3)),
  (7, .inl (lo_astore 8 2)),
  (8, .inl (lo_aload 9 2)),
  (9, .inl (lo_getf 12 1 11)),
  (12, .inl (lo_if 19 15 (fun x => decide (x = 0)))),
  (15, .inl (lo_iload 16 1)),
  (16, .inl (lo_if 21 19 (fun x => decide (0 ≤ x)))),
  (19, .inl (lo_push 20 (.int (-1)))),
  (20, .inr (.inr 1)),
  (21, .inl (lo_iload 22 1)),
  (22, .inl (lo_if 35 25 (fun x => decide (¬ x = 0)))),
  (25, .inl (lo_aload 26 2)),
  (26, .inl (lo_getf 29 1 6)),
  (29, .inl (lo_getf 32 7 1)),
  (32, .inl (lo_goto 45)),
  (35, .inl (lo_aload 36 2)),
  (36, .inl (lo_getf 39 1 6)),
  (39, .inl (lo_iload 40 1)),
  (40, .inl (lo_push 41 (.int 1))),
  (41, .inl (lo_bin 42 (fun x y => x - y))),
  (42, .inr (.inl (77, 2, 45))),
  (45, .inr (.inr 1))]
theorem k_127_0 (L : Nat) (xs : Nat → Int32) : ll_OK1 cX10_apart RX10 (some .int) false ll_mN ll_mR ll_mK ll_cnt L xs false 0 (.inl (lo_aload 1 0)) := lk_aload_n (k := 0) (by decide +kernel) rfl
theorem k_127_1 (L : Nat) (xs : Nat → Int32) : ll_OK1 cX10_apart RX10 (some .int) false ll_mN ll_mR ll_mK ll_cnt L xs false 1 (.inl (lo_getf 4 10 8)) := lk_getf (ix := 81) (ci := 10) (k := 8) (C := RX10) (T := TX10) (N := 11) (by decide +kernel) rfl in_10 (by decide) tb_485
theorem k_127_4 (L : Nat) (xs : Nat → Int32) : ll_OK1 cX10_apart RX10 (some .int) false ll_mN ll_mR ll_mK ll_cnt L xs false 4 (.inl (lo_getf 7 3 3)) := lk_getf (ix := 155) (ci := 3) (k := 3) (C := RX3) (T := TX3) (N := 5) (by decide +kernel) rfl in_3 (by decide) tb_518
theorem k_127_7 (L : Nat) (xs : Nat → Int32) : ll_OK1 cX10_apart RX10 (some .int) false ll_mN ll_mR ll_mK ll_cnt L xs false 7 (.inl (lo_astore 8 2)) := lk_astore_n (k := 2) (by decide +kernel) rfl
theorem k_127_8 (L : Nat) (xs : Nat → Int32) : ll_OK1 cX10_apart RX10 (some .int) false ll_mN ll_mR ll_mK ll_cnt L xs false 8 (.inl (lo_aload 9 2)) := lk_aload_n (k := 2) (by decide +kernel) rfl
theorem k_127_9 (L : Nat) (xs : Nat → Int32) : ll_OK1 cX10_apart RX10 (some .int) false ll_mN ll_mR ll_mK ll_cnt L xs false 9 (.inl (lo_getf 12 1 11)) := lk_getf (ix := 228) (ci := 1) (k := 11) (C := RX1) (T := TX1) (N := 12) (by decide +kernel) rfl in_1 (by decide) tb_558
theorem k_127_12 (L : Nat) (xs : Nat → Int32) : ll_OK1 cX10_apart RX10 (some .int) false ll_mN ll_mR ll_mK ll_cnt L xs false 12 (.inl (lo_if 19 15 (fun x => decide (x = 0)))) := lk_if_eq (off := 7) (by decide +kernel) rfl
theorem k_127_15 (L : Nat) (xs : Nat → Int32) : ll_OK1 cX10_apart RX10 (some .int) false ll_mN ll_mR ll_mK ll_cnt L xs false 15 (.inl (lo_iload 16 1)) := lk_iload_n (k := 1) (by decide +kernel) rfl
theorem k_127_16 (L : Nat) (xs : Nat → Int32) : ll_OK1 cX10_apart RX10 (some .int) false ll_mN ll_mR ll_mK ll_cnt L xs false 16 (.inl (lo_if 21 19 (fun x => decide (0 ≤ x)))) := lk_if_ge (off := 5) (by decide +kernel) rfl
theorem k_127_19 (L : Nat) (xs : Nat → Int32) : ll_OK1 cX10_apart RX10 (some .int) false ll_mN ll_mR ll_mK ll_cnt L xs false 19 (.inl (lo_push 20 (.int (-1)))) := lk_iconst (n := (-1)) (by decide +kernel) (by decide)
theorem k_127_20 (L : Nat) (xs : Nat → Int32) : ll_OK1 cX10_apart RX10 (some .int) false ll_mN ll_mR ll_mK ll_cnt L xs false 20 (.inr (.inr 1)) := ⟨(fun h => by cases h), (fun _ => ⟨(by decide +kernel), rfl⟩), fun h => by cases h⟩
theorem k_127_21 (L : Nat) (xs : Nat → Int32) : ll_OK1 cX10_apart RX10 (some .int) false ll_mN ll_mR ll_mK ll_cnt L xs false 21 (.inl (lo_iload 22 1)) := lk_iload_n (k := 1) (by decide +kernel) rfl
theorem k_127_22 (L : Nat) (xs : Nat → Int32) : ll_OK1 cX10_apart RX10 (some .int) false ll_mN ll_mR ll_mK ll_cnt L xs false 22 (.inl (lo_if 35 25 (fun x => decide (¬ x = 0)))) := lk_if_ne (off := 13) (by decide +kernel) rfl
theorem k_127_25 (L : Nat) (xs : Nat → Int32) : ll_OK1 cX10_apart RX10 (some .int) false ll_mN ll_mR ll_mK ll_cnt L xs false 25 (.inl (lo_aload 26 2)) := lk_aload_n (k := 2) (by decide +kernel) rfl
theorem k_127_26 (L : Nat) (xs : Nat → Int32) : ll_OK1 cX10_apart RX10 (some .int) false ll_mN ll_mR ll_mK ll_cnt L xs false 26 (.inl (lo_getf 29 1 6)) := lk_getf (ix := 232) (ci := 1) (k := 6) (C := RX1) (T := TX1) (N := 12) (by decide +kernel) rfl in_1 (by decide) tb_559
theorem k_127_29 (L : Nat) (xs : Nat → Int32) : ll_OK1 cX10_apart RX10 (some .int) false ll_mN ll_mR ll_mK ll_cnt L xs false 29 (.inl (lo_getf 32 7 1)) := lk_getf (ix := 118) (ci := 7) (k := 1) (C := RX7) (T := TX7) (N := 2) (by decide +kernel) rfl in_7 (by decide) tb_500
theorem k_127_32 (L : Nat) (xs : Nat → Int32) : ll_OK1 cX10_apart RX10 (some .int) false ll_mN ll_mR ll_mK ll_cnt L xs false 32 (.inl (lo_goto 45)) := lk_goto (off := 13) (by decide +kernel) rfl
theorem k_127_35 (L : Nat) (xs : Nat → Int32) : ll_OK1 cX10_apart RX10 (some .int) false ll_mN ll_mR ll_mK ll_cnt L xs false 35 (.inl (lo_aload 36 2)) := lk_aload_n (k := 2) (by decide +kernel) rfl
theorem k_127_36 (L : Nat) (xs : Nat → Int32) : ll_OK1 cX10_apart RX10 (some .int) false ll_mN ll_mR ll_mK ll_cnt L xs false 36 (.inl (lo_getf 39 1 6)) := lk_getf (ix := 232) (ci := 1) (k := 6) (C := RX1) (T := TX1) (N := 12) (by decide +kernel) rfl in_1 (by decide) tb_559
theorem k_127_39 (L : Nat) (xs : Nat → Int32) : ll_OK1 cX10_apart RX10 (some .int) false ll_mN ll_mR ll_mK ll_cnt L xs false 39 (.inl (lo_iload 40 1)) := lk_iload_n (k := 1) (by decide +kernel) rfl
theorem k_127_40 (L : Nat) (xs : Nat → Int32) : ll_OK1 cX10_apart RX10 (some .int) false ll_mN ll_mR ll_mK ll_cnt L xs false 40 (.inl (lo_push 41 (.int 1))) := lk_iconst (n := 1) (by decide +kernel) (by decide)
theorem k_127_41 (L : Nat) (xs : Nat → Int32) : ll_OK1 cX10_apart RX10 (some .int) false ll_mN ll_mR ll_mK ll_cnt L xs false 41 (.inl (lo_bin 42 (fun x y => x - y))) := lk_isub (by decide +kernel)
theorem k_127_42 (L : Nat) (xs : Nat → Int32) : ll_OK1 cX10_apart RX10 (some .int) false ll_mN ll_mR ll_mK ll_cnt L xs false 42 (.inr (.inl (77, 2, 45))) := ⟨rfl, by decide, by rw [mN_77, mK_77, mR_77]; exact lj_v 189 1 7 (RX7, TX7, 2) (by decide +kernel) tb_536 tb_140 tb_141 rfl rfl rfl rfl (by decide +kernel)⟩
theorem k_127_45 (L : Nat) (xs : Nat → Int32) : ll_OK1 cX10_apart RX10 (some .int) false ll_mN ll_mR ll_mK ll_cnt L xs false 45 (.inr (.inr 1)) := ⟨(fun h => by cases h), (fun _ => ⟨(by decide +kernel), rfl⟩), fun h => by cases h⟩
theorem ok_127 (L : Nat) (xs : Nat → Int32) : ∀ q ∈ cd_127, ll_OK1 cX10_apart RX10 (some .int) false ll_mN ll_mR ll_mK ll_cnt L xs false q.1 q.2 :=
  List.forall_mem_cons.mpr ⟨k_127_0 L xs, List.forall_mem_cons.mpr ⟨k_127_1 L xs, List.forall_mem_cons.mpr ⟨k_127_4 L xs, List.forall_mem_cons.mpr ⟨k_127_7 L xs, List.forall_mem_cons.mpr ⟨k_127_8 L xs, List.forall_mem_cons.mpr ⟨k_127_9 L xs, List.forall_mem_cons.mpr ⟨k_127_12 L xs, List.forall_mem_cons.mpr ⟨k_127_15 L xs, List.forall_mem_cons.mpr ⟨k_127_16 L xs, List.forall_mem_cons.mpr ⟨k_127_19 L xs, List.forall_mem_cons.mpr ⟨k_127_20 L xs, List.forall_mem_cons.mpr ⟨k_127_21 L xs, List.forall_mem_cons.mpr ⟨k_127_22 L xs, List.forall_mem_cons.mpr ⟨k_127_25 L xs, List.forall_mem_cons.mpr ⟨k_127_26 L xs, List.forall_mem_cons.mpr ⟨k_127_29 L xs, List.forall_mem_cons.mpr ⟨k_127_32 L xs, List.forall_mem_cons.mpr ⟨k_127_35 L xs, List.forall_mem_cons.mpr ⟨k_127_36 L xs, List.forall_mem_cons.mpr ⟨k_127_39 L xs, List.forall_mem_cons.mpr ⟨k_127_40 L xs, List.forall_mem_cons.mpr ⟨k_127_41 L xs, List.forall_mem_cons.mpr ⟨k_127_42 L xs, List.forall_mem_cons.mpr ⟨k_127_45 L xs, fun _ h => absurd h List.not_mem_nil⟩⟩⟩⟩⟩⟩⟩⟩⟩⟩⟩⟩⟩⟩⟩⟩⟩⟩⟩⟩⟩⟩⟩⟩
/-- InclusionProver.count.(I)I -/
def cd_128 : List (Nat × ll_O) := [
  (0, .inl (lo_aload 1 0)),
  (1, .inl (lo_getf 4 10 8)),
  (4, .inl (lo_getf 7 3 3)),
  (7, .inl (lo_astore 8 2)),
  (8, .inl (lo_iload 9 1)),
  (9, .inl (lo_tab 0 [52, 57, 63, 69, 74, 79, 84] 95)),
  (52, .inl (lo_aload 53 2)),
  (53, .inl (lo_getf 56 1 8)),
  (56, .inr (.inr 1)),
  (57, .inl (lo_aload 58 2)),
  (58, .inl (lo_push 59 (.int 0))),
  (59, .inr (.inl (18, 2, 62))),
  (62, .inr (.inr 1)),
  (63, .inl (lo_aload 64 2)),
  (64, .inl (lo_push 65 (.int 1))),
  (65, .inr (.inl (18, 2, 68))),
  (68, .inr (.inr 1)),
  (69, .inl (lo_aload 70 2)),
  (70, .inl (lo_getf 73 1 9)),
  (73, .inr (.inr 1)),
  (74, .inl (lo_aload 75 2)),
  (75, .inl (lo_getf 78 1 10)),
  (78, .inr (.inr 1)),
  (79, .inl (lo_aload 80 2)),
  (80, .inr (.inl (19, 1, 83))),
  (83, .inr (.inr 1)),
  (84, .inl (lo_aload 85 0)),
  (85, .inl (lo_getf 88 10 8)),
  (88, .inl (lo_getf 91 3 0)),
  (91, .inl (lo_getf 94 7 1)),
  (94, .inr (.inr 1)),
  (95, .inl (lo_push 96 (.int (-1)))),
  (96, .inr (.inr 1))]
theorem k_128_0 (L : Nat) (xs : Nat → Int32) : ll_OK1 cX10_count RX10 (some .int) false ll_mN ll_mR ll_mK ll_cnt L xs false 0 (.inl (lo_aload 1 0)) := lk_aload_n (k := 0) (by decide +kernel) rfl
theorem k_128_1 (L : Nat) (xs : Nat → Int32) : ll_OK1 cX10_count RX10 (some .int) false ll_mN ll_mR ll_mK ll_cnt L xs false 1 (.inl (lo_getf 4 10 8)) := lk_getf (ix := 81) (ci := 10) (k := 8) (C := RX10) (T := TX10) (N := 11) (by decide +kernel) rfl in_10 (by decide) tb_485
theorem k_128_4 (L : Nat) (xs : Nat → Int32) : ll_OK1 cX10_count RX10 (some .int) false ll_mN ll_mR ll_mK ll_cnt L xs false 4 (.inl (lo_getf 7 3 3)) := lk_getf (ix := 155) (ci := 3) (k := 3) (C := RX3) (T := TX3) (N := 5) (by decide +kernel) rfl in_3 (by decide) tb_518
theorem k_128_7 (L : Nat) (xs : Nat → Int32) : ll_OK1 cX10_count RX10 (some .int) false ll_mN ll_mR ll_mK ll_cnt L xs false 7 (.inl (lo_astore 8 2)) := lk_astore_n (k := 2) (by decide +kernel) rfl
theorem k_128_8 (L : Nat) (xs : Nat → Int32) : ll_OK1 cX10_count RX10 (some .int) false ll_mN ll_mR ll_mK ll_cnt L xs false 8 (.inl (lo_iload 9 1)) := lk_iload_n (k := 1) (by decide +kernel) rfl
theorem k_128_9 (L : Nat) (xs : Nat → Int32) : ll_OK1 cX10_count RX10 (some .int) false ll_mN ll_mR ll_mK ll_cnt L xs false 9 (.inl (lo_tab 0 [52, 57, 63, 69, 74, 79, 84] 95)) := lk_tab (d0 := 86) (hi := 6) (offs := #[43, 48, 54, 60, 65, 70, 75]) (len := 43) (by decide +kernel) rfl rfl rfl
theorem k_128_52 (L : Nat) (xs : Nat → Int32) : ll_OK1 cX10_count RX10 (some .int) false ll_mN ll_mR ll_mK ll_cnt L xs false 52 (.inl (lo_aload 53 2)) := lk_aload_n (k := 2) (by decide +kernel) rfl
theorem k_128_53 (L : Nat) (xs : Nat → Int32) : ll_OK1 cX10_count RX10 (some .int) false ll_mN ll_mR ll_mK ll_cnt L xs false 53 (.inl (lo_getf 56 1 8)) := lk_getf (ix := 235) (ci := 1) (k := 8) (C := RX1) (T := TX1) (N := 12) (by decide +kernel) rfl in_1 (by decide) tb_560
theorem k_128_56 (L : Nat) (xs : Nat → Int32) : ll_OK1 cX10_count RX10 (some .int) false ll_mN ll_mR ll_mK ll_cnt L xs false 56 (.inr (.inr 1)) := ⟨(fun h => by cases h), (fun _ => ⟨(by decide +kernel), rfl⟩), fun h => by cases h⟩
theorem k_128_57 (L : Nat) (xs : Nat → Int32) : ll_OK1 cX10_count RX10 (some .int) false ll_mN ll_mR ll_mK ll_cnt L xs false 57 (.inl (lo_aload 58 2)) := lk_aload_n (k := 2) (by decide +kernel) rfl
theorem k_128_58 (L : Nat) (xs : Nat → Int32) : ll_OK1 cX10_count RX10 (some .int) false ll_mN ll_mR ll_mK ll_cnt L xs false 58 (.inl (lo_push 59 (.int 0))) := lk_iconst (n := 0) (by decide +kernel) (by decide)
theorem k_128_59 (L : Nat) (xs : Nat → Int32) : ll_OK1 cX10_count RX10 (some .int) false ll_mN ll_mR ll_mK ll_cnt L xs false 59 (.inr (.inl (18, 2, 62))) := ⟨rfl, by decide, by rw [mN_18, mK_18, mR_18]; exact lj_v 236 1 1 (RX1, TX1, 12) (by decide +kernel) tb_561 tb_562 tb_563 rfl rfl rfl rfl (by decide +kernel)⟩
theorem k_128_62 (L : Nat) (xs : Nat → Int32) : ll_OK1 cX10_count RX10 (some .int) false ll_mN ll_mR ll_mK ll_cnt L xs false 62 (.inr (.inr 1)) := ⟨(fun h => by cases h), (fun _ => ⟨(by decide +kernel), rfl⟩), fun h => by cases h⟩
theorem k_128_63 (L : Nat) (xs : Nat → Int32) : ll_OK1 cX10_count RX10 (some .int) false ll_mN ll_mR ll_mK ll_cnt L xs false 63 (.inl (lo_aload 64 2)) := lk_aload_n (k := 2) (by decide +kernel) rfl
theorem k_128_64 (L : Nat) (xs : Nat → Int32) : ll_OK1 cX10_count RX10 (some .int) false ll_mN ll_mR ll_mK ll_cnt L xs false 64 (.inl (lo_push 65 (.int 1))) := lk_iconst (n := 1) (by decide +kernel) (by decide)
theorem k_128_65 (L : Nat) (xs : Nat → Int32) : ll_OK1 cX10_count RX10 (some .int) false ll_mN ll_mR ll_mK ll_cnt L xs false 65 (.inr (.inl (18, 2, 68))) := ⟨rfl, by decide, by rw [mN_18, mK_18, mR_18]; exact lj_v 236 1 1 (RX1, TX1, 12) (by decide +kernel) tb_561 tb_562 tb_563 rfl rfl rfl rfl (by decide +kernel)⟩
theorem k_128_68 (L : Nat) (xs : Nat → Int32) : ll_OK1 cX10_count RX10 (some .int) false ll_mN ll_mR ll_mK ll_cnt L xs false 68 (.inr (.inr 1)) := ⟨(fun h => by cases h), (fun _ => ⟨(by decide +kernel), rfl⟩), fun h => by cases h⟩
theorem k_128_69 (L : Nat) (xs : Nat → Int32) : ll_OK1 cX10_count RX10 (some .int) false ll_mN ll_mR ll_mK ll_cnt L xs false 69 (.inl (lo_aload 70 2)) := lk_aload_n (k := 2) (by decide +kernel) rfl
theorem k_128_70 (L : Nat) (xs : Nat → Int32) : ll_OK1 cX10_count RX10 (some .int) false ll_mN ll_mR ll_mK ll_cnt L xs false 70 (.inl (lo_getf 73 1 9)) := lk_getf (ix := 239) (ci := 1) (k := 9) (C := RX1) (T := TX1) (N := 12) (by decide +kernel) rfl in_1 (by decide) tb_564
theorem k_128_73 (L : Nat) (xs : Nat → Int32) : ll_OK1 cX10_count RX10 (some .int) false ll_mN ll_mR ll_mK ll_cnt L xs false 73 (.inr (.inr 1)) := ⟨(fun h => by cases h), (fun _ => ⟨(by decide +kernel), rfl⟩), fun h => by cases h⟩
theorem k_128_74 (L : Nat) (xs : Nat → Int32) : ll_OK1 cX10_count RX10 (some .int) false ll_mN ll_mR ll_mK ll_cnt L xs false 74 (.inl (lo_aload 75 2)) := lk_aload_n (k := 2) (by decide +kernel) rfl
theorem k_128_75 (L : Nat) (xs : Nat → Int32) : ll_OK1 cX10_count RX10 (some .int) false ll_mN ll_mR ll_mK ll_cnt L xs false 75 (.inl (lo_getf 78 1 10)) := lk_getf (ix := 242) (ci := 1) (k := 10) (C := RX1) (T := TX1) (N := 12) (by decide +kernel) rfl in_1 (by decide) tb_565
theorem k_128_78 (L : Nat) (xs : Nat → Int32) : ll_OK1 cX10_count RX10 (some .int) false ll_mN ll_mR ll_mK ll_cnt L xs false 78 (.inr (.inr 1)) := ⟨(fun h => by cases h), (fun _ => ⟨(by decide +kernel), rfl⟩), fun h => by cases h⟩
theorem k_128_79 (L : Nat) (xs : Nat → Int32) : ll_OK1 cX10_count RX10 (some .int) false ll_mN ll_mR ll_mK ll_cnt L xs false 79 (.inl (lo_aload 80 2)) := lk_aload_n (k := 2) (by decide +kernel) rfl
theorem k_128_80 (L : Nat) (xs : Nat → Int32) : ll_OK1 cX10_count RX10 (some .int) false ll_mN ll_mR ll_mK ll_cnt L xs false 80 (.inr (.inl (19, 1, 83))) := ⟨rfl, by decide, by rw [mN_19, mK_19, mR_19]; exact lj_v 245 0 1 (RX1, TX1, 12) (by decide +kernel) tb_566 tb_567 tb_568 rfl rfl rfl rfl (by decide +kernel)⟩
theorem k_128_83 (L : Nat) (xs : Nat → Int32) : ll_OK1 cX10_count RX10 (some .int) false ll_mN ll_mR ll_mK ll_cnt L xs false 83 (.inr (.inr 1)) := ⟨(fun h => by cases h), (fun _ => ⟨(by decide +kernel), rfl⟩), fun h => by cases h⟩
theorem k_128_84 (L : Nat) (xs : Nat → Int32) : ll_OK1 cX10_count RX10 (some .int) false ll_mN ll_mR ll_mK ll_cnt L xs false 84 (.inl (lo_aload 85 0)) := lk_aload_n (k := 0) (by decide +kernel) rfl
theorem k_128_85 (L : Nat) (xs : Nat → Int32) : ll_OK1 cX10_count RX10 (some .int) false ll_mN ll_mR ll_mK ll_cnt L xs false 85 (.inl (lo_getf 88 10 8)) := lk_getf (ix := 81) (ci := 10) (k := 8) (C := RX10) (T := TX10) (N := 11) (by decide +kernel) rfl in_10 (by decide) tb_485
theorem k_128_88 (L : Nat) (xs : Nat → Int32) : ll_OK1 cX10_count RX10 (some .int) false ll_mN ll_mR ll_mK ll_cnt L xs false 88 (.inl (lo_getf 91 3 0)) := lk_getf (ix := 115) (ci := 3) (k := 0) (C := RX3) (T := TX3) (N := 5) (by decide +kernel) rfl in_3 (by decide) tb_499
theorem k_128_91 (L : Nat) (xs : Nat → Int32) : ll_OK1 cX10_count RX10 (some .int) false ll_mN ll_mR ll_mK ll_cnt L xs false 91 (.inl (lo_getf 94 7 1)) := lk_getf (ix := 118) (ci := 7) (k := 1) (C := RX7) (T := TX7) (N := 2) (by decide +kernel) rfl in_7 (by decide) tb_500
theorem k_128_94 (L : Nat) (xs : Nat → Int32) : ll_OK1 cX10_count RX10 (some .int) false ll_mN ll_mR ll_mK ll_cnt L xs false 94 (.inr (.inr 1)) := ⟨(fun h => by cases h), (fun _ => ⟨(by decide +kernel), rfl⟩), fun h => by cases h⟩
theorem k_128_95 (L : Nat) (xs : Nat → Int32) : ll_OK1 cX10_count RX10 (some .int) false ll_mN ll_mR ll_mK ll_cnt L xs false 95 (.inl (lo_push 96 (.int (-1)))) := lk_iconst (n := (-1)) (by decide +kernel) (by decide)
theorem k_128_96 (L : Nat) (xs : Nat → Int32) : ll_OK1 cX10_count RX10 (some .int) false ll_mN ll_mR ll_mK ll_cnt L xs false 96 (.inr (.inr 1)) := ⟨(fun h => by cases h), (fun _ => ⟨(by decide +kernel), rfl⟩), fun h => by cases h⟩
theorem ok_128 (L : Nat) (xs : Nat → Int32) : ∀ q ∈ cd_128, ll_OK1 cX10_count RX10 (some .int) false ll_mN ll_mR ll_mK ll_cnt L xs false q.1 q.2 :=
  List.forall_mem_cons.mpr ⟨k_128_0 L xs, List.forall_mem_cons.mpr ⟨k_128_1 L xs, List.forall_mem_cons.mpr ⟨k_128_4 L xs, List.forall_mem_cons.mpr ⟨k_128_7 L xs, List.forall_mem_cons.mpr ⟨k_128_8 L xs, List.forall_mem_cons.mpr ⟨k_128_9 L xs, List.forall_mem_cons.mpr ⟨k_128_52 L xs, List.forall_mem_cons.mpr ⟨k_128_53 L xs, List.forall_mem_cons.mpr ⟨k_128_56 L xs, List.forall_mem_cons.mpr ⟨k_128_57 L xs, List.forall_mem_cons.mpr ⟨k_128_58 L xs, List.forall_mem_cons.mpr ⟨k_128_59 L xs, List.forall_mem_cons.mpr ⟨k_128_62 L xs, List.forall_mem_cons.mpr ⟨k_128_63 L xs, List.forall_mem_cons.mpr ⟨k_128_64 L xs, List.forall_mem_cons.mpr ⟨k_128_65 L xs, List.forall_mem_cons.mpr ⟨k_128_68 L xs, List.forall_mem_cons.mpr ⟨k_128_69 L xs, List.forall_mem_cons.mpr ⟨k_128_70 L xs, List.forall_mem_cons.mpr ⟨k_128_73 L xs, List.forall_mem_cons.mpr ⟨k_128_74 L xs, List.forall_mem_cons.mpr ⟨k_128_75 L xs, List.forall_mem_cons.mpr ⟨k_128_78 L xs, List.forall_mem_cons.mpr ⟨k_128_79 L xs, List.forall_mem_cons.mpr ⟨k_128_80 L xs, List.forall_mem_cons.mpr ⟨k_128_83 L xs, List.forall_mem_cons.mpr ⟨k_128_84 L xs, List.forall_mem_cons.mpr ⟨k_128_85 L xs, List.forall_mem_cons.mpr ⟨k_128_88 L xs, List.forall_mem_cons.mpr ⟨k_128_91 L xs, List.forall_mem_cons.mpr ⟨k_128_94 L xs, List.forall_mem_cons.mpr ⟨k_128_95 L xs, List.forall_mem_cons.mpr ⟨k_128_96 L xs, fun _ h => absurd h List.not_mem_nil⟩⟩⟩⟩⟩⟩⟩⟩⟩⟩⟩⟩⟩⟩⟩⟩⟩⟩⟩⟩⟩⟩⟩⟩⟩⟩⟩⟩⟩⟩⟩⟩⟩
/-- InclusionProver.line.(II)I -/
def cd_129 : List (Nat × ll_O) := [
  (0, .inl (lo_aload 1 0)),
  (1, .inl (lo_getf 4 10 8)),
  (4, .inl (lo_getf 7 3 3)),
  (7, .inl (lo_astore 8 3)),
  (8, .inl (lo_aload 9 3)),
  (9, .inl (lo_iload 10 1)),
  (10, .inr (.inl (10, 2, 13))),
  (13, .inl (lo_if 19 16 (fun x => decide (¬ x = 0)))),
  (16, .inl (lo_push 18 (.int (-2)))),
  (18, .inr (.inr 1)),
  (19, .inl (lo_iload 20 2)),
  (20, .inl (lo_tab 0 [52, 59, 66, 73] 80)),
  (52, .inl (lo_aload 53 3)),
  (53, .inl (lo_getf 56 1 0)),
  (56, .inl (lo_iload 57 1)),
  (57, .inl (lo_ald 58 0)),
  (58, .inr (.inr 1)),
  (59, .inl (lo_aload 60 3)),
  (60, .inl (lo_getf 63 1 1)),
  (63, .inl (lo_iload 64 1)),
  (64, .inl (lo_ald 65 0)),
  (65, .inr (.inr 1)),
  (66, .inl (lo_aload 67 3)),
  (67, .inl (lo_getf 70 1 2)),
  (70, .inl (lo_iload 71 1)),
  (71, .inl (lo_ald 72 0)),
  (72, .inr (.inr 1)),
  (73, .inl (lo_aload 74 3)),
  (74, .inl (lo_getf 77 1 4)),
  (77, .inl (lo_iload 78 1)),
  (78, .inl (lo_ald 79 0)),
  (79, .inr (.inr 1)),
  (80, .inl (lo_aload 81 3)),
  (81, .inl (lo_iload 82 1)),
  (82, .inl (lo_iload 83 2)),
  (83, .inr (.inl (11, 3, 86))),
  (86, .inl (lo_if 101 89 (fun x => decide (x = 0)))),
  (89, .inl (lo_aload 90 3)),
  (90, .inl (lo_iload 91 1)),
  (91, .inl (lo_iload 92 2)),
  (92, .inl (lo_push 94 (.int 10))),
  (94, .inl (lo_bin 95 (fun x y => x - y))),
  (95, .inr (.inl (12, 3, 98))),
  (98, .inl (lo_goto 103)),
  (101, .inl (lo_push 103 (.int (-2)))),
  (103, .inr (.inr 1))]
theorem k_129_0 (L : Nat) (xs : Nat → Int32) : ll_OK1 cX10_line RX10 (some .int) false ll_mN ll_mR ll_mK ll_cnt L xs false 0 (.inl (lo_aload 1 0)) := lk_aload_n (k := 0) (by decide +kernel) rfl
theorem k_129_1 (L : Nat) (xs : Nat → Int32) : ll_OK1 cX10_line RX10 (some .int) false ll_mN ll_mR ll_mK ll_cnt L xs false 1 (.inl (lo_getf 4 10 8)) := lk_getf (ix := 81) (ci := 10) (k := 8) (C := RX10) (T := TX10) (N := 11) (by decide +kernel) rfl in_10 (by decide) tb_485
theorem k_129_4 (L : Nat) (xs : Nat → Int32) : ll_OK1 cX10_line RX10 (some .int) false ll_mN ll_mR ll_mK ll_cnt L xs false 4 (.inl (lo_getf 7 3 3)) := lk_getf (ix := 155) (ci := 3) (k := 3) (C := RX3) (T := TX3) (N := 5) (by decide +kernel) rfl in_3 (by decide) tb_518
theorem k_129_7 (L : Nat) (xs : Nat → Int32) : ll_OK1 cX10_line RX10 (some .int) false ll_mN ll_mR ll_mK ll_cnt L xs false 7 (.inl (lo_astore 8 3)) := lk_astore_n (k := 3) (by decide +kernel) rfl
theorem k_129_8 (L : Nat) (xs : Nat → Int32) : ll_OK1 cX10_line RX10 (some .int) false ll_mN ll_mR ll_mK ll_cnt L xs false 8 (.inl (lo_aload 9 3)) := lk_aload_n (k := 3) (by decide +kernel) rfl
theorem k_129_9 (L : Nat) (xs : Nat → Int32) : ll_OK1 cX10_line RX10 (some .int) false ll_mN ll_mR ll_mK ll_cnt L xs false 9 (.inl (lo_iload 10 1)) := lk_iload_n (k := 1) (by decide +kernel) rfl
theorem k_129_10 (L : Nat) (xs : Nat → Int32) : ll_OK1 cX10_line RX10 (some .int) false ll_mN ll_mR ll_mK ll_cnt L xs false 10 (.inr (.inl (10, 2, 13))) := ⟨rfl, by decide, by rw [mN_10, mK_10, mR_10]; exact lj_v 248 1 1 (RX1, TX1, 12) (by decide +kernel) tb_569 tb_46 tb_47 rfl rfl rfl rfl (by decide +kernel)⟩
theorem k_129_13 (L : Nat) (xs : Nat → Int32) : ll_OK1 cX10_line RX10 (some .int) false ll_mN ll_mR ll_mK ll_cnt L xs false 13 (.inl (lo_if 19 16 (fun x => decide (¬ x = 0)))) := lk_if_ne (off := 6) (by decide +kernel) rfl
theorem k_129_16 (L : Nat) (xs : Nat → Int32) : ll_OK1 cX10_line RX10 (some .int) false ll_mN ll_mR ll_mK ll_cnt L xs false 16 (.inl (lo_push 18 (.int (-2)))) := lk_bipush (n := (-2)) (by decide +kernel) (by decide)
theorem k_129_18 (L : Nat) (xs : Nat → Int32) : ll_OK1 cX10_line RX10 (some .int) false ll_mN ll_mR ll_mK ll_cnt L xs false 18 (.inr (.inr 1)) := ⟨(fun h => by cases h), (fun _ => ⟨(by decide +kernel), rfl⟩), fun h => by cases h⟩
theorem k_129_19 (L : Nat) (xs : Nat → Int32) : ll_OK1 cX10_line RX10 (some .int) false ll_mN ll_mR ll_mK ll_cnt L xs false 19 (.inl (lo_iload 20 2)) := lk_iload_n (k := 2) (by decide +kernel) rfl
theorem k_129_20 (L : Nat) (xs : Nat → Int32) : ll_OK1 cX10_line RX10 (some .int) false ll_mN ll_mR ll_mK ll_cnt L xs false 20 (.inl (lo_tab 0 [52, 59, 66, 73] 80)) := lk_tab (d0 := 60) (hi := 3) (offs := #[32, 39, 46, 53]) (len := 32) (by decide +kernel) rfl rfl rfl
theorem k_129_52 (L : Nat) (xs : Nat → Int32) : ll_OK1 cX10_line RX10 (some .int) false ll_mN ll_mR ll_mK ll_cnt L xs false 52 (.inl (lo_aload 53 3)) := lk_aload_n (k := 3) (by decide +kernel) rfl
theorem k_129_53 (L : Nat) (xs : Nat → Int32) : ll_OK1 cX10_line RX10 (some .int) false ll_mN ll_mR ll_mK ll_cnt L xs false 53 (.inl (lo_getf 56 1 0)) := lk_getf (ix := 251) (ci := 1) (k := 0) (C := RX1) (T := TX1) (N := 12) (by decide +kernel) rfl in_1 (by decide) tb_570
theorem k_129_56 (L : Nat) (xs : Nat → Int32) : ll_OK1 cX10_line RX10 (some .int) false ll_mN ll_mR ll_mK ll_cnt L xs false 56 (.inl (lo_iload 57 1)) := lk_iload_n (k := 1) (by decide +kernel) rfl
theorem k_129_57 (L : Nat) (xs : Nat → Int32) : ll_OK1 cX10_line RX10 (some .int) false ll_mN ll_mR ll_mK ll_cnt L xs false 57 (.inl (lo_ald 58 0)) := lk_iald (by decide +kernel)
theorem k_129_58 (L : Nat) (xs : Nat → Int32) : ll_OK1 cX10_line RX10 (some .int) false ll_mN ll_mR ll_mK ll_cnt L xs false 58 (.inr (.inr 1)) := ⟨(fun h => by cases h), (fun _ => ⟨(by decide +kernel), rfl⟩), fun h => by cases h⟩
theorem k_129_59 (L : Nat) (xs : Nat → Int32) : ll_OK1 cX10_line RX10 (some .int) false ll_mN ll_mR ll_mK ll_cnt L xs false 59 (.inl (lo_aload 60 3)) := lk_aload_n (k := 3) (by decide +kernel) rfl
theorem k_129_60 (L : Nat) (xs : Nat → Int32) : ll_OK1 cX10_line RX10 (some .int) false ll_mN ll_mR ll_mK ll_cnt L xs false 60 (.inl (lo_getf 63 1 1)) := lk_getf (ix := 255) (ci := 1) (k := 1) (C := RX1) (T := TX1) (N := 12) (by decide +kernel) rfl in_1 (by decide) tb_571
theorem k_129_63 (L : Nat) (xs : Nat → Int32) : ll_OK1 cX10_line RX10 (some .int) false ll_mN ll_mR ll_mK ll_cnt L xs false 63 (.inl (lo_iload 64 1)) := lk_iload_n (k := 1) (by decide +kernel) rfl
theorem k_129_64 (L : Nat) (xs : Nat → Int32) : ll_OK1 cX10_line RX10 (some .int) false ll_mN ll_mR ll_mK ll_cnt L xs false 64 (.inl (lo_ald 65 0)) := lk_iald (by decide +kernel)
theorem k_129_65 (L : Nat) (xs : Nat → Int32) : ll_OK1 cX10_line RX10 (some .int) false ll_mN ll_mR ll_mK ll_cnt L xs false 65 (.inr (.inr 1)) := ⟨(fun h => by cases h), (fun _ => ⟨(by decide +kernel), rfl⟩), fun h => by cases h⟩
theorem k_129_66 (L : Nat) (xs : Nat → Int32) : ll_OK1 cX10_line RX10 (some .int) false ll_mN ll_mR ll_mK ll_cnt L xs false 66 (.inl (lo_aload 67 3)) := lk_aload_n (k := 3) (by decide +kernel) rfl
theorem k_129_67 (L : Nat) (xs : Nat → Int32) : ll_OK1 cX10_line RX10 (some .int) false ll_mN ll_mR ll_mK ll_cnt L xs false 67 (.inl (lo_getf 70 1 2)) := lk_getf (ix := 258) (ci := 1) (k := 2) (C := RX1) (T := TX1) (N := 12) (by decide +kernel) rfl in_1 (by decide) tb_572
theorem k_129_70 (L : Nat) (xs : Nat → Int32) : ll_OK1 cX10_line RX10 (some .int) false ll_mN ll_mR ll_mK ll_cnt L xs false 70 (.inl (lo_iload 71 1)) := lk_iload_n (k := 1) (by decide +kernel) rfl
theorem k_129_71 (L : Nat) (xs : Nat → Int32) : ll_OK1 cX10_line RX10 (some .int) false ll_mN ll_mR ll_mK ll_cnt L xs false 71 (.inl (lo_ald 72 0)) := lk_iald (by decide +kernel)
theorem k_129_72 (L : Nat) (xs : Nat → Int32) : ll_OK1 cX10_line RX10 (some .int) false ll_mN ll_mR ll_mK ll_cnt L xs false 72 (.inr (.inr 1)) := ⟨(fun h => by cases h), (fun _ => ⟨(by decide +kernel), rfl⟩), fun h => by cases h⟩
theorem k_129_73 (L : Nat) (xs : Nat → Int32) : ll_OK1 cX10_line RX10 (some .int) false ll_mN ll_mR ll_mK ll_cnt L xs false 73 (.inl (lo_aload 74 3)) := lk_aload_n (k := 3) (by decide +kernel) rfl
theorem k_129_74 (L : Nat) (xs : Nat → Int32) : ll_OK1 cX10_line RX10 (some .int) false ll_mN ll_mR ll_mK ll_cnt L xs false 74 (.inl (lo_getf 77 1 4)) := lk_getf (ix := 261) (ci := 1) (k := 4) (C := RX1) (T := TX1) (N := 12) (by decide +kernel) rfl in_1 (by decide) tb_573
theorem k_129_77 (L : Nat) (xs : Nat → Int32) : ll_OK1 cX10_line RX10 (some .int) false ll_mN ll_mR ll_mK ll_cnt L xs false 77 (.inl (lo_iload 78 1)) := lk_iload_n (k := 1) (by decide +kernel) rfl
theorem k_129_78 (L : Nat) (xs : Nat → Int32) : ll_OK1 cX10_line RX10 (some .int) false ll_mN ll_mR ll_mK ll_cnt L xs false 78 (.inl (lo_ald 79 0)) := lk_iald (by decide +kernel)
theorem k_129_79 (L : Nat) (xs : Nat → Int32) : ll_OK1 cX10_line RX10 (some .int) false ll_mN ll_mR ll_mK ll_cnt L xs false 79 (.inr (.inr 1)) := ⟨(fun h => by cases h), (fun _ => ⟨(by decide +kernel), rfl⟩), fun h => by cases h⟩
theorem k_129_80 (L : Nat) (xs : Nat → Int32) : ll_OK1 cX10_line RX10 (some .int) false ll_mN ll_mR ll_mK ll_cnt L xs false 80 (.inl (lo_aload 81 3)) := lk_aload_n (k := 3) (by decide +kernel) rfl
theorem k_129_81 (L : Nat) (xs : Nat → Int32) : ll_OK1 cX10_line RX10 (some .int) false ll_mN ll_mR ll_mK ll_cnt L xs false 81 (.inl (lo_iload 82 1)) := lk_iload_n (k := 1) (by decide +kernel) rfl
theorem k_129_82 (L : Nat) (xs : Nat → Int32) : ll_OK1 cX10_line RX10 (some .int) false ll_mN ll_mR ll_mK ll_cnt L xs false 82 (.inl (lo_iload 83 2)) := lk_iload_n (k := 2) (by decide +kernel) rfl
theorem k_129_83 (L : Nat) (xs : Nat → Int32) : ll_OK1 cX10_line RX10 (some .int) false ll_mN ll_mR ll_mK ll_cnt L xs false 83 (.inr (.inl (11, 3, 86))) := ⟨rfl, by decide, by rw [mN_11, mK_11, mR_11]; exact lj_v 264 2 1 (RX1, TX1, 12) (by decide +kernel) tb_574 tb_575 tb_576 rfl rfl rfl rfl (by decide +kernel)⟩
theorem k_129_86 (L : Nat) (xs : Nat → Int32) : ll_OK1 cX10_line RX10 (some .int) false ll_mN ll_mR ll_mK ll_cnt L xs false 86 (.inl (lo_if 101 89 (fun x => decide (x = 0)))) := lk_if_eq (off := 15) (by decide +kernel) rfl
theorem k_129_89 (L : Nat) (xs : Nat → Int32) : ll_OK1 cX10_line RX10 (some .int) false ll_mN ll_mR ll_mK ll_cnt L xs false 89 (.inl (lo_aload 90 3)) := lk_aload_n (k := 3) (by decide +kernel) rfl
theorem k_129_90 (L : Nat) (xs : Nat → Int32) : ll_OK1 cX10_line RX10 (some .int) false ll_mN ll_mR ll_mK ll_cnt L xs false 90 (.inl (lo_iload 91 1)) := lk_iload_n (k := 1) (by decide +kernel) rfl
theorem k_129_91 (L : Nat) (xs : Nat → Int32) : ll_OK1 cX10_line RX10 (some .int) false ll_mN ll_mR ll_mK ll_cnt L xs false 91 (.inl (lo_iload 92 2)) := lk_iload_n (k := 2) (by decide +kernel) rfl
theorem k_129_92 (L : Nat) (xs : Nat → Int32) : ll_OK1 cX10_line RX10 (some .int) false ll_mN ll_mR ll_mK ll_cnt L xs false 92 (.inl (lo_push 94 (.int 10))) := lk_bipush (n := 10) (by decide +kernel) (by decide)
theorem k_129_94 (L : Nat) (xs : Nat → Int32) : ll_OK1 cX10_line RX10 (some .int) false ll_mN ll_mR ll_mK ll_cnt L xs false 94 (.inl (lo_bin 95 (fun x y => x - y))) := lk_isub (by decide +kernel)
theorem k_129_95 (L : Nat) (xs : Nat → Int32) : ll_OK1 cX10_line RX10 (some .int) false ll_mN ll_mR ll_mK ll_cnt L xs false 95 (.inr (.inl (12, 3, 98))) := ⟨rfl, by decide, by rw [mN_12, mK_12, mR_12]; exact lj_v 267 2 1 (RX1, TX1, 12) (by decide +kernel) tb_577 tb_43 tb_44 rfl rfl rfl rfl (by decide +kernel)⟩
theorem k_129_98 (L : Nat) (xs : Nat → Int32) : ll_OK1 cX10_line RX10 (some .int) false ll_mN ll_mR ll_mK ll_cnt L xs false 98 (.inl (lo_goto 103)) := lk_goto (off := 5) (by decide +kernel) rfl
theorem k_129_101 (L : Nat) (xs : Nat → Int32) : ll_OK1 cX10_line RX10 (some .int) false ll_mN ll_mR ll_mK ll_cnt L xs false 101 (.inl (lo_push 103 (.int (-2)))) := lk_bipush (n := (-2)) (by decide +kernel) (by decide)
theorem k_129_103 (L : Nat) (xs : Nat → Int32) : ll_OK1 cX10_line RX10 (some .int) false ll_mN ll_mR ll_mK ll_cnt L xs false 103 (.inr (.inr 1)) := ⟨(fun h => by cases h), (fun _ => ⟨(by decide +kernel), rfl⟩), fun h => by cases h⟩
theorem ok_129 (L : Nat) (xs : Nat → Int32) : ∀ q ∈ cd_129, ll_OK1 cX10_line RX10 (some .int) false ll_mN ll_mR ll_mK ll_cnt L xs false q.1 q.2 :=
  List.forall_mem_cons.mpr ⟨k_129_0 L xs, List.forall_mem_cons.mpr ⟨k_129_1 L xs, List.forall_mem_cons.mpr ⟨k_129_4 L xs, List.forall_mem_cons.mpr ⟨k_129_7 L xs, List.forall_mem_cons.mpr ⟨k_129_8 L xs, List.forall_mem_cons.mpr ⟨k_129_9 L xs, List.forall_mem_cons.mpr ⟨k_129_10 L xs, List.forall_mem_cons.mpr ⟨k_129_13 L xs, List.forall_mem_cons.mpr ⟨k_129_16 L xs, List.forall_mem_cons.mpr ⟨k_129_18 L xs, List.forall_mem_cons.mpr ⟨k_129_19 L xs, List.forall_mem_cons.mpr ⟨k_129_20 L xs, List.forall_mem_cons.mpr ⟨k_129_52 L xs, List.forall_mem_cons.mpr ⟨k_129_53 L xs, List.forall_mem_cons.mpr ⟨k_129_56 L xs, List.forall_mem_cons.mpr ⟨k_129_57 L xs, List.forall_mem_cons.mpr ⟨k_129_58 L xs, List.forall_mem_cons.mpr ⟨k_129_59 L xs, List.forall_mem_cons.mpr ⟨k_129_60 L xs, List.forall_mem_cons.mpr ⟨k_129_63 L xs, List.forall_mem_cons.mpr ⟨k_129_64 L xs, List.forall_mem_cons.mpr ⟨k_129_65 L xs, List.forall_mem_cons.mpr ⟨k_129_66 L xs, List.forall_mem_cons.mpr ⟨k_129_67 L xs, List.forall_mem_cons.mpr ⟨k_129_70 L xs, List.forall_mem_cons.mpr ⟨k_129_71 L xs, List.forall_mem_cons.mpr ⟨k_129_72 L xs, List.forall_mem_cons.mpr ⟨k_129_73 L xs, List.forall_mem_cons.mpr ⟨k_129_74 L xs, List.forall_mem_cons.mpr ⟨k_129_77 L xs, List.forall_mem_cons.mpr ⟨k_129_78 L xs, List.forall_mem_cons.mpr ⟨k_129_79 L xs, List.forall_mem_cons.mpr ⟨k_129_80 L xs, List.forall_mem_cons.mpr ⟨k_129_81 L xs, List.forall_mem_cons.mpr ⟨k_129_82 L xs, List.forall_mem_cons.mpr ⟨k_129_83 L xs, List.forall_mem_cons.mpr ⟨k_129_86 L xs, List.forall_mem_cons.mpr ⟨k_129_89 L xs, List.forall_mem_cons.mpr ⟨k_129_90 L xs, List.forall_mem_cons.mpr ⟨k_129_91 L xs, List.forall_mem_cons.mpr ⟨k_129_92 L xs, List.forall_mem_cons.mpr ⟨k_129_94 L xs, List.forall_mem_cons.mpr ⟨k_129_95 L xs, List.forall_mem_cons.mpr ⟨k_129_98 L xs, List.forall_mem_cons.mpr ⟨k_129_101 L xs, List.forall_mem_cons.mpr ⟨k_129_103 L xs, fun _ h => absurd h List.not_mem_nil⟩⟩⟩⟩⟩⟩⟩⟩⟩⟩⟩⟩⟩⟩⟩⟩⟩⟩⟩⟩⟩⟩⟩⟩⟩⟩⟩⟩⟩⟩⟩⟩⟩⟩⟩⟩⟩⟩⟩⟩⟩⟩⟩⟩⟩⟩
/-- InclusionProver.alter.(III)I -/
def cd_130 : List (Nat × ll_O) := [
  (0, .inl (lo_aload 1 0)),
  (1, .inl (lo_getf 4 10 8)),
  (4, .inl (lo_getf 7 3 3)),
  (7, .inl (lo_astore 9 4)),
  (9, .inl (lo_aload 11 4)),
  (11, .inl (lo_iload 12 1)),
  (12, .inr (.inl (10, 2, 15))),
  (15, .inl (lo_if 21 18 (fun x => decide (¬ x = 0)))),
  (18, .inl (lo_push 20 (.int (-2)))),
  (20, .inr (.inr 1)),
  (21, .inl (lo_iload 22 2)),
  (22, .inl (lo_tab 0 [48, 59, 70] 81)),
  (48, .inl (lo_aload 50 4)),
  (50, .inl (lo_getf 53 1 0)),
  (53, .inl (lo_iload 54 1)),
  (54, .inl (lo_iload 55 3)),
  (55, .inr (.inl (143, 3, 58))),
  (58, .inr (.inr 1)),
  (59, .inl (lo_aload 61 4)),
  (61, .inl (lo_getf 64 1 1)),
  (64, .inl (lo_iload 65 1)),
  (65, .inl (lo_iload 66 3)),
  (66, .inr (.inl (143, 3, 69))),
  (69, .inr (.inr 1)),
  (70, .inl (lo_aload 72 4)),
  (72, .inl (lo_getf 75 1 2)),
  (75, .inl (lo_iload 76 1)),
  (76, .inl (lo_iload 77 3)),
  (77, .inr (.inl (143, 3, 80))),
  (80, .inr (.inr 1)),
  (81, .inl (lo_aload 83 4)),
  (83, .inl (lo_iload 84 1)),
  (84, .inl (lo_iload 85 2)),
  (85, .inr (.inl (11, 3, 88))),
  (88, .inl (lo_if 115 91 (fun x => decide (x = 0)))),
  (91, .inl (lo_aload 93 4)),
  (93, .inl (lo_getf 96 1 5)),
  (96, .inl (lo_aload 98 4)),
  (98, .inl (lo_getf 101 1 3)),
  (101, .inl (lo_iload 102 1)),
  (102, .inl (lo_ald 103 0)),
  (103, .inl (lo_iload 104 2)),
  (104, .inl (lo_bin 105 (fun x y => x + y))),
  (105, .inl (lo_push 107 (.int 10))),
  (107, .inl (lo_bin 108 (fun x y => x - y))),
  (108, .inl (lo_iload 109 3)),
  (109, .inr (.inl (143, 3, 112))),
  (112, .inl (lo_goto 117)),
  (115, .inl (lo_push 117 (.int (-2)))),
  (117, .inr (.inr 1))]
theorem k_130_0 (L : Nat) (xs : Nat → Int32) : ll_OK1 cX10_alter RX10 (some .int) false ll_mN ll_mR ll_mK ll_cnt L xs false 0 (.inl (lo_aload 1 0)) := lk_aload_n (k := 0) (by decide +kernel) rfl
theorem k_130_1 (L : Nat) (xs : Nat → Int32) : ll_OK1 cX10_alter RX10 (some .int) false ll_mN ll_mR ll_mK ll_cnt L xs false 1 (.inl (lo_getf 4 10 8)) := lk_getf (ix := 81) (ci := 10) (k := 8) (C := RX10) (T := TX10) (N := 11) (by decide +kernel) rfl in_10 (by decide) tb_485
theorem k_130_4 (L : Nat) (xs : Nat → Int32) : ll_OK1 cX10_alter RX10 (some .int) false ll_mN ll_mR ll_mK ll_cnt L xs false 4 (.inl (lo_getf 7 3 3)) := lk_getf (ix := 155) (ci := 3) (k := 3) (C := RX3) (T := TX3) (N := 5) (by decide +kernel) rfl in_3 (by decide) tb_518
theorem k_130_7 (L : Nat) (xs : Nat → Int32) : ll_OK1 cX10_alter RX10 (some .int) false ll_mN ll_mR ll_mK ll_cnt L xs false 7 (.inl (lo_astore 9 4)) := lk_astore (by decide +kernel)
theorem k_130_9 (L : Nat) (xs : Nat → Int32) : ll_OK1 cX10_alter RX10 (some .int) false ll_mN ll_mR ll_mK ll_cnt L xs false 9 (.inl (lo_aload 11 4)) := lk_aload (by decide +kernel)
theorem k_130_11 (L : Nat) (xs : Nat → Int32) : ll_OK1 cX10_alter RX10 (some .int) false ll_mN ll_mR ll_mK ll_cnt L xs false 11 (.inl (lo_iload 12 1)) := lk_iload_n (k := 1) (by decide +kernel) rfl
theorem k_130_12 (L : Nat) (xs : Nat → Int32) : ll_OK1 cX10_alter RX10 (some .int) false ll_mN ll_mR ll_mK ll_cnt L xs false 12 (.inr (.inl (10, 2, 15))) := ⟨rfl, by decide, by rw [mN_10, mK_10, mR_10]; exact lj_v 248 1 1 (RX1, TX1, 12) (by decide +kernel) tb_569 tb_46 tb_47 rfl rfl rfl rfl (by decide +kernel)⟩
theorem k_130_15 (L : Nat) (xs : Nat → Int32) : ll_OK1 cX10_alter RX10 (some .int) false ll_mN ll_mR ll_mK ll_cnt L xs false 15 (.inl (lo_if 21 18 (fun x => decide (¬ x = 0)))) := lk_if_ne (off := 6) (by decide +kernel) rfl
theorem k_130_18 (L : Nat) (xs : Nat → Int32) : ll_OK1 cX10_alter RX10 (some .int) false ll_mN ll_mR ll_mK ll_cnt L xs false 18 (.inl (lo_push 20 (.int (-2)))) := lk_bipush (n := (-2)) (by decide +kernel) (by decide)
theorem k_130_20 (L : Nat) (xs : Nat → Int32) : ll_OK1 cX10_alter RX10 (some .int) false ll_mN ll_mR ll_mK ll_cnt L xs false 20 (.inr (.inr 1)) := ⟨(fun h => by cases h), (fun _ => ⟨(by decide +kernel), rfl⟩), fun h => by cases h⟩
theorem k_130_21 (L : Nat) (xs : Nat → Int32) : ll_OK1 cX10_alter RX10 (some .int) false ll_mN ll_mR ll_mK ll_cnt L xs false 21 (.inl (lo_iload 22 2)) := lk_iload_n (k := 2) (by decide +kernel) rfl
theorem k_130_22 (L : Nat) (xs : Nat → Int32) : ll_OK1 cX10_alter RX10 (some .int) false ll_mN ll_mR ll_mK ll_cnt L xs false 22 (.inl (lo_tab 0 [48, 59, 70] 81)) := lk_tab (d0 := 59) (hi := 2) (offs := #[26, 37, 48]) (len := 26) (by decide +kernel) rfl rfl rfl
theorem k_130_48 (L : Nat) (xs : Nat → Int32) : ll_OK1 cX10_alter RX10 (some .int) false ll_mN ll_mR ll_mK ll_cnt L xs false 48 (.inl (lo_aload 50 4)) := lk_aload (by decide +kernel)
theorem k_130_50 (L : Nat) (xs : Nat → Int32) : ll_OK1 cX10_alter RX10 (some .int) false ll_mN ll_mR ll_mK ll_cnt L xs false 50 (.inl (lo_getf 53 1 0)) := lk_getf (ix := 251) (ci := 1) (k := 0) (C := RX1) (T := TX1) (N := 12) (by decide +kernel) rfl in_1 (by decide) tb_570
theorem k_130_53 (L : Nat) (xs : Nat → Int32) : ll_OK1 cX10_alter RX10 (some .int) false ll_mN ll_mR ll_mK ll_cnt L xs false 53 (.inl (lo_iload 54 1)) := lk_iload_n (k := 1) (by decide +kernel) rfl
theorem k_130_54 (L : Nat) (xs : Nat → Int32) : ll_OK1 cX10_alter RX10 (some .int) false ll_mN ll_mR ll_mK ll_cnt L xs false 54 (.inl (lo_iload 55 3)) := lk_iload_n (k := 3) (by decide +kernel) rfl
theorem k_130_55 (L : Nat) (xs : Nat → Int32) : ll_OK1 cX10_alter RX10 (some .int) false ll_mN ll_mR ll_mK ll_cnt L xs false 55 (.inr (.inl (143, 3, 58))) := ⟨rfl, by decide, by rw [mN_143, mK_143, mR_143]; exact lj_s 270 (by decide +kernel) tb_578 tb_579 (by decide +kernel)⟩
theorem k_130_58 (L : Nat) (xs : Nat → Int32) : ll_OK1 cX10_alter RX10 (some .int) false ll_mN ll_mR ll_mK ll_cnt L xs false 58 (.inr (.inr 1)) := ⟨(fun h => by cases h), (fun _ => ⟨(by decide +kernel), rfl⟩), fun h => by cases h⟩
theorem k_130_59 (L : Nat) (xs : Nat → Int32) : ll_OK1 cX10_alter RX10 (some .int) false ll_mN ll_mR ll_mK ll_cnt L xs false 59 (.inl (lo_aload 61 4)) := lk_aload (by decide +kernel)
theorem k_130_61 (L : Nat) (xs : Nat → Int32) : ll_OK1 cX10_alter RX10 (some .int) false ll_mN ll_mR ll_mK ll_cnt L xs false 61 (.inl (lo_getf 64 1 1)) := lk_getf (ix := 255) (ci := 1) (k := 1) (C := RX1) (T := TX1) (N := 12) (by decide +kernel) rfl in_1 (by decide) tb_571
theorem k_130_64 (L : Nat) (xs : Nat → Int32) : ll_OK1 cX10_alter RX10 (some .int) false ll_mN ll_mR ll_mK ll_cnt L xs false 64 (.inl (lo_iload 65 1)) := lk_iload_n (k := 1) (by decide +kernel) rfl
theorem k_130_65 (L : Nat) (xs : Nat → Int32) : ll_OK1 cX10_alter RX10 (some .int) false ll_mN ll_mR ll_mK ll_cnt L xs false 65 (.inl (lo_iload 66 3)) := lk_iload_n (k := 3) (by decide +kernel) rfl
theorem k_130_66 (L : Nat) (xs : Nat → Int32) : ll_OK1 cX10_alter RX10 (some .int) false ll_mN ll_mR ll_mK ll_cnt L xs false 66 (.inr (.inl (143, 3, 69))) := ⟨rfl, by decide, by rw [mN_143, mK_143, mR_143]; exact lj_s 270 (by decide +kernel) tb_578 tb_579 (by decide +kernel)⟩
theorem k_130_69 (L : Nat) (xs : Nat → Int32) : ll_OK1 cX10_alter RX10 (some .int) false ll_mN ll_mR ll_mK ll_cnt L xs false 69 (.inr (.inr 1)) := ⟨(fun h => by cases h), (fun _ => ⟨(by decide +kernel), rfl⟩), fun h => by cases h⟩
theorem k_130_70 (L : Nat) (xs : Nat → Int32) : ll_OK1 cX10_alter RX10 (some .int) false ll_mN ll_mR ll_mK ll_cnt L xs false 70 (.inl (lo_aload 72 4)) := lk_aload (by decide +kernel)
theorem k_130_72 (L : Nat) (xs : Nat → Int32) : ll_OK1 cX10_alter RX10 (some .int) false ll_mN ll_mR ll_mK ll_cnt L xs false 72 (.inl (lo_getf 75 1 2)) := lk_getf (ix := 258) (ci := 1) (k := 2) (C := RX1) (T := TX1) (N := 12) (by decide +kernel) rfl in_1 (by decide) tb_572
theorem k_130_75 (L : Nat) (xs : Nat → Int32) : ll_OK1 cX10_alter RX10 (some .int) false ll_mN ll_mR ll_mK ll_cnt L xs false 75 (.inl (lo_iload 76 1)) := lk_iload_n (k := 1) (by decide +kernel) rfl
theorem k_130_76 (L : Nat) (xs : Nat → Int32) : ll_OK1 cX10_alter RX10 (some .int) false ll_mN ll_mR ll_mK ll_cnt L xs false 76 (.inl (lo_iload 77 3)) := lk_iload_n (k := 3) (by decide +kernel) rfl
theorem k_130_77 (L : Nat) (xs : Nat → Int32) : ll_OK1 cX10_alter RX10 (some .int) false ll_mN ll_mR ll_mK ll_cnt L xs false 77 (.inr (.inl (143, 3, 80))) := ⟨rfl, by decide, by rw [mN_143, mK_143, mR_143]; exact lj_s 270 (by decide +kernel) tb_578 tb_579 (by decide +kernel)⟩
theorem k_130_80 (L : Nat) (xs : Nat → Int32) : ll_OK1 cX10_alter RX10 (some .int) false ll_mN ll_mR ll_mK ll_cnt L xs false 80 (.inr (.inr 1)) := ⟨(fun h => by cases h), (fun _ => ⟨(by decide +kernel), rfl⟩), fun h => by cases h⟩
theorem k_130_81 (L : Nat) (xs : Nat → Int32) : ll_OK1 cX10_alter RX10 (some .int) false ll_mN ll_mR ll_mK ll_cnt L xs false 81 (.inl (lo_aload 83 4)) := lk_aload (by decide +kernel)
theorem k_130_83 (L : Nat) (xs : Nat → Int32) : ll_OK1 cX10_alter RX10 (some .int) false ll_mN ll_mR ll_mK ll_cnt L xs false 83 (.inl (lo_iload 84 1)) := lk_iload_n (k := 1) (by decide +kernel) rfl
theorem k_130_84 (L : Nat) (xs : Nat → Int32) : ll_OK1 cX10_alter RX10 (some .int) false ll_mN ll_mR ll_mK ll_cnt L xs false 84 (.inl (lo_iload 85 2)) := lk_iload_n (k := 2) (by decide +kernel) rfl
theorem k_130_85 (L : Nat) (xs : Nat → Int32) : ll_OK1 cX10_alter RX10 (some .int) false ll_mN ll_mR ll_mK ll_cnt L xs false 85 (.inr (.inl (11, 3, 88))) := ⟨rfl, by decide, by rw [mN_11, mK_11, mR_11]; exact lj_v 264 2 1 (RX1, TX1, 12) (by decide +kernel) tb_574 tb_575 tb_576 rfl rfl rfl rfl (by decide +kernel)⟩
theorem k_130_88 (L : Nat) (xs : Nat → Int32) : ll_OK1 cX10_alter RX10 (some .int) false ll_mN ll_mR ll_mK ll_cnt L xs false 88 (.inl (lo_if 115 91 (fun x => decide (x = 0)))) := lk_if_eq (off := 27) (by decide +kernel) rfl
theorem k_130_91 (L : Nat) (xs : Nat → Int32) : ll_OK1 cX10_alter RX10 (some .int) false ll_mN ll_mR ll_mK ll_cnt L xs false 91 (.inl (lo_aload 93 4)) := lk_aload (by decide +kernel)
theorem k_130_93 (L : Nat) (xs : Nat → Int32) : ll_OK1 cX10_alter RX10 (some .int) false ll_mN ll_mR ll_mK ll_cnt L xs false 93 (.inl (lo_getf 96 1 5)) := lk_getf (ix := 274) (ci := 1) (k := 5) (C := RX1) (T := TX1) (N := 12) (by decide +kernel) rfl in_1 (by decide) tb_580
theorem k_130_96 (L : Nat) (xs : Nat → Int32) : ll_OK1 cX10_alter RX10 (some .int) false ll_mN ll_mR ll_mK ll_cnt L xs false 96 (.inl (lo_aload 98 4)) := lk_aload (by decide +kernel)
theorem k_130_98 (L : Nat) (xs : Nat → Int32) : ll_OK1 cX10_alter RX10 (some .int) false ll_mN ll_mR ll_mK ll_cnt L xs false 98 (.inl (lo_getf 101 1 3)) := lk_getf (ix := 277) (ci := 1) (k := 3) (C := RX1) (T := TX1) (N := 12) (by decide +kernel) rfl in_1 (by decide) tb_581
theorem k_130_101 (L : Nat) (xs : Nat → Int32) : ll_OK1 cX10_alter RX10 (some .int) false ll_mN ll_mR ll_mK ll_cnt L xs false 101 (.inl (lo_iload 102 1)) := lk_iload_n (k := 1) (by decide +kernel) rfl
theorem k_130_102 (L : Nat) (xs : Nat → Int32) : ll_OK1 cX10_alter RX10 (some .int) false ll_mN ll_mR ll_mK ll_cnt L xs false 102 (.inl (lo_ald 103 0)) := lk_iald (by decide +kernel)
theorem k_130_103 (L : Nat) (xs : Nat → Int32) : ll_OK1 cX10_alter RX10 (some .int) false ll_mN ll_mR ll_mK ll_cnt L xs false 103 (.inl (lo_iload 104 2)) := lk_iload_n (k := 2) (by decide +kernel) rfl
theorem k_130_104 (L : Nat) (xs : Nat → Int32) : ll_OK1 cX10_alter RX10 (some .int) false ll_mN ll_mR ll_mK ll_cnt L xs false 104 (.inl (lo_bin 105 (fun x y => x + y))) := lk_iadd (by decide +kernel)
theorem k_130_105 (L : Nat) (xs : Nat → Int32) : ll_OK1 cX10_alter RX10 (some .int) false ll_mN ll_mR ll_mK ll_cnt L xs false 105 (.inl (lo_push 107 (.int 10))) := lk_bipush (n := 10) (by decide +kernel) (by decide)
theorem k_130_107 (L : Nat) (xs : Nat → Int32) : ll_OK1 cX10_alter RX10 (some .int) false ll_mN ll_mR ll_mK ll_cnt L xs false 107 (.inl (lo_bin 108 (fun x y => x - y))) := lk_isub (by decide +kernel)
theorem k_130_108 (L : Nat) (xs : Nat → Int32) : ll_OK1 cX10_alter RX10 (some .int) false ll_mN ll_mR ll_mK ll_cnt L xs false 108 (.inl (lo_iload 109 3)) := lk_iload_n (k := 3) (by decide +kernel) rfl
theorem k_130_109 (L : Nat) (xs : Nat → Int32) : ll_OK1 cX10_alter RX10 (some .int) false ll_mN ll_mR ll_mK ll_cnt L xs false 109 (.inr (.inl (143, 3, 112))) := ⟨rfl, by decide, by rw [mN_143, mK_143, mR_143]; exact lj_s 270 (by decide +kernel) tb_578 tb_579 (by decide +kernel)⟩
theorem k_130_112 (L : Nat) (xs : Nat → Int32) : ll_OK1 cX10_alter RX10 (some .int) false ll_mN ll_mR ll_mK ll_cnt L xs false 112 (.inl (lo_goto 117)) := lk_goto (off := 5) (by decide +kernel) rfl
theorem k_130_115 (L : Nat) (xs : Nat → Int32) : ll_OK1 cX10_alter RX10 (some .int) false ll_mN ll_mR ll_mK ll_cnt L xs false 115 (.inl (lo_push 117 (.int (-2)))) := lk_bipush (n := (-2)) (by decide +kernel) (by decide)
theorem k_130_117 (L : Nat) (xs : Nat → Int32) : ll_OK1 cX10_alter RX10 (some .int) false ll_mN ll_mR ll_mK ll_cnt L xs false 117 (.inr (.inr 1)) := ⟨(fun h => by cases h), (fun _ => ⟨(by decide +kernel), rfl⟩), fun h => by cases h⟩
theorem ok_130 (L : Nat) (xs : Nat → Int32) : ∀ q ∈ cd_130, ll_OK1 cX10_alter RX10 (some .int) false ll_mN ll_mR ll_mK ll_cnt L xs false q.1 q.2 :=
  List.forall_mem_cons.mpr ⟨k_130_0 L xs, List.forall_mem_cons.mpr ⟨k_130_1 L xs, List.forall_mem_cons.mpr ⟨k_130_4 L xs, List.forall_mem_cons.mpr ⟨k_130_7 L xs, List.forall_mem_cons.mpr ⟨k_130_9 L xs, List.forall_mem_cons.mpr ⟨k_130_11 L xs, List.forall_mem_cons.mpr ⟨k_130_12 L xs, List.forall_mem_cons.mpr ⟨k_130_15 L xs, List.forall_mem_cons.mpr ⟨k_130_18 L xs, List.forall_mem_cons.mpr ⟨k_130_20 L xs, List.forall_mem_cons.mpr ⟨k_130_21 L xs, List.forall_mem_cons.mpr ⟨k_130_22 L xs, List.forall_mem_cons.mpr ⟨k_130_48 L xs, List.forall_mem_cons.mpr ⟨k_130_50 L xs, List.forall_mem_cons.mpr ⟨k_130_53 L xs, List.forall_mem_cons.mpr ⟨k_130_54 L xs, List.forall_mem_cons.mpr ⟨k_130_55 L xs, List.forall_mem_cons.mpr ⟨k_130_58 L xs, List.forall_mem_cons.mpr ⟨k_130_59 L xs, List.forall_mem_cons.mpr ⟨k_130_61 L xs, List.forall_mem_cons.mpr ⟨k_130_64 L xs, List.forall_mem_cons.mpr ⟨k_130_65 L xs, List.forall_mem_cons.mpr ⟨k_130_66 L xs, List.forall_mem_cons.mpr ⟨k_130_69 L xs, List.forall_mem_cons.mpr ⟨k_130_70 L xs, List.forall_mem_cons.mpr ⟨k_130_72 L xs, List.forall_mem_cons.mpr ⟨k_130_75 L xs, List.forall_mem_cons.mpr ⟨k_130_76 L xs, List.forall_mem_cons.mpr ⟨k_130_77 L xs, List.forall_mem_cons.mpr ⟨k_130_80 L xs, List.forall_mem_cons.mpr ⟨k_130_81 L xs, List.forall_mem_cons.mpr ⟨k_130_83 L xs, List.forall_mem_cons.mpr ⟨k_130_84 L xs, List.forall_mem_cons.mpr ⟨k_130_85 L xs, List.forall_mem_cons.mpr ⟨k_130_88 L xs, List.forall_mem_cons.mpr ⟨k_130_91 L xs, List.forall_mem_cons.mpr ⟨k_130_93 L xs, List.forall_mem_cons.mpr ⟨k_130_96 L xs, List.forall_mem_cons.mpr ⟨k_130_98 L xs, List.forall_mem_cons.mpr ⟨k_130_101 L xs, List.forall_mem_cons.mpr ⟨k_130_102 L xs, List.forall_mem_cons.mpr ⟨k_130_103 L xs, List.forall_mem_cons.mpr ⟨k_130_104 L xs, List.forall_mem_cons.mpr ⟨k_130_105 L xs, List.forall_mem_cons.mpr ⟨k_130_107 L xs, List.forall_mem_cons.mpr ⟨k_130_108 L xs, List.forall_mem_cons.mpr ⟨k_130_109 L xs, List.forall_mem_cons.mpr ⟨k_130_112 L xs, List.forall_mem_cons.mpr ⟨k_130_115 L xs, List.forall_mem_cons.mpr ⟨k_130_117 L xs, fun _ h => absurd h List.not_mem_nil⟩⟩⟩⟩⟩⟩⟩⟩⟩⟩⟩⟩⟩⟩⟩⟩⟩⟩⟩⟩⟩⟩⟩⟩⟩⟩⟩⟩⟩⟩⟩⟩⟩⟩⟩⟩⟩⟩⟩⟩⟩⟩⟩⟩⟩⟩⟩⟩⟩⟩
/-- InclusionProver.cut.()I -/
def cd_131 : List (Nat × ll_O) := [
  (0, .inl (lo_aload 1 0)),
  (1, .inl (lo_getf 4 10 8)),
  (4, .inl (lo_getf 7 3 3)),
  (7, .inr (.inl (17, 1, 10))),
  (10, .inr (.inr 1))]
theorem k_131_0 (L : Nat) (xs : Nat → Int32) : ll_OK1 cX10_cut RX10 (some .int) false ll_mN ll_mR ll_mK ll_cnt L xs false 0 (.inl (lo_aload 1 0)) := lk_aload_n (k := 0) (by decide +kernel) rfl
theorem k_131_1 (L : Nat) (xs : Nat → Int32) : ll_OK1 cX10_cut RX10 (some .int) false ll_mN ll_mR ll_mK ll_cnt L xs false 1 (.inl (lo_getf 4 10 8)) := lk_getf (ix := 81) (ci := 10) (k := 8) (C := RX10) (T := TX10) (N := 11) (by decide +kernel) rfl in_10 (by decide) tb_485
theorem k_131_4 (L : Nat) (xs : Nat → Int32) : ll_OK1 cX10_cut RX10 (some .int) false ll_mN ll_mR ll_mK ll_cnt L xs false 4 (.inl (lo_getf 7 3 3)) := lk_getf (ix := 155) (ci := 3) (k := 3) (C := RX3) (T := TX3) (N := 5) (by decide +kernel) rfl in_3 (by decide) tb_518
theorem k_131_7 (L : Nat) (xs : Nat → Int32) : ll_OK1 cX10_cut RX10 (some .int) false ll_mN ll_mR ll_mK ll_cnt L xs false 7 (.inr (.inl (17, 1, 10))) := ⟨rfl, by decide, by rw [mN_17, mK_17, mR_17]; exact lj_v 280 0 1 (RX1, TX1, 12) (by decide +kernel) tb_582 tb_583 tb_584 rfl rfl rfl rfl (by decide +kernel)⟩
theorem k_131_10 (L : Nat) (xs : Nat → Int32) : ll_OK1 cX10_cut RX10 (some .int) false ll_mN ll_mR ll_mK ll_cnt L xs false 10 (.inr (.inr 1)) := ⟨(fun h => by cases h), (fun _ => ⟨(by decide +kernel), rfl⟩), fun h => by cases h⟩
theorem ok_131 (L : Nat) (xs : Nat → Int32) : ∀ q ∈ cd_131, ll_OK1 cX10_cut RX10 (some .int) false ll_mN ll_mR ll_mK ll_cnt L xs false q.1 q.2 :=
  List.forall_mem_cons.mpr ⟨k_131_0 L xs, List.forall_mem_cons.mpr ⟨k_131_1 L xs, List.forall_mem_cons.mpr ⟨k_131_4 L xs, List.forall_mem_cons.mpr ⟨k_131_7 L xs, List.forall_mem_cons.mpr ⟨k_131_10 L xs, fun _ h => absurd h List.not_mem_nil⟩⟩⟩⟩⟩
/-- InclusionProver.check.()I -/
def cd_132 : List (Nat × ll_O) := [
  (0, .inl (lo_aload 1 0)),
  (1, .inl (lo_getf 4 10 3)),
  (4, .inl (lo_aload 5 0)),
  (5, .inl (lo_getf 8 10 8)),
  (8, .inl (lo_getf 11 3 1)),
  (11, .inl (lo_push 12 (.int 0))),
  (12, .inl (lo_aald 13)),
  (13, .inl (lo_aload 14 0)),
  (14, .inl (lo_getf 17 10 8)),
  (17, .inl (lo_getf 20 3 1)),
  (20, .inl (lo_push 21 (.int 1))),
  (21, .inl (lo_aald 22)),
  (22, .inl (lo_aload 23 0)),
  (23, .inl (lo_getf 26 10 8)),
  (26, .inl (lo_getf 29 3 3)),
  (29, .inr (.inl (1, 4, 32))),
  (32, .inl (lo_aload 33 0)),
  (33, .inl (lo_getf 36 10 3)),
  (36, .inl (lo_getf 39 0 3)),
  (39, .inr (.inr 1))]
theorem k_132_0 (L : Nat) (xs : Nat → Int32) : ll_OK1 cX10_check RX10 (some .int) false ll_mN ll_mR ll_mK ll_cnt L xs false 0 (.inl (lo_aload 1 0)) := lk_aload_n (k := 0) (by decide +kernel) rfl
theorem k_132_1 (L : Nat) (xs : Nat → Int32) : ll_OK1 cX10_check RX10 (some .int) false ll_mN ll_mR ll_mK ll_cnt L xs false 1 (.inl (lo_getf 4 10 3)) := lk_getf (ix := 65) (ci := 10) (k := 3) (C := RX10) (T := TX10) (N := 11) (by decide +kernel) rfl in_10 (by decide) tb_473
theorem k_132_4 (L : Nat) (xs : Nat → Int32) : ll_OK1 cX10_check RX10 (some .int) false ll_mN ll_mR ll_mK ll_cnt L xs false 4 (.inl (lo_aload 5 0)) := lk_aload_n (k := 0) (by decide +kernel) rfl
theorem k_132_5 (L : Nat) (xs : Nat → Int32) : ll_OK1 cX10_check RX10 (some .int) false ll_mN ll_mR ll_mK ll_cnt L xs false 5 (.inl (lo_getf 8 10 8)) := lk_getf (ix := 81) (ci := 10) (k := 8) (C := RX10) (T := TX10) (N := 11) (by decide +kernel) rfl in_10 (by decide) tb_485
theorem k_132_8 (L : Nat) (xs : Nat → Int32) : ll_OK1 cX10_check RX10 (some .int) false ll_mN ll_mR ll_mK ll_cnt L xs false 8 (.inl (lo_getf 11 3 1)) := lk_getf (ix := 93) (ci := 3) (k := 1) (C := RX3) (T := TX3) (N := 5) (by decide +kernel) rfl in_3 (by decide) tb_490
theorem k_132_11 (L : Nat) (xs : Nat → Int32) : ll_OK1 cX10_check RX10 (some .int) false ll_mN ll_mR ll_mK ll_cnt L xs false 11 (.inl (lo_push 12 (.int 0))) := lk_iconst (n := 0) (by decide +kernel) (by decide)
theorem k_132_12 (L : Nat) (xs : Nat → Int32) : ll_OK1 cX10_check RX10 (some .int) false ll_mN ll_mR ll_mK ll_cnt L xs false 12 (.inl (lo_aald 13)) := lk_aald (by decide +kernel)
theorem k_132_13 (L : Nat) (xs : Nat → Int32) : ll_OK1 cX10_check RX10 (some .int) false ll_mN ll_mR ll_mK ll_cnt L xs false 13 (.inl (lo_aload 14 0)) := lk_aload_n (k := 0) (by decide +kernel) rfl
theorem k_132_14 (L : Nat) (xs : Nat → Int32) : ll_OK1 cX10_check RX10 (some .int) false ll_mN ll_mR ll_mK ll_cnt L xs false 14 (.inl (lo_getf 17 10 8)) := lk_getf (ix := 81) (ci := 10) (k := 8) (C := RX10) (T := TX10) (N := 11) (by decide +kernel) rfl in_10 (by decide) tb_485
theorem k_132_17 (L : Nat) (xs : Nat → Int32) : ll_OK1 cX10_check RX10 (some .int) false ll_mN ll_mR ll_mK ll_cnt L xs false 17 (.inl (lo_getf 20 3 1)) := lk_getf (ix := 93) (ci := 3) (k := 1) (C := RX3) (T := TX3) (N := 5) (by decide +kernel) rfl in_3 (by decide) tb_490
theorem k_132_20 (L : Nat) (xs : Nat → Int32) : ll_OK1 cX10_check RX10 (some .int) false ll_mN ll_mR ll_mK ll_cnt L xs false 20 (.inl (lo_push 21 (.int 1))) := lk_iconst (n := 1) (by decide +kernel) (by decide)
theorem k_132_21 (L : Nat) (xs : Nat → Int32) : ll_OK1 cX10_check RX10 (some .int) false ll_mN ll_mR ll_mK ll_cnt L xs false 21 (.inl (lo_aald 22)) := lk_aald (by decide +kernel)
theorem k_132_22 (L : Nat) (xs : Nat → Int32) : ll_OK1 cX10_check RX10 (some .int) false ll_mN ll_mR ll_mK ll_cnt L xs false 22 (.inl (lo_aload 23 0)) := lk_aload_n (k := 0) (by decide +kernel) rfl
theorem k_132_23 (L : Nat) (xs : Nat → Int32) : ll_OK1 cX10_check RX10 (some .int) false ll_mN ll_mR ll_mK ll_cnt L xs false 23 (.inl (lo_getf 26 10 8)) := lk_getf (ix := 81) (ci := 10) (k := 8) (C := RX10) (T := TX10) (N := 11) (by decide +kernel) rfl in_10 (by decide) tb_485
theorem k_132_26 (L : Nat) (xs : Nat → Int32) : ll_OK1 cX10_check RX10 (some .int) false ll_mN ll_mR ll_mK ll_cnt L xs false 26 (.inl (lo_getf 29 3 3)) := lk_getf (ix := 155) (ci := 3) (k := 3) (C := RX3) (T := TX3) (N := 5) (by decide +kernel) rfl in_3 (by decide) tb_518
theorem k_132_29 (L : Nat) (xs : Nat → Int32) : ll_OK1 cX10_check RX10 (some .int) false ll_mN ll_mR ll_mK ll_cnt L xs false 29 (.inr (.inl (1, 4, 32))) := ⟨rfl, by decide, by rw [mN_1, mK_1, mR_1]; exact lj_v 283 3 0 (RX0, TX0, 7) (by decide +kernel) tb_585 tb_586 tb_587 rfl rfl rfl rfl (by decide +kernel)⟩
theorem k_132_32 (L : Nat) (xs : Nat → Int32) : ll_OK1 cX10_check RX10 (some .int) false ll_mN ll_mR ll_mK ll_cnt L xs false 32 (.inl (lo_aload 33 0)) := lk_aload_n (k := 0) (by decide +kernel) rfl
theorem k_132_33 (L : Nat) (xs : Nat → Int32) : ll_OK1 cX10_check RX10 (some .int) false ll_mN ll_mR ll_mK ll_cnt L xs false 33 (.inl (lo_getf 36 10 3)) := lk_getf (ix := 65) (ci := 10) (k := 3) (C := RX10) (T := TX10) (N := 11) (by decide +kernel) rfl in_10 (by decide) tb_473
theorem k_132_36 (L : Nat) (xs : Nat → Int32) : ll_OK1 cX10_check RX10 (some .int) false ll_mN ll_mR ll_mK ll_cnt L xs false 36 (.inl (lo_getf 39 0 3)) := lk_getf (ix := 286) (ci := 0) (k := 3) (C := RX0) (T := TX0) (N := 7) (by decide +kernel) rfl in_0 (by decide) tb_588
theorem k_132_39 (L : Nat) (xs : Nat → Int32) : ll_OK1 cX10_check RX10 (some .int) false ll_mN ll_mR ll_mK ll_cnt L xs false 39 (.inr (.inr 1)) := ⟨(fun h => by cases h), (fun _ => ⟨(by decide +kernel), rfl⟩), fun h => by cases h⟩
theorem ok_132 (L : Nat) (xs : Nat → Int32) : ∀ q ∈ cd_132, ll_OK1 cX10_check RX10 (some .int) false ll_mN ll_mR ll_mK ll_cnt L xs false q.1 q.2 :=
  List.forall_mem_cons.mpr ⟨k_132_0 L xs, List.forall_mem_cons.mpr ⟨k_132_1 L xs, List.forall_mem_cons.mpr ⟨k_132_4 L xs, List.forall_mem_cons.mpr ⟨k_132_5 L xs, List.forall_mem_cons.mpr ⟨k_132_8 L xs, List.forall_mem_cons.mpr ⟨k_132_11 L xs, List.forall_mem_cons.mpr ⟨k_132_12 L xs, List.forall_mem_cons.mpr ⟨k_132_13 L xs, List.forall_mem_cons.mpr ⟨k_132_14 L xs, List.forall_mem_cons.mpr ⟨k_132_17 L xs, List.forall_mem_cons.mpr ⟨k_132_20 L xs, List.forall_mem_cons.mpr ⟨k_132_21 L xs, List.forall_mem_cons.mpr ⟨k_132_22 L xs, List.forall_mem_cons.mpr ⟨k_132_23 L xs, List.forall_mem_cons.mpr ⟨k_132_26 L xs, List.forall_mem_cons.mpr ⟨k_132_29 L xs, List.forall_mem_cons.mpr ⟨k_132_32 L xs, List.forall_mem_cons.mpr ⟨k_132_33 L xs, List.forall_mem_cons.mpr ⟨k_132_36 L xs, List.forall_mem_cons.mpr ⟨k_132_39 L xs, fun _ h => absurd h List.not_mem_nil⟩⟩⟩⟩⟩⟩⟩⟩⟩⟩⟩⟩⟩⟩⟩⟩⟩⟩⟩⟩
/-- InclusionProver.why.(I)I -/
def cd_133 : List (Nat × ll_O) := [
  (0, .inl (lo_iload 1 1)),
  (1, .inl (lo_if 9 4 (fun x => decide (x < 0)))),
  (4, .inl (lo_iload 5 1)),
  (5, .inl (lo_push 6 (.int 2))),
  (6, .inl (lo_cmp 11 9 (fun x y => decide (x ≤ y)))),
  (9, .inl (lo_push 10 (.int (-1)))),
  (10, .inr (.inr 1)),
  (11, .inl (lo_aload 12 0)),
  (12, .inl (lo_getf 15 10 3)),
  (15, .inl (lo_aload 16 0)),
  (16, .inl (lo_getf 19 10 8)),
  (19, .inl (lo_getf 22 3 1)),
  (22, .inl (lo_push 23 (.int 0))),
  (23, .inl (lo_aald 24)),
  (24, .inl (lo_aload 25 0)),
  (25, .inl (lo_getf 28 10 8)),
  (28, .inl (lo_getf 31 3 1)),
  (31, .inl (lo_push 32 (.int 1))),
  (32, .inl (lo_aald 33)),
  (33, .inl (lo_aload 34 0)),
  (34, .inl (lo_getf 37 10 8)),
  (37, .inl (lo_getf 40 3 3)),
  (40, .inr (.inl (1, 4, 43))),
  (43, .inl (lo_aload 44 0)),
  (44, .inl (lo_getf 47 10 3)),
  (47, .inl (lo_getf 50 0 3)),
  (50, .inl (lo_if 55 53 (fun x => decide (0 ≤ x)))),
  (53, .inl (lo_push 54 (.int 0))),
  (54, .inr (.inr 1)),
  (55, .inl (lo_iload 56 1)),
  (56, .inl (lo_if 69 59 (fun x => decide (¬ x = 0)))),
  (59, .inl (lo_aload 60 0)),
  (60, .inl (lo_getf 63 10 3)),
  (63, .inl (lo_getf 66 0 4)),
  (66, .inl (lo_goto 91)),
  (69, .inl (lo_iload 70 1)),
  (70, .inl (lo_push 71 (.int 1))),
  (71, .inl (lo_cmp 84 74 (fun x y => decide (¬ x = y)))),
  (74, .inl (lo_aload 75 0)),
  (75, .inl (lo_getf 78 10 3)),
  (78, .inl (lo_getf 81 0 5)),
  (81, .inl (lo_goto 91)),
  (84, .inl (lo_aload 85 0)),
  (85, .inl (lo_getf 88 10 3)),
  (88, .inl (lo_getf 91 0 6)),
  (91, .inr (.inr 1))]
theorem k_133_0 (L : Nat) (xs : Nat → Int32) : ll_OK1 cX10_why RX10 (some .int) false ll_mN ll_mR ll_mK ll_cnt L xs false 0 (.inl (lo_iload 1 1)) := lk_iload_n (k := 1) (by decide +kernel) rfl
theorem k_133_1 (L : Nat) (xs : Nat → Int32) : ll_OK1 cX10_why RX10 (some .int) false ll_mN ll_mR ll_mK ll_cnt L xs false 1 (.inl (lo_if 9 4 (fun x => decide (x < 0)))) := lk_if_lt (off := 8) (by decide +kernel) rfl
theorem k_133_4 (L : Nat) (xs : Nat → Int32) : ll_OK1 cX10_why RX10 (some .int) false ll_mN ll_mR ll_mK ll_cnt L xs false 4 (.inl (lo_iload 5 1)) := lk_iload_n (k := 1) (by decide +kernel) rfl
theorem k_133_5 (L : Nat) (xs : Nat → Int32) : ll_OK1 cX10_why RX10 (some .int) false ll_mN ll_mR ll_mK ll_cnt L xs false 5 (.inl (lo_push 6 (.int 2))) := lk_iconst (n := 2) (by decide +kernel) (by decide)
theorem k_133_6 (L : Nat) (xs : Nat → Int32) : ll_OK1 cX10_why RX10 (some .int) false ll_mN ll_mR ll_mK ll_cnt L xs false 6 (.inl (lo_cmp 11 9 (fun x y => decide (x ≤ y)))) := lk_icmp_le (off := 5) (by decide +kernel) rfl
theorem k_133_9 (L : Nat) (xs : Nat → Int32) : ll_OK1 cX10_why RX10 (some .int) false ll_mN ll_mR ll_mK ll_cnt L xs false 9 (.inl (lo_push 10 (.int (-1)))) := lk_iconst (n := (-1)) (by decide +kernel) (by decide)
theorem k_133_10 (L : Nat) (xs : Nat → Int32) : ll_OK1 cX10_why RX10 (some .int) false ll_mN ll_mR ll_mK ll_cnt L xs false 10 (.inr (.inr 1)) := ⟨(fun h => by cases h), (fun _ => ⟨(by decide +kernel), rfl⟩), fun h => by cases h⟩
theorem k_133_11 (L : Nat) (xs : Nat → Int32) : ll_OK1 cX10_why RX10 (some .int) false ll_mN ll_mR ll_mK ll_cnt L xs false 11 (.inl (lo_aload 12 0)) := lk_aload_n (k := 0) (by decide +kernel) rfl
theorem k_133_12 (L : Nat) (xs : Nat → Int32) : ll_OK1 cX10_why RX10 (some .int) false ll_mN ll_mR ll_mK ll_cnt L xs false 12 (.inl (lo_getf 15 10 3)) := lk_getf (ix := 65) (ci := 10) (k := 3) (C := RX10) (T := TX10) (N := 11) (by decide +kernel) rfl in_10 (by decide) tb_473
theorem k_133_15 (L : Nat) (xs : Nat → Int32) : ll_OK1 cX10_why RX10 (some .int) false ll_mN ll_mR ll_mK ll_cnt L xs false 15 (.inl (lo_aload 16 0)) := lk_aload_n (k := 0) (by decide +kernel) rfl
theorem k_133_16 (L : Nat) (xs : Nat → Int32) : ll_OK1 cX10_why RX10 (some .int) false ll_mN ll_mR ll_mK ll_cnt L xs false 16 (.inl (lo_getf 19 10 8)) := lk_getf (ix := 81) (ci := 10) (k := 8) (C := RX10) (T := TX10) (N := 11) (by decide +kernel) rfl in_10 (by decide) tb_485
theorem k_133_19 (L : Nat) (xs : Nat → Int32) : ll_OK1 cX10_why RX10 (some .int) false ll_mN ll_mR ll_mK ll_cnt L xs false 19 (.inl (lo_getf 22 3 1)) := lk_getf (ix := 93) (ci := 3) (k := 1) (C := RX3) (T := TX3) (N := 5) (by decide +kernel) rfl in_3 (by decide) tb_490
theorem k_133_22 (L : Nat) (xs : Nat → Int32) : ll_OK1 cX10_why RX10 (some .int) false ll_mN ll_mR ll_mK ll_cnt L xs false 22 (.inl (lo_push 23 (.int 0))) := lk_iconst (n := 0) (by decide +kernel) (by decide)
theorem k_133_23 (L : Nat) (xs : Nat → Int32) : ll_OK1 cX10_why RX10 (some .int) false ll_mN ll_mR ll_mK ll_cnt L xs false 23 (.inl (lo_aald 24)) := lk_aald (by decide +kernel)
theorem k_133_24 (L : Nat) (xs : Nat → Int32) : ll_OK1 cX10_why RX10 (some .int) false ll_mN ll_mR ll_mK ll_cnt L xs false 24 (.inl (lo_aload 25 0)) := lk_aload_n (k := 0) (by decide +kernel) rfl
theorem k_133_25 (L : Nat) (xs : Nat → Int32) : ll_OK1 cX10_why RX10 (some .int) false ll_mN ll_mR ll_mK ll_cnt L xs false 25 (.inl (lo_getf 28 10 8)) := lk_getf (ix := 81) (ci := 10) (k := 8) (C := RX10) (T := TX10) (N := 11) (by decide +kernel) rfl in_10 (by decide) tb_485
theorem k_133_28 (L : Nat) (xs : Nat → Int32) : ll_OK1 cX10_why RX10 (some .int) false ll_mN ll_mR ll_mK ll_cnt L xs false 28 (.inl (lo_getf 31 3 1)) := lk_getf (ix := 93) (ci := 3) (k := 1) (C := RX3) (T := TX3) (N := 5) (by decide +kernel) rfl in_3 (by decide) tb_490
theorem k_133_31 (L : Nat) (xs : Nat → Int32) : ll_OK1 cX10_why RX10 (some .int) false ll_mN ll_mR ll_mK ll_cnt L xs false 31 (.inl (lo_push 32 (.int 1))) := lk_iconst (n := 1) (by decide +kernel) (by decide)
theorem k_133_32 (L : Nat) (xs : Nat → Int32) : ll_OK1 cX10_why RX10 (some .int) false ll_mN ll_mR ll_mK ll_cnt L xs false 32 (.inl (lo_aald 33)) := lk_aald (by decide +kernel)
theorem k_133_33 (L : Nat) (xs : Nat → Int32) : ll_OK1 cX10_why RX10 (some .int) false ll_mN ll_mR ll_mK ll_cnt L xs false 33 (.inl (lo_aload 34 0)) := lk_aload_n (k := 0) (by decide +kernel) rfl
theorem k_133_34 (L : Nat) (xs : Nat → Int32) : ll_OK1 cX10_why RX10 (some .int) false ll_mN ll_mR ll_mK ll_cnt L xs false 34 (.inl (lo_getf 37 10 8)) := lk_getf (ix := 81) (ci := 10) (k := 8) (C := RX10) (T := TX10) (N := 11) (by decide +kernel) rfl in_10 (by decide) tb_485
theorem k_133_37 (L : Nat) (xs : Nat → Int32) : ll_OK1 cX10_why RX10 (some .int) false ll_mN ll_mR ll_mK ll_cnt L xs false 37 (.inl (lo_getf 40 3 3)) := lk_getf (ix := 155) (ci := 3) (k := 3) (C := RX3) (T := TX3) (N := 5) (by decide +kernel) rfl in_3 (by decide) tb_518
theorem k_133_40 (L : Nat) (xs : Nat → Int32) : ll_OK1 cX10_why RX10 (some .int) false ll_mN ll_mR ll_mK ll_cnt L xs false 40 (.inr (.inl (1, 4, 43))) := ⟨rfl, by decide, by rw [mN_1, mK_1, mR_1]; exact lj_v 283 3 0 (RX0, TX0, 7) (by decide +kernel) tb_585 tb_586 tb_587 rfl rfl rfl rfl (by decide +kernel)⟩
theorem k_133_43 (L : Nat) (xs : Nat → Int32) : ll_OK1 cX10_why RX10 (some .int) false ll_mN ll_mR ll_mK ll_cnt L xs false 43 (.inl (lo_aload 44 0)) := lk_aload_n (k := 0) (by decide +kernel) rfl
theorem k_133_44 (L : Nat) (xs : Nat → Int32) : ll_OK1 cX10_why RX10 (some .int) false ll_mN ll_mR ll_mK ll_cnt L xs false 44 (.inl (lo_getf 47 10 3)) := lk_getf (ix := 65) (ci := 10) (k := 3) (C := RX10) (T := TX10) (N := 11) (by decide +kernel) rfl in_10 (by decide) tb_473
theorem k_133_47 (L : Nat) (xs : Nat → Int32) : ll_OK1 cX10_why RX10 (some .int) false ll_mN ll_mR ll_mK ll_cnt L xs false 47 (.inl (lo_getf 50 0 3)) := lk_getf (ix := 286) (ci := 0) (k := 3) (C := RX0) (T := TX0) (N := 7) (by decide +kernel) rfl in_0 (by decide) tb_588
theorem k_133_50 (L : Nat) (xs : Nat → Int32) : ll_OK1 cX10_why RX10 (some .int) false ll_mN ll_mR ll_mK ll_cnt L xs false 50 (.inl (lo_if 55 53 (fun x => decide (0 ≤ x)))) := lk_if_ge (off := 5) (by decide +kernel) rfl
theorem k_133_53 (L : Nat) (xs : Nat → Int32) : ll_OK1 cX10_why RX10 (some .int) false ll_mN ll_mR ll_mK ll_cnt L xs false 53 (.inl (lo_push 54 (.int 0))) := lk_iconst (n := 0) (by decide +kernel) (by decide)
theorem k_133_54 (L : Nat) (xs : Nat → Int32) : ll_OK1 cX10_why RX10 (some .int) false ll_mN ll_mR ll_mK ll_cnt L xs false 54 (.inr (.inr 1)) := ⟨(fun h => by cases h), (fun _ => ⟨(by decide +kernel), rfl⟩), fun h => by cases h⟩
theorem k_133_55 (L : Nat) (xs : Nat → Int32) : ll_OK1 cX10_why RX10 (some .int) false ll_mN ll_mR ll_mK ll_cnt L xs false 55 (.inl (lo_iload 56 1)) := lk_iload_n (k := 1) (by decide +kernel) rfl
theorem k_133_56 (L : Nat) (xs : Nat → Int32) : ll_OK1 cX10_why RX10 (some .int) false ll_mN ll_mR ll_mK ll_cnt L xs false 56 (.inl (lo_if 69 59 (fun x => decide (¬ x = 0)))) := lk_if_ne (off := 13) (by decide +kernel) rfl
theorem k_133_59 (L : Nat) (xs : Nat → Int32) : ll_OK1 cX10_why RX10 (some .int) false ll_mN ll_mR ll_mK ll_cnt L xs false 59 (.inl (lo_aload 60 0)) := lk_aload_n (k := 0) (by decide +kernel) rfl
theorem k_133_60 (L : Nat) (xs : Nat → Int32) : ll_OK1 cX10_why RX10 (some .int) false ll_mN ll_mR ll_mK ll_cnt L xs false 60 (.inl (lo_getf 63 10 3)) := lk_getf (ix := 65) (ci := 10) (k := 3) (C := RX10) (T := TX10) (N := 11) (by decide +kernel) rfl in_10 (by decide) tb_473
theorem k_133_63 (L : Nat) (xs : Nat → Int32) : ll_OK1 cX10_why RX10 (some .int) false ll_mN ll_mR ll_mK ll_cnt L xs false 63 (.inl (lo_getf 66 0 4)) := lk_getf (ix := 289) (ci := 0) (k := 4) (C := RX0) (T := TX0) (N := 7) (by decide +kernel) rfl in_0 (by decide) tb_589
theorem k_133_66 (L : Nat) (xs : Nat → Int32) : ll_OK1 cX10_why RX10 (some .int) false ll_mN ll_mR ll_mK ll_cnt L xs false 66 (.inl (lo_goto 91)) := lk_goto (off := 25) (by decide +kernel) rfl
theorem k_133_69 (L : Nat) (xs : Nat → Int32) : ll_OK1 cX10_why RX10 (some .int) false ll_mN ll_mR ll_mK ll_cnt L xs false 69 (.inl (lo_iload 70 1)) := lk_iload_n (k := 1) (by decide +kernel) rfl
theorem k_133_70 (L : Nat) (xs : Nat → Int32) : ll_OK1 cX10_why RX10 (some .int) false ll_mN ll_mR ll_mK ll_cnt L xs false 70 (.inl (lo_push 71 (.int 1))) := lk_iconst (n := 1) (by decide +kernel) (by decide)
theorem k_133_71 (L : Nat) (xs : Nat → Int32) : ll_OK1 cX10_why RX10 (some .int) false ll_mN ll_mR ll_mK ll_cnt L xs false 71 (.inl (lo_cmp 84 74 (fun x y => decide (¬ x = y)))) := lk_icmp_ne (off := 13) (by decide +kernel) rfl
theorem k_133_74 (L : Nat) (xs : Nat → Int32) : ll_OK1 cX10_why RX10 (some .int) false ll_mN ll_mR ll_mK ll_cnt L xs false 74 (.inl (lo_aload 75 0)) := lk_aload_n (k := 0) (by decide +kernel) rfl
theorem k_133_75 (L : Nat) (xs : Nat → Int32) : ll_OK1 cX10_why RX10 (some .int) false ll_mN ll_mR ll_mK ll_cnt L xs false 75 (.inl (lo_getf 78 10 3)) := lk_getf (ix := 65) (ci := 10) (k := 3) (C := RX10) (T := TX10) (N := 11) (by decide +kernel) rfl in_10 (by decide) tb_473
theorem k_133_78 (L : Nat) (xs : Nat → Int32) : ll_OK1 cX10_why RX10 (some .int) false ll_mN ll_mR ll_mK ll_cnt L xs false 78 (.inl (lo_getf 81 0 5)) := lk_getf (ix := 292) (ci := 0) (k := 5) (C := RX0) (T := TX0) (N := 7) (by decide +kernel) rfl in_0 (by decide) tb_590
theorem k_133_81 (L : Nat) (xs : Nat → Int32) : ll_OK1 cX10_why RX10 (some .int) false ll_mN ll_mR ll_mK ll_cnt L xs false 81 (.inl (lo_goto 91)) := lk_goto (off := 10) (by decide +kernel) rfl
theorem k_133_84 (L : Nat) (xs : Nat → Int32) : ll_OK1 cX10_why RX10 (some .int) false ll_mN ll_mR ll_mK ll_cnt L xs false 84 (.inl (lo_aload 85 0)) := lk_aload_n (k := 0) (by decide +kernel) rfl
theorem k_133_85 (L : Nat) (xs : Nat → Int32) : ll_OK1 cX10_why RX10 (some .int) false ll_mN ll_mR ll_mK ll_cnt L xs false 85 (.inl (lo_getf 88 10 3)) := lk_getf (ix := 65) (ci := 10) (k := 3) (C := RX10) (T := TX10) (N := 11) (by decide +kernel) rfl in_10 (by decide) tb_473
theorem k_133_88 (L : Nat) (xs : Nat → Int32) : ll_OK1 cX10_why RX10 (some .int) false ll_mN ll_mR ll_mK ll_cnt L xs false 88 (.inl (lo_getf 91 0 6)) := lk_getf (ix := 295) (ci := 0) (k := 6) (C := RX0) (T := TX0) (N := 7) (by decide +kernel) rfl in_0 (by decide) tb_591
theorem k_133_91 (L : Nat) (xs : Nat → Int32) : ll_OK1 cX10_why RX10 (some .int) false ll_mN ll_mR ll_mK ll_cnt L xs false 91 (.inr (.inr 1)) := ⟨(fun h => by cases h), (fun _ => ⟨(by decide +kernel), rfl⟩), fun h => by cases h⟩
theorem ok_133 (L : Nat) (xs : Nat → Int32) : ∀ q ∈ cd_133, ll_OK1 cX10_why RX10 (some .int) false ll_mN ll_mR ll_mK ll_cnt L xs false q.1 q.2 :=
  List.forall_mem_cons.mpr ⟨k_133_0 L xs, List.forall_mem_cons.mpr ⟨k_133_1 L xs, List.forall_mem_cons.mpr ⟨k_133_4 L xs, List.forall_mem_cons.mpr ⟨k_133_5 L xs, List.forall_mem_cons.mpr ⟨k_133_6 L xs, List.forall_mem_cons.mpr ⟨k_133_9 L xs, List.forall_mem_cons.mpr ⟨k_133_10 L xs, List.forall_mem_cons.mpr ⟨k_133_11 L xs, List.forall_mem_cons.mpr ⟨k_133_12 L xs, List.forall_mem_cons.mpr ⟨k_133_15 L xs, List.forall_mem_cons.mpr ⟨k_133_16 L xs, List.forall_mem_cons.mpr ⟨k_133_19 L xs, List.forall_mem_cons.mpr ⟨k_133_22 L xs, List.forall_mem_cons.mpr ⟨k_133_23 L xs, List.forall_mem_cons.mpr ⟨k_133_24 L xs, List.forall_mem_cons.mpr ⟨k_133_25 L xs, List.forall_mem_cons.mpr ⟨k_133_28 L xs, List.forall_mem_cons.mpr ⟨k_133_31 L xs, List.forall_mem_cons.mpr ⟨k_133_32 L xs, List.forall_mem_cons.mpr ⟨k_133_33 L xs, List.forall_mem_cons.mpr ⟨k_133_34 L xs, List.forall_mem_cons.mpr ⟨k_133_37 L xs, List.forall_mem_cons.mpr ⟨k_133_40 L xs, List.forall_mem_cons.mpr ⟨k_133_43 L xs, List.forall_mem_cons.mpr ⟨k_133_44 L xs, List.forall_mem_cons.mpr ⟨k_133_47 L xs, List.forall_mem_cons.mpr ⟨k_133_50 L xs, List.forall_mem_cons.mpr ⟨k_133_53 L xs, List.forall_mem_cons.mpr ⟨k_133_54 L xs, List.forall_mem_cons.mpr ⟨k_133_55 L xs, List.forall_mem_cons.mpr ⟨k_133_56 L xs, List.forall_mem_cons.mpr ⟨k_133_59 L xs, List.forall_mem_cons.mpr ⟨k_133_60 L xs, List.forall_mem_cons.mpr ⟨k_133_63 L xs, List.forall_mem_cons.mpr ⟨k_133_66 L xs, List.forall_mem_cons.mpr ⟨k_133_69 L xs, List.forall_mem_cons.mpr ⟨k_133_70 L xs, List.forall_mem_cons.mpr ⟨k_133_71 L xs, List.forall_mem_cons.mpr ⟨k_133_74 L xs, List.forall_mem_cons.mpr ⟨k_133_75 L xs, List.forall_mem_cons.mpr ⟨k_133_78 L xs, List.forall_mem_cons.mpr ⟨k_133_81 L xs, List.forall_mem_cons.mpr ⟨k_133_84 L xs, List.forall_mem_cons.mpr ⟨k_133_85 L xs, List.forall_mem_cons.mpr ⟨k_133_88 L xs, List.forall_mem_cons.mpr ⟨k_133_91 L xs, fun _ h => absurd h List.not_mem_nil⟩⟩⟩⟩⟩⟩⟩⟩⟩⟩⟩⟩⟩⟩⟩⟩⟩⟩⟩⟩⟩⟩⟩⟩⟩⟩⟩⟩⟩⟩⟩⟩⟩⟩⟩⟩⟩⟩⟩⟩⟩⟩⟩⟩⟩⟩
/-- InclusionProver.same.()I -/
def cd_134 : List (Nat × ll_O) := [
  (0, .inl (lo_aload 1 0)),
  (1, .inl (lo_getf 4 10 2)),
  (4, .inl (lo_aload 5 0)),
  (5, .inl (lo_getf 8 10 8)),
  (8, .inl (lo_getf 11 3 1)),
  (11, .inl (lo_push 12 (.int 0))),
  (12, .inl (lo_aald 13)),
  (13, .inl (lo_aload 14 0)),
  (14, .inl (lo_getf 17 10 8)),
  (17, .inl (lo_getf 20 3 1)),
  (20, .inl (lo_push 21 (.int 1))),
  (21, .inl (lo_aald 22)),
  (22, .inl (lo_aload 23 0)),
  (23, .inl (lo_getf 26 10 7)),
  (26, .inr (.inl (32, 4, 29))),
  (29, .inl (lo_istore 30 1)),
  (30, .inl (lo_aload 31 0)),
  (31, .inl (lo_getf 34 10 2)),
  (34, .inl (lo_aload 35 0)),
  (35, .inl (lo_getf 38 10 8)),
  (38, .inl (lo_getf 41 3 1)),
  (41, .inl (lo_push 42 (.int 1))),
  (42, .inl (lo_aald 43)),
  (43, .inl (lo_aload 44 0)),
  (44, .inl (lo_getf 47 10 8)),
  (47, .inl (lo_getf 50 3 1)),
  (50, .inl (lo_push 51 (.int 0))),
  (51, .inl (lo_aald 52)),
  (52, .inl (lo_aload 53 0)),
  (53, .inl (lo_getf 56 10 7)),
  (56, .inr (.inl (32, 4, 59))),
  (59, .inl (lo_istore 60 2)),
  (60, .inl (lo_iload 61 1)),
  (61, .inl (lo_push 62 (.int 1))),
  (62, .inl (lo_cmp 70 65 (fun x y => decide (x = y)))),
  (65, .inl (lo_iload 66 2)),
  (66, .inl (lo_push 67 (.int 1))),
  (67, .inl (lo_cmp 72 70 (fun x y => decide (¬ x = y)))),
  (70, .inl (lo_push 71 (.int 0))),
  (71, .inr (.inr 1)),
  (72, .inl (lo_iload 73 1)),
  (73, .inl (lo_push 74 (.int 2))),
  (74, .inl (lo_cmp 82 77 (fun x y => decide (x = y)))),
  (77, .inl (lo_iload 78 2)),
  (78, .inl (lo_push 79 (.int 2))),
  (79, .inl (lo_cmp 86 82 (fun x y => decide (¬ x = y)))),
  (82, .inl (lo_push 83 (.int 2))),
  (83, .inl (lo_goto 87)),
  (86, .inl (lo_push 87 (.int 1))),
  (87, .inr (.inr 1))]
theorem k_134_0 (L : Nat) (xs : Nat → Int32) : ll_OK1 cX10_same RX10 (some .int) false ll_mN ll_mR ll_mK ll_cnt L xs false 0 (.inl (lo_aload 1 0)) := lk_aload_n (k := 0) (by decide +kernel) rfl
theorem k_134_1 (L : Nat) (xs : Nat → Int32) : ll_OK1 cX10_same RX10 (some .int) false ll_mN ll_mR ll_mK ll_cnt L xs false 1 (.inl (lo_getf 4 10 2)) := lk_getf (ix := 58) (ci := 10) (k := 2) (C := RX10) (T := TX10) (N := 11) (by decide +kernel) rfl in_10 (by decide) tb_467
theorem k_134_4 (L : Nat) (xs : Nat → Int32) : ll_OK1 cX10_same RX10 (some .int) false ll_mN ll_mR ll_mK ll_cnt L xs false 4 (.inl (lo_aload 5 0)) := lk_aload_n (k := 0) (by decide +kernel) rfl
theorem k_134_5 (L : Nat) (xs : Nat → Int32) : ll_OK1 cX10_same RX10 (some .int) false ll_mN ll_mR ll_mK ll_cnt L xs false 5 (.inl (lo_getf 8 10 8)) := lk_getf (ix := 81) (ci := 10) (k := 8) (C := RX10) (T := TX10) (N := 11) (by decide +kernel) rfl in_10 (by decide) tb_485
theorem k_134_8 (L : Nat) (xs : Nat → Int32) : ll_OK1 cX10_same RX10 (some .int) false ll_mN ll_mR ll_mK ll_cnt L xs false 8 (.inl (lo_getf 11 3 1)) := lk_getf (ix := 93) (ci := 3) (k := 1) (C := RX3) (T := TX3) (N := 5) (by decide +kernel) rfl in_3 (by decide) tb_490
theorem k_134_11 (L : Nat) (xs : Nat → Int32) : ll_OK1 cX10_same RX10 (some .int) false ll_mN ll_mR ll_mK ll_cnt L xs false 11 (.inl (lo_push 12 (.int 0))) := lk_iconst (n := 0) (by decide +kernel) (by decide)
theorem k_134_12 (L : Nat) (xs : Nat → Int32) : ll_OK1 cX10_same RX10 (some .int) false ll_mN ll_mR ll_mK ll_cnt L xs false 12 (.inl (lo_aald 13)) := lk_aald (by decide +kernel)
theorem k_134_13 (L : Nat) (xs : Nat → Int32) : ll_OK1 cX10_same RX10 (some .int) false ll_mN ll_mR ll_mK ll_cnt L xs false 13 (.inl (lo_aload 14 0)) := lk_aload_n (k := 0) (by decide +kernel) rfl
theorem k_134_14 (L : Nat) (xs : Nat → Int32) : ll_OK1 cX10_same RX10 (some .int) false ll_mN ll_mR ll_mK ll_cnt L xs false 14 (.inl (lo_getf 17 10 8)) := lk_getf (ix := 81) (ci := 10) (k := 8) (C := RX10) (T := TX10) (N := 11) (by decide +kernel) rfl in_10 (by decide) tb_485
theorem k_134_17 (L : Nat) (xs : Nat → Int32) : ll_OK1 cX10_same RX10 (some .int) false ll_mN ll_mR ll_mK ll_cnt L xs false 17 (.inl (lo_getf 20 3 1)) := lk_getf (ix := 93) (ci := 3) (k := 1) (C := RX3) (T := TX3) (N := 5) (by decide +kernel) rfl in_3 (by decide) tb_490
theorem k_134_20 (L : Nat) (xs : Nat → Int32) : ll_OK1 cX10_same RX10 (some .int) false ll_mN ll_mR ll_mK ll_cnt L xs false 20 (.inl (lo_push 21 (.int 1))) := lk_iconst (n := 1) (by decide +kernel) (by decide)
theorem k_134_21 (L : Nat) (xs : Nat → Int32) : ll_OK1 cX10_same RX10 (some .int) false ll_mN ll_mR ll_mK ll_cnt L xs false 21 (.inl (lo_aald 22)) := lk_aald (by decide +kernel)
theorem k_134_22 (L : Nat) (xs : Nat → Int32) : ll_OK1 cX10_same RX10 (some .int) false ll_mN ll_mR ll_mK ll_cnt L xs false 22 (.inl (lo_aload 23 0)) := lk_aload_n (k := 0) (by decide +kernel) rfl
theorem k_134_23 (L : Nat) (xs : Nat → Int32) : ll_OK1 cX10_same RX10 (some .int) false ll_mN ll_mR ll_mK ll_cnt L xs false 23 (.inl (lo_getf 26 10 7)) := lk_getf (ix := 49) (ci := 10) (k := 7) (C := RX10) (T := TX10) (N := 11) (by decide +kernel) rfl in_10 (by decide) tb_461
theorem k_134_26 (L : Nat) (xs : Nat → Int32) : ll_OK1 cX10_same RX10 (some .int) false ll_mN ll_mR ll_mK ll_cnt L xs false 26 (.inr (.inl (32, 4, 29))) := ⟨rfl, by decide, by rw [mN_32, mK_32, mR_32]; exact lj_v 224 3 4 (RX4, TX4, 10) (by decide +kernel) tb_555 tb_556 tb_557 rfl rfl rfl rfl (by decide +kernel)⟩
theorem k_134_29 (L : Nat) (xs : Nat → Int32) : ll_OK1 cX10_same RX10 (some .int) false ll_mN ll_mR ll_mK ll_cnt L xs false 29 (.inl (lo_istore 30 1)) := lk_istore_n (k := 1) (by decide +kernel) rfl
theorem k_134_30 (L : Nat) (xs : Nat → Int32) : ll_OK1 cX10_same RX10 (some .int) false ll_mN ll_mR ll_mK ll_cnt L xs false 30 (.inl (lo_aload 31 0)) := lk_aload_n (k := 0) (by decide +kernel) rfl
theorem k_134_31 (L : Nat) (xs : Nat → Int32) : ll_OK1 cX10_same RX10 (some .int) false ll_mN ll_mR ll_mK ll_cnt L xs false 31 (.inl (lo_getf 34 10 2)) := lk_getf (ix := 58) (ci := 10) (k := 2) (C := RX10) (T := TX10) (N := 11) (by decide +kernel) rfl in_10 (by decide) tb_467
theorem k_134_34 (L : Nat) (xs : Nat → Int32) : ll_OK1 cX10_same RX10 (some .int) false ll_mN ll_mR ll_mK ll_cnt L xs false 34 (.inl (lo_aload 35 0)) := lk_aload_n (k := 0) (by decide +kernel) rfl
theorem k_134_35 (L : Nat) (xs : Nat → Int32) : ll_OK1 cX10_same RX10 (some .int) false ll_mN ll_mR ll_mK ll_cnt L xs false 35 (.inl (lo_getf 38 10 8)) := lk_getf (ix := 81) (ci := 10) (k := 8) (C := RX10) (T := TX10) (N := 11) (by decide +kernel) rfl in_10 (by decide) tb_485
theorem k_134_38 (L : Nat) (xs : Nat → Int32) : ll_OK1 cX10_same RX10 (some .int) false ll_mN ll_mR ll_mK ll_cnt L xs false 38 (.inl (lo_getf 41 3 1)) := lk_getf (ix := 93) (ci := 3) (k := 1) (C := RX3) (T := TX3) (N := 5) (by decide +kernel) rfl in_3 (by decide) tb_490
theorem k_134_41 (L : Nat) (xs : Nat → Int32) : ll_OK1 cX10_same RX10 (some .int) false ll_mN ll_mR ll_mK ll_cnt L xs false 41 (.inl (lo_push 42 (.int 1))) := lk_iconst (n := 1) (by decide +kernel) (by decide)
theorem k_134_42 (L : Nat) (xs : Nat → Int32) : ll_OK1 cX10_same RX10 (some .int) false ll_mN ll_mR ll_mK ll_cnt L xs false 42 (.inl (lo_aald 43)) := lk_aald (by decide +kernel)
theorem k_134_43 (L : Nat) (xs : Nat → Int32) : ll_OK1 cX10_same RX10 (some .int) false ll_mN ll_mR ll_mK ll_cnt L xs false 43 (.inl (lo_aload 44 0)) := lk_aload_n (k := 0) (by decide +kernel) rfl
theorem k_134_44 (L : Nat) (xs : Nat → Int32) : ll_OK1 cX10_same RX10 (some .int) false ll_mN ll_mR ll_mK ll_cnt L xs false 44 (.inl (lo_getf 47 10 8)) := lk_getf (ix := 81) (ci := 10) (k := 8) (C := RX10) (T := TX10) (N := 11) (by decide +kernel) rfl in_10 (by decide) tb_485
theorem k_134_47 (L : Nat) (xs : Nat → Int32) : ll_OK1 cX10_same RX10 (some .int) false ll_mN ll_mR ll_mK ll_cnt L xs false 47 (.inl (lo_getf 50 3 1)) := lk_getf (ix := 93) (ci := 3) (k := 1) (C := RX3) (T := TX3) (N := 5) (by decide +kernel) rfl in_3 (by decide) tb_490
theorem k_134_50 (L : Nat) (xs : Nat → Int32) : ll_OK1 cX10_same RX10 (some .int) false ll_mN ll_mR ll_mK ll_cnt L xs false 50 (.inl (lo_push 51 (.int 0))) := lk_iconst (n := 0) (by decide +kernel) (by decide)
theorem k_134_51 (L : Nat) (xs : Nat → Int32) : ll_OK1 cX10_same RX10 (some .int) false ll_mN ll_mR ll_mK ll_cnt L xs false 51 (.inl (lo_aald 52)) := lk_aald (by decide +kernel)
theorem k_134_52 (L : Nat) (xs : Nat → Int32) : ll_OK1 cX10_same RX10 (some .int) false ll_mN ll_mR ll_mK ll_cnt L xs false 52 (.inl (lo_aload 53 0)) := lk_aload_n (k := 0) (by decide +kernel) rfl
theorem k_134_53 (L : Nat) (xs : Nat → Int32) : ll_OK1 cX10_same RX10 (some .int) false ll_mN ll_mR ll_mK ll_cnt L xs false 53 (.inl (lo_getf 56 10 7)) := lk_getf (ix := 49) (ci := 10) (k := 7) (C := RX10) (T := TX10) (N := 11) (by decide +kernel) rfl in_10 (by decide) tb_461
theorem k_134_56 (L : Nat) (xs : Nat → Int32) : ll_OK1 cX10_same RX10 (some .int) false ll_mN ll_mR ll_mK ll_cnt L xs false 56 (.inr (.inl (32, 4, 59))) := ⟨rfl, by decide, by rw [mN_32, mK_32, mR_32]; exact lj_v 224 3 4 (RX4, TX4, 10) (by decide +kernel) tb_555 tb_556 tb_557 rfl rfl rfl rfl (by decide +kernel)⟩
theorem k_134_59 (L : Nat) (xs : Nat → Int32) : ll_OK1 cX10_same RX10 (some .int) false ll_mN ll_mR ll_mK ll_cnt L xs false 59 (.inl (lo_istore 60 2)) := lk_istore_n (k := 2) (by decide +kernel) rfl
theorem k_134_60 (L : Nat) (xs : Nat → Int32) : ll_OK1 cX10_same RX10 (some .int) false ll_mN ll_mR ll_mK ll_cnt L xs false 60 (.inl (lo_iload 61 1)) := lk_iload_n (k := 1) (by decide +kernel) rfl
theorem k_134_61 (L : Nat) (xs : Nat → Int32) : ll_OK1 cX10_same RX10 (some .int) false ll_mN ll_mR ll_mK ll_cnt L xs false 61 (.inl (lo_push 62 (.int 1))) := lk_iconst (n := 1) (by decide +kernel) (by decide)
theorem k_134_62 (L : Nat) (xs : Nat → Int32) : ll_OK1 cX10_same RX10 (some .int) false ll_mN ll_mR ll_mK ll_cnt L xs false 62 (.inl (lo_cmp 70 65 (fun x y => decide (x = y)))) := lk_icmp_eq (off := 8) (by decide +kernel) rfl
theorem k_134_65 (L : Nat) (xs : Nat → Int32) : ll_OK1 cX10_same RX10 (some .int) false ll_mN ll_mR ll_mK ll_cnt L xs false 65 (.inl (lo_iload 66 2)) := lk_iload_n (k := 2) (by decide +kernel) rfl
theorem k_134_66 (L : Nat) (xs : Nat → Int32) : ll_OK1 cX10_same RX10 (some .int) false ll_mN ll_mR ll_mK ll_cnt L xs false 66 (.inl (lo_push 67 (.int 1))) := lk_iconst (n := 1) (by decide +kernel) (by decide)
theorem k_134_67 (L : Nat) (xs : Nat → Int32) : ll_OK1 cX10_same RX10 (some .int) false ll_mN ll_mR ll_mK ll_cnt L xs false 67 (.inl (lo_cmp 72 70 (fun x y => decide (¬ x = y)))) := lk_icmp_ne (off := 5) (by decide +kernel) rfl
theorem k_134_70 (L : Nat) (xs : Nat → Int32) : ll_OK1 cX10_same RX10 (some .int) false ll_mN ll_mR ll_mK ll_cnt L xs false 70 (.inl (lo_push 71 (.int 0))) := lk_iconst (n := 0) (by decide +kernel) (by decide)
theorem k_134_71 (L : Nat) (xs : Nat → Int32) : ll_OK1 cX10_same RX10 (some .int) false ll_mN ll_mR ll_mK ll_cnt L xs false 71 (.inr (.inr 1)) := ⟨(fun h => by cases h), (fun _ => ⟨(by decide +kernel), rfl⟩), fun h => by cases h⟩
theorem k_134_72 (L : Nat) (xs : Nat → Int32) : ll_OK1 cX10_same RX10 (some .int) false ll_mN ll_mR ll_mK ll_cnt L xs false 72 (.inl (lo_iload 73 1)) := lk_iload_n (k := 1) (by decide +kernel) rfl
theorem k_134_73 (L : Nat) (xs : Nat → Int32) : ll_OK1 cX10_same RX10 (some .int) false ll_mN ll_mR ll_mK ll_cnt L xs false 73 (.inl (lo_push 74 (.int 2))) := lk_iconst (n := 2) (by decide +kernel) (by decide)
theorem k_134_74 (L : Nat) (xs : Nat → Int32) : ll_OK1 cX10_same RX10 (some .int) false ll_mN ll_mR ll_mK ll_cnt L xs false 74 (.inl (lo_cmp 82 77 (fun x y => decide (x = y)))) := lk_icmp_eq (off := 8) (by decide +kernel) rfl
theorem k_134_77 (L : Nat) (xs : Nat → Int32) : ll_OK1 cX10_same RX10 (some .int) false ll_mN ll_mR ll_mK ll_cnt L xs false 77 (.inl (lo_iload 78 2)) := lk_iload_n (k := 2) (by decide +kernel) rfl
theorem k_134_78 (L : Nat) (xs : Nat → Int32) : ll_OK1 cX10_same RX10 (some .int) false ll_mN ll_mR ll_mK ll_cnt L xs false 78 (.inl (lo_push 79 (.int 2))) := lk_iconst (n := 2) (by decide +kernel) (by decide)
theorem k_134_79 (L : Nat) (xs : Nat → Int32) : ll_OK1 cX10_same RX10 (some .int) false ll_mN ll_mR ll_mK ll_cnt L xs false 79 (.inl (lo_cmp 86 82 (fun x y => decide (¬ x = y)))) := lk_icmp_ne (off := 7) (by decide +kernel) rfl
theorem k_134_82 (L : Nat) (xs : Nat → Int32) : ll_OK1 cX10_same RX10 (some .int) false ll_mN ll_mR ll_mK ll_cnt L xs false 82 (.inl (lo_push 83 (.int 2))) := lk_iconst (n := 2) (by decide +kernel) (by decide)
theorem k_134_83 (L : Nat) (xs : Nat → Int32) : ll_OK1 cX10_same RX10 (some .int) false ll_mN ll_mR ll_mK ll_cnt L xs false 83 (.inl (lo_goto 87)) := lk_goto (off := 4) (by decide +kernel) rfl
theorem k_134_86 (L : Nat) (xs : Nat → Int32) : ll_OK1 cX10_same RX10 (some .int) false ll_mN ll_mR ll_mK ll_cnt L xs false 86 (.inl (lo_push 87 (.int 1))) := lk_iconst (n := 1) (by decide +kernel) (by decide)
theorem k_134_87 (L : Nat) (xs : Nat → Int32) : ll_OK1 cX10_same RX10 (some .int) false ll_mN ll_mR ll_mK ll_cnt L xs false 87 (.inr (.inr 1)) := ⟨(fun h => by cases h), (fun _ => ⟨(by decide +kernel), rfl⟩), fun h => by cases h⟩
theorem ok_134 (L : Nat) (xs : Nat → Int32) : ∀ q ∈ cd_134, ll_OK1 cX10_same RX10 (some .int) false ll_mN ll_mR ll_mK ll_cnt L xs false q.1 q.2 :=
  List.forall_mem_cons.mpr ⟨k_134_0 L xs, List.forall_mem_cons.mpr ⟨k_134_1 L xs, List.forall_mem_cons.mpr ⟨k_134_4 L xs, List.forall_mem_cons.mpr ⟨k_134_5 L xs, List.forall_mem_cons.mpr ⟨k_134_8 L xs, List.forall_mem_cons.mpr ⟨k_134_11 L xs, List.forall_mem_cons.mpr ⟨k_134_12 L xs, List.forall_mem_cons.mpr ⟨k_134_13 L xs, List.forall_mem_cons.mpr ⟨k_134_14 L xs, List.forall_mem_cons.mpr ⟨k_134_17 L xs, List.forall_mem_cons.mpr ⟨k_134_20 L xs, List.forall_mem_cons.mpr ⟨k_134_21 L xs, List.forall_mem_cons.mpr ⟨k_134_22 L xs, List.forall_mem_cons.mpr ⟨k_134_23 L xs, List.forall_mem_cons.mpr ⟨k_134_26 L xs, List.forall_mem_cons.mpr ⟨k_134_29 L xs, List.forall_mem_cons.mpr ⟨k_134_30 L xs, List.forall_mem_cons.mpr ⟨k_134_31 L xs, List.forall_mem_cons.mpr ⟨k_134_34 L xs, List.forall_mem_cons.mpr ⟨k_134_35 L xs, List.forall_mem_cons.mpr ⟨k_134_38 L xs, List.forall_mem_cons.mpr ⟨k_134_41 L xs, List.forall_mem_cons.mpr ⟨k_134_42 L xs, List.forall_mem_cons.mpr ⟨k_134_43 L xs, List.forall_mem_cons.mpr ⟨k_134_44 L xs, List.forall_mem_cons.mpr ⟨k_134_47 L xs, List.forall_mem_cons.mpr ⟨k_134_50 L xs, List.forall_mem_cons.mpr ⟨k_134_51 L xs, List.forall_mem_cons.mpr ⟨k_134_52 L xs, List.forall_mem_cons.mpr ⟨k_134_53 L xs, List.forall_mem_cons.mpr ⟨k_134_56 L xs, List.forall_mem_cons.mpr ⟨k_134_59 L xs, List.forall_mem_cons.mpr ⟨k_134_60 L xs, List.forall_mem_cons.mpr ⟨k_134_61 L xs, List.forall_mem_cons.mpr ⟨k_134_62 L xs, List.forall_mem_cons.mpr ⟨k_134_65 L xs, List.forall_mem_cons.mpr ⟨k_134_66 L xs, List.forall_mem_cons.mpr ⟨k_134_67 L xs, List.forall_mem_cons.mpr ⟨k_134_70 L xs, List.forall_mem_cons.mpr ⟨k_134_71 L xs, List.forall_mem_cons.mpr ⟨k_134_72 L xs, List.forall_mem_cons.mpr ⟨k_134_73 L xs, List.forall_mem_cons.mpr ⟨k_134_74 L xs, List.forall_mem_cons.mpr ⟨k_134_77 L xs, List.forall_mem_cons.mpr ⟨k_134_78 L xs, List.forall_mem_cons.mpr ⟨k_134_79 L xs, List.forall_mem_cons.mpr ⟨k_134_82 L xs, List.forall_mem_cons.mpr ⟨k_134_83 L xs, List.forall_mem_cons.mpr ⟨k_134_86 L xs, List.forall_mem_cons.mpr ⟨k_134_87 L xs, fun _ h => absurd h List.not_mem_nil⟩⟩⟩⟩⟩⟩⟩⟩⟩⟩⟩⟩⟩⟩⟩⟩⟩⟩⟩⟩⟩⟩⟩⟩⟩⟩⟩⟩⟩⟩⟩⟩⟩⟩⟩⟩⟩⟩⟩⟩⟩⟩⟩⟩⟩⟩⟩⟩⟩⟩
/-- InclusionProver.between.(II)I -/
def cd_135 : List (Nat × ll_O) := [
  (0, .inl (lo_iload 1 1)),
  (1, .inr (.inl (139, 1, 4))),
  (4, .inl (lo_if 14 7 (fun x => decide (x = 0)))),
  (7, .inl (lo_iload 8 2)),
  (8, .inr (.inl (139, 1, 11))),
  (11, .inl (lo_if 16 14 (fun x => decide (¬ x = 0)))),
  (14, .inl (lo_push 15 (.int (-1)))),
  (15, .inr (.inr 1)),
  (16, .inl (lo_aload 17 0)),
  (17, .inl (lo_getf 20 10 1)),
  (20, .inl (lo_aload 21 0)),
  (21, .inl (lo_iload 22 1)),
  (22, .inr (.inl (146, 2, 25))),
  (25, .inl (lo_aload 26 0)),
  (26, .inl (lo_getf 29 10 6)),
  (29, .inl (lo_push 30 (.int 0))),
  (30, .inl (lo_aald 31)),
  (31, .inr (.inl (61, 3, 34))),
  (34, .inl (lo_aload 35 0)),
  (35, .inl (lo_getf 38 10 1)),
  (38, .inl (lo_aload 39 0)),
  (39, .inl (lo_iload 40 2)),
  (40, .inr (.inl (146, 2, 43))),
  (43, .inl (lo_aload 44 0)),
  (44, .inl (lo_getf 47 10 6)),
  (47, .inl (lo_push 48 (.int 1))),
  (48, .inl (lo_aald 49)),
  (49, .inr (.inl (61, 3, 52))),
  (52, .inl (lo_aload 53 0)),
  (53, .inl (lo_getf 56 10 2)),
  (56, .inl (lo_aload 57 0)),
  (57, .inl (lo_getf 60 10 6)),
  (60, .inl (lo_push 61 (.int 0))),
  (61, .inl (lo_aald 62)),
  (62, .inl (lo_aload 63 0)),
  (63, .inl (lo_getf 66 10 6)),
  (66, .inl (lo_push 67 (.int 1))),
  (67, .inl (lo_aald 68)),
  (68, .inl (lo_aload 69 0)),
  (69, .inl (lo_getf 72 10 7)),
  (72, .inr (.inl (32, 4, 75))),
  (75, .inr (.inr 1))]
theorem k_135_0 (L : Nat) (xs : Nat → Int32) : ll_OK1 cX10_between RX10 (some .int) false ll_mN ll_mR ll_mK ll_cnt L xs false 0 (.inl (lo_iload 1 1)) := lk_iload_n (k := 1) (by decide +kernel) rfl
theorem k_135_1 (L : Nat) (xs : Nat → Int32) : ll_OK1 cX10_between RX10 (some .int) false ll_mN ll_mR ll_mK ll_cnt L xs false 1 (.inr (.inl (139, 1, 4))) := ⟨rfl, by decide, by rw [mN_139, mK_139, mR_139]; exact lj_s 159 (by decide +kernel) tb_520 tb_521 (by decide +kernel)⟩
theorem k_135_4 (L : Nat) (xs : Nat → Int32) : ll_OK1 cX10_between RX10 (some .int) false ll_mN ll_mR ll_mK ll_cnt L xs false 4 (.inl (lo_if 14 7 (fun x => decide (x = 0)))) := lk_if_eq (off := 10) (by decide +kernel) rfl
theorem k_135_7 (L : Nat) (xs : Nat → Int32) : ll_OK1 cX10_between RX10 (some .int) false ll_mN ll_mR ll_mK ll_cnt L xs false 7 (.inl (lo_iload 8 2)) := lk_iload_n (k := 2) (by decide +kernel) rfl
theorem k_135_8 (L : Nat) (xs : Nat → Int32) : ll_OK1 cX10_between RX10 (some .int) false ll_mN ll_mR ll_mK ll_cnt L xs false 8 (.inr (.inl (139, 1, 11))) := ⟨rfl, by decide, by rw [mN_139, mK_139, mR_139]; exact lj_s 159 (by decide +kernel) tb_520 tb_521 (by decide +kernel)⟩
theorem k_135_11 (L : Nat) (xs : Nat → Int32) : ll_OK1 cX10_between RX10 (some .int) false ll_mN ll_mR ll_mK ll_cnt L xs false 11 (.inl (lo_if 16 14 (fun x => decide (¬ x = 0)))) := lk_if_ne (off := 5) (by decide +kernel) rfl
theorem k_135_14 (L : Nat) (xs : Nat → Int32) : ll_OK1 cX10_between RX10 (some .int) false ll_mN ll_mR ll_mK ll_cnt L xs false 14 (.inl (lo_push 15 (.int (-1)))) := lk_iconst (n := (-1)) (by decide +kernel) (by decide)
theorem k_135_15 (L : Nat) (xs : Nat → Int32) : ll_OK1 cX10_between RX10 (some .int) false ll_mN ll_mR ll_mK ll_cnt L xs false 15 (.inr (.inr 1)) := ⟨(fun h => by cases h), (fun _ => ⟨(by decide +kernel), rfl⟩), fun h => by cases h⟩
theorem k_135_16 (L : Nat) (xs : Nat → Int32) : ll_OK1 cX10_between RX10 (some .int) false ll_mN ll_mR ll_mK ll_cnt L xs false 16 (.inl (lo_aload 17 0)) := lk_aload_n (k := 0) (by decide +kernel) rfl
theorem k_135_17 (L : Nat) (xs : Nat → Int32) : ll_OK1 cX10_between RX10 (some .int) false ll_mN ll_mR ll_mK ll_cnt L xs false 17 (.inl (lo_getf 20 10 1)) := lk_getf (ix := 35) (ci := 10) (k := 1) (C := RX10) (T := TX10) (N := 11) (by decide +kernel) rfl in_10 (by decide) tb_456
theorem k_135_20 (L : Nat) (xs : Nat → Int32) : ll_OK1 cX10_between RX10 (some .int) false ll_mN ll_mR ll_mK ll_cnt L xs false 20 (.inl (lo_aload 21 0)) := lk_aload_n (k := 0) (by decide +kernel) rfl
theorem k_135_21 (L : Nat) (xs : Nat → Int32) : ll_OK1 cX10_between RX10 (some .int) false ll_mN ll_mR ll_mK ll_cnt L xs false 21 (.inl (lo_iload 22 1)) := lk_iload_n (k := 1) (by decide +kernel) rfl
theorem k_135_22 (L : Nat) (xs : Nat → Int32) : ll_OK1 cX10_between RX10 (some .int) false ll_mN ll_mR ll_mK ll_cnt L xs false 22 (.inr (.inl (146, 2, 25))) := ⟨rfl, by decide, by rw [mN_146, mK_146, mR_146]; exact lj_v 298 1 10 (RX10, TX10, 11) (by decide +kernel) tb_592 tb_593 tb_594 rfl rfl rfl rfl (by decide +kernel)⟩
theorem k_135_25 (L : Nat) (xs : Nat → Int32) : ll_OK1 cX10_between RX10 (some .int) false ll_mN ll_mR ll_mK ll_cnt L xs false 25 (.inl (lo_aload 26 0)) := lk_aload_n (k := 0) (by decide +kernel) rfl
theorem k_135_26 (L : Nat) (xs : Nat → Int32) : ll_OK1 cX10_between RX10 (some .int) false ll_mN ll_mR ll_mK ll_cnt L xs false 26 (.inl (lo_getf 29 10 6)) := lk_getf (ix := 42) (ci := 10) (k := 6) (C := RX10) (T := TX10) (N := 11) (by decide +kernel) rfl in_10 (by decide) tb_459
theorem k_135_29 (L : Nat) (xs : Nat → Int32) : ll_OK1 cX10_between RX10 (some .int) false ll_mN ll_mR ll_mK ll_cnt L xs false 29 (.inl (lo_push 30 (.int 0))) := lk_iconst (n := 0) (by decide +kernel) (by decide)
theorem k_135_30 (L : Nat) (xs : Nat → Int32) : ll_OK1 cX10_between RX10 (some .int) false ll_mN ll_mR ll_mK ll_cnt L xs false 30 (.inl (lo_aald 31)) := lk_aald (by decide +kernel)
theorem k_135_31 (L : Nat) (xs : Nat → Int32) : ll_OK1 cX10_between RX10 (some .int) false ll_mN ll_mR ll_mK ll_cnt L xs false 31 (.inr (.inl (61, 3, 34))) := ⟨rfl, by decide, by rw [mN_61, mK_61, mR_61]; exact lj_v 96 2 6 (RX6, TX6, 8) (by decide +kernel) tb_491 tb_492 tb_493 rfl rfl rfl rfl (by decide +kernel)⟩
theorem k_135_34 (L : Nat) (xs : Nat → Int32) : ll_OK1 cX10_between RX10 (some .int) false ll_mN ll_mR ll_mK ll_cnt L xs false 34 (.inl (lo_aload 35 0)) := lk_aload_n (k := 0) (by decide +kernel) rfl
theorem k_135_35 (L : Nat) (xs : Nat → Int32) : ll_OK1 cX10_between RX10 (some .int) false ll_mN ll_mR ll_mK ll_cnt L xs false 35 (.inl (lo_getf 38 10 1)) := lk_getf (ix := 35) (ci := 10) (k := 1) (C := RX10) (T := TX10) (N := 11) (by decide +kernel) rfl in_10 (by decide) tb_456
theorem k_135_38 (L : Nat) (xs : Nat → Int32) : ll_OK1 cX10_between RX10 (some .int) false ll_mN ll_mR ll_mK ll_cnt L xs false 38 (.inl (lo_aload 39 0)) := lk_aload_n (k := 0) (by decide +kernel) rfl
theorem k_135_39 (L : Nat) (xs : Nat → Int32) : ll_OK1 cX10_between RX10 (some .int) false ll_mN ll_mR ll_mK ll_cnt L xs false 39 (.inl (lo_iload 40 2)) := lk_iload_n (k := 2) (by decide +kernel) rfl
theorem k_135_40 (L : Nat) (xs : Nat → Int32) : ll_OK1 cX10_between RX10 (some .int) false ll_mN ll_mR ll_mK ll_cnt L xs false 40 (.inr (.inl (146, 2, 43))) := ⟨rfl, by decide, by rw [mN_146, mK_146, mR_146]; exact lj_v 298 1 10 (RX10, TX10, 11) (by decide +kernel) tb_592 tb_593 tb_594 rfl rfl rfl rfl (by decide +kernel)⟩
theorem k_135_43 (L : Nat) (xs : Nat → Int32) : ll_OK1 cX10_between RX10 (some .int) false ll_mN ll_mR ll_mK ll_cnt L xs false 43 (.inl (lo_aload 44 0)) := lk_aload_n (k := 0) (by decide +kernel) rfl
theorem k_135_44 (L : Nat) (xs : Nat → Int32) : ll_OK1 cX10_between RX10 (some .int) false ll_mN ll_mR ll_mK ll_cnt L xs false 44 (.inl (lo_getf 47 10 6)) := lk_getf (ix := 42) (ci := 10) (k := 6) (C := RX10) (T := TX10) (N := 11) (by decide +kernel) rfl in_10 (by decide) tb_459
theorem k_135_47 (L : Nat) (xs : Nat → Int32) : ll_OK1 cX10_between RX10 (some .int) false ll_mN ll_mR ll_mK ll_cnt L xs false 47 (.inl (lo_push 48 (.int 1))) := lk_iconst (n := 1) (by decide +kernel) (by decide)
theorem k_135_48 (L : Nat) (xs : Nat → Int32) : ll_OK1 cX10_between RX10 (some .int) false ll_mN ll_mR ll_mK ll_cnt L xs false 48 (.inl (lo_aald 49)) := lk_aald (by decide +kernel)
theorem k_135_49 (L : Nat) (xs : Nat → Int32) : ll_OK1 cX10_between RX10 (some .int) false ll_mN ll_mR ll_mK ll_cnt L xs false 49 (.inr (.inl (61, 3, 52))) := ⟨rfl, by decide, by rw [mN_61, mK_61, mR_61]; exact lj_v 96 2 6 (RX6, TX6, 8) (by decide +kernel) tb_491 tb_492 tb_493 rfl rfl rfl rfl (by decide +kernel)⟩
theorem k_135_52 (L : Nat) (xs : Nat → Int32) : ll_OK1 cX10_between RX10 (some .int) false ll_mN ll_mR ll_mK ll_cnt L xs false 52 (.inl (lo_aload 53 0)) := lk_aload_n (k := 0) (by decide +kernel) rfl
theorem k_135_53 (L : Nat) (xs : Nat → Int32) : ll_OK1 cX10_between RX10 (some .int) false ll_mN ll_mR ll_mK ll_cnt L xs false 53 (.inl (lo_getf 56 10 2)) := lk_getf (ix := 58) (ci := 10) (k := 2) (C := RX10) (T := TX10) (N := 11) (by decide +kernel) rfl in_10 (by decide) tb_467
theorem k_135_56 (L : Nat) (xs : Nat → Int32) : ll_OK1 cX10_between RX10 (some .int) false ll_mN ll_mR ll_mK ll_cnt L xs false 56 (.inl (lo_aload 57 0)) := lk_aload_n (k := 0) (by decide +kernel) rfl
theorem k_135_57 (L : Nat) (xs : Nat → Int32) : ll_OK1 cX10_between RX10 (some .int) false ll_mN ll_mR ll_mK ll_cnt L xs false 57 (.inl (lo_getf 60 10 6)) := lk_getf (ix := 42) (ci := 10) (k := 6) (C := RX10) (T := TX10) (N := 11) (by decide +kernel) rfl in_10 (by decide) tb_459
theorem k_135_60 (L : Nat) (xs : Nat → Int32) : ll_OK1 cX10_between RX10 (some .int) false ll_mN ll_mR ll_mK ll_cnt L xs false 60 (.inl (lo_push 61 (.int 0))) := lk_iconst (n := 0) (by decide +kernel) (by decide)
theorem k_135_61 (L : Nat) (xs : Nat → Int32) : ll_OK1 cX10_between RX10 (some .int) false ll_mN ll_mR ll_mK ll_cnt L xs false 61 (.inl (lo_aald 62)) := lk_aald (by decide +kernel)
theorem k_135_62 (L : Nat) (xs : Nat → Int32) : ll_OK1 cX10_between RX10 (some .int) false ll_mN ll_mR ll_mK ll_cnt L xs false 62 (.inl (lo_aload 63 0)) := lk_aload_n (k := 0) (by decide +kernel) rfl
theorem k_135_63 (L : Nat) (xs : Nat → Int32) : ll_OK1 cX10_between RX10 (some .int) false ll_mN ll_mR ll_mK ll_cnt L xs false 63 (.inl (lo_getf 66 10 6)) := lk_getf (ix := 42) (ci := 10) (k := 6) (C := RX10) (T := TX10) (N := 11) (by decide +kernel) rfl in_10 (by decide) tb_459
theorem k_135_66 (L : Nat) (xs : Nat → Int32) : ll_OK1 cX10_between RX10 (some .int) false ll_mN ll_mR ll_mK ll_cnt L xs false 66 (.inl (lo_push 67 (.int 1))) := lk_iconst (n := 1) (by decide +kernel) (by decide)
theorem k_135_67 (L : Nat) (xs : Nat → Int32) : ll_OK1 cX10_between RX10 (some .int) false ll_mN ll_mR ll_mK ll_cnt L xs false 67 (.inl (lo_aald 68)) := lk_aald (by decide +kernel)
theorem k_135_68 (L : Nat) (xs : Nat → Int32) : ll_OK1 cX10_between RX10 (some .int) false ll_mN ll_mR ll_mK ll_cnt L xs false 68 (.inl (lo_aload 69 0)) := lk_aload_n (k := 0) (by decide +kernel) rfl
theorem k_135_69 (L : Nat) (xs : Nat → Int32) : ll_OK1 cX10_between RX10 (some .int) false ll_mN ll_mR ll_mK ll_cnt L xs false 69 (.inl (lo_getf 72 10 7)) := lk_getf (ix := 49) (ci := 10) (k := 7) (C := RX10) (T := TX10) (N := 11) (by decide +kernel) rfl in_10 (by decide) tb_461
theorem k_135_72 (L : Nat) (xs : Nat → Int32) : ll_OK1 cX10_between RX10 (some .int) false ll_mN ll_mR ll_mK ll_cnt L xs false 72 (.inr (.inl (32, 4, 75))) := ⟨rfl, by decide, by rw [mN_32, mK_32, mR_32]; exact lj_v 224 3 4 (RX4, TX4, 10) (by decide +kernel) tb_555 tb_556 tb_557 rfl rfl rfl rfl (by decide +kernel)⟩
theorem k_135_75 (L : Nat) (xs : Nat → Int32) : ll_OK1 cX10_between RX10 (some .int) false ll_mN ll_mR ll_mK ll_cnt L xs false 75 (.inr (.inr 1)) := ⟨(fun h => by cases h), (fun _ => ⟨(by decide +kernel), rfl⟩), fun h => by cases h⟩
theorem ok_135 (L : Nat) (xs : Nat → Int32) : ∀ q ∈ cd_135, ll_OK1 cX10_between RX10 (some .int) false ll_mN ll_mR ll_mK ll_cnt L xs false q.1 q.2 :=
  List.forall_mem_cons.mpr ⟨k_135_0 L xs, List.forall_mem_cons.mpr ⟨k_135_1 L xs, List.forall_mem_cons.mpr ⟨k_135_4 L xs, List.forall_mem_cons.mpr ⟨k_135_7 L xs, List.forall_mem_cons.mpr ⟨k_135_8 L xs, List.forall_mem_cons.mpr ⟨k_135_11 L xs, List.forall_mem_cons.mpr ⟨k_135_14 L xs, List.forall_mem_cons.mpr ⟨k_135_15 L xs, List.forall_mem_cons.mpr ⟨k_135_16 L xs, List.forall_mem_cons.mpr ⟨k_135_17 L xs, List.forall_mem_cons.mpr ⟨k_135_20 L xs, List.forall_mem_cons.mpr ⟨k_135_21 L xs, List.forall_mem_cons.mpr ⟨k_135_22 L xs, List.forall_mem_cons.mpr ⟨k_135_25 L xs, List.forall_mem_cons.mpr ⟨k_135_26 L xs, List.forall_mem_cons.mpr ⟨k_135_29 L xs, List.forall_mem_cons.mpr ⟨k_135_30 L xs, List.forall_mem_cons.mpr ⟨k_135_31 L xs, List.forall_mem_cons.mpr ⟨k_135_34 L xs, List.forall_mem_cons.mpr ⟨k_135_35 L xs, List.forall_mem_cons.mpr ⟨k_135_38 L xs, List.forall_mem_cons.mpr ⟨k_135_39 L xs, List.forall_mem_cons.mpr ⟨k_135_40 L xs, List.forall_mem_cons.mpr ⟨k_135_43 L xs, List.forall_mem_cons.mpr ⟨k_135_44 L xs, List.forall_mem_cons.mpr ⟨k_135_47 L xs, List.forall_mem_cons.mpr ⟨k_135_48 L xs, List.forall_mem_cons.mpr ⟨k_135_49 L xs, List.forall_mem_cons.mpr ⟨k_135_52 L xs, List.forall_mem_cons.mpr ⟨k_135_53 L xs, List.forall_mem_cons.mpr ⟨k_135_56 L xs, List.forall_mem_cons.mpr ⟨k_135_57 L xs, List.forall_mem_cons.mpr ⟨k_135_60 L xs, List.forall_mem_cons.mpr ⟨k_135_61 L xs, List.forall_mem_cons.mpr ⟨k_135_62 L xs, List.forall_mem_cons.mpr ⟨k_135_63 L xs, List.forall_mem_cons.mpr ⟨k_135_66 L xs, List.forall_mem_cons.mpr ⟨k_135_67 L xs, List.forall_mem_cons.mpr ⟨k_135_68 L xs, List.forall_mem_cons.mpr ⟨k_135_69 L xs, List.forall_mem_cons.mpr ⟨k_135_72 L xs, List.forall_mem_cons.mpr ⟨k_135_75 L xs, fun _ h => absurd h List.not_mem_nil⟩⟩⟩⟩⟩⟩⟩⟩⟩⟩⟩⟩⟩⟩⟩⟩⟩⟩⟩⟩⟩⟩⟩⟩⟩⟩⟩⟩⟩⟩⟩⟩⟩⟩⟩⟩⟩⟩⟩⟩⟩⟩
