/-! CODE TABLES, and that each row is the machine's (written by wip/whole/gen.py) -/
/-- InclusionProver$Kernel.<init>.(LInclusionProver$Side;LInclusionProver$Side;LInclusionProver$Lines;)V -/
def cd_0 : List (Nat × ll_O) := [
  (0, .inl (lo_aload 1 0)),
  (1, .inl (lo_init 4)),
  (4, .inl (lo_aload 5 0)),
  (5, .inl (lo_push 7 (.int (-2)))),
  (7, .inl (lo_putf 10 0 3 0)),
  (10, .inl (lo_aload 11 0)),
  (11, .inl (lo_push 12 (.int (-1)))),
  (12, .inl (lo_putf 15 0 5 0)),
  (15, .inl (lo_aload 16 0)),
  (16, .inl (lo_push 17 (.int (-1)))),
  (17, .inl (lo_putf 20 0 6 0)),
  (20, .inl (lo_aload 21 0)),
  (21, .inl (lo_aload 22 1)),
  (22, .inl (lo_putf 25 0 0 2)),
  (25, .inl (lo_aload 26 0)),
  (26, .inl (lo_aload 27 2)),
  (27, .inl (lo_putf 30 0 1 2)),
  (30, .inl (lo_aload 31 0)),
  (31, .inl (lo_aload 32 3)),
  (32, .inl (lo_putf 35 0 2 2)),
  (35, .inr (.inr 0))]
theorem k_0_0 (L : Nat) (xs : Nat → Int32) : ll_OK1 cX0_init RX0 none true ll_mN ll_mR ll_mK ll_cnt L xs false 0 (.inl (lo_aload 1 0)) := lk_aload_n (k := 0) (by decide +kernel) rfl
theorem k_0_1 (L : Nat) (xs : Nat → Int32) : ll_OK1 cX0_init RX0 none true ll_mN ll_mR ll_mK ll_cnt L xs false 1 (.inl (lo_init 4)) := lk_init (ix := 3) (by decide +kernel) tb_0 tb_1 tb_2
theorem k_0_4 (L : Nat) (xs : Nat → Int32) : ll_OK1 cX0_init RX0 none true ll_mN ll_mR ll_mK ll_cnt L xs false 4 (.inl (lo_aload 5 0)) := lk_aload_n (k := 0) (by decide +kernel) rfl
theorem k_0_5 (L : Nat) (xs : Nat → Int32) : ll_OK1 cX0_init RX0 none true ll_mN ll_mR ll_mK ll_cnt L xs false 5 (.inl (lo_push 7 (.int (-2)))) := lk_bipush (n := (-2)) (by decide +kernel) (by decide)
theorem k_0_7 (L : Nat) (xs : Nat → Int32) : ll_OK1 cX0_init RX0 none true ll_mN ll_mR ll_mK ll_cnt L xs false 7 (.inl (lo_putf 10 0 3 0)) := lk_putf (ix := 9) (ci := 0) (k := 3) (C := RX0) (T := TX0) (N := 7) (ty0 := tyX0) (by decide +kernel) rfl in_0 tyX0_ok nmX0 (by decide) tb_3 (fun B adr v w h1 h2 => ll_fit_int (B := B) (adr := adr) h1 h2) (Or.inl rfl)
theorem k_0_10 (L : Nat) (xs : Nat → Int32) : ll_OK1 cX0_init RX0 none true ll_mN ll_mR ll_mK ll_cnt L xs false 10 (.inl (lo_aload 11 0)) := lk_aload_n (k := 0) (by decide +kernel) rfl
theorem k_0_11 (L : Nat) (xs : Nat → Int32) : ll_OK1 cX0_init RX0 none true ll_mN ll_mR ll_mK ll_cnt L xs false 11 (.inl (lo_push 12 (.int (-1)))) := lk_iconst (n := (-1)) (by decide +kernel) (by decide)
theorem k_0_12 (L : Nat) (xs : Nat → Int32) : ll_OK1 cX0_init RX0 none true ll_mN ll_mR ll_mK ll_cnt L xs false 12 (.inl (lo_putf 15 0 5 0)) := lk_putf (ix := 15) (ci := 0) (k := 5) (C := RX0) (T := TX0) (N := 7) (ty0 := tyX0) (by decide +kernel) rfl in_0 tyX0_ok nmX0 (by decide) tb_4 (fun B adr v w h1 h2 => ll_fit_int (B := B) (adr := adr) h1 h2) (Or.inl rfl)
theorem k_0_15 (L : Nat) (xs : Nat → Int32) : ll_OK1 cX0_init RX0 none true ll_mN ll_mR ll_mK ll_cnt L xs false 15 (.inl (lo_aload 16 0)) := lk_aload_n (k := 0) (by decide +kernel) rfl
theorem k_0_16 (L : Nat) (xs : Nat → Int32) : ll_OK1 cX0_init RX0 none true ll_mN ll_mR ll_mK ll_cnt L xs false 16 (.inl (lo_push 17 (.int (-1)))) := lk_iconst (n := (-1)) (by decide +kernel) (by decide)
theorem k_0_17 (L : Nat) (xs : Nat → Int32) : ll_OK1 cX0_init RX0 none true ll_mN ll_mR ll_mK ll_cnt L xs false 17 (.inl (lo_putf 20 0 6 0)) := lk_putf (ix := 18) (ci := 0) (k := 6) (C := RX0) (T := TX0) (N := 7) (ty0 := tyX0) (by decide +kernel) rfl in_0 tyX0_ok nmX0 (by decide) tb_5 (fun B adr v w h1 h2 => ll_fit_int (B := B) (adr := adr) h1 h2) (Or.inl rfl)
theorem k_0_20 (L : Nat) (xs : Nat → Int32) : ll_OK1 cX0_init RX0 none true ll_mN ll_mR ll_mK ll_cnt L xs false 20 (.inl (lo_aload 21 0)) := lk_aload_n (k := 0) (by decide +kernel) rfl
theorem k_0_21 (L : Nat) (xs : Nat → Int32) : ll_OK1 cX0_init RX0 none true ll_mN ll_mR ll_mK ll_cnt L xs false 21 (.inl (lo_aload 22 1)) := lk_aload_n (k := 1) (by decide +kernel) rfl
theorem k_0_22 (L : Nat) (xs : Nat → Int32) : ll_OK1 cX0_init RX0 none true ll_mN ll_mR ll_mK ll_cnt L xs false 22 (.inl (lo_putf 25 0 0 2)) := lk_putf (ix := 21) (ci := 0) (k := 0) (C := RX0) (T := TX0) (N := 7) (ty0 := tyX0) (by decide +kernel) rfl in_0 tyX0_ok nmX0 (by decide) tb_6 (fun B adr v w h1 h2 => ll_fit_obj (B := B) (adr := adr) h1 h2) (Or.inl rfl)
theorem k_0_25 (L : Nat) (xs : Nat → Int32) : ll_OK1 cX0_init RX0 none true ll_mN ll_mR ll_mK ll_cnt L xs false 25 (.inl (lo_aload 26 0)) := lk_aload_n (k := 0) (by decide +kernel) rfl
theorem k_0_26 (L : Nat) (xs : Nat → Int32) : ll_OK1 cX0_init RX0 none true ll_mN ll_mR ll_mK ll_cnt L xs false 26 (.inl (lo_aload 27 2)) := lk_aload_n (k := 2) (by decide +kernel) rfl
theorem k_0_27 (L : Nat) (xs : Nat → Int32) : ll_OK1 cX0_init RX0 none true ll_mN ll_mR ll_mK ll_cnt L xs false 27 (.inl (lo_putf 30 0 1 2)) := lk_putf (ix := 25) (ci := 0) (k := 1) (C := RX0) (T := TX0) (N := 7) (ty0 := tyX0) (by decide +kernel) rfl in_0 tyX0_ok nmX0 (by decide) tb_7 (fun B adr v w h1 h2 => ll_fit_obj (B := B) (adr := adr) h1 h2) (Or.inl rfl)
theorem k_0_30 (L : Nat) (xs : Nat → Int32) : ll_OK1 cX0_init RX0 none true ll_mN ll_mR ll_mK ll_cnt L xs false 30 (.inl (lo_aload 31 0)) := lk_aload_n (k := 0) (by decide +kernel) rfl
theorem k_0_31 (L : Nat) (xs : Nat → Int32) : ll_OK1 cX0_init RX0 none true ll_mN ll_mR ll_mK ll_cnt L xs false 31 (.inl (lo_aload 32 3)) := lk_aload_n (k := 3) (by decide +kernel) rfl
theorem k_0_32 (L : Nat) (xs : Nat → Int32) : ll_OK1 cX0_init RX0 none true ll_mN ll_mR ll_mK ll_cnt L xs false 32 (.inl (lo_putf 35 0 2 2)) := lk_putf (ix := 28) (ci := 0) (k := 2) (C := RX0) (T := TX0) (N := 7) (ty0 := tyX0) (by decide +kernel) rfl in_0 tyX0_ok nmX0 (by decide) tb_8 (fun B adr v w h1 h2 => ll_fit_obj (B := B) (adr := adr) h1 h2) (Or.inl rfl)
theorem k_0_35 (L : Nat) (xs : Nat → Int32) : ll_OK1 cX0_init RX0 none true ll_mN ll_mR ll_mK ll_cnt L xs false 35 (.inr (.inr 0)) := ⟨fun _ => ⟨(by decide +kernel), rfl⟩, (fun h => by cases h), fun h => by cases h⟩
theorem ok_0 (L : Nat) (xs : Nat → Int32) : ∀ q ∈ cd_0, ll_OK1 cX0_init RX0 none true ll_mN ll_mR ll_mK ll_cnt L xs false q.1 q.2 :=
  List.forall_mem_cons.mpr ⟨k_0_0 L xs, List.forall_mem_cons.mpr ⟨k_0_1 L xs, List.forall_mem_cons.mpr ⟨k_0_4 L xs, List.forall_mem_cons.mpr ⟨k_0_5 L xs, List.forall_mem_cons.mpr ⟨k_0_7 L xs, List.forall_mem_cons.mpr ⟨k_0_10 L xs, List.forall_mem_cons.mpr ⟨k_0_11 L xs, List.forall_mem_cons.mpr ⟨k_0_12 L xs, List.forall_mem_cons.mpr ⟨k_0_15 L xs, List.forall_mem_cons.mpr ⟨k_0_16 L xs, List.forall_mem_cons.mpr ⟨k_0_17 L xs, List.forall_mem_cons.mpr ⟨k_0_20 L xs, List.forall_mem_cons.mpr ⟨k_0_21 L xs, List.forall_mem_cons.mpr ⟨k_0_22 L xs, List.forall_mem_cons.mpr ⟨k_0_25 L xs, List.forall_mem_cons.mpr ⟨k_0_26 L xs, List.forall_mem_cons.mpr ⟨k_0_27 L xs, List.forall_mem_cons.mpr ⟨k_0_30 L xs, List.forall_mem_cons.mpr ⟨k_0_31 L xs, List.forall_mem_cons.mpr ⟨k_0_32 L xs, List.forall_mem_cons.mpr ⟨k_0_35 L xs, fun _ h => absurd h List.not_mem_nil⟩⟩⟩⟩⟩⟩⟩⟩⟩⟩⟩⟩⟩⟩⟩⟩⟩⟩⟩⟩⟩
/-- InclusionProver$Kernel.look.(LInclusionProver$Side;LInclusionProver$Side;LInclusionProver$Lines;)V -/
def cd_1 : List (Nat × ll_O) := [
  (0, .inl (lo_aload 1 0)),
  (1, .inl (lo_aload 2 1)),
  (2, .inl (lo_putf 5 0 0 2)),
  (5, .inl (lo_aload 6 0)),
  (6, .inl (lo_aload 7 2)),
  (7, .inl (lo_putf 10 0 1 2)),
  (10, .inl (lo_aload 11 0)),
  (11, .inl (lo_aload 12 3)),
  (12, .inl (lo_putf 15 0 2 2)),
  (15, .inl (lo_aload 16 0)),
  (16, .inl (lo_push 17 (.int (-1)))),
  (17, .inl (lo_putf 20 0 5 0)),
  (20, .inl (lo_aload 21 0)),
  (21, .inl (lo_push 22 (.int (-1)))),
  (22, .inl (lo_putf 25 0 6 0)),
  (25, .inl (lo_aload 26 0)),
  (26, .inl (lo_push 27 (.int 0))),
  (27, .inl (lo_putf 30 0 4 0)),
  (30, .inl (lo_aload 31 0)),
  (31, .inl (lo_aload 32 0)),
  (32, .inl (lo_getf 35 0 2)),
  (35, .inl (lo_getf 38 1 8)),
  (38, .inl (lo_if 46 41 (fun x => decide (¬ x = 0)))),
  (41, .inl (lo_push 43 (.int (-2)))),
  (43, .inl (lo_goto 47)),
  (46, .inl (lo_push 47 (.int (-1)))),
  (47, .inl (lo_putf 50 0 3 0)),
  (50, .inl (lo_push 51 (.int 0))),
  (51, .inl (lo_istore 53 4)),
  (53, .inl (lo_iload 55 4)),
  (55, .inl (lo_aload 56 0)),
  (56, .inl (lo_getf 59 0 2)),
  (59, .inl (lo_getf 62 1 8)),
  (62, .inl (lo_cmp 102 65 (fun x y => decide (y ≤ x)))),
  (65, .inl (lo_aload 66 0)),
  (66, .inl (lo_getf 69 0 3)),
  (69, .inl (lo_push 70 (.int (-1)))),
  (70, .inl (lo_cmp 102 73 (fun x y => decide (¬ x = y)))),
  (73, .inl (lo_aload 74 0)),
  (74, .inl (lo_aload 75 0)),
  (75, .inl (lo_iload 77 4)),
  (77, .inr (.inl (3, 2, 80))),
  (80, .inl (lo_putf 83 0 4 0)),
  (83, .inl (lo_aload 84 0)),
  (84, .inl (lo_getf 87 0 4)),
  (87, .inl (lo_if 96 90 (fun x => decide (x = 0)))),
  (90, .inl (lo_aload 91 0)),
  (91, .inl (lo_iload 93 4)),
  (93, .inl (lo_putf 96 0 3 0)),
  (96, .inl (lo_iinc 99 4 1)),
  (99, .inl (lo_goto 53)),
  (102, .inl (lo_aload 103 0)),
  (103, .inl (lo_getf 106 0 3)),
  (106, .inl (lo_push 107 (.int (-1)))),
  (107, .inl (lo_cmp 128 110 (fun x y => decide (¬ x = y)))),
  (110, .inl (lo_aload 111 0)),
  (111, .inr (.inl (2, 1, 114))),
  (114, .inl (lo_if 128 117 (fun x => decide (¬ x = 0)))),
  (117, .inl (lo_aload 118 0)),
  (118, .inl (lo_push 119 (.int 0))),
  (119, .inl (lo_putf 122 0 3 0)),
  (122, .inl (lo_aload 123 0)),
  (123, .inl (lo_push 125 (.int 6))),
  (125, .inl (lo_putf 128 0 4 0)),
  (128, .inr (.inr 0))]
theorem k_1_0 (L : Nat) (xs : Nat → Int32) : ll_OK1 cX0_look RX0 none false ll_mN ll_mR ll_mK ll_cnt L xs false 0 (.inl (lo_aload 1 0)) := lk_aload_n (k := 0) (by decide +kernel) rfl
theorem k_1_1 (L : Nat) (xs : Nat → Int32) : ll_OK1 cX0_look RX0 none false ll_mN ll_mR ll_mK ll_cnt L xs false 1 (.inl (lo_aload 2 1)) := lk_aload_n (k := 1) (by decide +kernel) rfl
theorem k_1_2 (L : Nat) (xs : Nat → Int32) : ll_OK1 cX0_look RX0 none false ll_mN ll_mR ll_mK ll_cnt L xs false 2 (.inl (lo_putf 5 0 0 2)) := lk_putf (ix := 21) (ci := 0) (k := 0) (C := RX0) (T := TX0) (N := 7) (ty0 := tyX0) (by decide +kernel) rfl in_0 tyX0_ok nmX0 (by decide) tb_6 (fun B adr v w h1 h2 => ll_fit_obj (B := B) (adr := adr) h1 h2) (Or.inl rfl)
theorem k_1_5 (L : Nat) (xs : Nat → Int32) : ll_OK1 cX0_look RX0 none false ll_mN ll_mR ll_mK ll_cnt L xs false 5 (.inl (lo_aload 6 0)) := lk_aload_n (k := 0) (by decide +kernel) rfl
theorem k_1_6 (L : Nat) (xs : Nat → Int32) : ll_OK1 cX0_look RX0 none false ll_mN ll_mR ll_mK ll_cnt L xs false 6 (.inl (lo_aload 7 2)) := lk_aload_n (k := 2) (by decide +kernel) rfl
theorem k_1_7 (L : Nat) (xs : Nat → Int32) : ll_OK1 cX0_look RX0 none false ll_mN ll_mR ll_mK ll_cnt L xs false 7 (.inl (lo_putf 10 0 1 2)) := lk_putf (ix := 25) (ci := 0) (k := 1) (C := RX0) (T := TX0) (N := 7) (ty0 := tyX0) (by decide +kernel) rfl in_0 tyX0_ok nmX0 (by decide) tb_7 (fun B adr v w h1 h2 => ll_fit_obj (B := B) (adr := adr) h1 h2) (Or.inl rfl)
theorem k_1_10 (L : Nat) (xs : Nat → Int32) : ll_OK1 cX0_look RX0 none false ll_mN ll_mR ll_mK ll_cnt L xs false 10 (.inl (lo_aload 11 0)) := lk_aload_n (k := 0) (by decide +kernel) rfl
theorem k_1_11 (L : Nat) (xs : Nat → Int32) : ll_OK1 cX0_look RX0 none false ll_mN ll_mR ll_mK ll_cnt L xs false 11 (.inl (lo_aload 12 3)) := lk_aload_n (k := 3) (by decide +kernel) rfl
theorem k_1_12 (L : Nat) (xs : Nat → Int32) : ll_OK1 cX0_look RX0 none false ll_mN ll_mR ll_mK ll_cnt L xs false 12 (.inl (lo_putf 15 0 2 2)) := lk_putf (ix := 28) (ci := 0) (k := 2) (C := RX0) (T := TX0) (N := 7) (ty0 := tyX0) (by decide +kernel) rfl in_0 tyX0_ok nmX0 (by decide) tb_8 (fun B adr v w h1 h2 => ll_fit_obj (B := B) (adr := adr) h1 h2) (Or.inl rfl)
theorem k_1_15 (L : Nat) (xs : Nat → Int32) : ll_OK1 cX0_look RX0 none false ll_mN ll_mR ll_mK ll_cnt L xs false 15 (.inl (lo_aload 16 0)) := lk_aload_n (k := 0) (by decide +kernel) rfl
theorem k_1_16 (L : Nat) (xs : Nat → Int32) : ll_OK1 cX0_look RX0 none false ll_mN ll_mR ll_mK ll_cnt L xs false 16 (.inl (lo_push 17 (.int (-1)))) := lk_iconst (n := (-1)) (by decide +kernel) (by decide)
theorem k_1_17 (L : Nat) (xs : Nat → Int32) : ll_OK1 cX0_look RX0 none false ll_mN ll_mR ll_mK ll_cnt L xs false 17 (.inl (lo_putf 20 0 5 0)) := lk_putf (ix := 15) (ci := 0) (k := 5) (C := RX0) (T := TX0) (N := 7) (ty0 := tyX0) (by decide +kernel) rfl in_0 tyX0_ok nmX0 (by decide) tb_4 (fun B adr v w h1 h2 => ll_fit_int (B := B) (adr := adr) h1 h2) (Or.inl rfl)
theorem k_1_20 (L : Nat) (xs : Nat → Int32) : ll_OK1 cX0_look RX0 none false ll_mN ll_mR ll_mK ll_cnt L xs false 20 (.inl (lo_aload 21 0)) := lk_aload_n (k := 0) (by decide +kernel) rfl
theorem k_1_21 (L : Nat) (xs : Nat → Int32) : ll_OK1 cX0_look RX0 none false ll_mN ll_mR ll_mK ll_cnt L xs false 21 (.inl (lo_push 22 (.int (-1)))) := lk_iconst (n := (-1)) (by decide +kernel) (by decide)
theorem k_1_22 (L : Nat) (xs : Nat → Int32) : ll_OK1 cX0_look RX0 none false ll_mN ll_mR ll_mK ll_cnt L xs false 22 (.inl (lo_putf 25 0 6 0)) := lk_putf (ix := 18) (ci := 0) (k := 6) (C := RX0) (T := TX0) (N := 7) (ty0 := tyX0) (by decide +kernel) rfl in_0 tyX0_ok nmX0 (by decide) tb_5 (fun B adr v w h1 h2 => ll_fit_int (B := B) (adr := adr) h1 h2) (Or.inl rfl)
theorem k_1_25 (L : Nat) (xs : Nat → Int32) : ll_OK1 cX0_look RX0 none false ll_mN ll_mR ll_mK ll_cnt L xs false 25 (.inl (lo_aload 26 0)) := lk_aload_n (k := 0) (by decide +kernel) rfl
theorem k_1_26 (L : Nat) (xs : Nat → Int32) : ll_OK1 cX0_look RX0 none false ll_mN ll_mR ll_mK ll_cnt L xs false 26 (.inl (lo_push 27 (.int 0))) := lk_iconst (n := 0) (by decide +kernel) (by decide)
theorem k_1_27 (L : Nat) (xs : Nat → Int32) : ll_OK1 cX0_look RX0 none false ll_mN ll_mR ll_mK ll_cnt L xs false 27 (.inl (lo_putf 30 0 4 0)) := lk_putf (ix := 32) (ci := 0) (k := 4) (C := RX0) (T := TX0) (N := 7) (ty0 := tyX0) (by decide +kernel) rfl in_0 tyX0_ok nmX0 (by decide) tb_9 (fun B adr v w h1 h2 => ll_fit_int (B := B) (adr := adr) h1 h2) (Or.inl rfl)
theorem k_1_30 (L : Nat) (xs : Nat → Int32) : ll_OK1 cX0_look RX0 none false ll_mN ll_mR ll_mK ll_cnt L xs false 30 (.inl (lo_aload 31 0)) := lk_aload_n (k := 0) (by decide +kernel) rfl
theorem k_1_31 (L : Nat) (xs : Nat → Int32) : ll_OK1 cX0_look RX0 none false ll_mN ll_mR ll_mK ll_cnt L xs false 31 (.inl (lo_aload 32 0)) := lk_aload_n (k := 0) (by decide +kernel) rfl
theorem k_1_32 (L : Nat) (xs : Nat → Int32) : ll_OK1 cX0_look RX0 none false ll_mN ll_mR ll_mK ll_cnt L xs false 32 (.inl (lo_getf 35 0 2)) := lk_getf (ix := 28) (ci := 0) (k := 2) (C := RX0) (T := TX0) (N := 7) (by decide +kernel) rfl in_0 (by decide) tb_8
theorem k_1_35 (L : Nat) (xs : Nat → Int32) : ll_OK1 cX0_look RX0 none false ll_mN ll_mR ll_mK ll_cnt L xs false 35 (.inl (lo_getf 38 1 8)) := lk_getf (ix := 35) (ci := 1) (k := 8) (C := RX1) (T := TX1) (N := 12) (by decide +kernel) rfl in_1 (by decide) tb_10
theorem k_1_38 (L : Nat) (xs : Nat → Int32) : ll_OK1 cX0_look RX0 none false ll_mN ll_mR ll_mK ll_cnt L xs false 38 (.inl (lo_if 46 41 (fun x => decide (¬ x = 0)))) := lk_if_ne (off := 8) (by decide +kernel) rfl
theorem k_1_41 (L : Nat) (xs : Nat → Int32) : ll_OK1 cX0_look RX0 none false ll_mN ll_mR ll_mK ll_cnt L xs false 41 (.inl (lo_push 43 (.int (-2)))) := lk_bipush (n := (-2)) (by decide +kernel) (by decide)
theorem k_1_43 (L : Nat) (xs : Nat → Int32) : ll_OK1 cX0_look RX0 none false ll_mN ll_mR ll_mK ll_cnt L xs false 43 (.inl (lo_goto 47)) := lk_goto (off := 4) (by decide +kernel) rfl
theorem k_1_46 (L : Nat) (xs : Nat → Int32) : ll_OK1 cX0_look RX0 none false ll_mN ll_mR ll_mK ll_cnt L xs false 46 (.inl (lo_push 47 (.int (-1)))) := lk_iconst (n := (-1)) (by decide +kernel) (by decide)
theorem k_1_47 (L : Nat) (xs : Nat → Int32) : ll_OK1 cX0_look RX0 none false ll_mN ll_mR ll_mK ll_cnt L xs false 47 (.inl (lo_putf 50 0 3 0)) := lk_putf (ix := 9) (ci := 0) (k := 3) (C := RX0) (T := TX0) (N := 7) (ty0 := tyX0) (by decide +kernel) rfl in_0 tyX0_ok nmX0 (by decide) tb_3 (fun B adr v w h1 h2 => ll_fit_int (B := B) (adr := adr) h1 h2) (Or.inl rfl)
theorem k_1_50 (L : Nat) (xs : Nat → Int32) : ll_OK1 cX0_look RX0 none false ll_mN ll_mR ll_mK ll_cnt L xs false 50 (.inl (lo_push 51 (.int 0))) := lk_iconst (n := 0) (by decide +kernel) (by decide)
theorem k_1_51 (L : Nat) (xs : Nat → Int32) : ll_OK1 cX0_look RX0 none false ll_mN ll_mR ll_mK ll_cnt L xs false 51 (.inl (lo_istore 53 4)) := lk_istore (by decide +kernel)
theorem k_1_53 (L : Nat) (xs : Nat → Int32) : ll_OK1 cX0_look RX0 none false ll_mN ll_mR ll_mK ll_cnt L xs false 53 (.inl (lo_iload 55 4)) := lk_iload (by decide +kernel)
theorem k_1_55 (L : Nat) (xs : Nat → Int32) : ll_OK1 cX0_look RX0 none false ll_mN ll_mR ll_mK ll_cnt L xs false 55 (.inl (lo_aload 56 0)) := lk_aload_n (k := 0) (by decide +kernel) rfl
theorem k_1_56 (L : Nat) (xs : Nat → Int32) : ll_OK1 cX0_look RX0 none false ll_mN ll_mR ll_mK ll_cnt L xs false 56 (.inl (lo_getf 59 0 2)) := lk_getf (ix := 28) (ci := 0) (k := 2) (C := RX0) (T := TX0) (N := 7) (by decide +kernel) rfl in_0 (by decide) tb_8
theorem k_1_59 (L : Nat) (xs : Nat → Int32) : ll_OK1 cX0_look RX0 none false ll_mN ll_mR ll_mK ll_cnt L xs false 59 (.inl (lo_getf 62 1 8)) := lk_getf (ix := 35) (ci := 1) (k := 8) (C := RX1) (T := TX1) (N := 12) (by decide +kernel) rfl in_1 (by decide) tb_10
theorem k_1_62 (L : Nat) (xs : Nat → Int32) : ll_OK1 cX0_look RX0 none false ll_mN ll_mR ll_mK ll_cnt L xs false 62 (.inl (lo_cmp 102 65 (fun x y => decide (y ≤ x)))) := lk_icmp_ge (off := 40) (by decide +kernel) rfl
theorem k_1_65 (L : Nat) (xs : Nat → Int32) : ll_OK1 cX0_look RX0 none false ll_mN ll_mR ll_mK ll_cnt L xs false 65 (.inl (lo_aload 66 0)) := lk_aload_n (k := 0) (by decide +kernel) rfl
theorem k_1_66 (L : Nat) (xs : Nat → Int32) : ll_OK1 cX0_look RX0 none false ll_mN ll_mR ll_mK ll_cnt L xs false 66 (.inl (lo_getf 69 0 3)) := lk_getf (ix := 9) (ci := 0) (k := 3) (C := RX0) (T := TX0) (N := 7) (by decide +kernel) rfl in_0 (by decide) tb_3
theorem k_1_69 (L : Nat) (xs : Nat → Int32) : ll_OK1 cX0_look RX0 none false ll_mN ll_mR ll_mK ll_cnt L xs false 69 (.inl (lo_push 70 (.int (-1)))) := lk_iconst (n := (-1)) (by decide +kernel) (by decide)
theorem k_1_70 (L : Nat) (xs : Nat → Int32) : ll_OK1 cX0_look RX0 none false ll_mN ll_mR ll_mK ll_cnt L xs false 70 (.inl (lo_cmp 102 73 (fun x y => decide (¬ x = y)))) := lk_icmp_ne (off := 32) (by decide +kernel) rfl
theorem k_1_73 (L : Nat) (xs : Nat → Int32) : ll_OK1 cX0_look RX0 none false ll_mN ll_mR ll_mK ll_cnt L xs false 73 (.inl (lo_aload 74 0)) := lk_aload_n (k := 0) (by decide +kernel) rfl
theorem k_1_74 (L : Nat) (xs : Nat → Int32) : ll_OK1 cX0_look RX0 none false ll_mN ll_mR ll_mK ll_cnt L xs false 74 (.inl (lo_aload 75 0)) := lk_aload_n (k := 0) (by decide +kernel) rfl
theorem k_1_75 (L : Nat) (xs : Nat → Int32) : ll_OK1 cX0_look RX0 none false ll_mN ll_mR ll_mK ll_cnt L xs false 75 (.inl (lo_iload 77 4)) := lk_iload (by decide +kernel)
theorem k_1_77 (L : Nat) (xs : Nat → Int32) : ll_OK1 cX0_look RX0 none false ll_mN ll_mR ll_mK ll_cnt L xs false 77 (.inr (.inl (3, 2, 80))) := ⟨rfl, by decide, by rw [mN_3, mK_3, mR_3]; exact lj_v 40 1 0 (RX0, TX0, 7) (by decide +kernel) tb_11 tb_12 tb_13 rfl rfl rfl rfl (by decide +kernel)⟩
theorem k_1_80 (L : Nat) (xs : Nat → Int32) : ll_OK1 cX0_look RX0 none false ll_mN ll_mR ll_mK ll_cnt L xs false 80 (.inl (lo_putf 83 0 4 0)) := lk_putf (ix := 32) (ci := 0) (k := 4) (C := RX0) (T := TX0) (N := 7) (ty0 := tyX0) (by decide +kernel) rfl in_0 tyX0_ok nmX0 (by decide) tb_9 (fun B adr v w h1 h2 => ll_fit_int (B := B) (adr := adr) h1 h2) (Or.inl rfl)
theorem k_1_83 (L : Nat) (xs : Nat → Int32) : ll_OK1 cX0_look RX0 none false ll_mN ll_mR ll_mK ll_cnt L xs false 83 (.inl (lo_aload 84 0)) := lk_aload_n (k := 0) (by decide +kernel) rfl
theorem k_1_84 (L : Nat) (xs : Nat → Int32) : ll_OK1 cX0_look RX0 none false ll_mN ll_mR ll_mK ll_cnt L xs false 84 (.inl (lo_getf 87 0 4)) := lk_getf (ix := 32) (ci := 0) (k := 4) (C := RX0) (T := TX0) (N := 7) (by decide +kernel) rfl in_0 (by decide) tb_9
theorem k_1_87 (L : Nat) (xs : Nat → Int32) : ll_OK1 cX0_look RX0 none false ll_mN ll_mR ll_mK ll_cnt L xs false 87 (.inl (lo_if 96 90 (fun x => decide (x = 0)))) := lk_if_eq (off := 9) (by decide +kernel) rfl
theorem k_1_90 (L : Nat) (xs : Nat → Int32) : ll_OK1 cX0_look RX0 none false ll_mN ll_mR ll_mK ll_cnt L xs false 90 (.inl (lo_aload 91 0)) := lk_aload_n (k := 0) (by decide +kernel) rfl
theorem k_1_91 (L : Nat) (xs : Nat → Int32) : ll_OK1 cX0_look RX0 none false ll_mN ll_mR ll_mK ll_cnt L xs false 91 (.inl (lo_iload 93 4)) := lk_iload (by decide +kernel)
theorem k_1_93 (L : Nat) (xs : Nat → Int32) : ll_OK1 cX0_look RX0 none false ll_mN ll_mR ll_mK ll_cnt L xs false 93 (.inl (lo_putf 96 0 3 0)) := lk_putf (ix := 9) (ci := 0) (k := 3) (C := RX0) (T := TX0) (N := 7) (ty0 := tyX0) (by decide +kernel) rfl in_0 tyX0_ok nmX0 (by decide) tb_3 (fun B adr v w h1 h2 => ll_fit_int (B := B) (adr := adr) h1 h2) (Or.inl rfl)
theorem k_1_96 (L : Nat) (xs : Nat → Int32) : ll_OK1 cX0_look RX0 none false ll_mN ll_mR ll_mK ll_cnt L xs false 96 (.inl (lo_iinc 99 4 1)) := lk_iinc (n := 1) (by decide +kernel) (by decide)
theorem k_1_99 (L : Nat) (xs : Nat → Int32) : ll_OK1 cX0_look RX0 none false ll_mN ll_mR ll_mK ll_cnt L xs false 99 (.inl (lo_goto 53)) := lk_goto (off := (-46)) (by decide +kernel) rfl
theorem k_1_102 (L : Nat) (xs : Nat → Int32) : ll_OK1 cX0_look RX0 none false ll_mN ll_mR ll_mK ll_cnt L xs false 102 (.inl (lo_aload 103 0)) := lk_aload_n (k := 0) (by decide +kernel) rfl
theorem k_1_103 (L : Nat) (xs : Nat → Int32) : ll_OK1 cX0_look RX0 none false ll_mN ll_mR ll_mK ll_cnt L xs false 103 (.inl (lo_getf 106 0 3)) := lk_getf (ix := 9) (ci := 0) (k := 3) (C := RX0) (T := TX0) (N := 7) (by decide +kernel) rfl in_0 (by decide) tb_3
theorem k_1_106 (L : Nat) (xs : Nat → Int32) : ll_OK1 cX0_look RX0 none false ll_mN ll_mR ll_mK ll_cnt L xs false 106 (.inl (lo_push 107 (.int (-1)))) := lk_iconst (n := (-1)) (by decide +kernel) (by decide)
theorem k_1_107 (L : Nat) (xs : Nat → Int32) : ll_OK1 cX0_look RX0 none false ll_mN ll_mR ll_mK ll_cnt L xs false 107 (.inl (lo_cmp 128 110 (fun x y => decide (¬ x = y)))) := lk_icmp_ne (off := 21) (by decide +kernel) rfl
theorem k_1_110 (L : Nat) (xs : Nat → Int32) : ll_OK1 cX0_look RX0 none false ll_mN ll_mR ll_mK ll_cnt L xs false 110 (.inl (lo_aload 111 0)) := lk_aload_n (k := 0) (by decide +kernel) rfl
theorem k_1_111 (L : Nat) (xs : Nat → Int32) : ll_OK1 cX0_look RX0 none false ll_mN ll_mR ll_mK ll_cnt L xs false 111 (.inr (.inl (2, 1, 114))) := ⟨rfl, by decide, by rw [mN_2, mK_2, mR_2]; exact lj_v 44 0 0 (RX0, TX0, 7) (by decide +kernel) tb_14 tb_15 tb_16 rfl rfl rfl rfl (by decide +kernel)⟩
theorem k_1_114 (L : Nat) (xs : Nat → Int32) : ll_OK1 cX0_look RX0 none false ll_mN ll_mR ll_mK ll_cnt L xs false 114 (.inl (lo_if 128 117 (fun x => decide (¬ x = 0)))) := lk_if_ne (off := 14) (by decide +kernel) rfl
theorem k_1_117 (L : Nat) (xs : Nat → Int32) : ll_OK1 cX0_look RX0 none false ll_mN ll_mR ll_mK ll_cnt L xs false 117 (.inl (lo_aload 118 0)) := lk_aload_n (k := 0) (by decide +kernel) rfl
theorem k_1_118 (L : Nat) (xs : Nat → Int32) : ll_OK1 cX0_look RX0 none false ll_mN ll_mR ll_mK ll_cnt L xs false 118 (.inl (lo_push 119 (.int 0))) := lk_iconst (n := 0) (by decide +kernel) (by decide)
theorem k_1_119 (L : Nat) (xs : Nat → Int32) : ll_OK1 cX0_look RX0 none false ll_mN ll_mR ll_mK ll_cnt L xs false 119 (.inl (lo_putf 122 0 3 0)) := lk_putf (ix := 9) (ci := 0) (k := 3) (C := RX0) (T := TX0) (N := 7) (ty0 := tyX0) (by decide +kernel) rfl in_0 tyX0_ok nmX0 (by decide) tb_3 (fun B adr v w h1 h2 => ll_fit_int (B := B) (adr := adr) h1 h2) (Or.inl rfl)
theorem k_1_122 (L : Nat) (xs : Nat → Int32) : ll_OK1 cX0_look RX0 none false ll_mN ll_mR ll_mK ll_cnt L xs false 122 (.inl (lo_aload 123 0)) := lk_aload_n (k := 0) (by decide +kernel) rfl
theorem k_1_123 (L : Nat) (xs : Nat → Int32) : ll_OK1 cX0_look RX0 none false ll_mN ll_mR ll_mK ll_cnt L xs false 123 (.inl (lo_push 125 (.int 6))) := lk_bipush (n := 6) (by decide +kernel) (by decide)
theorem k_1_125 (L : Nat) (xs : Nat → Int32) : ll_OK1 cX0_look RX0 none false ll_mN ll_mR ll_mK ll_cnt L xs false 125 (.inl (lo_putf 128 0 4 0)) := lk_putf (ix := 32) (ci := 0) (k := 4) (C := RX0) (T := TX0) (N := 7) (ty0 := tyX0) (by decide +kernel) rfl in_0 tyX0_ok nmX0 (by decide) tb_9 (fun B adr v w h1 h2 => ll_fit_int (B := B) (adr := adr) h1 h2) (Or.inl rfl)
theorem k_1_128 (L : Nat) (xs : Nat → Int32) : ll_OK1 cX0_look RX0 none false ll_mN ll_mR ll_mK ll_cnt L xs false 128 (.inr (.inr 0)) := ⟨fun _ => ⟨(by decide +kernel), rfl⟩, (fun h => by cases h), fun h => by cases h⟩
theorem ok_1 (L : Nat) (xs : Nat → Int32) : ∀ q ∈ cd_1, ll_OK1 cX0_look RX0 none false ll_mN ll_mR ll_mK ll_cnt L xs false q.1 q.2 :=
  List.forall_mem_cons.mpr ⟨k_1_0 L xs, List.forall_mem_cons.mpr ⟨k_1_1 L xs, List.forall_mem_cons.mpr ⟨k_1_2 L xs, List.forall_mem_cons.mpr ⟨k_1_5 L xs, List.forall_mem_cons.mpr ⟨k_1_6 L xs, List.forall_mem_cons.mpr ⟨k_1_7 L xs, List.forall_mem_cons.mpr ⟨k_1_10 L xs, List.forall_mem_cons.mpr ⟨k_1_11 L xs, List.forall_mem_cons.mpr ⟨k_1_12 L xs, List.forall_mem_cons.mpr ⟨k_1_15 L xs, List.forall_mem_cons.mpr ⟨k_1_16 L xs, List.forall_mem_cons.mpr ⟨k_1_17 L xs, List.forall_mem_cons.mpr ⟨k_1_20 L xs, List.forall_mem_cons.mpr ⟨k_1_21 L xs, List.forall_mem_cons.mpr ⟨k_1_22 L xs, List.forall_mem_cons.mpr ⟨k_1_25 L xs, List.forall_mem_cons.mpr ⟨k_1_26 L xs, List.forall_mem_cons.mpr ⟨k_1_27 L xs, List.forall_mem_cons.mpr ⟨k_1_30 L xs, List.forall_mem_cons.mpr ⟨k_1_31 L xs, List.forall_mem_cons.mpr ⟨k_1_32 L xs, List.forall_mem_cons.mpr ⟨k_1_35 L xs, List.forall_mem_cons.mpr ⟨k_1_38 L xs, List.forall_mem_cons.mpr ⟨k_1_41 L xs, List.forall_mem_cons.mpr ⟨k_1_43 L xs, List.forall_mem_cons.mpr ⟨k_1_46 L xs, List.forall_mem_cons.mpr ⟨k_1_47 L xs, List.forall_mem_cons.mpr ⟨k_1_50 L xs, List.forall_mem_cons.mpr ⟨k_1_51 L xs, List.forall_mem_cons.mpr ⟨k_1_53 L xs, List.forall_mem_cons.mpr ⟨k_1_55 L xs, List.forall_mem_cons.mpr ⟨k_1_56 L xs, List.forall_mem_cons.mpr ⟨k_1_59 L xs, List.forall_mem_cons.mpr ⟨k_1_62 L xs, List.forall_mem_cons.mpr ⟨k_1_65 L xs, List.forall_mem_cons.mpr ⟨k_1_66 L xs, List.forall_mem_cons.mpr ⟨k_1_69 L xs, List.forall_mem_cons.mpr ⟨k_1_70 L xs, List.forall_mem_cons.mpr ⟨k_1_73 L xs, List.forall_mem_cons.mpr ⟨k_1_74 L xs, List.forall_mem_cons.mpr ⟨k_1_75 L xs, List.forall_mem_cons.mpr ⟨k_1_77 L xs, List.forall_mem_cons.mpr ⟨k_1_80 L xs, List.forall_mem_cons.mpr ⟨k_1_83 L xs, List.forall_mem_cons.mpr ⟨k_1_84 L xs, List.forall_mem_cons.mpr ⟨k_1_87 L xs, List.forall_mem_cons.mpr ⟨k_1_90 L xs, List.forall_mem_cons.mpr ⟨k_1_91 L xs, List.forall_mem_cons.mpr ⟨k_1_93 L xs, List.forall_mem_cons.mpr ⟨k_1_96 L xs, List.forall_mem_cons.mpr ⟨k_1_99 L xs, List.forall_mem_cons.mpr ⟨k_1_102 L xs, List.forall_mem_cons.mpr ⟨k_1_103 L xs, List.forall_mem_cons.mpr ⟨k_1_106 L xs, List.forall_mem_cons.mpr ⟨k_1_107 L xs, List.forall_mem_cons.mpr ⟨k_1_110 L xs, List.forall_mem_cons.mpr ⟨k_1_111 L xs, List.forall_mem_cons.mpr ⟨k_1_114 L xs, List.forall_mem_cons.mpr ⟨k_1_117 L xs, List.forall_mem_cons.mpr ⟨k_1_118 L xs, List.forall_mem_cons.mpr ⟨k_1_119 L xs, List.forall_mem_cons.mpr ⟨k_1_122 L xs, List.forall_mem_cons.mpr ⟨k_1_123 L xs, List.forall_mem_cons.mpr ⟨k_1_125 L xs, List.forall_mem_cons.mpr ⟨k_1_128 L xs, fun _ h => absurd h List.not_mem_nil⟩⟩⟩⟩⟩⟩⟩⟩⟩⟩⟩⟩⟩⟩⟩⟩⟩⟩⟩⟩⟩⟩⟩⟩⟩⟩⟩⟩⟩⟩⟩⟩⟩⟩⟩⟩⟩⟩⟩⟩⟩⟩⟩⟩⟩⟩⟩⟩⟩⟩⟩⟩⟩⟩⟩⟩⟩⟩⟩⟩⟩⟩⟩⟩⟩
/-- InclusionProver$Kernel.startsWell.()Z -/
def cd_2 : List (Nat × ll_O) := [
  (0, .inl (lo_aload 1 0)),
  (1, .inl (lo_getf 4 0 2)),
  (4, .inl (lo_getf 7 1 0)),
  (7, .inl (lo_push 8 (.int 0))),
  (8, .inl (lo_ald 9 0)),
  (9, .inl (lo_if 41 12 (fun x => decide (¬ x = 0)))),
  (12, .inl (lo_aload 13 0)),
  (13, .inl (lo_getf 16 0 2)),
  (16, .inl (lo_getf 19 1 1)),
  (19, .inl (lo_push 20 (.int 0))),
  (20, .inl (lo_ald 21 0)),
  (21, .inl (lo_if 37 24 (fun x => decide (x = 0)))),
  (24, .inl (lo_aload 25 0)),
  (25, .inl (lo_getf 28 0 2)),
  (28, .inl (lo_getf 31 1 1)),
  (31, .inl (lo_push 32 (.int 0))),
  (32, .inl (lo_ald 33 0)),
  (33, .inl (lo_push 34 (.int 1))),
  (34, .inl (lo_cmp 41 37 (fun x y => decide (¬ x = y)))),
  (37, .inl (lo_push 38 (.int 1))),
  (38, .inl (lo_goto 42)),
  (41, .inl (lo_push 42 (.int 0))),
  (42, .inr (.inr 2))]
theorem k_2_0 (L : Nat) (xs : Nat → Int32) : ll_OK1 cX0_startsWell RX0 (some .boolean) false ll_mN ll_mR ll_mK ll_cnt L xs false 0 (.inl (lo_aload 1 0)) := lk_aload_n (k := 0) (by decide +kernel) rfl
theorem k_2_1 (L : Nat) (xs : Nat → Int32) : ll_OK1 cX0_startsWell RX0 (some .boolean) false ll_mN ll_mR ll_mK ll_cnt L xs false 1 (.inl (lo_getf 4 0 2)) := lk_getf (ix := 28) (ci := 0) (k := 2) (C := RX0) (T := TX0) (N := 7) (by decide +kernel) rfl in_0 (by decide) tb_8
theorem k_2_4 (L : Nat) (xs : Nat → Int32) : ll_OK1 cX0_startsWell RX0 (some .boolean) false ll_mN ll_mR ll_mK ll_cnt L xs false 4 (.inl (lo_getf 7 1 0)) := lk_getf (ix := 48) (ci := 1) (k := 0) (C := RX1) (T := TX1) (N := 12) (by decide +kernel) rfl in_1 (by decide) tb_17
theorem k_2_7 (L : Nat) (xs : Nat → Int32) : ll_OK1 cX0_startsWell RX0 (some .boolean) false ll_mN ll_mR ll_mK ll_cnt L xs false 7 (.inl (lo_push 8 (.int 0))) := lk_iconst (n := 0) (by decide +kernel) (by decide)
theorem k_2_8 (L : Nat) (xs : Nat → Int32) : ll_OK1 cX0_startsWell RX0 (some .boolean) false ll_mN ll_mR ll_mK ll_cnt L xs false 8 (.inl (lo_ald 9 0)) := lk_iald (by decide +kernel)
theorem k_2_9 (L : Nat) (xs : Nat → Int32) : ll_OK1 cX0_startsWell RX0 (some .boolean) false ll_mN ll_mR ll_mK ll_cnt L xs false 9 (.inl (lo_if 41 12 (fun x => decide (¬ x = 0)))) := lk_if_ne (off := 32) (by decide +kernel) rfl
theorem k_2_12 (L : Nat) (xs : Nat → Int32) : ll_OK1 cX0_startsWell RX0 (some .boolean) false ll_mN ll_mR ll_mK ll_cnt L xs false 12 (.inl (lo_aload 13 0)) := lk_aload_n (k := 0) (by decide +kernel) rfl
theorem k_2_13 (L : Nat) (xs : Nat → Int32) : ll_OK1 cX0_startsWell RX0 (some .boolean) false ll_mN ll_mR ll_mK ll_cnt L xs false 13 (.inl (lo_getf 16 0 2)) := lk_getf (ix := 28) (ci := 0) (k := 2) (C := RX0) (T := TX0) (N := 7) (by decide +kernel) rfl in_0 (by decide) tb_8
theorem k_2_16 (L : Nat) (xs : Nat → Int32) : ll_OK1 cX0_startsWell RX0 (some .boolean) false ll_mN ll_mR ll_mK ll_cnt L xs false 16 (.inl (lo_getf 19 1 1)) := lk_getf (ix := 52) (ci := 1) (k := 1) (C := RX1) (T := TX1) (N := 12) (by decide +kernel) rfl in_1 (by decide) tb_18
theorem k_2_19 (L : Nat) (xs : Nat → Int32) : ll_OK1 cX0_startsWell RX0 (some .boolean) false ll_mN ll_mR ll_mK ll_cnt L xs false 19 (.inl (lo_push 20 (.int 0))) := lk_iconst (n := 0) (by decide +kernel) (by decide)
theorem k_2_20 (L : Nat) (xs : Nat → Int32) : ll_OK1 cX0_startsWell RX0 (some .boolean) false ll_mN ll_mR ll_mK ll_cnt L xs false 20 (.inl (lo_ald 21 0)) := lk_iald (by decide +kernel)
theorem k_2_21 (L : Nat) (xs : Nat → Int32) : ll_OK1 cX0_startsWell RX0 (some .boolean) false ll_mN ll_mR ll_mK ll_cnt L xs false 21 (.inl (lo_if 37 24 (fun x => decide (x = 0)))) := lk_if_eq (off := 16) (by decide +kernel) rfl
theorem k_2_24 (L : Nat) (xs : Nat → Int32) : ll_OK1 cX0_startsWell RX0 (some .boolean) false ll_mN ll_mR ll_mK ll_cnt L xs false 24 (.inl (lo_aload 25 0)) := lk_aload_n (k := 0) (by decide +kernel) rfl
theorem k_2_25 (L : Nat) (xs : Nat → Int32) : ll_OK1 cX0_startsWell RX0 (some .boolean) false ll_mN ll_mR ll_mK ll_cnt L xs false 25 (.inl (lo_getf 28 0 2)) := lk_getf (ix := 28) (ci := 0) (k := 2) (C := RX0) (T := TX0) (N := 7) (by decide +kernel) rfl in_0 (by decide) tb_8
theorem k_2_28 (L : Nat) (xs : Nat → Int32) : ll_OK1 cX0_startsWell RX0 (some .boolean) false ll_mN ll_mR ll_mK ll_cnt L xs false 28 (.inl (lo_getf 31 1 1)) := lk_getf (ix := 52) (ci := 1) (k := 1) (C := RX1) (T := TX1) (N := 12) (by decide +kernel) rfl in_1 (by decide) tb_18
theorem k_2_31 (L : Nat) (xs : Nat → Int32) : ll_OK1 cX0_startsWell RX0 (some .boolean) false ll_mN ll_mR ll_mK ll_cnt L xs false 31 (.inl (lo_push 32 (.int 0))) := lk_iconst (n := 0) (by decide +kernel) (by decide)
theorem k_2_32 (L : Nat) (xs : Nat → Int32) : ll_OK1 cX0_startsWell RX0 (some .boolean) false ll_mN ll_mR ll_mK ll_cnt L xs false 32 (.inl (lo_ald 33 0)) := lk_iald (by decide +kernel)
theorem k_2_33 (L : Nat) (xs : Nat → Int32) : ll_OK1 cX0_startsWell RX0 (some .boolean) false ll_mN ll_mR ll_mK ll_cnt L xs false 33 (.inl (lo_push 34 (.int 1))) := lk_iconst (n := 1) (by decide +kernel) (by decide)
theorem k_2_34 (L : Nat) (xs : Nat → Int32) : ll_OK1 cX0_startsWell RX0 (some .boolean) false ll_mN ll_mR ll_mK ll_cnt L xs false 34 (.inl (lo_cmp 41 37 (fun x y => decide (¬ x = y)))) := lk_icmp_ne (off := 7) (by decide +kernel) rfl
theorem k_2_37 (L : Nat) (xs : Nat → Int32) : ll_OK1 cX0_startsWell RX0 (some .boolean) false ll_mN ll_mR ll_mK ll_cnt L xs false 37 (.inl (lo_push 38 (.int 1))) := lk_iconst (n := 1) (by decide +kernel) (by decide)
theorem k_2_38 (L : Nat) (xs : Nat → Int32) : ll_OK1 cX0_startsWell RX0 (some .boolean) false ll_mN ll_mR ll_mK ll_cnt L xs false 38 (.inl (lo_goto 42)) := lk_goto (off := 4) (by decide +kernel) rfl
theorem k_2_41 (L : Nat) (xs : Nat → Int32) : ll_OK1 cX0_startsWell RX0 (some .boolean) false ll_mN ll_mR ll_mK ll_cnt L xs false 41 (.inl (lo_push 42 (.int 0))) := lk_iconst (n := 0) (by decide +kernel) (by decide)
theorem k_2_42 (L : Nat) (xs : Nat → Int32) : ll_OK1 cX0_startsWell RX0 (some .boolean) false ll_mN ll_mR ll_mK ll_cnt L xs false 42 (.inr (.inr 2)) := ⟨(fun h => by cases h), (fun h => by cases h), fun _ => ⟨(by decide +kernel), rfl⟩⟩
theorem ok_2 (L : Nat) (xs : Nat → Int32) : ∀ q ∈ cd_2, ll_OK1 cX0_startsWell RX0 (some .boolean) false ll_mN ll_mR ll_mK ll_cnt L xs false q.1 q.2 :=
  List.forall_mem_cons.mpr ⟨k_2_0 L xs, List.forall_mem_cons.mpr ⟨k_2_1 L xs, List.forall_mem_cons.mpr ⟨k_2_4 L xs, List.forall_mem_cons.mpr ⟨k_2_7 L xs, List.forall_mem_cons.mpr ⟨k_2_8 L xs, List.forall_mem_cons.mpr ⟨k_2_9 L xs, List.forall_mem_cons.mpr ⟨k_2_12 L xs, List.forall_mem_cons.mpr ⟨k_2_13 L xs, List.forall_mem_cons.mpr ⟨k_2_16 L xs, List.forall_mem_cons.mpr ⟨k_2_19 L xs, List.forall_mem_cons.mpr ⟨k_2_20 L xs, List.forall_mem_cons.mpr ⟨k_2_21 L xs, List.forall_mem_cons.mpr ⟨k_2_24 L xs, List.forall_mem_cons.mpr ⟨k_2_25 L xs, List.forall_mem_cons.mpr ⟨k_2_28 L xs, List.forall_mem_cons.mpr ⟨k_2_31 L xs, List.forall_mem_cons.mpr ⟨k_2_32 L xs, List.forall_mem_cons.mpr ⟨k_2_33 L xs, List.forall_mem_cons.mpr ⟨k_2_34 L xs, List.forall_mem_cons.mpr ⟨k_2_37 L xs, List.forall_mem_cons.mpr ⟨k_2_38 L xs, List.forall_mem_cons.mpr ⟨k_2_41 L xs, List.forall_mem_cons.mpr ⟨k_2_42 L xs, fun _ h => absurd h List.not_mem_nil⟩⟩⟩⟩⟩⟩⟩⟩⟩⟩⟩⟩⟩⟩⟩⟩⟩⟩⟩⟩⟩⟩⟩
/-- InclusionProver$Kernel.reasonOf.(I)I -/
def cd_3 : List (Nat × ll_O) := [
  (0, .inl (lo_aload 1 0)),
  (1, .inl (lo_getf 4 0 2)),
  (4, .inl (lo_getf 7 1 0)),
  (7, .inl (lo_iload 8 1)),
  (8, .inl (lo_ald 9 0)),
  (9, .inl (lo_istore 10 2)),
  (10, .inl (lo_aload 11 0)),
  (11, .inl (lo_getf 14 0 2)),
  (14, .inl (lo_getf 17 1 1)),
  (17, .inl (lo_iload 18 1)),
  (18, .inl (lo_ald 19 0)),
  (19, .inl (lo_istore 20 3)),
  (20, .inl (lo_aload 21 0)),
  (21, .inl (lo_getf 24 0 2)),
  (24, .inl (lo_getf 27 1 2)),
  (27, .inl (lo_iload 28 1)),
  (28, .inl (lo_ald 29 0)),
  (29, .inl (lo_istore 31 4)),
  (31, .inl (lo_aload 32 0)),
  (32, .inl (lo_getf 35 0 0)),
  (35, .inl (lo_iload 36 2)),
  (36, .inr (.inl (45, 2, 39))),
  (39, .inl (lo_if 64 42 (fun x => decide (x = 0)))),
  (42, .inl (lo_aload 43 0)),
  (43, .inl (lo_getf 46 0 1)),
  (46, .inl (lo_iload 47 3)),
  (47, .inr (.inl (46, 2, 50))),
  (50, .inl (lo_if 64 53 (fun x => decide (x = 0)))),
  (53, .inl (lo_iload 55 4)),
  (55, .inl (lo_if 66 58 (fun x => decide (x = 0)))),
  (58, .inl (lo_iload 60 4)),
  (60, .inl (lo_push 61 (.int 1))),
  (61, .inl (lo_cmp 66 64 (fun x y => decide (x = y)))),
  (64, .inl (lo_push 65 (.int 1))),
  (65, .inr (.inr 1)),
  (66, .inl (lo_iload 68 4)),
  (68, .inl (lo_if 86 71 (fun x => decide (¬ x = 0)))),
  (71, .inl (lo_aload 72 0)),
  (72, .inl (lo_iload 73 2)),
  (73, .inl (lo_iload 74 3)),
  (74, .inr (.inl (4, 3, 77))),
  (77, .inl (lo_if 84 80 (fun x => decide (x = 0)))),
  (80, .inl (lo_push 81 (.int 0))),
  (81, .inl (lo_goto 85)),
  (84, .inl (lo_push 85 (.int 2))),
  (85, .inr (.inr 1)),
  (86, .inl (lo_aload 87 0)),
  (87, .inl (lo_getf 90 0 0)),
  (90, .inl (lo_push 91 (.int 1))),
  (91, .inl (lo_iload 92 2)),
  (92, .inl (lo_bin 93 (fun x y => x <<< (y &&& 31)))),
  (93, .inr (.inl (47, 2, 96))),
  (96, .inl (lo_if 112 99 (fun x => decide (x = 0)))),
  (99, .inl (lo_aload 100 0)),
  (100, .inl (lo_getf 103 0 1)),
  (103, .inl (lo_iload 104 3)),
  (104, .inr (.inl (47, 2, 107))),
  (107, .inl (lo_if 112 110 (fun x => decide (¬ x = 0)))),
  (110, .inl (lo_push 111 (.int 3))),
  (111, .inr (.inr 1)),
  (112, .inl (lo_aload 113 0)),
  (113, .inl (lo_iload 114 1)),
  (114, .inr (.inl (5, 2, 117))),
  (117, .inl (lo_if 122 120 (fun x => decide (¬ x = 0)))),
  (120, .inl (lo_push 121 (.int 4))),
  (121, .inr (.inr 1)),
  (122, .inl (lo_aload 123 0)),
  (123, .inl (lo_iload 124 1)),
  (124, .inl (lo_iload 125 2)),
  (125, .inl (lo_iload 126 3)),
  (126, .inr (.inl (6, 4, 129))),
  (129, .inl (lo_if 136 132 (fun x => decide (x = 0)))),
  (132, .inl (lo_push 133 (.int 0))),
  (133, .inl (lo_goto 137)),
  (136, .inl (lo_push 137 (.int 5))),
  (137, .inr (.inr 1))]
theorem k_3_0 (L : Nat) (xs : Nat → Int32) : ll_OK1 cX0_reasonOf RX0 (some .int) false ll_mN ll_mR ll_mK ll_cnt L xs false 0 (.inl (lo_aload 1 0)) := lk_aload_n (k := 0) (by decide +kernel) rfl
theorem k_3_1 (L : Nat) (xs : Nat → Int32) : ll_OK1 cX0_reasonOf RX0 (some .int) false ll_mN ll_mR ll_mK ll_cnt L xs false 1 (.inl (lo_getf 4 0 2)) := lk_getf (ix := 28) (ci := 0) (k := 2) (C := RX0) (T := TX0) (N := 7) (by decide +kernel) rfl in_0 (by decide) tb_8
theorem k_3_4 (L : Nat) (xs : Nat → Int32) : ll_OK1 cX0_reasonOf RX0 (some .int) false ll_mN ll_mR ll_mK ll_cnt L xs false 4 (.inl (lo_getf 7 1 0)) := lk_getf (ix := 48) (ci := 1) (k := 0) (C := RX1) (T := TX1) (N := 12) (by decide +kernel) rfl in_1 (by decide) tb_17
theorem k_3_7 (L : Nat) (xs : Nat → Int32) : ll_OK1 cX0_reasonOf RX0 (some .int) false ll_mN ll_mR ll_mK ll_cnt L xs false 7 (.inl (lo_iload 8 1)) := lk_iload_n (k := 1) (by decide +kernel) rfl
theorem k_3_8 (L : Nat) (xs : Nat → Int32) : ll_OK1 cX0_reasonOf RX0 (some .int) false ll_mN ll_mR ll_mK ll_cnt L xs false 8 (.inl (lo_ald 9 0)) := lk_iald (by decide +kernel)
theorem k_3_9 (L : Nat) (xs : Nat → Int32) : ll_OK1 cX0_reasonOf RX0 (some .int) false ll_mN ll_mR ll_mK ll_cnt L xs false 9 (.inl (lo_istore 10 2)) := lk_istore_n (k := 2) (by decide +kernel) rfl
theorem k_3_10 (L : Nat) (xs : Nat → Int32) : ll_OK1 cX0_reasonOf RX0 (some .int) false ll_mN ll_mR ll_mK ll_cnt L xs false 10 (.inl (lo_aload 11 0)) := lk_aload_n (k := 0) (by decide +kernel) rfl
theorem k_3_11 (L : Nat) (xs : Nat → Int32) : ll_OK1 cX0_reasonOf RX0 (some .int) false ll_mN ll_mR ll_mK ll_cnt L xs false 11 (.inl (lo_getf 14 0 2)) := lk_getf (ix := 28) (ci := 0) (k := 2) (C := RX0) (T := TX0) (N := 7) (by decide +kernel) rfl in_0 (by decide) tb_8
theorem k_3_14 (L : Nat) (xs : Nat → Int32) : ll_OK1 cX0_reasonOf RX0 (some .int) false ll_mN ll_mR ll_mK ll_cnt L xs false 14 (.inl (lo_getf 17 1 1)) := lk_getf (ix := 52) (ci := 1) (k := 1) (C := RX1) (T := TX1) (N := 12) (by decide +kernel) rfl in_1 (by decide) tb_18
theorem k_3_17 (L : Nat) (xs : Nat → Int32) : ll_OK1 cX0_reasonOf RX0 (some .int) false ll_mN ll_mR ll_mK ll_cnt L xs false 17 (.inl (lo_iload 18 1)) := lk_iload_n (k := 1) (by decide +kernel) rfl
theorem k_3_18 (L : Nat) (xs : Nat → Int32) : ll_OK1 cX0_reasonOf RX0 (some .int) false ll_mN ll_mR ll_mK ll_cnt L xs false 18 (.inl (lo_ald 19 0)) := lk_iald (by decide +kernel)
theorem k_3_19 (L : Nat) (xs : Nat → Int32) : ll_OK1 cX0_reasonOf RX0 (some .int) false ll_mN ll_mR ll_mK ll_cnt L xs false 19 (.inl (lo_istore 20 3)) := lk_istore_n (k := 3) (by decide +kernel) rfl
theorem k_3_20 (L : Nat) (xs : Nat → Int32) : ll_OK1 cX0_reasonOf RX0 (some .int) false ll_mN ll_mR ll_mK ll_cnt L xs false 20 (.inl (lo_aload 21 0)) := lk_aload_n (k := 0) (by decide +kernel) rfl
theorem k_3_21 (L : Nat) (xs : Nat → Int32) : ll_OK1 cX0_reasonOf RX0 (some .int) false ll_mN ll_mR ll_mK ll_cnt L xs false 21 (.inl (lo_getf 24 0 2)) := lk_getf (ix := 28) (ci := 0) (k := 2) (C := RX0) (T := TX0) (N := 7) (by decide +kernel) rfl in_0 (by decide) tb_8
theorem k_3_24 (L : Nat) (xs : Nat → Int32) : ll_OK1 cX0_reasonOf RX0 (some .int) false ll_mN ll_mR ll_mK ll_cnt L xs false 24 (.inl (lo_getf 27 1 2)) := lk_getf (ix := 55) (ci := 1) (k := 2) (C := RX1) (T := TX1) (N := 12) (by decide +kernel) rfl in_1 (by decide) tb_19
theorem k_3_27 (L : Nat) (xs : Nat → Int32) : ll_OK1 cX0_reasonOf RX0 (some .int) false ll_mN ll_mR ll_mK ll_cnt L xs false 27 (.inl (lo_iload 28 1)) := lk_iload_n (k := 1) (by decide +kernel) rfl
theorem k_3_28 (L : Nat) (xs : Nat → Int32) : ll_OK1 cX0_reasonOf RX0 (some .int) false ll_mN ll_mR ll_mK ll_cnt L xs false 28 (.inl (lo_ald 29 0)) := lk_iald (by decide +kernel)
theorem k_3_29 (L : Nat) (xs : Nat → Int32) : ll_OK1 cX0_reasonOf RX0 (some .int) false ll_mN ll_mR ll_mK ll_cnt L xs false 29 (.inl (lo_istore 31 4)) := lk_istore (by decide +kernel)
theorem k_3_31 (L : Nat) (xs : Nat → Int32) : ll_OK1 cX0_reasonOf RX0 (some .int) false ll_mN ll_mR ll_mK ll_cnt L xs false 31 (.inl (lo_aload 32 0)) := lk_aload_n (k := 0) (by decide +kernel) rfl
theorem k_3_32 (L : Nat) (xs : Nat → Int32) : ll_OK1 cX0_reasonOf RX0 (some .int) false ll_mN ll_mR ll_mK ll_cnt L xs false 32 (.inl (lo_getf 35 0 0)) := lk_getf (ix := 21) (ci := 0) (k := 0) (C := RX0) (T := TX0) (N := 7) (by decide +kernel) rfl in_0 (by decide) tb_6
theorem k_3_35 (L : Nat) (xs : Nat → Int32) : ll_OK1 cX0_reasonOf RX0 (some .int) false ll_mN ll_mR ll_mK ll_cnt L xs false 35 (.inl (lo_iload 36 2)) := lk_iload_n (k := 2) (by decide +kernel) rfl
theorem k_3_36 (L : Nat) (xs : Nat → Int32) : ll_OK1 cX0_reasonOf RX0 (some .int) false ll_mN ll_mR ll_mK ll_cnt L xs false 36 (.inr (.inl (45, 2, 39))) := ⟨rfl, by decide, by rw [mN_45, mK_45, mR_45]; exact lj_v 58 1 5 (RX5, TX5, 11) (by decide +kernel) tb_20 tb_21 tb_22 rfl rfl rfl rfl (by decide +kernel)⟩
theorem k_3_39 (L : Nat) (xs : Nat → Int32) : ll_OK1 cX0_reasonOf RX0 (some .int) false ll_mN ll_mR ll_mK ll_cnt L xs false 39 (.inl (lo_if 64 42 (fun x => decide (x = 0)))) := lk_if_eq (off := 25) (by decide +kernel) rfl
theorem k_3_42 (L : Nat) (xs : Nat → Int32) : ll_OK1 cX0_reasonOf RX0 (some .int) false ll_mN ll_mR ll_mK ll_cnt L xs false 42 (.inl (lo_aload 43 0)) := lk_aload_n (k := 0) (by decide +kernel) rfl
theorem k_3_43 (L : Nat) (xs : Nat → Int32) : ll_OK1 cX0_reasonOf RX0 (some .int) false ll_mN ll_mR ll_mK ll_cnt L xs false 43 (.inl (lo_getf 46 0 1)) := lk_getf (ix := 25) (ci := 0) (k := 1) (C := RX0) (T := TX0) (N := 7) (by decide +kernel) rfl in_0 (by decide) tb_7
theorem k_3_46 (L : Nat) (xs : Nat → Int32) : ll_OK1 cX0_reasonOf RX0 (some .int) false ll_mN ll_mR ll_mK ll_cnt L xs false 46 (.inl (lo_iload 47 3)) := lk_iload_n (k := 3) (by decide +kernel) rfl
theorem k_3_47 (L : Nat) (xs : Nat → Int32) : ll_OK1 cX0_reasonOf RX0 (some .int) false ll_mN ll_mR ll_mK ll_cnt L xs false 47 (.inr (.inl (46, 2, 50))) := ⟨rfl, by decide, by rw [mN_46, mK_46, mR_46]; exact lj_v 64 1 5 (RX5, TX5, 11) (by decide +kernel) tb_23 tb_24 tb_25 rfl rfl rfl rfl (by decide +kernel)⟩
theorem k_3_50 (L : Nat) (xs : Nat → Int32) : ll_OK1 cX0_reasonOf RX0 (some .int) false ll_mN ll_mR ll_mK ll_cnt L xs false 50 (.inl (lo_if 64 53 (fun x => decide (x = 0)))) := lk_if_eq (off := 14) (by decide +kernel) rfl
theorem k_3_53 (L : Nat) (xs : Nat → Int32) : ll_OK1 cX0_reasonOf RX0 (some .int) false ll_mN ll_mR ll_mK ll_cnt L xs false 53 (.inl (lo_iload 55 4)) := lk_iload (by decide +kernel)
theorem k_3_55 (L : Nat) (xs : Nat → Int32) : ll_OK1 cX0_reasonOf RX0 (some .int) false ll_mN ll_mR ll_mK ll_cnt L xs false 55 (.inl (lo_if 66 58 (fun x => decide (x = 0)))) := lk_if_eq (off := 11) (by decide +kernel) rfl
theorem k_3_58 (L : Nat) (xs : Nat → Int32) : ll_OK1 cX0_reasonOf RX0 (some .int) false ll_mN ll_mR ll_mK ll_cnt L xs false 58 (.inl (lo_iload 60 4)) := lk_iload (by decide +kernel)
theorem k_3_60 (L : Nat) (xs : Nat → Int32) : ll_OK1 cX0_reasonOf RX0 (some .int) false ll_mN ll_mR ll_mK ll_cnt L xs false 60 (.inl (lo_push 61 (.int 1))) := lk_iconst (n := 1) (by decide +kernel) (by decide)
theorem k_3_61 (L : Nat) (xs : Nat → Int32) : ll_OK1 cX0_reasonOf RX0 (some .int) false ll_mN ll_mR ll_mK ll_cnt L xs false 61 (.inl (lo_cmp 66 64 (fun x y => decide (x = y)))) := lk_icmp_eq (off := 5) (by decide +kernel) rfl
theorem k_3_64 (L : Nat) (xs : Nat → Int32) : ll_OK1 cX0_reasonOf RX0 (some .int) false ll_mN ll_mR ll_mK ll_cnt L xs false 64 (.inl (lo_push 65 (.int 1))) := lk_iconst (n := 1) (by decide +kernel) (by decide)
theorem k_3_65 (L : Nat) (xs : Nat → Int32) : ll_OK1 cX0_reasonOf RX0 (some .int) false ll_mN ll_mR ll_mK ll_cnt L xs false 65 (.inr (.inr 1)) := ⟨(fun h => by cases h), (fun _ => ⟨(by decide +kernel), rfl⟩), fun h => by cases h⟩
theorem k_3_66 (L : Nat) (xs : Nat → Int32) : ll_OK1 cX0_reasonOf RX0 (some .int) false ll_mN ll_mR ll_mK ll_cnt L xs false 66 (.inl (lo_iload 68 4)) := lk_iload (by decide +kernel)
theorem k_3_68 (L : Nat) (xs : Nat → Int32) : ll_OK1 cX0_reasonOf RX0 (some .int) false ll_mN ll_mR ll_mK ll_cnt L xs false 68 (.inl (lo_if 86 71 (fun x => decide (¬ x = 0)))) := lk_if_ne (off := 18) (by decide +kernel) rfl
theorem k_3_71 (L : Nat) (xs : Nat → Int32) : ll_OK1 cX0_reasonOf RX0 (some .int) false ll_mN ll_mR ll_mK ll_cnt L xs false 71 (.inl (lo_aload 72 0)) := lk_aload_n (k := 0) (by decide +kernel) rfl
theorem k_3_72 (L : Nat) (xs : Nat → Int32) : ll_OK1 cX0_reasonOf RX0 (some .int) false ll_mN ll_mR ll_mK ll_cnt L xs false 72 (.inl (lo_iload 73 2)) := lk_iload_n (k := 2) (by decide +kernel) rfl
theorem k_3_73 (L : Nat) (xs : Nat → Int32) : ll_OK1 cX0_reasonOf RX0 (some .int) false ll_mN ll_mR ll_mK ll_cnt L xs false 73 (.inl (lo_iload 74 3)) := lk_iload_n (k := 3) (by decide +kernel) rfl
theorem k_3_74 (L : Nat) (xs : Nat → Int32) : ll_OK1 cX0_reasonOf RX0 (some .int) false ll_mN ll_mR ll_mK ll_cnt L xs false 74 (.inr (.inl (4, 3, 77))) := ⟨rfl, by decide, by rw [mN_4, mK_4, mR_4]; exact lj_v 67 2 0 (RX0, TX0, 7) (by decide +kernel) tb_26 tb_27 tb_28 rfl rfl rfl rfl (by decide +kernel)⟩
theorem k_3_77 (L : Nat) (xs : Nat → Int32) : ll_OK1 cX0_reasonOf RX0 (some .int) false ll_mN ll_mR ll_mK ll_cnt L xs false 77 (.inl (lo_if 84 80 (fun x => decide (x = 0)))) := lk_if_eq (off := 7) (by decide +kernel) rfl
theorem k_3_80 (L : Nat) (xs : Nat → Int32) : ll_OK1 cX0_reasonOf RX0 (some .int) false ll_mN ll_mR ll_mK ll_cnt L xs false 80 (.inl (lo_push 81 (.int 0))) := lk_iconst (n := 0) (by decide +kernel) (by decide)
theorem k_3_81 (L : Nat) (xs : Nat → Int32) : ll_OK1 cX0_reasonOf RX0 (some .int) false ll_mN ll_mR ll_mK ll_cnt L xs false 81 (.inl (lo_goto 85)) := lk_goto (off := 4) (by decide +kernel) rfl
theorem k_3_84 (L : Nat) (xs : Nat → Int32) : ll_OK1 cX0_reasonOf RX0 (some .int) false ll_mN ll_mR ll_mK ll_cnt L xs false 84 (.inl (lo_push 85 (.int 2))) := lk_iconst (n := 2) (by decide +kernel) (by decide)
theorem k_3_85 (L : Nat) (xs : Nat → Int32) : ll_OK1 cX0_reasonOf RX0 (some .int) false ll_mN ll_mR ll_mK ll_cnt L xs false 85 (.inr (.inr 1)) := ⟨(fun h => by cases h), (fun _ => ⟨(by decide +kernel), rfl⟩), fun h => by cases h⟩
theorem k_3_86 (L : Nat) (xs : Nat → Int32) : ll_OK1 cX0_reasonOf RX0 (some .int) false ll_mN ll_mR ll_mK ll_cnt L xs false 86 (.inl (lo_aload 87 0)) := lk_aload_n (k := 0) (by decide +kernel) rfl
theorem k_3_87 (L : Nat) (xs : Nat → Int32) : ll_OK1 cX0_reasonOf RX0 (some .int) false ll_mN ll_mR ll_mK ll_cnt L xs false 87 (.inl (lo_getf 90 0 0)) := lk_getf (ix := 21) (ci := 0) (k := 0) (C := RX0) (T := TX0) (N := 7) (by decide +kernel) rfl in_0 (by decide) tb_6
theorem k_3_90 (L : Nat) (xs : Nat → Int32) : ll_OK1 cX0_reasonOf RX0 (some .int) false ll_mN ll_mR ll_mK ll_cnt L xs false 90 (.inl (lo_push 91 (.int 1))) := lk_iconst (n := 1) (by decide +kernel) (by decide)
theorem k_3_91 (L : Nat) (xs : Nat → Int32) : ll_OK1 cX0_reasonOf RX0 (some .int) false ll_mN ll_mR ll_mK ll_cnt L xs false 91 (.inl (lo_iload 92 2)) := lk_iload_n (k := 2) (by decide +kernel) rfl
theorem k_3_92 (L : Nat) (xs : Nat → Int32) : ll_OK1 cX0_reasonOf RX0 (some .int) false ll_mN ll_mR ll_mK ll_cnt L xs false 92 (.inl (lo_bin 93 (fun x y => x <<< (y &&& 31)))) := lk_ishl (by decide +kernel)
theorem k_3_93 (L : Nat) (xs : Nat → Int32) : ll_OK1 cX0_reasonOf RX0 (some .int) false ll_mN ll_mR ll_mK ll_cnt L xs false 93 (.inr (.inl (47, 2, 96))) := ⟨rfl, by decide, by rw [mN_47, mK_47, mR_47]; exact lj_v 71 1 5 (RX5, TX5, 11) (by decide +kernel) tb_29 tb_30 tb_31 rfl rfl rfl rfl (by decide +kernel)⟩
theorem k_3_96 (L : Nat) (xs : Nat → Int32) : ll_OK1 cX0_reasonOf RX0 (some .int) false ll_mN ll_mR ll_mK ll_cnt L xs false 96 (.inl (lo_if 112 99 (fun x => decide (x = 0)))) := lk_if_eq (off := 16) (by decide +kernel) rfl
theorem k_3_99 (L : Nat) (xs : Nat → Int32) : ll_OK1 cX0_reasonOf RX0 (some .int) false ll_mN ll_mR ll_mK ll_cnt L xs false 99 (.inl (lo_aload 100 0)) := lk_aload_n (k := 0) (by decide +kernel) rfl
theorem k_3_100 (L : Nat) (xs : Nat → Int32) : ll_OK1 cX0_reasonOf RX0 (some .int) false ll_mN ll_mR ll_mK ll_cnt L xs false 100 (.inl (lo_getf 103 0 1)) := lk_getf (ix := 25) (ci := 0) (k := 1) (C := RX0) (T := TX0) (N := 7) (by decide +kernel) rfl in_0 (by decide) tb_7
theorem k_3_103 (L : Nat) (xs : Nat → Int32) : ll_OK1 cX0_reasonOf RX0 (some .int) false ll_mN ll_mR ll_mK ll_cnt L xs false 103 (.inl (lo_iload 104 3)) := lk_iload_n (k := 3) (by decide +kernel) rfl
theorem k_3_104 (L : Nat) (xs : Nat → Int32) : ll_OK1 cX0_reasonOf RX0 (some .int) false ll_mN ll_mR ll_mK ll_cnt L xs false 104 (.inr (.inl (47, 2, 107))) := ⟨rfl, by decide, by rw [mN_47, mK_47, mR_47]; exact lj_v 71 1 5 (RX5, TX5, 11) (by decide +kernel) tb_29 tb_30 tb_31 rfl rfl rfl rfl (by decide +kernel)⟩
theorem k_3_107 (L : Nat) (xs : Nat → Int32) : ll_OK1 cX0_reasonOf RX0 (some .int) false ll_mN ll_mR ll_mK ll_cnt L xs false 107 (.inl (lo_if 112 110 (fun x => decide (¬ x = 0)))) := lk_if_ne (off := 5) (by decide +kernel) rfl
theorem k_3_110 (L : Nat) (xs : Nat → Int32) : ll_OK1 cX0_reasonOf RX0 (some .int) false ll_mN ll_mR ll_mK ll_cnt L xs false 110 (.inl (lo_push 111 (.int 3))) := lk_iconst (n := 3) (by decide +kernel) (by decide)
theorem k_3_111 (L : Nat) (xs : Nat → Int32) : ll_OK1 cX0_reasonOf RX0 (some .int) false ll_mN ll_mR ll_mK ll_cnt L xs false 111 (.inr (.inr 1)) := ⟨(fun h => by cases h), (fun _ => ⟨(by decide +kernel), rfl⟩), fun h => by cases h⟩
theorem k_3_112 (L : Nat) (xs : Nat → Int32) : ll_OK1 cX0_reasonOf RX0 (some .int) false ll_mN ll_mR ll_mK ll_cnt L xs false 112 (.inl (lo_aload 113 0)) := lk_aload_n (k := 0) (by decide +kernel) rfl
theorem k_3_113 (L : Nat) (xs : Nat → Int32) : ll_OK1 cX0_reasonOf RX0 (some .int) false ll_mN ll_mR ll_mK ll_cnt L xs false 113 (.inl (lo_iload 114 1)) := lk_iload_n (k := 1) (by decide +kernel) rfl
theorem k_3_114 (L : Nat) (xs : Nat → Int32) : ll_OK1 cX0_reasonOf RX0 (some .int) false ll_mN ll_mR ll_mK ll_cnt L xs false 114 (.inr (.inl (5, 2, 117))) := ⟨rfl, by decide, by rw [mN_5, mK_5, mR_5]; exact lj_v 74 1 0 (RX0, TX0, 7) (by decide +kernel) tb_32 tb_33 tb_34 rfl rfl rfl rfl (by decide +kernel)⟩
theorem k_3_117 (L : Nat) (xs : Nat → Int32) : ll_OK1 cX0_reasonOf RX0 (some .int) false ll_mN ll_mR ll_mK ll_cnt L xs false 117 (.inl (lo_if 122 120 (fun x => decide (¬ x = 0)))) := lk_if_ne (off := 5) (by decide +kernel) rfl
theorem k_3_120 (L : Nat) (xs : Nat → Int32) : ll_OK1 cX0_reasonOf RX0 (some .int) false ll_mN ll_mR ll_mK ll_cnt L xs false 120 (.inl (lo_push 121 (.int 4))) := lk_iconst (n := 4) (by decide +kernel) (by decide)
theorem k_3_121 (L : Nat) (xs : Nat → Int32) : ll_OK1 cX0_reasonOf RX0 (some .int) false ll_mN ll_mR ll_mK ll_cnt L xs false 121 (.inr (.inr 1)) := ⟨(fun h => by cases h), (fun _ => ⟨(by decide +kernel), rfl⟩), fun h => by cases h⟩
theorem k_3_122 (L : Nat) (xs : Nat → Int32) : ll_OK1 cX0_reasonOf RX0 (some .int) false ll_mN ll_mR ll_mK ll_cnt L xs false 122 (.inl (lo_aload 123 0)) := lk_aload_n (k := 0) (by decide +kernel) rfl
theorem k_3_123 (L : Nat) (xs : Nat → Int32) : ll_OK1 cX0_reasonOf RX0 (some .int) false ll_mN ll_mR ll_mK ll_cnt L xs false 123 (.inl (lo_iload 124 1)) := lk_iload_n (k := 1) (by decide +kernel) rfl
theorem k_3_124 (L : Nat) (xs : Nat → Int32) : ll_OK1 cX0_reasonOf RX0 (some .int) false ll_mN ll_mR ll_mK ll_cnt L xs false 124 (.inl (lo_iload 125 2)) := lk_iload_n (k := 2) (by decide +kernel) rfl
theorem k_3_125 (L : Nat) (xs : Nat → Int32) : ll_OK1 cX0_reasonOf RX0 (some .int) false ll_mN ll_mR ll_mK ll_cnt L xs false 125 (.inl (lo_iload 126 3)) := lk_iload_n (k := 3) (by decide +kernel) rfl
theorem k_3_126 (L : Nat) (xs : Nat → Int32) : ll_OK1 cX0_reasonOf RX0 (some .int) false ll_mN ll_mR ll_mK ll_cnt L xs false 126 (.inr (.inl (6, 4, 129))) := ⟨rfl, by decide, by rw [mN_6, mK_6, mR_6]; exact lj_v 77 3 0 (RX0, TX0, 7) (by decide +kernel) tb_35 tb_36 tb_37 rfl rfl rfl rfl (by decide +kernel)⟩
theorem k_3_129 (L : Nat) (xs : Nat → Int32) : ll_OK1 cX0_reasonOf RX0 (some .int) false ll_mN ll_mR ll_mK ll_cnt L xs false 129 (.inl (lo_if 136 132 (fun x => decide (x = 0)))) := lk_if_eq (off := 7) (by decide +kernel) rfl
theorem k_3_132 (L : Nat) (xs : Nat → Int32) : ll_OK1 cX0_reasonOf RX0 (some .int) false ll_mN ll_mR ll_mK ll_cnt L xs false 132 (.inl (lo_push 133 (.int 0))) := lk_iconst (n := 0) (by decide +kernel) (by decide)
theorem k_3_133 (L : Nat) (xs : Nat → Int32) : ll_OK1 cX0_reasonOf RX0 (some .int) false ll_mN ll_mR ll_mK ll_cnt L xs false 133 (.inl (lo_goto 137)) := lk_goto (off := 4) (by decide +kernel) rfl
theorem k_3_136 (L : Nat) (xs : Nat → Int32) : ll_OK1 cX0_reasonOf RX0 (some .int) false ll_mN ll_mR ll_mK ll_cnt L xs false 136 (.inl (lo_push 137 (.int 5))) := lk_iconst (n := 5) (by decide +kernel) (by decide)
theorem k_3_137 (L : Nat) (xs : Nat → Int32) : ll_OK1 cX0_reasonOf RX0 (some .int) false ll_mN ll_mR ll_mK ll_cnt L xs false 137 (.inr (.inr 1)) := ⟨(fun h => by cases h), (fun _ => ⟨(by decide +kernel), rfl⟩), fun h => by cases h⟩
theorem ok_3 (L : Nat) (xs : Nat → Int32) : ∀ q ∈ cd_3, ll_OK1 cX0_reasonOf RX0 (some .int) false ll_mN ll_mR ll_mK ll_cnt L xs false q.1 q.2 :=
  List.forall_mem_cons.mpr ⟨k_3_0 L xs, List.forall_mem_cons.mpr ⟨k_3_1 L xs, List.forall_mem_cons.mpr ⟨k_3_4 L xs, List.forall_mem_cons.mpr ⟨k_3_7 L xs, List.forall_mem_cons.mpr ⟨k_3_8 L xs, List.forall_mem_cons.mpr ⟨k_3_9 L xs, List.forall_mem_cons.mpr ⟨k_3_10 L xs, List.forall_mem_cons.mpr ⟨k_3_11 L xs, List.forall_mem_cons.mpr ⟨k_3_14 L xs, List.forall_mem_cons.mpr ⟨k_3_17 L xs, List.forall_mem_cons.mpr ⟨k_3_18 L xs, List.forall_mem_cons.mpr ⟨k_3_19 L xs, List.forall_mem_cons.mpr ⟨k_3_20 L xs, List.forall_mem_cons.mpr ⟨k_3_21 L xs, List.forall_mem_cons.mpr ⟨k_3_24 L xs, List.forall_mem_cons.mpr ⟨k_3_27 L xs, List.forall_mem_cons.mpr ⟨k_3_28 L xs, List.forall_mem_cons.mpr ⟨k_3_29 L xs, List.forall_mem_cons.mpr ⟨k_3_31 L xs, List.forall_mem_cons.mpr ⟨k_3_32 L xs, List.forall_mem_cons.mpr ⟨k_3_35 L xs, List.forall_mem_cons.mpr ⟨k_3_36 L xs, List.forall_mem_cons.mpr ⟨k_3_39 L xs, List.forall_mem_cons.mpr ⟨k_3_42 L xs, List.forall_mem_cons.mpr ⟨k_3_43 L xs, List.forall_mem_cons.mpr ⟨k_3_46 L xs, List.forall_mem_cons.mpr ⟨k_3_47 L xs, List.forall_mem_cons.mpr ⟨k_3_50 L xs, List.forall_mem_cons.mpr ⟨k_3_53 L xs, List.forall_mem_cons.mpr ⟨k_3_55 L xs, List.forall_mem_cons.mpr ⟨k_3_58 L xs, List.forall_mem_cons.mpr ⟨k_3_60 L xs, List.forall_mem_cons.mpr ⟨k_3_61 L xs, List.forall_mem_cons.mpr ⟨k_3_64 L xs, List.forall_mem_cons.mpr ⟨k_3_65 L xs, List.forall_mem_cons.mpr ⟨k_3_66 L xs, List.forall_mem_cons.mpr ⟨k_3_68 L xs, List.forall_mem_cons.mpr ⟨k_3_71 L xs, List.forall_mem_cons.mpr ⟨k_3_72 L xs, List.forall_mem_cons.mpr ⟨k_3_73 L xs, List.forall_mem_cons.mpr ⟨k_3_74 L xs, List.forall_mem_cons.mpr ⟨k_3_77 L xs, List.forall_mem_cons.mpr ⟨k_3_80 L xs, List.forall_mem_cons.mpr ⟨k_3_81 L xs, List.forall_mem_cons.mpr ⟨k_3_84 L xs, List.forall_mem_cons.mpr ⟨k_3_85 L xs, List.forall_mem_cons.mpr ⟨k_3_86 L xs, List.forall_mem_cons.mpr ⟨k_3_87 L xs, List.forall_mem_cons.mpr ⟨k_3_90 L xs, List.forall_mem_cons.mpr ⟨k_3_91 L xs, List.forall_mem_cons.mpr ⟨k_3_92 L xs, List.forall_mem_cons.mpr ⟨k_3_93 L xs, List.forall_mem_cons.mpr ⟨k_3_96 L xs, List.forall_mem_cons.mpr ⟨k_3_99 L xs, List.forall_mem_cons.mpr ⟨k_3_100 L xs, List.forall_mem_cons.mpr ⟨k_3_103 L xs, List.forall_mem_cons.mpr ⟨k_3_104 L xs, List.forall_mem_cons.mpr ⟨k_3_107 L xs, List.forall_mem_cons.mpr ⟨k_3_110 L xs, List.forall_mem_cons.mpr ⟨k_3_111 L xs, List.forall_mem_cons.mpr ⟨k_3_112 L xs, List.forall_mem_cons.mpr ⟨k_3_113 L xs, List.forall_mem_cons.mpr ⟨k_3_114 L xs, List.forall_mem_cons.mpr ⟨k_3_117 L xs, List.forall_mem_cons.mpr ⟨k_3_120 L xs, List.forall_mem_cons.mpr ⟨k_3_121 L xs, List.forall_mem_cons.mpr ⟨k_3_122 L xs, List.forall_mem_cons.mpr ⟨k_3_123 L xs, List.forall_mem_cons.mpr ⟨k_3_124 L xs, List.forall_mem_cons.mpr ⟨k_3_125 L xs, List.forall_mem_cons.mpr ⟨k_3_126 L xs, List.forall_mem_cons.mpr ⟨k_3_129 L xs, List.forall_mem_cons.mpr ⟨k_3_132 L xs, List.forall_mem_cons.mpr ⟨k_3_133 L xs, List.forall_mem_cons.mpr ⟨k_3_136 L xs, List.forall_mem_cons.mpr ⟨k_3_137 L xs, fun _ h => absurd h List.not_mem_nil⟩⟩⟩⟩⟩⟩⟩⟩⟩⟩⟩⟩⟩⟩⟩⟩⟩⟩⟩⟩⟩⟩⟩⟩⟩⟩⟩⟩⟩⟩⟩⟩⟩⟩⟩⟩⟩⟩⟩⟩⟩⟩⟩⟩⟩⟩⟩⟩⟩⟩⟩⟩⟩⟩⟩⟩⟩⟩⟩⟩⟩⟩⟩⟩⟩⟩⟩⟩⟩⟩⟩⟩⟩⟩⟩⟩
/-- InclusionProver$Kernel.isMember.(II)Z -/
def cd_4 : List (Nat × ll_O) := [
  (0, .inl (lo_aload 1 0)),
  (1, .inl (lo_getf 4 0 1)),
  (4, .inl (lo_aload 5 0)),
  (5, .inl (lo_getf 8 0 0)),
  (8, .inl (lo_iload 9 1)),
  (9, .inr (.inl (55, 3, 12))),
  (12, .inl (lo_istore 13 3)),
  (13, .inl (lo_iload 14 3)),
  (14, .inl (lo_push 15 (.int (-1)))),
  (15, .inl (lo_cmp 30 18 (fun x y => decide (x = y)))),
  (18, .inl (lo_iload 19 2)),
  (19, .inl (lo_iload 20 3)),
  (20, .inl (lo_bin 21 (fun x y => x >>> (y &&& 31)))),
  (21, .inl (lo_push 22 (.int 1))),
  (22, .inl (lo_bin 23 (fun x y => x &&& y))),
  (23, .inl (lo_if 30 26 (fun x => decide (x = 0)))),
  (26, .inl (lo_push 27 (.int 1))),
  (27, .inl (lo_goto 31)),
  (30, .inl (lo_push 31 (.int 0))),
  (31, .inr (.inr 2))]
theorem k_4_0 (L : Nat) (xs : Nat → Int32) : ll_OK1 cX0_isMember RX0 (some .boolean) false ll_mN ll_mR ll_mK ll_cnt L xs false 0 (.inl (lo_aload 1 0)) := lk_aload_n (k := 0) (by decide +kernel) rfl
theorem k_4_1 (L : Nat) (xs : Nat → Int32) : ll_OK1 cX0_isMember RX0 (some .boolean) false ll_mN ll_mR ll_mK ll_cnt L xs false 1 (.inl (lo_getf 4 0 1)) := lk_getf (ix := 25) (ci := 0) (k := 1) (C := RX0) (T := TX0) (N := 7) (by decide +kernel) rfl in_0 (by decide) tb_7
theorem k_4_4 (L : Nat) (xs : Nat → Int32) : ll_OK1 cX0_isMember RX0 (some .boolean) false ll_mN ll_mR ll_mK ll_cnt L xs false 4 (.inl (lo_aload 5 0)) := lk_aload_n (k := 0) (by decide +kernel) rfl
theorem k_4_5 (L : Nat) (xs : Nat → Int32) : ll_OK1 cX0_isMember RX0 (some .boolean) false ll_mN ll_mR ll_mK ll_cnt L xs false 5 (.inl (lo_getf 8 0 0)) := lk_getf (ix := 21) (ci := 0) (k := 0) (C := RX0) (T := TX0) (N := 7) (by decide +kernel) rfl in_0 (by decide) tb_6
theorem k_4_8 (L : Nat) (xs : Nat → Int32) : ll_OK1 cX0_isMember RX0 (some .boolean) false ll_mN ll_mR ll_mK ll_cnt L xs false 8 (.inl (lo_iload 9 1)) := lk_iload_n (k := 1) (by decide +kernel) rfl
theorem k_4_9 (L : Nat) (xs : Nat → Int32) : ll_OK1 cX0_isMember RX0 (some .boolean) false ll_mN ll_mR ll_mK ll_cnt L xs false 9 (.inr (.inl (55, 3, 12))) := ⟨rfl, by decide, by rw [mN_55, mK_55, mR_55]; exact lj_v 81 2 5 (RX5, TX5, 11) (by decide +kernel) tb_38 tb_39 tb_40 rfl rfl rfl rfl (by decide +kernel)⟩
theorem k_4_12 (L : Nat) (xs : Nat → Int32) : ll_OK1 cX0_isMember RX0 (some .boolean) false ll_mN ll_mR ll_mK ll_cnt L xs false 12 (.inl (lo_istore 13 3)) := lk_istore_n (k := 3) (by decide +kernel) rfl
theorem k_4_13 (L : Nat) (xs : Nat → Int32) : ll_OK1 cX0_isMember RX0 (some .boolean) false ll_mN ll_mR ll_mK ll_cnt L xs false 13 (.inl (lo_iload 14 3)) := lk_iload_n (k := 3) (by decide +kernel) rfl
theorem k_4_14 (L : Nat) (xs : Nat → Int32) : ll_OK1 cX0_isMember RX0 (some .boolean) false ll_mN ll_mR ll_mK ll_cnt L xs false 14 (.inl (lo_push 15 (.int (-1)))) := lk_iconst (n := (-1)) (by decide +kernel) (by decide)
theorem k_4_15 (L : Nat) (xs : Nat → Int32) : ll_OK1 cX0_isMember RX0 (some .boolean) false ll_mN ll_mR ll_mK ll_cnt L xs false 15 (.inl (lo_cmp 30 18 (fun x y => decide (x = y)))) := lk_icmp_eq (off := 15) (by decide +kernel) rfl
theorem k_4_18 (L : Nat) (xs : Nat → Int32) : ll_OK1 cX0_isMember RX0 (some .boolean) false ll_mN ll_mR ll_mK ll_cnt L xs false 18 (.inl (lo_iload 19 2)) := lk_iload_n (k := 2) (by decide +kernel) rfl
theorem k_4_19 (L : Nat) (xs : Nat → Int32) : ll_OK1 cX0_isMember RX0 (some .boolean) false ll_mN ll_mR ll_mK ll_cnt L xs false 19 (.inl (lo_iload 20 3)) := lk_iload_n (k := 3) (by decide +kernel) rfl
theorem k_4_20 (L : Nat) (xs : Nat → Int32) : ll_OK1 cX0_isMember RX0 (some .boolean) false ll_mN ll_mR ll_mK ll_cnt L xs false 20 (.inl (lo_bin 21 (fun x y => x >>> (y &&& 31)))) := lk_ishr (by decide +kernel)
theorem k_4_21 (L : Nat) (xs : Nat → Int32) : ll_OK1 cX0_isMember RX0 (some .boolean) false ll_mN ll_mR ll_mK ll_cnt L xs false 21 (.inl (lo_push 22 (.int 1))) := lk_iconst (n := 1) (by decide +kernel) (by decide)
theorem k_4_22 (L : Nat) (xs : Nat → Int32) : ll_OK1 cX0_isMember RX0 (some .boolean) false ll_mN ll_mR ll_mK ll_cnt L xs false 22 (.inl (lo_bin 23 (fun x y => x &&& y))) := lk_iand (by decide +kernel)
theorem k_4_23 (L : Nat) (xs : Nat → Int32) : ll_OK1 cX0_isMember RX0 (some .boolean) false ll_mN ll_mR ll_mK ll_cnt L xs false 23 (.inl (lo_if 30 26 (fun x => decide (x = 0)))) := lk_if_eq (off := 7) (by decide +kernel) rfl
theorem k_4_26 (L : Nat) (xs : Nat → Int32) : ll_OK1 cX0_isMember RX0 (some .boolean) false ll_mN ll_mR ll_mK ll_cnt L xs false 26 (.inl (lo_push 27 (.int 1))) := lk_iconst (n := 1) (by decide +kernel) (by decide)
theorem k_4_27 (L : Nat) (xs : Nat → Int32) : ll_OK1 cX0_isMember RX0 (some .boolean) false ll_mN ll_mR ll_mK ll_cnt L xs false 27 (.inl (lo_goto 31)) := lk_goto (off := 4) (by decide +kernel) rfl
theorem k_4_30 (L : Nat) (xs : Nat → Int32) : ll_OK1 cX0_isMember RX0 (some .boolean) false ll_mN ll_mR ll_mK ll_cnt L xs false 30 (.inl (lo_push 31 (.int 0))) := lk_iconst (n := 0) (by decide +kernel) (by decide)
theorem k_4_31 (L : Nat) (xs : Nat → Int32) : ll_OK1 cX0_isMember RX0 (some .boolean) false ll_mN ll_mR ll_mK ll_cnt L xs false 31 (.inr (.inr 2)) := ⟨(fun h => by cases h), (fun h => by cases h), fun _ => ⟨(by decide +kernel), rfl⟩⟩
theorem ok_4 (L : Nat) (xs : Nat → Int32) : ∀ q ∈ cd_4, ll_OK1 cX0_isMember RX0 (some .boolean) false ll_mN ll_mR ll_mK ll_cnt L xs false q.1 q.2 :=
  List.forall_mem_cons.mpr ⟨k_4_0 L xs, List.forall_mem_cons.mpr ⟨k_4_1 L xs, List.forall_mem_cons.mpr ⟨k_4_4 L xs, List.forall_mem_cons.mpr ⟨k_4_5 L xs, List.forall_mem_cons.mpr ⟨k_4_8 L xs, List.forall_mem_cons.mpr ⟨k_4_9 L xs, List.forall_mem_cons.mpr ⟨k_4_12 L xs, List.forall_mem_cons.mpr ⟨k_4_13 L xs, List.forall_mem_cons.mpr ⟨k_4_14 L xs, List.forall_mem_cons.mpr ⟨k_4_15 L xs, List.forall_mem_cons.mpr ⟨k_4_18 L xs, List.forall_mem_cons.mpr ⟨k_4_19 L xs, List.forall_mem_cons.mpr ⟨k_4_20 L xs, List.forall_mem_cons.mpr ⟨k_4_21 L xs, List.forall_mem_cons.mpr ⟨k_4_22 L xs, List.forall_mem_cons.mpr ⟨k_4_23 L xs, List.forall_mem_cons.mpr ⟨k_4_26 L xs, List.forall_mem_cons.mpr ⟨k_4_27 L xs, List.forall_mem_cons.mpr ⟨k_4_30 L xs, List.forall_mem_cons.mpr ⟨k_4_31 L xs, fun _ h => absurd h List.not_mem_nil⟩⟩⟩⟩⟩⟩⟩⟩⟩⟩⟩⟩⟩⟩⟩⟩⟩⟩⟩⟩
/-- InclusionProver$Kernel.premisesAreLines.(I)Z -/
def cd_5 : List (Nat × ll_O) := [
  (0, .inl (lo_push 1 (.int 0))),
  (1, .inl (lo_istore 2 2)),
  (2, .inl (lo_iload 3 2)),
  (3, .inl (lo_aload 4 0)),
  (4, .inl (lo_getf 7 0 2)),
  (7, .inl (lo_getf 10 1 4)),
  (10, .inl (lo_iload 11 1)),
  (11, .inl (lo_ald 12 0)),
  (12, .inl (lo_cmp 47 15 (fun x y => decide (y ≤ x)))),
  (15, .inl (lo_aload 16 0)),
  (16, .inl (lo_getf 19 0 2)),
  (19, .inl (lo_aload 20 0)),
  (20, .inl (lo_getf 23 0 2)),
  (23, .inl (lo_iload 24 1)),
  (24, .inl (lo_iload 25 2)),
  (25, .inr (.inl (12, 3, 28))),
  (28, .inr (.inl (10, 2, 31))),
  (31, .inl (lo_if 41 34 (fun x => decide (¬ x = 0)))),
  (34, .inl (lo_aload 35 0)),
  (35, .inl (lo_iload 36 2)),
  (36, .inl (lo_putf 39 0 6 0)),
  (39, .inl (lo_push 40 (.int 0))),
  (40, .inr (.inr 2)),
  (41, .inl (lo_iinc 44 2 1)),
  (44, .inl (lo_goto 2)),
  (47, .inl (lo_push 48 (.int 1))),
  (48, .inr (.inr 2))]
theorem k_5_0 (L : Nat) (xs : Nat → Int32) : ll_OK1 cX0_premisesAreLines RX0 (some .boolean) false ll_mN ll_mR ll_mK ll_cnt L xs false 0 (.inl (lo_push 1 (.int 0))) := lk_iconst (n := 0) (by decide +kernel) (by decide)
theorem k_5_1 (L : Nat) (xs : Nat → Int32) : ll_OK1 cX0_premisesAreLines RX0 (some .boolean) false ll_mN ll_mR ll_mK ll_cnt L xs false 1 (.inl (lo_istore 2 2)) := lk_istore_n (k := 2) (by decide +kernel) rfl
theorem k_5_2 (L : Nat) (xs : Nat → Int32) : ll_OK1 cX0_premisesAreLines RX0 (some .boolean) false ll_mN ll_mR ll_mK ll_cnt L xs false 2 (.inl (lo_iload 3 2)) := lk_iload_n (k := 2) (by decide +kernel) rfl
theorem k_5_3 (L : Nat) (xs : Nat → Int32) : ll_OK1 cX0_premisesAreLines RX0 (some .boolean) false ll_mN ll_mR ll_mK ll_cnt L xs false 3 (.inl (lo_aload 4 0)) := lk_aload_n (k := 0) (by decide +kernel) rfl
theorem k_5_4 (L : Nat) (xs : Nat → Int32) : ll_OK1 cX0_premisesAreLines RX0 (some .boolean) false ll_mN ll_mR ll_mK ll_cnt L xs false 4 (.inl (lo_getf 7 0 2)) := lk_getf (ix := 28) (ci := 0) (k := 2) (C := RX0) (T := TX0) (N := 7) (by decide +kernel) rfl in_0 (by decide) tb_8
theorem k_5_7 (L : Nat) (xs : Nat → Int32) : ll_OK1 cX0_premisesAreLines RX0 (some .boolean) false ll_mN ll_mR ll_mK ll_cnt L xs false 7 (.inl (lo_getf 10 1 4)) := lk_getf (ix := 85) (ci := 1) (k := 4) (C := RX1) (T := TX1) (N := 12) (by decide +kernel) rfl in_1 (by decide) tb_41
theorem k_5_10 (L : Nat) (xs : Nat → Int32) : ll_OK1 cX0_premisesAreLines RX0 (some .boolean) false ll_mN ll_mR ll_mK ll_cnt L xs false 10 (.inl (lo_iload 11 1)) := lk_iload_n (k := 1) (by decide +kernel) rfl
theorem k_5_11 (L : Nat) (xs : Nat → Int32) : ll_OK1 cX0_premisesAreLines RX0 (some .boolean) false ll_mN ll_mR ll_mK ll_cnt L xs false 11 (.inl (lo_ald 12 0)) := lk_iald (by decide +kernel)
theorem k_5_12 (L : Nat) (xs : Nat → Int32) : ll_OK1 cX0_premisesAreLines RX0 (some .boolean) false ll_mN ll_mR ll_mK ll_cnt L xs false 12 (.inl (lo_cmp 47 15 (fun x y => decide (y ≤ x)))) := lk_icmp_ge (off := 35) (by decide +kernel) rfl
theorem k_5_15 (L : Nat) (xs : Nat → Int32) : ll_OK1 cX0_premisesAreLines RX0 (some .boolean) false ll_mN ll_mR ll_mK ll_cnt L xs false 15 (.inl (lo_aload 16 0)) := lk_aload_n (k := 0) (by decide +kernel) rfl
theorem k_5_16 (L : Nat) (xs : Nat → Int32) : ll_OK1 cX0_premisesAreLines RX0 (some .boolean) false ll_mN ll_mR ll_mK ll_cnt L xs false 16 (.inl (lo_getf 19 0 2)) := lk_getf (ix := 28) (ci := 0) (k := 2) (C := RX0) (T := TX0) (N := 7) (by decide +kernel) rfl in_0 (by decide) tb_8
theorem k_5_19 (L : Nat) (xs : Nat → Int32) : ll_OK1 cX0_premisesAreLines RX0 (some .boolean) false ll_mN ll_mR ll_mK ll_cnt L xs false 19 (.inl (lo_aload 20 0)) := lk_aload_n (k := 0) (by decide +kernel) rfl
theorem k_5_20 (L : Nat) (xs : Nat → Int32) : ll_OK1 cX0_premisesAreLines RX0 (some .boolean) false ll_mN ll_mR ll_mK ll_cnt L xs false 20 (.inl (lo_getf 23 0 2)) := lk_getf (ix := 28) (ci := 0) (k := 2) (C := RX0) (T := TX0) (N := 7) (by decide +kernel) rfl in_0 (by decide) tb_8
theorem k_5_23 (L : Nat) (xs : Nat → Int32) : ll_OK1 cX0_premisesAreLines RX0 (some .boolean) false ll_mN ll_mR ll_mK ll_cnt L xs false 23 (.inl (lo_iload 24 1)) := lk_iload_n (k := 1) (by decide +kernel) rfl
theorem k_5_24 (L : Nat) (xs : Nat → Int32) : ll_OK1 cX0_premisesAreLines RX0 (some .boolean) false ll_mN ll_mR ll_mK ll_cnt L xs false 24 (.inl (lo_iload 25 2)) := lk_iload_n (k := 2) (by decide +kernel) rfl
theorem k_5_25 (L : Nat) (xs : Nat → Int32) : ll_OK1 cX0_premisesAreLines RX0 (some .boolean) false ll_mN ll_mR ll_mK ll_cnt L xs false 25 (.inr (.inl (12, 3, 28))) := ⟨rfl, by decide, by rw [mN_12, mK_12, mR_12]; exact lj_v 88 2 1 (RX1, TX1, 12) (by decide +kernel) tb_42 tb_43 tb_44 rfl rfl rfl rfl (by decide +kernel)⟩
theorem k_5_28 (L : Nat) (xs : Nat → Int32) : ll_OK1 cX0_premisesAreLines RX0 (some .boolean) false ll_mN ll_mR ll_mK ll_cnt L xs false 28 (.inr (.inl (10, 2, 31))) := ⟨rfl, by decide, by rw [mN_10, mK_10, mR_10]; exact lj_v 92 1 1 (RX1, TX1, 12) (by decide +kernel) tb_45 tb_46 tb_47 rfl rfl rfl rfl (by decide +kernel)⟩
theorem k_5_31 (L : Nat) (xs : Nat → Int32) : ll_OK1 cX0_premisesAreLines RX0 (some .boolean) false ll_mN ll_mR ll_mK ll_cnt L xs false 31 (.inl (lo_if 41 34 (fun x => decide (¬ x = 0)))) := lk_if_ne (off := 10) (by decide +kernel) rfl
theorem k_5_34 (L : Nat) (xs : Nat → Int32) : ll_OK1 cX0_premisesAreLines RX0 (some .boolean) false ll_mN ll_mR ll_mK ll_cnt L xs false 34 (.inl (lo_aload 35 0)) := lk_aload_n (k := 0) (by decide +kernel) rfl
theorem k_5_35 (L : Nat) (xs : Nat → Int32) : ll_OK1 cX0_premisesAreLines RX0 (some .boolean) false ll_mN ll_mR ll_mK ll_cnt L xs false 35 (.inl (lo_iload 36 2)) := lk_iload_n (k := 2) (by decide +kernel) rfl
theorem k_5_36 (L : Nat) (xs : Nat → Int32) : ll_OK1 cX0_premisesAreLines RX0 (some .boolean) false ll_mN ll_mR ll_mK ll_cnt L xs false 36 (.inl (lo_putf 39 0 6 0)) := lk_putf (ix := 18) (ci := 0) (k := 6) (C := RX0) (T := TX0) (N := 7) (ty0 := tyX0) (by decide +kernel) rfl in_0 tyX0_ok nmX0 (by decide) tb_5 (fun B adr v w h1 h2 => ll_fit_int (B := B) (adr := adr) h1 h2) (Or.inl rfl)
theorem k_5_39 (L : Nat) (xs : Nat → Int32) : ll_OK1 cX0_premisesAreLines RX0 (some .boolean) false ll_mN ll_mR ll_mK ll_cnt L xs false 39 (.inl (lo_push 40 (.int 0))) := lk_iconst (n := 0) (by decide +kernel) (by decide)
theorem k_5_40 (L : Nat) (xs : Nat → Int32) : ll_OK1 cX0_premisesAreLines RX0 (some .boolean) false ll_mN ll_mR ll_mK ll_cnt L xs false 40 (.inr (.inr 2)) := ⟨(fun h => by cases h), (fun h => by cases h), fun _ => ⟨(by decide +kernel), rfl⟩⟩
theorem k_5_41 (L : Nat) (xs : Nat → Int32) : ll_OK1 cX0_premisesAreLines RX0 (some .boolean) false ll_mN ll_mR ll_mK ll_cnt L xs false 41 (.inl (lo_iinc 44 2 1)) := lk_iinc (n := 1) (by decide +kernel) (by decide)
theorem k_5_44 (L : Nat) (xs : Nat → Int32) : ll_OK1 cX0_premisesAreLines RX0 (some .boolean) false ll_mN ll_mR ll_mK ll_cnt L xs false 44 (.inl (lo_goto 2)) := lk_goto (off := (-42)) (by decide +kernel) rfl
theorem k_5_47 (L : Nat) (xs : Nat → Int32) : ll_OK1 cX0_premisesAreLines RX0 (some .boolean) false ll_mN ll_mR ll_mK ll_cnt L xs false 47 (.inl (lo_push 48 (.int 1))) := lk_iconst (n := 1) (by decide +kernel) (by decide)
theorem k_5_48 (L : Nat) (xs : Nat → Int32) : ll_OK1 cX0_premisesAreLines RX0 (some .boolean) false ll_mN ll_mR ll_mK ll_cnt L xs false 48 (.inr (.inr 2)) := ⟨(fun h => by cases h), (fun h => by cases h), fun _ => ⟨(by decide +kernel), rfl⟩⟩
theorem ok_5 (L : Nat) (xs : Nat → Int32) : ∀ q ∈ cd_5, ll_OK1 cX0_premisesAreLines RX0 (some .boolean) false ll_mN ll_mR ll_mK ll_cnt L xs false q.1 q.2 :=
  List.forall_mem_cons.mpr ⟨k_5_0 L xs, List.forall_mem_cons.mpr ⟨k_5_1 L xs, List.forall_mem_cons.mpr ⟨k_5_2 L xs, List.forall_mem_cons.mpr ⟨k_5_3 L xs, List.forall_mem_cons.mpr ⟨k_5_4 L xs, List.forall_mem_cons.mpr ⟨k_5_7 L xs, List.forall_mem_cons.mpr ⟨k_5_10 L xs, List.forall_mem_cons.mpr ⟨k_5_11 L xs, List.forall_mem_cons.mpr ⟨k_5_12 L xs, List.forall_mem_cons.mpr ⟨k_5_15 L xs, List.forall_mem_cons.mpr ⟨k_5_16 L xs, List.forall_mem_cons.mpr ⟨k_5_19 L xs, List.forall_mem_cons.mpr ⟨k_5_20 L xs, List.forall_mem_cons.mpr ⟨k_5_23 L xs, List.forall_mem_cons.mpr ⟨k_5_24 L xs, List.forall_mem_cons.mpr ⟨k_5_25 L xs, List.forall_mem_cons.mpr ⟨k_5_28 L xs, List.forall_mem_cons.mpr ⟨k_5_31 L xs, List.forall_mem_cons.mpr ⟨k_5_34 L xs, List.forall_mem_cons.mpr ⟨k_5_35 L xs, List.forall_mem_cons.mpr ⟨k_5_36 L xs, List.forall_mem_cons.mpr ⟨k_5_39 L xs, List.forall_mem_cons.mpr ⟨k_5_40 L xs, List.forall_mem_cons.mpr ⟨k_5_41 L xs, List.forall_mem_cons.mpr ⟨k_5_44 L xs, List.forall_mem_cons.mpr ⟨k_5_47 L xs, List.forall_mem_cons.mpr ⟨k_5_48 L xs, fun _ h => absurd h List.not_mem_nil⟩⟩⟩⟩⟩⟩⟩⟩⟩⟩⟩⟩⟩⟩⟩⟩⟩⟩⟩⟩⟩⟩⟩⟩⟩⟩⟩
/-- InclusionProver$Kernel.partsAreProved.(III)Z -/
def cd_6 : List (Nat × ll_O) := [
  (0, .inl (lo_push 1 (.int 0))),
  (1, .inl (lo_istore 3 4)),
  (3, .inl (lo_iload 5 4)),
  (5, .inl (lo_push 6 (.int 3))),
  (6, .inl (lo_cmp 93 9 (fun x y => decide (y ≤ x)))),
  (9, .inl (lo_aload 10 0)),
  (10, .inl (lo_getf 13 0 1)),
  (13, .inl (lo_iload 14 3)),
  (14, .inl (lo_iload 16 4)),
  (16, .inr (.inl (54, 3, 19))),
  (19, .inl (lo_istore 21 5)),
  (21, .inl (lo_push 22 (.int 0))),
  (22, .inl (lo_istore 24 6)),
  (24, .inl (lo_iload 26 6)),
  (26, .inl (lo_aload 27 0)),
  (27, .inl (lo_getf 30 0 0)),
  (30, .inl (lo_iload 31 2)),
  (31, .inl (lo_iload 33 4)),
  (33, .inr (.inl (52, 3, 36))),
  (36, .inl (lo_cmp 87 39 (fun x y => decide (y ≤ x)))),
  (39, .inl (lo_aload 40 0)),
  (40, .inl (lo_getf 43 0 0)),
  (43, .inl (lo_iload 44 2)),
  (44, .inl (lo_iload 46 4)),
  (46, .inl (lo_iload 48 6)),
  (48, .inr (.inl (53, 4, 51))),
  (51, .inl (lo_istore 53 7)),
  (53, .inl (lo_aload 54 0)),
  (54, .inl (lo_iload 55 1)),
  (55, .inl (lo_iload 57 7)),
  (57, .inl (lo_iload 59 5)),
  (59, .inr (.inl (7, 4, 62))),
  (62, .inl (lo_if 81 65 (fun x => decide (¬ x = 0)))),
  (65, .inl (lo_aload 66 0)),
  (66, .inl (lo_iload 68 4)),
  (68, .inl (lo_push 69 (.int 1))),
  (69, .inl (lo_bin 70 (fun x y => x + y))),
  (70, .inl (lo_putf 73 0 5 0)),
  (73, .inl (lo_aload 74 0)),
  (74, .inl (lo_iload 76 7)),
  (76, .inl (lo_putf 79 0 6 0)),
  (79, .inl (lo_push 80 (.int 0))),
  (80, .inr (.inr 2)),
  (81, .inl (lo_iinc 84 6 1)),
  (84, .inl (lo_goto 24)),
  (87, .inl (lo_iinc 90 4 1)),
  (90, .inl (lo_goto 3)),
  (93, .inl (lo_push 94 (.int 1))),
  (94, .inr (.inr 2))]
theorem k_6_0 (L : Nat) (xs : Nat → Int32) : ll_OK1 cX0_partsAreProved RX0 (some .boolean) false ll_mN ll_mR ll_mK ll_cnt L xs false 0 (.inl (lo_push 1 (.int 0))) := lk_iconst (n := 0) (by decide +kernel) (by decide)
theorem k_6_1 (L : Nat) (xs : Nat → Int32) : ll_OK1 cX0_partsAreProved RX0 (some .boolean) false ll_mN ll_mR ll_mK ll_cnt L xs false 1 (.inl (lo_istore 3 4)) := lk_istore (by decide +kernel)
theorem k_6_3 (L : Nat) (xs : Nat → Int32) : ll_OK1 cX0_partsAreProved RX0 (some .boolean) false ll_mN ll_mR ll_mK ll_cnt L xs false 3 (.inl (lo_iload 5 4)) := lk_iload (by decide +kernel)
theorem k_6_5 (L : Nat) (xs : Nat → Int32) : ll_OK1 cX0_partsAreProved RX0 (some .boolean) false ll_mN ll_mR ll_mK ll_cnt L xs false 5 (.inl (lo_push 6 (.int 3))) := lk_iconst (n := 3) (by decide +kernel) (by decide)
theorem k_6_6 (L : Nat) (xs : Nat → Int32) : ll_OK1 cX0_partsAreProved RX0 (some .boolean) false ll_mN ll_mR ll_mK ll_cnt L xs false 6 (.inl (lo_cmp 93 9 (fun x y => decide (y ≤ x)))) := lk_icmp_ge (off := 87) (by decide +kernel) rfl
theorem k_6_9 (L : Nat) (xs : Nat → Int32) : ll_OK1 cX0_partsAreProved RX0 (some .boolean) false ll_mN ll_mR ll_mK ll_cnt L xs false 9 (.inl (lo_aload 10 0)) := lk_aload_n (k := 0) (by decide +kernel) rfl
theorem k_6_10 (L : Nat) (xs : Nat → Int32) : ll_OK1 cX0_partsAreProved RX0 (some .boolean) false ll_mN ll_mR ll_mK ll_cnt L xs false 10 (.inl (lo_getf 13 0 1)) := lk_getf (ix := 25) (ci := 0) (k := 1) (C := RX0) (T := TX0) (N := 7) (by decide +kernel) rfl in_0 (by decide) tb_7
theorem k_6_13 (L : Nat) (xs : Nat → Int32) : ll_OK1 cX0_partsAreProved RX0 (some .boolean) false ll_mN ll_mR ll_mK ll_cnt L xs false 13 (.inl (lo_iload 14 3)) := lk_iload_n (k := 3) (by decide +kernel) rfl
theorem k_6_14 (L : Nat) (xs : Nat → Int32) : ll_OK1 cX0_partsAreProved RX0 (some .boolean) false ll_mN ll_mR ll_mK ll_cnt L xs false 14 (.inl (lo_iload 16 4)) := lk_iload (by decide +kernel)
theorem k_6_16 (L : Nat) (xs : Nat → Int32) : ll_OK1 cX0_partsAreProved RX0 (some .boolean) false ll_mN ll_mR ll_mK ll_cnt L xs false 16 (.inr (.inl (54, 3, 19))) := ⟨rfl, by decide, by rw [mN_54, mK_54, mR_54]; exact lj_v 95 2 5 (RX5, TX5, 11) (by decide +kernel) tb_48 tb_49 tb_50 rfl rfl rfl rfl (by decide +kernel)⟩
theorem k_6_19 (L : Nat) (xs : Nat → Int32) : ll_OK1 cX0_partsAreProved RX0 (some .boolean) false ll_mN ll_mR ll_mK ll_cnt L xs false 19 (.inl (lo_istore 21 5)) := lk_istore (by decide +kernel)
theorem k_6_21 (L : Nat) (xs : Nat → Int32) : ll_OK1 cX0_partsAreProved RX0 (some .boolean) false ll_mN ll_mR ll_mK ll_cnt L xs false 21 (.inl (lo_push 22 (.int 0))) := lk_iconst (n := 0) (by decide +kernel) (by decide)
theorem k_6_22 (L : Nat) (xs : Nat → Int32) : ll_OK1 cX0_partsAreProved RX0 (some .boolean) false ll_mN ll_mR ll_mK ll_cnt L xs false 22 (.inl (lo_istore 24 6)) := lk_istore (by decide +kernel)
theorem k_6_24 (L : Nat) (xs : Nat → Int32) : ll_OK1 cX0_partsAreProved RX0 (some .boolean) false ll_mN ll_mR ll_mK ll_cnt L xs false 24 (.inl (lo_iload 26 6)) := lk_iload (by decide +kernel)
theorem k_6_26 (L : Nat) (xs : Nat → Int32) : ll_OK1 cX0_partsAreProved RX0 (some .boolean) false ll_mN ll_mR ll_mK ll_cnt L xs false 26 (.inl (lo_aload 27 0)) := lk_aload_n (k := 0) (by decide +kernel) rfl
theorem k_6_27 (L : Nat) (xs : Nat → Int32) : ll_OK1 cX0_partsAreProved RX0 (some .boolean) false ll_mN ll_mR ll_mK ll_cnt L xs false 27 (.inl (lo_getf 30 0 0)) := lk_getf (ix := 21) (ci := 0) (k := 0) (C := RX0) (T := TX0) (N := 7) (by decide +kernel) rfl in_0 (by decide) tb_6
theorem k_6_30 (L : Nat) (xs : Nat → Int32) : ll_OK1 cX0_partsAreProved RX0 (some .boolean) false ll_mN ll_mR ll_mK ll_cnt L xs false 30 (.inl (lo_iload 31 2)) := lk_iload_n (k := 2) (by decide +kernel) rfl
theorem k_6_31 (L : Nat) (xs : Nat → Int32) : ll_OK1 cX0_partsAreProved RX0 (some .boolean) false ll_mN ll_mR ll_mK ll_cnt L xs false 31 (.inl (lo_iload 33 4)) := lk_iload (by decide +kernel)
theorem k_6_33 (L : Nat) (xs : Nat → Int32) : ll_OK1 cX0_partsAreProved RX0 (some .boolean) false ll_mN ll_mR ll_mK ll_cnt L xs false 33 (.inr (.inl (52, 3, 36))) := ⟨rfl, by decide, by rw [mN_52, mK_52, mR_52]; exact lj_v 98 2 5 (RX5, TX5, 11) (by decide +kernel) tb_51 tb_52 tb_53 rfl rfl rfl rfl (by decide +kernel)⟩
theorem k_6_36 (L : Nat) (xs : Nat → Int32) : ll_OK1 cX0_partsAreProved RX0 (some .boolean) false ll_mN ll_mR ll_mK ll_cnt L xs false 36 (.inl (lo_cmp 87 39 (fun x y => decide (y ≤ x)))) := lk_icmp_ge (off := 51) (by decide +kernel) rfl
theorem k_6_39 (L : Nat) (xs : Nat → Int32) : ll_OK1 cX0_partsAreProved RX0 (some .boolean) false ll_mN ll_mR ll_mK ll_cnt L xs false 39 (.inl (lo_aload 40 0)) := lk_aload_n (k := 0) (by decide +kernel) rfl
theorem k_6_40 (L : Nat) (xs : Nat → Int32) : ll_OK1 cX0_partsAreProved RX0 (some .boolean) false ll_mN ll_mR ll_mK ll_cnt L xs false 40 (.inl (lo_getf 43 0 0)) := lk_getf (ix := 21) (ci := 0) (k := 0) (C := RX0) (T := TX0) (N := 7) (by decide +kernel) rfl in_0 (by decide) tb_6
theorem k_6_43 (L : Nat) (xs : Nat → Int32) : ll_OK1 cX0_partsAreProved RX0 (some .boolean) false ll_mN ll_mR ll_mK ll_cnt L xs false 43 (.inl (lo_iload 44 2)) := lk_iload_n (k := 2) (by decide +kernel) rfl
theorem k_6_44 (L : Nat) (xs : Nat → Int32) : ll_OK1 cX0_partsAreProved RX0 (some .boolean) false ll_mN ll_mR ll_mK ll_cnt L xs false 44 (.inl (lo_iload 46 4)) := lk_iload (by decide +kernel)
theorem k_6_46 (L : Nat) (xs : Nat → Int32) : ll_OK1 cX0_partsAreProved RX0 (some .boolean) false ll_mN ll_mR ll_mK ll_cnt L xs false 46 (.inl (lo_iload 48 6)) := lk_iload (by decide +kernel)
theorem k_6_48 (L : Nat) (xs : Nat → Int32) : ll_OK1 cX0_partsAreProved RX0 (some .boolean) false ll_mN ll_mR ll_mK ll_cnt L xs false 48 (.inr (.inl (53, 4, 51))) := ⟨rfl, by decide, by rw [mN_53, mK_53, mR_53]; exact lj_v 101 3 5 (RX5, TX5, 11) (by decide +kernel) tb_54 tb_55 tb_56 rfl rfl rfl rfl (by decide +kernel)⟩
theorem k_6_51 (L : Nat) (xs : Nat → Int32) : ll_OK1 cX0_partsAreProved RX0 (some .boolean) false ll_mN ll_mR ll_mK ll_cnt L xs false 51 (.inl (lo_istore 53 7)) := lk_istore (by decide +kernel)
theorem k_6_53 (L : Nat) (xs : Nat → Int32) : ll_OK1 cX0_partsAreProved RX0 (some .boolean) false ll_mN ll_mR ll_mK ll_cnt L xs false 53 (.inl (lo_aload 54 0)) := lk_aload_n (k := 0) (by decide +kernel) rfl
theorem k_6_54 (L : Nat) (xs : Nat → Int32) : ll_OK1 cX0_partsAreProved RX0 (some .boolean) false ll_mN ll_mR ll_mK ll_cnt L xs false 54 (.inl (lo_iload 55 1)) := lk_iload_n (k := 1) (by decide +kernel) rfl
theorem k_6_55 (L : Nat) (xs : Nat → Int32) : ll_OK1 cX0_partsAreProved RX0 (some .boolean) false ll_mN ll_mR ll_mK ll_cnt L xs false 55 (.inl (lo_iload 57 7)) := lk_iload (by decide +kernel)
theorem k_6_57 (L : Nat) (xs : Nat → Int32) : ll_OK1 cX0_partsAreProved RX0 (some .boolean) false ll_mN ll_mR ll_mK ll_cnt L xs false 57 (.inl (lo_iload 59 5)) := lk_iload (by decide +kernel)
theorem k_6_59 (L : Nat) (xs : Nat → Int32) : ll_OK1 cX0_partsAreProved RX0 (some .boolean) false ll_mN ll_mR ll_mK ll_cnt L xs false 59 (.inr (.inl (7, 4, 62))) := ⟨rfl, by decide, by rw [mN_7, mK_7, mR_7]; exact lj_v 105 3 0 (RX0, TX0, 7) (by decide +kernel) tb_57 tb_58 tb_59 rfl rfl rfl rfl (by decide +kernel)⟩
theorem k_6_62 (L : Nat) (xs : Nat → Int32) : ll_OK1 cX0_partsAreProved RX0 (some .boolean) false ll_mN ll_mR ll_mK ll_cnt L xs false 62 (.inl (lo_if 81 65 (fun x => decide (¬ x = 0)))) := lk_if_ne (off := 19) (by decide +kernel) rfl
theorem k_6_65 (L : Nat) (xs : Nat → Int32) : ll_OK1 cX0_partsAreProved RX0 (some .boolean) false ll_mN ll_mR ll_mK ll_cnt L xs false 65 (.inl (lo_aload 66 0)) := lk_aload_n (k := 0) (by decide +kernel) rfl
theorem k_6_66 (L : Nat) (xs : Nat → Int32) : ll_OK1 cX0_partsAreProved RX0 (some .boolean) false ll_mN ll_mR ll_mK ll_cnt L xs false 66 (.inl (lo_iload 68 4)) := lk_iload (by decide +kernel)
theorem k_6_68 (L : Nat) (xs : Nat → Int32) : ll_OK1 cX0_partsAreProved RX0 (some .boolean) false ll_mN ll_mR ll_mK ll_cnt L xs false 68 (.inl (lo_push 69 (.int 1))) := lk_iconst (n := 1) (by decide +kernel) (by decide)
theorem k_6_69 (L : Nat) (xs : Nat → Int32) : ll_OK1 cX0_partsAreProved RX0 (some .boolean) false ll_mN ll_mR ll_mK ll_cnt L xs false 69 (.inl (lo_bin 70 (fun x y => x + y))) := lk_iadd (by decide +kernel)
theorem k_6_70 (L : Nat) (xs : Nat → Int32) : ll_OK1 cX0_partsAreProved RX0 (some .boolean) false ll_mN ll_mR ll_mK ll_cnt L xs false 70 (.inl (lo_putf 73 0 5 0)) := lk_putf (ix := 15) (ci := 0) (k := 5) (C := RX0) (T := TX0) (N := 7) (ty0 := tyX0) (by decide +kernel) rfl in_0 tyX0_ok nmX0 (by decide) tb_4 (fun B adr v w h1 h2 => ll_fit_int (B := B) (adr := adr) h1 h2) (Or.inl rfl)
theorem k_6_73 (L : Nat) (xs : Nat → Int32) : ll_OK1 cX0_partsAreProved RX0 (some .boolean) false ll_mN ll_mR ll_mK ll_cnt L xs false 73 (.inl (lo_aload 74 0)) := lk_aload_n (k := 0) (by decide +kernel) rfl
theorem k_6_74 (L : Nat) (xs : Nat → Int32) : ll_OK1 cX0_partsAreProved RX0 (some .boolean) false ll_mN ll_mR ll_mK ll_cnt L xs false 74 (.inl (lo_iload 76 7)) := lk_iload (by decide +kernel)
theorem k_6_76 (L : Nat) (xs : Nat → Int32) : ll_OK1 cX0_partsAreProved RX0 (some .boolean) false ll_mN ll_mR ll_mK ll_cnt L xs false 76 (.inl (lo_putf 79 0 6 0)) := lk_putf (ix := 18) (ci := 0) (k := 6) (C := RX0) (T := TX0) (N := 7) (ty0 := tyX0) (by decide +kernel) rfl in_0 tyX0_ok nmX0 (by decide) tb_5 (fun B adr v w h1 h2 => ll_fit_int (B := B) (adr := adr) h1 h2) (Or.inl rfl)
theorem k_6_79 (L : Nat) (xs : Nat → Int32) : ll_OK1 cX0_partsAreProved RX0 (some .boolean) false ll_mN ll_mR ll_mK ll_cnt L xs false 79 (.inl (lo_push 80 (.int 0))) := lk_iconst (n := 0) (by decide +kernel) (by decide)
theorem k_6_80 (L : Nat) (xs : Nat → Int32) : ll_OK1 cX0_partsAreProved RX0 (some .boolean) false ll_mN ll_mR ll_mK ll_cnt L xs false 80 (.inr (.inr 2)) := ⟨(fun h => by cases h), (fun h => by cases h), fun _ => ⟨(by decide +kernel), rfl⟩⟩
theorem k_6_81 (L : Nat) (xs : Nat → Int32) : ll_OK1 cX0_partsAreProved RX0 (some .boolean) false ll_mN ll_mR ll_mK ll_cnt L xs false 81 (.inl (lo_iinc 84 6 1)) := lk_iinc (n := 1) (by decide +kernel) (by decide)
theorem k_6_84 (L : Nat) (xs : Nat → Int32) : ll_OK1 cX0_partsAreProved RX0 (some .boolean) false ll_mN ll_mR ll_mK ll_cnt L xs false 84 (.inl (lo_goto 24)) := lk_goto (off := (-60)) (by decide +kernel) rfl
theorem k_6_87 (L : Nat) (xs : Nat → Int32) : ll_OK1 cX0_partsAreProved RX0 (some .boolean) false ll_mN ll_mR ll_mK ll_cnt L xs false 87 (.inl (lo_iinc 90 4 1)) := lk_iinc (n := 1) (by decide +kernel) (by decide)
theorem k_6_90 (L : Nat) (xs : Nat → Int32) : ll_OK1 cX0_partsAreProved RX0 (some .boolean) false ll_mN ll_mR ll_mK ll_cnt L xs false 90 (.inl (lo_goto 3)) := lk_goto (off := (-87)) (by decide +kernel) rfl
theorem k_6_93 (L : Nat) (xs : Nat → Int32) : ll_OK1 cX0_partsAreProved RX0 (some .boolean) false ll_mN ll_mR ll_mK ll_cnt L xs false 93 (.inl (lo_push 94 (.int 1))) := lk_iconst (n := 1) (by decide +kernel) (by decide)
theorem k_6_94 (L : Nat) (xs : Nat → Int32) : ll_OK1 cX0_partsAreProved RX0 (some .boolean) false ll_mN ll_mR ll_mK ll_cnt L xs false 94 (.inr (.inr 2)) := ⟨(fun h => by cases h), (fun h => by cases h), fun _ => ⟨(by decide +kernel), rfl⟩⟩
theorem ok_6 (L : Nat) (xs : Nat → Int32) : ∀ q ∈ cd_6, ll_OK1 cX0_partsAreProved RX0 (some .boolean) false ll_mN ll_mR ll_mK ll_cnt L xs false q.1 q.2 :=
  List.forall_mem_cons.mpr ⟨k_6_0 L xs, List.forall_mem_cons.mpr ⟨k_6_1 L xs, List.forall_mem_cons.mpr ⟨k_6_3 L xs, List.forall_mem_cons.mpr ⟨k_6_5 L xs, List.forall_mem_cons.mpr ⟨k_6_6 L xs, List.forall_mem_cons.mpr ⟨k_6_9 L xs, List.forall_mem_cons.mpr ⟨k_6_10 L xs, List.forall_mem_cons.mpr ⟨k_6_13 L xs, List.forall_mem_cons.mpr ⟨k_6_14 L xs, List.forall_mem_cons.mpr ⟨k_6_16 L xs, List.forall_mem_cons.mpr ⟨k_6_19 L xs, List.forall_mem_cons.mpr ⟨k_6_21 L xs, List.forall_mem_cons.mpr ⟨k_6_22 L xs, List.forall_mem_cons.mpr ⟨k_6_24 L xs, List.forall_mem_cons.mpr ⟨k_6_26 L xs, List.forall_mem_cons.mpr ⟨k_6_27 L xs, List.forall_mem_cons.mpr ⟨k_6_30 L xs, List.forall_mem_cons.mpr ⟨k_6_31 L xs, List.forall_mem_cons.mpr ⟨k_6_33 L xs, List.forall_mem_cons.mpr ⟨k_6_36 L xs, List.forall_mem_cons.mpr ⟨k_6_39 L xs, List.forall_mem_cons.mpr ⟨k_6_40 L xs, List.forall_mem_cons.mpr ⟨k_6_43 L xs, List.forall_mem_cons.mpr ⟨k_6_44 L xs, List.forall_mem_cons.mpr ⟨k_6_46 L xs, List.forall_mem_cons.mpr ⟨k_6_48 L xs, List.forall_mem_cons.mpr ⟨k_6_51 L xs, List.forall_mem_cons.mpr ⟨k_6_53 L xs, List.forall_mem_cons.mpr ⟨k_6_54 L xs, List.forall_mem_cons.mpr ⟨k_6_55 L xs, List.forall_mem_cons.mpr ⟨k_6_57 L xs, List.forall_mem_cons.mpr ⟨k_6_59 L xs, List.forall_mem_cons.mpr ⟨k_6_62 L xs, List.forall_mem_cons.mpr ⟨k_6_65 L xs, List.forall_mem_cons.mpr ⟨k_6_66 L xs, List.forall_mem_cons.mpr ⟨k_6_68 L xs, List.forall_mem_cons.mpr ⟨k_6_69 L xs, List.forall_mem_cons.mpr ⟨k_6_70 L xs, List.forall_mem_cons.mpr ⟨k_6_73 L xs, List.forall_mem_cons.mpr ⟨k_6_74 L xs, List.forall_mem_cons.mpr ⟨k_6_76 L xs, List.forall_mem_cons.mpr ⟨k_6_79 L xs, List.forall_mem_cons.mpr ⟨k_6_80 L xs, List.forall_mem_cons.mpr ⟨k_6_81 L xs, List.forall_mem_cons.mpr ⟨k_6_84 L xs, List.forall_mem_cons.mpr ⟨k_6_87 L xs, List.forall_mem_cons.mpr ⟨k_6_90 L xs, List.forall_mem_cons.mpr ⟨k_6_93 L xs, List.forall_mem_cons.mpr ⟨k_6_94 L xs, fun _ h => absurd h List.not_mem_nil⟩⟩⟩⟩⟩⟩⟩⟩⟩⟩⟩⟩⟩⟩⟩⟩⟩⟩⟩⟩⟩⟩⟩⟩⟩⟩⟩⟩⟩⟩⟩⟩⟩⟩⟩⟩⟩⟩⟩⟩⟩⟩⟩⟩⟩⟩⟩⟩⟩
/-- InclusionProver$Kernel.hasPremiseFor.(III)Z -/
def cd_7 : List (Nat × ll_O) := [
  (0, .inl (lo_push 1 (.int 0))),
  (1, .inl (lo_istore 3 4)),
  (3, .inl (lo_iload 5 4)),
  (5, .inl (lo_aload 6 0)),
  (6, .inl (lo_getf 9 0 2)),
  (9, .inl (lo_getf 12 1 4)),
  (12, .inl (lo_iload 13 1)),
  (13, .inl (lo_ald 14 0)),
  (14, .inl (lo_cmp 80 17 (fun x y => decide (y ≤ x)))),
  (17, .inl (lo_aload 18 0)),
  (18, .inl (lo_getf 21 0 2)),
  (21, .inl (lo_iload 22 1)),
  (22, .inl (lo_iload 24 4)),
  (24, .inr (.inl (12, 3, 27))),
  (27, .inl (lo_istore 29 5)),
  (29, .inl (lo_aload 30 0)),
  (30, .inl (lo_getf 33 0 2)),
  (33, .inl (lo_iload 35 5)),
  (35, .inr (.inl (10, 2, 38))),
  (38, .inl (lo_if 74 41 (fun x => decide (x = 0)))),
  (41, .inl (lo_aload 42 0)),
  (42, .inl (lo_getf 45 0 2)),
  (45, .inl (lo_getf 48 1 0)),
  (48, .inl (lo_iload 50 5)),
  (50, .inl (lo_ald 51 0)),
  (51, .inl (lo_iload 52 2)),
  (52, .inl (lo_cmp 74 55 (fun x y => decide (¬ x = y)))),
  (55, .inl (lo_aload 56 0)),
  (56, .inl (lo_getf 59 0 2)),
  (59, .inl (lo_getf 62 1 1)),
  (62, .inl (lo_iload 64 5)),
  (64, .inl (lo_ald 65 0)),
  (65, .inl (lo_iload 66 3)),
  (66, .inl (lo_push 67 (.int (-1)))),
  (67, .inl (lo_bin 68 (fun x y => x ^^^ y))),
  (68, .inl (lo_bin 69 (fun x y => x &&& y))),
  (69, .inl (lo_if 74 72 (fun x => decide (¬ x = 0)))),
  (72, .inl (lo_push 73 (.int 1))),
  (73, .inr (.inr 2)),
  (74, .inl (lo_iinc 77 4 1)),
  (77, .inl (lo_goto 3)),
  (80, .inl (lo_push 81 (.int 0))),
  (81, .inr (.inr 2))]
theorem k_7_0 (L : Nat) (xs : Nat → Int32) : ll_OK1 cX0_hasPremiseFor RX0 (some .boolean) false ll_mN ll_mR ll_mK ll_cnt L xs false 0 (.inl (lo_push 1 (.int 0))) := lk_iconst (n := 0) (by decide +kernel) (by decide)
theorem k_7_1 (L : Nat) (xs : Nat → Int32) : ll_OK1 cX0_hasPremiseFor RX0 (some .boolean) false ll_mN ll_mR ll_mK ll_cnt L xs false 1 (.inl (lo_istore 3 4)) := lk_istore (by decide +kernel)
theorem k_7_3 (L : Nat) (xs : Nat → Int32) : ll_OK1 cX0_hasPremiseFor RX0 (some .boolean) false ll_mN ll_mR ll_mK ll_cnt L xs false 3 (.inl (lo_iload 5 4)) := lk_iload (by decide +kernel)
theorem k_7_5 (L : Nat) (xs : Nat → Int32) : ll_OK1 cX0_hasPremiseFor RX0 (some .boolean) false ll_mN ll_mR ll_mK ll_cnt L xs false 5 (.inl (lo_aload 6 0)) := lk_aload_n (k := 0) (by decide +kernel) rfl
theorem k_7_6 (L : Nat) (xs : Nat → Int32) : ll_OK1 cX0_hasPremiseFor RX0 (some .boolean) false ll_mN ll_mR ll_mK ll_cnt L xs false 6 (.inl (lo_getf 9 0 2)) := lk_getf (ix := 28) (ci := 0) (k := 2) (C := RX0) (T := TX0) (N := 7) (by decide +kernel) rfl in_0 (by decide) tb_8
theorem k_7_9 (L : Nat) (xs : Nat → Int32) : ll_OK1 cX0_hasPremiseFor RX0 (some .boolean) false ll_mN ll_mR ll_mK ll_cnt L xs false 9 (.inl (lo_getf 12 1 4)) := lk_getf (ix := 85) (ci := 1) (k := 4) (C := RX1) (T := TX1) (N := 12) (by decide +kernel) rfl in_1 (by decide) tb_41
theorem k_7_12 (L : Nat) (xs : Nat → Int32) : ll_OK1 cX0_hasPremiseFor RX0 (some .boolean) false ll_mN ll_mR ll_mK ll_cnt L xs false 12 (.inl (lo_iload 13 1)) := lk_iload_n (k := 1) (by decide +kernel) rfl
theorem k_7_13 (L : Nat) (xs : Nat → Int32) : ll_OK1 cX0_hasPremiseFor RX0 (some .boolean) false ll_mN ll_mR ll_mK ll_cnt L xs false 13 (.inl (lo_ald 14 0)) := lk_iald (by decide +kernel)
theorem k_7_14 (L : Nat) (xs : Nat → Int32) : ll_OK1 cX0_hasPremiseFor RX0 (some .boolean) false ll_mN ll_mR ll_mK ll_cnt L xs false 14 (.inl (lo_cmp 80 17 (fun x y => decide (y ≤ x)))) := lk_icmp_ge (off := 66) (by decide +kernel) rfl
theorem k_7_17 (L : Nat) (xs : Nat → Int32) : ll_OK1 cX0_hasPremiseFor RX0 (some .boolean) false ll_mN ll_mR ll_mK ll_cnt L xs false 17 (.inl (lo_aload 18 0)) := lk_aload_n (k := 0) (by decide +kernel) rfl
theorem k_7_18 (L : Nat) (xs : Nat → Int32) : ll_OK1 cX0_hasPremiseFor RX0 (some .boolean) false ll_mN ll_mR ll_mK ll_cnt L xs false 18 (.inl (lo_getf 21 0 2)) := lk_getf (ix := 28) (ci := 0) (k := 2) (C := RX0) (T := TX0) (N := 7) (by decide +kernel) rfl in_0 (by decide) tb_8
theorem k_7_21 (L : Nat) (xs : Nat → Int32) : ll_OK1 cX0_hasPremiseFor RX0 (some .boolean) false ll_mN ll_mR ll_mK ll_cnt L xs false 21 (.inl (lo_iload 22 1)) := lk_iload_n (k := 1) (by decide +kernel) rfl
theorem k_7_22 (L : Nat) (xs : Nat → Int32) : ll_OK1 cX0_hasPremiseFor RX0 (some .boolean) false ll_mN ll_mR ll_mK ll_cnt L xs false 22 (.inl (lo_iload 24 4)) := lk_iload (by decide +kernel)
theorem k_7_24 (L : Nat) (xs : Nat → Int32) : ll_OK1 cX0_hasPremiseFor RX0 (some .boolean) false ll_mN ll_mR ll_mK ll_cnt L xs false 24 (.inr (.inl (12, 3, 27))) := ⟨rfl, by decide, by rw [mN_12, mK_12, mR_12]; exact lj_v 88 2 1 (RX1, TX1, 12) (by decide +kernel) tb_42 tb_43 tb_44 rfl rfl rfl rfl (by decide +kernel)⟩
theorem k_7_27 (L : Nat) (xs : Nat → Int32) : ll_OK1 cX0_hasPremiseFor RX0 (some .boolean) false ll_mN ll_mR ll_mK ll_cnt L xs false 27 (.inl (lo_istore 29 5)) := lk_istore (by decide +kernel)
theorem k_7_29 (L : Nat) (xs : Nat → Int32) : ll_OK1 cX0_hasPremiseFor RX0 (some .boolean) false ll_mN ll_mR ll_mK ll_cnt L xs false 29 (.inl (lo_aload 30 0)) := lk_aload_n (k := 0) (by decide +kernel) rfl
theorem k_7_30 (L : Nat) (xs : Nat → Int32) : ll_OK1 cX0_hasPremiseFor RX0 (some .boolean) false ll_mN ll_mR ll_mK ll_cnt L xs false 30 (.inl (lo_getf 33 0 2)) := lk_getf (ix := 28) (ci := 0) (k := 2) (C := RX0) (T := TX0) (N := 7) (by decide +kernel) rfl in_0 (by decide) tb_8
theorem k_7_33 (L : Nat) (xs : Nat → Int32) : ll_OK1 cX0_hasPremiseFor RX0 (some .boolean) false ll_mN ll_mR ll_mK ll_cnt L xs false 33 (.inl (lo_iload 35 5)) := lk_iload (by decide +kernel)
theorem k_7_35 (L : Nat) (xs : Nat → Int32) : ll_OK1 cX0_hasPremiseFor RX0 (some .boolean) false ll_mN ll_mR ll_mK ll_cnt L xs false 35 (.inr (.inl (10, 2, 38))) := ⟨rfl, by decide, by rw [mN_10, mK_10, mR_10]; exact lj_v 92 1 1 (RX1, TX1, 12) (by decide +kernel) tb_45 tb_46 tb_47 rfl rfl rfl rfl (by decide +kernel)⟩
theorem k_7_38 (L : Nat) (xs : Nat → Int32) : ll_OK1 cX0_hasPremiseFor RX0 (some .boolean) false ll_mN ll_mR ll_mK ll_cnt L xs false 38 (.inl (lo_if 74 41 (fun x => decide (x = 0)))) := lk_if_eq (off := 36) (by decide +kernel) rfl
theorem k_7_41 (L : Nat) (xs : Nat → Int32) : ll_OK1 cX0_hasPremiseFor RX0 (some .boolean) false ll_mN ll_mR ll_mK ll_cnt L xs false 41 (.inl (lo_aload 42 0)) := lk_aload_n (k := 0) (by decide +kernel) rfl
theorem k_7_42 (L : Nat) (xs : Nat → Int32) : ll_OK1 cX0_hasPremiseFor RX0 (some .boolean) false ll_mN ll_mR ll_mK ll_cnt L xs false 42 (.inl (lo_getf 45 0 2)) := lk_getf (ix := 28) (ci := 0) (k := 2) (C := RX0) (T := TX0) (N := 7) (by decide +kernel) rfl in_0 (by decide) tb_8
theorem k_7_45 (L : Nat) (xs : Nat → Int32) : ll_OK1 cX0_hasPremiseFor RX0 (some .boolean) false ll_mN ll_mR ll_mK ll_cnt L xs false 45 (.inl (lo_getf 48 1 0)) := lk_getf (ix := 48) (ci := 1) (k := 0) (C := RX1) (T := TX1) (N := 12) (by decide +kernel) rfl in_1 (by decide) tb_17
theorem k_7_48 (L : Nat) (xs : Nat → Int32) : ll_OK1 cX0_hasPremiseFor RX0 (some .boolean) false ll_mN ll_mR ll_mK ll_cnt L xs false 48 (.inl (lo_iload 50 5)) := lk_iload (by decide +kernel)
theorem k_7_50 (L : Nat) (xs : Nat → Int32) : ll_OK1 cX0_hasPremiseFor RX0 (some .boolean) false ll_mN ll_mR ll_mK ll_cnt L xs false 50 (.inl (lo_ald 51 0)) := lk_iald (by decide +kernel)
theorem k_7_51 (L : Nat) (xs : Nat → Int32) : ll_OK1 cX0_hasPremiseFor RX0 (some .boolean) false ll_mN ll_mR ll_mK ll_cnt L xs false 51 (.inl (lo_iload 52 2)) := lk_iload_n (k := 2) (by decide +kernel) rfl
theorem k_7_52 (L : Nat) (xs : Nat → Int32) : ll_OK1 cX0_hasPremiseFor RX0 (some .boolean) false ll_mN ll_mR ll_mK ll_cnt L xs false 52 (.inl (lo_cmp 74 55 (fun x y => decide (¬ x = y)))) := lk_icmp_ne (off := 22) (by decide +kernel) rfl
theorem k_7_55 (L : Nat) (xs : Nat → Int32) : ll_OK1 cX0_hasPremiseFor RX0 (some .boolean) false ll_mN ll_mR ll_mK ll_cnt L xs false 55 (.inl (lo_aload 56 0)) := lk_aload_n (k := 0) (by decide +kernel) rfl
theorem k_7_56 (L : Nat) (xs : Nat → Int32) : ll_OK1 cX0_hasPremiseFor RX0 (some .boolean) false ll_mN ll_mR ll_mK ll_cnt L xs false 56 (.inl (lo_getf 59 0 2)) := lk_getf (ix := 28) (ci := 0) (k := 2) (C := RX0) (T := TX0) (N := 7) (by decide +kernel) rfl in_0 (by decide) tb_8
theorem k_7_59 (L : Nat) (xs : Nat → Int32) : ll_OK1 cX0_hasPremiseFor RX0 (some .boolean) false ll_mN ll_mR ll_mK ll_cnt L xs false 59 (.inl (lo_getf 62 1 1)) := lk_getf (ix := 52) (ci := 1) (k := 1) (C := RX1) (T := TX1) (N := 12) (by decide +kernel) rfl in_1 (by decide) tb_18
theorem k_7_62 (L : Nat) (xs : Nat → Int32) : ll_OK1 cX0_hasPremiseFor RX0 (some .boolean) false ll_mN ll_mR ll_mK ll_cnt L xs false 62 (.inl (lo_iload 64 5)) := lk_iload (by decide +kernel)
theorem k_7_64 (L : Nat) (xs : Nat → Int32) : ll_OK1 cX0_hasPremiseFor RX0 (some .boolean) false ll_mN ll_mR ll_mK ll_cnt L xs false 64 (.inl (lo_ald 65 0)) := lk_iald (by decide +kernel)
theorem k_7_65 (L : Nat) (xs : Nat → Int32) : ll_OK1 cX0_hasPremiseFor RX0 (some .boolean) false ll_mN ll_mR ll_mK ll_cnt L xs false 65 (.inl (lo_iload 66 3)) := lk_iload_n (k := 3) (by decide +kernel) rfl
theorem k_7_66 (L : Nat) (xs : Nat → Int32) : ll_OK1 cX0_hasPremiseFor RX0 (some .boolean) false ll_mN ll_mR ll_mK ll_cnt L xs false 66 (.inl (lo_push 67 (.int (-1)))) := lk_iconst (n := (-1)) (by decide +kernel) (by decide)
theorem k_7_67 (L : Nat) (xs : Nat → Int32) : ll_OK1 cX0_hasPremiseFor RX0 (some .boolean) false ll_mN ll_mR ll_mK ll_cnt L xs false 67 (.inl (lo_bin 68 (fun x y => x ^^^ y))) := lk_ixor (by decide +kernel)
theorem k_7_68 (L : Nat) (xs : Nat → Int32) : ll_OK1 cX0_hasPremiseFor RX0 (some .boolean) false ll_mN ll_mR ll_mK ll_cnt L xs false 68 (.inl (lo_bin 69 (fun x y => x &&& y))) := lk_iand (by decide +kernel)
theorem k_7_69 (L : Nat) (xs : Nat → Int32) : ll_OK1 cX0_hasPremiseFor RX0 (some .boolean) false ll_mN ll_mR ll_mK ll_cnt L xs false 69 (.inl (lo_if 74 72 (fun x => decide (¬ x = 0)))) := lk_if_ne (off := 5) (by decide +kernel) rfl
theorem k_7_72 (L : Nat) (xs : Nat → Int32) : ll_OK1 cX0_hasPremiseFor RX0 (some .boolean) false ll_mN ll_mR ll_mK ll_cnt L xs false 72 (.inl (lo_push 73 (.int 1))) := lk_iconst (n := 1) (by decide +kernel) (by decide)
theorem k_7_73 (L : Nat) (xs : Nat → Int32) : ll_OK1 cX0_hasPremiseFor RX0 (some .boolean) false ll_mN ll_mR ll_mK ll_cnt L xs false 73 (.inr (.inr 2)) := ⟨(fun h => by cases h), (fun h => by cases h), fun _ => ⟨(by decide +kernel), rfl⟩⟩
theorem k_7_74 (L : Nat) (xs : Nat → Int32) : ll_OK1 cX0_hasPremiseFor RX0 (some .boolean) false ll_mN ll_mR ll_mK ll_cnt L xs false 74 (.inl (lo_iinc 77 4 1)) := lk_iinc (n := 1) (by decide +kernel) (by decide)
theorem k_7_77 (L : Nat) (xs : Nat → Int32) : ll_OK1 cX0_hasPremiseFor RX0 (some .boolean) false ll_mN ll_mR ll_mK ll_cnt L xs false 77 (.inl (lo_goto 3)) := lk_goto (off := (-74)) (by decide +kernel) rfl
theorem k_7_80 (L : Nat) (xs : Nat → Int32) : ll_OK1 cX0_hasPremiseFor RX0 (some .boolean) false ll_mN ll_mR ll_mK ll_cnt L xs false 80 (.inl (lo_push 81 (.int 0))) := lk_iconst (n := 0) (by decide +kernel) (by decide)
theorem k_7_81 (L : Nat) (xs : Nat → Int32) : ll_OK1 cX0_hasPremiseFor RX0 (some .boolean) false ll_mN ll_mR ll_mK ll_cnt L xs false 81 (.inr (.inr 2)) := ⟨(fun h => by cases h), (fun h => by cases h), fun _ => ⟨(by decide +kernel), rfl⟩⟩
theorem ok_7 (L : Nat) (xs : Nat → Int32) : ∀ q ∈ cd_7, ll_OK1 cX0_hasPremiseFor RX0 (some .boolean) false ll_mN ll_mR ll_mK ll_cnt L xs false q.1 q.2 :=
  List.forall_mem_cons.mpr ⟨k_7_0 L xs, List.forall_mem_cons.mpr ⟨k_7_1 L xs, List.forall_mem_cons.mpr ⟨k_7_3 L xs, List.forall_mem_cons.mpr ⟨k_7_5 L xs, List.forall_mem_cons.mpr ⟨k_7_6 L xs, List.forall_mem_cons.mpr ⟨k_7_9 L xs, List.forall_mem_cons.mpr ⟨k_7_12 L xs, List.forall_mem_cons.mpr ⟨k_7_13 L xs, List.forall_mem_cons.mpr ⟨k_7_14 L xs, List.forall_mem_cons.mpr ⟨k_7_17 L xs, List.forall_mem_cons.mpr ⟨k_7_18 L xs, List.forall_mem_cons.mpr ⟨k_7_21 L xs, List.forall_mem_cons.mpr ⟨k_7_22 L xs, List.forall_mem_cons.mpr ⟨k_7_24 L xs, List.forall_mem_cons.mpr ⟨k_7_27 L xs, List.forall_mem_cons.mpr ⟨k_7_29 L xs, List.forall_mem_cons.mpr ⟨k_7_30 L xs, List.forall_mem_cons.mpr ⟨k_7_33 L xs, List.forall_mem_cons.mpr ⟨k_7_35 L xs, List.forall_mem_cons.mpr ⟨k_7_38 L xs, List.forall_mem_cons.mpr ⟨k_7_41 L xs, List.forall_mem_cons.mpr ⟨k_7_42 L xs, List.forall_mem_cons.mpr ⟨k_7_45 L xs, List.forall_mem_cons.mpr ⟨k_7_48 L xs, List.forall_mem_cons.mpr ⟨k_7_50 L xs, List.forall_mem_cons.mpr ⟨k_7_51 L xs, List.forall_mem_cons.mpr ⟨k_7_52 L xs, List.forall_mem_cons.mpr ⟨k_7_55 L xs, List.forall_mem_cons.mpr ⟨k_7_56 L xs, List.forall_mem_cons.mpr ⟨k_7_59 L xs, List.forall_mem_cons.mpr ⟨k_7_62 L xs, List.forall_mem_cons.mpr ⟨k_7_64 L xs, List.forall_mem_cons.mpr ⟨k_7_65 L xs, List.forall_mem_cons.mpr ⟨k_7_66 L xs, List.forall_mem_cons.mpr ⟨k_7_67 L xs, List.forall_mem_cons.mpr ⟨k_7_68 L xs, List.forall_mem_cons.mpr ⟨k_7_69 L xs, List.forall_mem_cons.mpr ⟨k_7_72 L xs, List.forall_mem_cons.mpr ⟨k_7_73 L xs, List.forall_mem_cons.mpr ⟨k_7_74 L xs, List.forall_mem_cons.mpr ⟨k_7_77 L xs, List.forall_mem_cons.mpr ⟨k_7_80 L xs, List.forall_mem_cons.mpr ⟨k_7_81 L xs, fun _ h => absurd h List.not_mem_nil⟩⟩⟩⟩⟩⟩⟩⟩⟩⟩⟩⟩⟩⟩⟩⟩⟩⟩⟩⟩⟩⟩⟩⟩⟩⟩⟩⟩⟩⟩⟩⟩⟩⟩⟩⟩⟩⟩⟩⟩⟩⟩⟩
/-- InclusionProver$Lines.<init>.()V -/
def cd_8 : List (Nat × ll_O) := [
  (0, .inl (lo_aload 1 0)),
  (1, .inl (lo_init 4)),
  (4, .inl (lo_aload 5 0)),
  (5, .inl (lo_push 8 (.int 300))),
  (8, .inl (lo_newa 10 0)),
  (10, .inl (lo_putf 13 1 0 2)),
  (13, .inl (lo_aload 14 0)),
  (14, .inl (lo_push 17 (.int 300))),
  (17, .inl (lo_newa 19 0)),
  (19, .inl (lo_putf 22 1 1 2)),
  (22, .inl (lo_aload 23 0)),
  (23, .inl (lo_push 26 (.int 300))),
  (26, .inl (lo_newa 28 0)),
  (28, .inl (lo_putf 31 1 2 2)),
  (31, .inl (lo_aload 32 0)),
  (32, .inl (lo_push 35 (.int 300))),
  (35, .inl (lo_newa 37 0)),
  (37, .inl (lo_putf 40 1 3 2)),
  (40, .inl (lo_aload 41 0)),
  (41, .inl (lo_push 44 (.int 300))),
  (44, .inl (lo_newa 46 0)),
  (46, .inl (lo_putf 49 1 4 2)),
  (49, .inl (lo_aload 50 0)),
  (50, .inl (lo_push 53 (.int 9300))),
  (53, .inl (lo_newa 55 0)),
  (55, .inl (lo_putf 58 1 5 2)),
  (58, .inl (lo_aload 59 0)),
  (59, .inl (lo_new 62 7 2 [.null, .int 0])),
  (62, .inl (lo_dup 63)),
  (63, .inl (lo_push 66 (.int 300))),
  (66, .inr (.inl (70, 2, 69))),
  (69, .inl (lo_putf 72 1 6 2)),
  (72, .inl (lo_aload 73 0)),
  (73, .inl (lo_push 76 (.int 300))),
  (76, .inl (lo_newa 78 0)),
  (78, .inl (lo_putf 81 1 7 2)),
  (81, .inr (.inr 0))]
theorem k_8_0 (L : Nat) (xs : Nat → Int32) : ll_OK1 cX1_init RX1 none true ll_mN ll_mR ll_mK ll_cnt L xs false 0 (.inl (lo_aload 1 0)) := lk_aload_n (k := 0) (by decide +kernel) rfl
theorem k_8_1 (L : Nat) (xs : Nat → Int32) : ll_OK1 cX1_init RX1 none true ll_mN ll_mR ll_mK ll_cnt L xs false 1 (.inl (lo_init 4)) := lk_init (ix := 3) (by decide +kernel) tb_60 tb_1 tb_2
theorem k_8_4 (L : Nat) (xs : Nat → Int32) : ll_OK1 cX1_init RX1 none true ll_mN ll_mR ll_mK ll_cnt L xs false 4 (.inl (lo_aload 5 0)) := lk_aload_n (k := 0) (by decide +kernel) rfl
theorem k_8_5 (L : Nat) (xs : Nat → Int32) : ll_OK1 cX1_init RX1 none true ll_mN ll_mR ll_mK ll_cnt L xs false 5 (.inl (lo_push 8 (.int 300))) := lk_sipush (n := 300) (by decide +kernel) (by decide)
theorem k_8_8 (L : Nat) (xs : Nat → Int32) : ll_OK1 cX1_init RX1 none true ll_mN ll_mR ll_mK ll_cnt L xs false 8 (.inl (lo_newa 10 0)) := lk_newa_int (by decide +kernel) tb_61
theorem k_8_10 (L : Nat) (xs : Nat → Int32) : ll_OK1 cX1_init RX1 none true ll_mN ll_mR ll_mK ll_cnt L xs false 10 (.inl (lo_putf 13 1 0 2)) := lk_putf (ix := 9) (ci := 1) (k := 0) (C := RX1) (T := TX1) (N := 12) (ty0 := tyX1) (by decide +kernel) rfl in_1 tyX1_ok nmX1 (by decide) tb_62 (fun B adr v w h1 h2 => ll_fit_arr (B := B) (adr := adr) h1 h2) (Or.inr ⟨rfl, rfl, rfl⟩)
theorem k_8_13 (L : Nat) (xs : Nat → Int32) : ll_OK1 cX1_init RX1 none true ll_mN ll_mR ll_mK ll_cnt L xs false 13 (.inl (lo_aload 14 0)) := lk_aload_n (k := 0) (by decide +kernel) rfl
theorem k_8_14 (L : Nat) (xs : Nat → Int32) : ll_OK1 cX1_init RX1 none true ll_mN ll_mR ll_mK ll_cnt L xs false 14 (.inl (lo_push 17 (.int 300))) := lk_sipush (n := 300) (by decide +kernel) (by decide)
theorem k_8_17 (L : Nat) (xs : Nat → Int32) : ll_OK1 cX1_init RX1 none true ll_mN ll_mR ll_mK ll_cnt L xs false 17 (.inl (lo_newa 19 0)) := lk_newa_int (by decide +kernel) tb_61
theorem k_8_19 (L : Nat) (xs : Nat → Int32) : ll_OK1 cX1_init RX1 none true ll_mN ll_mR ll_mK ll_cnt L xs false 19 (.inl (lo_putf 22 1 1 2)) := lk_putf (ix := 15) (ci := 1) (k := 1) (C := RX1) (T := TX1) (N := 12) (ty0 := tyX1) (by decide +kernel) rfl in_1 tyX1_ok nmX1 (by decide) tb_63 (fun B adr v w h1 h2 => ll_fit_arr (B := B) (adr := adr) h1 h2) (Or.inr ⟨rfl, rfl, rfl⟩)
theorem k_8_22 (L : Nat) (xs : Nat → Int32) : ll_OK1 cX1_init RX1 none true ll_mN ll_mR ll_mK ll_cnt L xs false 22 (.inl (lo_aload 23 0)) := lk_aload_n (k := 0) (by decide +kernel) rfl
theorem k_8_23 (L : Nat) (xs : Nat → Int32) : ll_OK1 cX1_init RX1 none true ll_mN ll_mR ll_mK ll_cnt L xs false 23 (.inl (lo_push 26 (.int 300))) := lk_sipush (n := 300) (by decide +kernel) (by decide)
theorem k_8_26 (L : Nat) (xs : Nat → Int32) : ll_OK1 cX1_init RX1 none true ll_mN ll_mR ll_mK ll_cnt L xs false 26 (.inl (lo_newa 28 0)) := lk_newa_int (by decide +kernel) tb_61
theorem k_8_28 (L : Nat) (xs : Nat → Int32) : ll_OK1 cX1_init RX1 none true ll_mN ll_mR ll_mK ll_cnt L xs false 28 (.inl (lo_putf 31 1 2 2)) := lk_putf (ix := 18) (ci := 1) (k := 2) (C := RX1) (T := TX1) (N := 12) (ty0 := tyX1) (by decide +kernel) rfl in_1 tyX1_ok nmX1 (by decide) tb_64 (fun B adr v w h1 h2 => ll_fit_arr (B := B) (adr := adr) h1 h2) (Or.inr ⟨rfl, rfl, rfl⟩)
theorem k_8_31 (L : Nat) (xs : Nat → Int32) : ll_OK1 cX1_init RX1 none true ll_mN ll_mR ll_mK ll_cnt L xs false 31 (.inl (lo_aload 32 0)) := lk_aload_n (k := 0) (by decide +kernel) rfl
theorem k_8_32 (L : Nat) (xs : Nat → Int32) : ll_OK1 cX1_init RX1 none true ll_mN ll_mR ll_mK ll_cnt L xs false 32 (.inl (lo_push 35 (.int 300))) := lk_sipush (n := 300) (by decide +kernel) (by decide)
theorem k_8_35 (L : Nat) (xs : Nat → Int32) : ll_OK1 cX1_init RX1 none true ll_mN ll_mR ll_mK ll_cnt L xs false 35 (.inl (lo_newa 37 0)) := lk_newa_int (by decide +kernel) tb_61
theorem k_8_37 (L : Nat) (xs : Nat → Int32) : ll_OK1 cX1_init RX1 none true ll_mN ll_mR ll_mK ll_cnt L xs false 37 (.inl (lo_putf 40 1 3 2)) := lk_putf (ix := 21) (ci := 1) (k := 3) (C := RX1) (T := TX1) (N := 12) (ty0 := tyX1) (by decide +kernel) rfl in_1 tyX1_ok nmX1 (by decide) tb_65 (fun B adr v w h1 h2 => ll_fit_arr (B := B) (adr := adr) h1 h2) (Or.inr ⟨rfl, rfl, rfl⟩)
theorem k_8_40 (L : Nat) (xs : Nat → Int32) : ll_OK1 cX1_init RX1 none true ll_mN ll_mR ll_mK ll_cnt L xs false 40 (.inl (lo_aload 41 0)) := lk_aload_n (k := 0) (by decide +kernel) rfl
theorem k_8_41 (L : Nat) (xs : Nat → Int32) : ll_OK1 cX1_init RX1 none true ll_mN ll_mR ll_mK ll_cnt L xs false 41 (.inl (lo_push 44 (.int 300))) := lk_sipush (n := 300) (by decide +kernel) (by decide)
theorem k_8_44 (L : Nat) (xs : Nat → Int32) : ll_OK1 cX1_init RX1 none true ll_mN ll_mR ll_mK ll_cnt L xs false 44 (.inl (lo_newa 46 0)) := lk_newa_int (by decide +kernel) tb_61
theorem k_8_46 (L : Nat) (xs : Nat → Int32) : ll_OK1 cX1_init RX1 none true ll_mN ll_mR ll_mK ll_cnt L xs false 46 (.inl (lo_putf 49 1 4 2)) := lk_putf (ix := 24) (ci := 1) (k := 4) (C := RX1) (T := TX1) (N := 12) (ty0 := tyX1) (by decide +kernel) rfl in_1 tyX1_ok nmX1 (by decide) tb_66 (fun B adr v w h1 h2 => ll_fit_arr (B := B) (adr := adr) h1 h2) (Or.inr ⟨rfl, rfl, rfl⟩)
theorem k_8_49 (L : Nat) (xs : Nat → Int32) : ll_OK1 cX1_init RX1 none true ll_mN ll_mR ll_mK ll_cnt L xs false 49 (.inl (lo_aload 50 0)) := lk_aload_n (k := 0) (by decide +kernel) rfl
theorem k_8_50 (L : Nat) (xs : Nat → Int32) : ll_OK1 cX1_init RX1 none true ll_mN ll_mR ll_mK ll_cnt L xs false 50 (.inl (lo_push 53 (.int 9300))) := lk_sipush (n := 9300) (by decide +kernel) (by decide)
theorem k_8_53 (L : Nat) (xs : Nat → Int32) : ll_OK1 cX1_init RX1 none true ll_mN ll_mR ll_mK ll_cnt L xs false 53 (.inl (lo_newa 55 0)) := lk_newa_int (by decide +kernel) tb_61
theorem k_8_55 (L : Nat) (xs : Nat → Int32) : ll_OK1 cX1_init RX1 none true ll_mN ll_mR ll_mK ll_cnt L xs false 55 (.inl (lo_putf 58 1 5 2)) := lk_putf (ix := 27) (ci := 1) (k := 5) (C := RX1) (T := TX1) (N := 12) (ty0 := tyX1) (by decide +kernel) rfl in_1 tyX1_ok nmX1 (by decide) tb_67 (fun B adr v w h1 h2 => ll_fit_arr (B := B) (adr := adr) h1 h2) (Or.inr ⟨rfl, rfl, rfl⟩)
theorem k_8_58 (L : Nat) (xs : Nat → Int32) : ll_OK1 cX1_init RX1 none true ll_mN ll_mR ll_mK ll_cnt L xs false 58 (.inl (lo_aload 59 0)) := lk_aload_n (k := 0) (by decide +kernel) rfl
theorem k_8_59 (L : Nat) (xs : Nat → Int32) : ll_OK1 cX1_init RX1 none true ll_mN ll_mR ll_mK ll_cnt L xs false 59 (.inl (lo_new 62 7 2 [.null, .int 0])) := lk_new (ix := 30) (ci := 7) (N := 2) (C := RX7) (T := TX7) (ty0 := tyX7) (by decide +kernel) rfl in_7 tyX7_ok tb_68 tb_69 tb_70 rfl (by decide +kernel) (by decide +kernel)
theorem k_8_62 (L : Nat) (xs : Nat → Int32) : ll_OK1 cX1_init RX1 none true ll_mN ll_mR ll_mK ll_cnt L xs false 62 (.inl (lo_dup 63)) := lk_dup (by decide +kernel)
theorem k_8_63 (L : Nat) (xs : Nat → Int32) : ll_OK1 cX1_init RX1 none true ll_mN ll_mR ll_mK ll_cnt L xs false 63 (.inl (lo_push 66 (.int 300))) := lk_sipush (n := 300) (by decide +kernel) (by decide)
theorem k_8_66 (L : Nat) (xs : Nat → Int32) : ll_OK1 cX1_init RX1 none true ll_mN ll_mR ll_mK ll_cnt L xs false 66 (.inr (.inl (70, 2, 69))) := ⟨rfl, by decide, by rw [mN_70, mK_70, mR_70]; exact lj_i 32 1 7 (by decide +kernel) (Or.inl tb_71) tb_72 rfl rfl rfl (by decide +kernel) rfl⟩
theorem k_8_69 (L : Nat) (xs : Nat → Int32) : ll_OK1 cX1_init RX1 none true ll_mN ll_mR ll_mK ll_cnt L xs false 69 (.inl (lo_putf 72 1 6 2)) := lk_putf (ix := 35) (ci := 1) (k := 6) (C := RX1) (T := TX1) (N := 12) (ty0 := tyX1) (by decide +kernel) rfl in_1 tyX1_ok nmX1 (by decide) tb_73 (fun B adr v w h1 h2 => ll_fit_obj (B := B) (adr := adr) h1 h2) (Or.inr ⟨rfl, rfl, rfl⟩)
theorem k_8_72 (L : Nat) (xs : Nat → Int32) : ll_OK1 cX1_init RX1 none true ll_mN ll_mR ll_mK ll_cnt L xs false 72 (.inl (lo_aload 73 0)) := lk_aload_n (k := 0) (by decide +kernel) rfl
theorem k_8_73 (L : Nat) (xs : Nat → Int32) : ll_OK1 cX1_init RX1 none true ll_mN ll_mR ll_mK ll_cnt L xs false 73 (.inl (lo_push 76 (.int 300))) := lk_sipush (n := 300) (by decide +kernel) (by decide)
theorem k_8_76 (L : Nat) (xs : Nat → Int32) : ll_OK1 cX1_init RX1 none true ll_mN ll_mR ll_mK ll_cnt L xs false 76 (.inl (lo_newa 78 0)) := lk_newa_int (by decide +kernel) tb_61
theorem k_8_78 (L : Nat) (xs : Nat → Int32) : ll_OK1 cX1_init RX1 none true ll_mN ll_mR ll_mK ll_cnt L xs false 78 (.inl (lo_putf 81 1 7 2)) := lk_putf (ix := 39) (ci := 1) (k := 7) (C := RX1) (T := TX1) (N := 12) (ty0 := tyX1) (by decide +kernel) rfl in_1 tyX1_ok nmX1 (by decide) tb_74 (fun B adr v w h1 h2 => ll_fit_arr (B := B) (adr := adr) h1 h2) (Or.inr ⟨rfl, rfl, rfl⟩)
theorem k_8_81 (L : Nat) (xs : Nat → Int32) : ll_OK1 cX1_init RX1 none true ll_mN ll_mR ll_mK ll_cnt L xs false 81 (.inr (.inr 0)) := ⟨fun _ => ⟨(by decide +kernel), rfl⟩, (fun h => by cases h), fun h => by cases h⟩
theorem ok_8 (L : Nat) (xs : Nat → Int32) : ∀ q ∈ cd_8, ll_OK1 cX1_init RX1 none true ll_mN ll_mR ll_mK ll_cnt L xs false q.1 q.2 :=
  List.forall_mem_cons.mpr ⟨k_8_0 L xs, List.forall_mem_cons.mpr ⟨k_8_1 L xs, List.forall_mem_cons.mpr ⟨k_8_4 L xs, List.forall_mem_cons.mpr ⟨k_8_5 L xs, List.forall_mem_cons.mpr ⟨k_8_8 L xs, List.forall_mem_cons.mpr ⟨k_8_10 L xs, List.forall_mem_cons.mpr ⟨k_8_13 L xs, List.forall_mem_cons.mpr ⟨k_8_14 L xs, List.forall_mem_cons.mpr ⟨k_8_17 L xs, List.forall_mem_cons.mpr ⟨k_8_19 L xs, List.forall_mem_cons.mpr ⟨k_8_22 L xs, List.forall_mem_cons.mpr ⟨k_8_23 L xs, List.forall_mem_cons.mpr ⟨k_8_26 L xs, List.forall_mem_cons.mpr ⟨k_8_28 L xs, List.forall_mem_cons.mpr ⟨k_8_31 L xs, List.forall_mem_cons.mpr ⟨k_8_32 L xs, List.forall_mem_cons.mpr ⟨k_8_35 L xs, List.forall_mem_cons.mpr ⟨k_8_37 L xs, List.forall_mem_cons.mpr ⟨k_8_40 L xs, List.forall_mem_cons.mpr ⟨k_8_41 L xs, List.forall_mem_cons.mpr ⟨k_8_44 L xs, List.forall_mem_cons.mpr ⟨k_8_46 L xs, List.forall_mem_cons.mpr ⟨k_8_49 L xs, List.forall_mem_cons.mpr ⟨k_8_50 L xs, List.forall_mem_cons.mpr ⟨k_8_53 L xs, List.forall_mem_cons.mpr ⟨k_8_55 L xs, List.forall_mem_cons.mpr ⟨k_8_58 L xs, List.forall_mem_cons.mpr ⟨k_8_59 L xs, List.forall_mem_cons.mpr ⟨k_8_62 L xs, List.forall_mem_cons.mpr ⟨k_8_63 L xs, List.forall_mem_cons.mpr ⟨k_8_66 L xs, List.forall_mem_cons.mpr ⟨k_8_69 L xs, List.forall_mem_cons.mpr ⟨k_8_72 L xs, List.forall_mem_cons.mpr ⟨k_8_73 L xs, List.forall_mem_cons.mpr ⟨k_8_76 L xs, List.forall_mem_cons.mpr ⟨k_8_78 L xs, List.forall_mem_cons.mpr ⟨k_8_81 L xs, fun _ h => absurd h List.not_mem_nil⟩⟩⟩⟩⟩⟩⟩⟩⟩⟩⟩⟩⟩⟩⟩⟩⟩⟩⟩⟩⟩⟩⟩⟩⟩⟩⟩⟩⟩⟩⟩⟩⟩⟩⟩⟩⟩
/-- InclusionProver$Lines.clear.()V -/
def cd_9 : List (Nat × ll_O) := [
  (0, .inl (lo_aload 1 0)),
  (1, .inl (lo_push 2 (.int 0))),
  (2, .inl (lo_putf 5 1 8 0)),
  (5, .inl (lo_aload 6 0)),
  (6, .inl (lo_push 7 (.int 0))),
  (7, .inl (lo_putf 10 1 9 0)),
  (10, .inl (lo_aload 11 0)),
  (11, .inl (lo_push 12 (.int 0))),
  (12, .inl (lo_putf 15 1 10 0)),
  (15, .inl (lo_aload 16 0)),
  (16, .inl (lo_push 17 (.int 0))),
  (17, .inl (lo_putf 20 1 11 1)),
  (20, .inl (lo_aload 21 0)),
  (21, .inl (lo_getf 24 1 6)),
  (24, .inr (.inl (71, 1, 27))),
  (27, .inr (.inr 0))]
theorem k_9_0 (L : Nat) (xs : Nat → Int32) : ll_OK1 cX1_clear RX1 none false ll_mN ll_mR ll_mK ll_cnt L xs false 0 (.inl (lo_aload 1 0)) := lk_aload_n (k := 0) (by decide +kernel) rfl
theorem k_9_1 (L : Nat) (xs : Nat → Int32) : ll_OK1 cX1_clear RX1 none false ll_mN ll_mR ll_mK ll_cnt L xs false 1 (.inl (lo_push 2 (.int 0))) := lk_iconst (n := 0) (by decide +kernel) (by decide)
theorem k_9_2 (L : Nat) (xs : Nat → Int32) : ll_OK1 cX1_clear RX1 none false ll_mN ll_mR ll_mK ll_cnt L xs false 2 (.inl (lo_putf 5 1 8 0)) := lk_putf (ix := 42) (ci := 1) (k := 8) (C := RX1) (T := TX1) (N := 12) (ty0 := tyX1) (by decide +kernel) rfl in_1 tyX1_ok nmX1 (by decide) tb_75 (fun B adr v w h1 h2 => ll_fit_int (B := B) (adr := adr) h1 h2) (Or.inl rfl)
theorem k_9_5 (L : Nat) (xs : Nat → Int32) : ll_OK1 cX1_clear RX1 none false ll_mN ll_mR ll_mK ll_cnt L xs false 5 (.inl (lo_aload 6 0)) := lk_aload_n (k := 0) (by decide +kernel) rfl
theorem k_9_6 (L : Nat) (xs : Nat → Int32) : ll_OK1 cX1_clear RX1 none false ll_mN ll_mR ll_mK ll_cnt L xs false 6 (.inl (lo_push 7 (.int 0))) := lk_iconst (n := 0) (by decide +kernel) (by decide)
theorem k_9_7 (L : Nat) (xs : Nat → Int32) : ll_OK1 cX1_clear RX1 none false ll_mN ll_mR ll_mK ll_cnt L xs false 7 (.inl (lo_putf 10 1 9 0)) := lk_putf (ix := 46) (ci := 1) (k := 9) (C := RX1) (T := TX1) (N := 12) (ty0 := tyX1) (by decide +kernel) rfl in_1 tyX1_ok nmX1 (by decide) tb_76 (fun B adr v w h1 h2 => ll_fit_int (B := B) (adr := adr) h1 h2) (Or.inl rfl)
theorem k_9_10 (L : Nat) (xs : Nat → Int32) : ll_OK1 cX1_clear RX1 none false ll_mN ll_mR ll_mK ll_cnt L xs false 10 (.inl (lo_aload 11 0)) := lk_aload_n (k := 0) (by decide +kernel) rfl
theorem k_9_11 (L : Nat) (xs : Nat → Int32) : ll_OK1 cX1_clear RX1 none false ll_mN ll_mR ll_mK ll_cnt L xs false 11 (.inl (lo_push 12 (.int 0))) := lk_iconst (n := 0) (by decide +kernel) (by decide)
theorem k_9_12 (L : Nat) (xs : Nat → Int32) : ll_OK1 cX1_clear RX1 none false ll_mN ll_mR ll_mK ll_cnt L xs false 12 (.inl (lo_putf 15 1 10 0)) := lk_putf (ix := 49) (ci := 1) (k := 10) (C := RX1) (T := TX1) (N := 12) (ty0 := tyX1) (by decide +kernel) rfl in_1 tyX1_ok nmX1 (by decide) tb_77 (fun B adr v w h1 h2 => ll_fit_int (B := B) (adr := adr) h1 h2) (Or.inl rfl)
theorem k_9_15 (L : Nat) (xs : Nat → Int32) : ll_OK1 cX1_clear RX1 none false ll_mN ll_mR ll_mK ll_cnt L xs false 15 (.inl (lo_aload 16 0)) := lk_aload_n (k := 0) (by decide +kernel) rfl
theorem k_9_16 (L : Nat) (xs : Nat → Int32) : ll_OK1 cX1_clear RX1 none false ll_mN ll_mR ll_mK ll_cnt L xs false 16 (.inl (lo_push 17 (.int 0))) := lk_iconst (n := 0) (by decide +kernel) (by decide)
theorem k_9_17 (L : Nat) (xs : Nat → Int32) : ll_OK1 cX1_clear RX1 none false ll_mN ll_mR ll_mK ll_cnt L xs false 17 (.inl (lo_putf 20 1 11 1)) := lk_putf (ix := 52) (ci := 1) (k := 11) (C := RX1) (T := TX1) (N := 12) (ty0 := tyX1) (by decide +kernel) rfl in_1 tyX1_ok nmX1 (by decide) tb_78 (fun B adr v w h1 h2 => ll_fit_bool (B := B) (adr := adr) h1 h2) (Or.inl rfl)
theorem k_9_20 (L : Nat) (xs : Nat → Int32) : ll_OK1 cX1_clear RX1 none false ll_mN ll_mR ll_mK ll_cnt L xs false 20 (.inl (lo_aload 21 0)) := lk_aload_n (k := 0) (by decide +kernel) rfl
theorem k_9_21 (L : Nat) (xs : Nat → Int32) : ll_OK1 cX1_clear RX1 none false ll_mN ll_mR ll_mK ll_cnt L xs false 21 (.inl (lo_getf 24 1 6)) := lk_getf (ix := 35) (ci := 1) (k := 6) (C := RX1) (T := TX1) (N := 12) (by decide +kernel) rfl in_1 (by decide) tb_73
theorem k_9_24 (L : Nat) (xs : Nat → Int32) : ll_OK1 cX1_clear RX1 none false ll_mN ll_mR ll_mK ll_cnt L xs false 24 (.inr (.inl (71, 1, 27))) := ⟨rfl, by decide, by rw [mN_71, mK_71, mR_71]; exact lj_v 56 0 7 (RX7, TX7, 2) (by decide +kernel) tb_79 tb_80 tb_81 rfl rfl rfl rfl (by decide +kernel)⟩
theorem k_9_27 (L : Nat) (xs : Nat → Int32) : ll_OK1 cX1_clear RX1 none false ll_mN ll_mR ll_mK ll_cnt L xs false 27 (.inr (.inr 0)) := ⟨fun _ => ⟨(by decide +kernel), rfl⟩, (fun h => by cases h), fun h => by cases h⟩
theorem ok_9 (L : Nat) (xs : Nat → Int32) : ∀ q ∈ cd_9, ll_OK1 cX1_clear RX1 none false ll_mN ll_mR ll_mK ll_cnt L xs false q.1 q.2 :=
  List.forall_mem_cons.mpr ⟨k_9_0 L xs, List.forall_mem_cons.mpr ⟨k_9_1 L xs, List.forall_mem_cons.mpr ⟨k_9_2 L xs, List.forall_mem_cons.mpr ⟨k_9_5 L xs, List.forall_mem_cons.mpr ⟨k_9_6 L xs, List.forall_mem_cons.mpr ⟨k_9_7 L xs, List.forall_mem_cons.mpr ⟨k_9_10 L xs, List.forall_mem_cons.mpr ⟨k_9_11 L xs, List.forall_mem_cons.mpr ⟨k_9_12 L xs, List.forall_mem_cons.mpr ⟨k_9_15 L xs, List.forall_mem_cons.mpr ⟨k_9_16 L xs, List.forall_mem_cons.mpr ⟨k_9_17 L xs, List.forall_mem_cons.mpr ⟨k_9_20 L xs, List.forall_mem_cons.mpr ⟨k_9_21 L xs, List.forall_mem_cons.mpr ⟨k_9_24 L xs, List.forall_mem_cons.mpr ⟨k_9_27 L xs, fun _ h => absurd h List.not_mem_nil⟩⟩⟩⟩⟩⟩⟩⟩⟩⟩⟩⟩⟩⟩⟩⟩
/-- InclusionProver$Lines.isLine.(I)Z -/
def cd_10 : List (Nat × ll_O) := [
  (0, .inl (lo_iload 1 1)),
  (1, .inl (lo_if 16 4 (fun x => decide (x < 0)))),
  (4, .inl (lo_iload 5 1)),
  (5, .inl (lo_aload 6 0)),
  (6, .inl (lo_getf 9 1 8)),
  (9, .inl (lo_cmp 16 12 (fun x y => decide (y ≤ x)))),
  (12, .inl (lo_push 13 (.int 1))),
  (13, .inl (lo_goto 17)),
  (16, .inl (lo_push 17 (.int 0))),
  (17, .inr (.inr 2))]
theorem k_10_0 (L : Nat) (xs : Nat → Int32) : ll_OK1 cX1_isLine RX1 (some .boolean) false ll_mN ll_mR ll_mK ll_cnt L xs false 0 (.inl (lo_iload 1 1)) := lk_iload_n (k := 1) (by decide +kernel) rfl
theorem k_10_1 (L : Nat) (xs : Nat → Int32) : ll_OK1 cX1_isLine RX1 (some .boolean) false ll_mN ll_mR ll_mK ll_cnt L xs false 1 (.inl (lo_if 16 4 (fun x => decide (x < 0)))) := lk_if_lt (off := 15) (by decide +kernel) rfl
theorem k_10_4 (L : Nat) (xs : Nat → Int32) : ll_OK1 cX1_isLine RX1 (some .boolean) false ll_mN ll_mR ll_mK ll_cnt L xs false 4 (.inl (lo_iload 5 1)) := lk_iload_n (k := 1) (by decide +kernel) rfl
theorem k_10_5 (L : Nat) (xs : Nat → Int32) : ll_OK1 cX1_isLine RX1 (some .boolean) false ll_mN ll_mR ll_mK ll_cnt L xs false 5 (.inl (lo_aload 6 0)) := lk_aload_n (k := 0) (by decide +kernel) rfl
theorem k_10_6 (L : Nat) (xs : Nat → Int32) : ll_OK1 cX1_isLine RX1 (some .boolean) false ll_mN ll_mR ll_mK ll_cnt L xs false 6 (.inl (lo_getf 9 1 8)) := lk_getf (ix := 42) (ci := 1) (k := 8) (C := RX1) (T := TX1) (N := 12) (by decide +kernel) rfl in_1 (by decide) tb_75
theorem k_10_9 (L : Nat) (xs : Nat → Int32) : ll_OK1 cX1_isLine RX1 (some .boolean) false ll_mN ll_mR ll_mK ll_cnt L xs false 9 (.inl (lo_cmp 16 12 (fun x y => decide (y ≤ x)))) := lk_icmp_ge (off := 7) (by decide +kernel) rfl
theorem k_10_12 (L : Nat) (xs : Nat → Int32) : ll_OK1 cX1_isLine RX1 (some .boolean) false ll_mN ll_mR ll_mK ll_cnt L xs false 12 (.inl (lo_push 13 (.int 1))) := lk_iconst (n := 1) (by decide +kernel) (by decide)
theorem k_10_13 (L : Nat) (xs : Nat → Int32) : ll_OK1 cX1_isLine RX1 (some .boolean) false ll_mN ll_mR ll_mK ll_cnt L xs false 13 (.inl (lo_goto 17)) := lk_goto (off := 4) (by decide +kernel) rfl
theorem k_10_16 (L : Nat) (xs : Nat → Int32) : ll_OK1 cX1_isLine RX1 (some .boolean) false ll_mN ll_mR ll_mK ll_cnt L xs false 16 (.inl (lo_push 17 (.int 0))) := lk_iconst (n := 0) (by decide +kernel) (by decide)
theorem k_10_17 (L : Nat) (xs : Nat → Int32) : ll_OK1 cX1_isLine RX1 (some .boolean) false ll_mN ll_mR ll_mK ll_cnt L xs false 17 (.inr (.inr 2)) := ⟨(fun h => by cases h), (fun h => by cases h), fun _ => ⟨(by decide +kernel), rfl⟩⟩
theorem ok_10 (L : Nat) (xs : Nat → Int32) : ∀ q ∈ cd_10, ll_OK1 cX1_isLine RX1 (some .boolean) false ll_mN ll_mR ll_mK ll_cnt L xs false q.1 q.2 :=
  List.forall_mem_cons.mpr ⟨k_10_0 L xs, List.forall_mem_cons.mpr ⟨k_10_1 L xs, List.forall_mem_cons.mpr ⟨k_10_4 L xs, List.forall_mem_cons.mpr ⟨k_10_5 L xs, List.forall_mem_cons.mpr ⟨k_10_6 L xs, List.forall_mem_cons.mpr ⟨k_10_9 L xs, List.forall_mem_cons.mpr ⟨k_10_12 L xs, List.forall_mem_cons.mpr ⟨k_10_13 L xs, List.forall_mem_cons.mpr ⟨k_10_16 L xs, List.forall_mem_cons.mpr ⟨k_10_17 L xs, fun _ h => absurd h List.not_mem_nil⟩⟩⟩⟩⟩⟩⟩⟩⟩⟩
/-- InclusionProver$Lines.isPremise.(II)Z -/
def cd_11 : List (Nat × ll_O) := [
  (0, .inl (lo_aload 1 0)),
  (1, .inl (lo_iload 2 1)),
  (2, .inr (.inl (10, 2, 5))),
  (5, .inl (lo_if 31 8 (fun x => decide (x = 0)))),
  (8, .inl (lo_iload 9 2)),
  (9, .inl (lo_push 11 (.int 10))),
  (11, .inl (lo_cmp 31 14 (fun x y => decide (x < y)))),
  (14, .inl (lo_iload 15 2)),
  (15, .inl (lo_push 17 (.int 10))),
  (17, .inl (lo_bin 18 (fun x y => x - y))),
  (18, .inl (lo_aload 19 0)),
  (19, .inl (lo_getf 22 1 4)),
  (22, .inl (lo_iload 23 1)),
  (23, .inl (lo_ald 24 0)),
  (24, .inl (lo_cmp 31 27 (fun x y => decide (y ≤ x)))),
  (27, .inl (lo_push 28 (.int 1))),
  (28, .inl (lo_goto 32)),
  (31, .inl (lo_push 32 (.int 0))),
  (32, .inr (.inr 2))]
theorem k_11_0 (L : Nat) (xs : Nat → Int32) : ll_OK1 cX1_isPremise RX1 (some .boolean) false ll_mN ll_mR ll_mK ll_cnt L xs false 0 (.inl (lo_aload 1 0)) := lk_aload_n (k := 0) (by decide +kernel) rfl
theorem k_11_1 (L : Nat) (xs : Nat → Int32) : ll_OK1 cX1_isPremise RX1 (some .boolean) false ll_mN ll_mR ll_mK ll_cnt L xs false 1 (.inl (lo_iload 2 1)) := lk_iload_n (k := 1) (by decide +kernel) rfl
theorem k_11_2 (L : Nat) (xs : Nat → Int32) : ll_OK1 cX1_isPremise RX1 (some .boolean) false ll_mN ll_mR ll_mK ll_cnt L xs false 2 (.inr (.inl (10, 2, 5))) := ⟨rfl, by decide, by rw [mN_10, mK_10, mR_10]; exact lj_v 59 1 1 (RX1, TX1, 12) (by decide +kernel) tb_82 tb_46 tb_47 rfl rfl rfl rfl (by decide +kernel)⟩
theorem k_11_5 (L : Nat) (xs : Nat → Int32) : ll_OK1 cX1_isPremise RX1 (some .boolean) false ll_mN ll_mR ll_mK ll_cnt L xs false 5 (.inl (lo_if 31 8 (fun x => decide (x = 0)))) := lk_if_eq (off := 26) (by decide +kernel) rfl
theorem k_11_8 (L : Nat) (xs : Nat → Int32) : ll_OK1 cX1_isPremise RX1 (some .boolean) false ll_mN ll_mR ll_mK ll_cnt L xs false 8 (.inl (lo_iload 9 2)) := lk_iload_n (k := 2) (by decide +kernel) rfl
theorem k_11_9 (L : Nat) (xs : Nat → Int32) : ll_OK1 cX1_isPremise RX1 (some .boolean) false ll_mN ll_mR ll_mK ll_cnt L xs false 9 (.inl (lo_push 11 (.int 10))) := lk_bipush (n := 10) (by decide +kernel) (by decide)
theorem k_11_11 (L : Nat) (xs : Nat → Int32) : ll_OK1 cX1_isPremise RX1 (some .boolean) false ll_mN ll_mR ll_mK ll_cnt L xs false 11 (.inl (lo_cmp 31 14 (fun x y => decide (x < y)))) := lk_icmp_lt (off := 20) (by decide +kernel) rfl
theorem k_11_14 (L : Nat) (xs : Nat → Int32) : ll_OK1 cX1_isPremise RX1 (some .boolean) false ll_mN ll_mR ll_mK ll_cnt L xs false 14 (.inl (lo_iload 15 2)) := lk_iload_n (k := 2) (by decide +kernel) rfl
theorem k_11_15 (L : Nat) (xs : Nat → Int32) : ll_OK1 cX1_isPremise RX1 (some .boolean) false ll_mN ll_mR ll_mK ll_cnt L xs false 15 (.inl (lo_push 17 (.int 10))) := lk_bipush (n := 10) (by decide +kernel) (by decide)
theorem k_11_17 (L : Nat) (xs : Nat → Int32) : ll_OK1 cX1_isPremise RX1 (some .boolean) false ll_mN ll_mR ll_mK ll_cnt L xs false 17 (.inl (lo_bin 18 (fun x y => x - y))) := lk_isub (by decide +kernel)
theorem k_11_18 (L : Nat) (xs : Nat → Int32) : ll_OK1 cX1_isPremise RX1 (some .boolean) false ll_mN ll_mR ll_mK ll_cnt L xs false 18 (.inl (lo_aload 19 0)) := lk_aload_n (k := 0) (by decide +kernel) rfl
theorem k_11_19 (L : Nat) (xs : Nat → Int32) : ll_OK1 cX1_isPremise RX1 (some .boolean) false ll_mN ll_mR ll_mK ll_cnt L xs false 19 (.inl (lo_getf 22 1 4)) := lk_getf (ix := 24) (ci := 1) (k := 4) (C := RX1) (T := TX1) (N := 12) (by decide +kernel) rfl in_1 (by decide) tb_66
theorem k_11_22 (L : Nat) (xs : Nat → Int32) : ll_OK1 cX1_isPremise RX1 (some .boolean) false ll_mN ll_mR ll_mK ll_cnt L xs false 22 (.inl (lo_iload 23 1)) := lk_iload_n (k := 1) (by decide +kernel) rfl
theorem k_11_23 (L : Nat) (xs : Nat → Int32) : ll_OK1 cX1_isPremise RX1 (some .boolean) false ll_mN ll_mR ll_mK ll_cnt L xs false 23 (.inl (lo_ald 24 0)) := lk_iald (by decide +kernel)
theorem k_11_24 (L : Nat) (xs : Nat → Int32) : ll_OK1 cX1_isPremise RX1 (some .boolean) false ll_mN ll_mR ll_mK ll_cnt L xs false 24 (.inl (lo_cmp 31 27 (fun x y => decide (y ≤ x)))) := lk_icmp_ge (off := 7) (by decide +kernel) rfl
theorem k_11_27 (L : Nat) (xs : Nat → Int32) : ll_OK1 cX1_isPremise RX1 (some .boolean) false ll_mN ll_mR ll_mK ll_cnt L xs false 27 (.inl (lo_push 28 (.int 1))) := lk_iconst (n := 1) (by decide +kernel) (by decide)
theorem k_11_28 (L : Nat) (xs : Nat → Int32) : ll_OK1 cX1_isPremise RX1 (some .boolean) false ll_mN ll_mR ll_mK ll_cnt L xs false 28 (.inl (lo_goto 32)) := lk_goto (off := 4) (by decide +kernel) rfl
theorem k_11_31 (L : Nat) (xs : Nat → Int32) : ll_OK1 cX1_isPremise RX1 (some .boolean) false ll_mN ll_mR ll_mK ll_cnt L xs false 31 (.inl (lo_push 32 (.int 0))) := lk_iconst (n := 0) (by decide +kernel) (by decide)
theorem k_11_32 (L : Nat) (xs : Nat → Int32) : ll_OK1 cX1_isPremise RX1 (some .boolean) false ll_mN ll_mR ll_mK ll_cnt L xs false 32 (.inr (.inr 2)) := ⟨(fun h => by cases h), (fun h => by cases h), fun _ => ⟨(by decide +kernel), rfl⟩⟩
theorem ok_11 (L : Nat) (xs : Nat → Int32) : ∀ q ∈ cd_11, ll_OK1 cX1_isPremise RX1 (some .boolean) false ll_mN ll_mR ll_mK ll_cnt L xs false q.1 q.2 :=
  List.forall_mem_cons.mpr ⟨k_11_0 L xs, List.forall_mem_cons.mpr ⟨k_11_1 L xs, List.forall_mem_cons.mpr ⟨k_11_2 L xs, List.forall_mem_cons.mpr ⟨k_11_5 L xs, List.forall_mem_cons.mpr ⟨k_11_8 L xs, List.forall_mem_cons.mpr ⟨k_11_9 L xs, List.forall_mem_cons.mpr ⟨k_11_11 L xs, List.forall_mem_cons.mpr ⟨k_11_14 L xs, List.forall_mem_cons.mpr ⟨k_11_15 L xs, List.forall_mem_cons.mpr ⟨k_11_17 L xs, List.forall_mem_cons.mpr ⟨k_11_18 L xs, List.forall_mem_cons.mpr ⟨k_11_19 L xs, List.forall_mem_cons.mpr ⟨k_11_22 L xs, List.forall_mem_cons.mpr ⟨k_11_23 L xs, List.forall_mem_cons.mpr ⟨k_11_24 L xs, List.forall_mem_cons.mpr ⟨k_11_27 L xs, List.forall_mem_cons.mpr ⟨k_11_28 L xs, List.forall_mem_cons.mpr ⟨k_11_31 L xs, List.forall_mem_cons.mpr ⟨k_11_32 L xs, fun _ h => absurd h List.not_mem_nil⟩⟩⟩⟩⟩⟩⟩⟩⟩⟩⟩⟩⟩⟩⟩⟩⟩⟩⟩
/-- InclusionProver$Lines.premiseOf.(II)I -/
def cd_12 : List (Nat × ll_O) := [
  (0, .inl (lo_aload 1 0)),
  (1, .inl (lo_iload 2 1)),
  (2, .inr (.inl (10, 2, 5))),
  (5, .inl (lo_if 38 8 (fun x => decide (x = 0)))),
  (8, .inl (lo_iload 9 2)),
  (9, .inl (lo_if 38 12 (fun x => decide (x < 0)))),
  (12, .inl (lo_iload 13 2)),
  (13, .inl (lo_aload 14 0)),
  (14, .inl (lo_getf 17 1 4)),
  (17, .inl (lo_iload 18 1)),
  (18, .inl (lo_ald 19 0)),
  (19, .inl (lo_cmp 38 22 (fun x y => decide (y ≤ x)))),
  (22, .inl (lo_aload 23 0)),
  (23, .inl (lo_getf 26 1 5)),
  (26, .inl (lo_aload 27 0)),
  (27, .inl (lo_getf 30 1 3)),
  (30, .inl (lo_iload 31 1)),
  (31, .inl (lo_ald 32 0)),
  (32, .inl (lo_iload 33 2)),
  (33, .inl (lo_bin 34 (fun x y => x + y))),
  (34, .inl (lo_ald 35 0)),
  (35, .inl (lo_goto 39)),
  (38, .inl (lo_push 39 (.int (-1)))),
  (39, .inr (.inr 1))]
theorem k_12_0 (L : Nat) (xs : Nat → Int32) : ll_OK1 cX1_premiseOf RX1 (some .int) false ll_mN ll_mR ll_mK ll_cnt L xs false 0 (.inl (lo_aload 1 0)) := lk_aload_n (k := 0) (by decide +kernel) rfl
theorem k_12_1 (L : Nat) (xs : Nat → Int32) : ll_OK1 cX1_premiseOf RX1 (some .int) false ll_mN ll_mR ll_mK ll_cnt L xs false 1 (.inl (lo_iload 2 1)) := lk_iload_n (k := 1) (by decide +kernel) rfl
theorem k_12_2 (L : Nat) (xs : Nat → Int32) : ll_OK1 cX1_premiseOf RX1 (some .int) false ll_mN ll_mR ll_mK ll_cnt L xs false 2 (.inr (.inl (10, 2, 5))) := ⟨rfl, by decide, by rw [mN_10, mK_10, mR_10]; exact lj_v 59 1 1 (RX1, TX1, 12) (by decide +kernel) tb_82 tb_46 tb_47 rfl rfl rfl rfl (by decide +kernel)⟩
theorem k_12_5 (L : Nat) (xs : Nat → Int32) : ll_OK1 cX1_premiseOf RX1 (some .int) false ll_mN ll_mR ll_mK ll_cnt L xs false 5 (.inl (lo_if 38 8 (fun x => decide (x = 0)))) := lk_if_eq (off := 33) (by decide +kernel) rfl
theorem k_12_8 (L : Nat) (xs : Nat → Int32) : ll_OK1 cX1_premiseOf RX1 (some .int) false ll_mN ll_mR ll_mK ll_cnt L xs false 8 (.inl (lo_iload 9 2)) := lk_iload_n (k := 2) (by decide +kernel) rfl
theorem k_12_9 (L : Nat) (xs : Nat → Int32) : ll_OK1 cX1_premiseOf RX1 (some .int) false ll_mN ll_mR ll_mK ll_cnt L xs false 9 (.inl (lo_if 38 12 (fun x => decide (x < 0)))) := lk_if_lt (off := 29) (by decide +kernel) rfl
theorem k_12_12 (L : Nat) (xs : Nat → Int32) : ll_OK1 cX1_premiseOf RX1 (some .int) false ll_mN ll_mR ll_mK ll_cnt L xs false 12 (.inl (lo_iload 13 2)) := lk_iload_n (k := 2) (by decide +kernel) rfl
theorem k_12_13 (L : Nat) (xs : Nat → Int32) : ll_OK1 cX1_premiseOf RX1 (some .int) false ll_mN ll_mR ll_mK ll_cnt L xs false 13 (.inl (lo_aload 14 0)) := lk_aload_n (k := 0) (by decide +kernel) rfl
theorem k_12_14 (L : Nat) (xs : Nat → Int32) : ll_OK1 cX1_premiseOf RX1 (some .int) false ll_mN ll_mR ll_mK ll_cnt L xs false 14 (.inl (lo_getf 17 1 4)) := lk_getf (ix := 24) (ci := 1) (k := 4) (C := RX1) (T := TX1) (N := 12) (by decide +kernel) rfl in_1 (by decide) tb_66
theorem k_12_17 (L : Nat) (xs : Nat → Int32) : ll_OK1 cX1_premiseOf RX1 (some .int) false ll_mN ll_mR ll_mK ll_cnt L xs false 17 (.inl (lo_iload 18 1)) := lk_iload_n (k := 1) (by decide +kernel) rfl
theorem k_12_18 (L : Nat) (xs : Nat → Int32) : ll_OK1 cX1_premiseOf RX1 (some .int) false ll_mN ll_mR ll_mK ll_cnt L xs false 18 (.inl (lo_ald 19 0)) := lk_iald (by decide +kernel)
theorem k_12_19 (L : Nat) (xs : Nat → Int32) : ll_OK1 cX1_premiseOf RX1 (some .int) false ll_mN ll_mR ll_mK ll_cnt L xs false 19 (.inl (lo_cmp 38 22 (fun x y => decide (y ≤ x)))) := lk_icmp_ge (off := 19) (by decide +kernel) rfl
theorem k_12_22 (L : Nat) (xs : Nat → Int32) : ll_OK1 cX1_premiseOf RX1 (some .int) false ll_mN ll_mR ll_mK ll_cnt L xs false 22 (.inl (lo_aload 23 0)) := lk_aload_n (k := 0) (by decide +kernel) rfl
theorem k_12_23 (L : Nat) (xs : Nat → Int32) : ll_OK1 cX1_premiseOf RX1 (some .int) false ll_mN ll_mR ll_mK ll_cnt L xs false 23 (.inl (lo_getf 26 1 5)) := lk_getf (ix := 27) (ci := 1) (k := 5) (C := RX1) (T := TX1) (N := 12) (by decide +kernel) rfl in_1 (by decide) tb_67
theorem k_12_26 (L : Nat) (xs : Nat → Int32) : ll_OK1 cX1_premiseOf RX1 (some .int) false ll_mN ll_mR ll_mK ll_cnt L xs false 26 (.inl (lo_aload 27 0)) := lk_aload_n (k := 0) (by decide +kernel) rfl
theorem k_12_27 (L : Nat) (xs : Nat → Int32) : ll_OK1 cX1_premiseOf RX1 (some .int) false ll_mN ll_mR ll_mK ll_cnt L xs false 27 (.inl (lo_getf 30 1 3)) := lk_getf (ix := 21) (ci := 1) (k := 3) (C := RX1) (T := TX1) (N := 12) (by decide +kernel) rfl in_1 (by decide) tb_65
theorem k_12_30 (L : Nat) (xs : Nat → Int32) : ll_OK1 cX1_premiseOf RX1 (some .int) false ll_mN ll_mR ll_mK ll_cnt L xs false 30 (.inl (lo_iload 31 1)) := lk_iload_n (k := 1) (by decide +kernel) rfl
theorem k_12_31 (L : Nat) (xs : Nat → Int32) : ll_OK1 cX1_premiseOf RX1 (some .int) false ll_mN ll_mR ll_mK ll_cnt L xs false 31 (.inl (lo_ald 32 0)) := lk_iald (by decide +kernel)
theorem k_12_32 (L : Nat) (xs : Nat → Int32) : ll_OK1 cX1_premiseOf RX1 (some .int) false ll_mN ll_mR ll_mK ll_cnt L xs false 32 (.inl (lo_iload 33 2)) := lk_iload_n (k := 2) (by decide +kernel) rfl
theorem k_12_33 (L : Nat) (xs : Nat → Int32) : ll_OK1 cX1_premiseOf RX1 (some .int) false ll_mN ll_mR ll_mK ll_cnt L xs false 33 (.inl (lo_bin 34 (fun x y => x + y))) := lk_iadd (by decide +kernel)
theorem k_12_34 (L : Nat) (xs : Nat → Int32) : ll_OK1 cX1_premiseOf RX1 (some .int) false ll_mN ll_mR ll_mK ll_cnt L xs false 34 (.inl (lo_ald 35 0)) := lk_iald (by decide +kernel)
theorem k_12_35 (L : Nat) (xs : Nat → Int32) : ll_OK1 cX1_premiseOf RX1 (some .int) false ll_mN ll_mR ll_mK ll_cnt L xs false 35 (.inl (lo_goto 39)) := lk_goto (off := 4) (by decide +kernel) rfl
theorem k_12_38 (L : Nat) (xs : Nat → Int32) : ll_OK1 cX1_premiseOf RX1 (some .int) false ll_mN ll_mR ll_mK ll_cnt L xs false 38 (.inl (lo_push 39 (.int (-1)))) := lk_iconst (n := (-1)) (by decide +kernel) (by decide)
theorem k_12_39 (L : Nat) (xs : Nat → Int32) : ll_OK1 cX1_premiseOf RX1 (some .int) false ll_mN ll_mR ll_mK ll_cnt L xs false 39 (.inr (.inr 1)) := ⟨(fun h => by cases h), (fun _ => ⟨(by decide +kernel), rfl⟩), fun h => by cases h⟩
theorem ok_12 (L : Nat) (xs : Nat → Int32) : ∀ q ∈ cd_12, ll_OK1 cX1_premiseOf RX1 (some .int) false ll_mN ll_mR ll_mK ll_cnt L xs false q.1 q.2 :=
  List.forall_mem_cons.mpr ⟨k_12_0 L xs, List.forall_mem_cons.mpr ⟨k_12_1 L xs, List.forall_mem_cons.mpr ⟨k_12_2 L xs, List.forall_mem_cons.mpr ⟨k_12_5 L xs, List.forall_mem_cons.mpr ⟨k_12_8 L xs, List.forall_mem_cons.mpr ⟨k_12_9 L xs, List.forall_mem_cons.mpr ⟨k_12_12 L xs, List.forall_mem_cons.mpr ⟨k_12_13 L xs, List.forall_mem_cons.mpr ⟨k_12_14 L xs, List.forall_mem_cons.mpr ⟨k_12_17 L xs, List.forall_mem_cons.mpr ⟨k_12_18 L xs, List.forall_mem_cons.mpr ⟨k_12_19 L xs, List.forall_mem_cons.mpr ⟨k_12_22 L xs, List.forall_mem_cons.mpr ⟨k_12_23 L xs, List.forall_mem_cons.mpr ⟨k_12_26 L xs, List.forall_mem_cons.mpr ⟨k_12_27 L xs, List.forall_mem_cons.mpr ⟨k_12_30 L xs, List.forall_mem_cons.mpr ⟨k_12_31 L xs, List.forall_mem_cons.mpr ⟨k_12_32 L xs, List.forall_mem_cons.mpr ⟨k_12_33 L xs, List.forall_mem_cons.mpr ⟨k_12_34 L xs, List.forall_mem_cons.mpr ⟨k_12_35 L xs, List.forall_mem_cons.mpr ⟨k_12_38 L xs, List.forall_mem_cons.mpr ⟨k_12_39 L xs, fun _ h => absurd h List.not_mem_nil⟩⟩⟩⟩⟩⟩⟩⟩⟩⟩⟩⟩⟩⟩⟩⟩⟩⟩⟩⟩⟩⟩⟩⟩
/-- InclusionProver$Lines.addLine.(II)I -/
def cd_13 : List (Nat × ll_O) := [
  (0, .inl (lo_aload 1 0)),
  (1, .inl (lo_getf 4 1 8)),
  (4, .inl (lo_push 7 (.int 300))),
  (7, .inl (lo_cmp 12 10 (fun x y => decide (x < y)))),
  (10, .inl (lo_push 11 (.int (-1)))),
  (11, .inr (.inr 1)),
  (12, .inl (lo_aload 13 0)),
  (13, .inl (lo_getf 16 1 8)),
  (16, .inl (lo_istore 17 3)),
  (17, .inl (lo_aload 18 0)),
  (18, .inl (lo_dup 19)),
  (19, .inl (lo_getf 22 1 8)),
  (22, .inl (lo_push 23 (.int 1))),
  (23, .inl (lo_bin 24 (fun x y => x + y))),
  (24, .inl (lo_putf 27 1 8 0)),
  (27, .inl (lo_aload 28 0)),
  (28, .inl (lo_getf 31 1 0)),
  (31, .inl (lo_iload 32 3)),
  (32, .inl (lo_iload 33 1)),
  (33, .inl (lo_ast 34 0)),
  (34, .inl (lo_aload 35 0)),
  (35, .inl (lo_getf 38 1 1)),
  (38, .inl (lo_iload 39 3)),
  (39, .inl (lo_iload 40 2)),
  (40, .inl (lo_ast 41 0)),
  (41, .inl (lo_aload 42 0)),
  (42, .inl (lo_getf 45 1 2)),
  (45, .inl (lo_iload 46 3)),
  (46, .inl (lo_push 47 (.int (-1)))),
  (47, .inl (lo_ast 48 0)),
  (48, .inl (lo_aload 49 0)),
  (49, .inl (lo_getf 52 1 3)),
  (52, .inl (lo_iload 53 3)),
  (53, .inl (lo_push 54 (.int 0))),
  (54, .inl (lo_ast 55 0)),
  (55, .inl (lo_aload 56 0)),
  (56, .inl (lo_getf 59 1 4)),
  (59, .inl (lo_iload 60 3)),
  (60, .inl (lo_push 61 (.int 0))),
  (61, .inl (lo_ast 62 0)),
  (62, .inl (lo_iload 63 3)),
  (63, .inr (.inr 1))]
theorem k_13_0 (L : Nat) (xs : Nat → Int32) : ll_OK1 cX1_addLine RX1 (some .int) false ll_mN ll_mR ll_mK ll_cnt L xs false 0 (.inl (lo_aload 1 0)) := lk_aload_n (k := 0) (by decide +kernel) rfl
theorem k_13_1 (L : Nat) (xs : Nat → Int32) : ll_OK1 cX1_addLine RX1 (some .int) false ll_mN ll_mR ll_mK ll_cnt L xs false 1 (.inl (lo_getf 4 1 8)) := lk_getf (ix := 42) (ci := 1) (k := 8) (C := RX1) (T := TX1) (N := 12) (by decide +kernel) rfl in_1 (by decide) tb_75
theorem k_13_4 (L : Nat) (xs : Nat → Int32) : ll_OK1 cX1_addLine RX1 (some .int) false ll_mN ll_mR ll_mK ll_cnt L xs false 4 (.inl (lo_push 7 (.int 300))) := lk_sipush (n := 300) (by decide +kernel) (by decide)
theorem k_13_7 (L : Nat) (xs : Nat → Int32) : ll_OK1 cX1_addLine RX1 (some .int) false ll_mN ll_mR ll_mK ll_cnt L xs false 7 (.inl (lo_cmp 12 10 (fun x y => decide (x < y)))) := lk_icmp_lt (off := 5) (by decide +kernel) rfl
theorem k_13_10 (L : Nat) (xs : Nat → Int32) : ll_OK1 cX1_addLine RX1 (some .int) false ll_mN ll_mR ll_mK ll_cnt L xs false 10 (.inl (lo_push 11 (.int (-1)))) := lk_iconst (n := (-1)) (by decide +kernel) (by decide)
theorem k_13_11 (L : Nat) (xs : Nat → Int32) : ll_OK1 cX1_addLine RX1 (some .int) false ll_mN ll_mR ll_mK ll_cnt L xs false 11 (.inr (.inr 1)) := ⟨(fun h => by cases h), (fun _ => ⟨(by decide +kernel), rfl⟩), fun h => by cases h⟩
theorem k_13_12 (L : Nat) (xs : Nat → Int32) : ll_OK1 cX1_addLine RX1 (some .int) false ll_mN ll_mR ll_mK ll_cnt L xs false 12 (.inl (lo_aload 13 0)) := lk_aload_n (k := 0) (by decide +kernel) rfl
theorem k_13_13 (L : Nat) (xs : Nat → Int32) : ll_OK1 cX1_addLine RX1 (some .int) false ll_mN ll_mR ll_mK ll_cnt L xs false 13 (.inl (lo_getf 16 1 8)) := lk_getf (ix := 42) (ci := 1) (k := 8) (C := RX1) (T := TX1) (N := 12) (by decide +kernel) rfl in_1 (by decide) tb_75
theorem k_13_16 (L : Nat) (xs : Nat → Int32) : ll_OK1 cX1_addLine RX1 (some .int) false ll_mN ll_mR ll_mK ll_cnt L xs false 16 (.inl (lo_istore 17 3)) := lk_istore_n (k := 3) (by decide +kernel) rfl
theorem k_13_17 (L : Nat) (xs : Nat → Int32) : ll_OK1 cX1_addLine RX1 (some .int) false ll_mN ll_mR ll_mK ll_cnt L xs false 17 (.inl (lo_aload 18 0)) := lk_aload_n (k := 0) (by decide +kernel) rfl
theorem k_13_18 (L : Nat) (xs : Nat → Int32) : ll_OK1 cX1_addLine RX1 (some .int) false ll_mN ll_mR ll_mK ll_cnt L xs false 18 (.inl (lo_dup 19)) := lk_dup (by decide +kernel)
theorem k_13_19 (L : Nat) (xs : Nat → Int32) : ll_OK1 cX1_addLine RX1 (some .int) false ll_mN ll_mR ll_mK ll_cnt L xs false 19 (.inl (lo_getf 22 1 8)) := lk_getf (ix := 42) (ci := 1) (k := 8) (C := RX1) (T := TX1) (N := 12) (by decide +kernel) rfl in_1 (by decide) tb_75
theorem k_13_22 (L : Nat) (xs : Nat → Int32) : ll_OK1 cX1_addLine RX1 (some .int) false ll_mN ll_mR ll_mK ll_cnt L xs false 22 (.inl (lo_push 23 (.int 1))) := lk_iconst (n := 1) (by decide +kernel) (by decide)
theorem k_13_23 (L : Nat) (xs : Nat → Int32) : ll_OK1 cX1_addLine RX1 (some .int) false ll_mN ll_mR ll_mK ll_cnt L xs false 23 (.inl (lo_bin 24 (fun x y => x + y))) := lk_iadd (by decide +kernel)
theorem k_13_24 (L : Nat) (xs : Nat → Int32) : ll_OK1 cX1_addLine RX1 (some .int) false ll_mN ll_mR ll_mK ll_cnt L xs false 24 (.inl (lo_putf 27 1 8 0)) := lk_putf (ix := 42) (ci := 1) (k := 8) (C := RX1) (T := TX1) (N := 12) (ty0 := tyX1) (by decide +kernel) rfl in_1 tyX1_ok nmX1 (by decide) tb_75 (fun B adr v w h1 h2 => ll_fit_int (B := B) (adr := adr) h1 h2) (Or.inl rfl)
theorem k_13_27 (L : Nat) (xs : Nat → Int32) : ll_OK1 cX1_addLine RX1 (some .int) false ll_mN ll_mR ll_mK ll_cnt L xs false 27 (.inl (lo_aload 28 0)) := lk_aload_n (k := 0) (by decide +kernel) rfl
theorem k_13_28 (L : Nat) (xs : Nat → Int32) : ll_OK1 cX1_addLine RX1 (some .int) false ll_mN ll_mR ll_mK ll_cnt L xs false 28 (.inl (lo_getf 31 1 0)) := lk_getf (ix := 9) (ci := 1) (k := 0) (C := RX1) (T := TX1) (N := 12) (by decide +kernel) rfl in_1 (by decide) tb_62
theorem k_13_31 (L : Nat) (xs : Nat → Int32) : ll_OK1 cX1_addLine RX1 (some .int) false ll_mN ll_mR ll_mK ll_cnt L xs false 31 (.inl (lo_iload 32 3)) := lk_iload_n (k := 3) (by decide +kernel) rfl
theorem k_13_32 (L : Nat) (xs : Nat → Int32) : ll_OK1 cX1_addLine RX1 (some .int) false ll_mN ll_mR ll_mK ll_cnt L xs false 32 (.inl (lo_iload 33 1)) := lk_iload_n (k := 1) (by decide +kernel) rfl
theorem k_13_33 (L : Nat) (xs : Nat → Int32) : ll_OK1 cX1_addLine RX1 (some .int) false ll_mN ll_mR ll_mK ll_cnt L xs false 33 (.inl (lo_ast 34 0)) := lk_iast (by decide +kernel)
theorem k_13_34 (L : Nat) (xs : Nat → Int32) : ll_OK1 cX1_addLine RX1 (some .int) false ll_mN ll_mR ll_mK ll_cnt L xs false 34 (.inl (lo_aload 35 0)) := lk_aload_n (k := 0) (by decide +kernel) rfl
theorem k_13_35 (L : Nat) (xs : Nat → Int32) : ll_OK1 cX1_addLine RX1 (some .int) false ll_mN ll_mR ll_mK ll_cnt L xs false 35 (.inl (lo_getf 38 1 1)) := lk_getf (ix := 15) (ci := 1) (k := 1) (C := RX1) (T := TX1) (N := 12) (by decide +kernel) rfl in_1 (by decide) tb_63
theorem k_13_38 (L : Nat) (xs : Nat → Int32) : ll_OK1 cX1_addLine RX1 (some .int) false ll_mN ll_mR ll_mK ll_cnt L xs false 38 (.inl (lo_iload 39 3)) := lk_iload_n (k := 3) (by decide +kernel) rfl
theorem k_13_39 (L : Nat) (xs : Nat → Int32) : ll_OK1 cX1_addLine RX1 (some .int) false ll_mN ll_mR ll_mK ll_cnt L xs false 39 (.inl (lo_iload 40 2)) := lk_iload_n (k := 2) (by decide +kernel) rfl
theorem k_13_40 (L : Nat) (xs : Nat → Int32) : ll_OK1 cX1_addLine RX1 (some .int) false ll_mN ll_mR ll_mK ll_cnt L xs false 40 (.inl (lo_ast 41 0)) := lk_iast (by decide +kernel)
theorem k_13_41 (L : Nat) (xs : Nat → Int32) : ll_OK1 cX1_addLine RX1 (some .int) false ll_mN ll_mR ll_mK ll_cnt L xs false 41 (.inl (lo_aload 42 0)) := lk_aload_n (k := 0) (by decide +kernel) rfl
theorem k_13_42 (L : Nat) (xs : Nat → Int32) : ll_OK1 cX1_addLine RX1 (some .int) false ll_mN ll_mR ll_mK ll_cnt L xs false 42 (.inl (lo_getf 45 1 2)) := lk_getf (ix := 18) (ci := 1) (k := 2) (C := RX1) (T := TX1) (N := 12) (by decide +kernel) rfl in_1 (by decide) tb_64
theorem k_13_45 (L : Nat) (xs : Nat → Int32) : ll_OK1 cX1_addLine RX1 (some .int) false ll_mN ll_mR ll_mK ll_cnt L xs false 45 (.inl (lo_iload 46 3)) := lk_iload_n (k := 3) (by decide +kernel) rfl
theorem k_13_46 (L : Nat) (xs : Nat → Int32) : ll_OK1 cX1_addLine RX1 (some .int) false ll_mN ll_mR ll_mK ll_cnt L xs false 46 (.inl (lo_push 47 (.int (-1)))) := lk_iconst (n := (-1)) (by decide +kernel) (by decide)
theorem k_13_47 (L : Nat) (xs : Nat → Int32) : ll_OK1 cX1_addLine RX1 (some .int) false ll_mN ll_mR ll_mK ll_cnt L xs false 47 (.inl (lo_ast 48 0)) := lk_iast (by decide +kernel)
theorem k_13_48 (L : Nat) (xs : Nat → Int32) : ll_OK1 cX1_addLine RX1 (some .int) false ll_mN ll_mR ll_mK ll_cnt L xs false 48 (.inl (lo_aload 49 0)) := lk_aload_n (k := 0) (by decide +kernel) rfl
theorem k_13_49 (L : Nat) (xs : Nat → Int32) : ll_OK1 cX1_addLine RX1 (some .int) false ll_mN ll_mR ll_mK ll_cnt L xs false 49 (.inl (lo_getf 52 1 3)) := lk_getf (ix := 21) (ci := 1) (k := 3) (C := RX1) (T := TX1) (N := 12) (by decide +kernel) rfl in_1 (by decide) tb_65
theorem k_13_52 (L : Nat) (xs : Nat → Int32) : ll_OK1 cX1_addLine RX1 (some .int) false ll_mN ll_mR ll_mK ll_cnt L xs false 52 (.inl (lo_iload 53 3)) := lk_iload_n (k := 3) (by decide +kernel) rfl
theorem k_13_53 (L : Nat) (xs : Nat → Int32) : ll_OK1 cX1_addLine RX1 (some .int) false ll_mN ll_mR ll_mK ll_cnt L xs false 53 (.inl (lo_push 54 (.int 0))) := lk_iconst (n := 0) (by decide +kernel) (by decide)
theorem k_13_54 (L : Nat) (xs : Nat → Int32) : ll_OK1 cX1_addLine RX1 (some .int) false ll_mN ll_mR ll_mK ll_cnt L xs false 54 (.inl (lo_ast 55 0)) := lk_iast (by decide +kernel)
theorem k_13_55 (L : Nat) (xs : Nat → Int32) : ll_OK1 cX1_addLine RX1 (some .int) false ll_mN ll_mR ll_mK ll_cnt L xs false 55 (.inl (lo_aload 56 0)) := lk_aload_n (k := 0) (by decide +kernel) rfl
theorem k_13_56 (L : Nat) (xs : Nat → Int32) : ll_OK1 cX1_addLine RX1 (some .int) false ll_mN ll_mR ll_mK ll_cnt L xs false 56 (.inl (lo_getf 59 1 4)) := lk_getf (ix := 24) (ci := 1) (k := 4) (C := RX1) (T := TX1) (N := 12) (by decide +kernel) rfl in_1 (by decide) tb_66
theorem k_13_59 (L : Nat) (xs : Nat → Int32) : ll_OK1 cX1_addLine RX1 (some .int) false ll_mN ll_mR ll_mK ll_cnt L xs false 59 (.inl (lo_iload 60 3)) := lk_iload_n (k := 3) (by decide +kernel) rfl
theorem k_13_60 (L : Nat) (xs : Nat → Int32) : ll_OK1 cX1_addLine RX1 (some .int) false ll_mN ll_mR ll_mK ll_cnt L xs false 60 (.inl (lo_push 61 (.int 0))) := lk_iconst (n := 0) (by decide +kernel) (by decide)
theorem k_13_61 (L : Nat) (xs : Nat → Int32) : ll_OK1 cX1_addLine RX1 (some .int) false ll_mN ll_mR ll_mK ll_cnt L xs false 61 (.inl (lo_ast 62 0)) := lk_iast (by decide +kernel)
theorem k_13_62 (L : Nat) (xs : Nat → Int32) : ll_OK1 cX1_addLine RX1 (some .int) false ll_mN ll_mR ll_mK ll_cnt L xs false 62 (.inl (lo_iload 63 3)) := lk_iload_n (k := 3) (by decide +kernel) rfl
theorem k_13_63 (L : Nat) (xs : Nat → Int32) : ll_OK1 cX1_addLine RX1 (some .int) false ll_mN ll_mR ll_mK ll_cnt L xs false 63 (.inr (.inr 1)) := ⟨(fun h => by cases h), (fun _ => ⟨(by decide +kernel), rfl⟩), fun h => by cases h⟩
theorem ok_13 (L : Nat) (xs : Nat → Int32) : ∀ q ∈ cd_13, ll_OK1 cX1_addLine RX1 (some .int) false ll_mN ll_mR ll_mK ll_cnt L xs false q.1 q.2 :=
  List.forall_mem_cons.mpr ⟨k_13_0 L xs, List.forall_mem_cons.mpr ⟨k_13_1 L xs, List.forall_mem_cons.mpr ⟨k_13_4 L xs, List.forall_mem_cons.mpr ⟨k_13_7 L xs, List.forall_mem_cons.mpr ⟨k_13_10 L xs, List.forall_mem_cons.mpr ⟨k_13_11 L xs, List.forall_mem_cons.mpr ⟨k_13_12 L xs, List.forall_mem_cons.mpr ⟨k_13_13 L xs, List.forall_mem_cons.mpr ⟨k_13_16 L xs, List.forall_mem_cons.mpr ⟨k_13_17 L xs, List.forall_mem_cons.mpr ⟨k_13_18 L xs, List.forall_mem_cons.mpr ⟨k_13_19 L xs, List.forall_mem_cons.mpr ⟨k_13_22 L xs, List.forall_mem_cons.mpr ⟨k_13_23 L xs, List.forall_mem_cons.mpr ⟨k_13_24 L xs, List.forall_mem_cons.mpr ⟨k_13_27 L xs, List.forall_mem_cons.mpr ⟨k_13_28 L xs, List.forall_mem_cons.mpr ⟨k_13_31 L xs, List.forall_mem_cons.mpr ⟨k_13_32 L xs, List.forall_mem_cons.mpr ⟨k_13_33 L xs, List.forall_mem_cons.mpr ⟨k_13_34 L xs, List.forall_mem_cons.mpr ⟨k_13_35 L xs, List.forall_mem_cons.mpr ⟨k_13_38 L xs, List.forall_mem_cons.mpr ⟨k_13_39 L xs, List.forall_mem_cons.mpr ⟨k_13_40 L xs, List.forall_mem_cons.mpr ⟨k_13_41 L xs, List.forall_mem_cons.mpr ⟨k_13_42 L xs, List.forall_mem_cons.mpr ⟨k_13_45 L xs, List.forall_mem_cons.mpr ⟨k_13_46 L xs, List.forall_mem_cons.mpr ⟨k_13_47 L xs, List.forall_mem_cons.mpr ⟨k_13_48 L xs, List.forall_mem_cons.mpr ⟨k_13_49 L xs, List.forall_mem_cons.mpr ⟨k_13_52 L xs, List.forall_mem_cons.mpr ⟨k_13_53 L xs, List.forall_mem_cons.mpr ⟨k_13_54 L xs, List.forall_mem_cons.mpr ⟨k_13_55 L xs, List.forall_mem_cons.mpr ⟨k_13_56 L xs, List.forall_mem_cons.mpr ⟨k_13_59 L xs, List.forall_mem_cons.mpr ⟨k_13_60 L xs, List.forall_mem_cons.mpr ⟨k_13_61 L xs, List.forall_mem_cons.mpr ⟨k_13_62 L xs, List.forall_mem_cons.mpr ⟨k_13_63 L xs, fun _ h => absurd h List.not_mem_nil⟩⟩⟩⟩⟩⟩⟩⟩⟩⟩⟩⟩⟩⟩⟩⟩⟩⟩⟩⟩⟩⟩⟩⟩⟩⟩⟩⟩⟩⟩⟩⟩⟩⟩⟩⟩⟩⟩⟩⟩⟩⟩
/-- InclusionProver$Lines.openPremises.(I)V -/
def cd_14 : List (Nat × ll_O) := [
  (0, .inl (lo_aload 1 0)),
  (1, .inl (lo_getf 4 1 3)),
  (4, .inl (lo_iload 5 1)),
  (5, .inl (lo_aload 6 0)),
  (6, .inl (lo_getf 9 1 9)),
  (9, .inl (lo_ast 10 0)),
  (10, .inl (lo_aload 11 0)),
  (11, .inl (lo_getf 14 1 4)),
  (14, .inl (lo_iload 15 1)),
  (15, .inl (lo_push 16 (.int 0))),
  (16, .inl (lo_ast 17 0)),
  (17, .inr (.inr 0))]
theorem k_14_0 (L : Nat) (xs : Nat → Int32) : ll_OK1 cX1_openPremises RX1 none false ll_mN ll_mR ll_mK ll_cnt L xs false 0 (.inl (lo_aload 1 0)) := lk_aload_n (k := 0) (by decide +kernel) rfl
theorem k_14_1 (L : Nat) (xs : Nat → Int32) : ll_OK1 cX1_openPremises RX1 none false ll_mN ll_mR ll_mK ll_cnt L xs false 1 (.inl (lo_getf 4 1 3)) := lk_getf (ix := 21) (ci := 1) (k := 3) (C := RX1) (T := TX1) (N := 12) (by decide +kernel) rfl in_1 (by decide) tb_65
theorem k_14_4 (L : Nat) (xs : Nat → Int32) : ll_OK1 cX1_openPremises RX1 none false ll_mN ll_mR ll_mK ll_cnt L xs false 4 (.inl (lo_iload 5 1)) := lk_iload_n (k := 1) (by decide +kernel) rfl
theorem k_14_5 (L : Nat) (xs : Nat → Int32) : ll_OK1 cX1_openPremises RX1 none false ll_mN ll_mR ll_mK ll_cnt L xs false 5 (.inl (lo_aload 6 0)) := lk_aload_n (k := 0) (by decide +kernel) rfl
theorem k_14_6 (L : Nat) (xs : Nat → Int32) : ll_OK1 cX1_openPremises RX1 none false ll_mN ll_mR ll_mK ll_cnt L xs false 6 (.inl (lo_getf 9 1 9)) := lk_getf (ix := 46) (ci := 1) (k := 9) (C := RX1) (T := TX1) (N := 12) (by decide +kernel) rfl in_1 (by decide) tb_76
theorem k_14_9 (L : Nat) (xs : Nat → Int32) : ll_OK1 cX1_openPremises RX1 none false ll_mN ll_mR ll_mK ll_cnt L xs false 9 (.inl (lo_ast 10 0)) := lk_iast (by decide +kernel)
theorem k_14_10 (L : Nat) (xs : Nat → Int32) : ll_OK1 cX1_openPremises RX1 none false ll_mN ll_mR ll_mK ll_cnt L xs false 10 (.inl (lo_aload 11 0)) := lk_aload_n (k := 0) (by decide +kernel) rfl
theorem k_14_11 (L : Nat) (xs : Nat → Int32) : ll_OK1 cX1_openPremises RX1 none false ll_mN ll_mR ll_mK ll_cnt L xs false 11 (.inl (lo_getf 14 1 4)) := lk_getf (ix := 24) (ci := 1) (k := 4) (C := RX1) (T := TX1) (N := 12) (by decide +kernel) rfl in_1 (by decide) tb_66
theorem k_14_14 (L : Nat) (xs : Nat → Int32) : ll_OK1 cX1_openPremises RX1 none false ll_mN ll_mR ll_mK ll_cnt L xs false 14 (.inl (lo_iload 15 1)) := lk_iload_n (k := 1) (by decide +kernel) rfl
theorem k_14_15 (L : Nat) (xs : Nat → Int32) : ll_OK1 cX1_openPremises RX1 none false ll_mN ll_mR ll_mK ll_cnt L xs false 15 (.inl (lo_push 16 (.int 0))) := lk_iconst (n := 0) (by decide +kernel) (by decide)
theorem k_14_16 (L : Nat) (xs : Nat → Int32) : ll_OK1 cX1_openPremises RX1 none false ll_mN ll_mR ll_mK ll_cnt L xs false 16 (.inl (lo_ast 17 0)) := lk_iast (by decide +kernel)
theorem k_14_17 (L : Nat) (xs : Nat → Int32) : ll_OK1 cX1_openPremises RX1 none false ll_mN ll_mR ll_mK ll_cnt L xs false 17 (.inr (.inr 0)) := ⟨fun _ => ⟨(by decide +kernel), rfl⟩, (fun h => by cases h), fun h => by cases h⟩
theorem ok_14 (L : Nat) (xs : Nat → Int32) : ∀ q ∈ cd_14, ll_OK1 cX1_openPremises RX1 none false ll_mN ll_mR ll_mK ll_cnt L xs false q.1 q.2 :=
  List.forall_mem_cons.mpr ⟨k_14_0 L xs, List.forall_mem_cons.mpr ⟨k_14_1 L xs, List.forall_mem_cons.mpr ⟨k_14_4 L xs, List.forall_mem_cons.mpr ⟨k_14_5 L xs, List.forall_mem_cons.mpr ⟨k_14_6 L xs, List.forall_mem_cons.mpr ⟨k_14_9 L xs, List.forall_mem_cons.mpr ⟨k_14_10 L xs, List.forall_mem_cons.mpr ⟨k_14_11 L xs, List.forall_mem_cons.mpr ⟨k_14_14 L xs, List.forall_mem_cons.mpr ⟨k_14_15 L xs, List.forall_mem_cons.mpr ⟨k_14_16 L xs, List.forall_mem_cons.mpr ⟨k_14_17 L xs, fun _ h => absurd h List.not_mem_nil⟩⟩⟩⟩⟩⟩⟩⟩⟩⟩⟩⟩
/-- InclusionProver$Lines.addPremise.(II)V -/
def cd_15 : List (Nat × ll_O) := [
  (0, .inl (lo_aload 1 0)),
  (1, .inl (lo_getf 4 1 9)),
  (4, .inl (lo_push 7 (.int 9300))),
  (7, .inl (lo_cmp 40 10 (fun x y => decide (y ≤ x)))),
  (10, .inl (lo_aload 11 0)),
  (11, .inl (lo_getf 14 1 5)),
  (14, .inl (lo_aload 15 0)),
  (15, .inl (lo_getf 18 1 9)),
  (18, .inl (lo_iload 19 2)),
  (19, .inl (lo_ast 20 0)),
  (20, .inl (lo_aload 21 0)),
  (21, .inl (lo_dup 22)),
  (22, .inl (lo_getf 25 1 9)),
  (25, .inl (lo_push 26 (.int 1))),
  (26, .inl (lo_bin 27 (fun x y => x + y))),
  (27, .inl (lo_putf 30 1 9 0)),
  (30, .inl (lo_aload 31 0)),
  (31, .inl (lo_getf 34 1 4)),
  (34, .inl (lo_iload 35 1)),
  (35, .inl (lo_dup2 36)),
  (36, .inl (lo_ald 37 0)),
  (37, .inl (lo_push 38 (.int 1))),
  (38, .inl (lo_bin 39 (fun x y => x + y))),
  (39, .inl (lo_ast 40 0)),
  (40, .inr (.inr 0))]
theorem k_15_0 (L : Nat) (xs : Nat → Int32) : ll_OK1 cX1_addPremise RX1 none false ll_mN ll_mR ll_mK ll_cnt L xs false 0 (.inl (lo_aload 1 0)) := lk_aload_n (k := 0) (by decide +kernel) rfl
theorem k_15_1 (L : Nat) (xs : Nat → Int32) : ll_OK1 cX1_addPremise RX1 none false ll_mN ll_mR ll_mK ll_cnt L xs false 1 (.inl (lo_getf 4 1 9)) := lk_getf (ix := 46) (ci := 1) (k := 9) (C := RX1) (T := TX1) (N := 12) (by decide +kernel) rfl in_1 (by decide) tb_76
theorem k_15_4 (L : Nat) (xs : Nat → Int32) : ll_OK1 cX1_addPremise RX1 none false ll_mN ll_mR ll_mK ll_cnt L xs false 4 (.inl (lo_push 7 (.int 9300))) := lk_sipush (n := 9300) (by decide +kernel) (by decide)
theorem k_15_7 (L : Nat) (xs : Nat → Int32) : ll_OK1 cX1_addPremise RX1 none false ll_mN ll_mR ll_mK ll_cnt L xs false 7 (.inl (lo_cmp 40 10 (fun x y => decide (y ≤ x)))) := lk_icmp_ge (off := 33) (by decide +kernel) rfl
theorem k_15_10 (L : Nat) (xs : Nat → Int32) : ll_OK1 cX1_addPremise RX1 none false ll_mN ll_mR ll_mK ll_cnt L xs false 10 (.inl (lo_aload 11 0)) := lk_aload_n (k := 0) (by decide +kernel) rfl
theorem k_15_11 (L : Nat) (xs : Nat → Int32) : ll_OK1 cX1_addPremise RX1 none false ll_mN ll_mR ll_mK ll_cnt L xs false 11 (.inl (lo_getf 14 1 5)) := lk_getf (ix := 27) (ci := 1) (k := 5) (C := RX1) (T := TX1) (N := 12) (by decide +kernel) rfl in_1 (by decide) tb_67
theorem k_15_14 (L : Nat) (xs : Nat → Int32) : ll_OK1 cX1_addPremise RX1 none false ll_mN ll_mR ll_mK ll_cnt L xs false 14 (.inl (lo_aload 15 0)) := lk_aload_n (k := 0) (by decide +kernel) rfl
theorem k_15_15 (L : Nat) (xs : Nat → Int32) : ll_OK1 cX1_addPremise RX1 none false ll_mN ll_mR ll_mK ll_cnt L xs false 15 (.inl (lo_getf 18 1 9)) := lk_getf (ix := 46) (ci := 1) (k := 9) (C := RX1) (T := TX1) (N := 12) (by decide +kernel) rfl in_1 (by decide) tb_76
theorem k_15_18 (L : Nat) (xs : Nat → Int32) : ll_OK1 cX1_addPremise RX1 none false ll_mN ll_mR ll_mK ll_cnt L xs false 18 (.inl (lo_iload 19 2)) := lk_iload_n (k := 2) (by decide +kernel) rfl
theorem k_15_19 (L : Nat) (xs : Nat → Int32) : ll_OK1 cX1_addPremise RX1 none false ll_mN ll_mR ll_mK ll_cnt L xs false 19 (.inl (lo_ast 20 0)) := lk_iast (by decide +kernel)
theorem k_15_20 (L : Nat) (xs : Nat → Int32) : ll_OK1 cX1_addPremise RX1 none false ll_mN ll_mR ll_mK ll_cnt L xs false 20 (.inl (lo_aload 21 0)) := lk_aload_n (k := 0) (by decide +kernel) rfl
theorem k_15_21 (L : Nat) (xs : Nat → Int32) : ll_OK1 cX1_addPremise RX1 none false ll_mN ll_mR ll_mK ll_cnt L xs false 21 (.inl (lo_dup 22)) := lk_dup (by decide +kernel)
theorem k_15_22 (L : Nat) (xs : Nat → Int32) : ll_OK1 cX1_addPremise RX1 none false ll_mN ll_mR ll_mK ll_cnt L xs false 22 (.inl (lo_getf 25 1 9)) := lk_getf (ix := 46) (ci := 1) (k := 9) (C := RX1) (T := TX1) (N := 12) (by decide +kernel) rfl in_1 (by decide) tb_76
theorem k_15_25 (L : Nat) (xs : Nat → Int32) : ll_OK1 cX1_addPremise RX1 none false ll_mN ll_mR ll_mK ll_cnt L xs false 25 (.inl (lo_push 26 (.int 1))) := lk_iconst (n := 1) (by decide +kernel) (by decide)
theorem k_15_26 (L : Nat) (xs : Nat → Int32) : ll_OK1 cX1_addPremise RX1 none false ll_mN ll_mR ll_mK ll_cnt L xs false 26 (.inl (lo_bin 27 (fun x y => x + y))) := lk_iadd (by decide +kernel)
theorem k_15_27 (L : Nat) (xs : Nat → Int32) : ll_OK1 cX1_addPremise RX1 none false ll_mN ll_mR ll_mK ll_cnt L xs false 27 (.inl (lo_putf 30 1 9 0)) := lk_putf (ix := 46) (ci := 1) (k := 9) (C := RX1) (T := TX1) (N := 12) (ty0 := tyX1) (by decide +kernel) rfl in_1 tyX1_ok nmX1 (by decide) tb_76 (fun B adr v w h1 h2 => ll_fit_int (B := B) (adr := adr) h1 h2) (Or.inl rfl)
theorem k_15_30 (L : Nat) (xs : Nat → Int32) : ll_OK1 cX1_addPremise RX1 none false ll_mN ll_mR ll_mK ll_cnt L xs false 30 (.inl (lo_aload 31 0)) := lk_aload_n (k := 0) (by decide +kernel) rfl
theorem k_15_31 (L : Nat) (xs : Nat → Int32) : ll_OK1 cX1_addPremise RX1 none false ll_mN ll_mR ll_mK ll_cnt L xs false 31 (.inl (lo_getf 34 1 4)) := lk_getf (ix := 24) (ci := 1) (k := 4) (C := RX1) (T := TX1) (N := 12) (by decide +kernel) rfl in_1 (by decide) tb_66
theorem k_15_34 (L : Nat) (xs : Nat → Int32) : ll_OK1 cX1_addPremise RX1 none false ll_mN ll_mR ll_mK ll_cnt L xs false 34 (.inl (lo_iload 35 1)) := lk_iload_n (k := 1) (by decide +kernel) rfl
theorem k_15_35 (L : Nat) (xs : Nat → Int32) : ll_OK1 cX1_addPremise RX1 none false ll_mN ll_mR ll_mK ll_cnt L xs false 35 (.inl (lo_dup2 36)) := lk_dup2 (by decide +kernel)
theorem k_15_36 (L : Nat) (xs : Nat → Int32) : ll_OK1 cX1_addPremise RX1 none false ll_mN ll_mR ll_mK ll_cnt L xs false 36 (.inl (lo_ald 37 0)) := lk_iald (by decide +kernel)
theorem k_15_37 (L : Nat) (xs : Nat → Int32) : ll_OK1 cX1_addPremise RX1 none false ll_mN ll_mR ll_mK ll_cnt L xs false 37 (.inl (lo_push 38 (.int 1))) := lk_iconst (n := 1) (by decide +kernel) (by decide)
theorem k_15_38 (L : Nat) (xs : Nat → Int32) : ll_OK1 cX1_addPremise RX1 none false ll_mN ll_mR ll_mK ll_cnt L xs false 38 (.inl (lo_bin 39 (fun x y => x + y))) := lk_iadd (by decide +kernel)
theorem k_15_39 (L : Nat) (xs : Nat → Int32) : ll_OK1 cX1_addPremise RX1 none false ll_mN ll_mR ll_mK ll_cnt L xs false 39 (.inl (lo_ast 40 0)) := lk_iast (by decide +kernel)
theorem k_15_40 (L : Nat) (xs : Nat → Int32) : ll_OK1 cX1_addPremise RX1 none false ll_mN ll_mR ll_mK ll_cnt L xs false 40 (.inr (.inr 0)) := ⟨fun _ => ⟨(by decide +kernel), rfl⟩, (fun h => by cases h), fun h => by cases h⟩
theorem ok_15 (L : Nat) (xs : Nat → Int32) : ∀ q ∈ cd_15, ll_OK1 cX1_addPremise RX1 none false ll_mN ll_mR ll_mK ll_cnt L xs false q.1 q.2 :=
  List.forall_mem_cons.mpr ⟨k_15_0 L xs, List.forall_mem_cons.mpr ⟨k_15_1 L xs, List.forall_mem_cons.mpr ⟨k_15_4 L xs, List.forall_mem_cons.mpr ⟨k_15_7 L xs, List.forall_mem_cons.mpr ⟨k_15_10 L xs, List.forall_mem_cons.mpr ⟨k_15_11 L xs, List.forall_mem_cons.mpr ⟨k_15_14 L xs, List.forall_mem_cons.mpr ⟨k_15_15 L xs, List.forall_mem_cons.mpr ⟨k_15_18 L xs, List.forall_mem_cons.mpr ⟨k_15_19 L xs, List.forall_mem_cons.mpr ⟨k_15_20 L xs, List.forall_mem_cons.mpr ⟨k_15_21 L xs, List.forall_mem_cons.mpr ⟨k_15_22 L xs, List.forall_mem_cons.mpr ⟨k_15_25 L xs, List.forall_mem_cons.mpr ⟨k_15_26 L xs, List.forall_mem_cons.mpr ⟨k_15_27 L xs, List.forall_mem_cons.mpr ⟨k_15_30 L xs, List.forall_mem_cons.mpr ⟨k_15_31 L xs, List.forall_mem_cons.mpr ⟨k_15_34 L xs, List.forall_mem_cons.mpr ⟨k_15_35 L xs, List.forall_mem_cons.mpr ⟨k_15_36 L xs, List.forall_mem_cons.mpr ⟨k_15_37 L xs, List.forall_mem_cons.mpr ⟨k_15_38 L xs, List.forall_mem_cons.mpr ⟨k_15_39 L xs, List.forall_mem_cons.mpr ⟨k_15_40 L xs, fun _ h => absurd h List.not_mem_nil⟩⟩⟩⟩⟩⟩⟩⟩⟩⟩⟩⟩⟩⟩⟩⟩⟩⟩⟩⟩⟩⟩⟩⟩⟩
/-- InclusionProver$Lines.dropPremises.(I)V -/
def cd_16 : List (Nat × ll_O) := [
  (0, .inl (lo_aload 1 0)),
  (1, .inl (lo_dup 2)),
  (2, .inl (lo_getf 5 1 9)),
  (5, .inl (lo_aload 6 0)),
  (6, .inl (lo_getf 9 1 4)),
  (9, .inl (lo_iload 10 1)),
  (10, .inl (lo_ald 11 0)),
  (11, .inl (lo_bin 12 (fun x y => x - y))),
  (12, .inl (lo_putf 15 1 9 0)),
  (15, .inl (lo_aload 16 0)),
  (16, .inl (lo_getf 19 1 4)),
  (19, .inl (lo_iload 20 1)),
  (20, .inl (lo_push 21 (.int 0))),
  (21, .inl (lo_ast 22 0)),
  (22, .inr (.inr 0))]
theorem k_16_0 (L : Nat) (xs : Nat → Int32) : ll_OK1 cX1_dropPremises RX1 none false ll_mN ll_mR ll_mK ll_cnt L xs false 0 (.inl (lo_aload 1 0)) := lk_aload_n (k := 0) (by decide +kernel) rfl
theorem k_16_1 (L : Nat) (xs : Nat → Int32) : ll_OK1 cX1_dropPremises RX1 none false ll_mN ll_mR ll_mK ll_cnt L xs false 1 (.inl (lo_dup 2)) := lk_dup (by decide +kernel)
theorem k_16_2 (L : Nat) (xs : Nat → Int32) : ll_OK1 cX1_dropPremises RX1 none false ll_mN ll_mR ll_mK ll_cnt L xs false 2 (.inl (lo_getf 5 1 9)) := lk_getf (ix := 46) (ci := 1) (k := 9) (C := RX1) (T := TX1) (N := 12) (by decide +kernel) rfl in_1 (by decide) tb_76
theorem k_16_5 (L : Nat) (xs : Nat → Int32) : ll_OK1 cX1_dropPremises RX1 none false ll_mN ll_mR ll_mK ll_cnt L xs false 5 (.inl (lo_aload 6 0)) := lk_aload_n (k := 0) (by decide +kernel) rfl
theorem k_16_6 (L : Nat) (xs : Nat → Int32) : ll_OK1 cX1_dropPremises RX1 none false ll_mN ll_mR ll_mK ll_cnt L xs false 6 (.inl (lo_getf 9 1 4)) := lk_getf (ix := 24) (ci := 1) (k := 4) (C := RX1) (T := TX1) (N := 12) (by decide +kernel) rfl in_1 (by decide) tb_66
theorem k_16_9 (L : Nat) (xs : Nat → Int32) : ll_OK1 cX1_dropPremises RX1 none false ll_mN ll_mR ll_mK ll_cnt L xs false 9 (.inl (lo_iload 10 1)) := lk_iload_n (k := 1) (by decide +kernel) rfl
theorem k_16_10 (L : Nat) (xs : Nat → Int32) : ll_OK1 cX1_dropPremises RX1 none false ll_mN ll_mR ll_mK ll_cnt L xs false 10 (.inl (lo_ald 11 0)) := lk_iald (by decide +kernel)
theorem k_16_11 (L : Nat) (xs : Nat → Int32) : ll_OK1 cX1_dropPremises RX1 none false ll_mN ll_mR ll_mK ll_cnt L xs false 11 (.inl (lo_bin 12 (fun x y => x - y))) := lk_isub (by decide +kernel)
theorem k_16_12 (L : Nat) (xs : Nat → Int32) : ll_OK1 cX1_dropPremises RX1 none false ll_mN ll_mR ll_mK ll_cnt L xs false 12 (.inl (lo_putf 15 1 9 0)) := lk_putf (ix := 46) (ci := 1) (k := 9) (C := RX1) (T := TX1) (N := 12) (ty0 := tyX1) (by decide +kernel) rfl in_1 tyX1_ok nmX1 (by decide) tb_76 (fun B adr v w h1 h2 => ll_fit_int (B := B) (adr := adr) h1 h2) (Or.inl rfl)
theorem k_16_15 (L : Nat) (xs : Nat → Int32) : ll_OK1 cX1_dropPremises RX1 none false ll_mN ll_mR ll_mK ll_cnt L xs false 15 (.inl (lo_aload 16 0)) := lk_aload_n (k := 0) (by decide +kernel) rfl
theorem k_16_16 (L : Nat) (xs : Nat → Int32) : ll_OK1 cX1_dropPremises RX1 none false ll_mN ll_mR ll_mK ll_cnt L xs false 16 (.inl (lo_getf 19 1 4)) := lk_getf (ix := 24) (ci := 1) (k := 4) (C := RX1) (T := TX1) (N := 12) (by decide +kernel) rfl in_1 (by decide) tb_66
theorem k_16_19 (L : Nat) (xs : Nat → Int32) : ll_OK1 cX1_dropPremises RX1 none false ll_mN ll_mR ll_mK ll_cnt L xs false 19 (.inl (lo_iload 20 1)) := lk_iload_n (k := 1) (by decide +kernel) rfl
theorem k_16_20 (L : Nat) (xs : Nat → Int32) : ll_OK1 cX1_dropPremises RX1 none false ll_mN ll_mR ll_mK ll_cnt L xs false 20 (.inl (lo_push 21 (.int 0))) := lk_iconst (n := 0) (by decide +kernel) (by decide)
theorem k_16_21 (L : Nat) (xs : Nat → Int32) : ll_OK1 cX1_dropPremises RX1 none false ll_mN ll_mR ll_mK ll_cnt L xs false 21 (.inl (lo_ast 22 0)) := lk_iast (by decide +kernel)
theorem k_16_22 (L : Nat) (xs : Nat → Int32) : ll_OK1 cX1_dropPremises RX1 none false ll_mN ll_mR ll_mK ll_cnt L xs false 22 (.inr (.inr 0)) := ⟨fun _ => ⟨(by decide +kernel), rfl⟩, (fun h => by cases h), fun h => by cases h⟩
theorem ok_16 (L : Nat) (xs : Nat → Int32) : ∀ q ∈ cd_16, ll_OK1 cX1_dropPremises RX1 none false ll_mN ll_mR ll_mK ll_cnt L xs false q.1 q.2 :=
  List.forall_mem_cons.mpr ⟨k_16_0 L xs, List.forall_mem_cons.mpr ⟨k_16_1 L xs, List.forall_mem_cons.mpr ⟨k_16_2 L xs, List.forall_mem_cons.mpr ⟨k_16_5 L xs, List.forall_mem_cons.mpr ⟨k_16_6 L xs, List.forall_mem_cons.mpr ⟨k_16_9 L xs, List.forall_mem_cons.mpr ⟨k_16_10 L xs, List.forall_mem_cons.mpr ⟨k_16_11 L xs, List.forall_mem_cons.mpr ⟨k_16_12 L xs, List.forall_mem_cons.mpr ⟨k_16_15 L xs, List.forall_mem_cons.mpr ⟨k_16_16 L xs, List.forall_mem_cons.mpr ⟨k_16_19 L xs, List.forall_mem_cons.mpr ⟨k_16_20 L xs, List.forall_mem_cons.mpr ⟨k_16_21 L xs, List.forall_mem_cons.mpr ⟨k_16_22 L xs, fun _ h => absurd h List.not_mem_nil⟩⟩⟩⟩⟩⟩⟩⟩⟩⟩⟩⟩⟩⟩⟩
/-- InclusionProver$Lines.dropLast.()I -/
def cd_17 : List (Nat × ll_O) := [
  (0, .inl (lo_aload 1 0)),
  (1, .inl (lo_getf 4 1 8)),
  (4, .inl (lo_if 9 7 (fun x => decide (¬ x = 0)))),
  (7, .inl (lo_push 8 (.int (-1)))),
  (8, .inr (.inr 1)),
  (9, .inl (lo_aload 10 0)),
  (10, .inl (lo_dup 11)),
  (11, .inl (lo_getf 14 1 8)),
  (14, .inl (lo_push 15 (.int 1))),
  (15, .inl (lo_bin 16 (fun x y => x - y))),
  (16, .inl (lo_putf 19 1 8 0)),
  (19, .inl (lo_aload 20 0)),
  (20, .inl (lo_aload 21 0)),
  (21, .inl (lo_getf 24 1 8)),
  (24, .inr (.inl (16, 2, 27))),
  (27, .inl (lo_aload 28 0)),
  (28, .inl (lo_getf 31 1 8)),
  (31, .inr (.inr 1))]
theorem k_17_0 (L : Nat) (xs : Nat → Int32) : ll_OK1 cX1_dropLast RX1 (some .int) false ll_mN ll_mR ll_mK ll_cnt L xs false 0 (.inl (lo_aload 1 0)) := lk_aload_n (k := 0) (by decide +kernel) rfl
theorem k_17_1 (L : Nat) (xs : Nat → Int32) : ll_OK1 cX1_dropLast RX1 (some .int) false ll_mN ll_mR ll_mK ll_cnt L xs false 1 (.inl (lo_getf 4 1 8)) := lk_getf (ix := 42) (ci := 1) (k := 8) (C := RX1) (T := TX1) (N := 12) (by decide +kernel) rfl in_1 (by decide) tb_75
theorem k_17_4 (L : Nat) (xs : Nat → Int32) : ll_OK1 cX1_dropLast RX1 (some .int) false ll_mN ll_mR ll_mK ll_cnt L xs false 4 (.inl (lo_if 9 7 (fun x => decide (¬ x = 0)))) := lk_if_ne (off := 5) (by decide +kernel) rfl
theorem k_17_7 (L : Nat) (xs : Nat → Int32) : ll_OK1 cX1_dropLast RX1 (some .int) false ll_mN ll_mR ll_mK ll_cnt L xs false 7 (.inl (lo_push 8 (.int (-1)))) := lk_iconst (n := (-1)) (by decide +kernel) (by decide)
theorem k_17_8 (L : Nat) (xs : Nat → Int32) : ll_OK1 cX1_dropLast RX1 (some .int) false ll_mN ll_mR ll_mK ll_cnt L xs false 8 (.inr (.inr 1)) := ⟨(fun h => by cases h), (fun _ => ⟨(by decide +kernel), rfl⟩), fun h => by cases h⟩
theorem k_17_9 (L : Nat) (xs : Nat → Int32) : ll_OK1 cX1_dropLast RX1 (some .int) false ll_mN ll_mR ll_mK ll_cnt L xs false 9 (.inl (lo_aload 10 0)) := lk_aload_n (k := 0) (by decide +kernel) rfl
theorem k_17_10 (L : Nat) (xs : Nat → Int32) : ll_OK1 cX1_dropLast RX1 (some .int) false ll_mN ll_mR ll_mK ll_cnt L xs false 10 (.inl (lo_dup 11)) := lk_dup (by decide +kernel)
theorem k_17_11 (L : Nat) (xs : Nat → Int32) : ll_OK1 cX1_dropLast RX1 (some .int) false ll_mN ll_mR ll_mK ll_cnt L xs false 11 (.inl (lo_getf 14 1 8)) := lk_getf (ix := 42) (ci := 1) (k := 8) (C := RX1) (T := TX1) (N := 12) (by decide +kernel) rfl in_1 (by decide) tb_75
theorem k_17_14 (L : Nat) (xs : Nat → Int32) : ll_OK1 cX1_dropLast RX1 (some .int) false ll_mN ll_mR ll_mK ll_cnt L xs false 14 (.inl (lo_push 15 (.int 1))) := lk_iconst (n := 1) (by decide +kernel) (by decide)
theorem k_17_15 (L : Nat) (xs : Nat → Int32) : ll_OK1 cX1_dropLast RX1 (some .int) false ll_mN ll_mR ll_mK ll_cnt L xs false 15 (.inl (lo_bin 16 (fun x y => x - y))) := lk_isub (by decide +kernel)
theorem k_17_16 (L : Nat) (xs : Nat → Int32) : ll_OK1 cX1_dropLast RX1 (some .int) false ll_mN ll_mR ll_mK ll_cnt L xs false 16 (.inl (lo_putf 19 1 8 0)) := lk_putf (ix := 42) (ci := 1) (k := 8) (C := RX1) (T := TX1) (N := 12) (ty0 := tyX1) (by decide +kernel) rfl in_1 tyX1_ok nmX1 (by decide) tb_75 (fun B adr v w h1 h2 => ll_fit_int (B := B) (adr := adr) h1 h2) (Or.inl rfl)
theorem k_17_19 (L : Nat) (xs : Nat → Int32) : ll_OK1 cX1_dropLast RX1 (some .int) false ll_mN ll_mR ll_mK ll_cnt L xs false 19 (.inl (lo_aload 20 0)) := lk_aload_n (k := 0) (by decide +kernel) rfl
theorem k_17_20 (L : Nat) (xs : Nat → Int32) : ll_OK1 cX1_dropLast RX1 (some .int) false ll_mN ll_mR ll_mK ll_cnt L xs false 20 (.inl (lo_aload 21 0)) := lk_aload_n (k := 0) (by decide +kernel) rfl
theorem k_17_21 (L : Nat) (xs : Nat → Int32) : ll_OK1 cX1_dropLast RX1 (some .int) false ll_mN ll_mR ll_mK ll_cnt L xs false 21 (.inl (lo_getf 24 1 8)) := lk_getf (ix := 42) (ci := 1) (k := 8) (C := RX1) (T := TX1) (N := 12) (by decide +kernel) rfl in_1 (by decide) tb_75
theorem k_17_24 (L : Nat) (xs : Nat → Int32) : ll_OK1 cX1_dropLast RX1 (some .int) false ll_mN ll_mR ll_mK ll_cnt L xs false 24 (.inr (.inl (16, 2, 27))) := ⟨rfl, by decide, by rw [mN_16, mK_16, mR_16]; exact lj_v 63 1 1 (RX1, TX1, 12) (by decide +kernel) tb_83 tb_84 tb_85 rfl rfl rfl rfl (by decide +kernel)⟩
theorem k_17_27 (L : Nat) (xs : Nat → Int32) : ll_OK1 cX1_dropLast RX1 (some .int) false ll_mN ll_mR ll_mK ll_cnt L xs false 27 (.inl (lo_aload 28 0)) := lk_aload_n (k := 0) (by decide +kernel) rfl
theorem k_17_28 (L : Nat) (xs : Nat → Int32) : ll_OK1 cX1_dropLast RX1 (some .int) false ll_mN ll_mR ll_mK ll_cnt L xs false 28 (.inl (lo_getf 31 1 8)) := lk_getf (ix := 42) (ci := 1) (k := 8) (C := RX1) (T := TX1) (N := 12) (by decide +kernel) rfl in_1 (by decide) tb_75
theorem k_17_31 (L : Nat) (xs : Nat → Int32) : ll_OK1 cX1_dropLast RX1 (some .int) false ll_mN ll_mR ll_mK ll_cnt L xs false 31 (.inr (.inr 1)) := ⟨(fun h => by cases h), (fun _ => ⟨(by decide +kernel), rfl⟩), fun h => by cases h⟩
theorem ok_17 (L : Nat) (xs : Nat → Int32) : ∀ q ∈ cd_17, ll_OK1 cX1_dropLast RX1 (some .int) false ll_mN ll_mR ll_mK ll_cnt L xs false q.1 q.2 :=
  List.forall_mem_cons.mpr ⟨k_17_0 L xs, List.forall_mem_cons.mpr ⟨k_17_1 L xs, List.forall_mem_cons.mpr ⟨k_17_4 L xs, List.forall_mem_cons.mpr ⟨k_17_7 L xs, List.forall_mem_cons.mpr ⟨k_17_8 L xs, List.forall_mem_cons.mpr ⟨k_17_9 L xs, List.forall_mem_cons.mpr ⟨k_17_10 L xs, List.forall_mem_cons.mpr ⟨k_17_11 L xs, List.forall_mem_cons.mpr ⟨k_17_14 L xs, List.forall_mem_cons.mpr ⟨k_17_15 L xs, List.forall_mem_cons.mpr ⟨k_17_16 L xs, List.forall_mem_cons.mpr ⟨k_17_19 L xs, List.forall_mem_cons.mpr ⟨k_17_20 L xs, List.forall_mem_cons.mpr ⟨k_17_21 L xs, List.forall_mem_cons.mpr ⟨k_17_24 L xs, List.forall_mem_cons.mpr ⟨k_17_27 L xs, List.forall_mem_cons.mpr ⟨k_17_28 L xs, List.forall_mem_cons.mpr ⟨k_17_31 L xs, fun _ h => absurd h List.not_mem_nil⟩⟩⟩⟩⟩⟩⟩⟩⟩⟩⟩⟩⟩⟩⟩⟩⟩⟩
/-- InclusionProver$Lines.ofRule.(I)I -/
def cd_18 : List (Nat × ll_O) := [
  (0, .inl (lo_push 1 (.int 0))),
  (1, .inl (lo_istore 2 2)),
  (2, .inl (lo_push 3 (.int 0))),
  (3, .inl (lo_istore 4 3)),
  (4, .inl (lo_iload 5 3)),
  (5, .inl (lo_aload 6 0)),
  (6, .inl (lo_getf 9 1 8)),
  (9, .inl (lo_cmp 31 12 (fun x y => decide (y ≤ x)))),
  (12, .inl (lo_aload 13 0)),
  (13, .inl (lo_getf 16 1 2)),
  (16, .inl (lo_iload 17 3)),
  (17, .inl (lo_ald 18 0)),
  (18, .inl (lo_iload 19 1)),
  (19, .inl (lo_cmp 25 22 (fun x y => decide (¬ x = y)))),
  (22, .inl (lo_iinc 25 2 1)),
  (25, .inl (lo_iinc 28 3 1)),
  (28, .inl (lo_goto 4)),
  (31, .inl (lo_iload 32 2)),
  (32, .inr (.inr 1))]
theorem k_18_0 (L : Nat) (xs : Nat → Int32) : ll_OK1 cX1_ofRule RX1 (some .int) false ll_mN ll_mR ll_mK ll_cnt L xs false 0 (.inl (lo_push 1 (.int 0))) := lk_iconst (n := 0) (by decide +kernel) (by decide)
theorem k_18_1 (L : Nat) (xs : Nat → Int32) : ll_OK1 cX1_ofRule RX1 (some .int) false ll_mN ll_mR ll_mK ll_cnt L xs false 1 (.inl (lo_istore 2 2)) := lk_istore_n (k := 2) (by decide +kernel) rfl
theorem k_18_2 (L : Nat) (xs : Nat → Int32) : ll_OK1 cX1_ofRule RX1 (some .int) false ll_mN ll_mR ll_mK ll_cnt L xs false 2 (.inl (lo_push 3 (.int 0))) := lk_iconst (n := 0) (by decide +kernel) (by decide)
theorem k_18_3 (L : Nat) (xs : Nat → Int32) : ll_OK1 cX1_ofRule RX1 (some .int) false ll_mN ll_mR ll_mK ll_cnt L xs false 3 (.inl (lo_istore 4 3)) := lk_istore_n (k := 3) (by decide +kernel) rfl
theorem k_18_4 (L : Nat) (xs : Nat → Int32) : ll_OK1 cX1_ofRule RX1 (some .int) false ll_mN ll_mR ll_mK ll_cnt L xs false 4 (.inl (lo_iload 5 3)) := lk_iload_n (k := 3) (by decide +kernel) rfl
theorem k_18_5 (L : Nat) (xs : Nat → Int32) : ll_OK1 cX1_ofRule RX1 (some .int) false ll_mN ll_mR ll_mK ll_cnt L xs false 5 (.inl (lo_aload 6 0)) := lk_aload_n (k := 0) (by decide +kernel) rfl
theorem k_18_6 (L : Nat) (xs : Nat → Int32) : ll_OK1 cX1_ofRule RX1 (some .int) false ll_mN ll_mR ll_mK ll_cnt L xs false 6 (.inl (lo_getf 9 1 8)) := lk_getf (ix := 42) (ci := 1) (k := 8) (C := RX1) (T := TX1) (N := 12) (by decide +kernel) rfl in_1 (by decide) tb_75
theorem k_18_9 (L : Nat) (xs : Nat → Int32) : ll_OK1 cX1_ofRule RX1 (some .int) false ll_mN ll_mR ll_mK ll_cnt L xs false 9 (.inl (lo_cmp 31 12 (fun x y => decide (y ≤ x)))) := lk_icmp_ge (off := 22) (by decide +kernel) rfl
theorem k_18_12 (L : Nat) (xs : Nat → Int32) : ll_OK1 cX1_ofRule RX1 (some .int) false ll_mN ll_mR ll_mK ll_cnt L xs false 12 (.inl (lo_aload 13 0)) := lk_aload_n (k := 0) (by decide +kernel) rfl
theorem k_18_13 (L : Nat) (xs : Nat → Int32) : ll_OK1 cX1_ofRule RX1 (some .int) false ll_mN ll_mR ll_mK ll_cnt L xs false 13 (.inl (lo_getf 16 1 2)) := lk_getf (ix := 18) (ci := 1) (k := 2) (C := RX1) (T := TX1) (N := 12) (by decide +kernel) rfl in_1 (by decide) tb_64
theorem k_18_16 (L : Nat) (xs : Nat → Int32) : ll_OK1 cX1_ofRule RX1 (some .int) false ll_mN ll_mR ll_mK ll_cnt L xs false 16 (.inl (lo_iload 17 3)) := lk_iload_n (k := 3) (by decide +kernel) rfl
theorem k_18_17 (L : Nat) (xs : Nat → Int32) : ll_OK1 cX1_ofRule RX1 (some .int) false ll_mN ll_mR ll_mK ll_cnt L xs false 17 (.inl (lo_ald 18 0)) := lk_iald (by decide +kernel)
theorem k_18_18 (L : Nat) (xs : Nat → Int32) : ll_OK1 cX1_ofRule RX1 (some .int) false ll_mN ll_mR ll_mK ll_cnt L xs false 18 (.inl (lo_iload 19 1)) := lk_iload_n (k := 1) (by decide +kernel) rfl
theorem k_18_19 (L : Nat) (xs : Nat → Int32) : ll_OK1 cX1_ofRule RX1 (some .int) false ll_mN ll_mR ll_mK ll_cnt L xs false 19 (.inl (lo_cmp 25 22 (fun x y => decide (¬ x = y)))) := lk_icmp_ne (off := 6) (by decide +kernel) rfl
theorem k_18_22 (L : Nat) (xs : Nat → Int32) : ll_OK1 cX1_ofRule RX1 (some .int) false ll_mN ll_mR ll_mK ll_cnt L xs false 22 (.inl (lo_iinc 25 2 1)) := lk_iinc (n := 1) (by decide +kernel) (by decide)
theorem k_18_25 (L : Nat) (xs : Nat → Int32) : ll_OK1 cX1_ofRule RX1 (some .int) false ll_mN ll_mR ll_mK ll_cnt L xs false 25 (.inl (lo_iinc 28 3 1)) := lk_iinc (n := 1) (by decide +kernel) (by decide)
theorem k_18_28 (L : Nat) (xs : Nat → Int32) : ll_OK1 cX1_ofRule RX1 (some .int) false ll_mN ll_mR ll_mK ll_cnt L xs false 28 (.inl (lo_goto 4)) := lk_goto (off := (-24)) (by decide +kernel) rfl
theorem k_18_31 (L : Nat) (xs : Nat → Int32) : ll_OK1 cX1_ofRule RX1 (some .int) false ll_mN ll_mR ll_mK ll_cnt L xs false 31 (.inl (lo_iload 32 2)) := lk_iload_n (k := 2) (by decide +kernel) rfl
theorem k_18_32 (L : Nat) (xs : Nat → Int32) : ll_OK1 cX1_ofRule RX1 (some .int) false ll_mN ll_mR ll_mK ll_cnt L xs false 32 (.inr (.inr 1)) := ⟨(fun h => by cases h), (fun _ => ⟨(by decide +kernel), rfl⟩), fun h => by cases h⟩
theorem ok_18 (L : Nat) (xs : Nat → Int32) : ∀ q ∈ cd_18, ll_OK1 cX1_ofRule RX1 (some .int) false ll_mN ll_mR ll_mK ll_cnt L xs false q.1 q.2 :=
  List.forall_mem_cons.mpr ⟨k_18_0 L xs, List.forall_mem_cons.mpr ⟨k_18_1 L xs, List.forall_mem_cons.mpr ⟨k_18_2 L xs, List.forall_mem_cons.mpr ⟨k_18_3 L xs, List.forall_mem_cons.mpr ⟨k_18_4 L xs, List.forall_mem_cons.mpr ⟨k_18_5 L xs, List.forall_mem_cons.mpr ⟨k_18_6 L xs, List.forall_mem_cons.mpr ⟨k_18_9 L xs, List.forall_mem_cons.mpr ⟨k_18_12 L xs, List.forall_mem_cons.mpr ⟨k_18_13 L xs, List.forall_mem_cons.mpr ⟨k_18_16 L xs, List.forall_mem_cons.mpr ⟨k_18_17 L xs, List.forall_mem_cons.mpr ⟨k_18_18 L xs, List.forall_mem_cons.mpr ⟨k_18_19 L xs, List.forall_mem_cons.mpr ⟨k_18_22 L xs, List.forall_mem_cons.mpr ⟨k_18_25 L xs, List.forall_mem_cons.mpr ⟨k_18_28 L xs, List.forall_mem_cons.mpr ⟨k_18_31 L xs, List.forall_mem_cons.mpr ⟨k_18_32 L xs, fun _ h => absurd h List.not_mem_nil⟩⟩⟩⟩⟩⟩⟩⟩⟩⟩⟩⟩⟩⟩⟩⟩⟩⟩⟩
/-- InclusionProver$Lines.premisesOfNone.()I -/
def cd_19 : List (Nat × ll_O) := [
  (0, .inl (lo_aload 1 0)),
  (1, .inl (lo_getf 4 1 7)),
  (4, .inl (lo_push 5 (.int 0))),
  (5, .inr (.inl (231, 2, 8))),
  (8, .inl (lo_push 9 (.int 0))),
  (9, .inl (lo_istore 10 1)),
  (10, .inl (lo_iload 11 1)),
  (11, .inl (lo_aload 12 0)),
  (12, .inl (lo_getf 15 1 9)),
  (15, .inl (lo_cmp 52 18 (fun x y => decide (y ≤ x)))),
  (18, .inl (lo_aload 19 0)),
  (19, .inl (lo_aload 20 0)),
  (20, .inl (lo_getf 23 1 5)),
  (23, .inl (lo_iload 24 1)),
  (24, .inl (lo_ald 25 0)),
  (25, .inr (.inl (10, 2, 28))),
  (28, .inl (lo_if 46 31 (fun x => decide (x = 0)))),
  (31, .inl (lo_aload 32 0)),
  (32, .inl (lo_getf 35 1 7)),
  (35, .inl (lo_aload 36 0)),
  (36, .inl (lo_getf 39 1 5)),
  (39, .inl (lo_iload 40 1)),
  (40, .inl (lo_ald 41 0)),
  (41, .inl (lo_dup2 42)),
  (42, .inl (lo_ald 43 0)),
  (43, .inl (lo_push 44 (.int 1))),
  (44, .inl (lo_bin 45 (fun x y => x + y))),
  (45, .inl (lo_ast 46 0)),
  (46, .inl (lo_iinc 49 1 1)),
  (49, .inl (lo_goto 10)),
  (52, .inl (lo_push 53 (.int 0))),
  (53, .inl (lo_istore 54 1)),
  (54, .inl (lo_push 55 (.int 0))),
  (55, .inl (lo_istore 56 2)),
  (56, .inl (lo_iload 57 2)),
  (57, .inl (lo_aload 58 0)),
  (58, .inl (lo_getf 61 1 8)),
  (61, .inl (lo_cmp 82 64 (fun x y => decide (y ≤ x)))),
  (64, .inl (lo_aload 65 0)),
  (65, .inl (lo_getf 68 1 7)),
  (68, .inl (lo_iload 69 2)),
  (69, .inl (lo_ald 70 0)),
  (70, .inl (lo_if 76 73 (fun x => decide (¬ x = 0)))),
  (73, .inl (lo_iinc 76 1 1)),
  (76, .inl (lo_iinc 79 2 1)),
  (79, .inl (lo_goto 56)),
  (82, .inl (lo_iload 83 1)),
  (83, .inr (.inr 1))]
theorem k_19_0 (L : Nat) (xs : Nat → Int32) : ll_OK1 cX1_premisesOfNone RX1 (some .int) false ll_mN ll_mR ll_mK ll_cnt L xs false 0 (.inl (lo_aload 1 0)) := lk_aload_n (k := 0) (by decide +kernel) rfl
theorem k_19_1 (L : Nat) (xs : Nat → Int32) : ll_OK1 cX1_premisesOfNone RX1 (some .int) false ll_mN ll_mR ll_mK ll_cnt L xs false 1 (.inl (lo_getf 4 1 7)) := lk_getf (ix := 39) (ci := 1) (k := 7) (C := RX1) (T := TX1) (N := 12) (by decide +kernel) rfl in_1 (by decide) tb_74
theorem k_19_4 (L : Nat) (xs : Nat → Int32) : ll_OK1 cX1_premisesOfNone RX1 (some .int) false ll_mN ll_mR ll_mK ll_cnt L xs false 4 (.inl (lo_push 5 (.int 0))) := lk_iconst (n := 0) (by decide +kernel) (by decide)
theorem k_19_5 (L : Nat) (xs : Nat → Int32) : ll_OK1 cX1_premisesOfNone RX1 (some .int) false ll_mN ll_mR ll_mK ll_cnt L xs false 5 (.inr (.inl (231, 2, 8))) := ⟨rfl, by decide, by rw [mN_231, mK_231, mR_231]; exact lj_s 66 (by decide +kernel) tb_86 tb_87 (by decide +kernel)⟩
theorem k_19_8 (L : Nat) (xs : Nat → Int32) : ll_OK1 cX1_premisesOfNone RX1 (some .int) false ll_mN ll_mR ll_mK ll_cnt L xs false 8 (.inl (lo_push 9 (.int 0))) := lk_iconst (n := 0) (by decide +kernel) (by decide)
theorem k_19_9 (L : Nat) (xs : Nat → Int32) : ll_OK1 cX1_premisesOfNone RX1 (some .int) false ll_mN ll_mR ll_mK ll_cnt L xs false 9 (.inl (lo_istore 10 1)) := lk_istore_n (k := 1) (by decide +kernel) rfl
theorem k_19_10 (L : Nat) (xs : Nat → Int32) : ll_OK1 cX1_premisesOfNone RX1 (some .int) false ll_mN ll_mR ll_mK ll_cnt L xs false 10 (.inl (lo_iload 11 1)) := lk_iload_n (k := 1) (by decide +kernel) rfl
theorem k_19_11 (L : Nat) (xs : Nat → Int32) : ll_OK1 cX1_premisesOfNone RX1 (some .int) false ll_mN ll_mR ll_mK ll_cnt L xs false 11 (.inl (lo_aload 12 0)) := lk_aload_n (k := 0) (by decide +kernel) rfl
theorem k_19_12 (L : Nat) (xs : Nat → Int32) : ll_OK1 cX1_premisesOfNone RX1 (some .int) false ll_mN ll_mR ll_mK ll_cnt L xs false 12 (.inl (lo_getf 15 1 9)) := lk_getf (ix := 46) (ci := 1) (k := 9) (C := RX1) (T := TX1) (N := 12) (by decide +kernel) rfl in_1 (by decide) tb_76
theorem k_19_15 (L : Nat) (xs : Nat → Int32) : ll_OK1 cX1_premisesOfNone RX1 (some .int) false ll_mN ll_mR ll_mK ll_cnt L xs false 15 (.inl (lo_cmp 52 18 (fun x y => decide (y ≤ x)))) := lk_icmp_ge (off := 37) (by decide +kernel) rfl
theorem k_19_18 (L : Nat) (xs : Nat → Int32) : ll_OK1 cX1_premisesOfNone RX1 (some .int) false ll_mN ll_mR ll_mK ll_cnt L xs false 18 (.inl (lo_aload 19 0)) := lk_aload_n (k := 0) (by decide +kernel) rfl
theorem k_19_19 (L : Nat) (xs : Nat → Int32) : ll_OK1 cX1_premisesOfNone RX1 (some .int) false ll_mN ll_mR ll_mK ll_cnt L xs false 19 (.inl (lo_aload 20 0)) := lk_aload_n (k := 0) (by decide +kernel) rfl
theorem k_19_20 (L : Nat) (xs : Nat → Int32) : ll_OK1 cX1_premisesOfNone RX1 (some .int) false ll_mN ll_mR ll_mK ll_cnt L xs false 20 (.inl (lo_getf 23 1 5)) := lk_getf (ix := 27) (ci := 1) (k := 5) (C := RX1) (T := TX1) (N := 12) (by decide +kernel) rfl in_1 (by decide) tb_67
theorem k_19_23 (L : Nat) (xs : Nat → Int32) : ll_OK1 cX1_premisesOfNone RX1 (some .int) false ll_mN ll_mR ll_mK ll_cnt L xs false 23 (.inl (lo_iload 24 1)) := lk_iload_n (k := 1) (by decide +kernel) rfl
theorem k_19_24 (L : Nat) (xs : Nat → Int32) : ll_OK1 cX1_premisesOfNone RX1 (some .int) false ll_mN ll_mR ll_mK ll_cnt L xs false 24 (.inl (lo_ald 25 0)) := lk_iald (by decide +kernel)
theorem k_19_25 (L : Nat) (xs : Nat → Int32) : ll_OK1 cX1_premisesOfNone RX1 (some .int) false ll_mN ll_mR ll_mK ll_cnt L xs false 25 (.inr (.inl (10, 2, 28))) := ⟨rfl, by decide, by rw [mN_10, mK_10, mR_10]; exact lj_v 59 1 1 (RX1, TX1, 12) (by decide +kernel) tb_82 tb_46 tb_47 rfl rfl rfl rfl (by decide +kernel)⟩
theorem k_19_28 (L : Nat) (xs : Nat → Int32) : ll_OK1 cX1_premisesOfNone RX1 (some .int) false ll_mN ll_mR ll_mK ll_cnt L xs false 28 (.inl (lo_if 46 31 (fun x => decide (x = 0)))) := lk_if_eq (off := 18) (by decide +kernel) rfl
theorem k_19_31 (L : Nat) (xs : Nat → Int32) : ll_OK1 cX1_premisesOfNone RX1 (some .int) false ll_mN ll_mR ll_mK ll_cnt L xs false 31 (.inl (lo_aload 32 0)) := lk_aload_n (k := 0) (by decide +kernel) rfl
theorem k_19_32 (L : Nat) (xs : Nat → Int32) : ll_OK1 cX1_premisesOfNone RX1 (some .int) false ll_mN ll_mR ll_mK ll_cnt L xs false 32 (.inl (lo_getf 35 1 7)) := lk_getf (ix := 39) (ci := 1) (k := 7) (C := RX1) (T := TX1) (N := 12) (by decide +kernel) rfl in_1 (by decide) tb_74
theorem k_19_35 (L : Nat) (xs : Nat → Int32) : ll_OK1 cX1_premisesOfNone RX1 (some .int) false ll_mN ll_mR ll_mK ll_cnt L xs false 35 (.inl (lo_aload 36 0)) := lk_aload_n (k := 0) (by decide +kernel) rfl
theorem k_19_36 (L : Nat) (xs : Nat → Int32) : ll_OK1 cX1_premisesOfNone RX1 (some .int) false ll_mN ll_mR ll_mK ll_cnt L xs false 36 (.inl (lo_getf 39 1 5)) := lk_getf (ix := 27) (ci := 1) (k := 5) (C := RX1) (T := TX1) (N := 12) (by decide +kernel) rfl in_1 (by decide) tb_67
theorem k_19_39 (L : Nat) (xs : Nat → Int32) : ll_OK1 cX1_premisesOfNone RX1 (some .int) false ll_mN ll_mR ll_mK ll_cnt L xs false 39 (.inl (lo_iload 40 1)) := lk_iload_n (k := 1) (by decide +kernel) rfl
theorem k_19_40 (L : Nat) (xs : Nat → Int32) : ll_OK1 cX1_premisesOfNone RX1 (some .int) false ll_mN ll_mR ll_mK ll_cnt L xs false 40 (.inl (lo_ald 41 0)) := lk_iald (by decide +kernel)
theorem k_19_41 (L : Nat) (xs : Nat → Int32) : ll_OK1 cX1_premisesOfNone RX1 (some .int) false ll_mN ll_mR ll_mK ll_cnt L xs false 41 (.inl (lo_dup2 42)) := lk_dup2 (by decide +kernel)
theorem k_19_42 (L : Nat) (xs : Nat → Int32) : ll_OK1 cX1_premisesOfNone RX1 (some .int) false ll_mN ll_mR ll_mK ll_cnt L xs false 42 (.inl (lo_ald 43 0)) := lk_iald (by decide +kernel)
theorem k_19_43 (L : Nat) (xs : Nat → Int32) : ll_OK1 cX1_premisesOfNone RX1 (some .int) false ll_mN ll_mR ll_mK ll_cnt L xs false 43 (.inl (lo_push 44 (.int 1))) := lk_iconst (n := 1) (by decide +kernel) (by decide)
theorem k_19_44 (L : Nat) (xs : Nat → Int32) : ll_OK1 cX1_premisesOfNone RX1 (some .int) false ll_mN ll_mR ll_mK ll_cnt L xs false 44 (.inl (lo_bin 45 (fun x y => x + y))) := lk_iadd (by decide +kernel)
theorem k_19_45 (L : Nat) (xs : Nat → Int32) : ll_OK1 cX1_premisesOfNone RX1 (some .int) false ll_mN ll_mR ll_mK ll_cnt L xs false 45 (.inl (lo_ast 46 0)) := lk_iast (by decide +kernel)
theorem k_19_46 (L : Nat) (xs : Nat → Int32) : ll_OK1 cX1_premisesOfNone RX1 (some .int) false ll_mN ll_mR ll_mK ll_cnt L xs false 46 (.inl (lo_iinc 49 1 1)) := lk_iinc (n := 1) (by decide +kernel) (by decide)
theorem k_19_49 (L : Nat) (xs : Nat → Int32) : ll_OK1 cX1_premisesOfNone RX1 (some .int) false ll_mN ll_mR ll_mK ll_cnt L xs false 49 (.inl (lo_goto 10)) := lk_goto (off := (-39)) (by decide +kernel) rfl
theorem k_19_52 (L : Nat) (xs : Nat → Int32) : ll_OK1 cX1_premisesOfNone RX1 (some .int) false ll_mN ll_mR ll_mK ll_cnt L xs false 52 (.inl (lo_push 53 (.int 0))) := lk_iconst (n := 0) (by decide +kernel) (by decide)
theorem k_19_53 (L : Nat) (xs : Nat → Int32) : ll_OK1 cX1_premisesOfNone RX1 (some .int) false ll_mN ll_mR ll_mK ll_cnt L xs false 53 (.inl (lo_istore 54 1)) := lk_istore_n (k := 1) (by decide +kernel) rfl
theorem k_19_54 (L : Nat) (xs : Nat → Int32) : ll_OK1 cX1_premisesOfNone RX1 (some .int) false ll_mN ll_mR ll_mK ll_cnt L xs false 54 (.inl (lo_push 55 (.int 0))) := lk_iconst (n := 0) (by decide +kernel) (by decide)
theorem k_19_55 (L : Nat) (xs : Nat → Int32) : ll_OK1 cX1_premisesOfNone RX1 (some .int) false ll_mN ll_mR ll_mK ll_cnt L xs false 55 (.inl (lo_istore 56 2)) := lk_istore_n (k := 2) (by decide +kernel) rfl
theorem k_19_56 (L : Nat) (xs : Nat → Int32) : ll_OK1 cX1_premisesOfNone RX1 (some .int) false ll_mN ll_mR ll_mK ll_cnt L xs false 56 (.inl (lo_iload 57 2)) := lk_iload_n (k := 2) (by decide +kernel) rfl
theorem k_19_57 (L : Nat) (xs : Nat → Int32) : ll_OK1 cX1_premisesOfNone RX1 (some .int) false ll_mN ll_mR ll_mK ll_cnt L xs false 57 (.inl (lo_aload 58 0)) := lk_aload_n (k := 0) (by decide +kernel) rfl
theorem k_19_58 (L : Nat) (xs : Nat → Int32) : ll_OK1 cX1_premisesOfNone RX1 (some .int) false ll_mN ll_mR ll_mK ll_cnt L xs false 58 (.inl (lo_getf 61 1 8)) := lk_getf (ix := 42) (ci := 1) (k := 8) (C := RX1) (T := TX1) (N := 12) (by decide +kernel) rfl in_1 (by decide) tb_75
theorem k_19_61 (L : Nat) (xs : Nat → Int32) : ll_OK1 cX1_premisesOfNone RX1 (some .int) false ll_mN ll_mR ll_mK ll_cnt L xs false 61 (.inl (lo_cmp 82 64 (fun x y => decide (y ≤ x)))) := lk_icmp_ge (off := 21) (by decide +kernel) rfl
theorem k_19_64 (L : Nat) (xs : Nat → Int32) : ll_OK1 cX1_premisesOfNone RX1 (some .int) false ll_mN ll_mR ll_mK ll_cnt L xs false 64 (.inl (lo_aload 65 0)) := lk_aload_n (k := 0) (by decide +kernel) rfl
theorem k_19_65 (L : Nat) (xs : Nat → Int32) : ll_OK1 cX1_premisesOfNone RX1 (some .int) false ll_mN ll_mR ll_mK ll_cnt L xs false 65 (.inl (lo_getf 68 1 7)) := lk_getf (ix := 39) (ci := 1) (k := 7) (C := RX1) (T := TX1) (N := 12) (by decide +kernel) rfl in_1 (by decide) tb_74
theorem k_19_68 (L : Nat) (xs : Nat → Int32) : ll_OK1 cX1_premisesOfNone RX1 (some .int) false ll_mN ll_mR ll_mK ll_cnt L xs false 68 (.inl (lo_iload 69 2)) := lk_iload_n (k := 2) (by decide +kernel) rfl
theorem k_19_69 (L : Nat) (xs : Nat → Int32) : ll_OK1 cX1_premisesOfNone RX1 (some .int) false ll_mN ll_mR ll_mK ll_cnt L xs false 69 (.inl (lo_ald 70 0)) := lk_iald (by decide +kernel)
theorem k_19_70 (L : Nat) (xs : Nat → Int32) : ll_OK1 cX1_premisesOfNone RX1 (some .int) false ll_mN ll_mR ll_mK ll_cnt L xs false 70 (.inl (lo_if 76 73 (fun x => decide (¬ x = 0)))) := lk_if_ne (off := 6) (by decide +kernel) rfl
theorem k_19_73 (L : Nat) (xs : Nat → Int32) : ll_OK1 cX1_premisesOfNone RX1 (some .int) false ll_mN ll_mR ll_mK ll_cnt L xs false 73 (.inl (lo_iinc 76 1 1)) := lk_iinc (n := 1) (by decide +kernel) (by decide)
theorem k_19_76 (L : Nat) (xs : Nat → Int32) : ll_OK1 cX1_premisesOfNone RX1 (some .int) false ll_mN ll_mR ll_mK ll_cnt L xs false 76 (.inl (lo_iinc 79 2 1)) := lk_iinc (n := 1) (by decide +kernel) (by decide)
theorem k_19_79 (L : Nat) (xs : Nat → Int32) : ll_OK1 cX1_premisesOfNone RX1 (some .int) false ll_mN ll_mR ll_mK ll_cnt L xs false 79 (.inl (lo_goto 56)) := lk_goto (off := (-23)) (by decide +kernel) rfl
theorem k_19_82 (L : Nat) (xs : Nat → Int32) : ll_OK1 cX1_premisesOfNone RX1 (some .int) false ll_mN ll_mR ll_mK ll_cnt L xs false 82 (.inl (lo_iload 83 1)) := lk_iload_n (k := 1) (by decide +kernel) rfl
theorem k_19_83 (L : Nat) (xs : Nat → Int32) : ll_OK1 cX1_premisesOfNone RX1 (some .int) false ll_mN ll_mR ll_mK ll_cnt L xs false 83 (.inr (.inr 1)) := ⟨(fun h => by cases h), (fun _ => ⟨(by decide +kernel), rfl⟩), fun h => by cases h⟩
theorem ok_19 (L : Nat) (xs : Nat → Int32) : ∀ q ∈ cd_19, ll_OK1 cX1_premisesOfNone RX1 (some .int) false ll_mN ll_mR ll_mK ll_cnt L xs false q.1 q.2 :=
  List.forall_mem_cons.mpr ⟨k_19_0 L xs, List.forall_mem_cons.mpr ⟨k_19_1 L xs, List.forall_mem_cons.mpr ⟨k_19_4 L xs, List.forall_mem_cons.mpr ⟨k_19_5 L xs, List.forall_mem_cons.mpr ⟨k_19_8 L xs, List.forall_mem_cons.mpr ⟨k_19_9 L xs, List.forall_mem_cons.mpr ⟨k_19_10 L xs, List.forall_mem_cons.mpr ⟨k_19_11 L xs, List.forall_mem_cons.mpr ⟨k_19_12 L xs, List.forall_mem_cons.mpr ⟨k_19_15 L xs, List.forall_mem_cons.mpr ⟨k_19_18 L xs, List.forall_mem_cons.mpr ⟨k_19_19 L xs, List.forall_mem_cons.mpr ⟨k_19_20 L xs, List.forall_mem_cons.mpr ⟨k_19_23 L xs, List.forall_mem_cons.mpr ⟨k_19_24 L xs, List.forall_mem_cons.mpr ⟨k_19_25 L xs, List.forall_mem_cons.mpr ⟨k_19_28 L xs, List.forall_mem_cons.mpr ⟨k_19_31 L xs, List.forall_mem_cons.mpr ⟨k_19_32 L xs, List.forall_mem_cons.mpr ⟨k_19_35 L xs, List.forall_mem_cons.mpr ⟨k_19_36 L xs, List.forall_mem_cons.mpr ⟨k_19_39 L xs, List.forall_mem_cons.mpr ⟨k_19_40 L xs, List.forall_mem_cons.mpr ⟨k_19_41 L xs, List.forall_mem_cons.mpr ⟨k_19_42 L xs, List.forall_mem_cons.mpr ⟨k_19_43 L xs, List.forall_mem_cons.mpr ⟨k_19_44 L xs, List.forall_mem_cons.mpr ⟨k_19_45 L xs, List.forall_mem_cons.mpr ⟨k_19_46 L xs, List.forall_mem_cons.mpr ⟨k_19_49 L xs, List.forall_mem_cons.mpr ⟨k_19_52 L xs, List.forall_mem_cons.mpr ⟨k_19_53 L xs, List.forall_mem_cons.mpr ⟨k_19_54 L xs, List.forall_mem_cons.mpr ⟨k_19_55 L xs, List.forall_mem_cons.mpr ⟨k_19_56 L xs, List.forall_mem_cons.mpr ⟨k_19_57 L xs, List.forall_mem_cons.mpr ⟨k_19_58 L xs, List.forall_mem_cons.mpr ⟨k_19_61 L xs, List.forall_mem_cons.mpr ⟨k_19_64 L xs, List.forall_mem_cons.mpr ⟨k_19_65 L xs, List.forall_mem_cons.mpr ⟨k_19_68 L xs, List.forall_mem_cons.mpr ⟨k_19_69 L xs, List.forall_mem_cons.mpr ⟨k_19_70 L xs, List.forall_mem_cons.mpr ⟨k_19_73 L xs, List.forall_mem_cons.mpr ⟨k_19_76 L xs, List.forall_mem_cons.mpr ⟨k_19_79 L xs, List.forall_mem_cons.mpr ⟨k_19_82 L xs, List.forall_mem_cons.mpr ⟨k_19_83 L xs, fun _ h => absurd h List.not_mem_nil⟩⟩⟩⟩⟩⟩⟩⟩⟩⟩⟩⟩⟩⟩⟩⟩⟩⟩⟩⟩⟩⟩⟩⟩⟩⟩⟩⟩⟩⟩⟩⟩⟩⟩⟩⟩⟩⟩⟩⟩⟩⟩⟩⟩⟩⟩⟩⟩
/-- InclusionProver$Lines.become.(LInclusionProver$Lines;)V -/
def cd_20 : List (Nat × ll_O) := [
  (0, .inl (lo_aload 1 0)),
  (1, .inl (lo_aload 2 1)),
  (2, .inl (lo_getf 5 1 8)),
  (5, .inl (lo_putf 8 1 8 0)),
  (8, .inl (lo_aload 9 0)),
  (9, .inl (lo_aload 10 1)),
  (10, .inl (lo_getf 13 1 9)),
  (13, .inl (lo_putf 16 1 9 0)),
  (16, .inl (lo_aload 17 0)),
  (17, .inl (lo_aload 18 1)),
  (18, .inl (lo_getf 21 1 10)),
  (21, .inl (lo_putf 24 1 10 0)),
  (24, .inl (lo_aload 25 0)),
  (25, .inl (lo_aload 26 1)),
  (26, .inl (lo_getf 29 1 11)),
  (29, .inl (lo_putf 32 1 11 1)),
  (32, .inl (lo_aload 33 0)),
  (33, .inl (lo_getf 36 1 6)),
  (36, .inl (lo_aload 37 1)),
  (37, .inl (lo_getf 40 1 6)),
  (40, .inr (.inl (75, 2, 43))),
  (43, .inl (lo_aload 44 1)),
  (44, .inl (lo_getf 47 1 0)),
  (47, .inl (lo_push 48 (.int 0))),
  (48, .inl (lo_aload 49 0)),
  (49, .inl (lo_getf 52 1 0)),
  (52, .inl (lo_push 53 (.int 0))),
  (53, .inl (lo_aload 54 0)),
  (54, .inl (lo_getf 57 1 8)),
  (57, .inl (lo_copy 60)),
  (60, .inl (lo_aload 61 1)),
  (61, .inl (lo_getf 64 1 1)),
  (64, .inl (lo_push 65 (.int 0))),
  (65, .inl (lo_aload 66 0)),
  (66, .inl (lo_getf 69 1 1)),
  (69, .inl (lo_push 70 (.int 0))),
  (70, .inl (lo_aload 71 0)),
  (71, .inl (lo_getf 74 1 8)),
  (74, .inl (lo_copy 77)),
  (77, .inl (lo_aload 78 1)),
  (78, .inl (lo_getf 81 1 2)),
  (81, .inl (lo_push 82 (.int 0))),
  (82, .inl (lo_aload 83 0)),
  (83, .inl (lo_getf 86 1 2)),
  (86, .inl (lo_push 87 (.int 0))),
  (87, .inl (lo_aload 88 0)),
  (88, .inl (lo_getf 91 1 8)),
  (91, .inl (lo_copy 94)),
  (94, .inl (lo_aload 95 1)),
  (95, .inl (lo_getf 98 1 3)),
  (98, .inl (lo_push 99 (.int 0))),
  (99, .inl (lo_aload 100 0)),
  (100, .inl (lo_getf 103 1 3)),
  (103, .inl (lo_push 104 (.int 0))),
  (104, .inl (lo_aload 105 0)),
  (105, .inl (lo_getf 108 1 8)),
  (108, .inl (lo_copy 111)),
  (111, .inl (lo_aload 112 1)),
  (112, .inl (lo_getf 115 1 4)),
  (115, .inl (lo_push 116 (.int 0))),
  (116, .inl (lo_aload 117 0)),
  (117, .inl (lo_getf 120 1 4)),
  (120, .inl (lo_push 121 (.int 0))),
  (121, .inl (lo_aload 122 0)),
  (122, .inl (lo_getf 125 1 8)),
  (125, .inl (lo_copy 128)),
  (128, .inl (lo_aload 129 1)),
  (129, .inl (lo_getf 132 1 5)),
  (132, .inl (lo_push 133 (.int 0))),
  (133, .inl (lo_aload 134 0)),
  (134, .inl (lo_getf 137 1 5)),
  (137, .inl (lo_push 138 (.int 0))),
  (138, .inl (lo_aload 139 0)),
  (139, .inl (lo_getf 142 1 9)),
  (142, .inl (lo_copy 145)),
  (145, .inr (.inr 0))]
theorem k_20_0 (L : Nat) (xs : Nat → Int32) : ll_OK1 cX1_become RX1 none false ll_mN ll_mR ll_mK ll_cnt L xs false 0 (.inl (lo_aload 1 0)) := lk_aload_n (k := 0) (by decide +kernel) rfl
theorem k_20_1 (L : Nat) (xs : Nat → Int32) : ll_OK1 cX1_become RX1 none false ll_mN ll_mR ll_mK ll_cnt L xs false 1 (.inl (lo_aload 2 1)) := lk_aload_n (k := 1) (by decide +kernel) rfl
theorem k_20_2 (L : Nat) (xs : Nat → Int32) : ll_OK1 cX1_become RX1 none false ll_mN ll_mR ll_mK ll_cnt L xs false 2 (.inl (lo_getf 5 1 8)) := lk_getf (ix := 42) (ci := 1) (k := 8) (C := RX1) (T := TX1) (N := 12) (by decide +kernel) rfl in_1 (by decide) tb_75
theorem k_20_5 (L : Nat) (xs : Nat → Int32) : ll_OK1 cX1_become RX1 none false ll_mN ll_mR ll_mK ll_cnt L xs false 5 (.inl (lo_putf 8 1 8 0)) := lk_putf (ix := 42) (ci := 1) (k := 8) (C := RX1) (T := TX1) (N := 12) (ty0 := tyX1) (by decide +kernel) rfl in_1 tyX1_ok nmX1 (by decide) tb_75 (fun B adr v w h1 h2 => ll_fit_int (B := B) (adr := adr) h1 h2) (Or.inl rfl)
theorem k_20_8 (L : Nat) (xs : Nat → Int32) : ll_OK1 cX1_become RX1 none false ll_mN ll_mR ll_mK ll_cnt L xs false 8 (.inl (lo_aload 9 0)) := lk_aload_n (k := 0) (by decide +kernel) rfl
theorem k_20_9 (L : Nat) (xs : Nat → Int32) : ll_OK1 cX1_become RX1 none false ll_mN ll_mR ll_mK ll_cnt L xs false 9 (.inl (lo_aload 10 1)) := lk_aload_n (k := 1) (by decide +kernel) rfl
theorem k_20_10 (L : Nat) (xs : Nat → Int32) : ll_OK1 cX1_become RX1 none false ll_mN ll_mR ll_mK ll_cnt L xs false 10 (.inl (lo_getf 13 1 9)) := lk_getf (ix := 46) (ci := 1) (k := 9) (C := RX1) (T := TX1) (N := 12) (by decide +kernel) rfl in_1 (by decide) tb_76
theorem k_20_13 (L : Nat) (xs : Nat → Int32) : ll_OK1 cX1_become RX1 none false ll_mN ll_mR ll_mK ll_cnt L xs false 13 (.inl (lo_putf 16 1 9 0)) := lk_putf (ix := 46) (ci := 1) (k := 9) (C := RX1) (T := TX1) (N := 12) (ty0 := tyX1) (by decide +kernel) rfl in_1 tyX1_ok nmX1 (by decide) tb_76 (fun B adr v w h1 h2 => ll_fit_int (B := B) (adr := adr) h1 h2) (Or.inl rfl)
theorem k_20_16 (L : Nat) (xs : Nat → Int32) : ll_OK1 cX1_become RX1 none false ll_mN ll_mR ll_mK ll_cnt L xs false 16 (.inl (lo_aload 17 0)) := lk_aload_n (k := 0) (by decide +kernel) rfl
theorem k_20_17 (L : Nat) (xs : Nat → Int32) : ll_OK1 cX1_become RX1 none false ll_mN ll_mR ll_mK ll_cnt L xs false 17 (.inl (lo_aload 18 1)) := lk_aload_n (k := 1) (by decide +kernel) rfl
theorem k_20_18 (L : Nat) (xs : Nat → Int32) : ll_OK1 cX1_become RX1 none false ll_mN ll_mR ll_mK ll_cnt L xs false 18 (.inl (lo_getf 21 1 10)) := lk_getf (ix := 49) (ci := 1) (k := 10) (C := RX1) (T := TX1) (N := 12) (by decide +kernel) rfl in_1 (by decide) tb_77
theorem k_20_21 (L : Nat) (xs : Nat → Int32) : ll_OK1 cX1_become RX1 none false ll_mN ll_mR ll_mK ll_cnt L xs false 21 (.inl (lo_putf 24 1 10 0)) := lk_putf (ix := 49) (ci := 1) (k := 10) (C := RX1) (T := TX1) (N := 12) (ty0 := tyX1) (by decide +kernel) rfl in_1 tyX1_ok nmX1 (by decide) tb_77 (fun B adr v w h1 h2 => ll_fit_int (B := B) (adr := adr) h1 h2) (Or.inl rfl)
theorem k_20_24 (L : Nat) (xs : Nat → Int32) : ll_OK1 cX1_become RX1 none false ll_mN ll_mR ll_mK ll_cnt L xs false 24 (.inl (lo_aload 25 0)) := lk_aload_n (k := 0) (by decide +kernel) rfl
theorem k_20_25 (L : Nat) (xs : Nat → Int32) : ll_OK1 cX1_become RX1 none false ll_mN ll_mR ll_mK ll_cnt L xs false 25 (.inl (lo_aload 26 1)) := lk_aload_n (k := 1) (by decide +kernel) rfl
theorem k_20_26 (L : Nat) (xs : Nat → Int32) : ll_OK1 cX1_become RX1 none false ll_mN ll_mR ll_mK ll_cnt L xs false 26 (.inl (lo_getf 29 1 11)) := lk_getf (ix := 52) (ci := 1) (k := 11) (C := RX1) (T := TX1) (N := 12) (by decide +kernel) rfl in_1 (by decide) tb_78
theorem k_20_29 (L : Nat) (xs : Nat → Int32) : ll_OK1 cX1_become RX1 none false ll_mN ll_mR ll_mK ll_cnt L xs false 29 (.inl (lo_putf 32 1 11 1)) := lk_putf (ix := 52) (ci := 1) (k := 11) (C := RX1) (T := TX1) (N := 12) (ty0 := tyX1) (by decide +kernel) rfl in_1 tyX1_ok nmX1 (by decide) tb_78 (fun B adr v w h1 h2 => ll_fit_bool (B := B) (adr := adr) h1 h2) (Or.inl rfl)
theorem k_20_32 (L : Nat) (xs : Nat → Int32) : ll_OK1 cX1_become RX1 none false ll_mN ll_mR ll_mK ll_cnt L xs false 32 (.inl (lo_aload 33 0)) := lk_aload_n (k := 0) (by decide +kernel) rfl
theorem k_20_33 (L : Nat) (xs : Nat → Int32) : ll_OK1 cX1_become RX1 none false ll_mN ll_mR ll_mK ll_cnt L xs false 33 (.inl (lo_getf 36 1 6)) := lk_getf (ix := 35) (ci := 1) (k := 6) (C := RX1) (T := TX1) (N := 12) (by decide +kernel) rfl in_1 (by decide) tb_73
theorem k_20_36 (L : Nat) (xs : Nat → Int32) : ll_OK1 cX1_become RX1 none false ll_mN ll_mR ll_mK ll_cnt L xs false 36 (.inl (lo_aload 37 1)) := lk_aload_n (k := 1) (by decide +kernel) rfl
theorem k_20_37 (L : Nat) (xs : Nat → Int32) : ll_OK1 cX1_become RX1 none false ll_mN ll_mR ll_mK ll_cnt L xs false 37 (.inl (lo_getf 40 1 6)) := lk_getf (ix := 35) (ci := 1) (k := 6) (C := RX1) (T := TX1) (N := 12) (by decide +kernel) rfl in_1 (by decide) tb_73
theorem k_20_40 (L : Nat) (xs : Nat → Int32) : ll_OK1 cX1_become RX1 none false ll_mN ll_mR ll_mK ll_cnt L xs false 40 (.inr (.inl (75, 2, 43))) := ⟨rfl, by decide, by rw [mN_75, mK_75, mR_75]; exact lj_v 72 1 7 (RX7, TX7, 2) (by decide +kernel) tb_88 tb_89 tb_90 rfl rfl rfl rfl (by decide +kernel)⟩
theorem k_20_43 (L : Nat) (xs : Nat → Int32) : ll_OK1 cX1_become RX1 none false ll_mN ll_mR ll_mK ll_cnt L xs false 43 (.inl (lo_aload 44 1)) := lk_aload_n (k := 1) (by decide +kernel) rfl
theorem k_20_44 (L : Nat) (xs : Nat → Int32) : ll_OK1 cX1_become RX1 none false ll_mN ll_mR ll_mK ll_cnt L xs false 44 (.inl (lo_getf 47 1 0)) := lk_getf (ix := 9) (ci := 1) (k := 0) (C := RX1) (T := TX1) (N := 12) (by decide +kernel) rfl in_1 (by decide) tb_62
theorem k_20_47 (L : Nat) (xs : Nat → Int32) : ll_OK1 cX1_become RX1 none false ll_mN ll_mR ll_mK ll_cnt L xs false 47 (.inl (lo_push 48 (.int 0))) := lk_iconst (n := 0) (by decide +kernel) (by decide)
theorem k_20_48 (L : Nat) (xs : Nat → Int32) : ll_OK1 cX1_become RX1 none false ll_mN ll_mR ll_mK ll_cnt L xs false 48 (.inl (lo_aload 49 0)) := lk_aload_n (k := 0) (by decide +kernel) rfl
theorem k_20_49 (L : Nat) (xs : Nat → Int32) : ll_OK1 cX1_become RX1 none false ll_mN ll_mR ll_mK ll_cnt L xs false 49 (.inl (lo_getf 52 1 0)) := lk_getf (ix := 9) (ci := 1) (k := 0) (C := RX1) (T := TX1) (N := 12) (by decide +kernel) rfl in_1 (by decide) tb_62
theorem k_20_52 (L : Nat) (xs : Nat → Int32) : ll_OK1 cX1_become RX1 none false ll_mN ll_mR ll_mK ll_cnt L xs false 52 (.inl (lo_push 53 (.int 0))) := lk_iconst (n := 0) (by decide +kernel) (by decide)
theorem k_20_53 (L : Nat) (xs : Nat → Int32) : ll_OK1 cX1_become RX1 none false ll_mN ll_mR ll_mK ll_cnt L xs false 53 (.inl (lo_aload 54 0)) := lk_aload_n (k := 0) (by decide +kernel) rfl
theorem k_20_54 (L : Nat) (xs : Nat → Int32) : ll_OK1 cX1_become RX1 none false ll_mN ll_mR ll_mK ll_cnt L xs false 54 (.inl (lo_getf 57 1 8)) := lk_getf (ix := 42) (ci := 1) (k := 8) (C := RX1) (T := TX1) (N := 12) (by decide +kernel) rfl in_1 (by decide) tb_75
theorem k_20_57 (L : Nat) (xs : Nat → Int32) : ll_OK1 cX1_become RX1 none false ll_mN ll_mR ll_mK ll_cnt L xs false 57 (.inl (lo_copy 60)) := lk_copy (ix := 76) (by decide +kernel) tb_91 tb_92 tb_93 tb_94
theorem k_20_60 (L : Nat) (xs : Nat → Int32) : ll_OK1 cX1_become RX1 none false ll_mN ll_mR ll_mK ll_cnt L xs false 60 (.inl (lo_aload 61 1)) := lk_aload_n (k := 1) (by decide +kernel) rfl
theorem k_20_61 (L : Nat) (xs : Nat → Int32) : ll_OK1 cX1_become RX1 none false ll_mN ll_mR ll_mK ll_cnt L xs false 61 (.inl (lo_getf 64 1 1)) := lk_getf (ix := 15) (ci := 1) (k := 1) (C := RX1) (T := TX1) (N := 12) (by decide +kernel) rfl in_1 (by decide) tb_63
theorem k_20_64 (L : Nat) (xs : Nat → Int32) : ll_OK1 cX1_become RX1 none false ll_mN ll_mR ll_mK ll_cnt L xs false 64 (.inl (lo_push 65 (.int 0))) := lk_iconst (n := 0) (by decide +kernel) (by decide)
theorem k_20_65 (L : Nat) (xs : Nat → Int32) : ll_OK1 cX1_become RX1 none false ll_mN ll_mR ll_mK ll_cnt L xs false 65 (.inl (lo_aload 66 0)) := lk_aload_n (k := 0) (by decide +kernel) rfl
theorem k_20_66 (L : Nat) (xs : Nat → Int32) : ll_OK1 cX1_become RX1 none false ll_mN ll_mR ll_mK ll_cnt L xs false 66 (.inl (lo_getf 69 1 1)) := lk_getf (ix := 15) (ci := 1) (k := 1) (C := RX1) (T := TX1) (N := 12) (by decide +kernel) rfl in_1 (by decide) tb_63
theorem k_20_69 (L : Nat) (xs : Nat → Int32) : ll_OK1 cX1_become RX1 none false ll_mN ll_mR ll_mK ll_cnt L xs false 69 (.inl (lo_push 70 (.int 0))) := lk_iconst (n := 0) (by decide +kernel) (by decide)
theorem k_20_70 (L : Nat) (xs : Nat → Int32) : ll_OK1 cX1_become RX1 none false ll_mN ll_mR ll_mK ll_cnt L xs false 70 (.inl (lo_aload 71 0)) := lk_aload_n (k := 0) (by decide +kernel) rfl
theorem k_20_71 (L : Nat) (xs : Nat → Int32) : ll_OK1 cX1_become RX1 none false ll_mN ll_mR ll_mK ll_cnt L xs false 71 (.inl (lo_getf 74 1 8)) := lk_getf (ix := 42) (ci := 1) (k := 8) (C := RX1) (T := TX1) (N := 12) (by decide +kernel) rfl in_1 (by decide) tb_75
theorem k_20_74 (L : Nat) (xs : Nat → Int32) : ll_OK1 cX1_become RX1 none false ll_mN ll_mR ll_mK ll_cnt L xs false 74 (.inl (lo_copy 77)) := lk_copy (ix := 76) (by decide +kernel) tb_91 tb_92 tb_93 tb_94
theorem k_20_77 (L : Nat) (xs : Nat → Int32) : ll_OK1 cX1_become RX1 none false ll_mN ll_mR ll_mK ll_cnt L xs false 77 (.inl (lo_aload 78 1)) := lk_aload_n (k := 1) (by decide +kernel) rfl
theorem k_20_78 (L : Nat) (xs : Nat → Int32) : ll_OK1 cX1_become RX1 none false ll_mN ll_mR ll_mK ll_cnt L xs false 78 (.inl (lo_getf 81 1 2)) := lk_getf (ix := 18) (ci := 1) (k := 2) (C := RX1) (T := TX1) (N := 12) (by decide +kernel) rfl in_1 (by decide) tb_64
theorem k_20_81 (L : Nat) (xs : Nat → Int32) : ll_OK1 cX1_become RX1 none false ll_mN ll_mR ll_mK ll_cnt L xs false 81 (.inl (lo_push 82 (.int 0))) := lk_iconst (n := 0) (by decide +kernel) (by decide)
theorem k_20_82 (L : Nat) (xs : Nat → Int32) : ll_OK1 cX1_become RX1 none false ll_mN ll_mR ll_mK ll_cnt L xs false 82 (.inl (lo_aload 83 0)) := lk_aload_n (k := 0) (by decide +kernel) rfl
theorem k_20_83 (L : Nat) (xs : Nat → Int32) : ll_OK1 cX1_become RX1 none false ll_mN ll_mR ll_mK ll_cnt L xs false 83 (.inl (lo_getf 86 1 2)) := lk_getf (ix := 18) (ci := 1) (k := 2) (C := RX1) (T := TX1) (N := 12) (by decide +kernel) rfl in_1 (by decide) tb_64
theorem k_20_86 (L : Nat) (xs : Nat → Int32) : ll_OK1 cX1_become RX1 none false ll_mN ll_mR ll_mK ll_cnt L xs false 86 (.inl (lo_push 87 (.int 0))) := lk_iconst (n := 0) (by decide +kernel) (by decide)
theorem k_20_87 (L : Nat) (xs : Nat → Int32) : ll_OK1 cX1_become RX1 none false ll_mN ll_mR ll_mK ll_cnt L xs false 87 (.inl (lo_aload 88 0)) := lk_aload_n (k := 0) (by decide +kernel) rfl
theorem k_20_88 (L : Nat) (xs : Nat → Int32) : ll_OK1 cX1_become RX1 none false ll_mN ll_mR ll_mK ll_cnt L xs false 88 (.inl (lo_getf 91 1 8)) := lk_getf (ix := 42) (ci := 1) (k := 8) (C := RX1) (T := TX1) (N := 12) (by decide +kernel) rfl in_1 (by decide) tb_75
theorem k_20_91 (L : Nat) (xs : Nat → Int32) : ll_OK1 cX1_become RX1 none false ll_mN ll_mR ll_mK ll_cnt L xs false 91 (.inl (lo_copy 94)) := lk_copy (ix := 76) (by decide +kernel) tb_91 tb_92 tb_93 tb_94
theorem k_20_94 (L : Nat) (xs : Nat → Int32) : ll_OK1 cX1_become RX1 none false ll_mN ll_mR ll_mK ll_cnt L xs false 94 (.inl (lo_aload 95 1)) := lk_aload_n (k := 1) (by decide +kernel) rfl
theorem k_20_95 (L : Nat) (xs : Nat → Int32) : ll_OK1 cX1_become RX1 none false ll_mN ll_mR ll_mK ll_cnt L xs false 95 (.inl (lo_getf 98 1 3)) := lk_getf (ix := 21) (ci := 1) (k := 3) (C := RX1) (T := TX1) (N := 12) (by decide +kernel) rfl in_1 (by decide) tb_65
theorem k_20_98 (L : Nat) (xs : Nat → Int32) : ll_OK1 cX1_become RX1 none false ll_mN ll_mR ll_mK ll_cnt L xs false 98 (.inl (lo_push 99 (.int 0))) := lk_iconst (n := 0) (by decide +kernel) (by decide)
theorem k_20_99 (L : Nat) (xs : Nat → Int32) : ll_OK1 cX1_become RX1 none false ll_mN ll_mR ll_mK ll_cnt L xs false 99 (.inl (lo_aload 100 0)) := lk_aload_n (k := 0) (by decide +kernel) rfl
theorem k_20_100 (L : Nat) (xs : Nat → Int32) : ll_OK1 cX1_become RX1 none false ll_mN ll_mR ll_mK ll_cnt L xs false 100 (.inl (lo_getf 103 1 3)) := lk_getf (ix := 21) (ci := 1) (k := 3) (C := RX1) (T := TX1) (N := 12) (by decide +kernel) rfl in_1 (by decide) tb_65
theorem k_20_103 (L : Nat) (xs : Nat → Int32) : ll_OK1 cX1_become RX1 none false ll_mN ll_mR ll_mK ll_cnt L xs false 103 (.inl (lo_push 104 (.int 0))) := lk_iconst (n := 0) (by decide +kernel) (by decide)
theorem k_20_104 (L : Nat) (xs : Nat → Int32) : ll_OK1 cX1_become RX1 none false ll_mN ll_mR ll_mK ll_cnt L xs false 104 (.inl (lo_aload 105 0)) := lk_aload_n (k := 0) (by decide +kernel) rfl
theorem k_20_105 (L : Nat) (xs : Nat → Int32) : ll_OK1 cX1_become RX1 none false ll_mN ll_mR ll_mK ll_cnt L xs false 105 (.inl (lo_getf 108 1 8)) := lk_getf (ix := 42) (ci := 1) (k := 8) (C := RX1) (T := TX1) (N := 12) (by decide +kernel) rfl in_1 (by decide) tb_75
theorem k_20_108 (L : Nat) (xs : Nat → Int32) : ll_OK1 cX1_become RX1 none false ll_mN ll_mR ll_mK ll_cnt L xs false 108 (.inl (lo_copy 111)) := lk_copy (ix := 76) (by decide +kernel) tb_91 tb_92 tb_93 tb_94
theorem k_20_111 (L : Nat) (xs : Nat → Int32) : ll_OK1 cX1_become RX1 none false ll_mN ll_mR ll_mK ll_cnt L xs false 111 (.inl (lo_aload 112 1)) := lk_aload_n (k := 1) (by decide +kernel) rfl
theorem k_20_112 (L : Nat) (xs : Nat → Int32) : ll_OK1 cX1_become RX1 none false ll_mN ll_mR ll_mK ll_cnt L xs false 112 (.inl (lo_getf 115 1 4)) := lk_getf (ix := 24) (ci := 1) (k := 4) (C := RX1) (T := TX1) (N := 12) (by decide +kernel) rfl in_1 (by decide) tb_66
theorem k_20_115 (L : Nat) (xs : Nat → Int32) : ll_OK1 cX1_become RX1 none false ll_mN ll_mR ll_mK ll_cnt L xs false 115 (.inl (lo_push 116 (.int 0))) := lk_iconst (n := 0) (by decide +kernel) (by decide)
theorem k_20_116 (L : Nat) (xs : Nat → Int32) : ll_OK1 cX1_become RX1 none false ll_mN ll_mR ll_mK ll_cnt L xs false 116 (.inl (lo_aload 117 0)) := lk_aload_n (k := 0) (by decide +kernel) rfl
theorem k_20_117 (L : Nat) (xs : Nat → Int32) : ll_OK1 cX1_become RX1 none false ll_mN ll_mR ll_mK ll_cnt L xs false 117 (.inl (lo_getf 120 1 4)) := lk_getf (ix := 24) (ci := 1) (k := 4) (C := RX1) (T := TX1) (N := 12) (by decide +kernel) rfl in_1 (by decide) tb_66
theorem k_20_120 (L : Nat) (xs : Nat → Int32) : ll_OK1 cX1_become RX1 none false ll_mN ll_mR ll_mK ll_cnt L xs false 120 (.inl (lo_push 121 (.int 0))) := lk_iconst (n := 0) (by decide +kernel) (by decide)
theorem k_20_121 (L : Nat) (xs : Nat → Int32) : ll_OK1 cX1_become RX1 none false ll_mN ll_mR ll_mK ll_cnt L xs false 121 (.inl (lo_aload 122 0)) := lk_aload_n (k := 0) (by decide +kernel) rfl
theorem k_20_122 (L : Nat) (xs : Nat → Int32) : ll_OK1 cX1_become RX1 none false ll_mN ll_mR ll_mK ll_cnt L xs false 122 (.inl (lo_getf 125 1 8)) := lk_getf (ix := 42) (ci := 1) (k := 8) (C := RX1) (T := TX1) (N := 12) (by decide +kernel) rfl in_1 (by decide) tb_75
theorem k_20_125 (L : Nat) (xs : Nat → Int32) : ll_OK1 cX1_become RX1 none false ll_mN ll_mR ll_mK ll_cnt L xs false 125 (.inl (lo_copy 128)) := lk_copy (ix := 76) (by decide +kernel) tb_91 tb_92 tb_93 tb_94
theorem k_20_128 (L : Nat) (xs : Nat → Int32) : ll_OK1 cX1_become RX1 none false ll_mN ll_mR ll_mK ll_cnt L xs false 128 (.inl (lo_aload 129 1)) := lk_aload_n (k := 1) (by decide +kernel) rfl
theorem k_20_129 (L : Nat) (xs : Nat → Int32) : ll_OK1 cX1_become RX1 none false ll_mN ll_mR ll_mK ll_cnt L xs false 129 (.inl (lo_getf 132 1 5)) := lk_getf (ix := 27) (ci := 1) (k := 5) (C := RX1) (T := TX1) (N := 12) (by decide +kernel) rfl in_1 (by decide) tb_67
theorem k_20_132 (L : Nat) (xs : Nat → Int32) : ll_OK1 cX1_become RX1 none false ll_mN ll_mR ll_mK ll_cnt L xs false 132 (.inl (lo_push 133 (.int 0))) := lk_iconst (n := 0) (by decide +kernel) (by decide)
theorem k_20_133 (L : Nat) (xs : Nat → Int32) : ll_OK1 cX1_become RX1 none false ll_mN ll_mR ll_mK ll_cnt L xs false 133 (.inl (lo_aload 134 0)) := lk_aload_n (k := 0) (by decide +kernel) rfl
theorem k_20_134 (L : Nat) (xs : Nat → Int32) : ll_OK1 cX1_become RX1 none false ll_mN ll_mR ll_mK ll_cnt L xs false 134 (.inl (lo_getf 137 1 5)) := lk_getf (ix := 27) (ci := 1) (k := 5) (C := RX1) (T := TX1) (N := 12) (by decide +kernel) rfl in_1 (by decide) tb_67
theorem k_20_137 (L : Nat) (xs : Nat → Int32) : ll_OK1 cX1_become RX1 none false ll_mN ll_mR ll_mK ll_cnt L xs false 137 (.inl (lo_push 138 (.int 0))) := lk_iconst (n := 0) (by decide +kernel) (by decide)
theorem k_20_138 (L : Nat) (xs : Nat → Int32) : ll_OK1 cX1_become RX1 none false ll_mN ll_mR ll_mK ll_cnt L xs false 138 (.inl (lo_aload 139 0)) := lk_aload_n (k := 0) (by decide +kernel) rfl
theorem k_20_139 (L : Nat) (xs : Nat → Int32) : ll_OK1 cX1_become RX1 none false ll_mN ll_mR ll_mK ll_cnt L xs false 139 (.inl (lo_getf 142 1 9)) := lk_getf (ix := 46) (ci := 1) (k := 9) (C := RX1) (T := TX1) (N := 12) (by decide +kernel) rfl in_1 (by decide) tb_76
theorem k_20_142 (L : Nat) (xs : Nat → Int32) : ll_OK1 cX1_become RX1 none false ll_mN ll_mR ll_mK ll_cnt L xs false 142 (.inl (lo_copy 145)) := lk_copy (ix := 76) (by decide +kernel) tb_91 tb_92 tb_93 tb_94
theorem k_20_145 (L : Nat) (xs : Nat → Int32) : ll_OK1 cX1_become RX1 none false ll_mN ll_mR ll_mK ll_cnt L xs false 145 (.inr (.inr 0)) := ⟨fun _ => ⟨(by decide +kernel), rfl⟩, (fun h => by cases h), fun h => by cases h⟩
theorem ok_20 (L : Nat) (xs : Nat → Int32) : ∀ q ∈ cd_20, ll_OK1 cX1_become RX1 none false ll_mN ll_mR ll_mK ll_cnt L xs false q.1 q.2 :=
  List.forall_mem_cons.mpr ⟨k_20_0 L xs, List.forall_mem_cons.mpr ⟨k_20_1 L xs, List.forall_mem_cons.mpr ⟨k_20_2 L xs, List.forall_mem_cons.mpr ⟨k_20_5 L xs, List.forall_mem_cons.mpr ⟨k_20_8 L xs, List.forall_mem_cons.mpr ⟨k_20_9 L xs, List.forall_mem_cons.mpr ⟨k_20_10 L xs, List.forall_mem_cons.mpr ⟨k_20_13 L xs, List.forall_mem_cons.mpr ⟨k_20_16 L xs, List.forall_mem_cons.mpr ⟨k_20_17 L xs, List.forall_mem_cons.mpr ⟨k_20_18 L xs, List.forall_mem_cons.mpr ⟨k_20_21 L xs, List.forall_mem_cons.mpr ⟨k_20_24 L xs, List.forall_mem_cons.mpr ⟨k_20_25 L xs, List.forall_mem_cons.mpr ⟨k_20_26 L xs, List.forall_mem_cons.mpr ⟨k_20_29 L xs, List.forall_mem_cons.mpr ⟨k_20_32 L xs, List.forall_mem_cons.mpr ⟨k_20_33 L xs, List.forall_mem_cons.mpr ⟨k_20_36 L xs, List.forall_mem_cons.mpr ⟨k_20_37 L xs, List.forall_mem_cons.mpr ⟨k_20_40 L xs, List.forall_mem_cons.mpr ⟨k_20_43 L xs, List.forall_mem_cons.mpr ⟨k_20_44 L xs, List.forall_mem_cons.mpr ⟨k_20_47 L xs, List.forall_mem_cons.mpr ⟨k_20_48 L xs, List.forall_mem_cons.mpr ⟨k_20_49 L xs, List.forall_mem_cons.mpr ⟨k_20_52 L xs, List.forall_mem_cons.mpr ⟨k_20_53 L xs, List.forall_mem_cons.mpr ⟨k_20_54 L xs, List.forall_mem_cons.mpr ⟨k_20_57 L xs, List.forall_mem_cons.mpr ⟨k_20_60 L xs, List.forall_mem_cons.mpr ⟨k_20_61 L xs, List.forall_mem_cons.mpr ⟨k_20_64 L xs, List.forall_mem_cons.mpr ⟨k_20_65 L xs, List.forall_mem_cons.mpr ⟨k_20_66 L xs, List.forall_mem_cons.mpr ⟨k_20_69 L xs, List.forall_mem_cons.mpr ⟨k_20_70 L xs, List.forall_mem_cons.mpr ⟨k_20_71 L xs, List.forall_mem_cons.mpr ⟨k_20_74 L xs, List.forall_mem_cons.mpr ⟨k_20_77 L xs, List.forall_mem_cons.mpr ⟨k_20_78 L xs, List.forall_mem_cons.mpr ⟨k_20_81 L xs, List.forall_mem_cons.mpr ⟨k_20_82 L xs, List.forall_mem_cons.mpr ⟨k_20_83 L xs, List.forall_mem_cons.mpr ⟨k_20_86 L xs, List.forall_mem_cons.mpr ⟨k_20_87 L xs, List.forall_mem_cons.mpr ⟨k_20_88 L xs, List.forall_mem_cons.mpr ⟨k_20_91 L xs, List.forall_mem_cons.mpr ⟨k_20_94 L xs, List.forall_mem_cons.mpr ⟨k_20_95 L xs, List.forall_mem_cons.mpr ⟨k_20_98 L xs, List.forall_mem_cons.mpr ⟨k_20_99 L xs, List.forall_mem_cons.mpr ⟨k_20_100 L xs, List.forall_mem_cons.mpr ⟨k_20_103 L xs, List.forall_mem_cons.mpr ⟨k_20_104 L xs, List.forall_mem_cons.mpr ⟨k_20_105 L xs, List.forall_mem_cons.mpr ⟨k_20_108 L xs, List.forall_mem_cons.mpr ⟨k_20_111 L xs, List.forall_mem_cons.mpr ⟨k_20_112 L xs, List.forall_mem_cons.mpr ⟨k_20_115 L xs, List.forall_mem_cons.mpr ⟨k_20_116 L xs, List.forall_mem_cons.mpr ⟨k_20_117 L xs, List.forall_mem_cons.mpr ⟨k_20_120 L xs, List.forall_mem_cons.mpr ⟨k_20_121 L xs, List.forall_mem_cons.mpr ⟨k_20_122 L xs, List.forall_mem_cons.mpr ⟨k_20_125 L xs, List.forall_mem_cons.mpr ⟨k_20_128 L xs, List.forall_mem_cons.mpr ⟨k_20_129 L xs, List.forall_mem_cons.mpr ⟨k_20_132 L xs, List.forall_mem_cons.mpr ⟨k_20_133 L xs, List.forall_mem_cons.mpr ⟨k_20_134 L xs, List.forall_mem_cons.mpr ⟨k_20_137 L xs, List.forall_mem_cons.mpr ⟨k_20_138 L xs, List.forall_mem_cons.mpr ⟨k_20_139 L xs, List.forall_mem_cons.mpr ⟨k_20_142 L xs, List.forall_mem_cons.mpr ⟨k_20_145 L xs, fun _ h => absurd h List.not_mem_nil⟩⟩⟩⟩⟩⟩⟩⟩⟩⟩⟩⟩⟩⟩⟩⟩⟩⟩⟩⟩⟩⟩⟩⟩⟩⟩⟩⟩⟩⟩⟩⟩⟩⟩⟩⟩⟩⟩⟩⟩⟩⟩⟩⟩⟩⟩⟩⟩⟩⟩⟩⟩⟩⟩⟩⟩⟩⟩⟩⟩⟩⟩⟩⟩⟩⟩⟩⟩⟩⟩⟩⟩⟩⟩⟩⟩
/-- InclusionProver$Reader.<init>.(LInclusionProver$Tree;LInclusionProver$Text;)V -/
def cd_21 : List (Nat × ll_O) := [
  (0, .inl (lo_aload 1 0)),
  (1, .inl (lo_init 4)),
  (4, .inl (lo_aload 5 0)),
  (5, .inl (lo_push 6 (.int (-1)))),
  (6, .inl (lo_putf 9 2 4 0)),
  (9, .inl (lo_aload 10 0)),
  (10, .inl (lo_aload 11 1)),
  (11, .inl (lo_putf 14 2 0 2)),
  (14, .inl (lo_aload 15 0)),
  (15, .inl (lo_aload 16 2)),
  (16, .inl (lo_putf 19 2 1 2)),
  (19, .inr (.inr 0))]
theorem k_21_0 (L : Nat) (xs : Nat → Int32) : ll_OK1 cX2_init RX2 none true ll_mN ll_mR ll_mK ll_cnt L xs false 0 (.inl (lo_aload 1 0)) := lk_aload_n (k := 0) (by decide +kernel) rfl
theorem k_21_1 (L : Nat) (xs : Nat → Int32) : ll_OK1 cX2_init RX2 none true ll_mN ll_mR ll_mK ll_cnt L xs false 1 (.inl (lo_init 4)) := lk_init (ix := 3) (by decide +kernel) tb_95 tb_1 tb_2
theorem k_21_4 (L : Nat) (xs : Nat → Int32) : ll_OK1 cX2_init RX2 none true ll_mN ll_mR ll_mK ll_cnt L xs false 4 (.inl (lo_aload 5 0)) := lk_aload_n (k := 0) (by decide +kernel) rfl
theorem k_21_5 (L : Nat) (xs : Nat → Int32) : ll_OK1 cX2_init RX2 none true ll_mN ll_mR ll_mK ll_cnt L xs false 5 (.inl (lo_push 6 (.int (-1)))) := lk_iconst (n := (-1)) (by decide +kernel) (by decide)
theorem k_21_6 (L : Nat) (xs : Nat → Int32) : ll_OK1 cX2_init RX2 none true ll_mN ll_mR ll_mK ll_cnt L xs false 6 (.inl (lo_putf 9 2 4 0)) := lk_putf (ix := 9) (ci := 2) (k := 4) (C := RX2) (T := TX2) (N := 5) (ty0 := tyX2) (by decide +kernel) rfl in_2 tyX2_ok nmX2 (by decide) tb_96 (fun B adr v w h1 h2 => ll_fit_int (B := B) (adr := adr) h1 h2) (Or.inl rfl)
theorem k_21_9 (L : Nat) (xs : Nat → Int32) : ll_OK1 cX2_init RX2 none true ll_mN ll_mR ll_mK ll_cnt L xs false 9 (.inl (lo_aload 10 0)) := lk_aload_n (k := 0) (by decide +kernel) rfl
theorem k_21_10 (L : Nat) (xs : Nat → Int32) : ll_OK1 cX2_init RX2 none true ll_mN ll_mR ll_mK ll_cnt L xs false 10 (.inl (lo_aload 11 1)) := lk_aload_n (k := 1) (by decide +kernel) rfl
theorem k_21_11 (L : Nat) (xs : Nat → Int32) : ll_OK1 cX2_init RX2 none true ll_mN ll_mR ll_mK ll_cnt L xs false 11 (.inl (lo_putf 14 2 0 2)) := lk_putf (ix := 15) (ci := 2) (k := 0) (C := RX2) (T := TX2) (N := 5) (ty0 := tyX2) (by decide +kernel) rfl in_2 tyX2_ok nmX2 (by decide) tb_97 (fun B adr v w h1 h2 => ll_fit_obj (B := B) (adr := adr) h1 h2) (Or.inr ⟨rfl, rfl, rfl⟩)
theorem k_21_14 (L : Nat) (xs : Nat → Int32) : ll_OK1 cX2_init RX2 none true ll_mN ll_mR ll_mK ll_cnt L xs false 14 (.inl (lo_aload 15 0)) := lk_aload_n (k := 0) (by decide +kernel) rfl
theorem k_21_15 (L : Nat) (xs : Nat → Int32) : ll_OK1 cX2_init RX2 none true ll_mN ll_mR ll_mK ll_cnt L xs false 15 (.inl (lo_aload 16 2)) := lk_aload_n (k := 2) (by decide +kernel) rfl
theorem k_21_16 (L : Nat) (xs : Nat → Int32) : ll_OK1 cX2_init RX2 none true ll_mN ll_mR ll_mK ll_cnt L xs false 16 (.inl (lo_putf 19 2 1 2)) := lk_putf (ix := 19) (ci := 2) (k := 1) (C := RX2) (T := TX2) (N := 5) (ty0 := tyX2) (by decide +kernel) rfl in_2 tyX2_ok nmX2 (by decide) tb_98 (fun B adr v w h1 h2 => ll_fit_obj (B := B) (adr := adr) h1 h2) (Or.inl rfl)
theorem k_21_19 (L : Nat) (xs : Nat → Int32) : ll_OK1 cX2_init RX2 none true ll_mN ll_mR ll_mK ll_cnt L xs false 19 (.inr (.inr 0)) := ⟨fun _ => ⟨(by decide +kernel), rfl⟩, (fun h => by cases h), fun h => by cases h⟩
theorem ok_21 (L : Nat) (xs : Nat → Int32) : ∀ q ∈ cd_21, ll_OK1 cX2_init RX2 none true ll_mN ll_mR ll_mK ll_cnt L xs false q.1 q.2 :=
  List.forall_mem_cons.mpr ⟨k_21_0 L xs, List.forall_mem_cons.mpr ⟨k_21_1 L xs, List.forall_mem_cons.mpr ⟨k_21_4 L xs, List.forall_mem_cons.mpr ⟨k_21_5 L xs, List.forall_mem_cons.mpr ⟨k_21_6 L xs, List.forall_mem_cons.mpr ⟨k_21_9 L xs, List.forall_mem_cons.mpr ⟨k_21_10 L xs, List.forall_mem_cons.mpr ⟨k_21_11 L xs, List.forall_mem_cons.mpr ⟨k_21_14 L xs, List.forall_mem_cons.mpr ⟨k_21_15 L xs, List.forall_mem_cons.mpr ⟨k_21_16 L xs, List.forall_mem_cons.mpr ⟨k_21_19 L xs, fun _ h => absurd h List.not_mem_nil⟩⟩⟩⟩⟩⟩⟩⟩⟩⟩⟩⟩
/-- InclusionProver$Reader.read.(LInclusionProver$Text;I)I -/
def cd_22 : List (Nat × ll_O) := [
  (0, .inl (lo_aload 1 0)),
  (1, .inl (lo_aload 2 1)),
  (2, .inl (lo_putf 5 2 1 2)),
  (5, .inl (lo_aload 6 0)),
  (6, .inl (lo_iload 7 2)),
  (7, .inl (lo_putf 10 2 2 0)),
  (10, .inl (lo_aload 11 0)),
  (11, .inl (lo_push 12 (.int 0))),
  (12, .inl (lo_putf 15 2 3 0)),
  (15, .inl (lo_aload 16 0)),
  (16, .inl (lo_push 17 (.int (-1)))),
  (17, .inl (lo_putf 20 2 4 0)),
  (20, .inl (lo_aload 21 0)),
  (21, .inl (lo_getf 24 2 0)),
  (24, .inr (.inl (80, 1, 27))),
  (27, .inl (lo_aload 28 0)),
  (28, .inl (lo_push 29 (.int 0))),
  (29, .inr (.inl (23, 2, 32))),
  (32, .inl (lo_istore 33 3)),
  (33, .inl (lo_aload 34 0)),
  (34, .inl (lo_getf 37 2 4)),
  (37, .inl (lo_push 38 (.int (-1)))),
  (38, .inl (lo_cmp 57 41 (fun x y => decide (¬ x = y)))),
  (41, .inl (lo_aload 42 0)),
  (42, .inr (.inl (27, 1, 45))),
  (45, .inl (lo_push 46 (.int (-1)))),
  (46, .inl (lo_cmp 57 49 (fun x y => decide (x = y)))),
  (49, .inl (lo_aload 50 0)),
  (50, .inl (lo_aload 51 0)),
  (51, .inl (lo_getf 54 2 3)),
  (54, .inl (lo_putf 57 2 4 0)),
  (57, .inl (lo_aload 58 0)),
  (58, .inl (lo_getf 61 2 4)),
  (61, .inl (lo_push 62 (.int (-1)))),
  (62, .inl (lo_cmp 69 65 (fun x y => decide (¬ x = y)))),
  (65, .inl (lo_iload 66 3)),
  (66, .inl (lo_goto 70)),
  (69, .inl (lo_push 70 (.int (-1)))),
  (70, .inr (.inr 1))]
theorem k_22_0 (L : Nat) (xs : Nat → Int32) : ll_OK1 cX2_read RX2 (some .int) false ll_mN ll_mR ll_mK ll_cnt L xs false 0 (.inl (lo_aload 1 0)) := lk_aload_n (k := 0) (by decide +kernel) rfl
theorem k_22_1 (L : Nat) (xs : Nat → Int32) : ll_OK1 cX2_read RX2 (some .int) false ll_mN ll_mR ll_mK ll_cnt L xs false 1 (.inl (lo_aload 2 1)) := lk_aload_n (k := 1) (by decide +kernel) rfl
theorem k_22_2 (L : Nat) (xs : Nat → Int32) : ll_OK1 cX2_read RX2 (some .int) false ll_mN ll_mR ll_mK ll_cnt L xs false 2 (.inl (lo_putf 5 2 1 2)) := lk_putf (ix := 19) (ci := 2) (k := 1) (C := RX2) (T := TX2) (N := 5) (ty0 := tyX2) (by decide +kernel) rfl in_2 tyX2_ok nmX2 (by decide) tb_98 (fun B adr v w h1 h2 => ll_fit_obj (B := B) (adr := adr) h1 h2) (Or.inl rfl)
theorem k_22_5 (L : Nat) (xs : Nat → Int32) : ll_OK1 cX2_read RX2 (some .int) false ll_mN ll_mR ll_mK ll_cnt L xs false 5 (.inl (lo_aload 6 0)) := lk_aload_n (k := 0) (by decide +kernel) rfl
theorem k_22_6 (L : Nat) (xs : Nat → Int32) : ll_OK1 cX2_read RX2 (some .int) false ll_mN ll_mR ll_mK ll_cnt L xs false 6 (.inl (lo_iload 7 2)) := lk_iload_n (k := 2) (by decide +kernel) rfl
theorem k_22_7 (L : Nat) (xs : Nat → Int32) : ll_OK1 cX2_read RX2 (some .int) false ll_mN ll_mR ll_mK ll_cnt L xs false 7 (.inl (lo_putf 10 2 2 0)) := lk_putf (ix := 23) (ci := 2) (k := 2) (C := RX2) (T := TX2) (N := 5) (ty0 := tyX2) (by decide +kernel) rfl in_2 tyX2_ok nmX2 (by decide) tb_99 (fun B adr v w h1 h2 => ll_fit_int (B := B) (adr := adr) h1 h2) (Or.inl rfl)
theorem k_22_10 (L : Nat) (xs : Nat → Int32) : ll_OK1 cX2_read RX2 (some .int) false ll_mN ll_mR ll_mK ll_cnt L xs false 10 (.inl (lo_aload 11 0)) := lk_aload_n (k := 0) (by decide +kernel) rfl
theorem k_22_11 (L : Nat) (xs : Nat → Int32) : ll_OK1 cX2_read RX2 (some .int) false ll_mN ll_mR ll_mK ll_cnt L xs false 11 (.inl (lo_push 12 (.int 0))) := lk_iconst (n := 0) (by decide +kernel) (by decide)
theorem k_22_12 (L : Nat) (xs : Nat → Int32) : ll_OK1 cX2_read RX2 (some .int) false ll_mN ll_mR ll_mK ll_cnt L xs false 12 (.inl (lo_putf 15 2 3 0)) := lk_putf (ix := 26) (ci := 2) (k := 3) (C := RX2) (T := TX2) (N := 5) (ty0 := tyX2) (by decide +kernel) rfl in_2 tyX2_ok nmX2 (by decide) tb_100 (fun B adr v w h1 h2 => ll_fit_int (B := B) (adr := adr) h1 h2) (Or.inl rfl)
theorem k_22_15 (L : Nat) (xs : Nat → Int32) : ll_OK1 cX2_read RX2 (some .int) false ll_mN ll_mR ll_mK ll_cnt L xs false 15 (.inl (lo_aload 16 0)) := lk_aload_n (k := 0) (by decide +kernel) rfl
theorem k_22_16 (L : Nat) (xs : Nat → Int32) : ll_OK1 cX2_read RX2 (some .int) false ll_mN ll_mR ll_mK ll_cnt L xs false 16 (.inl (lo_push 17 (.int (-1)))) := lk_iconst (n := (-1)) (by decide +kernel) (by decide)
theorem k_22_17 (L : Nat) (xs : Nat → Int32) : ll_OK1 cX2_read RX2 (some .int) false ll_mN ll_mR ll_mK ll_cnt L xs false 17 (.inl (lo_putf 20 2 4 0)) := lk_putf (ix := 9) (ci := 2) (k := 4) (C := RX2) (T := TX2) (N := 5) (ty0 := tyX2) (by decide +kernel) rfl in_2 tyX2_ok nmX2 (by decide) tb_96 (fun B adr v w h1 h2 => ll_fit_int (B := B) (adr := adr) h1 h2) (Or.inl rfl)
theorem k_22_20 (L : Nat) (xs : Nat → Int32) : ll_OK1 cX2_read RX2 (some .int) false ll_mN ll_mR ll_mK ll_cnt L xs false 20 (.inl (lo_aload 21 0)) := lk_aload_n (k := 0) (by decide +kernel) rfl
theorem k_22_21 (L : Nat) (xs : Nat → Int32) : ll_OK1 cX2_read RX2 (some .int) false ll_mN ll_mR ll_mK ll_cnt L xs false 21 (.inl (lo_getf 24 2 0)) := lk_getf (ix := 15) (ci := 2) (k := 0) (C := RX2) (T := TX2) (N := 5) (by decide +kernel) rfl in_2 (by decide) tb_97
theorem k_22_24 (L : Nat) (xs : Nat → Int32) : ll_OK1 cX2_read RX2 (some .int) false ll_mN ll_mR ll_mK ll_cnt L xs false 24 (.inr (.inl (80, 1, 27))) := ⟨rfl, by decide, by rw [mN_80, mK_80, mR_80]; exact lj_v 29 0 8 (RX8, TX8, 10) (by decide +kernel) tb_101 tb_102 tb_103 rfl rfl rfl rfl (by decide +kernel)⟩
theorem k_22_27 (L : Nat) (xs : Nat → Int32) : ll_OK1 cX2_read RX2 (some .int) false ll_mN ll_mR ll_mK ll_cnt L xs false 27 (.inl (lo_aload 28 0)) := lk_aload_n (k := 0) (by decide +kernel) rfl
theorem k_22_28 (L : Nat) (xs : Nat → Int32) : ll_OK1 cX2_read RX2 (some .int) false ll_mN ll_mR ll_mK ll_cnt L xs false 28 (.inl (lo_push 29 (.int 0))) := lk_iconst (n := 0) (by decide +kernel) (by decide)
theorem k_22_29 (L : Nat) (xs : Nat → Int32) : ll_OK1 cX2_read RX2 (some .int) false ll_mN ll_mR ll_mK ll_cnt L xs false 29 (.inr (.inl (23, 2, 32))) := ⟨rfl, by decide, by rw [mN_23, mK_23, mR_23]; exact lj_v 34 1 2 (RX2, TX2, 5) (by decide +kernel) tb_104 tb_105 tb_106 rfl rfl rfl rfl (by decide +kernel)⟩
theorem k_22_32 (L : Nat) (xs : Nat → Int32) : ll_OK1 cX2_read RX2 (some .int) false ll_mN ll_mR ll_mK ll_cnt L xs false 32 (.inl (lo_istore 33 3)) := lk_istore_n (k := 3) (by decide +kernel) rfl
theorem k_22_33 (L : Nat) (xs : Nat → Int32) : ll_OK1 cX2_read RX2 (some .int) false ll_mN ll_mR ll_mK ll_cnt L xs false 33 (.inl (lo_aload 34 0)) := lk_aload_n (k := 0) (by decide +kernel) rfl
theorem k_22_34 (L : Nat) (xs : Nat → Int32) : ll_OK1 cX2_read RX2 (some .int) false ll_mN ll_mR ll_mK ll_cnt L xs false 34 (.inl (lo_getf 37 2 4)) := lk_getf (ix := 9) (ci := 2) (k := 4) (C := RX2) (T := TX2) (N := 5) (by decide +kernel) rfl in_2 (by decide) tb_96
theorem k_22_37 (L : Nat) (xs : Nat → Int32) : ll_OK1 cX2_read RX2 (some .int) false ll_mN ll_mR ll_mK ll_cnt L xs false 37 (.inl (lo_push 38 (.int (-1)))) := lk_iconst (n := (-1)) (by decide +kernel) (by decide)
theorem k_22_38 (L : Nat) (xs : Nat → Int32) : ll_OK1 cX2_read RX2 (some .int) false ll_mN ll_mR ll_mK ll_cnt L xs false 38 (.inl (lo_cmp 57 41 (fun x y => decide (¬ x = y)))) := lk_icmp_ne (off := 19) (by decide +kernel) rfl
theorem k_22_41 (L : Nat) (xs : Nat → Int32) : ll_OK1 cX2_read RX2 (some .int) false ll_mN ll_mR ll_mK ll_cnt L xs false 41 (.inl (lo_aload 42 0)) := lk_aload_n (k := 0) (by decide +kernel) rfl
theorem k_22_42 (L : Nat) (xs : Nat → Int32) : ll_OK1 cX2_read RX2 (some .int) false ll_mN ll_mR ll_mK ll_cnt L xs false 42 (.inr (.inl (27, 1, 45))) := ⟨rfl, by decide, by rw [mN_27, mK_27, mR_27]; exact lj_v 38 0 2 (RX2, TX2, 5) (by decide +kernel) tb_107 tb_108 tb_109 rfl rfl rfl rfl (by decide +kernel)⟩
theorem k_22_45 (L : Nat) (xs : Nat → Int32) : ll_OK1 cX2_read RX2 (some .int) false ll_mN ll_mR ll_mK ll_cnt L xs false 45 (.inl (lo_push 46 (.int (-1)))) := lk_iconst (n := (-1)) (by decide +kernel) (by decide)
theorem k_22_46 (L : Nat) (xs : Nat → Int32) : ll_OK1 cX2_read RX2 (some .int) false ll_mN ll_mR ll_mK ll_cnt L xs false 46 (.inl (lo_cmp 57 49 (fun x y => decide (x = y)))) := lk_icmp_eq (off := 11) (by decide +kernel) rfl
theorem k_22_49 (L : Nat) (xs : Nat → Int32) : ll_OK1 cX2_read RX2 (some .int) false ll_mN ll_mR ll_mK ll_cnt L xs false 49 (.inl (lo_aload 50 0)) := lk_aload_n (k := 0) (by decide +kernel) rfl
theorem k_22_50 (L : Nat) (xs : Nat → Int32) : ll_OK1 cX2_read RX2 (some .int) false ll_mN ll_mR ll_mK ll_cnt L xs false 50 (.inl (lo_aload 51 0)) := lk_aload_n (k := 0) (by decide +kernel) rfl
theorem k_22_51 (L : Nat) (xs : Nat → Int32) : ll_OK1 cX2_read RX2 (some .int) false ll_mN ll_mR ll_mK ll_cnt L xs false 51 (.inl (lo_getf 54 2 3)) := lk_getf (ix := 26) (ci := 2) (k := 3) (C := RX2) (T := TX2) (N := 5) (by decide +kernel) rfl in_2 (by decide) tb_100
theorem k_22_54 (L : Nat) (xs : Nat → Int32) : ll_OK1 cX2_read RX2 (some .int) false ll_mN ll_mR ll_mK ll_cnt L xs false 54 (.inl (lo_putf 57 2 4 0)) := lk_putf (ix := 9) (ci := 2) (k := 4) (C := RX2) (T := TX2) (N := 5) (ty0 := tyX2) (by decide +kernel) rfl in_2 tyX2_ok nmX2 (by decide) tb_96 (fun B adr v w h1 h2 => ll_fit_int (B := B) (adr := adr) h1 h2) (Or.inl rfl)
theorem k_22_57 (L : Nat) (xs : Nat → Int32) : ll_OK1 cX2_read RX2 (some .int) false ll_mN ll_mR ll_mK ll_cnt L xs false 57 (.inl (lo_aload 58 0)) := lk_aload_n (k := 0) (by decide +kernel) rfl
theorem k_22_58 (L : Nat) (xs : Nat → Int32) : ll_OK1 cX2_read RX2 (some .int) false ll_mN ll_mR ll_mK ll_cnt L xs false 58 (.inl (lo_getf 61 2 4)) := lk_getf (ix := 9) (ci := 2) (k := 4) (C := RX2) (T := TX2) (N := 5) (by decide +kernel) rfl in_2 (by decide) tb_96
theorem k_22_61 (L : Nat) (xs : Nat → Int32) : ll_OK1 cX2_read RX2 (some .int) false ll_mN ll_mR ll_mK ll_cnt L xs false 61 (.inl (lo_push 62 (.int (-1)))) := lk_iconst (n := (-1)) (by decide +kernel) (by decide)
theorem k_22_62 (L : Nat) (xs : Nat → Int32) : ll_OK1 cX2_read RX2 (some .int) false ll_mN ll_mR ll_mK ll_cnt L xs false 62 (.inl (lo_cmp 69 65 (fun x y => decide (¬ x = y)))) := lk_icmp_ne (off := 7) (by decide +kernel) rfl
theorem k_22_65 (L : Nat) (xs : Nat → Int32) : ll_OK1 cX2_read RX2 (some .int) false ll_mN ll_mR ll_mK ll_cnt L xs false 65 (.inl (lo_iload 66 3)) := lk_iload_n (k := 3) (by decide +kernel) rfl
theorem k_22_66 (L : Nat) (xs : Nat → Int32) : ll_OK1 cX2_read RX2 (some .int) false ll_mN ll_mR ll_mK ll_cnt L xs false 66 (.inl (lo_goto 70)) := lk_goto (off := 4) (by decide +kernel) rfl
theorem k_22_69 (L : Nat) (xs : Nat → Int32) : ll_OK1 cX2_read RX2 (some .int) false ll_mN ll_mR ll_mK ll_cnt L xs false 69 (.inl (lo_push 70 (.int (-1)))) := lk_iconst (n := (-1)) (by decide +kernel) (by decide)
theorem k_22_70 (L : Nat) (xs : Nat → Int32) : ll_OK1 cX2_read RX2 (some .int) false ll_mN ll_mR ll_mK ll_cnt L xs false 70 (.inr (.inr 1)) := ⟨(fun h => by cases h), (fun _ => ⟨(by decide +kernel), rfl⟩), fun h => by cases h⟩
theorem ok_22 (L : Nat) (xs : Nat → Int32) : ∀ q ∈ cd_22, ll_OK1 cX2_read RX2 (some .int) false ll_mN ll_mR ll_mK ll_cnt L xs false q.1 q.2 :=
  List.forall_mem_cons.mpr ⟨k_22_0 L xs, List.forall_mem_cons.mpr ⟨k_22_1 L xs, List.forall_mem_cons.mpr ⟨k_22_2 L xs, List.forall_mem_cons.mpr ⟨k_22_5 L xs, List.forall_mem_cons.mpr ⟨k_22_6 L xs, List.forall_mem_cons.mpr ⟨k_22_7 L xs, List.forall_mem_cons.mpr ⟨k_22_10 L xs, List.forall_mem_cons.mpr ⟨k_22_11 L xs, List.forall_mem_cons.mpr ⟨k_22_12 L xs, List.forall_mem_cons.mpr ⟨k_22_15 L xs, List.forall_mem_cons.mpr ⟨k_22_16 L xs, List.forall_mem_cons.mpr ⟨k_22_17 L xs, List.forall_mem_cons.mpr ⟨k_22_20 L xs, List.forall_mem_cons.mpr ⟨k_22_21 L xs, List.forall_mem_cons.mpr ⟨k_22_24 L xs, List.forall_mem_cons.mpr ⟨k_22_27 L xs, List.forall_mem_cons.mpr ⟨k_22_28 L xs, List.forall_mem_cons.mpr ⟨k_22_29 L xs, List.forall_mem_cons.mpr ⟨k_22_32 L xs, List.forall_mem_cons.mpr ⟨k_22_33 L xs, List.forall_mem_cons.mpr ⟨k_22_34 L xs, List.forall_mem_cons.mpr ⟨k_22_37 L xs, List.forall_mem_cons.mpr ⟨k_22_38 L xs, List.forall_mem_cons.mpr ⟨k_22_41 L xs, List.forall_mem_cons.mpr ⟨k_22_42 L xs, List.forall_mem_cons.mpr ⟨k_22_45 L xs, List.forall_mem_cons.mpr ⟨k_22_46 L xs, List.forall_mem_cons.mpr ⟨k_22_49 L xs, List.forall_mem_cons.mpr ⟨k_22_50 L xs, List.forall_mem_cons.mpr ⟨k_22_51 L xs, List.forall_mem_cons.mpr ⟨k_22_54 L xs, List.forall_mem_cons.mpr ⟨k_22_57 L xs, List.forall_mem_cons.mpr ⟨k_22_58 L xs, List.forall_mem_cons.mpr ⟨k_22_61 L xs, List.forall_mem_cons.mpr ⟨k_22_62 L xs, List.forall_mem_cons.mpr ⟨k_22_65 L xs, List.forall_mem_cons.mpr ⟨k_22_66 L xs, List.forall_mem_cons.mpr ⟨k_22_69 L xs, List.forall_mem_cons.mpr ⟨k_22_70 L xs, fun _ h => absurd h List.not_mem_nil⟩⟩⟩⟩⟩⟩⟩⟩⟩⟩⟩⟩⟩⟩⟩⟩⟩⟩⟩⟩⟩⟩⟩⟩⟩⟩⟩⟩⟩⟩⟩⟩⟩⟩⟩⟩⟩⟩⟩
/-- InclusionProver$Reader.readSum.(I)I -/
def cd_23 : List (Nat × ll_O) := [
  (0, .inl (lo_aload 1 0)),
  (1, .inl (lo_getf 4 2 0)),
  (4, .inr (.inl (87, 1, 7))),
  (7, .inl (lo_istore 8 2)),
  (8, .inl (lo_push 9 (.int 1))),
  (9, .inl (lo_istore 10 3)),
  (10, .inl (lo_push 11 (.int 0))),
  (11, .inl (lo_istore 13 4)),
  (13, .inl (lo_iload 14 3)),
  (14, .inl (lo_if 82 17 (fun x => decide (x = 0)))),
  (17, .inl (lo_iload 19 4)),
  (19, .inl (lo_aload 20 0)),
  (20, .inl (lo_getf 23 2 2)),
  (23, .inl (lo_cmp 82 26 (fun x y => decide (y < x)))),
  (26, .inl (lo_aload 27 0)),
  (27, .inl (lo_getf 30 2 0)),
  (30, .inl (lo_iload 31 2)),
  (31, .inl (lo_aload 32 0)),
  (32, .inl (lo_iload 33 1)),
  (33, .inr (.inl (24, 2, 36))),
  (36, .inr (.inl (88, 3, 39))),
  (39, .inl (lo_aload 40 0)),
  (40, .inl (lo_getf 43 2 4)),
  (43, .inl (lo_push 44 (.int (-1)))),
  (44, .inl (lo_cmp 60 47 (fun x y => decide (¬ x = y)))),
  (47, .inl (lo_aload 48 0)),
  (48, .inr (.inl (27, 1, 51))),
  (51, .inl (lo_push 53 (.int 43))),
  (53, .inl (lo_cmp 60 56 (fun x y => decide (¬ x = y)))),
  (56, .inl (lo_push 57 (.int 1))),
  (57, .inl (lo_goto 61)),
  (60, .inl (lo_push 61 (.int 0))),
  (61, .inl (lo_istore 62 3)),
  (62, .inl (lo_iload 63 3)),
  (63, .inl (lo_if 76 66 (fun x => decide (x = 0)))),
  (66, .inl (lo_aload 67 0)),
  (67, .inl (lo_dup 68)),
  (68, .inl (lo_getf 71 2 3)),
  (71, .inl (lo_push 72 (.int 1))),
  (72, .inl (lo_bin 73 (fun x y => x + y))),
  (73, .inl (lo_putf 76 2 3 0)),
  (76, .inl (lo_iinc 79 4 1)),
  (79, .inl (lo_goto 13)),
  (82, .inl (lo_aload 83 0)),
  (83, .inl (lo_getf 86 2 0)),
  (86, .inl (lo_iload 87 2)),
  (87, .inr (.inl (90, 2, 90))),
  (90, .inr (.inr 1))]
theorem k_23_0 (L : Nat) (xs : Nat → Int32) : ll_OK1 cX2_readSum RX2 (some .int) false ll_mN ll_mR ll_mK ll_cnt L xs false 0 (.inl (lo_aload 1 0)) := lk_aload_n (k := 0) (by decide +kernel) rfl
theorem k_23_1 (L : Nat) (xs : Nat → Int32) : ll_OK1 cX2_readSum RX2 (some .int) false ll_mN ll_mR ll_mK ll_cnt L xs false 1 (.inl (lo_getf 4 2 0)) := lk_getf (ix := 15) (ci := 2) (k := 0) (C := RX2) (T := TX2) (N := 5) (by decide +kernel) rfl in_2 (by decide) tb_97
theorem k_23_4 (L : Nat) (xs : Nat → Int32) : ll_OK1 cX2_readSum RX2 (some .int) false ll_mN ll_mR ll_mK ll_cnt L xs false 4 (.inr (.inl (87, 1, 7))) := ⟨rfl, by decide, by rw [mN_87, mK_87, mR_87]; exact lj_v 42 0 8 (RX8, TX8, 10) (by decide +kernel) tb_110 tb_111 tb_112 rfl rfl rfl rfl (by decide +kernel)⟩
theorem k_23_7 (L : Nat) (xs : Nat → Int32) : ll_OK1 cX2_readSum RX2 (some .int) false ll_mN ll_mR ll_mK ll_cnt L xs false 7 (.inl (lo_istore 8 2)) := lk_istore_n (k := 2) (by decide +kernel) rfl
theorem k_23_8 (L : Nat) (xs : Nat → Int32) : ll_OK1 cX2_readSum RX2 (some .int) false ll_mN ll_mR ll_mK ll_cnt L xs false 8 (.inl (lo_push 9 (.int 1))) := lk_iconst (n := 1) (by decide +kernel) (by decide)
theorem k_23_9 (L : Nat) (xs : Nat → Int32) : ll_OK1 cX2_readSum RX2 (some .int) false ll_mN ll_mR ll_mK ll_cnt L xs false 9 (.inl (lo_istore 10 3)) := lk_istore_n (k := 3) (by decide +kernel) rfl
theorem k_23_10 (L : Nat) (xs : Nat → Int32) : ll_OK1 cX2_readSum RX2 (some .int) false ll_mN ll_mR ll_mK ll_cnt L xs false 10 (.inl (lo_push 11 (.int 0))) := lk_iconst (n := 0) (by decide +kernel) (by decide)
theorem k_23_11 (L : Nat) (xs : Nat → Int32) : ll_OK1 cX2_readSum RX2 (some .int) false ll_mN ll_mR ll_mK ll_cnt L xs false 11 (.inl (lo_istore 13 4)) := lk_istore (by decide +kernel)
theorem k_23_13 (L : Nat) (xs : Nat → Int32) : ll_OK1 cX2_readSum RX2 (some .int) false ll_mN ll_mR ll_mK ll_cnt L xs false 13 (.inl (lo_iload 14 3)) := lk_iload_n (k := 3) (by decide +kernel) rfl
theorem k_23_14 (L : Nat) (xs : Nat → Int32) : ll_OK1 cX2_readSum RX2 (some .int) false ll_mN ll_mR ll_mK ll_cnt L xs false 14 (.inl (lo_if 82 17 (fun x => decide (x = 0)))) := lk_if_eq (off := 68) (by decide +kernel) rfl
theorem k_23_17 (L : Nat) (xs : Nat → Int32) : ll_OK1 cX2_readSum RX2 (some .int) false ll_mN ll_mR ll_mK ll_cnt L xs false 17 (.inl (lo_iload 19 4)) := lk_iload (by decide +kernel)
theorem k_23_19 (L : Nat) (xs : Nat → Int32) : ll_OK1 cX2_readSum RX2 (some .int) false ll_mN ll_mR ll_mK ll_cnt L xs false 19 (.inl (lo_aload 20 0)) := lk_aload_n (k := 0) (by decide +kernel) rfl
theorem k_23_20 (L : Nat) (xs : Nat → Int32) : ll_OK1 cX2_readSum RX2 (some .int) false ll_mN ll_mR ll_mK ll_cnt L xs false 20 (.inl (lo_getf 23 2 2)) := lk_getf (ix := 23) (ci := 2) (k := 2) (C := RX2) (T := TX2) (N := 5) (by decide +kernel) rfl in_2 (by decide) tb_99
theorem k_23_23 (L : Nat) (xs : Nat → Int32) : ll_OK1 cX2_readSum RX2 (some .int) false ll_mN ll_mR ll_mK ll_cnt L xs false 23 (.inl (lo_cmp 82 26 (fun x y => decide (y < x)))) := lk_icmp_gt (off := 59) (by decide +kernel) rfl
theorem k_23_26 (L : Nat) (xs : Nat → Int32) : ll_OK1 cX2_readSum RX2 (some .int) false ll_mN ll_mR ll_mK ll_cnt L xs false 26 (.inl (lo_aload 27 0)) := lk_aload_n (k := 0) (by decide +kernel) rfl
theorem k_23_27 (L : Nat) (xs : Nat → Int32) : ll_OK1 cX2_readSum RX2 (some .int) false ll_mN ll_mR ll_mK ll_cnt L xs false 27 (.inl (lo_getf 30 2 0)) := lk_getf (ix := 15) (ci := 2) (k := 0) (C := RX2) (T := TX2) (N := 5) (by decide +kernel) rfl in_2 (by decide) tb_97
theorem k_23_30 (L : Nat) (xs : Nat → Int32) : ll_OK1 cX2_readSum RX2 (some .int) false ll_mN ll_mR ll_mK ll_cnt L xs false 30 (.inl (lo_iload 31 2)) := lk_iload_n (k := 2) (by decide +kernel) rfl
theorem k_23_31 (L : Nat) (xs : Nat → Int32) : ll_OK1 cX2_readSum RX2 (some .int) false ll_mN ll_mR ll_mK ll_cnt L xs false 31 (.inl (lo_aload 32 0)) := lk_aload_n (k := 0) (by decide +kernel) rfl
theorem k_23_32 (L : Nat) (xs : Nat → Int32) : ll_OK1 cX2_readSum RX2 (some .int) false ll_mN ll_mR ll_mK ll_cnt L xs false 32 (.inl (lo_iload 33 1)) := lk_iload_n (k := 1) (by decide +kernel) rfl
theorem k_23_33 (L : Nat) (xs : Nat → Int32) : ll_OK1 cX2_readSum RX2 (some .int) false ll_mN ll_mR ll_mK ll_cnt L xs false 33 (.inr (.inl (24, 2, 36))) := ⟨rfl, by decide, by rw [mN_24, mK_24, mR_24]; exact lj_v 45 1 2 (RX2, TX2, 5) (by decide +kernel) tb_113 tb_114 tb_115 rfl rfl rfl rfl (by decide +kernel)⟩
theorem k_23_36 (L : Nat) (xs : Nat → Int32) : ll_OK1 cX2_readSum RX2 (some .int) false ll_mN ll_mR ll_mK ll_cnt L xs false 36 (.inr (.inl (88, 3, 39))) := ⟨rfl, by decide, by rw [mN_88, mK_88, mR_88]; exact lj_v 48 2 8 (RX8, TX8, 10) (by decide +kernel) tb_116 tb_117 tb_118 rfl rfl rfl rfl (by decide +kernel)⟩
theorem k_23_39 (L : Nat) (xs : Nat → Int32) : ll_OK1 cX2_readSum RX2 (some .int) false ll_mN ll_mR ll_mK ll_cnt L xs false 39 (.inl (lo_aload 40 0)) := lk_aload_n (k := 0) (by decide +kernel) rfl
theorem k_23_40 (L : Nat) (xs : Nat → Int32) : ll_OK1 cX2_readSum RX2 (some .int) false ll_mN ll_mR ll_mK ll_cnt L xs false 40 (.inl (lo_getf 43 2 4)) := lk_getf (ix := 9) (ci := 2) (k := 4) (C := RX2) (T := TX2) (N := 5) (by decide +kernel) rfl in_2 (by decide) tb_96
theorem k_23_43 (L : Nat) (xs : Nat → Int32) : ll_OK1 cX2_readSum RX2 (some .int) false ll_mN ll_mR ll_mK ll_cnt L xs false 43 (.inl (lo_push 44 (.int (-1)))) := lk_iconst (n := (-1)) (by decide +kernel) (by decide)
theorem k_23_44 (L : Nat) (xs : Nat → Int32) : ll_OK1 cX2_readSum RX2 (some .int) false ll_mN ll_mR ll_mK ll_cnt L xs false 44 (.inl (lo_cmp 60 47 (fun x y => decide (¬ x = y)))) := lk_icmp_ne (off := 16) (by decide +kernel) rfl
theorem k_23_47 (L : Nat) (xs : Nat → Int32) : ll_OK1 cX2_readSum RX2 (some .int) false ll_mN ll_mR ll_mK ll_cnt L xs false 47 (.inl (lo_aload 48 0)) := lk_aload_n (k := 0) (by decide +kernel) rfl
theorem k_23_48 (L : Nat) (xs : Nat → Int32) : ll_OK1 cX2_readSum RX2 (some .int) false ll_mN ll_mR ll_mK ll_cnt L xs false 48 (.inr (.inl (27, 1, 51))) := ⟨rfl, by decide, by rw [mN_27, mK_27, mR_27]; exact lj_v 38 0 2 (RX2, TX2, 5) (by decide +kernel) tb_107 tb_108 tb_109 rfl rfl rfl rfl (by decide +kernel)⟩
theorem k_23_51 (L : Nat) (xs : Nat → Int32) : ll_OK1 cX2_readSum RX2 (some .int) false ll_mN ll_mR ll_mK ll_cnt L xs false 51 (.inl (lo_push 53 (.int 43))) := lk_bipush (n := 43) (by decide +kernel) (by decide)
theorem k_23_53 (L : Nat) (xs : Nat → Int32) : ll_OK1 cX2_readSum RX2 (some .int) false ll_mN ll_mR ll_mK ll_cnt L xs false 53 (.inl (lo_cmp 60 56 (fun x y => decide (¬ x = y)))) := lk_icmp_ne (off := 7) (by decide +kernel) rfl
theorem k_23_56 (L : Nat) (xs : Nat → Int32) : ll_OK1 cX2_readSum RX2 (some .int) false ll_mN ll_mR ll_mK ll_cnt L xs false 56 (.inl (lo_push 57 (.int 1))) := lk_iconst (n := 1) (by decide +kernel) (by decide)
theorem k_23_57 (L : Nat) (xs : Nat → Int32) : ll_OK1 cX2_readSum RX2 (some .int) false ll_mN ll_mR ll_mK ll_cnt L xs false 57 (.inl (lo_goto 61)) := lk_goto (off := 4) (by decide +kernel) rfl
theorem k_23_60 (L : Nat) (xs : Nat → Int32) : ll_OK1 cX2_readSum RX2 (some .int) false ll_mN ll_mR ll_mK ll_cnt L xs false 60 (.inl (lo_push 61 (.int 0))) := lk_iconst (n := 0) (by decide +kernel) (by decide)
theorem k_23_61 (L : Nat) (xs : Nat → Int32) : ll_OK1 cX2_readSum RX2 (some .int) false ll_mN ll_mR ll_mK ll_cnt L xs false 61 (.inl (lo_istore 62 3)) := lk_istore_n (k := 3) (by decide +kernel) rfl
theorem k_23_62 (L : Nat) (xs : Nat → Int32) : ll_OK1 cX2_readSum RX2 (some .int) false ll_mN ll_mR ll_mK ll_cnt L xs false 62 (.inl (lo_iload 63 3)) := lk_iload_n (k := 3) (by decide +kernel) rfl
theorem k_23_63 (L : Nat) (xs : Nat → Int32) : ll_OK1 cX2_readSum RX2 (some .int) false ll_mN ll_mR ll_mK ll_cnt L xs false 63 (.inl (lo_if 76 66 (fun x => decide (x = 0)))) := lk_if_eq (off := 13) (by decide +kernel) rfl
theorem k_23_66 (L : Nat) (xs : Nat → Int32) : ll_OK1 cX2_readSum RX2 (some .int) false ll_mN ll_mR ll_mK ll_cnt L xs false 66 (.inl (lo_aload 67 0)) := lk_aload_n (k := 0) (by decide +kernel) rfl
theorem k_23_67 (L : Nat) (xs : Nat → Int32) : ll_OK1 cX2_readSum RX2 (some .int) false ll_mN ll_mR ll_mK ll_cnt L xs false 67 (.inl (lo_dup 68)) := lk_dup (by decide +kernel)
theorem k_23_68 (L : Nat) (xs : Nat → Int32) : ll_OK1 cX2_readSum RX2 (some .int) false ll_mN ll_mR ll_mK ll_cnt L xs false 68 (.inl (lo_getf 71 2 3)) := lk_getf (ix := 26) (ci := 2) (k := 3) (C := RX2) (T := TX2) (N := 5) (by decide +kernel) rfl in_2 (by decide) tb_100
theorem k_23_71 (L : Nat) (xs : Nat → Int32) : ll_OK1 cX2_readSum RX2 (some .int) false ll_mN ll_mR ll_mK ll_cnt L xs false 71 (.inl (lo_push 72 (.int 1))) := lk_iconst (n := 1) (by decide +kernel) (by decide)
theorem k_23_72 (L : Nat) (xs : Nat → Int32) : ll_OK1 cX2_readSum RX2 (some .int) false ll_mN ll_mR ll_mK ll_cnt L xs false 72 (.inl (lo_bin 73 (fun x y => x + y))) := lk_iadd (by decide +kernel)
theorem k_23_73 (L : Nat) (xs : Nat → Int32) : ll_OK1 cX2_readSum RX2 (some .int) false ll_mN ll_mR ll_mK ll_cnt L xs false 73 (.inl (lo_putf 76 2 3 0)) := lk_putf (ix := 26) (ci := 2) (k := 3) (C := RX2) (T := TX2) (N := 5) (ty0 := tyX2) (by decide +kernel) rfl in_2 tyX2_ok nmX2 (by decide) tb_100 (fun B adr v w h1 h2 => ll_fit_int (B := B) (adr := adr) h1 h2) (Or.inl rfl)
theorem k_23_76 (L : Nat) (xs : Nat → Int32) : ll_OK1 cX2_readSum RX2 (some .int) false ll_mN ll_mR ll_mK ll_cnt L xs false 76 (.inl (lo_iinc 79 4 1)) := lk_iinc (n := 1) (by decide +kernel) (by decide)
theorem k_23_79 (L : Nat) (xs : Nat → Int32) : ll_OK1 cX2_readSum RX2 (some .int) false ll_mN ll_mR ll_mK ll_cnt L xs false 79 (.inl (lo_goto 13)) := lk_goto (off := (-66)) (by decide +kernel) rfl
theorem k_23_82 (L : Nat) (xs : Nat → Int32) : ll_OK1 cX2_readSum RX2 (some .int) false ll_mN ll_mR ll_mK ll_cnt L xs false 82 (.inl (lo_aload 83 0)) := lk_aload_n (k := 0) (by decide +kernel) rfl
theorem k_23_83 (L : Nat) (xs : Nat → Int32) : ll_OK1 cX2_readSum RX2 (some .int) false ll_mN ll_mR ll_mK ll_cnt L xs false 83 (.inl (lo_getf 86 2 0)) := lk_getf (ix := 15) (ci := 2) (k := 0) (C := RX2) (T := TX2) (N := 5) (by decide +kernel) rfl in_2 (by decide) tb_97
theorem k_23_86 (L : Nat) (xs : Nat → Int32) : ll_OK1 cX2_readSum RX2 (some .int) false ll_mN ll_mR ll_mK ll_cnt L xs false 86 (.inl (lo_iload 87 2)) := lk_iload_n (k := 2) (by decide +kernel) rfl
theorem k_23_87 (L : Nat) (xs : Nat → Int32) : ll_OK1 cX2_readSum RX2 (some .int) false ll_mN ll_mR ll_mK ll_cnt L xs false 87 (.inr (.inl (90, 2, 90))) := ⟨rfl, by decide, by rw [mN_90, mK_90, mR_90]; exact lj_v 52 1 8 (RX8, TX8, 10) (by decide +kernel) tb_119 tb_120 tb_121 rfl rfl rfl rfl (by decide +kernel)⟩
theorem k_23_90 (L : Nat) (xs : Nat → Int32) : ll_OK1 cX2_readSum RX2 (some .int) false ll_mN ll_mR ll_mK ll_cnt L xs false 90 (.inr (.inr 1)) := ⟨(fun h => by cases h), (fun _ => ⟨(by decide +kernel), rfl⟩), fun h => by cases h⟩
theorem ok_23 (L : Nat) (xs : Nat → Int32) : ∀ q ∈ cd_23, ll_OK1 cX2_readSum RX2 (some .int) false ll_mN ll_mR ll_mK ll_cnt L xs false q.1 q.2 :=
  List.forall_mem_cons.mpr ⟨k_23_0 L xs, List.forall_mem_cons.mpr ⟨k_23_1 L xs, List.forall_mem_cons.mpr ⟨k_23_4 L xs, List.forall_mem_cons.mpr ⟨k_23_7 L xs, List.forall_mem_cons.mpr ⟨k_23_8 L xs, List.forall_mem_cons.mpr ⟨k_23_9 L xs, List.forall_mem_cons.mpr ⟨k_23_10 L xs, List.forall_mem_cons.mpr ⟨k_23_11 L xs, List.forall_mem_cons.mpr ⟨k_23_13 L xs, List.forall_mem_cons.mpr ⟨k_23_14 L xs, List.forall_mem_cons.mpr ⟨k_23_17 L xs, List.forall_mem_cons.mpr ⟨k_23_19 L xs, List.forall_mem_cons.mpr ⟨k_23_20 L xs, List.forall_mem_cons.mpr ⟨k_23_23 L xs, List.forall_mem_cons.mpr ⟨k_23_26 L xs, List.forall_mem_cons.mpr ⟨k_23_27 L xs, List.forall_mem_cons.mpr ⟨k_23_30 L xs, List.forall_mem_cons.mpr ⟨k_23_31 L xs, List.forall_mem_cons.mpr ⟨k_23_32 L xs, List.forall_mem_cons.mpr ⟨k_23_33 L xs, List.forall_mem_cons.mpr ⟨k_23_36 L xs, List.forall_mem_cons.mpr ⟨k_23_39 L xs, List.forall_mem_cons.mpr ⟨k_23_40 L xs, List.forall_mem_cons.mpr ⟨k_23_43 L xs, List.forall_mem_cons.mpr ⟨k_23_44 L xs, List.forall_mem_cons.mpr ⟨k_23_47 L xs, List.forall_mem_cons.mpr ⟨k_23_48 L xs, List.forall_mem_cons.mpr ⟨k_23_51 L xs, List.forall_mem_cons.mpr ⟨k_23_53 L xs, List.forall_mem_cons.mpr ⟨k_23_56 L xs, List.forall_mem_cons.mpr ⟨k_23_57 L xs, List.forall_mem_cons.mpr ⟨k_23_60 L xs, List.forall_mem_cons.mpr ⟨k_23_61 L xs, List.forall_mem_cons.mpr ⟨k_23_62 L xs, List.forall_mem_cons.mpr ⟨k_23_63 L xs, List.forall_mem_cons.mpr ⟨k_23_66 L xs, List.forall_mem_cons.mpr ⟨k_23_67 L xs, List.forall_mem_cons.mpr ⟨k_23_68 L xs, List.forall_mem_cons.mpr ⟨k_23_71 L xs, List.forall_mem_cons.mpr ⟨k_23_72 L xs, List.forall_mem_cons.mpr ⟨k_23_73 L xs, List.forall_mem_cons.mpr ⟨k_23_76 L xs, List.forall_mem_cons.mpr ⟨k_23_79 L xs, List.forall_mem_cons.mpr ⟨k_23_82 L xs, List.forall_mem_cons.mpr ⟨k_23_83 L xs, List.forall_mem_cons.mpr ⟨k_23_86 L xs, List.forall_mem_cons.mpr ⟨k_23_87 L xs, List.forall_mem_cons.mpr ⟨k_23_90 L xs, fun _ h => absurd h List.not_mem_nil⟩⟩⟩⟩⟩⟩⟩⟩⟩⟩⟩⟩⟩⟩⟩⟩⟩⟩⟩⟩⟩⟩⟩⟩⟩⟩⟩⟩⟩⟩⟩⟩⟩⟩⟩⟩⟩⟩⟩⟩⟩⟩⟩⟩⟩⟩⟩⟩
/-- InclusionProver$Reader.readProduct.(I)I -/
def cd_24 : List (Nat × ll_O) := [
  (0, .inl (lo_aload 1 0)),
  (1, .inl (lo_getf 4 2 0)),
  (4, .inr (.inl (87, 1, 7))),
  (7, .inl (lo_istore 8 2)),
  (8, .inl (lo_push 9 (.int 1))),
  (9, .inl (lo_istore 10 3)),
  (10, .inl (lo_push 11 (.int 0))),
  (11, .inl (lo_istore 13 4)),
  (13, .inl (lo_iload 14 3)),
  (14, .inl (lo_if 68 17 (fun x => decide (x = 0)))),
  (17, .inl (lo_iload 19 4)),
  (19, .inl (lo_aload 20 0)),
  (20, .inl (lo_getf 23 2 2)),
  (23, .inl (lo_cmp 68 26 (fun x y => decide (y < x)))),
  (26, .inl (lo_aload 27 0)),
  (27, .inl (lo_getf 30 2 0)),
  (30, .inl (lo_aload 31 0)),
  (31, .inl (lo_iload 32 1)),
  (32, .inr (.inl (25, 2, 35))),
  (35, .inr (.inl (89, 2, 38))),
  (38, .inl (lo_aload 39 0)),
  (39, .inl (lo_getf 42 2 4)),
  (42, .inl (lo_push 43 (.int (-1)))),
  (43, .inl (lo_cmp 60 46 (fun x y => decide (¬ x = y)))),
  (46, .inl (lo_aload 47 0)),
  (47, .inr (.inl (27, 1, 50))),
  (50, .inr (.inl (28, 1, 53))),
  (53, .inl (lo_if 60 56 (fun x => decide (x = 0)))),
  (56, .inl (lo_push 57 (.int 1))),
  (57, .inl (lo_goto 61)),
  (60, .inl (lo_push 61 (.int 0))),
  (61, .inl (lo_istore 62 3)),
  (62, .inl (lo_iinc 65 4 1)),
  (65, .inl (lo_goto 13)),
  (68, .inl (lo_aload 69 0)),
  (69, .inl (lo_getf 72 2 0)),
  (72, .inl (lo_iload 73 2)),
  (73, .inr (.inl (91, 2, 76))),
  (76, .inr (.inr 1))]
theorem k_24_0 (L : Nat) (xs : Nat → Int32) : ll_OK1 cX2_readProduct RX2 (some .int) false ll_mN ll_mR ll_mK ll_cnt L xs false 0 (.inl (lo_aload 1 0)) := lk_aload_n (k := 0) (by decide +kernel) rfl
theorem k_24_1 (L : Nat) (xs : Nat → Int32) : ll_OK1 cX2_readProduct RX2 (some .int) false ll_mN ll_mR ll_mK ll_cnt L xs false 1 (.inl (lo_getf 4 2 0)) := lk_getf (ix := 15) (ci := 2) (k := 0) (C := RX2) (T := TX2) (N := 5) (by decide +kernel) rfl in_2 (by decide) tb_97
theorem k_24_4 (L : Nat) (xs : Nat → Int32) : ll_OK1 cX2_readProduct RX2 (some .int) false ll_mN ll_mR ll_mK ll_cnt L xs false 4 (.inr (.inl (87, 1, 7))) := ⟨rfl, by decide, by rw [mN_87, mK_87, mR_87]; exact lj_v 42 0 8 (RX8, TX8, 10) (by decide +kernel) tb_110 tb_111 tb_112 rfl rfl rfl rfl (by decide +kernel)⟩
theorem k_24_7 (L : Nat) (xs : Nat → Int32) : ll_OK1 cX2_readProduct RX2 (some .int) false ll_mN ll_mR ll_mK ll_cnt L xs false 7 (.inl (lo_istore 8 2)) := lk_istore_n (k := 2) (by decide +kernel) rfl
theorem k_24_8 (L : Nat) (xs : Nat → Int32) : ll_OK1 cX2_readProduct RX2 (some .int) false ll_mN ll_mR ll_mK ll_cnt L xs false 8 (.inl (lo_push 9 (.int 1))) := lk_iconst (n := 1) (by decide +kernel) (by decide)
theorem k_24_9 (L : Nat) (xs : Nat → Int32) : ll_OK1 cX2_readProduct RX2 (some .int) false ll_mN ll_mR ll_mK ll_cnt L xs false 9 (.inl (lo_istore 10 3)) := lk_istore_n (k := 3) (by decide +kernel) rfl
theorem k_24_10 (L : Nat) (xs : Nat → Int32) : ll_OK1 cX2_readProduct RX2 (some .int) false ll_mN ll_mR ll_mK ll_cnt L xs false 10 (.inl (lo_push 11 (.int 0))) := lk_iconst (n := 0) (by decide +kernel) (by decide)
theorem k_24_11 (L : Nat) (xs : Nat → Int32) : ll_OK1 cX2_readProduct RX2 (some .int) false ll_mN ll_mR ll_mK ll_cnt L xs false 11 (.inl (lo_istore 13 4)) := lk_istore (by decide +kernel)
theorem k_24_13 (L : Nat) (xs : Nat → Int32) : ll_OK1 cX2_readProduct RX2 (some .int) false ll_mN ll_mR ll_mK ll_cnt L xs false 13 (.inl (lo_iload 14 3)) := lk_iload_n (k := 3) (by decide +kernel) rfl
theorem k_24_14 (L : Nat) (xs : Nat → Int32) : ll_OK1 cX2_readProduct RX2 (some .int) false ll_mN ll_mR ll_mK ll_cnt L xs false 14 (.inl (lo_if 68 17 (fun x => decide (x = 0)))) := lk_if_eq (off := 54) (by decide +kernel) rfl
theorem k_24_17 (L : Nat) (xs : Nat → Int32) : ll_OK1 cX2_readProduct RX2 (some .int) false ll_mN ll_mR ll_mK ll_cnt L xs false 17 (.inl (lo_iload 19 4)) := lk_iload (by decide +kernel)
theorem k_24_19 (L : Nat) (xs : Nat → Int32) : ll_OK1 cX2_readProduct RX2 (some .int) false ll_mN ll_mR ll_mK ll_cnt L xs false 19 (.inl (lo_aload 20 0)) := lk_aload_n (k := 0) (by decide +kernel) rfl
theorem k_24_20 (L : Nat) (xs : Nat → Int32) : ll_OK1 cX2_readProduct RX2 (some .int) false ll_mN ll_mR ll_mK ll_cnt L xs false 20 (.inl (lo_getf 23 2 2)) := lk_getf (ix := 23) (ci := 2) (k := 2) (C := RX2) (T := TX2) (N := 5) (by decide +kernel) rfl in_2 (by decide) tb_99
theorem k_24_23 (L : Nat) (xs : Nat → Int32) : ll_OK1 cX2_readProduct RX2 (some .int) false ll_mN ll_mR ll_mK ll_cnt L xs false 23 (.inl (lo_cmp 68 26 (fun x y => decide (y < x)))) := lk_icmp_gt (off := 45) (by decide +kernel) rfl
theorem k_24_26 (L : Nat) (xs : Nat → Int32) : ll_OK1 cX2_readProduct RX2 (some .int) false ll_mN ll_mR ll_mK ll_cnt L xs false 26 (.inl (lo_aload 27 0)) := lk_aload_n (k := 0) (by decide +kernel) rfl
theorem k_24_27 (L : Nat) (xs : Nat → Int32) : ll_OK1 cX2_readProduct RX2 (some .int) false ll_mN ll_mR ll_mK ll_cnt L xs false 27 (.inl (lo_getf 30 2 0)) := lk_getf (ix := 15) (ci := 2) (k := 0) (C := RX2) (T := TX2) (N := 5) (by decide +kernel) rfl in_2 (by decide) tb_97
theorem k_24_30 (L : Nat) (xs : Nat → Int32) : ll_OK1 cX2_readProduct RX2 (some .int) false ll_mN ll_mR ll_mK ll_cnt L xs false 30 (.inl (lo_aload 31 0)) := lk_aload_n (k := 0) (by decide +kernel) rfl
theorem k_24_31 (L : Nat) (xs : Nat → Int32) : ll_OK1 cX2_readProduct RX2 (some .int) false ll_mN ll_mR ll_mK ll_cnt L xs false 31 (.inl (lo_iload 32 1)) := lk_iload_n (k := 1) (by decide +kernel) rfl
theorem k_24_32 (L : Nat) (xs : Nat → Int32) : ll_OK1 cX2_readProduct RX2 (some .int) false ll_mN ll_mR ll_mK ll_cnt L xs false 32 (.inr (.inl (25, 2, 35))) := ⟨rfl, by decide, by rw [mN_25, mK_25, mR_25]; exact lj_v 55 1 2 (RX2, TX2, 5) (by decide +kernel) tb_122 tb_123 tb_124 rfl rfl rfl rfl (by decide +kernel)⟩
theorem k_24_35 (L : Nat) (xs : Nat → Int32) : ll_OK1 cX2_readProduct RX2 (some .int) false ll_mN ll_mR ll_mK ll_cnt L xs false 35 (.inr (.inl (89, 2, 38))) := ⟨rfl, by decide, by rw [mN_89, mK_89, mR_89]; exact lj_v 58 1 8 (RX8, TX8, 10) (by decide +kernel) tb_125 tb_126 tb_127 rfl rfl rfl rfl (by decide +kernel)⟩
theorem k_24_38 (L : Nat) (xs : Nat → Int32) : ll_OK1 cX2_readProduct RX2 (some .int) false ll_mN ll_mR ll_mK ll_cnt L xs false 38 (.inl (lo_aload 39 0)) := lk_aload_n (k := 0) (by decide +kernel) rfl
theorem k_24_39 (L : Nat) (xs : Nat → Int32) : ll_OK1 cX2_readProduct RX2 (some .int) false ll_mN ll_mR ll_mK ll_cnt L xs false 39 (.inl (lo_getf 42 2 4)) := lk_getf (ix := 9) (ci := 2) (k := 4) (C := RX2) (T := TX2) (N := 5) (by decide +kernel) rfl in_2 (by decide) tb_96
theorem k_24_42 (L : Nat) (xs : Nat → Int32) : ll_OK1 cX2_readProduct RX2 (some .int) false ll_mN ll_mR ll_mK ll_cnt L xs false 42 (.inl (lo_push 43 (.int (-1)))) := lk_iconst (n := (-1)) (by decide +kernel) (by decide)
theorem k_24_43 (L : Nat) (xs : Nat → Int32) : ll_OK1 cX2_readProduct RX2 (some .int) false ll_mN ll_mR ll_mK ll_cnt L xs false 43 (.inl (lo_cmp 60 46 (fun x y => decide (¬ x = y)))) := lk_icmp_ne (off := 17) (by decide +kernel) rfl
theorem k_24_46 (L : Nat) (xs : Nat → Int32) : ll_OK1 cX2_readProduct RX2 (some .int) false ll_mN ll_mR ll_mK ll_cnt L xs false 46 (.inl (lo_aload 47 0)) := lk_aload_n (k := 0) (by decide +kernel) rfl
theorem k_24_47 (L : Nat) (xs : Nat → Int32) : ll_OK1 cX2_readProduct RX2 (some .int) false ll_mN ll_mR ll_mK ll_cnt L xs false 47 (.inr (.inl (27, 1, 50))) := ⟨rfl, by decide, by rw [mN_27, mK_27, mR_27]; exact lj_v 38 0 2 (RX2, TX2, 5) (by decide +kernel) tb_107 tb_108 tb_109 rfl rfl rfl rfl (by decide +kernel)⟩
theorem k_24_50 (L : Nat) (xs : Nat → Int32) : ll_OK1 cX2_readProduct RX2 (some .int) false ll_mN ll_mR ll_mK ll_cnt L xs false 50 (.inr (.inl (28, 1, 53))) := ⟨rfl, by decide, by rw [mN_28, mK_28, mR_28]; exact lj_s 62 (by decide +kernel) tb_128 tb_129 (by decide +kernel)⟩
theorem k_24_53 (L : Nat) (xs : Nat → Int32) : ll_OK1 cX2_readProduct RX2 (some .int) false ll_mN ll_mR ll_mK ll_cnt L xs false 53 (.inl (lo_if 60 56 (fun x => decide (x = 0)))) := lk_if_eq (off := 7) (by decide +kernel) rfl
theorem k_24_56 (L : Nat) (xs : Nat → Int32) : ll_OK1 cX2_readProduct RX2 (some .int) false ll_mN ll_mR ll_mK ll_cnt L xs false 56 (.inl (lo_push 57 (.int 1))) := lk_iconst (n := 1) (by decide +kernel) (by decide)
theorem k_24_57 (L : Nat) (xs : Nat → Int32) : ll_OK1 cX2_readProduct RX2 (some .int) false ll_mN ll_mR ll_mK ll_cnt L xs false 57 (.inl (lo_goto 61)) := lk_goto (off := 4) (by decide +kernel) rfl
theorem k_24_60 (L : Nat) (xs : Nat → Int32) : ll_OK1 cX2_readProduct RX2 (some .int) false ll_mN ll_mR ll_mK ll_cnt L xs false 60 (.inl (lo_push 61 (.int 0))) := lk_iconst (n := 0) (by decide +kernel) (by decide)
theorem k_24_61 (L : Nat) (xs : Nat → Int32) : ll_OK1 cX2_readProduct RX2 (some .int) false ll_mN ll_mR ll_mK ll_cnt L xs false 61 (.inl (lo_istore 62 3)) := lk_istore_n (k := 3) (by decide +kernel) rfl
theorem k_24_62 (L : Nat) (xs : Nat → Int32) : ll_OK1 cX2_readProduct RX2 (some .int) false ll_mN ll_mR ll_mK ll_cnt L xs false 62 (.inl (lo_iinc 65 4 1)) := lk_iinc (n := 1) (by decide +kernel) (by decide)
theorem k_24_65 (L : Nat) (xs : Nat → Int32) : ll_OK1 cX2_readProduct RX2 (some .int) false ll_mN ll_mR ll_mK ll_cnt L xs false 65 (.inl (lo_goto 13)) := lk_goto (off := (-52)) (by decide +kernel) rfl
theorem k_24_68 (L : Nat) (xs : Nat → Int32) : ll_OK1 cX2_readProduct RX2 (some .int) false ll_mN ll_mR ll_mK ll_cnt L xs false 68 (.inl (lo_aload 69 0)) := lk_aload_n (k := 0) (by decide +kernel) rfl
theorem k_24_69 (L : Nat) (xs : Nat → Int32) : ll_OK1 cX2_readProduct RX2 (some .int) false ll_mN ll_mR ll_mK ll_cnt L xs false 69 (.inl (lo_getf 72 2 0)) := lk_getf (ix := 15) (ci := 2) (k := 0) (C := RX2) (T := TX2) (N := 5) (by decide +kernel) rfl in_2 (by decide) tb_97
theorem k_24_72 (L : Nat) (xs : Nat → Int32) : ll_OK1 cX2_readProduct RX2 (some .int) false ll_mN ll_mR ll_mK ll_cnt L xs false 72 (.inl (lo_iload 73 2)) := lk_iload_n (k := 2) (by decide +kernel) rfl
theorem k_24_73 (L : Nat) (xs : Nat → Int32) : ll_OK1 cX2_readProduct RX2 (some .int) false ll_mN ll_mR ll_mK ll_cnt L xs false 73 (.inr (.inl (91, 2, 76))) := ⟨rfl, by decide, by rw [mN_91, mK_91, mR_91]; exact lj_v 66 1 8 (RX8, TX8, 10) (by decide +kernel) tb_130 tb_131 tb_132 rfl rfl rfl rfl (by decide +kernel)⟩
theorem k_24_76 (L : Nat) (xs : Nat → Int32) : ll_OK1 cX2_readProduct RX2 (some .int) false ll_mN ll_mR ll_mK ll_cnt L xs false 76 (.inr (.inr 1)) := ⟨(fun h => by cases h), (fun _ => ⟨(by decide +kernel), rfl⟩), fun h => by cases h⟩
theorem ok_24 (L : Nat) (xs : Nat → Int32) : ∀ q ∈ cd_24, ll_OK1 cX2_readProduct RX2 (some .int) false ll_mN ll_mR ll_mK ll_cnt L xs false q.1 q.2 :=
  List.forall_mem_cons.mpr ⟨k_24_0 L xs, List.forall_mem_cons.mpr ⟨k_24_1 L xs, List.forall_mem_cons.mpr ⟨k_24_4 L xs, List.forall_mem_cons.mpr ⟨k_24_7 L xs, List.forall_mem_cons.mpr ⟨k_24_8 L xs, List.forall_mem_cons.mpr ⟨k_24_9 L xs, List.forall_mem_cons.mpr ⟨k_24_10 L xs, List.forall_mem_cons.mpr ⟨k_24_11 L xs, List.forall_mem_cons.mpr ⟨k_24_13 L xs, List.forall_mem_cons.mpr ⟨k_24_14 L xs, List.forall_mem_cons.mpr ⟨k_24_17 L xs, List.forall_mem_cons.mpr ⟨k_24_19 L xs, List.forall_mem_cons.mpr ⟨k_24_20 L xs, List.forall_mem_cons.mpr ⟨k_24_23 L xs, List.forall_mem_cons.mpr ⟨k_24_26 L xs, List.forall_mem_cons.mpr ⟨k_24_27 L xs, List.forall_mem_cons.mpr ⟨k_24_30 L xs, List.forall_mem_cons.mpr ⟨k_24_31 L xs, List.forall_mem_cons.mpr ⟨k_24_32 L xs, List.forall_mem_cons.mpr ⟨k_24_35 L xs, List.forall_mem_cons.mpr ⟨k_24_38 L xs, List.forall_mem_cons.mpr ⟨k_24_39 L xs, List.forall_mem_cons.mpr ⟨k_24_42 L xs, List.forall_mem_cons.mpr ⟨k_24_43 L xs, List.forall_mem_cons.mpr ⟨k_24_46 L xs, List.forall_mem_cons.mpr ⟨k_24_47 L xs, List.forall_mem_cons.mpr ⟨k_24_50 L xs, List.forall_mem_cons.mpr ⟨k_24_53 L xs, List.forall_mem_cons.mpr ⟨k_24_56 L xs, List.forall_mem_cons.mpr ⟨k_24_57 L xs, List.forall_mem_cons.mpr ⟨k_24_60 L xs, List.forall_mem_cons.mpr ⟨k_24_61 L xs, List.forall_mem_cons.mpr ⟨k_24_62 L xs, List.forall_mem_cons.mpr ⟨k_24_65 L xs, List.forall_mem_cons.mpr ⟨k_24_68 L xs, List.forall_mem_cons.mpr ⟨k_24_69 L xs, List.forall_mem_cons.mpr ⟨k_24_72 L xs, List.forall_mem_cons.mpr ⟨k_24_73 L xs, List.forall_mem_cons.mpr ⟨k_24_76 L xs, fun _ h => absurd h List.not_mem_nil⟩⟩⟩⟩⟩⟩⟩⟩⟩⟩⟩⟩⟩⟩⟩⟩⟩⟩⟩⟩⟩⟩⟩⟩⟩⟩⟩⟩⟩⟩⟩⟩⟩⟩⟩⟩⟩⟩⟩
/-- InclusionProver$Reader.readFactor.(I)I -/
def cd_25 : List (Nat × ll_O) := [
  (0, .inl (lo_aload 1 0)),
  (1, .inl (lo_iload 2 1)),
  (2, .inr (.inl (26, 2, 5))),
  (5, .inl (lo_istore 6 2)),
  (6, .inl (lo_push 7 (.int 0))),
  (7, .inl (lo_istore 8 3)),
  (8, .inl (lo_iload 9 3)),
  (9, .inl (lo_aload 10 0)),
  (10, .inl (lo_getf 13 2 2)),
  (13, .inl (lo_cmp 58 16 (fun x y => decide (y < x)))),
  (16, .inl (lo_aload 17 0)),
  (17, .inl (lo_getf 20 2 4)),
  (20, .inl (lo_push 21 (.int (-1)))),
  (21, .inl (lo_cmp 58 24 (fun x y => decide (¬ x = y)))),
  (24, .inl (lo_aload 25 0)),
  (25, .inr (.inl (27, 1, 28))),
  (28, .inl (lo_push 30 (.int 42))),
  (30, .inl (lo_cmp 58 33 (fun x y => decide (¬ x = y)))),
  (33, .inl (lo_aload 34 0)),
  (34, .inl (lo_dup 35)),
  (35, .inl (lo_getf 38 2 3)),
  (38, .inl (lo_push 39 (.int 1))),
  (39, .inl (lo_bin 40 (fun x y => x + y))),
  (40, .inl (lo_putf 43 2 3 0)),
  (43, .inl (lo_aload 44 0)),
  (44, .inl (lo_getf 47 2 0)),
  (47, .inl (lo_iload 48 2)),
  (48, .inr (.inl (92, 2, 51))),
  (51, .inl (lo_istore 52 2)),
  (52, .inl (lo_iinc 55 3 1)),
  (55, .inl (lo_goto 8)),
  (58, .inl (lo_iload 59 2)),
  (59, .inr (.inr 1))]
theorem k_25_0 (L : Nat) (xs : Nat → Int32) : ll_OK1 cX2_readFactor RX2 (some .int) false ll_mN ll_mR ll_mK ll_cnt L xs false 0 (.inl (lo_aload 1 0)) := lk_aload_n (k := 0) (by decide +kernel) rfl
theorem k_25_1 (L : Nat) (xs : Nat → Int32) : ll_OK1 cX2_readFactor RX2 (some .int) false ll_mN ll_mR ll_mK ll_cnt L xs false 1 (.inl (lo_iload 2 1)) := lk_iload_n (k := 1) (by decide +kernel) rfl
theorem k_25_2 (L : Nat) (xs : Nat → Int32) : ll_OK1 cX2_readFactor RX2 (some .int) false ll_mN ll_mR ll_mK ll_cnt L xs false 2 (.inr (.inl (26, 2, 5))) := ⟨rfl, by decide, by rw [mN_26, mK_26, mR_26]; exact lj_v 69 1 2 (RX2, TX2, 5) (by decide +kernel) tb_133 tb_134 tb_135 rfl rfl rfl rfl (by decide +kernel)⟩
theorem k_25_5 (L : Nat) (xs : Nat → Int32) : ll_OK1 cX2_readFactor RX2 (some .int) false ll_mN ll_mR ll_mK ll_cnt L xs false 5 (.inl (lo_istore 6 2)) := lk_istore_n (k := 2) (by decide +kernel) rfl
theorem k_25_6 (L : Nat) (xs : Nat → Int32) : ll_OK1 cX2_readFactor RX2 (some .int) false ll_mN ll_mR ll_mK ll_cnt L xs false 6 (.inl (lo_push 7 (.int 0))) := lk_iconst (n := 0) (by decide +kernel) (by decide)
theorem k_25_7 (L : Nat) (xs : Nat → Int32) : ll_OK1 cX2_readFactor RX2 (some .int) false ll_mN ll_mR ll_mK ll_cnt L xs false 7 (.inl (lo_istore 8 3)) := lk_istore_n (k := 3) (by decide +kernel) rfl
theorem k_25_8 (L : Nat) (xs : Nat → Int32) : ll_OK1 cX2_readFactor RX2 (some .int) false ll_mN ll_mR ll_mK ll_cnt L xs false 8 (.inl (lo_iload 9 3)) := lk_iload_n (k := 3) (by decide +kernel) rfl
theorem k_25_9 (L : Nat) (xs : Nat → Int32) : ll_OK1 cX2_readFactor RX2 (some .int) false ll_mN ll_mR ll_mK ll_cnt L xs false 9 (.inl (lo_aload 10 0)) := lk_aload_n (k := 0) (by decide +kernel) rfl
theorem k_25_10 (L : Nat) (xs : Nat → Int32) : ll_OK1 cX2_readFactor RX2 (some .int) false ll_mN ll_mR ll_mK ll_cnt L xs false 10 (.inl (lo_getf 13 2 2)) := lk_getf (ix := 23) (ci := 2) (k := 2) (C := RX2) (T := TX2) (N := 5) (by decide +kernel) rfl in_2 (by decide) tb_99
theorem k_25_13 (L : Nat) (xs : Nat → Int32) : ll_OK1 cX2_readFactor RX2 (some .int) false ll_mN ll_mR ll_mK ll_cnt L xs false 13 (.inl (lo_cmp 58 16 (fun x y => decide (y < x)))) := lk_icmp_gt (off := 45) (by decide +kernel) rfl
theorem k_25_16 (L : Nat) (xs : Nat → Int32) : ll_OK1 cX2_readFactor RX2 (some .int) false ll_mN ll_mR ll_mK ll_cnt L xs false 16 (.inl (lo_aload 17 0)) := lk_aload_n (k := 0) (by decide +kernel) rfl
theorem k_25_17 (L : Nat) (xs : Nat → Int32) : ll_OK1 cX2_readFactor RX2 (some .int) false ll_mN ll_mR ll_mK ll_cnt L xs false 17 (.inl (lo_getf 20 2 4)) := lk_getf (ix := 9) (ci := 2) (k := 4) (C := RX2) (T := TX2) (N := 5) (by decide +kernel) rfl in_2 (by decide) tb_96
theorem k_25_20 (L : Nat) (xs : Nat → Int32) : ll_OK1 cX2_readFactor RX2 (some .int) false ll_mN ll_mR ll_mK ll_cnt L xs false 20 (.inl (lo_push 21 (.int (-1)))) := lk_iconst (n := (-1)) (by decide +kernel) (by decide)
theorem k_25_21 (L : Nat) (xs : Nat → Int32) : ll_OK1 cX2_readFactor RX2 (some .int) false ll_mN ll_mR ll_mK ll_cnt L xs false 21 (.inl (lo_cmp 58 24 (fun x y => decide (¬ x = y)))) := lk_icmp_ne (off := 37) (by decide +kernel) rfl
theorem k_25_24 (L : Nat) (xs : Nat → Int32) : ll_OK1 cX2_readFactor RX2 (some .int) false ll_mN ll_mR ll_mK ll_cnt L xs false 24 (.inl (lo_aload 25 0)) := lk_aload_n (k := 0) (by decide +kernel) rfl
theorem k_25_25 (L : Nat) (xs : Nat → Int32) : ll_OK1 cX2_readFactor RX2 (some .int) false ll_mN ll_mR ll_mK ll_cnt L xs false 25 (.inr (.inl (27, 1, 28))) := ⟨rfl, by decide, by rw [mN_27, mK_27, mR_27]; exact lj_v 38 0 2 (RX2, TX2, 5) (by decide +kernel) tb_107 tb_108 tb_109 rfl rfl rfl rfl (by decide +kernel)⟩
theorem k_25_28 (L : Nat) (xs : Nat → Int32) : ll_OK1 cX2_readFactor RX2 (some .int) false ll_mN ll_mR ll_mK ll_cnt L xs false 28 (.inl (lo_push 30 (.int 42))) := lk_bipush (n := 42) (by decide +kernel) (by decide)
theorem k_25_30 (L : Nat) (xs : Nat → Int32) : ll_OK1 cX2_readFactor RX2 (some .int) false ll_mN ll_mR ll_mK ll_cnt L xs false 30 (.inl (lo_cmp 58 33 (fun x y => decide (¬ x = y)))) := lk_icmp_ne (off := 28) (by decide +kernel) rfl
theorem k_25_33 (L : Nat) (xs : Nat → Int32) : ll_OK1 cX2_readFactor RX2 (some .int) false ll_mN ll_mR ll_mK ll_cnt L xs false 33 (.inl (lo_aload 34 0)) := lk_aload_n (k := 0) (by decide +kernel) rfl
theorem k_25_34 (L : Nat) (xs : Nat → Int32) : ll_OK1 cX2_readFactor RX2 (some .int) false ll_mN ll_mR ll_mK ll_cnt L xs false 34 (.inl (lo_dup 35)) := lk_dup (by decide +kernel)
theorem k_25_35 (L : Nat) (xs : Nat → Int32) : ll_OK1 cX2_readFactor RX2 (some .int) false ll_mN ll_mR ll_mK ll_cnt L xs false 35 (.inl (lo_getf 38 2 3)) := lk_getf (ix := 26) (ci := 2) (k := 3) (C := RX2) (T := TX2) (N := 5) (by decide +kernel) rfl in_2 (by decide) tb_100
theorem k_25_38 (L : Nat) (xs : Nat → Int32) : ll_OK1 cX2_readFactor RX2 (some .int) false ll_mN ll_mR ll_mK ll_cnt L xs false 38 (.inl (lo_push 39 (.int 1))) := lk_iconst (n := 1) (by decide +kernel) (by decide)
theorem k_25_39 (L : Nat) (xs : Nat → Int32) : ll_OK1 cX2_readFactor RX2 (some .int) false ll_mN ll_mR ll_mK ll_cnt L xs false 39 (.inl (lo_bin 40 (fun x y => x + y))) := lk_iadd (by decide +kernel)
theorem k_25_40 (L : Nat) (xs : Nat → Int32) : ll_OK1 cX2_readFactor RX2 (some .int) false ll_mN ll_mR ll_mK ll_cnt L xs false 40 (.inl (lo_putf 43 2 3 0)) := lk_putf (ix := 26) (ci := 2) (k := 3) (C := RX2) (T := TX2) (N := 5) (ty0 := tyX2) (by decide +kernel) rfl in_2 tyX2_ok nmX2 (by decide) tb_100 (fun B adr v w h1 h2 => ll_fit_int (B := B) (adr := adr) h1 h2) (Or.inl rfl)
theorem k_25_43 (L : Nat) (xs : Nat → Int32) : ll_OK1 cX2_readFactor RX2 (some .int) false ll_mN ll_mR ll_mK ll_cnt L xs false 43 (.inl (lo_aload 44 0)) := lk_aload_n (k := 0) (by decide +kernel) rfl
theorem k_25_44 (L : Nat) (xs : Nat → Int32) : ll_OK1 cX2_readFactor RX2 (some .int) false ll_mN ll_mR ll_mK ll_cnt L xs false 44 (.inl (lo_getf 47 2 0)) := lk_getf (ix := 15) (ci := 2) (k := 0) (C := RX2) (T := TX2) (N := 5) (by decide +kernel) rfl in_2 (by decide) tb_97
theorem k_25_47 (L : Nat) (xs : Nat → Int32) : ll_OK1 cX2_readFactor RX2 (some .int) false ll_mN ll_mR ll_mK ll_cnt L xs false 47 (.inl (lo_iload 48 2)) := lk_iload_n (k := 2) (by decide +kernel) rfl
theorem k_25_48 (L : Nat) (xs : Nat → Int32) : ll_OK1 cX2_readFactor RX2 (some .int) false ll_mN ll_mR ll_mK ll_cnt L xs false 48 (.inr (.inl (92, 2, 51))) := ⟨rfl, by decide, by rw [mN_92, mK_92, mR_92]; exact lj_v 72 1 8 (RX8, TX8, 10) (by decide +kernel) tb_136 tb_137 tb_138 rfl rfl rfl rfl (by decide +kernel)⟩
theorem k_25_51 (L : Nat) (xs : Nat → Int32) : ll_OK1 cX2_readFactor RX2 (some .int) false ll_mN ll_mR ll_mK ll_cnt L xs false 51 (.inl (lo_istore 52 2)) := lk_istore_n (k := 2) (by decide +kernel) rfl
theorem k_25_52 (L : Nat) (xs : Nat → Int32) : ll_OK1 cX2_readFactor RX2 (some .int) false ll_mN ll_mR ll_mK ll_cnt L xs false 52 (.inl (lo_iinc 55 3 1)) := lk_iinc (n := 1) (by decide +kernel) (by decide)
theorem k_25_55 (L : Nat) (xs : Nat → Int32) : ll_OK1 cX2_readFactor RX2 (some .int) false ll_mN ll_mR ll_mK ll_cnt L xs false 55 (.inl (lo_goto 8)) := lk_goto (off := (-47)) (by decide +kernel) rfl
theorem k_25_58 (L : Nat) (xs : Nat → Int32) : ll_OK1 cX2_readFactor RX2 (some .int) false ll_mN ll_mR ll_mK ll_cnt L xs false 58 (.inl (lo_iload 59 2)) := lk_iload_n (k := 2) (by decide +kernel) rfl
theorem k_25_59 (L : Nat) (xs : Nat → Int32) : ll_OK1 cX2_readFactor RX2 (some .int) false ll_mN ll_mR ll_mK ll_cnt L xs false 59 (.inr (.inr 1)) := ⟨(fun h => by cases h), (fun _ => ⟨(by decide +kernel), rfl⟩), fun h => by cases h⟩
theorem ok_25 (L : Nat) (xs : Nat → Int32) : ∀ q ∈ cd_25, ll_OK1 cX2_readFactor RX2 (some .int) false ll_mN ll_mR ll_mK ll_cnt L xs false q.1 q.2 :=
  List.forall_mem_cons.mpr ⟨k_25_0 L xs, List.forall_mem_cons.mpr ⟨k_25_1 L xs, List.forall_mem_cons.mpr ⟨k_25_2 L xs, List.forall_mem_cons.mpr ⟨k_25_5 L xs, List.forall_mem_cons.mpr ⟨k_25_6 L xs, List.forall_mem_cons.mpr ⟨k_25_7 L xs, List.forall_mem_cons.mpr ⟨k_25_8 L xs, List.forall_mem_cons.mpr ⟨k_25_9 L xs, List.forall_mem_cons.mpr ⟨k_25_10 L xs, List.forall_mem_cons.mpr ⟨k_25_13 L xs, List.forall_mem_cons.mpr ⟨k_25_16 L xs, List.forall_mem_cons.mpr ⟨k_25_17 L xs, List.forall_mem_cons.mpr ⟨k_25_20 L xs, List.forall_mem_cons.mpr ⟨k_25_21 L xs, List.forall_mem_cons.mpr ⟨k_25_24 L xs, List.forall_mem_cons.mpr ⟨k_25_25 L xs, List.forall_mem_cons.mpr ⟨k_25_28 L xs, List.forall_mem_cons.mpr ⟨k_25_30 L xs, List.forall_mem_cons.mpr ⟨k_25_33 L xs, List.forall_mem_cons.mpr ⟨k_25_34 L xs, List.forall_mem_cons.mpr ⟨k_25_35 L xs, List.forall_mem_cons.mpr ⟨k_25_38 L xs, List.forall_mem_cons.mpr ⟨k_25_39 L xs, List.forall_mem_cons.mpr ⟨k_25_40 L xs, List.forall_mem_cons.mpr ⟨k_25_43 L xs, List.forall_mem_cons.mpr ⟨k_25_44 L xs, List.forall_mem_cons.mpr ⟨k_25_47 L xs, List.forall_mem_cons.mpr ⟨k_25_48 L xs, List.forall_mem_cons.mpr ⟨k_25_51 L xs, List.forall_mem_cons.mpr ⟨k_25_52 L xs, List.forall_mem_cons.mpr ⟨k_25_55 L xs, List.forall_mem_cons.mpr ⟨k_25_58 L xs, List.forall_mem_cons.mpr ⟨k_25_59 L xs, fun _ h => absurd h List.not_mem_nil⟩⟩⟩⟩⟩⟩⟩⟩⟩⟩⟩⟩⟩⟩⟩⟩⟩⟩⟩⟩⟩⟩⟩⟩⟩⟩⟩⟩⟩⟩⟩⟩⟩
/-- InclusionProver$Reader.readAtom.(I)I -/
def cd_26 : List (Nat × ll_O) := [
  (0, .inl (lo_aload 1 0)),
  (1, .inr (.inl (27, 1, 4))),
  (4, .inl (lo_istore 5 2)),
  (5, .inl (lo_iload 6 2)),
  (6, .inr (.inl (28, 1, 9))),
  (9, .inl (lo_if 18 12 (fun x => decide (x = 0)))),
  (12, .inl (lo_iload 13 1)),
  (13, .inl (lo_push 15 (.int 40))),
  (15, .inl (lo_cmp 28 18 (fun x y => decide (x ≤ y)))),
  (18, .inl (lo_aload 19 0)),
  (19, .inl (lo_aload 20 0)),
  (20, .inl (lo_getf 23 2 3)),
  (23, .inl (lo_putf 26 2 4 0)),
  (26, .inl (lo_push 27 (.int 0))),
  (27, .inr (.inr 1)),
  (28, .inl (lo_aload 29 0)),
  (29, .inl (lo_dup 30)),
  (30, .inl (lo_getf 33 2 3)),
  (33, .inl (lo_push 34 (.int 1))),
  (34, .inl (lo_bin 35 (fun x y => x + y))),
  (35, .inl (lo_putf 38 2 3 0)),
  (38, .inl (lo_iload 39 2)),
  (39, .inl (lo_push 41 (.int 40))),
  (41, .inl (lo_cmp 66 44 (fun x y => decide (x = y)))),
  (44, .inl (lo_iload 45 2)),
  (45, .inl (lo_push 47 (.int 97))),
  (47, .inl (lo_cmp 59 50 (fun x y => decide (y ≤ x)))),
  (50, .inl (lo_push 51 (.int 0))),
  (51, .inl (lo_iload 52 2)),
  (52, .inl (lo_bin 53 (fun x y => x + y))),
  (53, .inl (lo_push 55 (.int 48))),
  (55, .inl (lo_bin 56 (fun x y => x - y))),
  (56, .inl (lo_goto 65)),
  (59, .inl (lo_push 60 (.int 2))),
  (60, .inl (lo_iload 61 2)),
  (61, .inl (lo_bin 62 (fun x y => x + y))),
  (62, .inl (lo_push 64 (.int 97))),
  (64, .inl (lo_bin 65 (fun x y => x - y))),
  (65, .inr (.inr 1)),
  (66, .inl (lo_aload 67 0)),
  (67, .inl (lo_iload 68 1)),
  (68, .inl (lo_push 69 (.int 1))),
  (69, .inl (lo_bin 70 (fun x y => x + y))),
  (70, .inr (.inl (23, 2, 73))),
  (73, .inl (lo_istore 74 3)),
  (74, .inl (lo_aload 75 0)),
  (75, .inl (lo_getf 78 2 4)),
  (78, .inl (lo_push 79 (.int (-1)))),
  (79, .inl (lo_cmp 112 82 (fun x y => decide (¬ x = y)))),
  (82, .inl (lo_aload 83 0)),
  (83, .inr (.inl (27, 1, 86))),
  (86, .inl (lo_push 88 (.int 41))),
  (88, .inl (lo_cmp 104 91 (fun x y => decide (¬ x = y)))),
  (91, .inl (lo_aload 92 0)),
  (92, .inl (lo_dup 93)),
  (93, .inl (lo_getf 96 2 3)),
  (96, .inl (lo_push 97 (.int 1))),
  (97, .inl (lo_bin 98 (fun x y => x + y))),
  (98, .inl (lo_putf 101 2 3 0)),
  (101, .inl (lo_goto 112)),
  (104, .inl (lo_aload 105 0)),
  (105, .inl (lo_aload 106 0)),
  (106, .inl (lo_getf 109 2 3)),
  (109, .inl (lo_putf 112 2 4 0)),
  (112, .inl (lo_iload 113 3)),
  (113, .inr (.inr 1))]
theorem k_26_0 (L : Nat) (xs : Nat → Int32) : ll_OK1 cX2_readAtom RX2 (some .int) false ll_mN ll_mR ll_mK ll_cnt L xs false 0 (.inl (lo_aload 1 0)) := lk_aload_n (k := 0) (by decide +kernel) rfl
theorem k_26_1 (L : Nat) (xs : Nat → Int32) : ll_OK1 cX2_readAtom RX2 (some .int) false ll_mN ll_mR ll_mK ll_cnt L xs false 1 (.inr (.inl (27, 1, 4))) := ⟨rfl, by decide, by rw [mN_27, mK_27, mR_27]; exact lj_v 38 0 2 (RX2, TX2, 5) (by decide +kernel) tb_107 tb_108 tb_109 rfl rfl rfl rfl (by decide +kernel)⟩
theorem k_26_4 (L : Nat) (xs : Nat → Int32) : ll_OK1 cX2_readAtom RX2 (some .int) false ll_mN ll_mR ll_mK ll_cnt L xs false 4 (.inl (lo_istore 5 2)) := lk_istore_n (k := 2) (by decide +kernel) rfl
theorem k_26_5 (L : Nat) (xs : Nat → Int32) : ll_OK1 cX2_readAtom RX2 (some .int) false ll_mN ll_mR ll_mK ll_cnt L xs false 5 (.inl (lo_iload 6 2)) := lk_iload_n (k := 2) (by decide +kernel) rfl
theorem k_26_6 (L : Nat) (xs : Nat → Int32) : ll_OK1 cX2_readAtom RX2 (some .int) false ll_mN ll_mR ll_mK ll_cnt L xs false 6 (.inr (.inl (28, 1, 9))) := ⟨rfl, by decide, by rw [mN_28, mK_28, mR_28]; exact lj_s 62 (by decide +kernel) tb_128 tb_129 (by decide +kernel)⟩
theorem k_26_9 (L : Nat) (xs : Nat → Int32) : ll_OK1 cX2_readAtom RX2 (some .int) false ll_mN ll_mR ll_mK ll_cnt L xs false 9 (.inl (lo_if 18 12 (fun x => decide (x = 0)))) := lk_if_eq (off := 9) (by decide +kernel) rfl
theorem k_26_12 (L : Nat) (xs : Nat → Int32) : ll_OK1 cX2_readAtom RX2 (some .int) false ll_mN ll_mR ll_mK ll_cnt L xs false 12 (.inl (lo_iload 13 1)) := lk_iload_n (k := 1) (by decide +kernel) rfl
theorem k_26_13 (L : Nat) (xs : Nat → Int32) : ll_OK1 cX2_readAtom RX2 (some .int) false ll_mN ll_mR ll_mK ll_cnt L xs false 13 (.inl (lo_push 15 (.int 40))) := lk_bipush (n := 40) (by decide +kernel) (by decide)
theorem k_26_15 (L : Nat) (xs : Nat → Int32) : ll_OK1 cX2_readAtom RX2 (some .int) false ll_mN ll_mR ll_mK ll_cnt L xs false 15 (.inl (lo_cmp 28 18 (fun x y => decide (x ≤ y)))) := lk_icmp_le (off := 13) (by decide +kernel) rfl
theorem k_26_18 (L : Nat) (xs : Nat → Int32) : ll_OK1 cX2_readAtom RX2 (some .int) false ll_mN ll_mR ll_mK ll_cnt L xs false 18 (.inl (lo_aload 19 0)) := lk_aload_n (k := 0) (by decide +kernel) rfl
theorem k_26_19 (L : Nat) (xs : Nat → Int32) : ll_OK1 cX2_readAtom RX2 (some .int) false ll_mN ll_mR ll_mK ll_cnt L xs false 19 (.inl (lo_aload 20 0)) := lk_aload_n (k := 0) (by decide +kernel) rfl
theorem k_26_20 (L : Nat) (xs : Nat → Int32) : ll_OK1 cX2_readAtom RX2 (some .int) false ll_mN ll_mR ll_mK ll_cnt L xs false 20 (.inl (lo_getf 23 2 3)) := lk_getf (ix := 26) (ci := 2) (k := 3) (C := RX2) (T := TX2) (N := 5) (by decide +kernel) rfl in_2 (by decide) tb_100
theorem k_26_23 (L : Nat) (xs : Nat → Int32) : ll_OK1 cX2_readAtom RX2 (some .int) false ll_mN ll_mR ll_mK ll_cnt L xs false 23 (.inl (lo_putf 26 2 4 0)) := lk_putf (ix := 9) (ci := 2) (k := 4) (C := RX2) (T := TX2) (N := 5) (ty0 := tyX2) (by decide +kernel) rfl in_2 tyX2_ok nmX2 (by decide) tb_96 (fun B adr v w h1 h2 => ll_fit_int (B := B) (adr := adr) h1 h2) (Or.inl rfl)
theorem k_26_26 (L : Nat) (xs : Nat → Int32) : ll_OK1 cX2_readAtom RX2 (some .int) false ll_mN ll_mR ll_mK ll_cnt L xs false 26 (.inl (lo_push 27 (.int 0))) := lk_iconst (n := 0) (by decide +kernel) (by decide)
theorem k_26_27 (L : Nat) (xs : Nat → Int32) : ll_OK1 cX2_readAtom RX2 (some .int) false ll_mN ll_mR ll_mK ll_cnt L xs false 27 (.inr (.inr 1)) := ⟨(fun h => by cases h), (fun _ => ⟨(by decide +kernel), rfl⟩), fun h => by cases h⟩
theorem k_26_28 (L : Nat) (xs : Nat → Int32) : ll_OK1 cX2_readAtom RX2 (some .int) false ll_mN ll_mR ll_mK ll_cnt L xs false 28 (.inl (lo_aload 29 0)) := lk_aload_n (k := 0) (by decide +kernel) rfl
theorem k_26_29 (L : Nat) (xs : Nat → Int32) : ll_OK1 cX2_readAtom RX2 (some .int) false ll_mN ll_mR ll_mK ll_cnt L xs false 29 (.inl (lo_dup 30)) := lk_dup (by decide +kernel)
theorem k_26_30 (L : Nat) (xs : Nat → Int32) : ll_OK1 cX2_readAtom RX2 (some .int) false ll_mN ll_mR ll_mK ll_cnt L xs false 30 (.inl (lo_getf 33 2 3)) := lk_getf (ix := 26) (ci := 2) (k := 3) (C := RX2) (T := TX2) (N := 5) (by decide +kernel) rfl in_2 (by decide) tb_100
theorem k_26_33 (L : Nat) (xs : Nat → Int32) : ll_OK1 cX2_readAtom RX2 (some .int) false ll_mN ll_mR ll_mK ll_cnt L xs false 33 (.inl (lo_push 34 (.int 1))) := lk_iconst (n := 1) (by decide +kernel) (by decide)
theorem k_26_34 (L : Nat) (xs : Nat → Int32) : ll_OK1 cX2_readAtom RX2 (some .int) false ll_mN ll_mR ll_mK ll_cnt L xs false 34 (.inl (lo_bin 35 (fun x y => x + y))) := lk_iadd (by decide +kernel)
theorem k_26_35 (L : Nat) (xs : Nat → Int32) : ll_OK1 cX2_readAtom RX2 (some .int) false ll_mN ll_mR ll_mK ll_cnt L xs false 35 (.inl (lo_putf 38 2 3 0)) := lk_putf (ix := 26) (ci := 2) (k := 3) (C := RX2) (T := TX2) (N := 5) (ty0 := tyX2) (by decide +kernel) rfl in_2 tyX2_ok nmX2 (by decide) tb_100 (fun B adr v w h1 h2 => ll_fit_int (B := B) (adr := adr) h1 h2) (Or.inl rfl)
theorem k_26_38 (L : Nat) (xs : Nat → Int32) : ll_OK1 cX2_readAtom RX2 (some .int) false ll_mN ll_mR ll_mK ll_cnt L xs false 38 (.inl (lo_iload 39 2)) := lk_iload_n (k := 2) (by decide +kernel) rfl
theorem k_26_39 (L : Nat) (xs : Nat → Int32) : ll_OK1 cX2_readAtom RX2 (some .int) false ll_mN ll_mR ll_mK ll_cnt L xs false 39 (.inl (lo_push 41 (.int 40))) := lk_bipush (n := 40) (by decide +kernel) (by decide)
theorem k_26_41 (L : Nat) (xs : Nat → Int32) : ll_OK1 cX2_readAtom RX2 (some .int) false ll_mN ll_mR ll_mK ll_cnt L xs false 41 (.inl (lo_cmp 66 44 (fun x y => decide (x = y)))) := lk_icmp_eq (off := 25) (by decide +kernel) rfl
theorem k_26_44 (L : Nat) (xs : Nat → Int32) : ll_OK1 cX2_readAtom RX2 (some .int) false ll_mN ll_mR ll_mK ll_cnt L xs false 44 (.inl (lo_iload 45 2)) := lk_iload_n (k := 2) (by decide +kernel) rfl
theorem k_26_45 (L : Nat) (xs : Nat → Int32) : ll_OK1 cX2_readAtom RX2 (some .int) false ll_mN ll_mR ll_mK ll_cnt L xs false 45 (.inl (lo_push 47 (.int 97))) := lk_bipush (n := 97) (by decide +kernel) (by decide)
theorem k_26_47 (L : Nat) (xs : Nat → Int32) : ll_OK1 cX2_readAtom RX2 (some .int) false ll_mN ll_mR ll_mK ll_cnt L xs false 47 (.inl (lo_cmp 59 50 (fun x y => decide (y ≤ x)))) := lk_icmp_ge (off := 12) (by decide +kernel) rfl
theorem k_26_50 (L : Nat) (xs : Nat → Int32) : ll_OK1 cX2_readAtom RX2 (some .int) false ll_mN ll_mR ll_mK ll_cnt L xs false 50 (.inl (lo_push 51 (.int 0))) := lk_iconst (n := 0) (by decide +kernel) (by decide)
theorem k_26_51 (L : Nat) (xs : Nat → Int32) : ll_OK1 cX2_readAtom RX2 (some .int) false ll_mN ll_mR ll_mK ll_cnt L xs false 51 (.inl (lo_iload 52 2)) := lk_iload_n (k := 2) (by decide +kernel) rfl
theorem k_26_52 (L : Nat) (xs : Nat → Int32) : ll_OK1 cX2_readAtom RX2 (some .int) false ll_mN ll_mR ll_mK ll_cnt L xs false 52 (.inl (lo_bin 53 (fun x y => x + y))) := lk_iadd (by decide +kernel)
theorem k_26_53 (L : Nat) (xs : Nat → Int32) : ll_OK1 cX2_readAtom RX2 (some .int) false ll_mN ll_mR ll_mK ll_cnt L xs false 53 (.inl (lo_push 55 (.int 48))) := lk_bipush (n := 48) (by decide +kernel) (by decide)
theorem k_26_55 (L : Nat) (xs : Nat → Int32) : ll_OK1 cX2_readAtom RX2 (some .int) false ll_mN ll_mR ll_mK ll_cnt L xs false 55 (.inl (lo_bin 56 (fun x y => x - y))) := lk_isub (by decide +kernel)
theorem k_26_56 (L : Nat) (xs : Nat → Int32) : ll_OK1 cX2_readAtom RX2 (some .int) false ll_mN ll_mR ll_mK ll_cnt L xs false 56 (.inl (lo_goto 65)) := lk_goto (off := 9) (by decide +kernel) rfl
theorem k_26_59 (L : Nat) (xs : Nat → Int32) : ll_OK1 cX2_readAtom RX2 (some .int) false ll_mN ll_mR ll_mK ll_cnt L xs false 59 (.inl (lo_push 60 (.int 2))) := lk_iconst (n := 2) (by decide +kernel) (by decide)
theorem k_26_60 (L : Nat) (xs : Nat → Int32) : ll_OK1 cX2_readAtom RX2 (some .int) false ll_mN ll_mR ll_mK ll_cnt L xs false 60 (.inl (lo_iload 61 2)) := lk_iload_n (k := 2) (by decide +kernel) rfl
theorem k_26_61 (L : Nat) (xs : Nat → Int32) : ll_OK1 cX2_readAtom RX2 (some .int) false ll_mN ll_mR ll_mK ll_cnt L xs false 61 (.inl (lo_bin 62 (fun x y => x + y))) := lk_iadd (by decide +kernel)
theorem k_26_62 (L : Nat) (xs : Nat → Int32) : ll_OK1 cX2_readAtom RX2 (some .int) false ll_mN ll_mR ll_mK ll_cnt L xs false 62 (.inl (lo_push 64 (.int 97))) := lk_bipush (n := 97) (by decide +kernel) (by decide)
theorem k_26_64 (L : Nat) (xs : Nat → Int32) : ll_OK1 cX2_readAtom RX2 (some .int) false ll_mN ll_mR ll_mK ll_cnt L xs false 64 (.inl (lo_bin 65 (fun x y => x - y))) := lk_isub (by decide +kernel)
theorem k_26_65 (L : Nat) (xs : Nat → Int32) : ll_OK1 cX2_readAtom RX2 (some .int) false ll_mN ll_mR ll_mK ll_cnt L xs false 65 (.inr (.inr 1)) := ⟨(fun h => by cases h), (fun _ => ⟨(by decide +kernel), rfl⟩), fun h => by cases h⟩
theorem k_26_66 (L : Nat) (xs : Nat → Int32) : ll_OK1 cX2_readAtom RX2 (some .int) false ll_mN ll_mR ll_mK ll_cnt L xs false 66 (.inl (lo_aload 67 0)) := lk_aload_n (k := 0) (by decide +kernel) rfl
theorem k_26_67 (L : Nat) (xs : Nat → Int32) : ll_OK1 cX2_readAtom RX2 (some .int) false ll_mN ll_mR ll_mK ll_cnt L xs false 67 (.inl (lo_iload 68 1)) := lk_iload_n (k := 1) (by decide +kernel) rfl
theorem k_26_68 (L : Nat) (xs : Nat → Int32) : ll_OK1 cX2_readAtom RX2 (some .int) false ll_mN ll_mR ll_mK ll_cnt L xs false 68 (.inl (lo_push 69 (.int 1))) := lk_iconst (n := 1) (by decide +kernel) (by decide)
theorem k_26_69 (L : Nat) (xs : Nat → Int32) : ll_OK1 cX2_readAtom RX2 (some .int) false ll_mN ll_mR ll_mK ll_cnt L xs false 69 (.inl (lo_bin 70 (fun x y => x + y))) := lk_iadd (by decide +kernel)
theorem k_26_70 (L : Nat) (xs : Nat → Int32) : ll_OK1 cX2_readAtom RX2 (some .int) false ll_mN ll_mR ll_mK ll_cnt L xs false 70 (.inr (.inl (23, 2, 73))) := ⟨rfl, by decide, by rw [mN_23, mK_23, mR_23]; exact lj_v 34 1 2 (RX2, TX2, 5) (by decide +kernel) tb_104 tb_105 tb_106 rfl rfl rfl rfl (by decide +kernel)⟩
theorem k_26_73 (L : Nat) (xs : Nat → Int32) : ll_OK1 cX2_readAtom RX2 (some .int) false ll_mN ll_mR ll_mK ll_cnt L xs false 73 (.inl (lo_istore 74 3)) := lk_istore_n (k := 3) (by decide +kernel) rfl
theorem k_26_74 (L : Nat) (xs : Nat → Int32) : ll_OK1 cX2_readAtom RX2 (some .int) false ll_mN ll_mR ll_mK ll_cnt L xs false 74 (.inl (lo_aload 75 0)) := lk_aload_n (k := 0) (by decide +kernel) rfl
theorem k_26_75 (L : Nat) (xs : Nat → Int32) : ll_OK1 cX2_readAtom RX2 (some .int) false ll_mN ll_mR ll_mK ll_cnt L xs false 75 (.inl (lo_getf 78 2 4)) := lk_getf (ix := 9) (ci := 2) (k := 4) (C := RX2) (T := TX2) (N := 5) (by decide +kernel) rfl in_2 (by decide) tb_96
theorem k_26_78 (L : Nat) (xs : Nat → Int32) : ll_OK1 cX2_readAtom RX2 (some .int) false ll_mN ll_mR ll_mK ll_cnt L xs false 78 (.inl (lo_push 79 (.int (-1)))) := lk_iconst (n := (-1)) (by decide +kernel) (by decide)
theorem k_26_79 (L : Nat) (xs : Nat → Int32) : ll_OK1 cX2_readAtom RX2 (some .int) false ll_mN ll_mR ll_mK ll_cnt L xs false 79 (.inl (lo_cmp 112 82 (fun x y => decide (¬ x = y)))) := lk_icmp_ne (off := 33) (by decide +kernel) rfl
theorem k_26_82 (L : Nat) (xs : Nat → Int32) : ll_OK1 cX2_readAtom RX2 (some .int) false ll_mN ll_mR ll_mK ll_cnt L xs false 82 (.inl (lo_aload 83 0)) := lk_aload_n (k := 0) (by decide +kernel) rfl
theorem k_26_83 (L : Nat) (xs : Nat → Int32) : ll_OK1 cX2_readAtom RX2 (some .int) false ll_mN ll_mR ll_mK ll_cnt L xs false 83 (.inr (.inl (27, 1, 86))) := ⟨rfl, by decide, by rw [mN_27, mK_27, mR_27]; exact lj_v 38 0 2 (RX2, TX2, 5) (by decide +kernel) tb_107 tb_108 tb_109 rfl rfl rfl rfl (by decide +kernel)⟩
theorem k_26_86 (L : Nat) (xs : Nat → Int32) : ll_OK1 cX2_readAtom RX2 (some .int) false ll_mN ll_mR ll_mK ll_cnt L xs false 86 (.inl (lo_push 88 (.int 41))) := lk_bipush (n := 41) (by decide +kernel) (by decide)
theorem k_26_88 (L : Nat) (xs : Nat → Int32) : ll_OK1 cX2_readAtom RX2 (some .int) false ll_mN ll_mR ll_mK ll_cnt L xs false 88 (.inl (lo_cmp 104 91 (fun x y => decide (¬ x = y)))) := lk_icmp_ne (off := 16) (by decide +kernel) rfl
theorem k_26_91 (L : Nat) (xs : Nat → Int32) : ll_OK1 cX2_readAtom RX2 (some .int) false ll_mN ll_mR ll_mK ll_cnt L xs false 91 (.inl (lo_aload 92 0)) := lk_aload_n (k := 0) (by decide +kernel) rfl
theorem k_26_92 (L : Nat) (xs : Nat → Int32) : ll_OK1 cX2_readAtom RX2 (some .int) false ll_mN ll_mR ll_mK ll_cnt L xs false 92 (.inl (lo_dup 93)) := lk_dup (by decide +kernel)
theorem k_26_93 (L : Nat) (xs : Nat → Int32) : ll_OK1 cX2_readAtom RX2 (some .int) false ll_mN ll_mR ll_mK ll_cnt L xs false 93 (.inl (lo_getf 96 2 3)) := lk_getf (ix := 26) (ci := 2) (k := 3) (C := RX2) (T := TX2) (N := 5) (by decide +kernel) rfl in_2 (by decide) tb_100
theorem k_26_96 (L : Nat) (xs : Nat → Int32) : ll_OK1 cX2_readAtom RX2 (some .int) false ll_mN ll_mR ll_mK ll_cnt L xs false 96 (.inl (lo_push 97 (.int 1))) := lk_iconst (n := 1) (by decide +kernel) (by decide)
theorem k_26_97 (L : Nat) (xs : Nat → Int32) : ll_OK1 cX2_readAtom RX2 (some .int) false ll_mN ll_mR ll_mK ll_cnt L xs false 97 (.inl (lo_bin 98 (fun x y => x + y))) := lk_iadd (by decide +kernel)
theorem k_26_98 (L : Nat) (xs : Nat → Int32) : ll_OK1 cX2_readAtom RX2 (some .int) false ll_mN ll_mR ll_mK ll_cnt L xs false 98 (.inl (lo_putf 101 2 3 0)) := lk_putf (ix := 26) (ci := 2) (k := 3) (C := RX2) (T := TX2) (N := 5) (ty0 := tyX2) (by decide +kernel) rfl in_2 tyX2_ok nmX2 (by decide) tb_100 (fun B adr v w h1 h2 => ll_fit_int (B := B) (adr := adr) h1 h2) (Or.inl rfl)
theorem k_26_101 (L : Nat) (xs : Nat → Int32) : ll_OK1 cX2_readAtom RX2 (some .int) false ll_mN ll_mR ll_mK ll_cnt L xs false 101 (.inl (lo_goto 112)) := lk_goto (off := 11) (by decide +kernel) rfl
theorem k_26_104 (L : Nat) (xs : Nat → Int32) : ll_OK1 cX2_readAtom RX2 (some .int) false ll_mN ll_mR ll_mK ll_cnt L xs false 104 (.inl (lo_aload 105 0)) := lk_aload_n (k := 0) (by decide +kernel) rfl
theorem k_26_105 (L : Nat) (xs : Nat → Int32) : ll_OK1 cX2_readAtom RX2 (some .int) false ll_mN ll_mR ll_mK ll_cnt L xs false 105 (.inl (lo_aload 106 0)) := lk_aload_n (k := 0) (by decide +kernel) rfl
theorem k_26_106 (L : Nat) (xs : Nat → Int32) : ll_OK1 cX2_readAtom RX2 (some .int) false ll_mN ll_mR ll_mK ll_cnt L xs false 106 (.inl (lo_getf 109 2 3)) := lk_getf (ix := 26) (ci := 2) (k := 3) (C := RX2) (T := TX2) (N := 5) (by decide +kernel) rfl in_2 (by decide) tb_100
theorem k_26_109 (L : Nat) (xs : Nat → Int32) : ll_OK1 cX2_readAtom RX2 (some .int) false ll_mN ll_mR ll_mK ll_cnt L xs false 109 (.inl (lo_putf 112 2 4 0)) := lk_putf (ix := 9) (ci := 2) (k := 4) (C := RX2) (T := TX2) (N := 5) (ty0 := tyX2) (by decide +kernel) rfl in_2 tyX2_ok nmX2 (by decide) tb_96 (fun B adr v w h1 h2 => ll_fit_int (B := B) (adr := adr) h1 h2) (Or.inl rfl)
theorem k_26_112 (L : Nat) (xs : Nat → Int32) : ll_OK1 cX2_readAtom RX2 (some .int) false ll_mN ll_mR ll_mK ll_cnt L xs false 112 (.inl (lo_iload 113 3)) := lk_iload_n (k := 3) (by decide +kernel) rfl
theorem k_26_113 (L : Nat) (xs : Nat → Int32) : ll_OK1 cX2_readAtom RX2 (some .int) false ll_mN ll_mR ll_mK ll_cnt L xs false 113 (.inr (.inr 1)) := ⟨(fun h => by cases h), (fun _ => ⟨(by decide +kernel), rfl⟩), fun h => by cases h⟩
theorem ok_26 (L : Nat) (xs : Nat → Int32) : ∀ q ∈ cd_26, ll_OK1 cX2_readAtom RX2 (some .int) false ll_mN ll_mR ll_mK ll_cnt L xs false q.1 q.2 :=
  List.forall_mem_cons.mpr ⟨k_26_0 L xs, List.forall_mem_cons.mpr ⟨k_26_1 L xs, List.forall_mem_cons.mpr ⟨k_26_4 L xs, List.forall_mem_cons.mpr ⟨k_26_5 L xs, List.forall_mem_cons.mpr ⟨k_26_6 L xs, List.forall_mem_cons.mpr ⟨k_26_9 L xs, List.forall_mem_cons.mpr ⟨k_26_12 L xs, List.forall_mem_cons.mpr ⟨k_26_13 L xs, List.forall_mem_cons.mpr ⟨k_26_15 L xs, List.forall_mem_cons.mpr ⟨k_26_18 L xs, List.forall_mem_cons.mpr ⟨k_26_19 L xs, List.forall_mem_cons.mpr ⟨k_26_20 L xs, List.forall_mem_cons.mpr ⟨k_26_23 L xs, List.forall_mem_cons.mpr ⟨k_26_26 L xs, List.forall_mem_cons.mpr ⟨k_26_27 L xs, List.forall_mem_cons.mpr ⟨k_26_28 L xs, List.forall_mem_cons.mpr ⟨k_26_29 L xs, List.forall_mem_cons.mpr ⟨k_26_30 L xs, List.forall_mem_cons.mpr ⟨k_26_33 L xs, List.forall_mem_cons.mpr ⟨k_26_34 L xs, List.forall_mem_cons.mpr ⟨k_26_35 L xs, List.forall_mem_cons.mpr ⟨k_26_38 L xs, List.forall_mem_cons.mpr ⟨k_26_39 L xs, List.forall_mem_cons.mpr ⟨k_26_41 L xs, List.forall_mem_cons.mpr ⟨k_26_44 L xs, List.forall_mem_cons.mpr ⟨k_26_45 L xs, List.forall_mem_cons.mpr ⟨k_26_47 L xs, List.forall_mem_cons.mpr ⟨k_26_50 L xs, List.forall_mem_cons.mpr ⟨k_26_51 L xs, List.forall_mem_cons.mpr ⟨k_26_52 L xs, List.forall_mem_cons.mpr ⟨k_26_53 L xs, List.forall_mem_cons.mpr ⟨k_26_55 L xs, List.forall_mem_cons.mpr ⟨k_26_56 L xs, List.forall_mem_cons.mpr ⟨k_26_59 L xs, List.forall_mem_cons.mpr ⟨k_26_60 L xs, List.forall_mem_cons.mpr ⟨k_26_61 L xs, List.forall_mem_cons.mpr ⟨k_26_62 L xs, List.forall_mem_cons.mpr ⟨k_26_64 L xs, List.forall_mem_cons.mpr ⟨k_26_65 L xs, List.forall_mem_cons.mpr ⟨k_26_66 L xs, List.forall_mem_cons.mpr ⟨k_26_67 L xs, List.forall_mem_cons.mpr ⟨k_26_68 L xs, List.forall_mem_cons.mpr ⟨k_26_69 L xs, List.forall_mem_cons.mpr ⟨k_26_70 L xs, List.forall_mem_cons.mpr ⟨k_26_73 L xs, List.forall_mem_cons.mpr ⟨k_26_74 L xs, List.forall_mem_cons.mpr ⟨k_26_75 L xs, List.forall_mem_cons.mpr ⟨k_26_78 L xs, List.forall_mem_cons.mpr ⟨k_26_79 L xs, List.forall_mem_cons.mpr ⟨k_26_82 L xs, List.forall_mem_cons.mpr ⟨k_26_83 L xs, List.forall_mem_cons.mpr ⟨k_26_86 L xs, List.forall_mem_cons.mpr ⟨k_26_88 L xs, List.forall_mem_cons.mpr ⟨k_26_91 L xs, List.forall_mem_cons.mpr ⟨k_26_92 L xs, List.forall_mem_cons.mpr ⟨k_26_93 L xs, List.forall_mem_cons.mpr ⟨k_26_96 L xs, List.forall_mem_cons.mpr ⟨k_26_97 L xs, List.forall_mem_cons.mpr ⟨k_26_98 L xs, List.forall_mem_cons.mpr ⟨k_26_101 L xs, List.forall_mem_cons.mpr ⟨k_26_104 L xs, List.forall_mem_cons.mpr ⟨k_26_105 L xs, List.forall_mem_cons.mpr ⟨k_26_106 L xs, List.forall_mem_cons.mpr ⟨k_26_109 L xs, List.forall_mem_cons.mpr ⟨k_26_112 L xs, List.forall_mem_cons.mpr ⟨k_26_113 L xs, fun _ h => absurd h List.not_mem_nil⟩⟩⟩⟩⟩⟩⟩⟩⟩⟩⟩⟩⟩⟩⟩⟩⟩⟩⟩⟩⟩⟩⟩⟩⟩⟩⟩⟩⟩⟩⟩⟩⟩⟩⟩⟩⟩⟩⟩⟩⟩⟩⟩⟩⟩⟩⟩⟩⟩⟩⟩⟩⟩⟩⟩⟩⟩⟩⟩⟩⟩⟩⟩⟩⟩⟩
/-- InclusionProver$Reader.next.()I -/
def cd_27 : List (Nat × ll_O) := [
  (0, .inl (lo_aload 1 0)),
  (1, .inl (lo_getf 4 2 3)),
  (4, .inl (lo_aload 5 0)),
  (5, .inl (lo_getf 8 2 2)),
  (8, .inl (lo_cmp 40 11 (fun x y => decide (y ≤ x)))),
  (11, .inl (lo_aload 12 0)),
  (12, .inl (lo_getf 15 2 1)),
  (15, .inl (lo_aload 16 0)),
  (16, .inl (lo_getf 19 2 3)),
  (19, .inr (.inl (77, 2, 22))),
  (22, .inl (lo_push 24 (.int 32))),
  (24, .inl (lo_cmp 40 27 (fun x y => decide (¬ x = y)))),
  (27, .inl (lo_aload 28 0)),
  (28, .inl (lo_dup 29)),
  (29, .inl (lo_getf 32 2 3)),
  (32, .inl (lo_push 33 (.int 1))),
  (33, .inl (lo_bin 34 (fun x y => x + y))),
  (34, .inl (lo_putf 37 2 3 0)),
  (37, .inl (lo_goto 0)),
  (40, .inl (lo_aload 41 0)),
  (41, .inl (lo_getf 44 2 3)),
  (44, .inl (lo_aload 45 0)),
  (45, .inl (lo_getf 48 2 2)),
  (48, .inl (lo_cmp 65 51 (fun x y => decide (y ≤ x)))),
  (51, .inl (lo_aload 52 0)),
  (52, .inl (lo_getf 55 2 1)),
  (55, .inl (lo_aload 56 0)),
  (56, .inl (lo_getf 59 2 3)),
  (59, .inr (.inl (77, 2, 62))),
  (62, .inl (lo_goto 66)),
  (65, .inl (lo_push 66 (.int (-1)))),
  (66, .inr (.inr 1))]
theorem k_27_0 (L : Nat) (xs : Nat → Int32) : ll_OK1 cX2_next RX2 (some .int) false ll_mN ll_mR ll_mK ll_cnt L xs false 0 (.inl (lo_aload 1 0)) := lk_aload_n (k := 0) (by decide +kernel) rfl
theorem k_27_1 (L : Nat) (xs : Nat → Int32) : ll_OK1 cX2_next RX2 (some .int) false ll_mN ll_mR ll_mK ll_cnt L xs false 1 (.inl (lo_getf 4 2 3)) := lk_getf (ix := 26) (ci := 2) (k := 3) (C := RX2) (T := TX2) (N := 5) (by decide +kernel) rfl in_2 (by decide) tb_100
theorem k_27_4 (L : Nat) (xs : Nat → Int32) : ll_OK1 cX2_next RX2 (some .int) false ll_mN ll_mR ll_mK ll_cnt L xs false 4 (.inl (lo_aload 5 0)) := lk_aload_n (k := 0) (by decide +kernel) rfl
theorem k_27_5 (L : Nat) (xs : Nat → Int32) : ll_OK1 cX2_next RX2 (some .int) false ll_mN ll_mR ll_mK ll_cnt L xs false 5 (.inl (lo_getf 8 2 2)) := lk_getf (ix := 23) (ci := 2) (k := 2) (C := RX2) (T := TX2) (N := 5) (by decide +kernel) rfl in_2 (by decide) tb_99
theorem k_27_8 (L : Nat) (xs : Nat → Int32) : ll_OK1 cX2_next RX2 (some .int) false ll_mN ll_mR ll_mK ll_cnt L xs false 8 (.inl (lo_cmp 40 11 (fun x y => decide (y ≤ x)))) := lk_icmp_ge (off := 32) (by decide +kernel) rfl
theorem k_27_11 (L : Nat) (xs : Nat → Int32) : ll_OK1 cX2_next RX2 (some .int) false ll_mN ll_mR ll_mK ll_cnt L xs false 11 (.inl (lo_aload 12 0)) := lk_aload_n (k := 0) (by decide +kernel) rfl
theorem k_27_12 (L : Nat) (xs : Nat → Int32) : ll_OK1 cX2_next RX2 (some .int) false ll_mN ll_mR ll_mK ll_cnt L xs false 12 (.inl (lo_getf 15 2 1)) := lk_getf (ix := 19) (ci := 2) (k := 1) (C := RX2) (T := TX2) (N := 5) (by decide +kernel) rfl in_2 (by decide) tb_98
theorem k_27_15 (L : Nat) (xs : Nat → Int32) : ll_OK1 cX2_next RX2 (some .int) false ll_mN ll_mR ll_mK ll_cnt L xs false 15 (.inl (lo_aload 16 0)) := lk_aload_n (k := 0) (by decide +kernel) rfl
theorem k_27_16 (L : Nat) (xs : Nat → Int32) : ll_OK1 cX2_next RX2 (some .int) false ll_mN ll_mR ll_mK ll_cnt L xs false 16 (.inl (lo_getf 19 2 3)) := lk_getf (ix := 26) (ci := 2) (k := 3) (C := RX2) (T := TX2) (N := 5) (by decide +kernel) rfl in_2 (by decide) tb_100
theorem k_27_19 (L : Nat) (xs : Nat → Int32) : ll_OK1 cX2_next RX2 (some .int) false ll_mN ll_mR ll_mK ll_cnt L xs false 19 (.inr (.inl (77, 2, 22))) := ⟨rfl, by decide, by rw [mN_77, mK_77, mR_77]; exact lj_v 75 1 7 (RX7, TX7, 2) (by decide +kernel) tb_139 tb_140 tb_141 rfl rfl rfl rfl (by decide +kernel)⟩
theorem k_27_22 (L : Nat) (xs : Nat → Int32) : ll_OK1 cX2_next RX2 (some .int) false ll_mN ll_mR ll_mK ll_cnt L xs false 22 (.inl (lo_push 24 (.int 32))) := lk_bipush (n := 32) (by decide +kernel) (by decide)
theorem k_27_24 (L : Nat) (xs : Nat → Int32) : ll_OK1 cX2_next RX2 (some .int) false ll_mN ll_mR ll_mK ll_cnt L xs false 24 (.inl (lo_cmp 40 27 (fun x y => decide (¬ x = y)))) := lk_icmp_ne (off := 16) (by decide +kernel) rfl
theorem k_27_27 (L : Nat) (xs : Nat → Int32) : ll_OK1 cX2_next RX2 (some .int) false ll_mN ll_mR ll_mK ll_cnt L xs false 27 (.inl (lo_aload 28 0)) := lk_aload_n (k := 0) (by decide +kernel) rfl
theorem k_27_28 (L : Nat) (xs : Nat → Int32) : ll_OK1 cX2_next RX2 (some .int) false ll_mN ll_mR ll_mK ll_cnt L xs false 28 (.inl (lo_dup 29)) := lk_dup (by decide +kernel)
theorem k_27_29 (L : Nat) (xs : Nat → Int32) : ll_OK1 cX2_next RX2 (some .int) false ll_mN ll_mR ll_mK ll_cnt L xs false 29 (.inl (lo_getf 32 2 3)) := lk_getf (ix := 26) (ci := 2) (k := 3) (C := RX2) (T := TX2) (N := 5) (by decide +kernel) rfl in_2 (by decide) tb_100
theorem k_27_32 (L : Nat) (xs : Nat → Int32) : ll_OK1 cX2_next RX2 (some .int) false ll_mN ll_mR ll_mK ll_cnt L xs false 32 (.inl (lo_push 33 (.int 1))) := lk_iconst (n := 1) (by decide +kernel) (by decide)
theorem k_27_33 (L : Nat) (xs : Nat → Int32) : ll_OK1 cX2_next RX2 (some .int) false ll_mN ll_mR ll_mK ll_cnt L xs false 33 (.inl (lo_bin 34 (fun x y => x + y))) := lk_iadd (by decide +kernel)
theorem k_27_34 (L : Nat) (xs : Nat → Int32) : ll_OK1 cX2_next RX2 (some .int) false ll_mN ll_mR ll_mK ll_cnt L xs false 34 (.inl (lo_putf 37 2 3 0)) := lk_putf (ix := 26) (ci := 2) (k := 3) (C := RX2) (T := TX2) (N := 5) (ty0 := tyX2) (by decide +kernel) rfl in_2 tyX2_ok nmX2 (by decide) tb_100 (fun B adr v w h1 h2 => ll_fit_int (B := B) (adr := adr) h1 h2) (Or.inl rfl)
theorem k_27_37 (L : Nat) (xs : Nat → Int32) : ll_OK1 cX2_next RX2 (some .int) false ll_mN ll_mR ll_mK ll_cnt L xs false 37 (.inl (lo_goto 0)) := lk_goto (off := (-37)) (by decide +kernel) rfl
theorem k_27_40 (L : Nat) (xs : Nat → Int32) : ll_OK1 cX2_next RX2 (some .int) false ll_mN ll_mR ll_mK ll_cnt L xs false 40 (.inl (lo_aload 41 0)) := lk_aload_n (k := 0) (by decide +kernel) rfl
theorem k_27_41 (L : Nat) (xs : Nat → Int32) : ll_OK1 cX2_next RX2 (some .int) false ll_mN ll_mR ll_mK ll_cnt L xs false 41 (.inl (lo_getf 44 2 3)) := lk_getf (ix := 26) (ci := 2) (k := 3) (C := RX2) (T := TX2) (N := 5) (by decide +kernel) rfl in_2 (by decide) tb_100
theorem k_27_44 (L : Nat) (xs : Nat → Int32) : ll_OK1 cX2_next RX2 (some .int) false ll_mN ll_mR ll_mK ll_cnt L xs false 44 (.inl (lo_aload 45 0)) := lk_aload_n (k := 0) (by decide +kernel) rfl
theorem k_27_45 (L : Nat) (xs : Nat → Int32) : ll_OK1 cX2_next RX2 (some .int) false ll_mN ll_mR ll_mK ll_cnt L xs false 45 (.inl (lo_getf 48 2 2)) := lk_getf (ix := 23) (ci := 2) (k := 2) (C := RX2) (T := TX2) (N := 5) (by decide +kernel) rfl in_2 (by decide) tb_99
theorem k_27_48 (L : Nat) (xs : Nat → Int32) : ll_OK1 cX2_next RX2 (some .int) false ll_mN ll_mR ll_mK ll_cnt L xs false 48 (.inl (lo_cmp 65 51 (fun x y => decide (y ≤ x)))) := lk_icmp_ge (off := 17) (by decide +kernel) rfl
theorem k_27_51 (L : Nat) (xs : Nat → Int32) : ll_OK1 cX2_next RX2 (some .int) false ll_mN ll_mR ll_mK ll_cnt L xs false 51 (.inl (lo_aload 52 0)) := lk_aload_n (k := 0) (by decide +kernel) rfl
theorem k_27_52 (L : Nat) (xs : Nat → Int32) : ll_OK1 cX2_next RX2 (some .int) false ll_mN ll_mR ll_mK ll_cnt L xs false 52 (.inl (lo_getf 55 2 1)) := lk_getf (ix := 19) (ci := 2) (k := 1) (C := RX2) (T := TX2) (N := 5) (by decide +kernel) rfl in_2 (by decide) tb_98
theorem k_27_55 (L : Nat) (xs : Nat → Int32) : ll_OK1 cX2_next RX2 (some .int) false ll_mN ll_mR ll_mK ll_cnt L xs false 55 (.inl (lo_aload 56 0)) := lk_aload_n (k := 0) (by decide +kernel) rfl
theorem k_27_56 (L : Nat) (xs : Nat → Int32) : ll_OK1 cX2_next RX2 (some .int) false ll_mN ll_mR ll_mK ll_cnt L xs false 56 (.inl (lo_getf 59 2 3)) := lk_getf (ix := 26) (ci := 2) (k := 3) (C := RX2) (T := TX2) (N := 5) (by decide +kernel) rfl in_2 (by decide) tb_100
theorem k_27_59 (L : Nat) (xs : Nat → Int32) : ll_OK1 cX2_next RX2 (some .int) false ll_mN ll_mR ll_mK ll_cnt L xs false 59 (.inr (.inl (77, 2, 62))) := ⟨rfl, by decide, by rw [mN_77, mK_77, mR_77]; exact lj_v 75 1 7 (RX7, TX7, 2) (by decide +kernel) tb_139 tb_140 tb_141 rfl rfl rfl rfl (by decide +kernel)⟩
theorem k_27_62 (L : Nat) (xs : Nat → Int32) : ll_OK1 cX2_next RX2 (some .int) false ll_mN ll_mR ll_mK ll_cnt L xs false 62 (.inl (lo_goto 66)) := lk_goto (off := 4) (by decide +kernel) rfl
theorem k_27_65 (L : Nat) (xs : Nat → Int32) : ll_OK1 cX2_next RX2 (some .int) false ll_mN ll_mR ll_mK ll_cnt L xs false 65 (.inl (lo_push 66 (.int (-1)))) := lk_iconst (n := (-1)) (by decide +kernel) (by decide)
theorem k_27_66 (L : Nat) (xs : Nat → Int32) : ll_OK1 cX2_next RX2 (some .int) false ll_mN ll_mR ll_mK ll_cnt L xs false 66 (.inr (.inr 1)) := ⟨(fun h => by cases h), (fun _ => ⟨(by decide +kernel), rfl⟩), fun h => by cases h⟩
theorem ok_27 (L : Nat) (xs : Nat → Int32) : ∀ q ∈ cd_27, ll_OK1 cX2_next RX2 (some .int) false ll_mN ll_mR ll_mK ll_cnt L xs false q.1 q.2 :=
  List.forall_mem_cons.mpr ⟨k_27_0 L xs, List.forall_mem_cons.mpr ⟨k_27_1 L xs, List.forall_mem_cons.mpr ⟨k_27_4 L xs, List.forall_mem_cons.mpr ⟨k_27_5 L xs, List.forall_mem_cons.mpr ⟨k_27_8 L xs, List.forall_mem_cons.mpr ⟨k_27_11 L xs, List.forall_mem_cons.mpr ⟨k_27_12 L xs, List.forall_mem_cons.mpr ⟨k_27_15 L xs, List.forall_mem_cons.mpr ⟨k_27_16 L xs, List.forall_mem_cons.mpr ⟨k_27_19 L xs, List.forall_mem_cons.mpr ⟨k_27_22 L xs, List.forall_mem_cons.mpr ⟨k_27_24 L xs, List.forall_mem_cons.mpr ⟨k_27_27 L xs, List.forall_mem_cons.mpr ⟨k_27_28 L xs, List.forall_mem_cons.mpr ⟨k_27_29 L xs, List.forall_mem_cons.mpr ⟨k_27_32 L xs, List.forall_mem_cons.mpr ⟨k_27_33 L xs, List.forall_mem_cons.mpr ⟨k_27_34 L xs, List.forall_mem_cons.mpr ⟨k_27_37 L xs, List.forall_mem_cons.mpr ⟨k_27_40 L xs, List.forall_mem_cons.mpr ⟨k_27_41 L xs, List.forall_mem_cons.mpr ⟨k_27_44 L xs, List.forall_mem_cons.mpr ⟨k_27_45 L xs, List.forall_mem_cons.mpr ⟨k_27_48 L xs, List.forall_mem_cons.mpr ⟨k_27_51 L xs, List.forall_mem_cons.mpr ⟨k_27_52 L xs, List.forall_mem_cons.mpr ⟨k_27_55 L xs, List.forall_mem_cons.mpr ⟨k_27_56 L xs, List.forall_mem_cons.mpr ⟨k_27_59 L xs, List.forall_mem_cons.mpr ⟨k_27_62 L xs, List.forall_mem_cons.mpr ⟨k_27_65 L xs, List.forall_mem_cons.mpr ⟨k_27_66 L xs, fun _ h => absurd h List.not_mem_nil⟩⟩⟩⟩⟩⟩⟩⟩⟩⟩⟩⟩⟩⟩⟩⟩⟩⟩⟩⟩⟩⟩⟩⟩⟩⟩⟩⟩⟩⟩⟩⟩
/-- InclusionProver$Reader.beginsAtom.(I)Z -/
def cd_28 : List (Nat × ll_O) := [
  (0, .inl (lo_iload 1 0)),
  (1, .inl (lo_push 3 (.int 48))),
  (3, .inl (lo_cmp 30 6 (fun x y => decide (x = y)))),
  (6, .inl (lo_iload 7 0)),
  (7, .inl (lo_push 9 (.int 49))),
  (9, .inl (lo_cmp 30 12 (fun x y => decide (x = y)))),
  (12, .inl (lo_iload 13 0)),
  (13, .inl (lo_push 15 (.int 40))),
  (15, .inl (lo_cmp 30 18 (fun x y => decide (x = y)))),
  (18, .inl (lo_iload 19 0)),
  (19, .inl (lo_push 21 (.int 97))),
  (21, .inl (lo_cmp 34 24 (fun x y => decide (x < y)))),
  (24, .inl (lo_iload 25 0)),
  (25, .inl (lo_push 27 (.int 99))),
  (27, .inl (lo_cmp 34 30 (fun x y => decide (y < x)))),
  (30, .inl (lo_push 31 (.int 1))),
  (31, .inl (lo_goto 35)),
  (34, .inl (lo_push 35 (.int 0))),
  (35, .inr (.inr 2))]
theorem k_28_0 (L : Nat) (xs : Nat → Int32) : ll_OK1 cX2_beginsAtom RX2 (some .boolean) false ll_mN ll_mR ll_mK ll_cnt L xs false 0 (.inl (lo_iload 1 0)) := lk_iload_n (k := 0) (by decide +kernel) rfl
theorem k_28_1 (L : Nat) (xs : Nat → Int32) : ll_OK1 cX2_beginsAtom RX2 (some .boolean) false ll_mN ll_mR ll_mK ll_cnt L xs false 1 (.inl (lo_push 3 (.int 48))) := lk_bipush (n := 48) (by decide +kernel) (by decide)
theorem k_28_3 (L : Nat) (xs : Nat → Int32) : ll_OK1 cX2_beginsAtom RX2 (some .boolean) false ll_mN ll_mR ll_mK ll_cnt L xs false 3 (.inl (lo_cmp 30 6 (fun x y => decide (x = y)))) := lk_icmp_eq (off := 27) (by decide +kernel) rfl
theorem k_28_6 (L : Nat) (xs : Nat → Int32) : ll_OK1 cX2_beginsAtom RX2 (some .boolean) false ll_mN ll_mR ll_mK ll_cnt L xs false 6 (.inl (lo_iload 7 0)) := lk_iload_n (k := 0) (by decide +kernel) rfl
theorem k_28_7 (L : Nat) (xs : Nat → Int32) : ll_OK1 cX2_beginsAtom RX2 (some .boolean) false ll_mN ll_mR ll_mK ll_cnt L xs false 7 (.inl (lo_push 9 (.int 49))) := lk_bipush (n := 49) (by decide +kernel) (by decide)
theorem k_28_9 (L : Nat) (xs : Nat → Int32) : ll_OK1 cX2_beginsAtom RX2 (some .boolean) false ll_mN ll_mR ll_mK ll_cnt L xs false 9 (.inl (lo_cmp 30 12 (fun x y => decide (x = y)))) := lk_icmp_eq (off := 21) (by decide +kernel) rfl
theorem k_28_12 (L : Nat) (xs : Nat → Int32) : ll_OK1 cX2_beginsAtom RX2 (some .boolean) false ll_mN ll_mR ll_mK ll_cnt L xs false 12 (.inl (lo_iload 13 0)) := lk_iload_n (k := 0) (by decide +kernel) rfl
theorem k_28_13 (L : Nat) (xs : Nat → Int32) : ll_OK1 cX2_beginsAtom RX2 (some .boolean) false ll_mN ll_mR ll_mK ll_cnt L xs false 13 (.inl (lo_push 15 (.int 40))) := lk_bipush (n := 40) (by decide +kernel) (by decide)
theorem k_28_15 (L : Nat) (xs : Nat → Int32) : ll_OK1 cX2_beginsAtom RX2 (some .boolean) false ll_mN ll_mR ll_mK ll_cnt L xs false 15 (.inl (lo_cmp 30 18 (fun x y => decide (x = y)))) := lk_icmp_eq (off := 15) (by decide +kernel) rfl
theorem k_28_18 (L : Nat) (xs : Nat → Int32) : ll_OK1 cX2_beginsAtom RX2 (some .boolean) false ll_mN ll_mR ll_mK ll_cnt L xs false 18 (.inl (lo_iload 19 0)) := lk_iload_n (k := 0) (by decide +kernel) rfl
theorem k_28_19 (L : Nat) (xs : Nat → Int32) : ll_OK1 cX2_beginsAtom RX2 (some .boolean) false ll_mN ll_mR ll_mK ll_cnt L xs false 19 (.inl (lo_push 21 (.int 97))) := lk_bipush (n := 97) (by decide +kernel) (by decide)
theorem k_28_21 (L : Nat) (xs : Nat → Int32) : ll_OK1 cX2_beginsAtom RX2 (some .boolean) false ll_mN ll_mR ll_mK ll_cnt L xs false 21 (.inl (lo_cmp 34 24 (fun x y => decide (x < y)))) := lk_icmp_lt (off := 13) (by decide +kernel) rfl
theorem k_28_24 (L : Nat) (xs : Nat → Int32) : ll_OK1 cX2_beginsAtom RX2 (some .boolean) false ll_mN ll_mR ll_mK ll_cnt L xs false 24 (.inl (lo_iload 25 0)) := lk_iload_n (k := 0) (by decide +kernel) rfl
theorem k_28_25 (L : Nat) (xs : Nat → Int32) : ll_OK1 cX2_beginsAtom RX2 (some .boolean) false ll_mN ll_mR ll_mK ll_cnt L xs false 25 (.inl (lo_push 27 (.int 99))) := lk_bipush (n := 99) (by decide +kernel) (by decide)
theorem k_28_27 (L : Nat) (xs : Nat → Int32) : ll_OK1 cX2_beginsAtom RX2 (some .boolean) false ll_mN ll_mR ll_mK ll_cnt L xs false 27 (.inl (lo_cmp 34 30 (fun x y => decide (y < x)))) := lk_icmp_gt (off := 7) (by decide +kernel) rfl
theorem k_28_30 (L : Nat) (xs : Nat → Int32) : ll_OK1 cX2_beginsAtom RX2 (some .boolean) false ll_mN ll_mR ll_mK ll_cnt L xs false 30 (.inl (lo_push 31 (.int 1))) := lk_iconst (n := 1) (by decide +kernel) (by decide)
theorem k_28_31 (L : Nat) (xs : Nat → Int32) : ll_OK1 cX2_beginsAtom RX2 (some .boolean) false ll_mN ll_mR ll_mK ll_cnt L xs false 31 (.inl (lo_goto 35)) := lk_goto (off := 4) (by decide +kernel) rfl
theorem k_28_34 (L : Nat) (xs : Nat → Int32) : ll_OK1 cX2_beginsAtom RX2 (some .boolean) false ll_mN ll_mR ll_mK ll_cnt L xs false 34 (.inl (lo_push 35 (.int 0))) := lk_iconst (n := 0) (by decide +kernel) (by decide)
theorem k_28_35 (L : Nat) (xs : Nat → Int32) : ll_OK1 cX2_beginsAtom RX2 (some .boolean) false ll_mN ll_mR ll_mK ll_cnt L xs false 35 (.inr (.inr 2)) := ⟨(fun h => by cases h), (fun h => by cases h), fun _ => ⟨(by decide +kernel), rfl⟩⟩
theorem ok_28 (L : Nat) (xs : Nat → Int32) : ∀ q ∈ cd_28, ll_OK1 cX2_beginsAtom RX2 (some .boolean) false ll_mN ll_mR ll_mK ll_cnt L xs false q.1 q.2 :=
  List.forall_mem_cons.mpr ⟨k_28_0 L xs, List.forall_mem_cons.mpr ⟨k_28_1 L xs, List.forall_mem_cons.mpr ⟨k_28_3 L xs, List.forall_mem_cons.mpr ⟨k_28_6 L xs, List.forall_mem_cons.mpr ⟨k_28_7 L xs, List.forall_mem_cons.mpr ⟨k_28_9 L xs, List.forall_mem_cons.mpr ⟨k_28_12 L xs, List.forall_mem_cons.mpr ⟨k_28_13 L xs, List.forall_mem_cons.mpr ⟨k_28_15 L xs, List.forall_mem_cons.mpr ⟨k_28_18 L xs, List.forall_mem_cons.mpr ⟨k_28_19 L xs, List.forall_mem_cons.mpr ⟨k_28_21 L xs, List.forall_mem_cons.mpr ⟨k_28_24 L xs, List.forall_mem_cons.mpr ⟨k_28_25 L xs, List.forall_mem_cons.mpr ⟨k_28_27 L xs, List.forall_mem_cons.mpr ⟨k_28_30 L xs, List.forall_mem_cons.mpr ⟨k_28_31 L xs, List.forall_mem_cons.mpr ⟨k_28_34 L xs, List.forall_mem_cons.mpr ⟨k_28_35 L xs, fun _ h => absurd h List.not_mem_nil⟩⟩⟩⟩⟩⟩⟩⟩⟩⟩⟩⟩⟩⟩⟩⟩⟩⟩⟩
/-- InclusionProver$Room.<init>.()V -/
def cd_29 : List (Nat × ll_O) := [
  (0, .inl (lo_aload 1 0)),
  (1, .inl (lo_init 4)),
  (4, .inl (lo_aload 5 0)),
  (5, .inl (lo_new 8 7 2 [.null, .int 0])),
  (8, .inl (lo_dup 9)),
  (9, .inl (lo_push 11 (.int 60))),
  (11, .inr (.inl (70, 2, 14))),
  (14, .inl (lo_putf 17 3 0 2)),
  (17, .inl (lo_aload 18 0)),
  (18, .inl (lo_push 19 (.int 2))),
  (19, .inl (lo_anew 22 5)),
  (22, .inl (lo_dup 23)),
  (23, .inl (lo_push 24 (.int 0))),
  (24, .inl (lo_new 27 5 11 [.null, .null, .null, .null, .null, .null, .int 0, .int 0, .int 0, .int 0, .int 0])),
  (27, .inl (lo_dup 28)),
  (28, .inr (.inl (38, 1, 31))),
  (31, .inl (lo_aast 32)),
  (32, .inl (lo_dup 33)),
  (33, .inl (lo_push 34 (.int 1))),
  (34, .inl (lo_new 37 5 11 [.null, .null, .null, .null, .null, .null, .int 0, .int 0, .int 0, .int 0, .int 0])),
  (37, .inl (lo_dup 38)),
  (38, .inr (.inl (38, 1, 41))),
  (41, .inl (lo_aast 42)),
  (42, .inl (lo_putf 45 3 1 2)),
  (45, .inl (lo_aload 46 0)),
  (46, .inl (lo_push 47 (.int 4))),
  (47, .inl (lo_anew 50 7)),
  (50, .inl (lo_putf 53 3 2 2)),
  (53, .inl (lo_aload 54 0)),
  (54, .inl (lo_new 57 1 12 [.null, .null, .null, .null, .null, .null, .null, .null, .int 0, .int 0, .int 0, .int 0])),
  (57, .inl (lo_dup 58)),
  (58, .inr (.inl (8, 1, 61))),
  (61, .inl (lo_putf 64 3 3 2)),
  (64, .inl (lo_aload 65 0)),
  (65, .inl (lo_push 66 (.int (-1)))),
  (66, .inl (lo_putf 69 3 4 0)),
  (69, .inl (lo_push 70 (.int 0))),
  (70, .inl (lo_istore 71 1)),
  (71, .inl (lo_iload 72 1)),
  (72, .inl (lo_push 73 (.int 4))),
  (73, .inl (lo_cmp 97 76 (fun x y => decide (y ≤ x)))),
  (76, .inl (lo_aload 77 0)),
  (77, .inl (lo_getf 80 3 2)),
  (80, .inl (lo_iload 81 1)),
  (81, .inl (lo_new 84 7 2 [.null, .int 0])),
  (84, .inl (lo_dup 85)),
  (85, .inl (lo_push 87 (.int 30))),
  (87, .inr (.inl (70, 2, 90))),
  (90, .inl (lo_aast 91)),
  (91, .inl (lo_iinc 94 1 1)),
  (94, .inl (lo_goto 71)),
  (97, .inr (.inr 0))]
theorem k_29_0 (L : Nat) (xs : Nat → Int32) : ll_OK1 cX3_init RX3 none true ll_mN ll_mR ll_mK ll_cnt L xs false 0 (.inl (lo_aload 1 0)) := lk_aload_n (k := 0) (by decide +kernel) rfl
theorem k_29_1 (L : Nat) (xs : Nat → Int32) : ll_OK1 cX3_init RX3 none true ll_mN ll_mR ll_mK ll_cnt L xs false 1 (.inl (lo_init 4)) := lk_init (ix := 3) (by decide +kernel) tb_142 tb_1 tb_2
theorem k_29_4 (L : Nat) (xs : Nat → Int32) : ll_OK1 cX3_init RX3 none true ll_mN ll_mR ll_mK ll_cnt L xs false 4 (.inl (lo_aload 5 0)) := lk_aload_n (k := 0) (by decide +kernel) rfl
theorem k_29_5 (L : Nat) (xs : Nat → Int32) : ll_OK1 cX3_init RX3 none true ll_mN ll_mR ll_mK ll_cnt L xs false 5 (.inl (lo_new 8 7 2 [.null, .int 0])) := lk_new (ix := 9) (ci := 7) (N := 2) (C := RX7) (T := TX7) (ty0 := tyX7) (by decide +kernel) rfl in_7 tyX7_ok tb_143 tb_69 tb_70 rfl (by decide +kernel) (by decide +kernel)
theorem k_29_8 (L : Nat) (xs : Nat → Int32) : ll_OK1 cX3_init RX3 none true ll_mN ll_mR ll_mK ll_cnt L xs false 8 (.inl (lo_dup 9)) := lk_dup (by decide +kernel)
theorem k_29_9 (L : Nat) (xs : Nat → Int32) : ll_OK1 cX3_init RX3 none true ll_mN ll_mR ll_mK ll_cnt L xs false 9 (.inl (lo_push 11 (.int 60))) := lk_bipush (n := 60) (by decide +kernel) (by decide)
theorem k_29_11 (L : Nat) (xs : Nat → Int32) : ll_OK1 cX3_init RX3 none true ll_mN ll_mR ll_mK ll_cnt L xs false 11 (.inr (.inl (70, 2, 14))) := ⟨rfl, by decide, by rw [mN_70, mK_70, mR_70]; exact lj_i 11 1 7 (by decide +kernel) (Or.inl tb_144) tb_72 rfl rfl rfl (by decide +kernel) rfl⟩
theorem k_29_14 (L : Nat) (xs : Nat → Int32) : ll_OK1 cX3_init RX3 none true ll_mN ll_mR ll_mK ll_cnt L xs false 14 (.inl (lo_putf 17 3 0 2)) := lk_putf (ix := 14) (ci := 3) (k := 0) (C := RX3) (T := TX3) (N := 5) (ty0 := tyX3) (by decide +kernel) rfl in_3 tyX3_ok nmX3 (by decide) tb_145 (fun B adr v w h1 h2 => ll_fit_obj (B := B) (adr := adr) h1 h2) (Or.inr ⟨rfl, rfl, rfl⟩)
theorem k_29_17 (L : Nat) (xs : Nat → Int32) : ll_OK1 cX3_init RX3 none true ll_mN ll_mR ll_mK ll_cnt L xs false 17 (.inl (lo_aload 18 0)) := lk_aload_n (k := 0) (by decide +kernel) rfl
theorem k_29_18 (L : Nat) (xs : Nat → Int32) : ll_OK1 cX3_init RX3 none true ll_mN ll_mR ll_mK ll_cnt L xs false 18 (.inl (lo_push 19 (.int 2))) := lk_iconst (n := 2) (by decide +kernel) (by decide)
theorem k_29_19 (L : Nat) (xs : Nat → Int32) : ll_OK1 cX3_init RX3 none true ll_mN ll_mR ll_mK ll_cnt L xs false 19 (.inl (lo_anew 22 5)) := lk_anew (ix := 20) (t := 5) (by decide +kernel) tb_146 (by decide +kernel)
theorem k_29_22 (L : Nat) (xs : Nat → Int32) : ll_OK1 cX3_init RX3 none true ll_mN ll_mR ll_mK ll_cnt L xs false 22 (.inl (lo_dup 23)) := lk_dup (by decide +kernel)
theorem k_29_23 (L : Nat) (xs : Nat → Int32) : ll_OK1 cX3_init RX3 none true ll_mN ll_mR ll_mK ll_cnt L xs false 23 (.inl (lo_push 24 (.int 0))) := lk_iconst (n := 0) (by decide +kernel) (by decide)
theorem k_29_24 (L : Nat) (xs : Nat → Int32) : ll_OK1 cX3_init RX3 none true ll_mN ll_mR ll_mK ll_cnt L xs false 24 (.inl (lo_new 27 5 11 [.null, .null, .null, .null, .null, .null, .int 0, .int 0, .int 0, .int 0, .int 0])) := lk_new (ix := 20) (ci := 5) (N := 11) (C := RX5) (T := TX5) (ty0 := tyX5) (by decide +kernel) rfl in_5 tyX5_ok tb_147 tb_148 tb_149 rfl (by decide +kernel) (by decide +kernel)
theorem k_29_27 (L : Nat) (xs : Nat → Int32) : ll_OK1 cX3_init RX3 none true ll_mN ll_mR ll_mK ll_cnt L xs false 27 (.inl (lo_dup 28)) := lk_dup (by decide +kernel)
theorem k_29_28 (L : Nat) (xs : Nat → Int32) : ll_OK1 cX3_init RX3 none true ll_mN ll_mR ll_mK ll_cnt L xs false 28 (.inr (.inl (38, 1, 31))) := ⟨rfl, by decide, by rw [mN_38, mK_38, mR_38]; exact lj_i 22 0 5 (by decide +kernel) (Or.inr ⟨"InclusionProver", by decide +kernel⟩) tb_150 rfl rfl rfl (by decide +kernel) rfl⟩
theorem k_29_31 (L : Nat) (xs : Nat → Int32) : ll_OK1 cX3_init RX3 none true ll_mN ll_mR ll_mK ll_cnt L xs false 31 (.inl (lo_aast 32)) := lk_aast (by decide +kernel)
theorem k_29_32 (L : Nat) (xs : Nat → Int32) : ll_OK1 cX3_init RX3 none true ll_mN ll_mR ll_mK ll_cnt L xs false 32 (.inl (lo_dup 33)) := lk_dup (by decide +kernel)
theorem k_29_33 (L : Nat) (xs : Nat → Int32) : ll_OK1 cX3_init RX3 none true ll_mN ll_mR ll_mK ll_cnt L xs false 33 (.inl (lo_push 34 (.int 1))) := lk_iconst (n := 1) (by decide +kernel) (by decide)
theorem k_29_34 (L : Nat) (xs : Nat → Int32) : ll_OK1 cX3_init RX3 none true ll_mN ll_mR ll_mK ll_cnt L xs false 34 (.inl (lo_new 37 5 11 [.null, .null, .null, .null, .null, .null, .int 0, .int 0, .int 0, .int 0, .int 0])) := lk_new (ix := 20) (ci := 5) (N := 11) (C := RX5) (T := TX5) (ty0 := tyX5) (by decide +kernel) rfl in_5 tyX5_ok tb_147 tb_148 tb_149 rfl (by decide +kernel) (by decide +kernel)
theorem k_29_37 (L : Nat) (xs : Nat → Int32) : ll_OK1 cX3_init RX3 none true ll_mN ll_mR ll_mK ll_cnt L xs false 37 (.inl (lo_dup 38)) := lk_dup (by decide +kernel)
theorem k_29_38 (L : Nat) (xs : Nat → Int32) : ll_OK1 cX3_init RX3 none true ll_mN ll_mR ll_mK ll_cnt L xs false 38 (.inr (.inl (38, 1, 41))) := ⟨rfl, by decide, by rw [mN_38, mK_38, mR_38]; exact lj_i 22 0 5 (by decide +kernel) (Or.inr ⟨"InclusionProver", by decide +kernel⟩) tb_150 rfl rfl rfl (by decide +kernel) rfl⟩
theorem k_29_41 (L : Nat) (xs : Nat → Int32) : ll_OK1 cX3_init RX3 none true ll_mN ll_mR ll_mK ll_cnt L xs false 41 (.inl (lo_aast 42)) := lk_aast (by decide +kernel)
theorem k_29_42 (L : Nat) (xs : Nat → Int32) : ll_OK1 cX3_init RX3 none true ll_mN ll_mR ll_mK ll_cnt L xs false 42 (.inl (lo_putf 45 3 1 2)) := lk_putf (ix := 23) (ci := 3) (k := 1) (C := RX3) (T := TX3) (N := 5) (ty0 := tyX3) (by decide +kernel) rfl in_3 tyX3_ok nmX3 (by decide) tb_151 (fun B adr v w h1 h2 => ll_fit_arr (B := B) (adr := adr) h1 h2) (Or.inr ⟨rfl, rfl, rfl⟩)
theorem k_29_45 (L : Nat) (xs : Nat → Int32) : ll_OK1 cX3_init RX3 none true ll_mN ll_mR ll_mK ll_cnt L xs false 45 (.inl (lo_aload 46 0)) := lk_aload_n (k := 0) (by decide +kernel) rfl
theorem k_29_46 (L : Nat) (xs : Nat → Int32) : ll_OK1 cX3_init RX3 none true ll_mN ll_mR ll_mK ll_cnt L xs false 46 (.inl (lo_push 47 (.int 4))) := lk_iconst (n := 4) (by decide +kernel) (by decide)
theorem k_29_47 (L : Nat) (xs : Nat → Int32) : ll_OK1 cX3_init RX3 none true ll_mN ll_mR ll_mK ll_cnt L xs false 47 (.inl (lo_anew 50 7)) := lk_anew (ix := 9) (t := 7) (by decide +kernel) tb_152 (by decide +kernel)
theorem k_29_50 (L : Nat) (xs : Nat → Int32) : ll_OK1 cX3_init RX3 none true ll_mN ll_mR ll_mK ll_cnt L xs false 50 (.inl (lo_putf 53 3 2 2)) := lk_putf (ix := 27) (ci := 3) (k := 2) (C := RX3) (T := TX3) (N := 5) (ty0 := tyX3) (by decide +kernel) rfl in_3 tyX3_ok nmX3 (by decide) tb_153 (fun B adr v w h1 h2 => ll_fit_arr (B := B) (adr := adr) h1 h2) (Or.inr ⟨rfl, rfl, rfl⟩)
theorem k_29_53 (L : Nat) (xs : Nat → Int32) : ll_OK1 cX3_init RX3 none true ll_mN ll_mR ll_mK ll_cnt L xs false 53 (.inl (lo_aload 54 0)) := lk_aload_n (k := 0) (by decide +kernel) rfl
theorem k_29_54 (L : Nat) (xs : Nat → Int32) : ll_OK1 cX3_init RX3 none true ll_mN ll_mR ll_mK ll_cnt L xs false 54 (.inl (lo_new 57 1 12 [.null, .null, .null, .null, .null, .null, .null, .null, .int 0, .int 0, .int 0, .int 0])) := lk_new (ix := 31) (ci := 1) (N := 12) (C := RX1) (T := TX1) (ty0 := tyX1) (by decide +kernel) rfl in_1 tyX1_ok tb_154 tb_155 tb_156 rfl (by decide +kernel) (by decide +kernel)
theorem k_29_57 (L : Nat) (xs : Nat → Int32) : ll_OK1 cX3_init RX3 none true ll_mN ll_mR ll_mK ll_cnt L xs false 57 (.inl (lo_dup 58)) := lk_dup (by decide +kernel)
theorem k_29_58 (L : Nat) (xs : Nat → Int32) : ll_OK1 cX3_init RX3 none true ll_mN ll_mR ll_mK ll_cnt L xs false 58 (.inr (.inl (8, 1, 61))) := ⟨rfl, by decide, by rw [mN_8, mK_8, mR_8]; exact lj_i 33 0 1 (by decide +kernel) (Or.inr ⟨"InclusionProver", by decide +kernel⟩) tb_157 rfl rfl rfl (by decide +kernel) rfl⟩
theorem k_29_61 (L : Nat) (xs : Nat → Int32) : ll_OK1 cX3_init RX3 none true ll_mN ll_mR ll_mK ll_cnt L xs false 61 (.inl (lo_putf 64 3 3 2)) := lk_putf (ix := 34) (ci := 3) (k := 3) (C := RX3) (T := TX3) (N := 5) (ty0 := tyX3) (by decide +kernel) rfl in_3 tyX3_ok nmX3 (by decide) tb_158 (fun B adr v w h1 h2 => ll_fit_obj (B := B) (adr := adr) h1 h2) (Or.inr ⟨rfl, rfl, rfl⟩)
theorem k_29_64 (L : Nat) (xs : Nat → Int32) : ll_OK1 cX3_init RX3 none true ll_mN ll_mR ll_mK ll_cnt L xs false 64 (.inl (lo_aload 65 0)) := lk_aload_n (k := 0) (by decide +kernel) rfl
theorem k_29_65 (L : Nat) (xs : Nat → Int32) : ll_OK1 cX3_init RX3 none true ll_mN ll_mR ll_mK ll_cnt L xs false 65 (.inl (lo_push 66 (.int (-1)))) := lk_iconst (n := (-1)) (by decide +kernel) (by decide)
theorem k_29_66 (L : Nat) (xs : Nat → Int32) : ll_OK1 cX3_init RX3 none true ll_mN ll_mR ll_mK ll_cnt L xs false 66 (.inl (lo_putf 69 3 4 0)) := lk_putf (ix := 38) (ci := 3) (k := 4) (C := RX3) (T := TX3) (N := 5) (ty0 := tyX3) (by decide +kernel) rfl in_3 tyX3_ok nmX3 (by decide) tb_159 (fun B adr v w h1 h2 => ll_fit_int (B := B) (adr := adr) h1 h2) (Or.inl rfl)
theorem k_29_69 (L : Nat) (xs : Nat → Int32) : ll_OK1 cX3_init RX3 none true ll_mN ll_mR ll_mK ll_cnt L xs false 69 (.inl (lo_push 70 (.int 0))) := lk_iconst (n := 0) (by decide +kernel) (by decide)
theorem k_29_70 (L : Nat) (xs : Nat → Int32) : ll_OK1 cX3_init RX3 none true ll_mN ll_mR ll_mK ll_cnt L xs false 70 (.inl (lo_istore 71 1)) := lk_istore_n (k := 1) (by decide +kernel) rfl
theorem k_29_71 (L : Nat) (xs : Nat → Int32) : ll_OK1 cX3_init RX3 none true ll_mN ll_mR ll_mK ll_cnt L xs false 71 (.inl (lo_iload 72 1)) := lk_iload_n (k := 1) (by decide +kernel) rfl
theorem k_29_72 (L : Nat) (xs : Nat → Int32) : ll_OK1 cX3_init RX3 none true ll_mN ll_mR ll_mK ll_cnt L xs false 72 (.inl (lo_push 73 (.int 4))) := lk_iconst (n := 4) (by decide +kernel) (by decide)
theorem k_29_73 (L : Nat) (xs : Nat → Int32) : ll_OK1 cX3_init RX3 none true ll_mN ll_mR ll_mK ll_cnt L xs false 73 (.inl (lo_cmp 97 76 (fun x y => decide (y ≤ x)))) := lk_icmp_ge (off := 24) (by decide +kernel) rfl
theorem k_29_76 (L : Nat) (xs : Nat → Int32) : ll_OK1 cX3_init RX3 none true ll_mN ll_mR ll_mK ll_cnt L xs false 76 (.inl (lo_aload 77 0)) := lk_aload_n (k := 0) (by decide +kernel) rfl
theorem k_29_77 (L : Nat) (xs : Nat → Int32) : ll_OK1 cX3_init RX3 none true ll_mN ll_mR ll_mK ll_cnt L xs false 77 (.inl (lo_getf 80 3 2)) := lk_getf (ix := 27) (ci := 3) (k := 2) (C := RX3) (T := TX3) (N := 5) (by decide +kernel) rfl in_3 (by decide) tb_153
theorem k_29_80 (L : Nat) (xs : Nat → Int32) : ll_OK1 cX3_init RX3 none true ll_mN ll_mR ll_mK ll_cnt L xs false 80 (.inl (lo_iload 81 1)) := lk_iload_n (k := 1) (by decide +kernel) rfl
theorem k_29_81 (L : Nat) (xs : Nat → Int32) : ll_OK1 cX3_init RX3 none true ll_mN ll_mR ll_mK ll_cnt L xs false 81 (.inl (lo_new 84 7 2 [.null, .int 0])) := lk_new (ix := 9) (ci := 7) (N := 2) (C := RX7) (T := TX7) (ty0 := tyX7) (by decide +kernel) rfl in_7 tyX7_ok tb_143 tb_69 tb_70 rfl (by decide +kernel) (by decide +kernel)
theorem k_29_84 (L : Nat) (xs : Nat → Int32) : ll_OK1 cX3_init RX3 none true ll_mN ll_mR ll_mK ll_cnt L xs false 84 (.inl (lo_dup 85)) := lk_dup (by decide +kernel)
theorem k_29_85 (L : Nat) (xs : Nat → Int32) : ll_OK1 cX3_init RX3 none true ll_mN ll_mR ll_mK ll_cnt L xs false 85 (.inl (lo_push 87 (.int 30))) := lk_bipush (n := 30) (by decide +kernel) (by decide)
theorem k_29_87 (L : Nat) (xs : Nat → Int32) : ll_OK1 cX3_init RX3 none true ll_mN ll_mR ll_mK ll_cnt L xs false 87 (.inr (.inl (70, 2, 90))) := ⟨rfl, by decide, by rw [mN_70, mK_70, mR_70]; exact lj_i 11 1 7 (by decide +kernel) (Or.inl tb_144) tb_72 rfl rfl rfl (by decide +kernel) rfl⟩
theorem k_29_90 (L : Nat) (xs : Nat → Int32) : ll_OK1 cX3_init RX3 none true ll_mN ll_mR ll_mK ll_cnt L xs false 90 (.inl (lo_aast 91)) := lk_aast (by decide +kernel)
theorem k_29_91 (L : Nat) (xs : Nat → Int32) : ll_OK1 cX3_init RX3 none true ll_mN ll_mR ll_mK ll_cnt L xs false 91 (.inl (lo_iinc 94 1 1)) := lk_iinc (n := 1) (by decide +kernel) (by decide)
theorem k_29_94 (L : Nat) (xs : Nat → Int32) : ll_OK1 cX3_init RX3 none true ll_mN ll_mR ll_mK ll_cnt L xs false 94 (.inl (lo_goto 71)) := lk_goto (off := (-23)) (by decide +kernel) rfl
theorem k_29_97 (L : Nat) (xs : Nat → Int32) : ll_OK1 cX3_init RX3 none true ll_mN ll_mR ll_mK ll_cnt L xs false 97 (.inr (.inr 0)) := ⟨fun _ => ⟨(by decide +kernel), rfl⟩, (fun h => by cases h), fun h => by cases h⟩
theorem ok_29 (L : Nat) (xs : Nat → Int32) : ∀ q ∈ cd_29, ll_OK1 cX3_init RX3 none true ll_mN ll_mR ll_mK ll_cnt L xs false q.1 q.2 :=
  List.forall_mem_cons.mpr ⟨k_29_0 L xs, List.forall_mem_cons.mpr ⟨k_29_1 L xs, List.forall_mem_cons.mpr ⟨k_29_4 L xs, List.forall_mem_cons.mpr ⟨k_29_5 L xs, List.forall_mem_cons.mpr ⟨k_29_8 L xs, List.forall_mem_cons.mpr ⟨k_29_9 L xs, List.forall_mem_cons.mpr ⟨k_29_11 L xs, List.forall_mem_cons.mpr ⟨k_29_14 L xs, List.forall_mem_cons.mpr ⟨k_29_17 L xs, List.forall_mem_cons.mpr ⟨k_29_18 L xs, List.forall_mem_cons.mpr ⟨k_29_19 L xs, List.forall_mem_cons.mpr ⟨k_29_22 L xs, List.forall_mem_cons.mpr ⟨k_29_23 L xs, List.forall_mem_cons.mpr ⟨k_29_24 L xs, List.forall_mem_cons.mpr ⟨k_29_27 L xs, List.forall_mem_cons.mpr ⟨k_29_28 L xs, List.forall_mem_cons.mpr ⟨k_29_31 L xs, List.forall_mem_cons.mpr ⟨k_29_32 L xs, List.forall_mem_cons.mpr ⟨k_29_33 L xs, List.forall_mem_cons.mpr ⟨k_29_34 L xs, List.forall_mem_cons.mpr ⟨k_29_37 L xs, List.forall_mem_cons.mpr ⟨k_29_38 L xs, List.forall_mem_cons.mpr ⟨k_29_41 L xs, List.forall_mem_cons.mpr ⟨k_29_42 L xs, List.forall_mem_cons.mpr ⟨k_29_45 L xs, List.forall_mem_cons.mpr ⟨k_29_46 L xs, List.forall_mem_cons.mpr ⟨k_29_47 L xs, List.forall_mem_cons.mpr ⟨k_29_50 L xs, List.forall_mem_cons.mpr ⟨k_29_53 L xs, List.forall_mem_cons.mpr ⟨k_29_54 L xs, List.forall_mem_cons.mpr ⟨k_29_57 L xs, List.forall_mem_cons.mpr ⟨k_29_58 L xs, List.forall_mem_cons.mpr ⟨k_29_61 L xs, List.forall_mem_cons.mpr ⟨k_29_64 L xs, List.forall_mem_cons.mpr ⟨k_29_65 L xs, List.forall_mem_cons.mpr ⟨k_29_66 L xs, List.forall_mem_cons.mpr ⟨k_29_69 L xs, List.forall_mem_cons.mpr ⟨k_29_70 L xs, List.forall_mem_cons.mpr ⟨k_29_71 L xs, List.forall_mem_cons.mpr ⟨k_29_72 L xs, List.forall_mem_cons.mpr ⟨k_29_73 L xs, List.forall_mem_cons.mpr ⟨k_29_76 L xs, List.forall_mem_cons.mpr ⟨k_29_77 L xs, List.forall_mem_cons.mpr ⟨k_29_80 L xs, List.forall_mem_cons.mpr ⟨k_29_81 L xs, List.forall_mem_cons.mpr ⟨k_29_84 L xs, List.forall_mem_cons.mpr ⟨k_29_85 L xs, List.forall_mem_cons.mpr ⟨k_29_87 L xs, List.forall_mem_cons.mpr ⟨k_29_90 L xs, List.forall_mem_cons.mpr ⟨k_29_91 L xs, List.forall_mem_cons.mpr ⟨k_29_94 L xs, List.forall_mem_cons.mpr ⟨k_29_97 L xs, fun _ h => absurd h List.not_mem_nil⟩⟩⟩⟩⟩⟩⟩⟩⟩⟩⟩⟩⟩⟩⟩⟩⟩⟩⟩⟩⟩⟩⟩⟩⟩⟩⟩⟩⟩⟩⟩⟩⟩⟩⟩⟩⟩⟩⟩⟩⟩⟩⟩⟩⟩⟩⟩⟩⟩⟩⟩⟩
/-- InclusionProver$Room.become.(LInclusionProver$Room;)V -/
def cd_30 : List (Nat × ll_O) := [
  (0, .inl (lo_aload 1 0)),
  (1, .inl (lo_getf 4 3 0)),
  (4, .inl (lo_aload 5 1)),
  (5, .inl (lo_getf 8 3 0)),
  (8, .inr (.inl (75, 2, 11))),
  (11, .inl (lo_aload 12 0)),
  (12, .inl (lo_aload 13 1)),
  (13, .inl (lo_getf 16 3 4)),
  (16, .inl (lo_putf 19 3 4 0)),
  (19, .inl (lo_aload 20 0)),
  (20, .inl (lo_getf 23 3 3)),
  (23, .inl (lo_aload 24 1)),
  (24, .inl (lo_getf 27 3 3)),
  (27, .inr (.inl (20, 2, 30))),
  (30, .inl (lo_push 31 (.int 0))),
  (31, .inl (lo_istore 32 2)),
  (32, .inl (lo_iload 33 2)),
  (33, .inl (lo_push 34 (.int 2))),
  (34, .inl (lo_cmp 58 37 (fun x y => decide (y ≤ x)))),
  (37, .inl (lo_aload 38 0)),
  (38, .inl (lo_getf 41 3 1)),
  (41, .inl (lo_iload 42 2)),
  (42, .inl (lo_aald 43)),
  (43, .inl (lo_aload 44 1)),
  (44, .inl (lo_getf 47 3 1)),
  (47, .inl (lo_iload 48 2)),
  (48, .inl (lo_aald 49)),
  (49, .inr (.inl (44, 2, 52))),
  (52, .inl (lo_iinc 55 2 1)),
  (55, .inl (lo_goto 32)),
  (58, .inl (lo_push 59 (.int 0))),
  (59, .inl (lo_istore 60 2)),
  (60, .inl (lo_iload 61 2)),
  (61, .inl (lo_push 62 (.int 4))),
  (62, .inl (lo_cmp 86 65 (fun x y => decide (y ≤ x)))),
  (65, .inl (lo_aload 66 0)),
  (66, .inl (lo_getf 69 3 2)),
  (69, .inl (lo_iload 70 2)),
  (70, .inl (lo_aald 71)),
  (71, .inl (lo_aload 72 1)),
  (72, .inl (lo_getf 75 3 2)),
  (75, .inl (lo_iload 76 2)),
  (76, .inl (lo_aald 77)),
  (77, .inr (.inl (75, 2, 80))),
  (80, .inl (lo_iinc 83 2 1)),
  (83, .inl (lo_goto 60)),
  (86, .inr (.inr 0))]
theorem k_30_0 (L : Nat) (xs : Nat → Int32) : ll_OK1 cX3_become RX3 none false ll_mN ll_mR ll_mK ll_cnt L xs false 0 (.inl (lo_aload 1 0)) := lk_aload_n (k := 0) (by decide +kernel) rfl
theorem k_30_1 (L : Nat) (xs : Nat → Int32) : ll_OK1 cX3_become RX3 none false ll_mN ll_mR ll_mK ll_cnt L xs false 1 (.inl (lo_getf 4 3 0)) := lk_getf (ix := 14) (ci := 3) (k := 0) (C := RX3) (T := TX3) (N := 5) (by decide +kernel) rfl in_3 (by decide) tb_145
theorem k_30_4 (L : Nat) (xs : Nat → Int32) : ll_OK1 cX3_become RX3 none false ll_mN ll_mR ll_mK ll_cnt L xs false 4 (.inl (lo_aload 5 1)) := lk_aload_n (k := 1) (by decide +kernel) rfl
theorem k_30_5 (L : Nat) (xs : Nat → Int32) : ll_OK1 cX3_become RX3 none false ll_mN ll_mR ll_mK ll_cnt L xs false 5 (.inl (lo_getf 8 3 0)) := lk_getf (ix := 14) (ci := 3) (k := 0) (C := RX3) (T := TX3) (N := 5) (by decide +kernel) rfl in_3 (by decide) tb_145
theorem k_30_8 (L : Nat) (xs : Nat → Int32) : ll_OK1 cX3_become RX3 none false ll_mN ll_mR ll_mK ll_cnt L xs false 8 (.inr (.inl (75, 2, 11))) := ⟨rfl, by decide, by rw [mN_75, mK_75, mR_75]; exact lj_v 42 1 7 (RX7, TX7, 2) (by decide +kernel) tb_160 tb_89 tb_90 rfl rfl rfl rfl (by decide +kernel)⟩
theorem k_30_11 (L : Nat) (xs : Nat → Int32) : ll_OK1 cX3_become RX3 none false ll_mN ll_mR ll_mK ll_cnt L xs false 11 (.inl (lo_aload 12 0)) := lk_aload_n (k := 0) (by decide +kernel) rfl
theorem k_30_12 (L : Nat) (xs : Nat → Int32) : ll_OK1 cX3_become RX3 none false ll_mN ll_mR ll_mK ll_cnt L xs false 12 (.inl (lo_aload 13 1)) := lk_aload_n (k := 1) (by decide +kernel) rfl
theorem k_30_13 (L : Nat) (xs : Nat → Int32) : ll_OK1 cX3_become RX3 none false ll_mN ll_mR ll_mK ll_cnt L xs false 13 (.inl (lo_getf 16 3 4)) := lk_getf (ix := 38) (ci := 3) (k := 4) (C := RX3) (T := TX3) (N := 5) (by decide +kernel) rfl in_3 (by decide) tb_159
theorem k_30_16 (L : Nat) (xs : Nat → Int32) : ll_OK1 cX3_become RX3 none false ll_mN ll_mR ll_mK ll_cnt L xs false 16 (.inl (lo_putf 19 3 4 0)) := lk_putf (ix := 38) (ci := 3) (k := 4) (C := RX3) (T := TX3) (N := 5) (ty0 := tyX3) (by decide +kernel) rfl in_3 tyX3_ok nmX3 (by decide) tb_159 (fun B adr v w h1 h2 => ll_fit_int (B := B) (adr := adr) h1 h2) (Or.inl rfl)
theorem k_30_19 (L : Nat) (xs : Nat → Int32) : ll_OK1 cX3_become RX3 none false ll_mN ll_mR ll_mK ll_cnt L xs false 19 (.inl (lo_aload 20 0)) := lk_aload_n (k := 0) (by decide +kernel) rfl
theorem k_30_20 (L : Nat) (xs : Nat → Int32) : ll_OK1 cX3_become RX3 none false ll_mN ll_mR ll_mK ll_cnt L xs false 20 (.inl (lo_getf 23 3 3)) := lk_getf (ix := 34) (ci := 3) (k := 3) (C := RX3) (T := TX3) (N := 5) (by decide +kernel) rfl in_3 (by decide) tb_158
theorem k_30_23 (L : Nat) (xs : Nat → Int32) : ll_OK1 cX3_become RX3 none false ll_mN ll_mR ll_mK ll_cnt L xs false 23 (.inl (lo_aload 24 1)) := lk_aload_n (k := 1) (by decide +kernel) rfl
theorem k_30_24 (L : Nat) (xs : Nat → Int32) : ll_OK1 cX3_become RX3 none false ll_mN ll_mR ll_mK ll_cnt L xs false 24 (.inl (lo_getf 27 3 3)) := lk_getf (ix := 34) (ci := 3) (k := 3) (C := RX3) (T := TX3) (N := 5) (by decide +kernel) rfl in_3 (by decide) tb_158
theorem k_30_27 (L : Nat) (xs : Nat → Int32) : ll_OK1 cX3_become RX3 none false ll_mN ll_mR ll_mK ll_cnt L xs false 27 (.inr (.inl (20, 2, 30))) := ⟨rfl, by decide, by rw [mN_20, mK_20, mR_20]; exact lj_v 46 1 1 (RX1, TX1, 12) (by decide +kernel) tb_161 tb_162 tb_163 rfl rfl rfl rfl (by decide +kernel)⟩
theorem k_30_30 (L : Nat) (xs : Nat → Int32) : ll_OK1 cX3_become RX3 none false ll_mN ll_mR ll_mK ll_cnt L xs false 30 (.inl (lo_push 31 (.int 0))) := lk_iconst (n := 0) (by decide +kernel) (by decide)
theorem k_30_31 (L : Nat) (xs : Nat → Int32) : ll_OK1 cX3_become RX3 none false ll_mN ll_mR ll_mK ll_cnt L xs false 31 (.inl (lo_istore 32 2)) := lk_istore_n (k := 2) (by decide +kernel) rfl
theorem k_30_32 (L : Nat) (xs : Nat → Int32) : ll_OK1 cX3_become RX3 none false ll_mN ll_mR ll_mK ll_cnt L xs false 32 (.inl (lo_iload 33 2)) := lk_iload_n (k := 2) (by decide +kernel) rfl
theorem k_30_33 (L : Nat) (xs : Nat → Int32) : ll_OK1 cX3_become RX3 none false ll_mN ll_mR ll_mK ll_cnt L xs false 33 (.inl (lo_push 34 (.int 2))) := lk_iconst (n := 2) (by decide +kernel) (by decide)
theorem k_30_34 (L : Nat) (xs : Nat → Int32) : ll_OK1 cX3_become RX3 none false ll_mN ll_mR ll_mK ll_cnt L xs false 34 (.inl (lo_cmp 58 37 (fun x y => decide (y ≤ x)))) := lk_icmp_ge (off := 24) (by decide +kernel) rfl
theorem k_30_37 (L : Nat) (xs : Nat → Int32) : ll_OK1 cX3_become RX3 none false ll_mN ll_mR ll_mK ll_cnt L xs false 37 (.inl (lo_aload 38 0)) := lk_aload_n (k := 0) (by decide +kernel) rfl
theorem k_30_38 (L : Nat) (xs : Nat → Int32) : ll_OK1 cX3_become RX3 none false ll_mN ll_mR ll_mK ll_cnt L xs false 38 (.inl (lo_getf 41 3 1)) := lk_getf (ix := 23) (ci := 3) (k := 1) (C := RX3) (T := TX3) (N := 5) (by decide +kernel) rfl in_3 (by decide) tb_151
theorem k_30_41 (L : Nat) (xs : Nat → Int32) : ll_OK1 cX3_become RX3 none false ll_mN ll_mR ll_mK ll_cnt L xs false 41 (.inl (lo_iload 42 2)) := lk_iload_n (k := 2) (by decide +kernel) rfl
theorem k_30_42 (L : Nat) (xs : Nat → Int32) : ll_OK1 cX3_become RX3 none false ll_mN ll_mR ll_mK ll_cnt L xs false 42 (.inl (lo_aald 43)) := lk_aald (by decide +kernel)
theorem k_30_43 (L : Nat) (xs : Nat → Int32) : ll_OK1 cX3_become RX3 none false ll_mN ll_mR ll_mK ll_cnt L xs false 43 (.inl (lo_aload 44 1)) := lk_aload_n (k := 1) (by decide +kernel) rfl
theorem k_30_44 (L : Nat) (xs : Nat → Int32) : ll_OK1 cX3_become RX3 none false ll_mN ll_mR ll_mK ll_cnt L xs false 44 (.inl (lo_getf 47 3 1)) := lk_getf (ix := 23) (ci := 3) (k := 1) (C := RX3) (T := TX3) (N := 5) (by decide +kernel) rfl in_3 (by decide) tb_151
theorem k_30_47 (L : Nat) (xs : Nat → Int32) : ll_OK1 cX3_become RX3 none false ll_mN ll_mR ll_mK ll_cnt L xs false 47 (.inl (lo_iload 48 2)) := lk_iload_n (k := 2) (by decide +kernel) rfl
theorem k_30_48 (L : Nat) (xs : Nat → Int32) : ll_OK1 cX3_become RX3 none false ll_mN ll_mR ll_mK ll_cnt L xs false 48 (.inl (lo_aald 49)) := lk_aald (by decide +kernel)
theorem k_30_49 (L : Nat) (xs : Nat → Int32) : ll_OK1 cX3_become RX3 none false ll_mN ll_mR ll_mK ll_cnt L xs false 49 (.inr (.inl (44, 2, 52))) := ⟨rfl, by decide, by rw [mN_44, mK_44, mR_44]; exact lj_v 49 1 5 (RX5, TX5, 11) (by decide +kernel) tb_164 tb_165 tb_166 rfl rfl rfl rfl (by decide +kernel)⟩
theorem k_30_52 (L : Nat) (xs : Nat → Int32) : ll_OK1 cX3_become RX3 none false ll_mN ll_mR ll_mK ll_cnt L xs false 52 (.inl (lo_iinc 55 2 1)) := lk_iinc (n := 1) (by decide +kernel) (by decide)
theorem k_30_55 (L : Nat) (xs : Nat → Int32) : ll_OK1 cX3_become RX3 none false ll_mN ll_mR ll_mK ll_cnt L xs false 55 (.inl (lo_goto 32)) := lk_goto (off := (-23)) (by decide +kernel) rfl
theorem k_30_58 (L : Nat) (xs : Nat → Int32) : ll_OK1 cX3_become RX3 none false ll_mN ll_mR ll_mK ll_cnt L xs false 58 (.inl (lo_push 59 (.int 0))) := lk_iconst (n := 0) (by decide +kernel) (by decide)
theorem k_30_59 (L : Nat) (xs : Nat → Int32) : ll_OK1 cX3_become RX3 none false ll_mN ll_mR ll_mK ll_cnt L xs false 59 (.inl (lo_istore 60 2)) := lk_istore_n (k := 2) (by decide +kernel) rfl
theorem k_30_60 (L : Nat) (xs : Nat → Int32) : ll_OK1 cX3_become RX3 none false ll_mN ll_mR ll_mK ll_cnt L xs false 60 (.inl (lo_iload 61 2)) := lk_iload_n (k := 2) (by decide +kernel) rfl
theorem k_30_61 (L : Nat) (xs : Nat → Int32) : ll_OK1 cX3_become RX3 none false ll_mN ll_mR ll_mK ll_cnt L xs false 61 (.inl (lo_push 62 (.int 4))) := lk_iconst (n := 4) (by decide +kernel) (by decide)
theorem k_30_62 (L : Nat) (xs : Nat → Int32) : ll_OK1 cX3_become RX3 none false ll_mN ll_mR ll_mK ll_cnt L xs false 62 (.inl (lo_cmp 86 65 (fun x y => decide (y ≤ x)))) := lk_icmp_ge (off := 24) (by decide +kernel) rfl
theorem k_30_65 (L : Nat) (xs : Nat → Int32) : ll_OK1 cX3_become RX3 none false ll_mN ll_mR ll_mK ll_cnt L xs false 65 (.inl (lo_aload 66 0)) := lk_aload_n (k := 0) (by decide +kernel) rfl
theorem k_30_66 (L : Nat) (xs : Nat → Int32) : ll_OK1 cX3_become RX3 none false ll_mN ll_mR ll_mK ll_cnt L xs false 66 (.inl (lo_getf 69 3 2)) := lk_getf (ix := 27) (ci := 3) (k := 2) (C := RX3) (T := TX3) (N := 5) (by decide +kernel) rfl in_3 (by decide) tb_153
theorem k_30_69 (L : Nat) (xs : Nat → Int32) : ll_OK1 cX3_become RX3 none false ll_mN ll_mR ll_mK ll_cnt L xs false 69 (.inl (lo_iload 70 2)) := lk_iload_n (k := 2) (by decide +kernel) rfl
theorem k_30_70 (L : Nat) (xs : Nat → Int32) : ll_OK1 cX3_become RX3 none false ll_mN ll_mR ll_mK ll_cnt L xs false 70 (.inl (lo_aald 71)) := lk_aald (by decide +kernel)
theorem k_30_71 (L : Nat) (xs : Nat → Int32) : ll_OK1 cX3_become RX3 none false ll_mN ll_mR ll_mK ll_cnt L xs false 71 (.inl (lo_aload 72 1)) := lk_aload_n (k := 1) (by decide +kernel) rfl
theorem k_30_72 (L : Nat) (xs : Nat → Int32) : ll_OK1 cX3_become RX3 none false ll_mN ll_mR ll_mK ll_cnt L xs false 72 (.inl (lo_getf 75 3 2)) := lk_getf (ix := 27) (ci := 3) (k := 2) (C := RX3) (T := TX3) (N := 5) (by decide +kernel) rfl in_3 (by decide) tb_153
theorem k_30_75 (L : Nat) (xs : Nat → Int32) : ll_OK1 cX3_become RX3 none false ll_mN ll_mR ll_mK ll_cnt L xs false 75 (.inl (lo_iload 76 2)) := lk_iload_n (k := 2) (by decide +kernel) rfl
theorem k_30_76 (L : Nat) (xs : Nat → Int32) : ll_OK1 cX3_become RX3 none false ll_mN ll_mR ll_mK ll_cnt L xs false 76 (.inl (lo_aald 77)) := lk_aald (by decide +kernel)
theorem k_30_77 (L : Nat) (xs : Nat → Int32) : ll_OK1 cX3_become RX3 none false ll_mN ll_mR ll_mK ll_cnt L xs false 77 (.inr (.inl (75, 2, 80))) := ⟨rfl, by decide, by rw [mN_75, mK_75, mR_75]; exact lj_v 42 1 7 (RX7, TX7, 2) (by decide +kernel) tb_160 tb_89 tb_90 rfl rfl rfl rfl (by decide +kernel)⟩
theorem k_30_80 (L : Nat) (xs : Nat → Int32) : ll_OK1 cX3_become RX3 none false ll_mN ll_mR ll_mK ll_cnt L xs false 80 (.inl (lo_iinc 83 2 1)) := lk_iinc (n := 1) (by decide +kernel) (by decide)
theorem k_30_83 (L : Nat) (xs : Nat → Int32) : ll_OK1 cX3_become RX3 none false ll_mN ll_mR ll_mK ll_cnt L xs false 83 (.inl (lo_goto 60)) := lk_goto (off := (-23)) (by decide +kernel) rfl
theorem k_30_86 (L : Nat) (xs : Nat → Int32) : ll_OK1 cX3_become RX3 none false ll_mN ll_mR ll_mK ll_cnt L xs false 86 (.inr (.inr 0)) := ⟨fun _ => ⟨(by decide +kernel), rfl⟩, (fun h => by cases h), fun h => by cases h⟩
theorem ok_30 (L : Nat) (xs : Nat → Int32) : ∀ q ∈ cd_30, ll_OK1 cX3_become RX3 none false ll_mN ll_mR ll_mK ll_cnt L xs false q.1 q.2 :=
  List.forall_mem_cons.mpr ⟨k_30_0 L xs, List.forall_mem_cons.mpr ⟨k_30_1 L xs, List.forall_mem_cons.mpr ⟨k_30_4 L xs, List.forall_mem_cons.mpr ⟨k_30_5 L xs, List.forall_mem_cons.mpr ⟨k_30_8 L xs, List.forall_mem_cons.mpr ⟨k_30_11 L xs, List.forall_mem_cons.mpr ⟨k_30_12 L xs, List.forall_mem_cons.mpr ⟨k_30_13 L xs, List.forall_mem_cons.mpr ⟨k_30_16 L xs, List.forall_mem_cons.mpr ⟨k_30_19 L xs, List.forall_mem_cons.mpr ⟨k_30_20 L xs, List.forall_mem_cons.mpr ⟨k_30_23 L xs, List.forall_mem_cons.mpr ⟨k_30_24 L xs, List.forall_mem_cons.mpr ⟨k_30_27 L xs, List.forall_mem_cons.mpr ⟨k_30_30 L xs, List.forall_mem_cons.mpr ⟨k_30_31 L xs, List.forall_mem_cons.mpr ⟨k_30_32 L xs, List.forall_mem_cons.mpr ⟨k_30_33 L xs, List.forall_mem_cons.mpr ⟨k_30_34 L xs, List.forall_mem_cons.mpr ⟨k_30_37 L xs, List.forall_mem_cons.mpr ⟨k_30_38 L xs, List.forall_mem_cons.mpr ⟨k_30_41 L xs, List.forall_mem_cons.mpr ⟨k_30_42 L xs, List.forall_mem_cons.mpr ⟨k_30_43 L xs, List.forall_mem_cons.mpr ⟨k_30_44 L xs, List.forall_mem_cons.mpr ⟨k_30_47 L xs, List.forall_mem_cons.mpr ⟨k_30_48 L xs, List.forall_mem_cons.mpr ⟨k_30_49 L xs, List.forall_mem_cons.mpr ⟨k_30_52 L xs, List.forall_mem_cons.mpr ⟨k_30_55 L xs, List.forall_mem_cons.mpr ⟨k_30_58 L xs, List.forall_mem_cons.mpr ⟨k_30_59 L xs, List.forall_mem_cons.mpr ⟨k_30_60 L xs, List.forall_mem_cons.mpr ⟨k_30_61 L xs, List.forall_mem_cons.mpr ⟨k_30_62 L xs, List.forall_mem_cons.mpr ⟨k_30_65 L xs, List.forall_mem_cons.mpr ⟨k_30_66 L xs, List.forall_mem_cons.mpr ⟨k_30_69 L xs, List.forall_mem_cons.mpr ⟨k_30_70 L xs, List.forall_mem_cons.mpr ⟨k_30_71 L xs, List.forall_mem_cons.mpr ⟨k_30_72 L xs, List.forall_mem_cons.mpr ⟨k_30_75 L xs, List.forall_mem_cons.mpr ⟨k_30_76 L xs, List.forall_mem_cons.mpr ⟨k_30_77 L xs, List.forall_mem_cons.mpr ⟨k_30_80 L xs, List.forall_mem_cons.mpr ⟨k_30_83 L xs, List.forall_mem_cons.mpr ⟨k_30_86 L xs, fun _ h => absurd h List.not_mem_nil⟩⟩⟩⟩⟩⟩⟩⟩⟩⟩⟩⟩⟩⟩⟩⟩⟩⟩⟩⟩⟩⟩⟩⟩⟩⟩⟩⟩⟩⟩⟩⟩⟩⟩⟩⟩⟩⟩⟩⟩⟩⟩⟩⟩⟩⟩⟩
/-- InclusionProver$Search.<init>.(LInclusionProver$Side;LInclusionProver$Side;LInclusionProver$Lines;)V -/
def cd_31 : List (Nat × ll_O) := [
  (0, .inl (lo_aload 1 0)),
  (1, .inl (lo_init 4)),
  (4, .inl (lo_aload 5 0)),
  (5, .inl (lo_push 8 (.int 300))),
  (8, .inl (lo_newa 10 0)),
  (10, .inl (lo_putf 13 4 0 2)),
  (13, .inl (lo_aload 14 0)),
  (14, .inl (lo_push 17 (.int 300))),
  (17, .inl (lo_newa 19 0)),
  (19, .inl (lo_putf 22 4 1 2)),
  (22, .inl (lo_aload 23 0)),
  (23, .inl (lo_push 26 (.int 300))),
  (26, .inl (lo_newa 28 0)),
  (28, .inl (lo_putf 31 4 2 2)),
  (31, .inl (lo_aload 32 0)),
  (32, .inl (lo_push 34 (.int 31))),
  (34, .inl (lo_newa 36 0)),
  (36, .inl (lo_putf 39 4 3 2)),
  (39, .inl (lo_aload 40 0)),
  (40, .inl (lo_push 42 (.int 31))),
  (42, .inl (lo_newa 44 0)),
  (44, .inl (lo_putf 47 4 4 2)),
  (47, .inl (lo_aload 48 0)),
  (48, .inl (lo_push 51 (.int 300))),
  (51, .inl (lo_newa 53 0)),
  (53, .inl (lo_putf 56 4 5 2)),
  (56, .inl (lo_aload 57 0)),
  (57, .inl (lo_push 59 (.int 31))),
  (59, .inl (lo_newa 61 0)),
  (61, .inl (lo_putf 64 4 6 2)),
  (64, .inl (lo_aload 65 0)),
  (65, .inl (lo_aload 66 1)),
  (66, .inl (lo_putf 69 4 7 2)),
  (69, .inl (lo_aload 70 0)),
  (70, .inl (lo_aload 71 2)),
  (71, .inl (lo_putf 74 4 8 2)),
  (74, .inl (lo_aload 75 0)),
  (75, .inl (lo_aload 76 3)),
  (76, .inl (lo_putf 79 4 9 2)),
  (79, .inr (.inr 0))]
theorem k_31_0 (L : Nat) (xs : Nat → Int32) : ll_OK1 cX4_init RX4 none true ll_mN ll_mR ll_mK ll_cnt L xs false 0 (.inl (lo_aload 1 0)) := lk_aload_n (k := 0) (by decide +kernel) rfl
theorem k_31_1 (L : Nat) (xs : Nat → Int32) : ll_OK1 cX4_init RX4 none true ll_mN ll_mR ll_mK ll_cnt L xs false 1 (.inl (lo_init 4)) := lk_init (ix := 3) (by decide +kernel) tb_167 tb_1 tb_2
theorem k_31_4 (L : Nat) (xs : Nat → Int32) : ll_OK1 cX4_init RX4 none true ll_mN ll_mR ll_mK ll_cnt L xs false 4 (.inl (lo_aload 5 0)) := lk_aload_n (k := 0) (by decide +kernel) rfl
theorem k_31_5 (L : Nat) (xs : Nat → Int32) : ll_OK1 cX4_init RX4 none true ll_mN ll_mR ll_mK ll_cnt L xs false 5 (.inl (lo_push 8 (.int 300))) := lk_sipush (n := 300) (by decide +kernel) (by decide)
theorem k_31_8 (L : Nat) (xs : Nat → Int32) : ll_OK1 cX4_init RX4 none true ll_mN ll_mR ll_mK ll_cnt L xs false 8 (.inl (lo_newa 10 0)) := lk_newa_int (by decide +kernel) tb_61
theorem k_31_10 (L : Nat) (xs : Nat → Int32) : ll_OK1 cX4_init RX4 none true ll_mN ll_mR ll_mK ll_cnt L xs false 10 (.inl (lo_putf 13 4 0 2)) := lk_putf (ix := 9) (ci := 4) (k := 0) (C := RX4) (T := TX4) (N := 10) (ty0 := tyX4) (by decide +kernel) rfl in_4 tyX4_ok nmX4 (by decide) tb_168 (fun B adr v w h1 h2 => ll_fit_arr (B := B) (adr := adr) h1 h2) (Or.inr ⟨rfl, rfl, rfl⟩)
theorem k_31_13 (L : Nat) (xs : Nat → Int32) : ll_OK1 cX4_init RX4 none true ll_mN ll_mR ll_mK ll_cnt L xs false 13 (.inl (lo_aload 14 0)) := lk_aload_n (k := 0) (by decide +kernel) rfl
theorem k_31_14 (L : Nat) (xs : Nat → Int32) : ll_OK1 cX4_init RX4 none true ll_mN ll_mR ll_mK ll_cnt L xs false 14 (.inl (lo_push 17 (.int 300))) := lk_sipush (n := 300) (by decide +kernel) (by decide)
theorem k_31_17 (L : Nat) (xs : Nat → Int32) : ll_OK1 cX4_init RX4 none true ll_mN ll_mR ll_mK ll_cnt L xs false 17 (.inl (lo_newa 19 0)) := lk_newa_int (by decide +kernel) tb_61
theorem k_31_19 (L : Nat) (xs : Nat → Int32) : ll_OK1 cX4_init RX4 none true ll_mN ll_mR ll_mK ll_cnt L xs false 19 (.inl (lo_putf 22 4 1 2)) := lk_putf (ix := 15) (ci := 4) (k := 1) (C := RX4) (T := TX4) (N := 10) (ty0 := tyX4) (by decide +kernel) rfl in_4 tyX4_ok nmX4 (by decide) tb_169 (fun B adr v w h1 h2 => ll_fit_arr (B := B) (adr := adr) h1 h2) (Or.inr ⟨rfl, rfl, rfl⟩)
theorem k_31_22 (L : Nat) (xs : Nat → Int32) : ll_OK1 cX4_init RX4 none true ll_mN ll_mR ll_mK ll_cnt L xs false 22 (.inl (lo_aload 23 0)) := lk_aload_n (k := 0) (by decide +kernel) rfl
theorem k_31_23 (L : Nat) (xs : Nat → Int32) : ll_OK1 cX4_init RX4 none true ll_mN ll_mR ll_mK ll_cnt L xs false 23 (.inl (lo_push 26 (.int 300))) := lk_sipush (n := 300) (by decide +kernel) (by decide)
theorem k_31_26 (L : Nat) (xs : Nat → Int32) : ll_OK1 cX4_init RX4 none true ll_mN ll_mR ll_mK ll_cnt L xs false 26 (.inl (lo_newa 28 0)) := lk_newa_int (by decide +kernel) tb_61
theorem k_31_28 (L : Nat) (xs : Nat → Int32) : ll_OK1 cX4_init RX4 none true ll_mN ll_mR ll_mK ll_cnt L xs false 28 (.inl (lo_putf 31 4 2 2)) := lk_putf (ix := 18) (ci := 4) (k := 2) (C := RX4) (T := TX4) (N := 10) (ty0 := tyX4) (by decide +kernel) rfl in_4 tyX4_ok nmX4 (by decide) tb_170 (fun B adr v w h1 h2 => ll_fit_arr (B := B) (adr := adr) h1 h2) (Or.inr ⟨rfl, rfl, rfl⟩)
theorem k_31_31 (L : Nat) (xs : Nat → Int32) : ll_OK1 cX4_init RX4 none true ll_mN ll_mR ll_mK ll_cnt L xs false 31 (.inl (lo_aload 32 0)) := lk_aload_n (k := 0) (by decide +kernel) rfl
theorem k_31_32 (L : Nat) (xs : Nat → Int32) : ll_OK1 cX4_init RX4 none true ll_mN ll_mR ll_mK ll_cnt L xs false 32 (.inl (lo_push 34 (.int 31))) := lk_bipush (n := 31) (by decide +kernel) (by decide)
theorem k_31_34 (L : Nat) (xs : Nat → Int32) : ll_OK1 cX4_init RX4 none true ll_mN ll_mR ll_mK ll_cnt L xs false 34 (.inl (lo_newa 36 0)) := lk_newa_int (by decide +kernel) tb_61
theorem k_31_36 (L : Nat) (xs : Nat → Int32) : ll_OK1 cX4_init RX4 none true ll_mN ll_mR ll_mK ll_cnt L xs false 36 (.inl (lo_putf 39 4 3 2)) := lk_putf (ix := 21) (ci := 4) (k := 3) (C := RX4) (T := TX4) (N := 10) (ty0 := tyX4) (by decide +kernel) rfl in_4 tyX4_ok nmX4 (by decide) tb_171 (fun B adr v w h1 h2 => ll_fit_arr (B := B) (adr := adr) h1 h2) (Or.inr ⟨rfl, rfl, rfl⟩)
theorem k_31_39 (L : Nat) (xs : Nat → Int32) : ll_OK1 cX4_init RX4 none true ll_mN ll_mR ll_mK ll_cnt L xs false 39 (.inl (lo_aload 40 0)) := lk_aload_n (k := 0) (by decide +kernel) rfl
theorem k_31_40 (L : Nat) (xs : Nat → Int32) : ll_OK1 cX4_init RX4 none true ll_mN ll_mR ll_mK ll_cnt L xs false 40 (.inl (lo_push 42 (.int 31))) := lk_bipush (n := 31) (by decide +kernel) (by decide)
theorem k_31_42 (L : Nat) (xs : Nat → Int32) : ll_OK1 cX4_init RX4 none true ll_mN ll_mR ll_mK ll_cnt L xs false 42 (.inl (lo_newa 44 0)) := lk_newa_int (by decide +kernel) tb_61
theorem k_31_44 (L : Nat) (xs : Nat → Int32) : ll_OK1 cX4_init RX4 none true ll_mN ll_mR ll_mK ll_cnt L xs false 44 (.inl (lo_putf 47 4 4 2)) := lk_putf (ix := 24) (ci := 4) (k := 4) (C := RX4) (T := TX4) (N := 10) (ty0 := tyX4) (by decide +kernel) rfl in_4 tyX4_ok nmX4 (by decide) tb_172 (fun B adr v w h1 h2 => ll_fit_arr (B := B) (adr := adr) h1 h2) (Or.inr ⟨rfl, rfl, rfl⟩)
theorem k_31_47 (L : Nat) (xs : Nat → Int32) : ll_OK1 cX4_init RX4 none true ll_mN ll_mR ll_mK ll_cnt L xs false 47 (.inl (lo_aload 48 0)) := lk_aload_n (k := 0) (by decide +kernel) rfl
theorem k_31_48 (L : Nat) (xs : Nat → Int32) : ll_OK1 cX4_init RX4 none true ll_mN ll_mR ll_mK ll_cnt L xs false 48 (.inl (lo_push 51 (.int 300))) := lk_sipush (n := 300) (by decide +kernel) (by decide)
theorem k_31_51 (L : Nat) (xs : Nat → Int32) : ll_OK1 cX4_init RX4 none true ll_mN ll_mR ll_mK ll_cnt L xs false 51 (.inl (lo_newa 53 0)) := lk_newa_int (by decide +kernel) tb_61
theorem k_31_53 (L : Nat) (xs : Nat → Int32) : ll_OK1 cX4_init RX4 none true ll_mN ll_mR ll_mK ll_cnt L xs false 53 (.inl (lo_putf 56 4 5 2)) := lk_putf (ix := 27) (ci := 4) (k := 5) (C := RX4) (T := TX4) (N := 10) (ty0 := tyX4) (by decide +kernel) rfl in_4 tyX4_ok nmX4 (by decide) tb_173 (fun B adr v w h1 h2 => ll_fit_arr (B := B) (adr := adr) h1 h2) (Or.inr ⟨rfl, rfl, rfl⟩)
theorem k_31_56 (L : Nat) (xs : Nat → Int32) : ll_OK1 cX4_init RX4 none true ll_mN ll_mR ll_mK ll_cnt L xs false 56 (.inl (lo_aload 57 0)) := lk_aload_n (k := 0) (by decide +kernel) rfl
theorem k_31_57 (L : Nat) (xs : Nat → Int32) : ll_OK1 cX4_init RX4 none true ll_mN ll_mR ll_mK ll_cnt L xs false 57 (.inl (lo_push 59 (.int 31))) := lk_bipush (n := 31) (by decide +kernel) (by decide)
theorem k_31_59 (L : Nat) (xs : Nat → Int32) : ll_OK1 cX4_init RX4 none true ll_mN ll_mR ll_mK ll_cnt L xs false 59 (.inl (lo_newa 61 0)) := lk_newa_int (by decide +kernel) tb_61
theorem k_31_61 (L : Nat) (xs : Nat → Int32) : ll_OK1 cX4_init RX4 none true ll_mN ll_mR ll_mK ll_cnt L xs false 61 (.inl (lo_putf 64 4 6 2)) := lk_putf (ix := 30) (ci := 4) (k := 6) (C := RX4) (T := TX4) (N := 10) (ty0 := tyX4) (by decide +kernel) rfl in_4 tyX4_ok nmX4 (by decide) tb_174 (fun B adr v w h1 h2 => ll_fit_arr (B := B) (adr := adr) h1 h2) (Or.inr ⟨rfl, rfl, rfl⟩)
theorem k_31_64 (L : Nat) (xs : Nat → Int32) : ll_OK1 cX4_init RX4 none true ll_mN ll_mR ll_mK ll_cnt L xs false 64 (.inl (lo_aload 65 0)) := lk_aload_n (k := 0) (by decide +kernel) rfl
theorem k_31_65 (L : Nat) (xs : Nat → Int32) : ll_OK1 cX4_init RX4 none true ll_mN ll_mR ll_mK ll_cnt L xs false 65 (.inl (lo_aload 66 1)) := lk_aload_n (k := 1) (by decide +kernel) rfl
theorem k_31_66 (L : Nat) (xs : Nat → Int32) : ll_OK1 cX4_init RX4 none true ll_mN ll_mR ll_mK ll_cnt L xs false 66 (.inl (lo_putf 69 4 7 2)) := lk_putf (ix := 33) (ci := 4) (k := 7) (C := RX4) (T := TX4) (N := 10) (ty0 := tyX4) (by decide +kernel) rfl in_4 tyX4_ok nmX4 (by decide) tb_175 (fun B adr v w h1 h2 => ll_fit_obj (B := B) (adr := adr) h1 h2) (Or.inl rfl)
theorem k_31_69 (L : Nat) (xs : Nat → Int32) : ll_OK1 cX4_init RX4 none true ll_mN ll_mR ll_mK ll_cnt L xs false 69 (.inl (lo_aload 70 0)) := lk_aload_n (k := 0) (by decide +kernel) rfl
theorem k_31_70 (L : Nat) (xs : Nat → Int32) : ll_OK1 cX4_init RX4 none true ll_mN ll_mR ll_mK ll_cnt L xs false 70 (.inl (lo_aload 71 2)) := lk_aload_n (k := 2) (by decide +kernel) rfl
theorem k_31_71 (L : Nat) (xs : Nat → Int32) : ll_OK1 cX4_init RX4 none true ll_mN ll_mR ll_mK ll_cnt L xs false 71 (.inl (lo_putf 74 4 8 2)) := lk_putf (ix := 37) (ci := 4) (k := 8) (C := RX4) (T := TX4) (N := 10) (ty0 := tyX4) (by decide +kernel) rfl in_4 tyX4_ok nmX4 (by decide) tb_176 (fun B adr v w h1 h2 => ll_fit_obj (B := B) (adr := adr) h1 h2) (Or.inl rfl)
theorem k_31_74 (L : Nat) (xs : Nat → Int32) : ll_OK1 cX4_init RX4 none true ll_mN ll_mR ll_mK ll_cnt L xs false 74 (.inl (lo_aload 75 0)) := lk_aload_n (k := 0) (by decide +kernel) rfl
theorem k_31_75 (L : Nat) (xs : Nat → Int32) : ll_OK1 cX4_init RX4 none true ll_mN ll_mR ll_mK ll_cnt L xs false 75 (.inl (lo_aload 76 3)) := lk_aload_n (k := 3) (by decide +kernel) rfl
theorem k_31_76 (L : Nat) (xs : Nat → Int32) : ll_OK1 cX4_init RX4 none true ll_mN ll_mR ll_mK ll_cnt L xs false 76 (.inl (lo_putf 79 4 9 2)) := lk_putf (ix := 40) (ci := 4) (k := 9) (C := RX4) (T := TX4) (N := 10) (ty0 := tyX4) (by decide +kernel) rfl in_4 tyX4_ok nmX4 (by decide) tb_177 (fun B adr v w h1 h2 => ll_fit_obj (B := B) (adr := adr) h1 h2) (Or.inl rfl)
theorem k_31_79 (L : Nat) (xs : Nat → Int32) : ll_OK1 cX4_init RX4 none true ll_mN ll_mR ll_mK ll_cnt L xs false 79 (.inr (.inr 0)) := ⟨fun _ => ⟨(by decide +kernel), rfl⟩, (fun h => by cases h), fun h => by cases h⟩
theorem ok_31 (L : Nat) (xs : Nat → Int32) : ∀ q ∈ cd_31, ll_OK1 cX4_init RX4 none true ll_mN ll_mR ll_mK ll_cnt L xs false q.1 q.2 :=
  List.forall_mem_cons.mpr ⟨k_31_0 L xs, List.forall_mem_cons.mpr ⟨k_31_1 L xs, List.forall_mem_cons.mpr ⟨k_31_4 L xs, List.forall_mem_cons.mpr ⟨k_31_5 L xs, List.forall_mem_cons.mpr ⟨k_31_8 L xs, List.forall_mem_cons.mpr ⟨k_31_10 L xs, List.forall_mem_cons.mpr ⟨k_31_13 L xs, List.forall_mem_cons.mpr ⟨k_31_14 L xs, List.forall_mem_cons.mpr ⟨k_31_17 L xs, List.forall_mem_cons.mpr ⟨k_31_19 L xs, List.forall_mem_cons.mpr ⟨k_31_22 L xs, List.forall_mem_cons.mpr ⟨k_31_23 L xs, List.forall_mem_cons.mpr ⟨k_31_26 L xs, List.forall_mem_cons.mpr ⟨k_31_28 L xs, List.forall_mem_cons.mpr ⟨k_31_31 L xs, List.forall_mem_cons.mpr ⟨k_31_32 L xs, List.forall_mem_cons.mpr ⟨k_31_34 L xs, List.forall_mem_cons.mpr ⟨k_31_36 L xs, List.forall_mem_cons.mpr ⟨k_31_39 L xs, List.forall_mem_cons.mpr ⟨k_31_40 L xs, List.forall_mem_cons.mpr ⟨k_31_42 L xs, List.forall_mem_cons.mpr ⟨k_31_44 L xs, List.forall_mem_cons.mpr ⟨k_31_47 L xs, List.forall_mem_cons.mpr ⟨k_31_48 L xs, List.forall_mem_cons.mpr ⟨k_31_51 L xs, List.forall_mem_cons.mpr ⟨k_31_53 L xs, List.forall_mem_cons.mpr ⟨k_31_56 L xs, List.forall_mem_cons.mpr ⟨k_31_57 L xs, List.forall_mem_cons.mpr ⟨k_31_59 L xs, List.forall_mem_cons.mpr ⟨k_31_61 L xs, List.forall_mem_cons.mpr ⟨k_31_64 L xs, List.forall_mem_cons.mpr ⟨k_31_65 L xs, List.forall_mem_cons.mpr ⟨k_31_66 L xs, List.forall_mem_cons.mpr ⟨k_31_69 L xs, List.forall_mem_cons.mpr ⟨k_31_70 L xs, List.forall_mem_cons.mpr ⟨k_31_71 L xs, List.forall_mem_cons.mpr ⟨k_31_74 L xs, List.forall_mem_cons.mpr ⟨k_31_75 L xs, List.forall_mem_cons.mpr ⟨k_31_76 L xs, List.forall_mem_cons.mpr ⟨k_31_79 L xs, fun _ h => absurd h List.not_mem_nil⟩⟩⟩⟩⟩⟩⟩⟩⟩⟩⟩⟩⟩⟩⟩⟩⟩⟩⟩⟩⟩⟩⟩⟩⟩⟩⟩⟩⟩⟩⟩⟩⟩⟩⟩⟩⟩⟩⟩⟩
