/-! BLOCKS (written by wip/whole/blocks.py) -/
/-! InclusionProver$WordCounter.begin.(LInclusionProver$Side;LInclusionProver$Side;I)V -/
theorem p_105_0 (L : Nat) (xs : Nat → Int32) : ll_P L xs 105 0 = some (.inl (lo_aload 1 0)) := (P_105 L xs 0).trans rfl
theorem p_105_1 (L : Nat) (xs : Nat → Int32) : ll_P L xs 105 1 = some (.inl (lo_aload 2 1)) := (P_105 L xs 1).trans rfl
theorem p_105_2 (L : Nat) (xs : Nat → Int32) : ll_P L xs 105 2 = some (.inl (lo_putf 5 9 4 2)) := (P_105 L xs 2).trans rfl
theorem p_105_5 (L : Nat) (xs : Nat → Int32) : ll_P L xs 105 5 = some (.inl (lo_aload 6 0)) := (P_105 L xs 5).trans rfl
theorem p_105_6 (L : Nat) (xs : Nat → Int32) : ll_P L xs 105 6 = some (.inl (lo_aload 7 2)) := (P_105 L xs 6).trans rfl
theorem p_105_7 (L : Nat) (xs : Nat → Int32) : ll_P L xs 105 7 = some (.inl (lo_putf 10 9 5 2)) := (P_105 L xs 7).trans rfl
theorem p_105_10 (L : Nat) (xs : Nat → Int32) : ll_P L xs 105 10 = some (.inl (lo_aload 11 0)) := (P_105 L xs 10).trans rfl
theorem p_105_11 (L : Nat) (xs : Nat → Int32) : ll_P L xs 105 11 = some (.inl (lo_iload 12 3)) := (P_105 L xs 11).trans rfl
theorem p_105_12 (L : Nat) (xs : Nat → Int32) : ll_P L xs 105 12 = some (.inl (lo_putf 15 9 6 0)) := (P_105 L xs 12).trans rfl
theorem p_105_15 (L : Nat) (xs : Nat → Int32) : ll_P L xs 105 15 = some (.inl (lo_aload 16 0)) := (P_105 L xs 15).trans rfl
theorem p_105_16 (L : Nat) (xs : Nat → Int32) : ll_P L xs 105 16 = some (.inl (lo_getf 19 9 2)) := (P_105 L xs 16).trans rfl
theorem p_105_19 (L : Nat) (xs : Nat → Int32) : ll_P L xs 105 19 = some (.inl (lo_push 20 (.int (-1)))) := (P_105 L xs 19).trans rfl
theorem p_105_20 (L : Nat) (xs : Nat → Int32) : ll_P L xs 105 20 = some (.inr (.inl (231, 2, 23))) := (P_105 L xs 20).trans rfl
theorem p_105_23 (L : Nat) (xs : Nat → Int32) : ll_P L xs 105 23 = some (.inr (.inr 0)) := (P_105 L xs 23).trans rfl
theorem b_105_0 {Y : sY} {d : Nat} {s : sT} {K : Option Int32 → sT → Prop} {r0 : Nat} {r1 : Nat} {r2 : Nat} {x3 : Int32} (h : (isO Y r0 9 ∧ (isO Y r0 9 ∧ (isO Y r0 9 ∧ (∃ a1, (isO Y r0 9 ∧ (pV (pR (pR s r0 4 (some r1)) r0 5 (some r2)) r0 6 x3).2 r0 2 = some a1) ∧ tT Y d 231 0 [.ref a1, .int (-1 : Int32), .null, .null] [] (pV (pR (pR s r0 4 (some r1)) r0 5 (some r2)) r0 6 x3) (fun r s1 => tT Y (d + 1) 105 23 [.ref r0, .ref r1, .ref r2, .int x3] ((r.map Value.int).toList ++ []) s1 K)))))) : tT Y (d + 1) 105 0 [.ref r0, .ref r1, .ref r2, .int x3] [] s K :=
  (tt_aload (p_105_0 _ _) rfl).mpr ((tt_aload (p_105_1 _ _) rfl).mpr ((t2_putr (p_105_2 _ _) isI_9_4 h.1).mpr ((tt_aload (p_105_5 _ _) rfl).mpr ((tt_aload (p_105_6 _ _) rfl).mpr ((t2_putr (p_105_7 _ _) isI_9_5 h.2.1).mpr ((tt_aload (p_105_10 _ _) rfl).mpr ((tt_iload (p_105_11 _ _) rfl).mpr ((t2_puti (p_105_12 _ _) isI_9_6 h.2.2.1).mpr ((tt_aload (p_105_15 _ _) rfl).mpr (Exists.elim h.2.2.2 (fun a1 h2 => t3_getr (p_105_16 _ _) (isI_9_2) h2.1.1 h2.1.2 ((tt_push (p_105_19 _ _)).mpr (t2_calls (z := 231) (k := 2) (as := [.ref a1, .int (-1 : Int32)]) (rest := []) (p_105_20 _ _) mK_231 mL_231 rfl rfl (Nat.le_of_ble_eq_true rfl) rfl (Nat.le_of_ble_eq_true rfl) h2.2)))))))))))))
theorem b_105_23 {Y : sY} {d : Nat} {s : sT} {K : Option Int32 → sT → Prop} {r0 : Nat} {r1 : Nat} {r2 : Nat} {x3 : Int32} (h : K none s) : tT Y (d + 1) 105 23 [.ref r0, .ref r1, .ref r2, .int x3] [] s K :=
  tt_ret0 (p_105_23 _ _) h
/-! InclusionProver$WordCounter.startLeft.()I -/
theorem p_106_0 (L : Nat) (xs : Nat → Int32) : ll_P L xs 106 0 = some (.inl (lo_aload 1 0)) := (P_106 L xs 0).trans rfl
theorem p_106_1 (L : Nat) (xs : Nat → Int32) : ll_P L xs 106 1 = some (.inl (lo_getf 4 9 6)) := (P_106 L xs 1).trans rfl
theorem p_106_4 (L : Nat) (xs : Nat → Int32) : ll_P L xs 106 4 = some (.inl (lo_push 5 (.int 1))) := (P_106 L xs 4).trans rfl
theorem p_106_5 (L : Nat) (xs : Nat → Int32) : ll_P L xs 106 5 = some (.inl (lo_cmp 12 8 (fun x y => decide (¬ x = y)))) := (P_106 L xs 5).trans rfl
theorem p_106_8 (L : Nat) (xs : Nat → Int32) : ll_P L xs 106 8 = some (.inl (lo_push 9 (.int 0))) := (P_106 L xs 8).trans rfl
theorem p_106_9 (L : Nat) (xs : Nat → Int32) : ll_P L xs 106 9 = some (.inl (lo_goto 13)) := (P_106 L xs 9).trans rfl
theorem p_106_12 (L : Nat) (xs : Nat → Int32) : ll_P L xs 106 12 = some (.inl (lo_push 13 (.int 1))) := (P_106 L xs 12).trans rfl
theorem p_106_13 (L : Nat) (xs : Nat → Int32) : ll_P L xs 106 13 = some (.inr (.inr 1)) := (P_106 L xs 13).trans rfl
theorem b_106_0 {Y : sY} {d : Nat} {s : sT} {K : Option Int32 → sT → Prop} {r0 : Nat} (h : (isO Y r0 9 ∧ (if ¬ (s.1 r0 6) = (1 : Int32) then K (some (1 : Int32)) s else K (some (0 : Int32)) s))) : tT Y d 106 0 [.ref r0] [] s K :=
  (tt_aload (p_106_0 _ _) rfl).mpr (t3_geti (p_106_1 _ _) (isI_9_6) h.1 ((tt_push (p_106_4 _ _)).mpr (t3_cmp (p := ¬ (s.1 r0 6) = (1 : Int32)) (p_106_5 _ _) rfl (fun g1 => (tt_push (p_106_12 _ _)).mpr (tt_ret1 (p_106_13 _ _) (ifp h.2 g1))) (fun g1 => (tt_push (p_106_8 _ _)).mpr ((tt_goto (p_106_9 _ _)).mpr (tt_ret1 (p_106_13 _ _) (ifn h.2 g1)))))))
/-! InclusionProver$WordCounter.startRight.()I -/
theorem p_107_0 (L : Nat) (xs : Nat → Int32) : ll_P L xs 107 0 = some (.inl (lo_aload 1 0)) := (P_107 L xs 0).trans rfl
theorem p_107_1 (L : Nat) (xs : Nat → Int32) : ll_P L xs 107 1 = some (.inl (lo_getf 4 9 6)) := (P_107 L xs 1).trans rfl
theorem p_107_4 (L : Nat) (xs : Nat → Int32) : ll_P L xs 107 4 = some (.inl (lo_if 11 7 (fun x => decide (¬ x = 0)))) := (P_107 L xs 4).trans rfl
theorem p_107_7 (L : Nat) (xs : Nat → Int32) : ll_P L xs 107 7 = some (.inl (lo_push 8 (.int 0))) := (P_107 L xs 7).trans rfl
theorem p_107_8 (L : Nat) (xs : Nat → Int32) : ll_P L xs 107 8 = some (.inl (lo_goto 12)) := (P_107 L xs 8).trans rfl
theorem p_107_11 (L : Nat) (xs : Nat → Int32) : ll_P L xs 107 11 = some (.inl (lo_push 12 (.int 1))) := (P_107 L xs 11).trans rfl
theorem p_107_12 (L : Nat) (xs : Nat → Int32) : ll_P L xs 107 12 = some (.inr (.inr 1)) := (P_107 L xs 12).trans rfl
theorem b_107_0 {Y : sY} {d : Nat} {s : sT} {K : Option Int32 → sT → Prop} {r0 : Nat} (h : (isO Y r0 9 ∧ (if ¬ (s.1 r0 6) = 0 then K (some (1 : Int32)) s else K (some (0 : Int32)) s))) : tT Y d 107 0 [.ref r0] [] s K :=
  (tt_aload (p_107_0 _ _) rfl).mpr (t3_geti (p_107_1 _ _) (isI_9_6) h.1 (t3_if (p := ¬ (s.1 r0 6) = 0) (p_107_4 _ _) rfl (fun g1 => (tt_push (p_107_11 _ _)).mpr (tt_ret1 (p_107_12 _ _) (ifp h.2 g1))) (fun g1 => (tt_push (p_107_7 _ _)).mpr ((tt_goto (p_107_8 _ _)).mpr (tt_ret1 (p_107_12 _ _) (ifn h.2 g1))))))
/-! InclusionProver$WordCounter.countBehind.(IIII)I -/
theorem p_108_0 (L : Nat) (xs : Nat → Int32) : ll_P L xs 108 0 = some (.inl (lo_aload 1 0)) := (P_108 L xs 0).trans rfl
theorem p_108_1 (L : Nat) (xs : Nat → Int32) : ll_P L xs 108 1 = some (.inl (lo_aload 2 0)) := (P_108 L xs 1).trans rfl
theorem p_108_2 (L : Nat) (xs : Nat → Int32) : ll_P L xs 108 2 = some (.inl (lo_getf 5 9 4)) := (P_108 L xs 2).trans rfl
theorem p_108_5 (L : Nat) (xs : Nat → Int32) : ll_P L xs 108 5 = some (.inl (lo_iload 6 1)) := (P_108 L xs 5).trans rfl
theorem p_108_6 (L : Nat) (xs : Nat → Int32) : ll_P L xs 108 6 = some (.inl (lo_iload 7 3)) := (P_108 L xs 6).trans rfl
theorem p_108_7 (L : Nat) (xs : Nat → Int32) : ll_P L xs 108 7 = some (.inr (.inl (54, 3, 10))) := (P_108 L xs 7).trans rfl
theorem p_108_10 (L : Nat) (xs : Nat → Int32) : ll_P L xs 108 10 = some (.inl (lo_aload 11 0)) := (P_108 L xs 10).trans rfl
theorem p_108_11 (L : Nat) (xs : Nat → Int32) : ll_P L xs 108 11 = some (.inl (lo_getf 14 9 5)) := (P_108 L xs 11).trans rfl
theorem p_108_14 (L : Nat) (xs : Nat → Int32) : ll_P L xs 108 14 = some (.inl (lo_iload 15 2)) := (P_108 L xs 14).trans rfl
theorem p_108_15 (L : Nat) (xs : Nat → Int32) : ll_P L xs 108 15 = some (.inl (lo_iload 16 3)) := (P_108 L xs 15).trans rfl
theorem p_108_16 (L : Nat) (xs : Nat → Int32) : ll_P L xs 108 16 = some (.inr (.inl (54, 3, 19))) := (P_108 L xs 16).trans rfl
theorem p_108_19 (L : Nat) (xs : Nat → Int32) : ll_P L xs 108 19 = some (.inl (lo_iload 21 4)) := (P_108 L xs 19).trans rfl
theorem p_108_21 (L : Nat) (xs : Nat → Int32) : ll_P L xs 108 21 = some (.inr (.inl (109, 4, 24))) := (P_108 L xs 21).trans rfl
theorem p_108_24 (L : Nat) (xs : Nat → Int32) : ll_P L xs 108 24 = some (.inr (.inr 1)) := (P_108 L xs 24).trans rfl
theorem b_108_0 {Y : sY} {d : Nat} {s : sT} {K : Option Int32 → sT → Prop} {r0 : Nat} {x1 : Int32} {x2 : Int32} {x3 : Int32} {x4 : Int32} (h : (∃ a1, (isO Y r0 9 ∧ s.2 r0 4 = some a1) ∧ (isO Y a1 5 ∧ tT Y d 54 0 [.ref a1, .int x1, .int x3, .null, .null] [] s (fun r s1 => tT Y (d + 1) 108 10 [.ref r0, .int x1, .int x2, .int x3, .int x4] ((r.map Value.int).toList ++ [.ref r0]) s1 K)))) : tT Y (d + 1) 108 0 [.ref r0, .int x1, .int x2, .int x3, .int x4] [] s K :=
  (tt_aload (p_108_0 _ _) rfl).mpr ((tt_aload (p_108_1 _ _) rfl).mpr (Exists.elim h (fun a1 h2 => t3_getr (p_108_2 _ _) (isI_9_4) h2.1.1 h2.1.2 ((tt_iload (p_108_5 _ _) rfl).mpr ((tt_iload (p_108_6 _ _) rfl).mpr (t2_callv (z := 54) (k := 3) (i := a1) (as := [.int x1, .int x3]) (rest := [.ref r0]) (p_108_7 _ _) mK_54 mL_54 rfl rfl (Nat.le_of_ble_eq_true rfl) rfl (Nat.le_of_ble_eq_true rfl) h2.2.1 h2.2.2))))))
theorem b_108_10 {Y : sY} {d : Nat} {s : sT} {K : Option Int32 → sT → Prop} {r0 : Nat} {x1 : Int32} {x2 : Int32} {x3 : Int32} {x4 : Int32} {t0 : Nat} {t1 : Int32} (h : (∃ a1, (isO Y r0 9 ∧ s.2 r0 5 = some a1) ∧ (isO Y a1 5 ∧ tT Y d 54 0 [.ref a1, .int x2, .int x3, .null, .null] [] s (fun r s1 => tT Y (d + 1) 108 19 [.ref r0, .int x1, .int x2, .int x3, .int x4] ((r.map Value.int).toList ++ [.int t1, .ref t0]) s1 K)))) : tT Y (d + 1) 108 10 [.ref r0, .int x1, .int x2, .int x3, .int x4] [.int t1, .ref t0] s K :=
  (tt_aload (p_108_10 _ _) rfl).mpr (Exists.elim h (fun a1 h2 => t3_getr (p_108_11 _ _) (isI_9_5) h2.1.1 h2.1.2 ((tt_iload (p_108_14 _ _) rfl).mpr ((tt_iload (p_108_15 _ _) rfl).mpr (t2_callv (z := 54) (k := 3) (i := a1) (as := [.int x2, .int x3]) (rest := [.int t1, .ref t0]) (p_108_16 _ _) mK_54 mL_54 rfl rfl (Nat.le_of_ble_eq_true rfl) rfl (Nat.le_of_ble_eq_true rfl) h2.2.1 h2.2.2)))))
theorem b_108_19 {Y : sY} {d : Nat} {s : sT} {K : Option Int32 → sT → Prop} {r0 : Nat} {x1 : Int32} {x2 : Int32} {x3 : Int32} {x4 : Int32} {t0 : Nat} {t1 : Int32} {t2 : Int32} (h : (isO Y t0 9 ∧ tT Y d 109 0 [.ref t0, .int t1, .int t2, .int x4, .null, .null, .null] [] s (fun r s1 => tT Y (d + 1) 108 24 [.ref r0, .int x1, .int x2, .int x3, .int x4] ((r.map Value.int).toList ++ []) s1 K))) : tT Y (d + 1) 108 19 [.ref r0, .int x1, .int x2, .int x3, .int x4] [.int t2, .int t1, .ref t0] s K :=
  (tt_iload (p_108_19 _ _) rfl).mpr (t2_callv (z := 109) (k := 4) (i := t0) (as := [.int t1, .int t2, .int x4]) (rest := []) (p_108_21 _ _) mK_109 mL_109 rfl rfl (Nat.le_of_ble_eq_true rfl) rfl (Nat.le_of_ble_eq_true rfl) h.1 h.2)
theorem b_108_24 {Y : sY} {d : Nat} {s : sT} {K : Option Int32 → sT → Prop} {r0 : Nat} {x1 : Int32} {x2 : Int32} {x3 : Int32} {x4 : Int32} {t0 : Int32} (h : K (some t0) s) : tT Y (d + 1) 108 24 [.ref r0, .int x1, .int x2, .int x3, .int x4] [.int t0] s K :=
  tt_ret1 (p_108_24 _ _) h
/-! InclusionProver$WordCounter.countFrom.(III)I -/
theorem p_109_0 (L : Nat) (xs : Nat → Int32) : ll_P L xs 109 0 = some (.inl (lo_iload 1 3)) := (P_109 L xs 0).trans rfl
theorem p_109_1 (L : Nat) (xs : Nat → Int32) : ll_P L xs 109 1 = some (.inl (lo_if 33 4 (fun x => decide (0 < x)))) := (P_109 L xs 1).trans rfl
theorem p_109_4 (L : Nat) (xs : Nat → Int32) : ll_P L xs 109 4 = some (.inl (lo_aload 5 0)) := (P_109 L xs 4).trans rfl
theorem p_109_5 (L : Nat) (xs : Nat → Int32) : ll_P L xs 109 5 = some (.inl (lo_aload 6 0)) := (P_109 L xs 5).trans rfl
theorem p_109_6 (L : Nat) (xs : Nat → Int32) : ll_P L xs 109 6 = some (.inl (lo_getf 9 9 4)) := (P_109 L xs 6).trans rfl
theorem p_109_9 (L : Nat) (xs : Nat → Int32) : ll_P L xs 109 9 = some (.inl (lo_iload 10 1)) := (P_109 L xs 9).trans rfl
theorem p_109_10 (L : Nat) (xs : Nat → Int32) : ll_P L xs 109 10 = some (.inr (.inl (47, 2, 13))) := (P_109 L xs 10).trans rfl
theorem p_109_13 (L : Nat) (xs : Nat → Int32) : ll_P L xs 109 13 = some (.inl (lo_aload 14 0)) := (P_109 L xs 13).trans rfl
theorem p_109_14 (L : Nat) (xs : Nat → Int32) : ll_P L xs 109 14 = some (.inl (lo_getf 17 9 5)) := (P_109 L xs 14).trans rfl
theorem p_109_17 (L : Nat) (xs : Nat → Int32) : ll_P L xs 109 17 = some (.inl (lo_iload 18 2)) := (P_109 L xs 17).trans rfl
theorem p_109_18 (L : Nat) (xs : Nat → Int32) : ll_P L xs 109 18 = some (.inr (.inl (47, 2, 21))) := (P_109 L xs 18).trans rfl
theorem p_109_21 (L : Nat) (xs : Nat → Int32) : ll_P L xs 109 21 = some (.inr (.inl (110, 3, 24))) := (P_109 L xs 21).trans rfl
theorem p_109_24 (L : Nat) (xs : Nat → Int32) : ll_P L xs 109 24 = some (.inl (lo_if 31 27 (fun x => decide (x = 0)))) := (P_109 L xs 24).trans rfl
theorem p_109_27 (L : Nat) (xs : Nat → Int32) : ll_P L xs 109 27 = some (.inl (lo_push 28 (.int 1))) := (P_109 L xs 27).trans rfl
theorem p_109_28 (L : Nat) (xs : Nat → Int32) : ll_P L xs 109 28 = some (.inl (lo_goto 32)) := (P_109 L xs 28).trans rfl
theorem p_109_31 (L : Nat) (xs : Nat → Int32) : ll_P L xs 109 31 = some (.inl (lo_push 32 (.int 0))) := (P_109 L xs 31).trans rfl
theorem p_109_32 (L : Nat) (xs : Nat → Int32) : ll_P L xs 109 32 = some (.inr (.inr 1)) := (P_109 L xs 32).trans rfl
theorem p_109_33 (L : Nat) (xs : Nat → Int32) : ll_P L xs 109 33 = some (.inl (lo_iload 34 1)) := (P_109 L xs 33).trans rfl
theorem p_109_34 (L : Nat) (xs : Nat → Int32) : ll_P L xs 109 34 = some (.inl (lo_if 58 37 (fun x => decide (¬ x = 0)))) := (P_109 L xs 34).trans rfl
theorem p_109_37 (L : Nat) (xs : Nat → Int32) : ll_P L xs 109 37 = some (.inl (lo_iload 38 2)) := (P_109 L xs 37).trans rfl
theorem p_109_38 (L : Nat) (xs : Nat → Int32) : ll_P L xs 109 38 = some (.inl (lo_if 58 41 (fun x => decide (¬ x = 0)))) := (P_109 L xs 38).trans rfl
theorem p_109_41 (L : Nat) (xs : Nat → Int32) : ll_P L xs 109 41 = some (.inl (lo_aload 42 0)) := (P_109 L xs 41).trans rfl
theorem p_109_42 (L : Nat) (xs : Nat → Int32) : ll_P L xs 109 42 = some (.inl (lo_getf 45 9 6)) := (P_109 L xs 42).trans rfl
theorem p_109_45 (L : Nat) (xs : Nat → Int32) : ll_P L xs 109 45 = some (.inl (lo_push 46 (.int 5))) := (P_109 L xs 45).trans rfl
theorem p_109_46 (L : Nat) (xs : Nat → Int32) : ll_P L xs 109 46 = some (.inl (lo_cmp 56 49 (fun x y => decide (¬ x = y)))) := (P_109 L xs 46).trans rfl
theorem p_109_49 (L : Nat) (xs : Nat → Int32) : ll_P L xs 109 49 = some (.inl (lo_iload 50 3)) := (P_109 L xs 49).trans rfl
theorem p_109_50 (L : Nat) (xs : Nat → Int32) : ll_P L xs 109 50 = some (.inr (.inl (111, 1, 53))) := (P_109 L xs 50).trans rfl
theorem p_109_53 (L : Nat) (xs : Nat → Int32) : ll_P L xs 109 53 = some (.inl (lo_goto 57)) := (P_109 L xs 53).trans rfl
theorem p_109_56 (L : Nat) (xs : Nat → Int32) : ll_P L xs 109 56 = some (.inl (lo_push 57 (.int 0))) := (P_109 L xs 56).trans rfl
theorem p_109_57 (L : Nat) (xs : Nat → Int32) : ll_P L xs 109 57 = some (.inr (.inr 1)) := (P_109 L xs 57).trans rfl
theorem p_109_58 (L : Nat) (xs : Nat → Int32) : ll_P L xs 109 58 = some (.inl (lo_iload 59 1)) := (P_109 L xs 58).trans rfl
theorem p_109_59 (L : Nat) (xs : Nat → Int32) : ll_P L xs 109 59 = some (.inl (lo_iload 60 2)) := (P_109 L xs 59).trans rfl
theorem p_109_60 (L : Nat) (xs : Nat → Int32) : ll_P L xs 109 60 = some (.inl (lo_iload 61 3)) := (P_109 L xs 60).trans rfl
theorem p_109_61 (L : Nat) (xs : Nat → Int32) : ll_P L xs 109 61 = some (.inr (.inl (112, 3, 64))) := (P_109 L xs 61).trans rfl
theorem p_109_64 (L : Nat) (xs : Nat → Int32) : ll_P L xs 109 64 = some (.inl (lo_istore 66 4)) := (P_109 L xs 64).trans rfl
theorem p_109_66 (L : Nat) (xs : Nat → Int32) : ll_P L xs 109 66 = some (.inl (lo_aload 67 0)) := (P_109 L xs 66).trans rfl
theorem p_109_67 (L : Nat) (xs : Nat → Int32) : ll_P L xs 109 67 = some (.inl (lo_getf 70 9 2)) := (P_109 L xs 67).trans rfl
theorem p_109_70 (L : Nat) (xs : Nat → Int32) : ll_P L xs 109 70 = some (.inl (lo_iload 72 4)) := (P_109 L xs 70).trans rfl
theorem p_109_72 (L : Nat) (xs : Nat → Int32) : ll_P L xs 109 72 = some (.inl (lo_ald 73 0)) := (P_109 L xs 72).trans rfl
theorem p_109_73 (L : Nat) (xs : Nat → Int32) : ll_P L xs 109 73 = some (.inl (lo_iload 74 3)) := (P_109 L xs 73).trans rfl
theorem p_109_74 (L : Nat) (xs : Nat → Int32) : ll_P L xs 109 74 = some (.inl (lo_cmp 107 77 (fun x y => decide (¬ x = y)))) := (P_109 L xs 74).trans rfl
theorem p_109_77 (L : Nat) (xs : Nat → Int32) : ll_P L xs 109 77 = some (.inl (lo_aload 78 0)) := (P_109 L xs 77).trans rfl
theorem p_109_78 (L : Nat) (xs : Nat → Int32) : ll_P L xs 109 78 = some (.inl (lo_getf 81 9 0)) := (P_109 L xs 78).trans rfl
theorem p_109_81 (L : Nat) (xs : Nat → Int32) : ll_P L xs 109 81 = some (.inl (lo_iload 83 4)) := (P_109 L xs 81).trans rfl
theorem p_109_83 (L : Nat) (xs : Nat → Int32) : ll_P L xs 109 83 = some (.inl (lo_ald 84 0)) := (P_109 L xs 83).trans rfl
theorem p_109_84 (L : Nat) (xs : Nat → Int32) : ll_P L xs 109 84 = some (.inl (lo_iload 85 1)) := (P_109 L xs 84).trans rfl
theorem p_109_85 (L : Nat) (xs : Nat → Int32) : ll_P L xs 109 85 = some (.inl (lo_cmp 107 88 (fun x y => decide (¬ x = y)))) := (P_109 L xs 85).trans rfl
theorem p_109_88 (L : Nat) (xs : Nat → Int32) : ll_P L xs 109 88 = some (.inl (lo_aload 89 0)) := (P_109 L xs 88).trans rfl
theorem p_109_89 (L : Nat) (xs : Nat → Int32) : ll_P L xs 109 89 = some (.inl (lo_getf 92 9 1)) := (P_109 L xs 89).trans rfl
theorem p_109_92 (L : Nat) (xs : Nat → Int32) : ll_P L xs 109 92 = some (.inl (lo_iload 94 4)) := (P_109 L xs 92).trans rfl
theorem p_109_94 (L : Nat) (xs : Nat → Int32) : ll_P L xs 109 94 = some (.inl (lo_ald 95 0)) := (P_109 L xs 94).trans rfl
theorem p_109_95 (L : Nat) (xs : Nat → Int32) : ll_P L xs 109 95 = some (.inl (lo_iload 96 2)) := (P_109 L xs 95).trans rfl
theorem p_109_96 (L : Nat) (xs : Nat → Int32) : ll_P L xs 109 96 = some (.inl (lo_cmp 107 99 (fun x y => decide (¬ x = y)))) := (P_109 L xs 96).trans rfl
theorem p_109_99 (L : Nat) (xs : Nat → Int32) : ll_P L xs 109 99 = some (.inl (lo_aload 100 0)) := (P_109 L xs 99).trans rfl
theorem p_109_100 (L : Nat) (xs : Nat → Int32) : ll_P L xs 109 100 = some (.inl (lo_getf 103 9 3)) := (P_109 L xs 100).trans rfl
theorem p_109_103 (L : Nat) (xs : Nat → Int32) : ll_P L xs 109 103 = some (.inl (lo_iload 105 4)) := (P_109 L xs 103).trans rfl
theorem p_109_105 (L : Nat) (xs : Nat → Int32) : ll_P L xs 109 105 = some (.inl (lo_ald 106 0)) := (P_109 L xs 105).trans rfl
theorem p_109_106 (L : Nat) (xs : Nat → Int32) : ll_P L xs 109 106 = some (.inr (.inr 1)) := (P_109 L xs 106).trans rfl
theorem p_109_107 (L : Nat) (xs : Nat → Int32) : ll_P L xs 109 107 = some (.inl (lo_push 108 (.int 0))) := (P_109 L xs 107).trans rfl
theorem p_109_108 (L : Nat) (xs : Nat → Int32) : ll_P L xs 109 108 = some (.inl (lo_istore 110 5)) := (P_109 L xs 108).trans rfl
theorem p_109_110 (L : Nat) (xs : Nat → Int32) : ll_P L xs 109 110 = some (.inl (lo_push 111 (.int 0))) := (P_109 L xs 110).trans rfl
theorem p_109_111 (L : Nat) (xs : Nat → Int32) : ll_P L xs 109 111 = some (.inl (lo_istore 113 6)) := (P_109 L xs 111).trans rfl
theorem p_109_113 (L : Nat) (xs : Nat → Int32) : ll_P L xs 109 113 = some (.inl (lo_iload 115 6)) := (P_109 L xs 113).trans rfl
theorem p_109_115 (L : Nat) (xs : Nat → Int32) : ll_P L xs 109 115 = some (.inl (lo_push 116 (.int 3))) := (P_109 L xs 115).trans rfl
theorem p_109_116 (L : Nat) (xs : Nat → Int32) : ll_P L xs 109 116 = some (.inl (lo_cmp 141 119 (fun x y => decide (y ≤ x)))) := (P_109 L xs 116).trans rfl
theorem p_109_119 (L : Nat) (xs : Nat → Int32) : ll_P L xs 109 119 = some (.inl (lo_iload 121 5)) := (P_109 L xs 119).trans rfl
theorem p_109_121 (L : Nat) (xs : Nat → Int32) : ll_P L xs 109 121 = some (.inl (lo_aload 122 0)) := (P_109 L xs 121).trans rfl
theorem p_109_122 (L : Nat) (xs : Nat → Int32) : ll_P L xs 109 122 = some (.inl (lo_iload 123 1)) := (P_109 L xs 122).trans rfl
theorem p_109_123 (L : Nat) (xs : Nat → Int32) : ll_P L xs 109 123 = some (.inl (lo_iload 124 2)) := (P_109 L xs 123).trans rfl
theorem p_109_124 (L : Nat) (xs : Nat → Int32) : ll_P L xs 109 124 = some (.inl (lo_iload 126 6)) := (P_109 L xs 124).trans rfl
theorem p_109_126 (L : Nat) (xs : Nat → Int32) : ll_P L xs 109 126 = some (.inl (lo_iload 127 3)) := (P_109 L xs 126).trans rfl
theorem p_109_127 (L : Nat) (xs : Nat → Int32) : ll_P L xs 109 127 = some (.inl (lo_push 128 (.int 1))) := (P_109 L xs 127).trans rfl
theorem p_109_128 (L : Nat) (xs : Nat → Int32) : ll_P L xs 109 128 = some (.inl (lo_bin 129 (fun x y => x - y))) := (P_109 L xs 128).trans rfl
theorem p_109_129 (L : Nat) (xs : Nat → Int32) : ll_P L xs 109 129 = some (.inr (.inl (108, 5, 132))) := (P_109 L xs 129).trans rfl
theorem p_109_132 (L : Nat) (xs : Nat → Int32) : ll_P L xs 109 132 = some (.inl (lo_bin 133 (fun x y => x + y))) := (P_109 L xs 132).trans rfl
theorem p_109_133 (L : Nat) (xs : Nat → Int32) : ll_P L xs 109 133 = some (.inl (lo_istore 135 5)) := (P_109 L xs 133).trans rfl
theorem p_109_135 (L : Nat) (xs : Nat → Int32) : ll_P L xs 109 135 = some (.inl (lo_iinc 138 6 1)) := (P_109 L xs 135).trans rfl
theorem p_109_138 (L : Nat) (xs : Nat → Int32) : ll_P L xs 109 138 = some (.inl (lo_goto 113)) := (P_109 L xs 138).trans rfl
theorem p_109_141 (L : Nat) (xs : Nat → Int32) : ll_P L xs 109 141 = some (.inl (lo_aload 142 0)) := (P_109 L xs 141).trans rfl
theorem p_109_142 (L : Nat) (xs : Nat → Int32) : ll_P L xs 109 142 = some (.inl (lo_getf 145 9 0)) := (P_109 L xs 142).trans rfl
theorem p_109_145 (L : Nat) (xs : Nat → Int32) : ll_P L xs 109 145 = some (.inl (lo_iload 147 4)) := (P_109 L xs 145).trans rfl
theorem p_109_147 (L : Nat) (xs : Nat → Int32) : ll_P L xs 109 147 = some (.inl (lo_iload 148 1)) := (P_109 L xs 147).trans rfl
theorem p_109_148 (L : Nat) (xs : Nat → Int32) : ll_P L xs 109 148 = some (.inl (lo_ast 149 0)) := (P_109 L xs 148).trans rfl
theorem p_109_149 (L : Nat) (xs : Nat → Int32) : ll_P L xs 109 149 = some (.inl (lo_aload 150 0)) := (P_109 L xs 149).trans rfl
theorem p_109_150 (L : Nat) (xs : Nat → Int32) : ll_P L xs 109 150 = some (.inl (lo_getf 153 9 1)) := (P_109 L xs 150).trans rfl
theorem p_109_153 (L : Nat) (xs : Nat → Int32) : ll_P L xs 109 153 = some (.inl (lo_iload 155 4)) := (P_109 L xs 153).trans rfl
theorem p_109_155 (L : Nat) (xs : Nat → Int32) : ll_P L xs 109 155 = some (.inl (lo_iload 156 2)) := (P_109 L xs 155).trans rfl
theorem p_109_156 (L : Nat) (xs : Nat → Int32) : ll_P L xs 109 156 = some (.inl (lo_ast 157 0)) := (P_109 L xs 156).trans rfl
theorem p_109_157 (L : Nat) (xs : Nat → Int32) : ll_P L xs 109 157 = some (.inl (lo_aload 158 0)) := (P_109 L xs 157).trans rfl
theorem p_109_158 (L : Nat) (xs : Nat → Int32) : ll_P L xs 109 158 = some (.inl (lo_getf 161 9 2)) := (P_109 L xs 158).trans rfl
theorem p_109_161 (L : Nat) (xs : Nat → Int32) : ll_P L xs 109 161 = some (.inl (lo_iload 163 4)) := (P_109 L xs 161).trans rfl
theorem p_109_163 (L : Nat) (xs : Nat → Int32) : ll_P L xs 109 163 = some (.inl (lo_iload 164 3)) := (P_109 L xs 163).trans rfl
theorem p_109_164 (L : Nat) (xs : Nat → Int32) : ll_P L xs 109 164 = some (.inl (lo_ast 165 0)) := (P_109 L xs 164).trans rfl
theorem p_109_165 (L : Nat) (xs : Nat → Int32) : ll_P L xs 109 165 = some (.inl (lo_aload 166 0)) := (P_109 L xs 165).trans rfl
theorem p_109_166 (L : Nat) (xs : Nat → Int32) : ll_P L xs 109 166 = some (.inl (lo_getf 169 9 3)) := (P_109 L xs 166).trans rfl
theorem p_109_169 (L : Nat) (xs : Nat → Int32) : ll_P L xs 109 169 = some (.inl (lo_iload 171 4)) := (P_109 L xs 169).trans rfl
theorem p_109_171 (L : Nat) (xs : Nat → Int32) : ll_P L xs 109 171 = some (.inl (lo_iload 173 5)) := (P_109 L xs 171).trans rfl
theorem p_109_173 (L : Nat) (xs : Nat → Int32) : ll_P L xs 109 173 = some (.inl (lo_ast 174 0)) := (P_109 L xs 173).trans rfl
theorem p_109_174 (L : Nat) (xs : Nat → Int32) : ll_P L xs 109 174 = some (.inl (lo_iload 176 5)) := (P_109 L xs 174).trans rfl
theorem p_109_176 (L : Nat) (xs : Nat → Int32) : ll_P L xs 109 176 = some (.inr (.inr 1)) := (P_109 L xs 176).trans rfl
theorem b_109_0 {Y : sY} {d : Nat} {s : sT} {K : Option Int32 → sT → Prop} {r0 : Nat} {x1 : Int32} {x2 : Int32} {x3 : Int32} (h : (if 0 < x3 then (if ¬ x1 = 0 then tT Y (d + 1) 109 58 [.ref r0, .int x1, .int x2, .int x3, .null, .null, .null] [] s K else (if ¬ x2 = 0 then tT Y (d + 1) 109 58 [.ref r0, .int x1, .int x2, .int x3, .null, .null, .null] [] s K else (isO Y r0 9 ∧ (if ¬ (s.1 r0 6) = (5 : Int32) then K (some (0 : Int32)) s else tT Y d 111 0 [.int x3, .null, .null] [] s (fun r s1 => tT Y (d + 1) 109 53 [.ref r0, .int x1, .int x2, .int x3, .null, .null, .null] ((r.map Value.int).toList ++ []) s1 K))))) else (∃ a5, (isO Y r0 9 ∧ s.2 r0 4 = some a5) ∧ (isO Y a5 5 ∧ tT Y d 47 0 [.ref a5, .int x1] [] s (fun r s1 => tT Y (d + 1) 109 13 [.ref r0, .int x1, .int x2, .int x3, .null, .null, .null] ((r.map Value.int).toList ++ [.ref r0]) s1 K))))) : tT Y (d + 1) 109 0 [.ref r0, .int x1, .int x2, .int x3, .null, .null, .null] [] s K :=
  (tt_iload (p_109_0 _ _) rfl).mpr (t3_if (p := 0 < x3) (p_109_1 _ _) rfl (fun g1 => (tt_iload (p_109_33 _ _) rfl).mpr (t3_if (p := ¬ x1 = 0) (p_109_34 _ _) rfl (fun g2 => (ifp (ifp h g1) g2)) (fun g2 => (tt_iload (p_109_37 _ _) rfl).mpr (t3_if (p := ¬ x2 = 0) (p_109_38 _ _) rfl (fun g3 => (ifp (ifn (ifp h g1) g2) g3)) (fun g3 => (tt_aload (p_109_41 _ _) rfl).mpr (t3_geti (p_109_42 _ _) (isI_9_6) (ifn (ifn (ifp h g1) g2) g3).1 ((tt_push (p_109_45 _ _)).mpr (t3_cmp (p := ¬ (s.1 r0 6) = (5 : Int32)) (p_109_46 _ _) rfl (fun g4 => (tt_push (p_109_56 _ _)).mpr (tt_ret1 (p_109_57 _ _) (ifp (ifn (ifn (ifp h g1) g2) g3).2 g4))) (fun g4 => (tt_iload (p_109_49 _ _) rfl).mpr (t2_calls (z := 111) (k := 1) (as := [.int x3]) (rest := []) (p_109_50 _ _) mK_111 mL_111 rfl rfl (Nat.le_of_ble_eq_true rfl) rfl (Nat.le_of_ble_eq_true rfl) (ifn (ifn (ifn (ifp h g1) g2) g3).2 g4))))))))))) (fun g1 => (tt_aload (p_109_4 _ _) rfl).mpr ((tt_aload (p_109_5 _ _) rfl).mpr (Exists.elim (ifn h g1) (fun a5 h6 => t3_getr (p_109_6 _ _) (isI_9_4) h6.1.1 h6.1.2 ((tt_iload (p_109_9 _ _) rfl).mpr (t2_callv (z := 47) (k := 2) (i := a5) (as := [.int x1]) (rest := [.ref r0]) (p_109_10 _ _) mK_47 mL_47 rfl rfl (Nat.le_of_ble_eq_true rfl) rfl (Nat.le_of_ble_eq_true rfl) h6.2.1 h6.2.2)))))))
theorem b_109_13 {Y : sY} {d : Nat} {s : sT} {K : Option Int32 → sT → Prop} {r0 : Nat} {x1 : Int32} {x2 : Int32} {x3 : Int32} {t0 : Nat} {t1 : Int32} (h : (∃ a1, (isO Y r0 9 ∧ s.2 r0 5 = some a1) ∧ (isO Y a1 5 ∧ tT Y d 47 0 [.ref a1, .int x2] [] s (fun r s1 => tT Y (d + 1) 109 21 [.ref r0, .int x1, .int x2, .int x3, .null, .null, .null] ((r.map Value.int).toList ++ [.int t1, .ref t0]) s1 K)))) : tT Y (d + 1) 109 13 [.ref r0, .int x1, .int x2, .int x3, .null, .null, .null] [.int t1, .ref t0] s K :=
  (tt_aload (p_109_13 _ _) rfl).mpr (Exists.elim h (fun a1 h2 => t3_getr (p_109_14 _ _) (isI_9_5) h2.1.1 h2.1.2 ((tt_iload (p_109_17 _ _) rfl).mpr (t2_callv (z := 47) (k := 2) (i := a1) (as := [.int x2]) (rest := [.int t1, .ref t0]) (p_109_18 _ _) mK_47 mL_47 rfl rfl (Nat.le_of_ble_eq_true rfl) rfl (Nat.le_of_ble_eq_true rfl) h2.2.1 h2.2.2))))
theorem b_109_21 {Y : sY} {d : Nat} {s : sT} {K : Option Int32 → sT → Prop} {r0 : Nat} {x1 : Int32} {x2 : Int32} {x3 : Int32} {t0 : Nat} {t1 : Int32} {t2 : Int32} (h : (isO Y t0 9 ∧ tT Y d 110 0 [.ref t0, .int t1, .int t2] [] s (fun r s1 => tT Y (d + 1) 109 24 [.ref r0, .int x1, .int x2, .int x3, .null, .null, .null] ((r.map Value.int).toList ++ []) s1 K))) : tT Y (d + 1) 109 21 [.ref r0, .int x1, .int x2, .int x3, .null, .null, .null] [.int t2, .int t1, .ref t0] s K :=
  t2_callv (z := 110) (k := 3) (i := t0) (as := [.int t1, .int t2]) (rest := []) (p_109_21 _ _) mK_110 mL_110 rfl rfl (Nat.le_of_ble_eq_true rfl) rfl (Nat.le_of_ble_eq_true rfl) h.1 h.2
theorem b_109_24 {Y : sY} {d : Nat} {s : sT} {K : Option Int32 → sT → Prop} {r0 : Nat} {x1 : Int32} {x2 : Int32} {x3 : Int32} {t0 : Int32} (h : (if t0 = 0 then K (some (0 : Int32)) s else K (some (1 : Int32)) s)) : tT Y (d + 1) 109 24 [.ref r0, .int x1, .int x2, .int x3, .null, .null, .null] [.int t0] s K :=
  t3_if (p := t0 = 0) (p_109_24 _ _) rfl (fun g1 => (tt_push (p_109_31 _ _)).mpr (tt_ret1 (p_109_32 _ _) (ifp h g1))) (fun g1 => (tt_push (p_109_27 _ _)).mpr ((tt_goto (p_109_28 _ _)).mpr (tt_ret1 (p_109_32 _ _) (ifn h g1))))
theorem b_109_53 {Y : sY} {d : Nat} {s : sT} {K : Option Int32 → sT → Prop} {r0 : Nat} {x1 : Int32} {x2 : Int32} {x3 : Int32} {t0 : Int32} (h : K (some t0) s) : tT Y (d + 1) 109 53 [.ref r0, .int x1, .int x2, .int x3, .null, .null, .null] [.int t0] s K :=
  (tt_goto (p_109_53 _ _)).mpr (tt_ret1 (p_109_57 _ _) h)
theorem b_109_58 {Y : sY} {d : Nat} {s : sT} {K : Option Int32 → sT → Prop} {r0 : Nat} {x1 : Int32} {x2 : Int32} {x3 : Int32} (h : tT Y d 112 0 [.int x1, .int x2, .int x3, .null] [] s (fun r s1 => tT Y (d + 1) 109 64 [.ref r0, .int x1, .int x2, .int x3, .null, .null, .null] ((r.map Value.int).toList ++ []) s1 K)) : tT Y (d + 1) 109 58 [.ref r0, .int x1, .int x2, .int x3, .null, .null, .null] [] s K :=
  (tt_iload (p_109_58 _ _) rfl).mpr ((tt_iload (p_109_59 _ _) rfl).mpr ((tt_iload (p_109_60 _ _) rfl).mpr (t2_calls (z := 112) (k := 3) (as := [.int x1, .int x2, .int x3]) (rest := []) (p_109_61 _ _) mK_112 mL_112 rfl rfl (Nat.le_of_ble_eq_true rfl) rfl (Nat.le_of_ble_eq_true rfl) h)))
theorem b_109_64 {Y : sY} {d : Nat} {s : sT} {K : Option Int32 → sT → Prop} {r0 : Nat} {x1 : Int32} {x2 : Int32} {x3 : Int32} {t0 : Int32} (h : (∃ a1, (isO Y r0 9 ∧ s.2 r0 2 = some a1) ∧ (∃ m3, (isA Y a1 0 m3 ∧ inR t0 m3) ∧ (if ¬ (s.1 a1 (t0).toNatClampNeg) = x3 then tT Y (d + 1) 109 107 [.ref r0, .int x1, .int x2, .int x3, .int t0, .null, .null] [] s K else (∃ a6, (isO Y r0 9 ∧ s.2 r0 0 = some a6) ∧ (∃ m8, (isA Y a6 0 m8 ∧ inR t0 m8) ∧ (if ¬ (s.1 a6 (t0).toNatClampNeg) = x1 then tT Y (d + 1) 109 107 [.ref r0, .int x1, .int x2, .int x3, .int t0, .null, .null] [] s K else (∃ a11, (isO Y r0 9 ∧ s.2 r0 1 = some a11) ∧ (∃ m13, (isA Y a11 0 m13 ∧ inR t0 m13) ∧ (if ¬ (s.1 a11 (t0).toNatClampNeg) = x2 then tT Y (d + 1) 109 107 [.ref r0, .int x1, .int x2, .int x3, .int t0, .null, .null] [] s K else (∃ a16, (isO Y r0 9 ∧ s.2 r0 3 = some a16) ∧ (∃ m18, (isA Y a16 0 m18 ∧ inR t0 m18) ∧ K (some (s.1 a16 (t0).toNatClampNeg)) s)))))))))))) : tT Y (d + 1) 109 64 [.ref r0, .int x1, .int x2, .int x3, .null, .null, .null] [.int t0] s K :=
  (tt_istore (p_109_64 _ _) (Nat.le_of_ble_eq_true rfl) rfl rfl).mpr ((tt_aload (p_109_66 _ _) rfl).mpr (Exists.elim h (fun a1 h2 => t3_getr (p_109_67 _ _) (isI_9_2) h2.1.1 h2.1.2 ((tt_iload (p_109_70 _ _) rfl).mpr (Exists.elim h2.2 (fun m3 h4 => t3_ald (p_109_72 _ _) h4.1.1 h4.1.2 ((tt_iload (p_109_73 _ _) rfl).mpr (t3_cmp (p := ¬ (s.1 a1 (t0).toNatClampNeg) = x3) (p_109_74 _ _) rfl (fun g5 => (ifp h4.2 g5)) (fun g5 => (tt_aload (p_109_77 _ _) rfl).mpr (Exists.elim (ifn h4.2 g5) (fun a6 h7 => t3_getr (p_109_78 _ _) (isI_9_0) h7.1.1 h7.1.2 ((tt_iload (p_109_81 _ _) rfl).mpr (Exists.elim h7.2 (fun m8 h9 => t3_ald (p_109_83 _ _) h9.1.1 h9.1.2 ((tt_iload (p_109_84 _ _) rfl).mpr (t3_cmp (p := ¬ (s.1 a6 (t0).toNatClampNeg) = x1) (p_109_85 _ _) rfl (fun g10 => (ifp h9.2 g10)) (fun g10 => (tt_aload (p_109_88 _ _) rfl).mpr (Exists.elim (ifn h9.2 g10) (fun a11 h12 => t3_getr (p_109_89 _ _) (isI_9_1) h12.1.1 h12.1.2 ((tt_iload (p_109_92 _ _) rfl).mpr (Exists.elim h12.2 (fun m13 h14 => t3_ald (p_109_94 _ _) h14.1.1 h14.1.2 ((tt_iload (p_109_95 _ _) rfl).mpr (t3_cmp (p := ¬ (s.1 a11 (t0).toNatClampNeg) = x2) (p_109_96 _ _) rfl (fun g15 => (ifp h14.2 g15)) (fun g15 => (tt_aload (p_109_99 _ _) rfl).mpr (Exists.elim (ifn h14.2 g15) (fun a16 h17 => t3_getr (p_109_100 _ _) (isI_9_3) h17.1.1 h17.1.2 ((tt_iload (p_109_103 _ _) rfl).mpr (Exists.elim h17.2 (fun m18 h19 => t3_ald (p_109_105 _ _) h19.1.1 h19.1.2 (tt_ret1 (p_109_106 _ _) h19.2)))))))))))))))))))))))))))))))
theorem b_109_107 {Y : sY} {d : Nat} {s : sT} {K : Option Int32 → sT → Prop} {r0 : Nat} {x1 : Int32} {x2 : Int32} {x3 : Int32} {x4 : Int32} (h : tT Y (d + 1) 109 113 [.ref r0, .int x1, .int x2, .int x3, .int x4, .int (0 : Int32), .int (0 : Int32)] [] s K) : tT Y (d + 1) 109 107 [.ref r0, .int x1, .int x2, .int x3, .int x4, .null, .null] [] s K :=
  (tt_push (p_109_107 _ _)).mpr ((tt_istore (p_109_108 _ _) (Nat.le_of_ble_eq_true rfl) rfl rfl).mpr ((tt_push (p_109_110 _ _)).mpr ((tt_istore (p_109_111 _ _) (Nat.le_of_ble_eq_true rfl) rfl rfl).mpr (h))))
theorem b_109_113 {Y : sY} {d : Nat} {s : sT} {K : Option Int32 → sT → Prop} {r0 : Nat} {x1 : Int32} {x2 : Int32} {x3 : Int32} {x4 : Int32} {x5 : Int32} {x6 : Int32} (h : (if (3 : Int32) ≤ x6 then (∃ a2, (isO Y r0 9 ∧ s.2 r0 0 = some a2) ∧ (∃ m4, (isA Y a2 0 m4 ∧ inR x4 m4) ∧ (∃ a6, (isO Y r0 9 ∧ (pV s a2 (x4).toNatClampNeg x1).2 r0 1 = some a6) ∧ (∃ m8, (isA Y a6 0 m8 ∧ inR x4 m8) ∧ (∃ a10, (isO Y r0 9 ∧ (pV (pV s a2 (x4).toNatClampNeg x1) a6 (x4).toNatClampNeg x2).2 r0 2 = some a10) ∧ (∃ m12, (isA Y a10 0 m12 ∧ inR x4 m12) ∧ (∃ a14, (isO Y r0 9 ∧ (pV (pV (pV s a2 (x4).toNatClampNeg x1) a6 (x4).toNatClampNeg x2) a10 (x4).toNatClampNeg x3).2 r0 3 = some a14) ∧ (∃ m16, (isA Y a14 0 m16 ∧ inR x4 m16) ∧ K (some x5) (pV (pV (pV (pV s a2 (x4).toNatClampNeg x1) a6 (x4).toNatClampNeg x2) a10 (x4).toNatClampNeg x3) a14 (x4).toNatClampNeg x5))))))))) else (isO Y r0 9 ∧ tT Y d 108 0 [.ref r0, .int x1, .int x2, .int x6, .int (x3 - (1 : Int32))] [] s (fun r s1 => tT Y (d + 1) 109 132 [.ref r0, .int x1, .int x2, .int x3, .int x4, .int x5, .int x6] ((r.map Value.int).toList ++ [.int x5]) s1 K)))) : tT Y (d + 1) 109 113 [.ref r0, .int x1, .int x2, .int x3, .int x4, .int x5, .int x6] [] s K :=
  (tt_iload (p_109_113 _ _) rfl).mpr ((tt_push (p_109_115 _ _)).mpr (t3_cmp (p := (3 : Int32) ≤ x6) (p_109_116 _ _) rfl (fun g1 => (tt_aload (p_109_141 _ _) rfl).mpr (Exists.elim (ifp h g1) (fun a2 h3 => t3_getr (p_109_142 _ _) (isI_9_0) h3.1.1 h3.1.2 ((tt_iload (p_109_145 _ _) rfl).mpr ((tt_iload (p_109_147 _ _) rfl).mpr (Exists.elim h3.2 (fun m4 h5 => t3_ast (p_109_148 _ _) h5.1.1 h5.1.2 ((tt_aload (p_109_149 _ _) rfl).mpr (Exists.elim h5.2 (fun a6 h7 => t3_getr (p_109_150 _ _) (isI_9_1) h7.1.1 h7.1.2 ((tt_iload (p_109_153 _ _) rfl).mpr ((tt_iload (p_109_155 _ _) rfl).mpr (Exists.elim h7.2 (fun m8 h9 => t3_ast (p_109_156 _ _) h9.1.1 h9.1.2 ((tt_aload (p_109_157 _ _) rfl).mpr (Exists.elim h9.2 (fun a10 h11 => t3_getr (p_109_158 _ _) (isI_9_2) h11.1.1 h11.1.2 ((tt_iload (p_109_161 _ _) rfl).mpr ((tt_iload (p_109_163 _ _) rfl).mpr (Exists.elim h11.2 (fun m12 h13 => t3_ast (p_109_164 _ _) h13.1.1 h13.1.2 ((tt_aload (p_109_165 _ _) rfl).mpr (Exists.elim h13.2 (fun a14 h15 => t3_getr (p_109_166 _ _) (isI_9_3) h15.1.1 h15.1.2 ((tt_iload (p_109_169 _ _) rfl).mpr ((tt_iload (p_109_171 _ _) rfl).mpr (Exists.elim h15.2 (fun m16 h17 => t3_ast (p_109_173 _ _) h17.1.1 h17.1.2 ((tt_iload (p_109_174 _ _) rfl).mpr (tt_ret1 (p_109_176 _ _) h17.2)))))))))))))))))))))))))))))) (fun g1 => (tt_iload (p_109_119 _ _) rfl).mpr ((tt_aload (p_109_121 _ _) rfl).mpr ((tt_iload (p_109_122 _ _) rfl).mpr ((tt_iload (p_109_123 _ _) rfl).mpr ((tt_iload (p_109_124 _ _) rfl).mpr ((tt_iload (p_109_126 _ _) rfl).mpr ((tt_push (p_109_127 _ _)).mpr ((tt_bin (p_109_128 _ _)).mpr (t2_callv (z := 108) (k := 5) (i := r0) (as := [.int x1, .int x2, .int x6, .int (x3 - (1 : Int32))]) (rest := [.int x5]) (p_109_129 _ _) mK_108 mL_108 rfl rfl (Nat.le_of_ble_eq_true rfl) rfl (Nat.le_of_ble_eq_true rfl) (ifn h g1).1 (ifn h g1).2)))))))))))
theorem b_109_132 {Y : sY} {d : Nat} {s : sT} {K : Option Int32 → sT → Prop} {r0 : Nat} {x1 : Int32} {x2 : Int32} {x3 : Int32} {x4 : Int32} {x5 : Int32} {x6 : Int32} {t0 : Int32} {t1 : Int32} (h : tT Y (d + 1) 109 113 [.ref r0, .int x1, .int x2, .int x3, .int x4, .int (t0 + t1), .int (x6 + 1)] [] s K) : tT Y (d + 1) 109 132 [.ref r0, .int x1, .int x2, .int x3, .int x4, .int x5, .int x6] [.int t1, .int t0] s K :=
  (tt_bin (p_109_132 _ _)).mpr ((tt_istore (p_109_133 _ _) (Nat.le_of_ble_eq_true rfl) rfl rfl).mpr ((tt_iinc (p_109_135 _ _) rfl rfl rfl).mpr ((tt_goto (p_109_138 _ _)).mpr (h))))
/-! InclusionProver$WordCounter.fits.(ZZ)Z -/
theorem p_110_0 (L : Nat) (xs : Nat → Int32) : ll_P L xs 110 0 = some (.inl (lo_aload 1 0)) := (P_110 L xs 0).trans rfl
theorem p_110_1 (L : Nat) (xs : Nat → Int32) : ll_P L xs 110 1 = some (.inl (lo_getf 4 9 6)) := (P_110 L xs 1).trans rfl
theorem p_110_4 (L : Nat) (xs : Nat → Int32) : ll_P L xs 110 4 = some (.inl (lo_tab 0 [40, 42, 44, 58, 72] 86)) := (P_110 L xs 4).trans rfl
theorem p_110_40 (L : Nat) (xs : Nat → Int32) : ll_P L xs 110 40 = some (.inl (lo_iload 41 1)) := (P_110 L xs 40).trans rfl
theorem p_110_41 (L : Nat) (xs : Nat → Int32) : ll_P L xs 110 41 = some (.inr (.inr 2)) := (P_110 L xs 41).trans rfl
theorem p_110_42 (L : Nat) (xs : Nat → Int32) : ll_P L xs 110 42 = some (.inl (lo_iload 43 2)) := (P_110 L xs 42).trans rfl
theorem p_110_43 (L : Nat) (xs : Nat → Int32) : ll_P L xs 110 43 = some (.inr (.inr 2)) := (P_110 L xs 43).trans rfl
theorem p_110_44 (L : Nat) (xs : Nat → Int32) : ll_P L xs 110 44 = some (.inl (lo_iload 45 1)) := (P_110 L xs 44).trans rfl
theorem p_110_45 (L : Nat) (xs : Nat → Int32) : ll_P L xs 110 45 = some (.inl (lo_if 56 48 (fun x => decide (x = 0)))) := (P_110 L xs 45).trans rfl
theorem p_110_48 (L : Nat) (xs : Nat → Int32) : ll_P L xs 110 48 = some (.inl (lo_iload 49 2)) := (P_110 L xs 48).trans rfl
theorem p_110_49 (L : Nat) (xs : Nat → Int32) : ll_P L xs 110 49 = some (.inl (lo_if 56 52 (fun x => decide (x = 0)))) := (P_110 L xs 49).trans rfl
theorem p_110_52 (L : Nat) (xs : Nat → Int32) : ll_P L xs 110 52 = some (.inl (lo_push 53 (.int 1))) := (P_110 L xs 52).trans rfl
theorem p_110_53 (L : Nat) (xs : Nat → Int32) : ll_P L xs 110 53 = some (.inl (lo_goto 57)) := (P_110 L xs 53).trans rfl
theorem p_110_56 (L : Nat) (xs : Nat → Int32) : ll_P L xs 110 56 = some (.inl (lo_push 57 (.int 0))) := (P_110 L xs 56).trans rfl
theorem p_110_57 (L : Nat) (xs : Nat → Int32) : ll_P L xs 110 57 = some (.inr (.inr 2)) := (P_110 L xs 57).trans rfl
theorem p_110_58 (L : Nat) (xs : Nat → Int32) : ll_P L xs 110 58 = some (.inl (lo_iload 59 1)) := (P_110 L xs 58).trans rfl
theorem p_110_59 (L : Nat) (xs : Nat → Int32) : ll_P L xs 110 59 = some (.inl (lo_if 70 62 (fun x => decide (x = 0)))) := (P_110 L xs 59).trans rfl
theorem p_110_62 (L : Nat) (xs : Nat → Int32) : ll_P L xs 110 62 = some (.inl (lo_iload 63 2)) := (P_110 L xs 62).trans rfl
theorem p_110_63 (L : Nat) (xs : Nat → Int32) : ll_P L xs 110 63 = some (.inl (lo_if 70 66 (fun x => decide (¬ x = 0)))) := (P_110 L xs 63).trans rfl
theorem p_110_66 (L : Nat) (xs : Nat → Int32) : ll_P L xs 110 66 = some (.inl (lo_push 67 (.int 1))) := (P_110 L xs 66).trans rfl
theorem p_110_67 (L : Nat) (xs : Nat → Int32) : ll_P L xs 110 67 = some (.inl (lo_goto 71)) := (P_110 L xs 67).trans rfl
theorem p_110_70 (L : Nat) (xs : Nat → Int32) : ll_P L xs 110 70 = some (.inl (lo_push 71 (.int 0))) := (P_110 L xs 70).trans rfl
theorem p_110_71 (L : Nat) (xs : Nat → Int32) : ll_P L xs 110 71 = some (.inr (.inr 2)) := (P_110 L xs 71).trans rfl
theorem p_110_72 (L : Nat) (xs : Nat → Int32) : ll_P L xs 110 72 = some (.inl (lo_iload 73 2)) := (P_110 L xs 72).trans rfl
theorem p_110_73 (L : Nat) (xs : Nat → Int32) : ll_P L xs 110 73 = some (.inl (lo_if 84 76 (fun x => decide (x = 0)))) := (P_110 L xs 73).trans rfl
theorem p_110_76 (L : Nat) (xs : Nat → Int32) : ll_P L xs 110 76 = some (.inl (lo_iload 77 1)) := (P_110 L xs 76).trans rfl
theorem p_110_77 (L : Nat) (xs : Nat → Int32) : ll_P L xs 110 77 = some (.inl (lo_if 84 80 (fun x => decide (¬ x = 0)))) := (P_110 L xs 77).trans rfl
theorem p_110_80 (L : Nat) (xs : Nat → Int32) : ll_P L xs 110 80 = some (.inl (lo_push 81 (.int 1))) := (P_110 L xs 80).trans rfl
theorem p_110_81 (L : Nat) (xs : Nat → Int32) : ll_P L xs 110 81 = some (.inl (lo_goto 85)) := (P_110 L xs 81).trans rfl
theorem p_110_84 (L : Nat) (xs : Nat → Int32) : ll_P L xs 110 84 = some (.inl (lo_push 85 (.int 0))) := (P_110 L xs 84).trans rfl
theorem p_110_85 (L : Nat) (xs : Nat → Int32) : ll_P L xs 110 85 = some (.inr (.inr 2)) := (P_110 L xs 85).trans rfl
theorem p_110_86 (L : Nat) (xs : Nat → Int32) : ll_P L xs 110 86 = some (.inl (lo_iload 87 1)) := (P_110 L xs 86).trans rfl
theorem p_110_87 (L : Nat) (xs : Nat → Int32) : ll_P L xs 110 87 = some (.inl (lo_if 98 90 (fun x => decide (¬ x = 0)))) := (P_110 L xs 87).trans rfl
theorem p_110_90 (L : Nat) (xs : Nat → Int32) : ll_P L xs 110 90 = some (.inl (lo_iload 91 2)) := (P_110 L xs 90).trans rfl
theorem p_110_91 (L : Nat) (xs : Nat → Int32) : ll_P L xs 110 91 = some (.inl (lo_if 98 94 (fun x => decide (¬ x = 0)))) := (P_110 L xs 91).trans rfl
theorem p_110_94 (L : Nat) (xs : Nat → Int32) : ll_P L xs 110 94 = some (.inl (lo_push 95 (.int 1))) := (P_110 L xs 94).trans rfl
theorem p_110_95 (L : Nat) (xs : Nat → Int32) : ll_P L xs 110 95 = some (.inl (lo_goto 99)) := (P_110 L xs 95).trans rfl
theorem p_110_98 (L : Nat) (xs : Nat → Int32) : ll_P L xs 110 98 = some (.inl (lo_push 99 (.int 0))) := (P_110 L xs 98).trans rfl
theorem p_110_99 (L : Nat) (xs : Nat → Int32) : ll_P L xs 110 99 = some (.inr (.inr 2)) := (P_110 L xs 99).trans rfl
theorem b_110_0 {Y : sY} {d : Nat} {s : sT} {K : Option Int32 → sT → Prop} {r0 : Nat} {x1 : Int32} {x2 : Int32} (h : (isO Y r0 9 ∧ (((s.1 r0 6) = 0 → ((x1 = 0 ∨ x1 = 1) ∧ K (some x1) s)) ∧ ((s.1 r0 6) = 1 → ((x2 = 0 ∨ x2 = 1) ∧ K (some x2) s)) ∧ ((s.1 r0 6) = 2 → (if x1 = 0 then K (some (0 : Int32)) s else (if x2 = 0 then K (some (0 : Int32)) s else K (some (1 : Int32)) s))) ∧ ((s.1 r0 6) = 3 → (if x1 = 0 then K (some (0 : Int32)) s else (if ¬ x2 = 0 then K (some (0 : Int32)) s else K (some (1 : Int32)) s))) ∧ ((s.1 r0 6) = 4 → (if x2 = 0 then K (some (0 : Int32)) s else (if ¬ x1 = 0 then K (some (0 : Int32)) s else K (some (1 : Int32)) s))) ∧ (¬ (s.1 r0 6) = 0 ∧ ¬ (s.1 r0 6) = 1 ∧ ¬ (s.1 r0 6) = 2 ∧ ¬ (s.1 r0 6) = 3 ∧ ¬ (s.1 r0 6) = 4 → (if ¬ x1 = 0 then K (some (0 : Int32)) s else (if ¬ x2 = 0 then K (some (0 : Int32)) s else K (some (1 : Int32)) s)))))) : tT Y d 110 0 [.ref r0, .int x1, .int x2] [] s K :=
  (tt_aload (p_110_0 _ _) rfl).mpr (t3_geti (p_110_1 _ _) (isI_9_6) h.1 (Decidable.byCases (p := (s.1 r0 6) = 0) (fun g1 => t3_tab (t := 40) (p_110_4 _ _) (by rw [g1]; rfl) ((tt_iload (p_110_40 _ _) rfl).mpr (tt_ret2 (p_110_41 _ _) (h.2.1 g1).1 (h.2.1 g1).2))) (fun g1n => Decidable.byCases (p := (s.1 r0 6) = 1) (fun g2 => t3_tab (t := 42) (p_110_4 _ _) (by rw [g2]; rfl) ((tt_iload (p_110_42 _ _) rfl).mpr (tt_ret2 (p_110_43 _ _) (h.2.2.1 g2).1 (h.2.2.1 g2).2))) (fun g2n => Decidable.byCases (p := (s.1 r0 6) = 2) (fun g3 => t3_tab (t := 44) (p_110_4 _ _) (by rw [g3]; rfl) ((tt_iload (p_110_44 _ _) rfl).mpr (t3_if (p := x1 = 0) (p_110_45 _ _) rfl (fun g4 => (tt_push (p_110_56 _ _)).mpr (tt_ret2 (p_110_57 _ _) (Or.inl rfl) (ifp (h.2.2.2.1 g3) g4))) (fun g4 => (tt_iload (p_110_48 _ _) rfl).mpr (t3_if (p := x2 = 0) (p_110_49 _ _) rfl (fun g5 => (tt_push (p_110_56 _ _)).mpr (tt_ret2 (p_110_57 _ _) (Or.inl rfl) (ifp (ifn (h.2.2.2.1 g3) g4) g5))) (fun g5 => (tt_push (p_110_52 _ _)).mpr ((tt_goto (p_110_53 _ _)).mpr (tt_ret2 (p_110_57 _ _) (Or.inr rfl) (ifn (ifn (h.2.2.2.1 g3) g4) g5))))))))) (fun g3n => Decidable.byCases (p := (s.1 r0 6) = 3) (fun g6 => t3_tab (t := 58) (p_110_4 _ _) (by rw [g6]; rfl) ((tt_iload (p_110_58 _ _) rfl).mpr (t3_if (p := x1 = 0) (p_110_59 _ _) rfl (fun g7 => (tt_push (p_110_70 _ _)).mpr (tt_ret2 (p_110_71 _ _) (Or.inl rfl) (ifp (h.2.2.2.2.1 g6) g7))) (fun g7 => (tt_iload (p_110_62 _ _) rfl).mpr (t3_if (p := ¬ x2 = 0) (p_110_63 _ _) rfl (fun g8 => (tt_push (p_110_70 _ _)).mpr (tt_ret2 (p_110_71 _ _) (Or.inl rfl) (ifp (ifn (h.2.2.2.2.1 g6) g7) g8))) (fun g8 => (tt_push (p_110_66 _ _)).mpr ((tt_goto (p_110_67 _ _)).mpr (tt_ret2 (p_110_71 _ _) (Or.inr rfl) (ifn (ifn (h.2.2.2.2.1 g6) g7) g8))))))))) (fun g6n => Decidable.byCases (p := (s.1 r0 6) = 4) (fun g9 => t3_tab (t := 72) (p_110_4 _ _) (by rw [g9]; rfl) ((tt_iload (p_110_72 _ _) rfl).mpr (t3_if (p := x2 = 0) (p_110_73 _ _) rfl (fun g10 => (tt_push (p_110_84 _ _)).mpr (tt_ret2 (p_110_85 _ _) (Or.inl rfl) (ifp (h.2.2.2.2.2.1 g9) g10))) (fun g10 => (tt_iload (p_110_76 _ _) rfl).mpr (t3_if (p := ¬ x1 = 0) (p_110_77 _ _) rfl (fun g11 => (tt_push (p_110_84 _ _)).mpr (tt_ret2 (p_110_85 _ _) (Or.inl rfl) (ifp (ifn (h.2.2.2.2.2.1 g9) g10) g11))) (fun g11 => (tt_push (p_110_80 _ _)).mpr ((tt_goto (p_110_81 _ _)).mpr (tt_ret2 (p_110_85 _ _) (Or.inr rfl) (ifn (ifn (h.2.2.2.2.2.1 g9) g10) g11))))))))) (fun g9n => t3_tab (t := 86) (p_110_4 _ _) (t3_tabd (fun k hk => t3_tabk (lo := 0) (n := 5) (fun j (hj : j < 5) => by rcases (show j = 0 ∨ j = 1 ∨ j = 2 ∨ j = 3 ∨ j = 4 by omega) with rfl | rfl | rfl | rfl | rfl <;> assumption) k hk)) ((tt_iload (p_110_86 _ _) rfl).mpr (t3_if (p := ¬ x1 = 0) (p_110_87 _ _) rfl (fun g12 => (tt_push (p_110_98 _ _)).mpr (tt_ret2 (p_110_99 _ _) (Or.inl rfl) (ifp (h.2.2.2.2.2.2 ⟨g1n, g2n, g3n, g6n, g9n⟩) g12))) (fun g12 => (tt_iload (p_110_90 _ _) rfl).mpr (t3_if (p := ¬ x2 = 0) (p_110_91 _ _) rfl (fun g13 => (tt_push (p_110_98 _ _)).mpr (tt_ret2 (p_110_99 _ _) (Or.inl rfl) (ifp (ifn (h.2.2.2.2.2.2 ⟨g1n, g2n, g3n, g6n, g9n⟩) g12) g13))) (fun g13 => (tt_push (p_110_94 _ _)).mpr ((tt_goto (p_110_95 _ _)).mpr (tt_ret2 (p_110_99 _ _) (Or.inr rfl) (ifn (ifn (h.2.2.2.2.2.2 ⟨g1n, g2n, g3n, g6n, g9n⟩) g12) g13)))))))))))))))
/-! InclusionProver$WordCounter.allWords.(I)I -/
theorem p_111_0 (L : Nat) (xs : Nat → Int32) : ll_P L xs 111 0 = some (.inl (lo_push 1 (.int 1))) := (P_111 L xs 0).trans rfl
theorem p_111_1 (L : Nat) (xs : Nat → Int32) : ll_P L xs 111 1 = some (.inl (lo_istore 2 1)) := (P_111 L xs 1).trans rfl
theorem p_111_2 (L : Nat) (xs : Nat → Int32) : ll_P L xs 111 2 = some (.inl (lo_push 3 (.int 0))) := (P_111 L xs 2).trans rfl
theorem p_111_3 (L : Nat) (xs : Nat → Int32) : ll_P L xs 111 3 = some (.inl (lo_istore 4 2)) := (P_111 L xs 3).trans rfl
theorem p_111_4 (L : Nat) (xs : Nat → Int32) : ll_P L xs 111 4 = some (.inl (lo_iload 5 2)) := (P_111 L xs 4).trans rfl
theorem p_111_5 (L : Nat) (xs : Nat → Int32) : ll_P L xs 111 5 = some (.inl (lo_iload 6 0)) := (P_111 L xs 5).trans rfl
theorem p_111_6 (L : Nat) (xs : Nat → Int32) : ll_P L xs 111 6 = some (.inl (lo_cmp 19 9 (fun x y => decide (y ≤ x)))) := (P_111 L xs 6).trans rfl
theorem p_111_9 (L : Nat) (xs : Nat → Int32) : ll_P L xs 111 9 = some (.inl (lo_iload 10 1)) := (P_111 L xs 9).trans rfl
theorem p_111_10 (L : Nat) (xs : Nat → Int32) : ll_P L xs 111 10 = some (.inl (lo_push 11 (.int 3))) := (P_111 L xs 10).trans rfl
theorem p_111_11 (L : Nat) (xs : Nat → Int32) : ll_P L xs 111 11 = some (.inl (lo_bin 12 (fun x y => x * y))) := (P_111 L xs 11).trans rfl
theorem p_111_12 (L : Nat) (xs : Nat → Int32) : ll_P L xs 111 12 = some (.inl (lo_istore 13 1)) := (P_111 L xs 12).trans rfl
theorem p_111_13 (L : Nat) (xs : Nat → Int32) : ll_P L xs 111 13 = some (.inl (lo_iinc 16 2 1)) := (P_111 L xs 13).trans rfl
theorem p_111_16 (L : Nat) (xs : Nat → Int32) : ll_P L xs 111 16 = some (.inl (lo_goto 4)) := (P_111 L xs 16).trans rfl
theorem p_111_19 (L : Nat) (xs : Nat → Int32) : ll_P L xs 111 19 = some (.inl (lo_iload 20 1)) := (P_111 L xs 19).trans rfl
theorem p_111_20 (L : Nat) (xs : Nat → Int32) : ll_P L xs 111 20 = some (.inr (.inr 1)) := (P_111 L xs 20).trans rfl
theorem b_111_0 {Y : sY} {d : Nat} {s : sT} {K : Option Int32 → sT → Prop} {x0 : Int32} (h : tT Y d 111 4 [.int x0, .int (1 : Int32), .int (0 : Int32)] [] s K) : tT Y d 111 0 [.int x0, .null, .null] [] s K :=
  (tt_push (p_111_0 _ _)).mpr ((tt_istore (p_111_1 _ _) (Nat.le_of_ble_eq_true rfl) rfl rfl).mpr ((tt_push (p_111_2 _ _)).mpr ((tt_istore (p_111_3 _ _) (Nat.le_of_ble_eq_true rfl) rfl rfl).mpr (h))))
theorem b_111_4 {Y : sY} {d : Nat} {s : sT} {K : Option Int32 → sT → Prop} {x0 : Int32} {x1 : Int32} {x2 : Int32} (h : (if x0 ≤ x2 then K (some x1) s else tT Y d 111 4 [.int x0, .int (x1 * (3 : Int32)), .int (x2 + 1)] [] s K)) : tT Y d 111 4 [.int x0, .int x1, .int x2] [] s K :=
  (tt_iload (p_111_4 _ _) rfl).mpr ((tt_iload (p_111_5 _ _) rfl).mpr (t3_cmp (p := x0 ≤ x2) (p_111_6 _ _) rfl (fun g1 => (tt_iload (p_111_19 _ _) rfl).mpr (tt_ret1 (p_111_20 _ _) (ifp h g1))) (fun g1 => (tt_iload (p_111_9 _ _) rfl).mpr ((tt_push (p_111_10 _ _)).mpr ((tt_bin (p_111_11 _ _)).mpr ((tt_istore (p_111_12 _ _) (Nat.le_of_ble_eq_true rfl) rfl rfl).mpr ((tt_iinc (p_111_13 _ _) rfl rfl rfl).mpr ((tt_goto (p_111_16 _ _)).mpr ((ifn h g1))))))))))
/-! InclusionProver$WordCounter.cellOf.(III)I -/
theorem p_112_0 (L : Nat) (xs : Nat → Int32) : ll_P L xs 112 0 = some (.inl (lo_iload 1 0)) := (P_112 L xs 0).trans rfl
theorem p_112_1 (L : Nat) (xs : Nat → Int32) : ll_P L xs 112 1 = some (.inl (lo_push 3 (.int (-1640531535)))) := (P_112 L xs 1).trans rfl
theorem p_112_3 (L : Nat) (xs : Nat → Int32) : ll_P L xs 112 3 = some (.inl (lo_bin 4 (fun x y => x * y))) := (P_112 L xs 3).trans rfl
theorem p_112_4 (L : Nat) (xs : Nat → Int32) : ll_P L xs 112 4 = some (.inl (lo_iload 5 1)) := (P_112 L xs 4).trans rfl
theorem p_112_5 (L : Nat) (xs : Nat → Int32) : ll_P L xs 112 5 = some (.inl (lo_push 7 (.int (-2048144789)))) := (P_112 L xs 5).trans rfl
theorem p_112_7 (L : Nat) (xs : Nat → Int32) : ll_P L xs 112 7 = some (.inl (lo_bin 8 (fun x y => x * y))) := (P_112 L xs 7).trans rfl
theorem p_112_8 (L : Nat) (xs : Nat → Int32) : ll_P L xs 112 8 = some (.inl (lo_bin 9 (fun x y => x + y))) := (P_112 L xs 8).trans rfl
theorem p_112_9 (L : Nat) (xs : Nat → Int32) : ll_P L xs 112 9 = some (.inl (lo_iload 10 2)) := (P_112 L xs 9).trans rfl
theorem p_112_10 (L : Nat) (xs : Nat → Int32) : ll_P L xs 112 10 = some (.inl (lo_push 12 (.int 668265263))) := (P_112 L xs 10).trans rfl
theorem p_112_12 (L : Nat) (xs : Nat → Int32) : ll_P L xs 112 12 = some (.inl (lo_bin 13 (fun x y => x * y))) := (P_112 L xs 12).trans rfl
theorem p_112_13 (L : Nat) (xs : Nat → Int32) : ll_P L xs 112 13 = some (.inl (lo_bin 14 (fun x y => x + y))) := (P_112 L xs 13).trans rfl
theorem p_112_14 (L : Nat) (xs : Nat → Int32) : ll_P L xs 112 14 = some (.inl (lo_istore 15 3)) := (P_112 L xs 14).trans rfl
theorem p_112_15 (L : Nat) (xs : Nat → Int32) : ll_P L xs 112 15 = some (.inl (lo_iload 16 3)) := (P_112 L xs 15).trans rfl
theorem p_112_16 (L : Nat) (xs : Nat → Int32) : ll_P L xs 112 16 = some (.inl (lo_iload 17 3)) := (P_112 L xs 16).trans rfl
theorem p_112_17 (L : Nat) (xs : Nat → Int32) : ll_P L xs 112 17 = some (.inl (lo_push 19 (.int 15))) := (P_112 L xs 17).trans rfl
theorem p_112_19 (L : Nat) (xs : Nat → Int32) : ll_P L xs 112 19 = some (.inl (lo_bin 20 (fun x y => (x.toUInt32 >>> (y.toUInt32 &&& Int32.toUInt32 31)).toInt32))) := (P_112 L xs 19).trans rfl
theorem p_112_20 (L : Nat) (xs : Nat → Int32) : ll_P L xs 112 20 = some (.inl (lo_bin 21 (fun x y => x ^^^ y))) := (P_112 L xs 20).trans rfl
theorem p_112_21 (L : Nat) (xs : Nat → Int32) : ll_P L xs 112 21 = some (.inl (lo_push 24 (.int 511))) := (P_112 L xs 21).trans rfl
theorem p_112_24 (L : Nat) (xs : Nat → Int32) : ll_P L xs 112 24 = some (.inl (lo_bin 25 (fun x y => x &&& y))) := (P_112 L xs 24).trans rfl
theorem p_112_25 (L : Nat) (xs : Nat → Int32) : ll_P L xs 112 25 = some (.inr (.inr 1)) := (P_112 L xs 25).trans rfl
theorem b_112_0 {Y : sY} {d : Nat} {s : sT} {K : Option Int32 → sT → Prop} {x0 : Int32} {x1 : Int32} {x2 : Int32} (h : K (some (((((x0 * (-1640531535 : Int32)) + (x1 * (-2048144789 : Int32))) + (x2 * (668265263 : Int32))) ^^^ ((((x0 * (-1640531535 : Int32)) + (x1 * (-2048144789 : Int32))) + (x2 * (668265263 : Int32))).toUInt32 >>> ((15 : Int32).toUInt32 &&& Int32.toUInt32 31)).toInt32) &&& (511 : Int32))) s) : tT Y d 112 0 [.int x0, .int x1, .int x2, .null] [] s K :=
  (tt_iload (p_112_0 _ _) rfl).mpr ((tt_push (p_112_1 _ _)).mpr ((tt_bin (p_112_3 _ _)).mpr ((tt_iload (p_112_4 _ _) rfl).mpr ((tt_push (p_112_5 _ _)).mpr ((tt_bin (p_112_7 _ _)).mpr ((tt_bin (p_112_8 _ _)).mpr ((tt_iload (p_112_9 _ _) rfl).mpr ((tt_push (p_112_10 _ _)).mpr ((tt_bin (p_112_12 _ _)).mpr ((tt_bin (p_112_13 _ _)).mpr ((tt_istore (p_112_14 _ _) (Nat.le_of_ble_eq_true rfl) rfl rfl).mpr ((tt_iload (p_112_15 _ _) rfl).mpr ((tt_iload (p_112_16 _ _) rfl).mpr ((tt_push (p_112_17 _ _)).mpr ((tt_bin (p_112_19 _ _)).mpr ((tt_bin (p_112_20 _ _)).mpr ((tt_push (p_112_21 _ _)).mpr ((tt_bin (p_112_24 _ _)).mpr (tt_ret1 (p_112_25 _ _) h)))))))))))))))))))
/-! InclusionProver.<init>.()V -/
theorem p_113_0 (L : Nat) (xs : Nat → Int32) : ll_P L xs 113 0 = some (.inl (lo_aload 1 0)) := (P_113 L xs 0).trans rfl
theorem p_113_1 (L : Nat) (xs : Nat → Int32) : ll_P L xs 113 1 = some (.inl (lo_init 4)) := (P_113 L xs 1).trans rfl
theorem p_113_4 (L : Nat) (xs : Nat → Int32) : ll_P L xs 113 4 = some (.inl (lo_new 7 8 10 [.null, .null, .null, .null, .null, .null, .null, .int 0, .int 0, .int 0])) := (P_113 L xs 4).trans rfl
theorem p_113_7 (L : Nat) (xs : Nat → Int32) : ll_P L xs 113 7 = some (.inl (lo_dup 8)) := (P_113 L xs 7).trans rfl
theorem p_113_8 (L : Nat) (xs : Nat → Int32) : ll_P L xs 113 8 = some (.inr (.inl (79, 1, 11))) := (P_113 L xs 8).trans rfl
theorem p_113_11 (L : Nat) (xs : Nat → Int32) : ll_P L xs 113 11 = some (.inl (lo_astore 12 1)) := (P_113 L xs 11).trans rfl
theorem p_113_12 (L : Nat) (xs : Nat → Int32) : ll_P L xs 113 12 = some (.inl (lo_aload 13 0)) := (P_113 L xs 12).trans rfl
theorem p_113_13 (L : Nat) (xs : Nat → Int32) : ll_P L xs 113 13 = some (.inl (lo_new 16 7 2 [.null, .int 0])) := (P_113 L xs 13).trans rfl
theorem p_113_16 (L : Nat) (xs : Nat → Int32) : ll_P L xs 113 16 = some (.inl (lo_dup 17)) := (P_113 L xs 16).trans rfl
theorem p_113_17 (L : Nat) (xs : Nat → Int32) : ll_P L xs 113 17 = some (.inl (lo_push 19 (.int 68))) := (P_113 L xs 17).trans rfl
theorem p_113_19 (L : Nat) (xs : Nat → Int32) : ll_P L xs 113 19 = some (.inr (.inl (70, 2, 22))) := (P_113 L xs 19).trans rfl
theorem p_113_22 (L : Nat) (xs : Nat → Int32) : ll_P L xs 113 22 = some (.inl (lo_putf 25 10 5 2)) := (P_113 L xs 22).trans rfl
theorem p_113_25 (L : Nat) (xs : Nat → Int32) : ll_P L xs 113 25 = some (.inl (lo_aload 26 0)) := (P_113 L xs 25).trans rfl
theorem p_113_26 (L : Nat) (xs : Nat → Int32) : ll_P L xs 113 26 = some (.inl (lo_new 29 2 5 [.null, .null, .int 0, .int 0, .int 0])) := (P_113 L xs 26).trans rfl
theorem p_113_29 (L : Nat) (xs : Nat → Int32) : ll_P L xs 113 29 = some (.inl (lo_dup 30)) := (P_113 L xs 29).trans rfl
theorem p_113_30 (L : Nat) (xs : Nat → Int32) : ll_P L xs 113 30 = some (.inl (lo_aload 31 1)) := (P_113 L xs 30).trans rfl
theorem p_113_31 (L : Nat) (xs : Nat → Int32) : ll_P L xs 113 31 = some (.inl (lo_aload 32 0)) := (P_113 L xs 31).trans rfl
theorem p_113_32 (L : Nat) (xs : Nat → Int32) : ll_P L xs 113 32 = some (.inl (lo_getf 35 10 5)) := (P_113 L xs 32).trans rfl
theorem p_113_35 (L : Nat) (xs : Nat → Int32) : ll_P L xs 113 35 = some (.inr (.inl (21, 3, 38))) := (P_113 L xs 35).trans rfl
theorem p_113_38 (L : Nat) (xs : Nat → Int32) : ll_P L xs 113 38 = some (.inl (lo_putf 41 10 0 2)) := (P_113 L xs 38).trans rfl
theorem p_113_41 (L : Nat) (xs : Nat → Int32) : ll_P L xs 113 41 = some (.inl (lo_aload 42 0)) := (P_113 L xs 41).trans rfl
theorem p_113_42 (L : Nat) (xs : Nat → Int32) : ll_P L xs 113 42 = some (.inl (lo_new 45 6 8 [.null, .null, .null, .null, .null, .int 0, .int 0, .int 0])) := (P_113 L xs 42).trans rfl
theorem p_113_45 (L : Nat) (xs : Nat → Int32) : ll_P L xs 113 45 = some (.inl (lo_dup 46)) := (P_113 L xs 45).trans rfl
theorem p_113_46 (L : Nat) (xs : Nat → Int32) : ll_P L xs 113 46 = some (.inl (lo_aload 47 1)) := (P_113 L xs 46).trans rfl
theorem p_113_47 (L : Nat) (xs : Nat → Int32) : ll_P L xs 113 47 = some (.inr (.inl (59, 2, 50))) := (P_113 L xs 47).trans rfl
theorem p_113_50 (L : Nat) (xs : Nat → Int32) : ll_P L xs 113 50 = some (.inl (lo_putf 53 10 1 2)) := (P_113 L xs 50).trans rfl
theorem p_113_53 (L : Nat) (xs : Nat → Int32) : ll_P L xs 113 53 = some (.inl (lo_aload 54 0)) := (P_113 L xs 53).trans rfl
theorem p_113_54 (L : Nat) (xs : Nat → Int32) : ll_P L xs 113 54 = some (.inl (lo_push 55 (.int 2))) := (P_113 L xs 54).trans rfl
theorem p_113_55 (L : Nat) (xs : Nat → Int32) : ll_P L xs 113 55 = some (.inl (lo_anew 58 5)) := (P_113 L xs 55).trans rfl
theorem p_113_58 (L : Nat) (xs : Nat → Int32) : ll_P L xs 113 58 = some (.inl (lo_dup 59)) := (P_113 L xs 58).trans rfl
theorem p_113_59 (L : Nat) (xs : Nat → Int32) : ll_P L xs 113 59 = some (.inl (lo_push 60 (.int 0))) := (P_113 L xs 59).trans rfl
theorem p_113_60 (L : Nat) (xs : Nat → Int32) : ll_P L xs 113 60 = some (.inl (lo_new 63 5 11 [.null, .null, .null, .null, .null, .null, .int 0, .int 0, .int 0, .int 0, .int 0])) := (P_113 L xs 60).trans rfl
theorem p_113_63 (L : Nat) (xs : Nat → Int32) : ll_P L xs 113 63 = some (.inl (lo_dup 64)) := (P_113 L xs 63).trans rfl
theorem p_113_64 (L : Nat) (xs : Nat → Int32) : ll_P L xs 113 64 = some (.inr (.inl (38, 1, 67))) := (P_113 L xs 64).trans rfl
theorem p_113_67 (L : Nat) (xs : Nat → Int32) : ll_P L xs 113 67 = some (.inl (lo_aast 68)) := (P_113 L xs 67).trans rfl
theorem p_113_68 (L : Nat) (xs : Nat → Int32) : ll_P L xs 113 68 = some (.inl (lo_dup 69)) := (P_113 L xs 68).trans rfl
theorem p_113_69 (L : Nat) (xs : Nat → Int32) : ll_P L xs 113 69 = some (.inl (lo_push 70 (.int 1))) := (P_113 L xs 69).trans rfl
theorem p_113_70 (L : Nat) (xs : Nat → Int32) : ll_P L xs 113 70 = some (.inl (lo_new 73 5 11 [.null, .null, .null, .null, .null, .null, .int 0, .int 0, .int 0, .int 0, .int 0])) := (P_113 L xs 70).trans rfl
theorem p_113_73 (L : Nat) (xs : Nat → Int32) : ll_P L xs 113 73 = some (.inl (lo_dup 74)) := (P_113 L xs 73).trans rfl
theorem p_113_74 (L : Nat) (xs : Nat → Int32) : ll_P L xs 113 74 = some (.inr (.inl (38, 1, 77))) := (P_113 L xs 74).trans rfl
theorem p_113_77 (L : Nat) (xs : Nat → Int32) : ll_P L xs 113 77 = some (.inl (lo_aast 78)) := (P_113 L xs 77).trans rfl
theorem p_113_78 (L : Nat) (xs : Nat → Int32) : ll_P L xs 113 78 = some (.inl (lo_putf 81 10 6 2)) := (P_113 L xs 78).trans rfl
theorem p_113_81 (L : Nat) (xs : Nat → Int32) : ll_P L xs 113 81 = some (.inl (lo_aload 82 0)) := (P_113 L xs 81).trans rfl
theorem p_113_82 (L : Nat) (xs : Nat → Int32) : ll_P L xs 113 82 = some (.inl (lo_new 85 1 12 [.null, .null, .null, .null, .null, .null, .null, .null, .int 0, .int 0, .int 0, .int 0])) := (P_113 L xs 82).trans rfl
theorem p_113_85 (L : Nat) (xs : Nat → Int32) : ll_P L xs 113 85 = some (.inl (lo_dup 86)) := (P_113 L xs 85).trans rfl
theorem p_113_86 (L : Nat) (xs : Nat → Int32) : ll_P L xs 113 86 = some (.inr (.inl (8, 1, 89))) := (P_113 L xs 86).trans rfl
theorem p_113_89 (L : Nat) (xs : Nat → Int32) : ll_P L xs 113 89 = some (.inl (lo_putf 92 10 7 2)) := (P_113 L xs 89).trans rfl
theorem p_113_92 (L : Nat) (xs : Nat → Int32) : ll_P L xs 113 92 = some (.inl (lo_aload 93 0)) := (P_113 L xs 92).trans rfl
theorem p_113_93 (L : Nat) (xs : Nat → Int32) : ll_P L xs 113 93 = some (.inl (lo_new 96 4 10 [.null, .null, .null, .null, .null, .null, .null, .null, .null, .null])) := (P_113 L xs 93).trans rfl
theorem p_113_96 (L : Nat) (xs : Nat → Int32) : ll_P L xs 113 96 = some (.inl (lo_dup 97)) := (P_113 L xs 96).trans rfl
theorem p_113_97 (L : Nat) (xs : Nat → Int32) : ll_P L xs 113 97 = some (.inl (lo_aload 98 0)) := (P_113 L xs 97).trans rfl
theorem p_113_98 (L : Nat) (xs : Nat → Int32) : ll_P L xs 113 98 = some (.inl (lo_getf 101 10 6)) := (P_113 L xs 98).trans rfl
theorem p_113_101 (L : Nat) (xs : Nat → Int32) : ll_P L xs 113 101 = some (.inl (lo_push 102 (.int 0))) := (P_113 L xs 101).trans rfl
theorem p_113_102 (L : Nat) (xs : Nat → Int32) : ll_P L xs 113 102 = some (.inl (lo_aald 103)) := (P_113 L xs 102).trans rfl
theorem p_113_103 (L : Nat) (xs : Nat → Int32) : ll_P L xs 113 103 = some (.inl (lo_aload 104 0)) := (P_113 L xs 103).trans rfl
theorem p_113_104 (L : Nat) (xs : Nat → Int32) : ll_P L xs 113 104 = some (.inl (lo_getf 107 10 6)) := (P_113 L xs 104).trans rfl
theorem p_113_107 (L : Nat) (xs : Nat → Int32) : ll_P L xs 113 107 = some (.inl (lo_push 108 (.int 1))) := (P_113 L xs 107).trans rfl
theorem p_113_108 (L : Nat) (xs : Nat → Int32) : ll_P L xs 113 108 = some (.inl (lo_aald 109)) := (P_113 L xs 108).trans rfl
theorem p_113_109 (L : Nat) (xs : Nat → Int32) : ll_P L xs 113 109 = some (.inl (lo_aload 110 0)) := (P_113 L xs 109).trans rfl
theorem p_113_110 (L : Nat) (xs : Nat → Int32) : ll_P L xs 113 110 = some (.inl (lo_getf 113 10 7)) := (P_113 L xs 110).trans rfl
theorem p_113_113 (L : Nat) (xs : Nat → Int32) : ll_P L xs 113 113 = some (.inr (.inl (31, 4, 116))) := (P_113 L xs 113).trans rfl
theorem p_113_116 (L : Nat) (xs : Nat → Int32) : ll_P L xs 113 116 = some (.inl (lo_putf 119 10 2 2)) := (P_113 L xs 116).trans rfl
theorem p_113_119 (L : Nat) (xs : Nat → Int32) : ll_P L xs 113 119 = some (.inl (lo_aload 120 0)) := (P_113 L xs 119).trans rfl
theorem p_113_120 (L : Nat) (xs : Nat → Int32) : ll_P L xs 113 120 = some (.inl (lo_new 123 0 7 [.null, .null, .null, .int 0, .int 0, .int 0, .int 0])) := (P_113 L xs 120).trans rfl
theorem p_113_123 (L : Nat) (xs : Nat → Int32) : ll_P L xs 113 123 = some (.inl (lo_dup 124)) := (P_113 L xs 123).trans rfl
theorem p_113_124 (L : Nat) (xs : Nat → Int32) : ll_P L xs 113 124 = some (.inl (lo_aload 125 0)) := (P_113 L xs 124).trans rfl
theorem p_113_125 (L : Nat) (xs : Nat → Int32) : ll_P L xs 113 125 = some (.inl (lo_getf 128 10 6)) := (P_113 L xs 125).trans rfl
theorem p_113_128 (L : Nat) (xs : Nat → Int32) : ll_P L xs 113 128 = some (.inl (lo_push 129 (.int 0))) := (P_113 L xs 128).trans rfl
theorem p_113_129 (L : Nat) (xs : Nat → Int32) : ll_P L xs 113 129 = some (.inl (lo_aald 130)) := (P_113 L xs 129).trans rfl
theorem p_113_130 (L : Nat) (xs : Nat → Int32) : ll_P L xs 113 130 = some (.inl (lo_aload 131 0)) := (P_113 L xs 130).trans rfl
theorem p_113_131 (L : Nat) (xs : Nat → Int32) : ll_P L xs 113 131 = some (.inl (lo_getf 134 10 6)) := (P_113 L xs 131).trans rfl
theorem p_113_134 (L : Nat) (xs : Nat → Int32) : ll_P L xs 113 134 = some (.inl (lo_push 135 (.int 1))) := (P_113 L xs 134).trans rfl
theorem p_113_135 (L : Nat) (xs : Nat → Int32) : ll_P L xs 113 135 = some (.inl (lo_aald 136)) := (P_113 L xs 135).trans rfl
theorem p_113_136 (L : Nat) (xs : Nat → Int32) : ll_P L xs 113 136 = some (.inl (lo_aload 137 0)) := (P_113 L xs 136).trans rfl
theorem p_113_137 (L : Nat) (xs : Nat → Int32) : ll_P L xs 113 137 = some (.inl (lo_getf 140 10 7)) := (P_113 L xs 137).trans rfl
theorem p_113_140 (L : Nat) (xs : Nat → Int32) : ll_P L xs 113 140 = some (.inr (.inl (0, 4, 143))) := (P_113 L xs 140).trans rfl
theorem p_113_143 (L : Nat) (xs : Nat → Int32) : ll_P L xs 113 143 = some (.inl (lo_putf 146 10 3 2)) := (P_113 L xs 143).trans rfl
theorem p_113_146 (L : Nat) (xs : Nat → Int32) : ll_P L xs 113 146 = some (.inl (lo_aload 147 0)) := (P_113 L xs 146).trans rfl
theorem p_113_147 (L : Nat) (xs : Nat → Int32) : ll_P L xs 113 147 = some (.inl (lo_new 150 9 7 [.null, .null, .null, .null, .null, .null, .int 0])) := (P_113 L xs 147).trans rfl
theorem p_113_150 (L : Nat) (xs : Nat → Int32) : ll_P L xs 113 150 = some (.inl (lo_dup 151)) := (P_113 L xs 150).trans rfl
theorem p_113_151 (L : Nat) (xs : Nat → Int32) : ll_P L xs 113 151 = some (.inl (lo_aload 152 0)) := (P_113 L xs 151).trans rfl
theorem p_113_152 (L : Nat) (xs : Nat → Int32) : ll_P L xs 113 152 = some (.inl (lo_getf 155 10 6)) := (P_113 L xs 152).trans rfl
theorem p_113_155 (L : Nat) (xs : Nat → Int32) : ll_P L xs 113 155 = some (.inl (lo_push 156 (.int 0))) := (P_113 L xs 155).trans rfl
theorem p_113_156 (L : Nat) (xs : Nat → Int32) : ll_P L xs 113 156 = some (.inl (lo_aald 157)) := (P_113 L xs 156).trans rfl
theorem p_113_157 (L : Nat) (xs : Nat → Int32) : ll_P L xs 113 157 = some (.inl (lo_aload 158 0)) := (P_113 L xs 157).trans rfl
theorem p_113_158 (L : Nat) (xs : Nat → Int32) : ll_P L xs 113 158 = some (.inl (lo_getf 161 10 6)) := (P_113 L xs 158).trans rfl
theorem p_113_161 (L : Nat) (xs : Nat → Int32) : ll_P L xs 113 161 = some (.inl (lo_push 162 (.int 1))) := (P_113 L xs 161).trans rfl
theorem p_113_162 (L : Nat) (xs : Nat → Int32) : ll_P L xs 113 162 = some (.inl (lo_aald 163)) := (P_113 L xs 162).trans rfl
theorem p_113_163 (L : Nat) (xs : Nat → Int32) : ll_P L xs 113 163 = some (.inr (.inl (102, 3, 166))) := (P_113 L xs 163).trans rfl
theorem p_113_166 (L : Nat) (xs : Nat → Int32) : ll_P L xs 113 166 = some (.inl (lo_putf 169 10 4 2)) := (P_113 L xs 166).trans rfl
theorem p_113_169 (L : Nat) (xs : Nat → Int32) : ll_P L xs 113 169 = some (.inl (lo_aload 170 0)) := (P_113 L xs 169).trans rfl
theorem p_113_170 (L : Nat) (xs : Nat → Int32) : ll_P L xs 113 170 = some (.inl (lo_new 173 3 5 [.null, .null, .null, .null, .int 0])) := (P_113 L xs 170).trans rfl
theorem p_113_173 (L : Nat) (xs : Nat → Int32) : ll_P L xs 113 173 = some (.inl (lo_dup 174)) := (P_113 L xs 173).trans rfl
theorem p_113_174 (L : Nat) (xs : Nat → Int32) : ll_P L xs 113 174 = some (.inr (.inl (29, 1, 177))) := (P_113 L xs 174).trans rfl
theorem p_113_177 (L : Nat) (xs : Nat → Int32) : ll_P L xs 113 177 = some (.inl (lo_putf 180 10 8 2)) := (P_113 L xs 177).trans rfl
theorem p_113_180 (L : Nat) (xs : Nat → Int32) : ll_P L xs 113 180 = some (.inl (lo_aload 181 0)) := (P_113 L xs 180).trans rfl
theorem p_113_181 (L : Nat) (xs : Nat → Int32) : ll_P L xs 113 181 = some (.inl (lo_push 182 (.int 2))) := (P_113 L xs 181).trans rfl
theorem p_113_182 (L : Nat) (xs : Nat → Int32) : ll_P L xs 113 182 = some (.inl (lo_anew 185 3)) := (P_113 L xs 182).trans rfl
theorem p_113_185 (L : Nat) (xs : Nat → Int32) : ll_P L xs 113 185 = some (.inl (lo_dup 186)) := (P_113 L xs 185).trans rfl
theorem p_113_186 (L : Nat) (xs : Nat → Int32) : ll_P L xs 113 186 = some (.inl (lo_push 187 (.int 0))) := (P_113 L xs 186).trans rfl
theorem p_113_187 (L : Nat) (xs : Nat → Int32) : ll_P L xs 113 187 = some (.inl (lo_new 190 3 5 [.null, .null, .null, .null, .int 0])) := (P_113 L xs 187).trans rfl
theorem p_113_190 (L : Nat) (xs : Nat → Int32) : ll_P L xs 113 190 = some (.inl (lo_dup 191)) := (P_113 L xs 190).trans rfl
theorem p_113_191 (L : Nat) (xs : Nat → Int32) : ll_P L xs 113 191 = some (.inr (.inl (29, 1, 194))) := (P_113 L xs 191).trans rfl
theorem p_113_194 (L : Nat) (xs : Nat → Int32) : ll_P L xs 113 194 = some (.inl (lo_aast 195)) := (P_113 L xs 194).trans rfl
theorem p_113_195 (L : Nat) (xs : Nat → Int32) : ll_P L xs 113 195 = some (.inl (lo_dup 196)) := (P_113 L xs 195).trans rfl
theorem p_113_196 (L : Nat) (xs : Nat → Int32) : ll_P L xs 113 196 = some (.inl (lo_push 197 (.int 1))) := (P_113 L xs 196).trans rfl
theorem p_113_197 (L : Nat) (xs : Nat → Int32) : ll_P L xs 113 197 = some (.inl (lo_new 200 3 5 [.null, .null, .null, .null, .int 0])) := (P_113 L xs 197).trans rfl
theorem p_113_200 (L : Nat) (xs : Nat → Int32) : ll_P L xs 113 200 = some (.inl (lo_dup 201)) := (P_113 L xs 200).trans rfl
theorem p_113_201 (L : Nat) (xs : Nat → Int32) : ll_P L xs 113 201 = some (.inr (.inl (29, 1, 204))) := (P_113 L xs 201).trans rfl
theorem p_113_204 (L : Nat) (xs : Nat → Int32) : ll_P L xs 113 204 = some (.inl (lo_aast 205)) := (P_113 L xs 204).trans rfl
theorem p_113_205 (L : Nat) (xs : Nat → Int32) : ll_P L xs 113 205 = some (.inl (lo_putf 208 10 9 2)) := (P_113 L xs 205).trans rfl
theorem p_113_208 (L : Nat) (xs : Nat → Int32) : ll_P L xs 113 208 = some (.inl (lo_aload 209 0)) := (P_113 L xs 208).trans rfl
theorem p_113_209 (L : Nat) (xs : Nat → Int32) : ll_P L xs 113 209 = some (.inl (lo_push 210 (.int 2))) := (P_113 L xs 209).trans rfl
theorem p_113_210 (L : Nat) (xs : Nat → Int32) : ll_P L xs 113 210 = some (.inl (lo_newa 212 1)) := (P_113 L xs 210).trans rfl
theorem p_113_212 (L : Nat) (xs : Nat → Int32) : ll_P L xs 113 212 = some (.inl (lo_putf 215 10 10 2)) := (P_113 L xs 212).trans rfl
theorem p_113_215 (L : Nat) (xs : Nat → Int32) : ll_P L xs 113 215 = some (.inl (lo_push 216 (.int 0))) := (P_113 L xs 215).trans rfl
theorem p_113_216 (L : Nat) (xs : Nat → Int32) : ll_P L xs 113 216 = some (.inl (lo_istore 217 2)) := (P_113 L xs 216).trans rfl
theorem p_113_217 (L : Nat) (xs : Nat → Int32) : ll_P L xs 113 217 = some (.inl (lo_iload 218 2)) := (P_113 L xs 217).trans rfl
theorem p_113_218 (L : Nat) (xs : Nat → Int32) : ll_P L xs 113 218 = some (.inl (lo_push 219 (.int 2))) := (P_113 L xs 218).trans rfl
theorem p_113_219 (L : Nat) (xs : Nat → Int32) : ll_P L xs 113 219 = some (.inl (lo_cmp 245 222 (fun x y => decide (y ≤ x)))) := (P_113 L xs 219).trans rfl
theorem p_113_222 (L : Nat) (xs : Nat → Int32) : ll_P L xs 113 222 = some (.inl (lo_aload 223 0)) := (P_113 L xs 222).trans rfl
theorem p_113_223 (L : Nat) (xs : Nat → Int32) : ll_P L xs 113 223 = some (.inl (lo_getf 226 10 1)) := (P_113 L xs 223).trans rfl
theorem p_113_226 (L : Nat) (xs : Nat → Int32) : ll_P L xs 113 226 = some (.inl (lo_push 227 (.int 0))) := (P_113 L xs 226).trans rfl
theorem p_113_227 (L : Nat) (xs : Nat → Int32) : ll_P L xs 113 227 = some (.inl (lo_aload 228 0)) := (P_113 L xs 227).trans rfl
theorem p_113_228 (L : Nat) (xs : Nat → Int32) : ll_P L xs 113 228 = some (.inl (lo_getf 231 10 8)) := (P_113 L xs 228).trans rfl
theorem p_113_231 (L : Nat) (xs : Nat → Int32) : ll_P L xs 113 231 = some (.inl (lo_getf 234 3 1)) := (P_113 L xs 231).trans rfl
theorem p_113_234 (L : Nat) (xs : Nat → Int32) : ll_P L xs 113 234 = some (.inl (lo_iload 235 2)) := (P_113 L xs 234).trans rfl
theorem p_113_235 (L : Nat) (xs : Nat → Int32) : ll_P L xs 113 235 = some (.inl (lo_aald 236)) := (P_113 L xs 235).trans rfl
theorem p_113_236 (L : Nat) (xs : Nat → Int32) : ll_P L xs 113 236 = some (.inr (.inl (61, 3, 239))) := (P_113 L xs 236).trans rfl
theorem p_113_239 (L : Nat) (xs : Nat → Int32) : ll_P L xs 113 239 = some (.inl (lo_iinc 242 2 1)) := (P_113 L xs 239).trans rfl
theorem p_113_242 (L : Nat) (xs : Nat → Int32) : ll_P L xs 113 242 = some (.inl (lo_goto 217)) := (P_113 L xs 242).trans rfl
theorem p_113_245 (L : Nat) (xs : Nat → Int32) : ll_P L xs 113 245 = some (.inl (lo_push 246 (.int 0))) := (P_113 L xs 245).trans rfl
theorem p_113_246 (L : Nat) (xs : Nat → Int32) : ll_P L xs 113 246 = some (.inl (lo_istore 247 2)) := (P_113 L xs 246).trans rfl
theorem p_113_247 (L : Nat) (xs : Nat → Int32) : ll_P L xs 113 247 = some (.inl (lo_iload 248 2)) := (P_113 L xs 247).trans rfl
theorem p_113_248 (L : Nat) (xs : Nat → Int32) : ll_P L xs 113 248 = some (.inl (lo_push 249 (.int 4))) := (P_113 L xs 248).trans rfl
theorem p_113_249 (L : Nat) (xs : Nat → Int32) : ll_P L xs 113 249 = some (.inl (lo_cmp 282 252 (fun x y => decide (y ≤ x)))) := (P_113 L xs 249).trans rfl
theorem p_113_252 (L : Nat) (xs : Nat → Int32) : ll_P L xs 113 252 = some (.inl (lo_aload 253 0)) := (P_113 L xs 252).trans rfl
theorem p_113_253 (L : Nat) (xs : Nat → Int32) : ll_P L xs 113 253 = some (.inl (lo_getf 256 10 8)) := (P_113 L xs 253).trans rfl
theorem p_113_256 (L : Nat) (xs : Nat → Int32) : ll_P L xs 113 256 = some (.inl (lo_getf 259 3 2)) := (P_113 L xs 256).trans rfl
theorem p_113_259 (L : Nat) (xs : Nat → Int32) : ll_P L xs 113 259 = some (.inl (lo_iload 260 2)) := (P_113 L xs 259).trans rfl
theorem p_113_260 (L : Nat) (xs : Nat → Int32) : ll_P L xs 113 260 = some (.inl (lo_aald 261)) := (P_113 L xs 260).trans rfl
theorem p_113_261 (L : Nat) (xs : Nat → Int32) : ll_P L xs 113 261 = some (.inl (lo_aload 262 0)) := (P_113 L xs 261).trans rfl
theorem p_113_262 (L : Nat) (xs : Nat → Int32) : ll_P L xs 113 262 = some (.inl (lo_getf 265 10 8)) := (P_113 L xs 262).trans rfl
theorem p_113_265 (L : Nat) (xs : Nat → Int32) : ll_P L xs 113 265 = some (.inl (lo_getf 268 3 1)) := (P_113 L xs 265).trans rfl
theorem p_113_268 (L : Nat) (xs : Nat → Int32) : ll_P L xs 113 268 = some (.inl (lo_push 269 (.int 0))) := (P_113 L xs 268).trans rfl
theorem p_113_269 (L : Nat) (xs : Nat → Int32) : ll_P L xs 113 269 = some (.inl (lo_aald 270)) := (P_113 L xs 269).trans rfl
theorem p_113_270 (L : Nat) (xs : Nat → Int32) : ll_P L xs 113 270 = some (.inl (lo_getf 273 5 0)) := (P_113 L xs 270).trans rfl
theorem p_113_273 (L : Nat) (xs : Nat → Int32) : ll_P L xs 113 273 = some (.inr (.inl (75, 2, 276))) := (P_113 L xs 273).trans rfl
theorem p_113_276 (L : Nat) (xs : Nat → Int32) : ll_P L xs 113 276 = some (.inl (lo_iinc 279 2 1)) := (P_113 L xs 276).trans rfl
theorem p_113_279 (L : Nat) (xs : Nat → Int32) : ll_P L xs 113 279 = some (.inl (lo_goto 247)) := (P_113 L xs 279).trans rfl
theorem p_113_282 (L : Nat) (xs : Nat → Int32) : ll_P L xs 113 282 = some (.inr (.inr 0)) := (P_113 L xs 282).trans rfl
/-! InclusionProver.write.(J)I -/
theorem p_114_0 (L : Nat) (xs : Nat → Int32) : ll_P L xs 114 0 = some (.inl (lo_lload 1 1)) := (P_114 L xs 0).trans rfl
theorem p_114_1 (L : Nat) (xs : Nat → Int32) : ll_P L xs 114 1 = some (.inr (.inl (142, 1, 4))) := (P_114 L xs 1).trans rfl
theorem p_114_4 (L : Nat) (xs : Nat → Int32) : ll_P L xs 114 4 = some (.inl (lo_istore 5 3)) := (P_114 L xs 4).trans rfl
theorem p_114_5 (L : Nat) (xs : Nat → Int32) : ll_P L xs 114 5 = some (.inl (lo_aload 6 0)) := (P_114 L xs 5).trans rfl
theorem p_114_6 (L : Nat) (xs : Nat → Int32) : ll_P L xs 114 6 = some (.inl (lo_getf 9 10 8)) := (P_114 L xs 6).trans rfl
theorem p_114_9 (L : Nat) (xs : Nat → Int32) : ll_P L xs 114 9 = some (.inl (lo_getf 12 3 0)) := (P_114 L xs 9).trans rfl
theorem p_114_12 (L : Nat) (xs : Nat → Int32) : ll_P L xs 114 12 = some (.inl (lo_astore 14 4)) := (P_114 L xs 12).trans rfl
theorem p_114_14 (L : Nat) (xs : Nat → Int32) : ll_P L xs 114 14 = some (.inl (lo_aload 16 4)) := (P_114 L xs 14).trans rfl
theorem p_114_16 (L : Nat) (xs : Nat → Int32) : ll_P L xs 114 16 = some (.inl (lo_getf 19 7 1)) := (P_114 L xs 16).trans rfl
theorem p_114_19 (L : Nat) (xs : Nat → Int32) : ll_P L xs 114 19 = some (.inl (lo_iload 20 3)) := (P_114 L xs 19).trans rfl
theorem p_114_20 (L : Nat) (xs : Nat → Int32) : ll_P L xs 114 20 = some (.inl (lo_bin 21 (fun x y => x + y))) := (P_114 L xs 20).trans rfl
theorem p_114_21 (L : Nat) (xs : Nat → Int32) : ll_P L xs 114 21 = some (.inl (lo_push 23 (.int 60))) := (P_114 L xs 21).trans rfl
theorem p_114_23 (L : Nat) (xs : Nat → Int32) : ll_P L xs 114 23 = some (.inl (lo_cmp 28 26 (fun x y => decide (x ≤ y)))) := (P_114 L xs 23).trans rfl
theorem p_114_26 (L : Nat) (xs : Nat → Int32) : ll_P L xs 114 26 = some (.inl (lo_push 27 (.int (-1)))) := (P_114 L xs 26).trans rfl
theorem p_114_27 (L : Nat) (xs : Nat → Int32) : ll_P L xs 114 27 = some (.inr (.inr 1)) := (P_114 L xs 27).trans rfl
theorem p_114_28 (L : Nat) (xs : Nat → Int32) : ll_P L xs 114 28 = some (.inl (lo_push 29 (.int 0))) := (P_114 L xs 28).trans rfl
theorem p_114_29 (L : Nat) (xs : Nat → Int32) : ll_P L xs 114 29 = some (.inl (lo_istore 31 5)) := (P_114 L xs 29).trans rfl
theorem p_114_31 (L : Nat) (xs : Nat → Int32) : ll_P L xs 114 31 = some (.inl (lo_iload 33 5)) := (P_114 L xs 31).trans rfl
theorem p_114_33 (L : Nat) (xs : Nat → Int32) : ll_P L xs 114 33 = some (.inl (lo_iload 34 3)) := (P_114 L xs 33).trans rfl
theorem p_114_34 (L : Nat) (xs : Nat → Int32) : ll_P L xs 114 34 = some (.inl (lo_cmp 54 37 (fun x y => decide (y ≤ x)))) := (P_114 L xs 34).trans rfl
theorem p_114_37 (L : Nat) (xs : Nat → Int32) : ll_P L xs 114 37 = some (.inl (lo_aload 39 4)) := (P_114 L xs 37).trans rfl
theorem p_114_39 (L : Nat) (xs : Nat → Int32) : ll_P L xs 114 39 = some (.inl (lo_lload 40 1)) := (P_114 L xs 39).trans rfl
theorem p_114_40 (L : Nat) (xs : Nat → Int32) : ll_P L xs 114 40 = some (.inl (lo_iload 42 5)) := (P_114 L xs 40).trans rfl
theorem p_114_42 (L : Nat) (xs : Nat → Int32) : ll_P L xs 114 42 = some (.inr (.inl (141, 2, 45))) := (P_114 L xs 42).trans rfl
theorem p_114_45 (L : Nat) (xs : Nat → Int32) : ll_P L xs 114 45 = some (.inr (.inl (72, 2, 48))) := (P_114 L xs 45).trans rfl
theorem p_114_48 (L : Nat) (xs : Nat → Int32) : ll_P L xs 114 48 = some (.inl (lo_iinc 51 5 1)) := (P_114 L xs 48).trans rfl
theorem p_114_51 (L : Nat) (xs : Nat → Int32) : ll_P L xs 114 51 = some (.inl (lo_goto 31)) := (P_114 L xs 51).trans rfl
theorem p_114_54 (L : Nat) (xs : Nat → Int32) : ll_P L xs 114 54 = some (.inl (lo_aload 56 4)) := (P_114 L xs 54).trans rfl
theorem p_114_56 (L : Nat) (xs : Nat → Int32) : ll_P L xs 114 56 = some (.inl (lo_getf 59 7 1)) := (P_114 L xs 56).trans rfl
theorem p_114_59 (L : Nat) (xs : Nat → Int32) : ll_P L xs 114 59 = some (.inr (.inr 1)) := (P_114 L xs 59).trans rfl
theorem b_114_0 {Y : sY} {d : Nat} {s : sT} {K : Option Int32 → sT → Prop} {r0 : Nat} {w1 : Int64} (h : tT Y d 142 0 [.long w1, .null, .null] [] s (fun r s1 => tT Y (d + 1) 114 4 [.ref r0, .long w1, .null, .null, .null, .null] ((r.map Value.int).toList ++ []) s1 K)) : tT Y (d + 1) 114 0 [.ref r0, .long w1, .null, .null, .null, .null] [] s K :=
  (tt_lload (p_114_0 _ _) rfl).mpr (t2_calls (z := 142) (k := 1) (as := [.long w1]) (rest := []) (p_114_1 _ _) mK_142 mL_142 rfl rfl (Nat.le_of_ble_eq_true rfl) rfl (Nat.le_of_ble_eq_true rfl) h)
theorem b_114_4 {Y : sY} {d : Nat} {s : sT} {K : Option Int32 → sT → Prop} {r0 : Nat} {w1 : Int64} {t0 : Int32} (h : (∃ a1, (isO Y r0 10 ∧ s.2 r0 8 = some a1) ∧ (∃ a3, (isO Y a1 3 ∧ s.2 a1 0 = some a3) ∧ (isO Y a3 7 ∧ (if ((s.1 a3 1) + t0) ≤ (60 : Int32) then tT Y (d + 1) 114 31 [.ref r0, .long w1, .null, .int t0, .ref a3, .int (0 : Int32)] [] s K else K (some (-1 : Int32)) s))))) : tT Y (d + 1) 114 4 [.ref r0, .long w1, .null, .null, .null, .null] [.int t0] s K :=
  (tt_istore (p_114_4 _ _) (Nat.le_of_ble_eq_true rfl) rfl rfl).mpr ((tt_aload (p_114_5 _ _) rfl).mpr (Exists.elim h (fun a1 h2 => t3_getr (p_114_6 _ _) (isI_10_8) h2.1.1 h2.1.2 (Exists.elim h2.2 (fun a3 h4 => t3_getr (p_114_9 _ _) (isI_3_0) h4.1.1 h4.1.2 ((tt_astore (p_114_12 _ _) (Nat.le_of_ble_eq_true rfl) rfl rfl).mpr ((tt_aload (p_114_14 _ _) rfl).mpr (t3_geti (p_114_16 _ _) (isI_7_1) h4.2.1 ((tt_iload (p_114_19 _ _) rfl).mpr ((tt_bin (p_114_20 _ _)).mpr ((tt_push (p_114_21 _ _)).mpr (t3_cmp (p := ((s.1 a3 1) + t0) ≤ (60 : Int32)) (p_114_23 _ _) rfl (fun g5 => (tt_push (p_114_28 _ _)).mpr ((tt_istore (p_114_29 _ _) (Nat.le_of_ble_eq_true rfl) rfl rfl).mpr ((ifp h4.2.2 g5)))) (fun g5 => (tt_push (p_114_26 _ _)).mpr (tt_ret1 (p_114_27 _ _) (ifn h4.2.2 g5)))))))))))))))
theorem b_114_31 {Y : sY} {d : Nat} {s : sT} {K : Option Int32 → sT → Prop} {r0 : Nat} {w1 : Int64} {x3 : Int32} {r4 : Nat} {x5 : Int32} (h : (if x3 ≤ x5 then (isO Y r4 7 ∧ K (some (s.1 r4 1)) s) else tT Y d 141 0 [.long w1, .null, .int x5] [] s (fun r s1 => tT Y (d + 1) 114 45 [.ref r0, .long w1, .null, .int x3, .ref r4, .int x5] ((r.map Value.int).toList ++ [.ref r4]) s1 K))) : tT Y (d + 1) 114 31 [.ref r0, .long w1, .null, .int x3, .ref r4, .int x5] [] s K :=
  (tt_iload (p_114_31 _ _) rfl).mpr ((tt_iload (p_114_33 _ _) rfl).mpr (t3_cmp (p := x3 ≤ x5) (p_114_34 _ _) rfl (fun g1 => (tt_aload (p_114_54 _ _) rfl).mpr (t3_geti (p_114_56 _ _) (isI_7_1) (ifp h g1).1 (tt_ret1 (p_114_59 _ _) (ifp h g1).2))) (fun g1 => (tt_aload (p_114_37 _ _) rfl).mpr ((tt_lload (p_114_39 _ _) rfl).mpr ((tt_iload (p_114_40 _ _) rfl).mpr (t2_calls (z := 141) (k := 2) (as := [.long w1, .int x5]) (rest := [.ref r4]) (p_114_42 _ _) mK_141 mL_141 rfl rfl (Nat.le_of_ble_eq_true rfl) rfl (Nat.le_of_ble_eq_true rfl) (ifn h g1)))))))
theorem b_114_45 {Y : sY} {d : Nat} {s : sT} {K : Option Int32 → sT → Prop} {r0 : Nat} {w1 : Int64} {x3 : Int32} {r4 : Nat} {x5 : Int32} {t0 : Nat} {t1 : Int32} (h : (isO Y t0 7 ∧ tT Y d 72 0 [.ref t0, .int t1] [] s (fun r s1 => tT Y (d + 1) 114 48 [.ref r0, .long w1, .null, .int x3, .ref r4, .int x5] ((r.map Value.int).toList ++ []) s1 K))) : tT Y (d + 1) 114 45 [.ref r0, .long w1, .null, .int x3, .ref r4, .int x5] [.int t1, .ref t0] s K :=
  t2_callv (z := 72) (k := 2) (i := t0) (as := [.int t1]) (rest := []) (p_114_45 _ _) mK_72 mL_72 rfl rfl (Nat.le_of_ble_eq_true rfl) rfl (Nat.le_of_ble_eq_true rfl) h.1 h.2
theorem b_114_48 {Y : sY} {d : Nat} {s : sT} {K : Option Int32 → sT → Prop} {r0 : Nat} {w1 : Int64} {x3 : Int32} {r4 : Nat} {x5 : Int32} (h : tT Y (d + 1) 114 31 [.ref r0, .long w1, .null, .int x3, .ref r4, .int (x5 + 1)] [] s K) : tT Y (d + 1) 114 48 [.ref r0, .long w1, .null, .int x3, .ref r4, .int x5] [] s K :=
  (tt_iinc (p_114_48 _ _) rfl rfl rfl).mpr ((tt_goto (p_114_51 _ _)).mpr (h))
/-! InclusionProver.side.(I)I -/
theorem p_115_0 (L : Nat) (xs : Nat → Int32) : ll_P L xs 115 0 = some (.inl (lo_aload 1 0)) := (P_115 L xs 0).trans rfl
theorem p_115_1 (L : Nat) (xs : Nat → Int32) : ll_P L xs 115 1 = some (.inl (lo_getf 4 10 8)) := (P_115 L xs 1).trans rfl
theorem p_115_4 (L : Nat) (xs : Nat → Int32) : ll_P L xs 115 4 = some (.inl (lo_getf 7 3 0)) := (P_115 L xs 4).trans rfl
theorem p_115_7 (L : Nat) (xs : Nat → Int32) : ll_P L xs 115 7 = some (.inl (lo_astore 8 2)) := (P_115 L xs 7).trans rfl
theorem p_115_8 (L : Nat) (xs : Nat → Int32) : ll_P L xs 115 8 = some (.inl (lo_aload 9 2)) := (P_115 L xs 8).trans rfl
theorem p_115_9 (L : Nat) (xs : Nat → Int32) : ll_P L xs 115 9 = some (.inl (lo_getf 12 7 1)) := (P_115 L xs 9).trans rfl
theorem p_115_12 (L : Nat) (xs : Nat → Int32) : ll_P L xs 115 12 = some (.inl (lo_istore 13 3)) := (P_115 L xs 12).trans rfl
theorem p_115_13 (L : Nat) (xs : Nat → Int32) : ll_P L xs 115 13 = some (.inl (lo_push 14 (.int 0))) := (P_115 L xs 13).trans rfl
theorem p_115_14 (L : Nat) (xs : Nat → Int32) : ll_P L xs 115 14 = some (.inl (lo_istore 16 4)) := (P_115 L xs 14).trans rfl
theorem p_115_16 (L : Nat) (xs : Nat → Int32) : ll_P L xs 115 16 = some (.inl (lo_aload 17 0)) := (P_115 L xs 16).trans rfl
theorem p_115_17 (L : Nat) (xs : Nat → Int32) : ll_P L xs 115 17 = some (.inl (lo_getf 20 10 8)) := (P_115 L xs 17).trans rfl
theorem p_115_20 (L : Nat) (xs : Nat → Int32) : ll_P L xs 115 20 = some (.inl (lo_push 21 (.int (-1)))) := (P_115 L xs 20).trans rfl
theorem p_115_21 (L : Nat) (xs : Nat → Int32) : ll_P L xs 115 21 = some (.inl (lo_putf 24 3 4 0)) := (P_115 L xs 21).trans rfl
theorem p_115_24 (L : Nat) (xs : Nat → Int32) : ll_P L xs 115 24 = some (.inl (lo_iload 25 1)) := (P_115 L xs 24).trans rfl
theorem p_115_25 (L : Nat) (xs : Nat → Int32) : ll_P L xs 115 25 = some (.inr (.inl (138, 1, 28))) := (P_115 L xs 25).trans rfl
theorem p_115_28 (L : Nat) (xs : Nat → Int32) : ll_P L xs 115 28 = some (.inl (lo_if 61 31 (fun x => decide (x = 0)))) := (P_115 L xs 28).trans rfl
theorem p_115_31 (L : Nat) (xs : Nat → Int32) : ll_P L xs 115 31 = some (.inl (lo_aload 32 0)) := (P_115 L xs 31).trans rfl
theorem p_115_32 (L : Nat) (xs : Nat → Int32) : ll_P L xs 115 32 = some (.inl (lo_getf 35 10 0)) := (P_115 L xs 32).trans rfl
theorem p_115_35 (L : Nat) (xs : Nat → Int32) : ll_P L xs 115 35 = some (.inl (lo_aload 36 2)) := (P_115 L xs 35).trans rfl
theorem p_115_36 (L : Nat) (xs : Nat → Int32) : ll_P L xs 115 36 = some (.inl (lo_iload 37 3)) := (P_115 L xs 36).trans rfl
theorem p_115_37 (L : Nat) (xs : Nat → Int32) : ll_P L xs 115 37 = some (.inl (lo_push 39 (.int 30))) := (P_115 L xs 37).trans rfl
theorem p_115_39 (L : Nat) (xs : Nat → Int32) : ll_P L xs 115 39 = some (.inl (lo_mm 42 (fun x y => if y < x then y else x))) := (P_115 L xs 39).trans rfl
theorem p_115_42 (L : Nat) (xs : Nat → Int32) : ll_P L xs 115 42 = some (.inr (.inl (22, 3, 45))) := (P_115 L xs 42).trans rfl
theorem p_115_45 (L : Nat) (xs : Nat → Int32) : ll_P L xs 115 45 = some (.inl (lo_istore 47 4)) := (P_115 L xs 45).trans rfl
theorem p_115_47 (L : Nat) (xs : Nat → Int32) : ll_P L xs 115 47 = some (.inl (lo_aload 48 0)) := (P_115 L xs 47).trans rfl
theorem p_115_48 (L : Nat) (xs : Nat → Int32) : ll_P L xs 115 48 = some (.inl (lo_getf 51 10 8)) := (P_115 L xs 48).trans rfl
theorem p_115_51 (L : Nat) (xs : Nat → Int32) : ll_P L xs 115 51 = some (.inl (lo_aload 52 0)) := (P_115 L xs 51).trans rfl
theorem p_115_52 (L : Nat) (xs : Nat → Int32) : ll_P L xs 115 52 = some (.inl (lo_iload 54 4)) := (P_115 L xs 52).trans rfl
theorem p_115_54 (L : Nat) (xs : Nat → Int32) : ll_P L xs 115 54 = some (.inl (lo_iload 55 3)) := (P_115 L xs 54).trans rfl
theorem p_115_55 (L : Nat) (xs : Nat → Int32) : ll_P L xs 115 55 = some (.inr (.inl (144, 3, 58))) := (P_115 L xs 55).trans rfl
theorem p_115_58 (L : Nat) (xs : Nat → Int32) : ll_P L xs 115 58 = some (.inl (lo_putf 61 3 4 0)) := (P_115 L xs 58).trans rfl
theorem p_115_61 (L : Nat) (xs : Nat → Int32) : ll_P L xs 115 61 = some (.inl (lo_aload 62 2)) := (P_115 L xs 61).trans rfl
theorem p_115_62 (L : Nat) (xs : Nat → Int32) : ll_P L xs 115 62 = some (.inr (.inl (71, 1, 65))) := (P_115 L xs 62).trans rfl
theorem p_115_65 (L : Nat) (xs : Nat → Int32) : ll_P L xs 115 65 = some (.inl (lo_iload 66 1)) := (P_115 L xs 65).trans rfl
theorem p_115_66 (L : Nat) (xs : Nat → Int32) : ll_P L xs 115 66 = some (.inr (.inl (138, 1, 69))) := (P_115 L xs 66).trans rfl
theorem p_115_69 (L : Nat) (xs : Nat → Int32) : ll_P L xs 115 69 = some (.inl (lo_if 83 72 (fun x => decide (x = 0)))) := (P_115 L xs 69).trans rfl
theorem p_115_72 (L : Nat) (xs : Nat → Int32) : ll_P L xs 115 72 = some (.inl (lo_aload 73 0)) := (P_115 L xs 72).trans rfl
theorem p_115_73 (L : Nat) (xs : Nat → Int32) : ll_P L xs 115 73 = some (.inl (lo_getf 76 10 8)) := (P_115 L xs 73).trans rfl
theorem p_115_76 (L : Nat) (xs : Nat → Int32) : ll_P L xs 115 76 = some (.inl (lo_getf 79 3 4)) := (P_115 L xs 76).trans rfl
theorem p_115_79 (L : Nat) (xs : Nat → Int32) : ll_P L xs 115 79 = some (.inl (lo_push 80 (.int (-1)))) := (P_115 L xs 79).trans rfl
theorem p_115_80 (L : Nat) (xs : Nat → Int32) : ll_P L xs 115 80 = some (.inl (lo_cmp 85 83 (fun x y => decide (x = y)))) := (P_115 L xs 80).trans rfl
theorem p_115_83 (L : Nat) (xs : Nat → Int32) : ll_P L xs 115 83 = some (.inl (lo_push 84 (.int (-1)))) := (P_115 L xs 83).trans rfl
theorem p_115_84 (L : Nat) (xs : Nat → Int32) : ll_P L xs 115 84 = some (.inr (.inr 1)) := (P_115 L xs 84).trans rfl
theorem p_115_85 (L : Nat) (xs : Nat → Int32) : ll_P L xs 115 85 = some (.inl (lo_aload 86 0)) := (P_115 L xs 85).trans rfl
theorem p_115_86 (L : Nat) (xs : Nat → Int32) : ll_P L xs 115 86 = some (.inl (lo_iload 87 1)) := (P_115 L xs 86).trans rfl
theorem p_115_87 (L : Nat) (xs : Nat → Int32) : ll_P L xs 115 87 = some (.inl (lo_iload 89 4)) := (P_115 L xs 87).trans rfl
theorem p_115_89 (L : Nat) (xs : Nat → Int32) : ll_P L xs 115 89 = some (.inr (.inl (145, 3, 92))) := (P_115 L xs 89).trans rfl
theorem p_115_92 (L : Nat) (xs : Nat → Int32) : ll_P L xs 115 92 = some (.inr (.inr 1)) := (P_115 L xs 92).trans rfl
theorem b_115_0 {Y : sY} {d : Nat} {s : sT} {K : Option Int32 → sT → Prop} {r0 : Nat} {x1 : Int32} (h : (∃ a1, (isO Y r0 10 ∧ s.2 r0 8 = some a1) ∧ (∃ a3, (isO Y a1 3 ∧ s.2 a1 0 = some a3) ∧ (isO Y a3 7 ∧ (∃ a5, (isO Y r0 10 ∧ s.2 r0 8 = some a5) ∧ (isO Y a5 3 ∧ tT Y d 138 0 [.int x1] [] (pV s a5 4 (-1 : Int32)) (fun r s1 => tT Y (d + 1) 115 28 [.ref r0, .int x1, .ref a3, .int (s.1 a3 1), .int (0 : Int32)] ((r.map Value.int).toList ++ []) s1 K))))))) : tT Y (d + 1) 115 0 [.ref r0, .int x1, .null, .null, .null] [] s K :=
  (tt_aload (p_115_0 _ _) rfl).mpr (Exists.elim h (fun a1 h2 => t3_getr (p_115_1 _ _) (isI_10_8) h2.1.1 h2.1.2 (Exists.elim h2.2 (fun a3 h4 => t3_getr (p_115_4 _ _) (isI_3_0) h4.1.1 h4.1.2 ((tt_astore (p_115_7 _ _) (Nat.le_of_ble_eq_true rfl) rfl rfl).mpr ((tt_aload (p_115_8 _ _) rfl).mpr (t3_geti (p_115_9 _ _) (isI_7_1) h4.2.1 ((tt_istore (p_115_12 _ _) (Nat.le_of_ble_eq_true rfl) rfl rfl).mpr ((tt_push (p_115_13 _ _)).mpr ((tt_istore (p_115_14 _ _) (Nat.le_of_ble_eq_true rfl) rfl rfl).mpr ((tt_aload (p_115_16 _ _) rfl).mpr (Exists.elim h4.2.2 (fun a5 h6 => t3_getr (p_115_17 _ _) (isI_10_8) h6.1.1 h6.1.2 ((tt_push (p_115_20 _ _)).mpr ((t2_puti (p_115_21 _ _) isI_3_4 h6.2.1).mpr ((tt_iload (p_115_24 _ _) rfl).mpr (t2_calls (z := 138) (k := 1) (as := [.int x1]) (rest := []) (p_115_25 _ _) mK_138 mL_138 rfl rfl (Nat.le_of_ble_eq_true rfl) rfl (Nat.le_of_ble_eq_true rfl) h6.2.2)))))))))))))))))
theorem b_115_28 {Y : sY} {d : Nat} {s : sT} {K : Option Int32 → sT → Prop} {r0 : Nat} {x1 : Int32} {r2 : Nat} {x3 : Int32} {x4 : Int32} {t0 : Int32} (h : (if t0 = 0 then tT Y (d + 1) 115 61 [.ref r0, .int x1, .ref r2, .int x3, .int x4] [] s K else (∃ a2, (isO Y r0 10 ∧ s.2 r0 0 = some a2) ∧ (isO Y a2 2 ∧ tT Y d 22 0 [.ref a2, .ref r2, .int (if (30 : Int32) < x3 then (30 : Int32) else x3), .null] [] s (fun r s1 => tT Y (d + 1) 115 45 [.ref r0, .int x1, .ref r2, .int x3, .int x4] ((r.map Value.int).toList ++ []) s1 K))))) : tT Y (d + 1) 115 28 [.ref r0, .int x1, .ref r2, .int x3, .int x4] [.int t0] s K :=
  t3_if (p := t0 = 0) (p_115_28 _ _) rfl (fun g1 => (ifp h g1)) (fun g1 => (tt_aload (p_115_31 _ _) rfl).mpr (Exists.elim (ifn h g1) (fun a2 h3 => t3_getr (p_115_32 _ _) (isI_10_0) h3.1.1 h3.1.2 ((tt_aload (p_115_35 _ _) rfl).mpr ((tt_iload (p_115_36 _ _) rfl).mpr ((tt_push (p_115_37 _ _)).mpr ((tt_mm (p_115_39 _ _) (Nat.le_of_ble_eq_true rfl)).mpr (t2_callv (z := 22) (k := 3) (i := a2) (as := [.ref r2, .int (if (30 : Int32) < x3 then (30 : Int32) else x3)]) (rest := []) (p_115_42 _ _) mK_22 mL_22 rfl rfl (Nat.le_of_ble_eq_true rfl) rfl (Nat.le_of_ble_eq_true rfl) h3.2.1 h3.2.2))))))))
theorem b_115_45 {Y : sY} {d : Nat} {s : sT} {K : Option Int32 → sT → Prop} {r0 : Nat} {x1 : Int32} {r2 : Nat} {x3 : Int32} {x4 : Int32} {t0 : Int32} (h : (∃ a1, (isO Y r0 10 ∧ s.2 r0 8 = some a1) ∧ (isO Y r0 10 ∧ tT Y d 144 0 [.ref r0, .int t0, .int x3] [] s (fun r s1 => tT Y (d + 1) 115 58 [.ref r0, .int x1, .ref r2, .int x3, .int t0] ((r.map Value.int).toList ++ [.ref a1]) s1 K)))) : tT Y (d + 1) 115 45 [.ref r0, .int x1, .ref r2, .int x3, .int x4] [.int t0] s K :=
  (tt_istore (p_115_45 _ _) (Nat.le_of_ble_eq_true rfl) rfl rfl).mpr ((tt_aload (p_115_47 _ _) rfl).mpr (Exists.elim h (fun a1 h2 => t3_getr (p_115_48 _ _) (isI_10_8) h2.1.1 h2.1.2 ((tt_aload (p_115_51 _ _) rfl).mpr ((tt_iload (p_115_52 _ _) rfl).mpr ((tt_iload (p_115_54 _ _) rfl).mpr (t2_callv (z := 144) (k := 3) (i := r0) (as := [.int t0, .int x3]) (rest := [.ref a1]) (p_115_55 _ _) mK_144 mL_144 rfl rfl (Nat.le_of_ble_eq_true rfl) rfl (Nat.le_of_ble_eq_true rfl) h2.2.1 h2.2.2)))))))
theorem b_115_58 {Y : sY} {d : Nat} {s : sT} {K : Option Int32 → sT → Prop} {r0 : Nat} {x1 : Int32} {r2 : Nat} {x3 : Int32} {x4 : Int32} {t0 : Nat} {t1 : Int32} (h : (isO Y t0 3 ∧ tT Y (d + 1) 115 61 [.ref r0, .int x1, .ref r2, .int x3, .int x4] [] (pV s t0 4 t1) K)) : tT Y (d + 1) 115 58 [.ref r0, .int x1, .ref r2, .int x3, .int x4] [.int t1, .ref t0] s K :=
  (t2_puti (p_115_58 _ _) isI_3_4 h.1).mpr (h.2)
theorem b_115_61 {Y : sY} {d : Nat} {s : sT} {K : Option Int32 → sT → Prop} {r0 : Nat} {x1 : Int32} {r2 : Nat} {x3 : Int32} {x4 : Int32} (h : (isO Y r2 7 ∧ tT Y d 71 0 [.ref r2] [] s (fun r s1 => tT Y (d + 1) 115 65 [.ref r0, .int x1, .ref r2, .int x3, .int x4] ((r.map Value.int).toList ++ []) s1 K))) : tT Y (d + 1) 115 61 [.ref r0, .int x1, .ref r2, .int x3, .int x4] [] s K :=
  (tt_aload (p_115_61 _ _) rfl).mpr (t2_callv (z := 71) (k := 1) (i := r2) (as := []) (rest := []) (p_115_62 _ _) mK_71 mL_71 rfl rfl (Nat.le_of_ble_eq_true rfl) rfl (Nat.le_of_ble_eq_true rfl) h.1 h.2)
theorem b_115_65 {Y : sY} {d : Nat} {s : sT} {K : Option Int32 → sT → Prop} {r0 : Nat} {x1 : Int32} {r2 : Nat} {x3 : Int32} {x4 : Int32} (h : tT Y d 138 0 [.int x1] [] s (fun r s1 => tT Y (d + 1) 115 69 [.ref r0, .int x1, .ref r2, .int x3, .int x4] ((r.map Value.int).toList ++ []) s1 K)) : tT Y (d + 1) 115 65 [.ref r0, .int x1, .ref r2, .int x3, .int x4] [] s K :=
  (tt_iload (p_115_65 _ _) rfl).mpr (t2_calls (z := 138) (k := 1) (as := [.int x1]) (rest := []) (p_115_66 _ _) mK_138 mL_138 rfl rfl (Nat.le_of_ble_eq_true rfl) rfl (Nat.le_of_ble_eq_true rfl) h)
theorem b_115_69 {Y : sY} {d : Nat} {s : sT} {K : Option Int32 → sT → Prop} {r0 : Nat} {x1 : Int32} {r2 : Nat} {x3 : Int32} {x4 : Int32} {t0 : Int32} (h : (if t0 = 0 then K (some (-1 : Int32)) s else (∃ a2, (isO Y r0 10 ∧ s.2 r0 8 = some a2) ∧ (isO Y a2 3 ∧ (if (s.1 a2 4) = (-1 : Int32) then (isO Y r0 10 ∧ tT Y d 145 0 [.ref r0, .int x1, .int x4] [] s (fun r s1 => tT Y (d + 1) 115 92 [.ref r0, .int x1, .ref r2, .int x3, .int x4] ((r.map Value.int).toList ++ []) s1 K)) else K (some (-1 : Int32)) s))))) : tT Y (d + 1) 115 69 [.ref r0, .int x1, .ref r2, .int x3, .int x4] [.int t0] s K :=
  t3_if (p := t0 = 0) (p_115_69 _ _) rfl (fun g1 => (tt_push (p_115_83 _ _)).mpr (tt_ret1 (p_115_84 _ _) (ifp h g1))) (fun g1 => (tt_aload (p_115_72 _ _) rfl).mpr (Exists.elim (ifn h g1) (fun a2 h3 => t3_getr (p_115_73 _ _) (isI_10_8) h3.1.1 h3.1.2 (t3_geti (p_115_76 _ _) (isI_3_4) h3.2.1 ((tt_push (p_115_79 _ _)).mpr (t3_cmp (p := (s.1 a2 4) = (-1 : Int32)) (p_115_80 _ _) rfl (fun g4 => (tt_aload (p_115_85 _ _) rfl).mpr ((tt_iload (p_115_86 _ _) rfl).mpr ((tt_iload (p_115_87 _ _) rfl).mpr (t2_callv (z := 145) (k := 3) (i := r0) (as := [.int x1, .int x4]) (rest := []) (p_115_89 _ _) mK_145 mL_145 rfl rfl (Nat.le_of_ble_eq_true rfl) rfl (Nat.le_of_ble_eq_true rfl) (ifp h3.2.2 g4).1 (ifp h3.2.2 g4).2)))) (fun g4 => (tt_push (p_115_83 _ _)).mpr (tt_ret1 (p_115_84 _ _) (ifn h3.2.2 g4)))))))))
theorem b_115_92 {Y : sY} {d : Nat} {s : sT} {K : Option Int32 → sT → Prop} {r0 : Nat} {x1 : Int32} {r2 : Nat} {x3 : Int32} {x4 : Int32} {t0 : Int32} (h : K (some t0) s) : tT Y (d + 1) 115 92 [.ref r0, .int x1, .ref r2, .int x3, .int x4] [.int t0] s K :=
  tt_ret1 (p_115_92 _ _) h
/-! InclusionProver.fault.()I -/
theorem p_116_0 (L : Nat) (xs : Nat → Int32) : ll_P L xs 116 0 = some (.inl (lo_aload 1 0)) := (P_116 L xs 0).trans rfl
theorem p_116_1 (L : Nat) (xs : Nat → Int32) : ll_P L xs 116 1 = some (.inl (lo_getf 4 10 8)) := (P_116 L xs 1).trans rfl
theorem p_116_4 (L : Nat) (xs : Nat → Int32) : ll_P L xs 116 4 = some (.inl (lo_getf 7 3 4)) := (P_116 L xs 4).trans rfl
theorem p_116_7 (L : Nat) (xs : Nat → Int32) : ll_P L xs 116 7 = some (.inr (.inr 1)) := (P_116 L xs 7).trans rfl
theorem b_116_0 {Y : sY} {d : Nat} {s : sT} {K : Option Int32 → sT → Prop} {r0 : Nat} (h : (∃ a1, (isO Y r0 10 ∧ s.2 r0 8 = some a1) ∧ (isO Y a1 3 ∧ K (some (s.1 a1 4)) s))) : tT Y d 116 0 [.ref r0] [] s K :=
  (tt_aload (p_116_0 _ _) rfl).mpr (Exists.elim h (fun a1 h2 => t3_getr (p_116_1 _ _) (isI_10_8) h2.1.1 h2.1.2 (t3_geti (p_116_4 _ _) (isI_3_4) h2.2.1 (tt_ret1 (p_116_7 _ _) h2.2.2))))
/-! InclusionProver.swap.()V -/
theorem p_117_0 (L : Nat) (xs : Nat → Int32) : ll_P L xs 117 0 = some (.inl (lo_aload 1 0)) := (P_117 L xs 0).trans rfl
theorem p_117_1 (L : Nat) (xs : Nat → Int32) : ll_P L xs 117 1 = some (.inl (lo_getf 4 10 8)) := (P_117 L xs 1).trans rfl
theorem p_117_4 (L : Nat) (xs : Nat → Int32) : ll_P L xs 117 4 = some (.inl (lo_getf 7 3 1)) := (P_117 L xs 4).trans rfl
theorem p_117_7 (L : Nat) (xs : Nat → Int32) : ll_P L xs 117 7 = some (.inl (lo_push 8 (.int 0))) := (P_117 L xs 7).trans rfl
theorem p_117_8 (L : Nat) (xs : Nat → Int32) : ll_P L xs 117 8 = some (.inl (lo_aald 9)) := (P_117 L xs 8).trans rfl
theorem p_117_9 (L : Nat) (xs : Nat → Int32) : ll_P L xs 117 9 = some (.inl (lo_astore 10 1)) := (P_117 L xs 9).trans rfl
theorem p_117_10 (L : Nat) (xs : Nat → Int32) : ll_P L xs 117 10 = some (.inl (lo_aload 11 0)) := (P_117 L xs 10).trans rfl
theorem p_117_11 (L : Nat) (xs : Nat → Int32) : ll_P L xs 117 11 = some (.inl (lo_getf 14 10 8)) := (P_117 L xs 11).trans rfl
theorem p_117_14 (L : Nat) (xs : Nat → Int32) : ll_P L xs 117 14 = some (.inl (lo_getf 17 3 1)) := (P_117 L xs 14).trans rfl
theorem p_117_17 (L : Nat) (xs : Nat → Int32) : ll_P L xs 117 17 = some (.inl (lo_push 18 (.int 0))) := (P_117 L xs 17).trans rfl
theorem p_117_18 (L : Nat) (xs : Nat → Int32) : ll_P L xs 117 18 = some (.inl (lo_aload 19 0)) := (P_117 L xs 18).trans rfl
theorem p_117_19 (L : Nat) (xs : Nat → Int32) : ll_P L xs 117 19 = some (.inl (lo_getf 22 10 8)) := (P_117 L xs 19).trans rfl
theorem p_117_22 (L : Nat) (xs : Nat → Int32) : ll_P L xs 117 22 = some (.inl (lo_getf 25 3 1)) := (P_117 L xs 22).trans rfl
theorem p_117_25 (L : Nat) (xs : Nat → Int32) : ll_P L xs 117 25 = some (.inl (lo_push 26 (.int 1))) := (P_117 L xs 25).trans rfl
theorem p_117_26 (L : Nat) (xs : Nat → Int32) : ll_P L xs 117 26 = some (.inl (lo_aald 27)) := (P_117 L xs 26).trans rfl
theorem p_117_27 (L : Nat) (xs : Nat → Int32) : ll_P L xs 117 27 = some (.inl (lo_aast 28)) := (P_117 L xs 27).trans rfl
theorem p_117_28 (L : Nat) (xs : Nat → Int32) : ll_P L xs 117 28 = some (.inl (lo_aload 29 0)) := (P_117 L xs 28).trans rfl
theorem p_117_29 (L : Nat) (xs : Nat → Int32) : ll_P L xs 117 29 = some (.inl (lo_getf 32 10 8)) := (P_117 L xs 29).trans rfl
theorem p_117_32 (L : Nat) (xs : Nat → Int32) : ll_P L xs 117 32 = some (.inl (lo_getf 35 3 1)) := (P_117 L xs 32).trans rfl
theorem p_117_35 (L : Nat) (xs : Nat → Int32) : ll_P L xs 117 35 = some (.inl (lo_push 36 (.int 1))) := (P_117 L xs 35).trans rfl
theorem p_117_36 (L : Nat) (xs : Nat → Int32) : ll_P L xs 117 36 = some (.inl (lo_aload 37 1)) := (P_117 L xs 36).trans rfl
theorem p_117_37 (L : Nat) (xs : Nat → Int32) : ll_P L xs 117 37 = some (.inl (lo_aast 38)) := (P_117 L xs 37).trans rfl
theorem p_117_38 (L : Nat) (xs : Nat → Int32) : ll_P L xs 117 38 = some (.inl (lo_aload 39 0)) := (P_117 L xs 38).trans rfl
theorem p_117_39 (L : Nat) (xs : Nat → Int32) : ll_P L xs 117 39 = some (.inl (lo_getf 42 10 8)) := (P_117 L xs 39).trans rfl
theorem p_117_42 (L : Nat) (xs : Nat → Int32) : ll_P L xs 117 42 = some (.inl (lo_getf 45 3 3)) := (P_117 L xs 42).trans rfl
theorem p_117_45 (L : Nat) (xs : Nat → Int32) : ll_P L xs 117 45 = some (.inr (.inl (9, 1, 48))) := (P_117 L xs 45).trans rfl
theorem p_117_48 (L : Nat) (xs : Nat → Int32) : ll_P L xs 117 48 = some (.inr (.inr 0)) := (P_117 L xs 48).trans rfl
theorem b_117_0 {Y : sY} {d : Nat} {s : sT} {K : Option Int32 → sT → Prop} {r0 : Nat} (h : (∃ a1, (isO Y r0 10 ∧ s.2 r0 8 = some a1) ∧ (∃ a3, (isO Y a1 3 ∧ s.2 a1 1 = some a3) ∧ (∃ c7 m5 a6, (isQ Y a3 c7 m5 ∧ inR (0 : Int32) m5 ∧ s.2 a3 ((0 : Int32)).toNatClampNeg = some a6) ∧ (∃ a9, (isO Y r0 10 ∧ s.2 r0 8 = some a9) ∧ (∃ a11, (isO Y a9 3 ∧ s.2 a9 1 = some a11) ∧ (∃ a13, (isO Y r0 10 ∧ s.2 r0 8 = some a13) ∧ (∃ a15, (isO Y a13 3 ∧ s.2 a13 1 = some a15) ∧ (∃ c19 m17 a18, (isQ Y a15 c19 m17 ∧ inR (1 : Int32) m17 ∧ s.2 a15 ((1 : Int32)).toNatClampNeg = some a18) ∧ (∃ c22 m21, (isQ Y a11 c22 m21 ∧ isO Y a18 c22 ∧ inR (0 : Int32) m21) ∧ (∃ a24, (isO Y r0 10 ∧ (pR s a11 ((0 : Int32)).toNatClampNeg (some a18)).2 r0 8 = some a24) ∧ (∃ a26, (isO Y a24 3 ∧ (pR s a11 ((0 : Int32)).toNatClampNeg (some a18)).2 a24 1 = some a26) ∧ (∃ c29 m28, (isQ Y a26 c29 m28 ∧ isO Y a6 c29 ∧ inR (1 : Int32) m28) ∧ (∃ a31, (isO Y r0 10 ∧ (pR (pR s a11 ((0 : Int32)).toNatClampNeg (some a18)) a26 ((1 : Int32)).toNatClampNeg (some a6)).2 r0 8 = some a31) ∧ (∃ a33, (isO Y a31 3 ∧ (pR (pR s a11 ((0 : Int32)).toNatClampNeg (some a18)) a26 ((1 : Int32)).toNatClampNeg (some a6)).2 a31 3 = some a33) ∧ (isO Y a33 1 ∧ tT Y d 9 0 [.ref a33] [] (pR (pR s a11 ((0 : Int32)).toNatClampNeg (some a18)) a26 ((1 : Int32)).toNatClampNeg (some a6)) (fun r s1 => tT Y (d + 1) 117 48 [.ref r0, .ref a6] ((r.map Value.int).toList ++ []) s1 K))))))))))))))))) : tT Y (d + 1) 117 0 [.ref r0, .null] [] s K :=
  (tt_aload (p_117_0 _ _) rfl).mpr (Exists.elim h (fun a1 h2 => t3_getr (p_117_1 _ _) (isI_10_8) h2.1.1 h2.1.2 (Exists.elim h2.2 (fun a3 h4 => t3_getr (p_117_4 _ _) (isI_3_1) h4.1.1 h4.1.2 ((tt_push (p_117_7 _ _)).mpr (Exists.elim h4.2 (fun c7 h8q0 => Exists.elim h8q0 (fun m5 h8q1 => Exists.elim h8q1 (fun a6 h8 => t3_aald (p_117_8 _ _) h8.1.1 h8.1.2.1 h8.1.2.2 ((tt_astore (p_117_9 _ _) (Nat.le_of_ble_eq_true rfl) rfl rfl).mpr ((tt_aload (p_117_10 _ _) rfl).mpr (Exists.elim h8.2 (fun a9 h10 => t3_getr (p_117_11 _ _) (isI_10_8) h10.1.1 h10.1.2 (Exists.elim h10.2 (fun a11 h12 => t3_getr (p_117_14 _ _) (isI_3_1) h12.1.1 h12.1.2 ((tt_push (p_117_17 _ _)).mpr ((tt_aload (p_117_18 _ _) rfl).mpr (Exists.elim h12.2 (fun a13 h14 => t3_getr (p_117_19 _ _) (isI_10_8) h14.1.1 h14.1.2 (Exists.elim h14.2 (fun a15 h16 => t3_getr (p_117_22 _ _) (isI_3_1) h16.1.1 h16.1.2 ((tt_push (p_117_25 _ _)).mpr (Exists.elim h16.2 (fun c19 h20q0 => Exists.elim h20q0 (fun m17 h20q1 => Exists.elim h20q1 (fun a18 h20 => t3_aald (p_117_26 _ _) h20.1.1 h20.1.2.1 h20.1.2.2 (Exists.elim h20.2 (fun c22 h23q0 => Exists.elim h23q0 (fun m21 h23 => t3_aast (p_117_27 _ _) h23.1.1 h23.1.2.1 h23.1.2.2 ((tt_aload (p_117_28 _ _) rfl).mpr (Exists.elim h23.2 (fun a24 h25 => t3_getr (p_117_29 _ _) (isI_10_8) h25.1.1 h25.1.2 (Exists.elim h25.2 (fun a26 h27 => t3_getr (p_117_32 _ _) (isI_3_1) h27.1.1 h27.1.2 ((tt_push (p_117_35 _ _)).mpr ((tt_aload (p_117_36 _ _) rfl).mpr (Exists.elim h27.2 (fun c29 h30q0 => Exists.elim h30q0 (fun m28 h30 => t3_aast (p_117_37 _ _) h30.1.1 h30.1.2.1 h30.1.2.2 ((tt_aload (p_117_38 _ _) rfl).mpr (Exists.elim h30.2 (fun a31 h32 => t3_getr (p_117_39 _ _) (isI_10_8) h32.1.1 h32.1.2 (Exists.elim h32.2 (fun a33 h34 => t3_getr (p_117_42 _ _) (isI_3_3) h34.1.1 h34.1.2 (t2_callv (z := 9) (k := 1) (i := a33) (as := []) (rest := []) (p_117_45 _ _) mK_9 mL_9 rfl rfl (Nat.le_of_ble_eq_true rfl) rfl (Nat.le_of_ble_eq_true rfl) h34.2.1 h34.2.2)))))))))))))))))))))))))))))))))))))))))))))
theorem b_117_48 {Y : sY} {d : Nat} {s : sT} {K : Option Int32 → sT → Prop} {r0 : Nat} {r1 : Nat} (h : K none s) : tT Y (d + 1) 117 48 [.ref r0, .ref r1] [] s K :=
  tt_ret0 (p_117_48 _ _) h
/-! InclusionProver.keep.(II)Z -/
theorem p_118_0 (L : Nat) (xs : Nat → Int32) : ll_P L xs 118 0 = some (.inl (lo_iload 1 1)) := (P_118 L xs 0).trans rfl
theorem p_118_1 (L : Nat) (xs : Nat → Int32) : ll_P L xs 118 1 = some (.inr (.inl (138, 1, 4))) := (P_118 L xs 1).trans rfl
theorem p_118_4 (L : Nat) (xs : Nat → Int32) : ll_P L xs 118 4 = some (.inl (lo_if 14 7 (fun x => decide (x = 0)))) := (P_118 L xs 4).trans rfl
theorem p_118_7 (L : Nat) (xs : Nat → Int32) : ll_P L xs 118 7 = some (.inl (lo_iload 8 2)) := (P_118 L xs 7).trans rfl
theorem p_118_8 (L : Nat) (xs : Nat → Int32) : ll_P L xs 118 8 = some (.inr (.inl (139, 1, 11))) := (P_118 L xs 8).trans rfl
theorem p_118_11 (L : Nat) (xs : Nat → Int32) : ll_P L xs 118 11 = some (.inl (lo_if 16 14 (fun x => decide (¬ x = 0)))) := (P_118 L xs 11).trans rfl
theorem p_118_14 (L : Nat) (xs : Nat → Int32) : ll_P L xs 118 14 = some (.inl (lo_push 15 (.int 0))) := (P_118 L xs 14).trans rfl
theorem p_118_15 (L : Nat) (xs : Nat → Int32) : ll_P L xs 118 15 = some (.inr (.inr 2)) := (P_118 L xs 15).trans rfl
theorem p_118_16 (L : Nat) (xs : Nat → Int32) : ll_P L xs 118 16 = some (.inl (lo_aload 17 0)) := (P_118 L xs 16).trans rfl
theorem p_118_17 (L : Nat) (xs : Nat → Int32) : ll_P L xs 118 17 = some (.inl (lo_getf 20 10 8)) := (P_118 L xs 17).trans rfl
theorem p_118_20 (L : Nat) (xs : Nat → Int32) : ll_P L xs 118 20 = some (.inl (lo_getf 23 3 2)) := (P_118 L xs 20).trans rfl
theorem p_118_23 (L : Nat) (xs : Nat → Int32) : ll_P L xs 118 23 = some (.inl (lo_iload 24 2)) := (P_118 L xs 23).trans rfl
theorem p_118_24 (L : Nat) (xs : Nat → Int32) : ll_P L xs 118 24 = some (.inl (lo_aald 25)) := (P_118 L xs 24).trans rfl
theorem p_118_25 (L : Nat) (xs : Nat → Int32) : ll_P L xs 118 25 = some (.inl (lo_aload 26 0)) := (P_118 L xs 25).trans rfl
theorem p_118_26 (L : Nat) (xs : Nat → Int32) : ll_P L xs 118 26 = some (.inl (lo_getf 29 10 8)) := (P_118 L xs 26).trans rfl
theorem p_118_29 (L : Nat) (xs : Nat → Int32) : ll_P L xs 118 29 = some (.inl (lo_getf 32 3 1)) := (P_118 L xs 29).trans rfl
theorem p_118_32 (L : Nat) (xs : Nat → Int32) : ll_P L xs 118 32 = some (.inl (lo_iload 33 1)) := (P_118 L xs 32).trans rfl
theorem p_118_33 (L : Nat) (xs : Nat → Int32) : ll_P L xs 118 33 = some (.inl (lo_aald 34)) := (P_118 L xs 33).trans rfl
theorem p_118_34 (L : Nat) (xs : Nat → Int32) : ll_P L xs 118 34 = some (.inl (lo_getf 37 5 0)) := (P_118 L xs 34).trans rfl
theorem p_118_37 (L : Nat) (xs : Nat → Int32) : ll_P L xs 118 37 = some (.inr (.inl (75, 2, 40))) := (P_118 L xs 37).trans rfl
theorem p_118_40 (L : Nat) (xs : Nat → Int32) : ll_P L xs 118 40 = some (.inl (lo_push 41 (.int 1))) := (P_118 L xs 40).trans rfl
theorem p_118_41 (L : Nat) (xs : Nat → Int32) : ll_P L xs 118 41 = some (.inr (.inr 2)) := (P_118 L xs 41).trans rfl
theorem b_118_0 {Y : sY} {d : Nat} {s : sT} {K : Option Int32 → sT → Prop} {r0 : Nat} {x1 : Int32} {x2 : Int32} (h : tT Y d 138 0 [.int x1] [] s (fun r s1 => tT Y (d + 1) 118 4 [.ref r0, .int x1, .int x2] ((r.map Value.int).toList ++ []) s1 K)) : tT Y (d + 1) 118 0 [.ref r0, .int x1, .int x2] [] s K :=
  (tt_iload (p_118_0 _ _) rfl).mpr (t2_calls (z := 138) (k := 1) (as := [.int x1]) (rest := []) (p_118_1 _ _) mK_138 mL_138 rfl rfl (Nat.le_of_ble_eq_true rfl) rfl (Nat.le_of_ble_eq_true rfl) h)
theorem b_118_4 {Y : sY} {d : Nat} {s : sT} {K : Option Int32 → sT → Prop} {r0 : Nat} {x1 : Int32} {x2 : Int32} {t0 : Int32} (h : (if t0 = 0 then K (some (0 : Int32)) s else tT Y d 139 0 [.int x2] [] s (fun r s1 => tT Y (d + 1) 118 11 [.ref r0, .int x1, .int x2] ((r.map Value.int).toList ++ []) s1 K))) : tT Y (d + 1) 118 4 [.ref r0, .int x1, .int x2] [.int t0] s K :=
  t3_if (p := t0 = 0) (p_118_4 _ _) rfl (fun g1 => (tt_push (p_118_14 _ _)).mpr (tt_ret2 (p_118_15 _ _) (Or.inl rfl) (ifp h g1))) (fun g1 => (tt_iload (p_118_7 _ _) rfl).mpr (t2_calls (z := 139) (k := 1) (as := [.int x2]) (rest := []) (p_118_8 _ _) mK_139 mL_139 rfl rfl (Nat.le_of_ble_eq_true rfl) rfl (Nat.le_of_ble_eq_true rfl) (ifn h g1)))
theorem b_118_11 {Y : sY} {d : Nat} {s : sT} {K : Option Int32 → sT → Prop} {r0 : Nat} {x1 : Int32} {x2 : Int32} {t0 : Int32} (h : (if ¬ t0 = 0 then (∃ a2, (isO Y r0 10 ∧ s.2 r0 8 = some a2) ∧ (∃ a4, (isO Y a2 3 ∧ s.2 a2 2 = some a4) ∧ (∃ c8 m6 a7, (isQ Y a4 c8 m6 ∧ inR x2 m6 ∧ s.2 a4 (x2).toNatClampNeg = some a7) ∧ (∃ a10, (isO Y r0 10 ∧ s.2 r0 8 = some a10) ∧ (∃ a12, (isO Y a10 3 ∧ s.2 a10 1 = some a12) ∧ (∃ c16 m14 a15, (isQ Y a12 c16 m14 ∧ inR x1 m14 ∧ s.2 a12 (x1).toNatClampNeg = some a15) ∧ (∃ a18, (isO Y a15 5 ∧ s.2 a15 0 = some a18) ∧ (isO Y a7 7 ∧ tT Y d 75 0 [.ref a7, .ref a18] [] s (fun r s1 => tT Y (d + 1) 118 40 [.ref r0, .int x1, .int x2] ((r.map Value.int).toList ++ []) s1 K))))))))) else K (some (0 : Int32)) s)) : tT Y (d + 1) 118 11 [.ref r0, .int x1, .int x2] [.int t0] s K :=
  t3_if (p := ¬ t0 = 0) (p_118_11 _ _) rfl (fun g1 => (tt_aload (p_118_16 _ _) rfl).mpr (Exists.elim (ifp h g1) (fun a2 h3 => t3_getr (p_118_17 _ _) (isI_10_8) h3.1.1 h3.1.2 (Exists.elim h3.2 (fun a4 h5 => t3_getr (p_118_20 _ _) (isI_3_2) h5.1.1 h5.1.2 ((tt_iload (p_118_23 _ _) rfl).mpr (Exists.elim h5.2 (fun c8 h9q0 => Exists.elim h9q0 (fun m6 h9q1 => Exists.elim h9q1 (fun a7 h9 => t3_aald (p_118_24 _ _) h9.1.1 h9.1.2.1 h9.1.2.2 ((tt_aload (p_118_25 _ _) rfl).mpr (Exists.elim h9.2 (fun a10 h11 => t3_getr (p_118_26 _ _) (isI_10_8) h11.1.1 h11.1.2 (Exists.elim h11.2 (fun a12 h13 => t3_getr (p_118_29 _ _) (isI_3_1) h13.1.1 h13.1.2 ((tt_iload (p_118_32 _ _) rfl).mpr (Exists.elim h13.2 (fun c16 h17q0 => Exists.elim h17q0 (fun m14 h17q1 => Exists.elim h17q1 (fun a15 h17 => t3_aald (p_118_33 _ _) h17.1.1 h17.1.2.1 h17.1.2.2 (Exists.elim h17.2 (fun a18 h19 => t3_getr (p_118_34 _ _) (isI_5_0) h19.1.1 h19.1.2 (t2_callv (z := 75) (k := 2) (i := a7) (as := [.ref a18]) (rest := []) (p_118_37 _ _) mK_75 mL_75 rfl rfl (Nat.le_of_ble_eq_true rfl) rfl (Nat.le_of_ble_eq_true rfl) h19.2.1 h19.2.2))))))))))))))))))))))) (fun g1 => (tt_push (p_118_14 _ _)).mpr (tt_ret2 (p_118_15 _ _) (Or.inl rfl) (ifn h g1)))
theorem b_118_40 {Y : sY} {d : Nat} {s : sT} {K : Option Int32 → sT → Prop} {r0 : Nat} {x1 : Int32} {x2 : Int32} (h : K (some (1 : Int32)) s) : tT Y (d + 1) 118 40 [.ref r0, .int x1, .int x2] [] s K :=
  (tt_push (p_118_40 _ _)).mpr (tt_ret2 (p_118_41 _ _) (Or.inr rfl) h)
/-! InclusionProver.make.(IIII)I -/
theorem p_119_0 (L : Nat) (xs : Nat → Int32) : ll_P L xs 119 0 = some (.inl (lo_iload 1 2)) := (P_119 L xs 0).trans rfl
theorem p_119_1 (L : Nat) (xs : Nat → Int32) : ll_P L xs 119 1 = some (.inl (lo_push 2 (.int 1))) := (P_119 L xs 1).trans rfl
theorem p_119_2 (L : Nat) (xs : Nat → Int32) : ll_P L xs 119 2 = some (.inl (lo_cmp 10 5 (fun x y => decide (x = y)))) := (P_119 L xs 2).trans rfl
theorem p_119_5 (L : Nat) (xs : Nat → Int32) : ll_P L xs 119 5 = some (.inl (lo_iload 6 2)) := (P_119 L xs 5).trans rfl
theorem p_119_6 (L : Nat) (xs : Nat → Int32) : ll_P L xs 119 6 = some (.inl (lo_push 7 (.int 2))) := (P_119 L xs 6).trans rfl
theorem p_119_7 (L : Nat) (xs : Nat → Int32) : ll_P L xs 119 7 = some (.inl (lo_cmp 14 10 (fun x y => decide (¬ x = y)))) := (P_119 L xs 7).trans rfl
theorem p_119_10 (L : Nat) (xs : Nat → Int32) : ll_P L xs 119 10 = some (.inl (lo_push 11 (.int 1))) := (P_119 L xs 10).trans rfl
theorem p_119_11 (L : Nat) (xs : Nat → Int32) : ll_P L xs 119 11 = some (.inl (lo_goto 15)) := (P_119 L xs 11).trans rfl
theorem p_119_14 (L : Nat) (xs : Nat → Int32) : ll_P L xs 119 14 = some (.inl (lo_push 15 (.int 0))) := (P_119 L xs 14).trans rfl
theorem p_119_15 (L : Nat) (xs : Nat → Int32) : ll_P L xs 119 15 = some (.inl (lo_istore 17 5)) := (P_119 L xs 15).trans rfl
theorem p_119_17 (L : Nat) (xs : Nat → Int32) : ll_P L xs 119 17 = some (.inl (lo_iload 18 1)) := (P_119 L xs 17).trans rfl
theorem p_119_18 (L : Nat) (xs : Nat → Int32) : ll_P L xs 119 18 = some (.inr (.inl (138, 1, 21))) := (P_119 L xs 18).trans rfl
theorem p_119_21 (L : Nat) (xs : Nat → Int32) : ll_P L xs 119 21 = some (.inl (lo_if 53 24 (fun x => decide (x = 0)))) := (P_119 L xs 21).trans rfl
theorem p_119_24 (L : Nat) (xs : Nat → Int32) : ll_P L xs 119 24 = some (.inl (lo_iload 25 2)) := (P_119 L xs 24).trans rfl
theorem p_119_25 (L : Nat) (xs : Nat → Int32) : ll_P L xs 119 25 = some (.inl (lo_if 53 28 (fun x => decide (x < 0)))) := (P_119 L xs 25).trans rfl
theorem p_119_28 (L : Nat) (xs : Nat → Int32) : ll_P L xs 119 28 = some (.inl (lo_iload 29 2)) := (P_119 L xs 28).trans rfl
theorem p_119_29 (L : Nat) (xs : Nat → Int32) : ll_P L xs 119 29 = some (.inl (lo_push 30 (.int 3))) := (P_119 L xs 29).trans rfl
theorem p_119_30 (L : Nat) (xs : Nat → Int32) : ll_P L xs 119 30 = some (.inl (lo_cmp 53 33 (fun x y => decide (y < x)))) := (P_119 L xs 30).trans rfl
theorem p_119_33 (L : Nat) (xs : Nat → Int32) : ll_P L xs 119 33 = some (.inl (lo_iload 34 3)) := (P_119 L xs 33).trans rfl
theorem p_119_34 (L : Nat) (xs : Nat → Int32) : ll_P L xs 119 34 = some (.inr (.inl (139, 1, 37))) := (P_119 L xs 34).trans rfl
theorem p_119_37 (L : Nat) (xs : Nat → Int32) : ll_P L xs 119 37 = some (.inl (lo_if 53 40 (fun x => decide (x = 0)))) := (P_119 L xs 37).trans rfl
theorem p_119_40 (L : Nat) (xs : Nat → Int32) : ll_P L xs 119 40 = some (.inl (lo_iload 42 5)) := (P_119 L xs 40).trans rfl
theorem p_119_42 (L : Nat) (xs : Nat → Int32) : ll_P L xs 119 42 = some (.inl (lo_if 55 45 (fun x => decide (x = 0)))) := (P_119 L xs 42).trans rfl
theorem p_119_45 (L : Nat) (xs : Nat → Int32) : ll_P L xs 119 45 = some (.inl (lo_iload 47 4)) := (P_119 L xs 45).trans rfl
theorem p_119_47 (L : Nat) (xs : Nat → Int32) : ll_P L xs 119 47 = some (.inr (.inl (139, 1, 50))) := (P_119 L xs 47).trans rfl
theorem p_119_50 (L : Nat) (xs : Nat → Int32) : ll_P L xs 119 50 = some (.inl (lo_if 55 53 (fun x => decide (¬ x = 0)))) := (P_119 L xs 50).trans rfl
theorem p_119_53 (L : Nat) (xs : Nat → Int32) : ll_P L xs 119 53 = some (.inl (lo_push 54 (.int (-1)))) := (P_119 L xs 53).trans rfl
theorem p_119_54 (L : Nat) (xs : Nat → Int32) : ll_P L xs 119 54 = some (.inr (.inr 1)) := (P_119 L xs 54).trans rfl
theorem p_119_55 (L : Nat) (xs : Nat → Int32) : ll_P L xs 119 55 = some (.inl (lo_aload 56 0)) := (P_119 L xs 55).trans rfl
theorem p_119_56 (L : Nat) (xs : Nat → Int32) : ll_P L xs 119 56 = some (.inl (lo_iload 57 2)) := (P_119 L xs 56).trans rfl
theorem p_119_57 (L : Nat) (xs : Nat → Int32) : ll_P L xs 119 57 = some (.inl (lo_aload 58 0)) := (P_119 L xs 57).trans rfl
theorem p_119_58 (L : Nat) (xs : Nat → Int32) : ll_P L xs 119 58 = some (.inl (lo_getf 61 10 8)) := (P_119 L xs 58).trans rfl
theorem p_119_61 (L : Nat) (xs : Nat → Int32) : ll_P L xs 119 61 = some (.inl (lo_getf 64 3 2)) := (P_119 L xs 61).trans rfl
theorem p_119_64 (L : Nat) (xs : Nat → Int32) : ll_P L xs 119 64 = some (.inl (lo_iload 65 3)) := (P_119 L xs 64).trans rfl
theorem p_119_65 (L : Nat) (xs : Nat → Int32) : ll_P L xs 119 65 = some (.inl (lo_aald 66)) := (P_119 L xs 65).trans rfl
theorem p_119_66 (L : Nat) (xs : Nat → Int32) : ll_P L xs 119 66 = some (.inl (lo_aload 67 0)) := (P_119 L xs 66).trans rfl
theorem p_119_67 (L : Nat) (xs : Nat → Int32) : ll_P L xs 119 67 = some (.inl (lo_getf 70 10 8)) := (P_119 L xs 67).trans rfl
theorem p_119_70 (L : Nat) (xs : Nat → Int32) : ll_P L xs 119 70 = some (.inl (lo_getf 73 3 2)) := (P_119 L xs 70).trans rfl
theorem p_119_73 (L : Nat) (xs : Nat → Int32) : ll_P L xs 119 73 = some (.inl (lo_iload 75 5)) := (P_119 L xs 73).trans rfl
theorem p_119_75 (L : Nat) (xs : Nat → Int32) : ll_P L xs 119 75 = some (.inl (lo_if 83 78 (fun x => decide (x = 0)))) := (P_119 L xs 75).trans rfl
theorem p_119_78 (L : Nat) (xs : Nat → Int32) : ll_P L xs 119 78 = some (.inl (lo_iload 80 4)) := (P_119 L xs 78).trans rfl
theorem p_119_80 (L : Nat) (xs : Nat → Int32) : ll_P L xs 119 80 = some (.inl (lo_goto 84)) := (P_119 L xs 80).trans rfl
theorem p_119_83 (L : Nat) (xs : Nat → Int32) : ll_P L xs 119 83 = some (.inl (lo_iload 84 3)) := (P_119 L xs 83).trans rfl
theorem p_119_84 (L : Nat) (xs : Nat → Int32) : ll_P L xs 119 84 = some (.inl (lo_aald 85)) := (P_119 L xs 84).trans rfl
theorem p_119_85 (L : Nat) (xs : Nat → Int32) : ll_P L xs 119 85 = some (.inr (.inl (147, 4, 88))) := (P_119 L xs 85).trans rfl
theorem p_119_88 (L : Nat) (xs : Nat → Int32) : ll_P L xs 119 88 = some (.inl (lo_aload 89 0)) := (P_119 L xs 88).trans rfl
theorem p_119_89 (L : Nat) (xs : Nat → Int32) : ll_P L xs 119 89 = some (.inl (lo_getf 92 10 0)) := (P_119 L xs 89).trans rfl
theorem p_119_92 (L : Nat) (xs : Nat → Int32) : ll_P L xs 119 92 = some (.inl (lo_aload 93 0)) := (P_119 L xs 92).trans rfl
theorem p_119_93 (L : Nat) (xs : Nat → Int32) : ll_P L xs 119 93 = some (.inl (lo_getf 96 10 5)) := (P_119 L xs 93).trans rfl
theorem p_119_96 (L : Nat) (xs : Nat → Int32) : ll_P L xs 119 96 = some (.inl (lo_aload 97 0)) := (P_119 L xs 96).trans rfl
theorem p_119_97 (L : Nat) (xs : Nat → Int32) : ll_P L xs 119 97 = some (.inl (lo_getf 100 10 5)) := (P_119 L xs 97).trans rfl
theorem p_119_100 (L : Nat) (xs : Nat → Int32) : ll_P L xs 119 100 = some (.inl (lo_getf 103 7 1)) := (P_119 L xs 100).trans rfl
theorem p_119_103 (L : Nat) (xs : Nat → Int32) : ll_P L xs 119 103 = some (.inr (.inl (22, 3, 106))) := (P_119 L xs 103).trans rfl
theorem p_119_106 (L : Nat) (xs : Nat → Int32) : ll_P L xs 119 106 = some (.inl (lo_istore 108 6)) := (P_119 L xs 106).trans rfl
theorem p_119_108 (L : Nat) (xs : Nat → Int32) : ll_P L xs 119 108 = some (.inl (lo_iload 110 6)) := (P_119 L xs 108).trans rfl
theorem p_119_110 (L : Nat) (xs : Nat → Int32) : ll_P L xs 119 110 = some (.inl (lo_push 111 (.int (-1)))) := (P_119 L xs 110).trans rfl
theorem p_119_111 (L : Nat) (xs : Nat → Int32) : ll_P L xs 119 111 = some (.inl (lo_cmp 128 114 (fun x y => decide (x = y)))) := (P_119 L xs 111).trans rfl
theorem p_119_114 (L : Nat) (xs : Nat → Int32) : ll_P L xs 119 114 = some (.inl (lo_aload 115 0)) := (P_119 L xs 114).trans rfl
theorem p_119_115 (L : Nat) (xs : Nat → Int32) : ll_P L xs 119 115 = some (.inl (lo_getf 118 10 1)) := (P_119 L xs 115).trans rfl
theorem p_119_118 (L : Nat) (xs : Nat → Int32) : ll_P L xs 119 118 = some (.inl (lo_iload 120 6)) := (P_119 L xs 118).trans rfl
theorem p_119_120 (L : Nat) (xs : Nat → Int32) : ll_P L xs 119 120 = some (.inr (.inl (60, 2, 123))) := (P_119 L xs 120).trans rfl
theorem p_119_123 (L : Nat) (xs : Nat → Int32) : ll_P L xs 119 123 = some (.inl (lo_push 125 (.int 30))) := (P_119 L xs 123).trans rfl
theorem p_119_125 (L : Nat) (xs : Nat → Int32) : ll_P L xs 119 125 = some (.inl (lo_cmp 130 128 (fun x y => decide (x ≤ y)))) := (P_119 L xs 125).trans rfl
theorem p_119_128 (L : Nat) (xs : Nat → Int32) : ll_P L xs 119 128 = some (.inl (lo_push 129 (.int (-1)))) := (P_119 L xs 128).trans rfl
theorem p_119_129 (L : Nat) (xs : Nat → Int32) : ll_P L xs 119 129 = some (.inr (.inr 1)) := (P_119 L xs 129).trans rfl
theorem p_119_130 (L : Nat) (xs : Nat → Int32) : ll_P L xs 119 130 = some (.inl (lo_aload 131 0)) := (P_119 L xs 130).trans rfl
theorem p_119_131 (L : Nat) (xs : Nat → Int32) : ll_P L xs 119 131 = some (.inl (lo_iload 132 1)) := (P_119 L xs 131).trans rfl
theorem p_119_132 (L : Nat) (xs : Nat → Int32) : ll_P L xs 119 132 = some (.inl (lo_iload 134 6)) := (P_119 L xs 132).trans rfl
theorem p_119_134 (L : Nat) (xs : Nat → Int32) : ll_P L xs 119 134 = some (.inr (.inl (145, 3, 137))) := (P_119 L xs 134).trans rfl
theorem p_119_137 (L : Nat) (xs : Nat → Int32) : ll_P L xs 119 137 = some (.inr (.inr 1)) := (P_119 L xs 137).trans rfl
theorem b_119_0 {Y : sY} {d : Nat} {s : sT} {K : Option Int32 → sT → Prop} {r0 : Nat} {x1 : Int32} {x2 : Int32} {x3 : Int32} {x4 : Int32} (h : (if x2 = (1 : Int32) then tT Y (d + 1) 119 10 [.ref r0, .int x1, .int x2, .int x3, .int x4, .null, .null] [] s K else (if ¬ x2 = (2 : Int32) then tT Y (d + 1) 119 15 [.ref r0, .int x1, .int x2, .int x3, .int x4, .null, .null] [.int (0 : Int32)] s K else tT Y (d + 1) 119 10 [.ref r0, .int x1, .int x2, .int x3, .int x4, .null, .null] [] s K))) : tT Y (d + 1) 119 0 [.ref r0, .int x1, .int x2, .int x3, .int x4, .null, .null] [] s K :=
  (tt_iload (p_119_0 _ _) rfl).mpr ((tt_push (p_119_1 _ _)).mpr (t3_cmp (p := x2 = (1 : Int32)) (p_119_2 _ _) rfl (fun g1 => (ifp h g1)) (fun g1 => (tt_iload (p_119_5 _ _) rfl).mpr ((tt_push (p_119_6 _ _)).mpr (t3_cmp (p := ¬ x2 = (2 : Int32)) (p_119_7 _ _) rfl (fun g2 => (tt_push (p_119_14 _ _)).mpr ((ifp (ifn h g1) g2))) (fun g2 => (ifn (ifn h g1) g2)))))))
theorem b_119_10 {Y : sY} {d : Nat} {s : sT} {K : Option Int32 → sT → Prop} {r0 : Nat} {x1 : Int32} {x2 : Int32} {x3 : Int32} {x4 : Int32} (h : tT Y (d + 1) 119 15 [.ref r0, .int x1, .int x2, .int x3, .int x4, .null, .null] [.int (1 : Int32)] s K) : tT Y (d + 1) 119 10 [.ref r0, .int x1, .int x2, .int x3, .int x4, .null, .null] [] s K :=
  (tt_push (p_119_10 _ _)).mpr ((tt_goto (p_119_11 _ _)).mpr (h))
theorem b_119_15 {Y : sY} {d : Nat} {s : sT} {K : Option Int32 → sT → Prop} {r0 : Nat} {x1 : Int32} {x2 : Int32} {x3 : Int32} {x4 : Int32} {t0 : Int32} (h : tT Y d 138 0 [.int x1] [] s (fun r s1 => tT Y (d + 1) 119 21 [.ref r0, .int x1, .int x2, .int x3, .int x4, .int t0, .null] ((r.map Value.int).toList ++ []) s1 K)) : tT Y (d + 1) 119 15 [.ref r0, .int x1, .int x2, .int x3, .int x4, .null, .null] [.int t0] s K :=
  (tt_istore (p_119_15 _ _) (Nat.le_of_ble_eq_true rfl) rfl rfl).mpr ((tt_iload (p_119_17 _ _) rfl).mpr (t2_calls (z := 138) (k := 1) (as := [.int x1]) (rest := []) (p_119_18 _ _) mK_138 mL_138 rfl rfl (Nat.le_of_ble_eq_true rfl) rfl (Nat.le_of_ble_eq_true rfl) h))
theorem b_119_21 {Y : sY} {d : Nat} {s : sT} {K : Option Int32 → sT → Prop} {r0 : Nat} {x1 : Int32} {x2 : Int32} {x3 : Int32} {x4 : Int32} {x5 : Int32} {t0 : Int32} (h : (if t0 = 0 then K (some (-1 : Int32)) s else (if x2 < 0 then K (some (-1 : Int32)) s else (if (3 : Int32) < x2 then K (some (-1 : Int32)) s else tT Y d 139 0 [.int x3] [] s (fun r s1 => tT Y (d + 1) 119 37 [.ref r0, .int x1, .int x2, .int x3, .int x4, .int x5, .null] ((r.map Value.int).toList ++ []) s1 K))))) : tT Y (d + 1) 119 21 [.ref r0, .int x1, .int x2, .int x3, .int x4, .int x5, .null] [.int t0] s K :=
  t3_if (p := t0 = 0) (p_119_21 _ _) rfl (fun g1 => (tt_push (p_119_53 _ _)).mpr (tt_ret1 (p_119_54 _ _) (ifp h g1))) (fun g1 => (tt_iload (p_119_24 _ _) rfl).mpr (t3_if (p := x2 < 0) (p_119_25 _ _) rfl (fun g2 => (tt_push (p_119_53 _ _)).mpr (tt_ret1 (p_119_54 _ _) (ifp (ifn h g1) g2))) (fun g2 => (tt_iload (p_119_28 _ _) rfl).mpr ((tt_push (p_119_29 _ _)).mpr (t3_cmp (p := (3 : Int32) < x2) (p_119_30 _ _) rfl (fun g3 => (tt_push (p_119_53 _ _)).mpr (tt_ret1 (p_119_54 _ _) (ifp (ifn (ifn h g1) g2) g3))) (fun g3 => (tt_iload (p_119_33 _ _) rfl).mpr (t2_calls (z := 139) (k := 1) (as := [.int x3]) (rest := []) (p_119_34 _ _) mK_139 mL_139 rfl rfl (Nat.le_of_ble_eq_true rfl) rfl (Nat.le_of_ble_eq_true rfl) (ifn (ifn (ifn h g1) g2) g3))))))))
theorem b_119_37 {Y : sY} {d : Nat} {s : sT} {K : Option Int32 → sT → Prop} {r0 : Nat} {x1 : Int32} {x2 : Int32} {x3 : Int32} {x4 : Int32} {x5 : Int32} {t0 : Int32} (h : (if t0 = 0 then K (some (-1 : Int32)) s else (if x5 = 0 then tT Y (d + 1) 119 55 [.ref r0, .int x1, .int x2, .int x3, .int x4, .int x5, .null] [] s K else tT Y d 139 0 [.int x4] [] s (fun r s1 => tT Y (d + 1) 119 50 [.ref r0, .int x1, .int x2, .int x3, .int x4, .int x5, .null] ((r.map Value.int).toList ++ []) s1 K)))) : tT Y (d + 1) 119 37 [.ref r0, .int x1, .int x2, .int x3, .int x4, .int x5, .null] [.int t0] s K :=
  t3_if (p := t0 = 0) (p_119_37 _ _) rfl (fun g1 => (tt_push (p_119_53 _ _)).mpr (tt_ret1 (p_119_54 _ _) (ifp h g1))) (fun g1 => (tt_iload (p_119_40 _ _) rfl).mpr (t3_if (p := x5 = 0) (p_119_42 _ _) rfl (fun g2 => (ifp (ifn h g1) g2)) (fun g2 => (tt_iload (p_119_45 _ _) rfl).mpr (t2_calls (z := 139) (k := 1) (as := [.int x4]) (rest := []) (p_119_47 _ _) mK_139 mL_139 rfl rfl (Nat.le_of_ble_eq_true rfl) rfl (Nat.le_of_ble_eq_true rfl) (ifn (ifn h g1) g2)))))
theorem b_119_50 {Y : sY} {d : Nat} {s : sT} {K : Option Int32 → sT → Prop} {r0 : Nat} {x1 : Int32} {x2 : Int32} {x3 : Int32} {x4 : Int32} {x5 : Int32} {t0 : Int32} (h : (if ¬ t0 = 0 then tT Y (d + 1) 119 55 [.ref r0, .int x1, .int x2, .int x3, .int x4, .int x5, .null] [] s K else K (some (-1 : Int32)) s)) : tT Y (d + 1) 119 50 [.ref r0, .int x1, .int x2, .int x3, .int x4, .int x5, .null] [.int t0] s K :=
  t3_if (p := ¬ t0 = 0) (p_119_50 _ _) rfl (fun g1 => (ifp h g1)) (fun g1 => (tt_push (p_119_53 _ _)).mpr (tt_ret1 (p_119_54 _ _) (ifn h g1)))
theorem b_119_55 {Y : sY} {d : Nat} {s : sT} {K : Option Int32 → sT → Prop} {r0 : Nat} {x1 : Int32} {x2 : Int32} {x3 : Int32} {x4 : Int32} {x5 : Int32} (h : (∃ a1, (isO Y r0 10 ∧ s.2 r0 8 = some a1) ∧ (∃ a3, (isO Y a1 3 ∧ s.2 a1 2 = some a3) ∧ (∃ c7 m5 a6, (isQ Y a3 c7 m5 ∧ inR x3 m5 ∧ s.2 a3 (x3).toNatClampNeg = some a6) ∧ (∃ a9, (isO Y r0 10 ∧ s.2 r0 8 = some a9) ∧ (∃ a11, (isO Y a9 3 ∧ s.2 a9 2 = some a11) ∧ (if x5 = 0 then tT Y (d + 1) 119 84 [.ref r0, .int x1, .int x2, .int x3, .int x4, .int x5, .null] [.int x3, .ref a11, .ref a6, .int x2, .ref r0] s K else tT Y (d + 1) 119 84 [.ref r0, .int x1, .int x2, .int x3, .int x4, .int x5, .null] [.int x4, .ref a11, .ref a6, .int x2, .ref r0] s K))))))) : tT Y (d + 1) 119 55 [.ref r0, .int x1, .int x2, .int x3, .int x4, .int x5, .null] [] s K :=
  (tt_aload (p_119_55 _ _) rfl).mpr ((tt_iload (p_119_56 _ _) rfl).mpr ((tt_aload (p_119_57 _ _) rfl).mpr (Exists.elim h (fun a1 h2 => t3_getr (p_119_58 _ _) (isI_10_8) h2.1.1 h2.1.2 (Exists.elim h2.2 (fun a3 h4 => t3_getr (p_119_61 _ _) (isI_3_2) h4.1.1 h4.1.2 ((tt_iload (p_119_64 _ _) rfl).mpr (Exists.elim h4.2 (fun c7 h8q0 => Exists.elim h8q0 (fun m5 h8q1 => Exists.elim h8q1 (fun a6 h8 => t3_aald (p_119_65 _ _) h8.1.1 h8.1.2.1 h8.1.2.2 ((tt_aload (p_119_66 _ _) rfl).mpr (Exists.elim h8.2 (fun a9 h10 => t3_getr (p_119_67 _ _) (isI_10_8) h10.1.1 h10.1.2 (Exists.elim h10.2 (fun a11 h12 => t3_getr (p_119_70 _ _) (isI_3_2) h12.1.1 h12.1.2 ((tt_iload (p_119_73 _ _) rfl).mpr (t3_if (p := x5 = 0) (p_119_75 _ _) rfl (fun g13 => (tt_iload (p_119_83 _ _) rfl).mpr ((ifp h12.2 g13))) (fun g13 => (tt_iload (p_119_78 _ _) rfl).mpr ((tt_goto (p_119_80 _ _)).mpr ((ifn h12.2 g13))))))))))))))))))))))
theorem b_119_84 {Y : sY} {d : Nat} {s : sT} {K : Option Int32 → sT → Prop} {r0 : Nat} {x1 : Int32} {x2 : Int32} {x3 : Int32} {x4 : Int32} {x5 : Int32} {t0 : Nat} {t1 : Int32} {t2 : Nat} {t3 : Nat} {t4 : Int32} (h : (∃ c3 m1 a2, (isQ Y t3 c3 m1 ∧ inR t4 m1 ∧ s.2 t3 (t4).toNatClampNeg = some a2) ∧ (isO Y t0 10 ∧ tT Y d 147 0 [.ref t0, .int t1, .ref t2, .ref a2] [] s (fun r s1 => tT Y (d + 1) 119 88 [.ref r0, .int x1, .int x2, .int x3, .int x4, .int x5, .null] ((r.map Value.int).toList ++ []) s1 K)))) : tT Y (d + 1) 119 84 [.ref r0, .int x1, .int x2, .int x3, .int x4, .int x5, .null] [.int t4, .ref t3, .ref t2, .int t1, .ref t0] s K :=
  Exists.elim h (fun c3 h4q0 => Exists.elim h4q0 (fun m1 h4q1 => Exists.elim h4q1 (fun a2 h4 => t3_aald (p_119_84 _ _) h4.1.1 h4.1.2.1 h4.1.2.2 (t2_callv (z := 147) (k := 4) (i := t0) (as := [.int t1, .ref t2, .ref a2]) (rest := []) (p_119_85 _ _) mK_147 mL_147 rfl rfl (Nat.le_of_ble_eq_true rfl) rfl (Nat.le_of_ble_eq_true rfl) h4.2.1 h4.2.2))))
theorem b_119_88 {Y : sY} {d : Nat} {s : sT} {K : Option Int32 → sT → Prop} {r0 : Nat} {x1 : Int32} {x2 : Int32} {x3 : Int32} {x4 : Int32} {x5 : Int32} (h : (∃ a1, (isO Y r0 10 ∧ s.2 r0 0 = some a1) ∧ (∃ a3, (isO Y r0 10 ∧ s.2 r0 5 = some a3) ∧ (∃ a5, (isO Y r0 10 ∧ s.2 r0 5 = some a5) ∧ (isO Y a5 7 ∧ (isO Y a1 2 ∧ tT Y d 22 0 [.ref a1, .ref a3, .int (s.1 a5 1), .null] [] s (fun r s1 => tT Y (d + 1) 119 106 [.ref r0, .int x1, .int x2, .int x3, .int x4, .int x5, .null] ((r.map Value.int).toList ++ []) s1 K))))))) : tT Y (d + 1) 119 88 [.ref r0, .int x1, .int x2, .int x3, .int x4, .int x5, .null] [] s K :=
  (tt_aload (p_119_88 _ _) rfl).mpr (Exists.elim h (fun a1 h2 => t3_getr (p_119_89 _ _) (isI_10_0) h2.1.1 h2.1.2 ((tt_aload (p_119_92 _ _) rfl).mpr (Exists.elim h2.2 (fun a3 h4 => t3_getr (p_119_93 _ _) (isI_10_5) h4.1.1 h4.1.2 ((tt_aload (p_119_96 _ _) rfl).mpr (Exists.elim h4.2 (fun a5 h6 => t3_getr (p_119_97 _ _) (isI_10_5) h6.1.1 h6.1.2 (t3_geti (p_119_100 _ _) (isI_7_1) h6.2.1 (t2_callv (z := 22) (k := 3) (i := a1) (as := [.ref a3, .int (s.1 a5 1)]) (rest := []) (p_119_103 _ _) mK_22 mL_22 rfl rfl (Nat.le_of_ble_eq_true rfl) rfl (Nat.le_of_ble_eq_true rfl) h6.2.2.1 h6.2.2.2))))))))))
theorem b_119_106 {Y : sY} {d : Nat} {s : sT} {K : Option Int32 → sT → Prop} {r0 : Nat} {x1 : Int32} {x2 : Int32} {x3 : Int32} {x4 : Int32} {x5 : Int32} {t0 : Int32} (h : (if t0 = (-1 : Int32) then K (some (-1 : Int32)) s else (∃ a2, (isO Y r0 10 ∧ s.2 r0 1 = some a2) ∧ (isO Y a2 6 ∧ tT Y d 60 0 [.ref a2, .int t0] [] s (fun r s1 => tT Y (d + 1) 119 123 [.ref r0, .int x1, .int x2, .int x3, .int x4, .int x5, .int t0] ((r.map Value.int).toList ++ []) s1 K))))) : tT Y (d + 1) 119 106 [.ref r0, .int x1, .int x2, .int x3, .int x4, .int x5, .null] [.int t0] s K :=
  (tt_istore (p_119_106 _ _) (Nat.le_of_ble_eq_true rfl) rfl rfl).mpr ((tt_iload (p_119_108 _ _) rfl).mpr ((tt_push (p_119_110 _ _)).mpr (t3_cmp (p := t0 = (-1 : Int32)) (p_119_111 _ _) rfl (fun g1 => (tt_push (p_119_128 _ _)).mpr (tt_ret1 (p_119_129 _ _) (ifp h g1))) (fun g1 => (tt_aload (p_119_114 _ _) rfl).mpr (Exists.elim (ifn h g1) (fun a2 h3 => t3_getr (p_119_115 _ _) (isI_10_1) h3.1.1 h3.1.2 ((tt_iload (p_119_118 _ _) rfl).mpr (t2_callv (z := 60) (k := 2) (i := a2) (as := [.int t0]) (rest := []) (p_119_120 _ _) mK_60 mL_60 rfl rfl (Nat.le_of_ble_eq_true rfl) rfl (Nat.le_of_ble_eq_true rfl) h3.2.1 h3.2.2))))))))
theorem b_119_123 {Y : sY} {d : Nat} {s : sT} {K : Option Int32 → sT → Prop} {r0 : Nat} {x1 : Int32} {x2 : Int32} {x3 : Int32} {x4 : Int32} {x5 : Int32} {x6 : Int32} {t0 : Int32} (h : (if t0 ≤ (30 : Int32) then (isO Y r0 10 ∧ tT Y d 145 0 [.ref r0, .int x1, .int x6] [] s (fun r s1 => tT Y (d + 1) 119 137 [.ref r0, .int x1, .int x2, .int x3, .int x4, .int x5, .int x6] ((r.map Value.int).toList ++ []) s1 K)) else K (some (-1 : Int32)) s)) : tT Y (d + 1) 119 123 [.ref r0, .int x1, .int x2, .int x3, .int x4, .int x5, .int x6] [.int t0] s K :=
  (tt_push (p_119_123 _ _)).mpr (t3_cmp (p := t0 ≤ (30 : Int32)) (p_119_125 _ _) rfl (fun g1 => (tt_aload (p_119_130 _ _) rfl).mpr ((tt_iload (p_119_131 _ _) rfl).mpr ((tt_iload (p_119_132 _ _) rfl).mpr (t2_callv (z := 145) (k := 3) (i := r0) (as := [.int x1, .int x6]) (rest := []) (p_119_134 _ _) mK_145 mL_145 rfl rfl (Nat.le_of_ble_eq_true rfl) rfl (Nat.le_of_ble_eq_true rfl) (ifp h g1).1 (ifp h g1).2)))) (fun g1 => (tt_push (p_119_128 _ _)).mpr (tt_ret1 (p_119_129 _ _) (ifn h g1))))
theorem b_119_137 {Y : sY} {d : Nat} {s : sT} {K : Option Int32 → sT → Prop} {r0 : Nat} {x1 : Int32} {x2 : Int32} {x3 : Int32} {x4 : Int32} {x5 : Int32} {x6 : Int32} {t0 : Int32} (h : K (some t0) s) : tT Y (d + 1) 119 137 [.ref r0, .int x1, .int x2, .int x3, .int x4, .int x5, .int x6] [.int t0] s K :=
  tt_ret1 (p_119_137 _ _) h
/-! InclusionProver.shape.(II)I -/
theorem p_120_0 (L : Nat) (xs : Nat → Int32) : ll_P L xs 120 0 = some (.inl (lo_iload 1 1)) := (P_120 L xs 0).trans rfl
theorem p_120_1 (L : Nat) (xs : Nat → Int32) : ll_P L xs 120 1 = some (.inr (.inl (138, 1, 4))) := (P_120 L xs 1).trans rfl
theorem p_120_4 (L : Nat) (xs : Nat → Int32) : ll_P L xs 120 4 = some (.inl (lo_if 9 7 (fun x => decide (¬ x = 0)))) := (P_120 L xs 4).trans rfl
theorem p_120_7 (L : Nat) (xs : Nat → Int32) : ll_P L xs 120 7 = some (.inl (lo_push 8 (.int (-1)))) := (P_120 L xs 7).trans rfl
theorem p_120_8 (L : Nat) (xs : Nat → Int32) : ll_P L xs 120 8 = some (.inr (.inr 1)) := (P_120 L xs 8).trans rfl
theorem p_120_9 (L : Nat) (xs : Nat → Int32) : ll_P L xs 120 9 = some (.inl (lo_aload 10 0)) := (P_120 L xs 9).trans rfl
theorem p_120_10 (L : Nat) (xs : Nat → Int32) : ll_P L xs 120 10 = some (.inl (lo_getf 13 10 8)) := (P_120 L xs 10).trans rfl
theorem p_120_13 (L : Nat) (xs : Nat → Int32) : ll_P L xs 120 13 = some (.inl (lo_getf 16 3 1)) := (P_120 L xs 13).trans rfl
theorem p_120_16 (L : Nat) (xs : Nat → Int32) : ll_P L xs 120 16 = some (.inl (lo_iload 17 1)) := (P_120 L xs 16).trans rfl
theorem p_120_17 (L : Nat) (xs : Nat → Int32) : ll_P L xs 120 17 = some (.inl (lo_aald 18)) := (P_120 L xs 17).trans rfl
theorem p_120_18 (L : Nat) (xs : Nat → Int32) : ll_P L xs 120 18 = some (.inl (lo_astore 19 3)) := (P_120 L xs 18).trans rfl
theorem p_120_19 (L : Nat) (xs : Nat → Int32) : ll_P L xs 120 19 = some (.inl (lo_iload 20 2)) := (P_120 L xs 19).trans rfl
theorem p_120_20 (L : Nat) (xs : Nat → Int32) : ll_P L xs 120 20 = some (.inl (lo_tab 0 [72, 77, 91, 99, 104, 114, 128, 141, 146] 151)) := (P_120 L xs 20).trans rfl
theorem p_120_72 (L : Nat) (xs : Nat → Int32) : ll_P L xs 120 72 = some (.inl (lo_aload 73 3)) := (P_120 L xs 72).trans rfl
theorem p_120_73 (L : Nat) (xs : Nat → Int32) : ll_P L xs 120 73 = some (.inl (lo_getf 76 5 6)) := (P_120 L xs 73).trans rfl
theorem p_120_76 (L : Nat) (xs : Nat → Int32) : ll_P L xs 120 76 = some (.inr (.inr 1)) := (P_120 L xs 76).trans rfl
theorem p_120_77 (L : Nat) (xs : Nat → Int32) : ll_P L xs 120 77 = some (.inl (lo_aload 78 3)) := (P_120 L xs 77).trans rfl
theorem p_120_78 (L : Nat) (xs : Nat → Int32) : ll_P L xs 120 78 = some (.inl (lo_push 79 (.int 1))) := (P_120 L xs 78).trans rfl
theorem p_120_79 (L : Nat) (xs : Nat → Int32) : ll_P L xs 120 79 = some (.inr (.inl (47, 2, 82))) := (P_120 L xs 79).trans rfl
theorem p_120_82 (L : Nat) (xs : Nat → Int32) : ll_P L xs 120 82 = some (.inl (lo_if 89 85 (fun x => decide (x = 0)))) := (P_120 L xs 82).trans rfl
theorem p_120_85 (L : Nat) (xs : Nat → Int32) : ll_P L xs 120 85 = some (.inl (lo_push 86 (.int 1))) := (P_120 L xs 85).trans rfl
theorem p_120_86 (L : Nat) (xs : Nat → Int32) : ll_P L xs 120 86 = some (.inl (lo_goto 90)) := (P_120 L xs 86).trans rfl
theorem p_120_89 (L : Nat) (xs : Nat → Int32) : ll_P L xs 120 89 = some (.inl (lo_push 90 (.int 0))) := (P_120 L xs 89).trans rfl
theorem p_120_90 (L : Nat) (xs : Nat → Int32) : ll_P L xs 120 90 = some (.inr (.inr 1)) := (P_120 L xs 90).trans rfl
theorem p_120_91 (L : Nat) (xs : Nat → Int32) : ll_P L xs 120 91 = some (.inl (lo_aload 92 3)) := (P_120 L xs 91).trans rfl
theorem p_120_92 (L : Nat) (xs : Nat → Int32) : ll_P L xs 120 92 = some (.inl (lo_getf 95 5 0)) := (P_120 L xs 92).trans rfl
theorem p_120_95 (L : Nat) (xs : Nat → Int32) : ll_P L xs 120 95 = some (.inl (lo_getf 98 7 1)) := (P_120 L xs 95).trans rfl
theorem p_120_98 (L : Nat) (xs : Nat → Int32) : ll_P L xs 120 98 = some (.inr (.inr 1)) := (P_120 L xs 98).trans rfl
theorem p_120_99 (L : Nat) (xs : Nat → Int32) : ll_P L xs 120 99 = some (.inl (lo_aload 100 3)) := (P_120 L xs 99).trans rfl
theorem p_120_100 (L : Nat) (xs : Nat → Int32) : ll_P L xs 120 100 = some (.inr (.inl (48, 1, 103))) := (P_120 L xs 100).trans rfl
theorem p_120_103 (L : Nat) (xs : Nat → Int32) : ll_P L xs 120 103 = some (.inr (.inr 1)) := (P_120 L xs 103).trans rfl
theorem p_120_104 (L : Nat) (xs : Nat → Int32) : ll_P L xs 120 104 = some (.inl (lo_aload 105 3)) := (P_120 L xs 104).trans rfl
theorem p_120_105 (L : Nat) (xs : Nat → Int32) : ll_P L xs 120 105 = some (.inl (lo_getf 108 5 0)) := (P_120 L xs 105).trans rfl
theorem p_120_108 (L : Nat) (xs : Nat → Int32) : ll_P L xs 120 108 = some (.inl (lo_push 110 (.int 42))) := (P_120 L xs 108).trans rfl
theorem p_120_110 (L : Nat) (xs : Nat → Int32) : ll_P L xs 120 110 = some (.inr (.inl (78, 2, 113))) := (P_120 L xs 110).trans rfl
theorem p_120_113 (L : Nat) (xs : Nat → Int32) : ll_P L xs 120 113 = some (.inr (.inr 1)) := (P_120 L xs 113).trans rfl
theorem p_120_114 (L : Nat) (xs : Nat → Int32) : ll_P L xs 120 114 = some (.inl (lo_aload 115 3)) := (P_120 L xs 114).trans rfl
theorem p_120_115 (L : Nat) (xs : Nat → Int32) : ll_P L xs 120 115 = some (.inl (lo_getf 118 5 7)) := (P_120 L xs 115).trans rfl
theorem p_120_118 (L : Nat) (xs : Nat → Int32) : ll_P L xs 120 118 = some (.inl (lo_push 119 (.int (-1)))) := (P_120 L xs 118).trans rfl
theorem p_120_119 (L : Nat) (xs : Nat → Int32) : ll_P L xs 120 119 = some (.inl (lo_cmp 126 122 (fun x y => decide (¬ x = y)))) := (P_120 L xs 119).trans rfl
theorem p_120_122 (L : Nat) (xs : Nat → Int32) : ll_P L xs 120 122 = some (.inl (lo_push 123 (.int 1))) := (P_120 L xs 122).trans rfl
theorem p_120_123 (L : Nat) (xs : Nat → Int32) : ll_P L xs 120 123 = some (.inl (lo_goto 127)) := (P_120 L xs 123).trans rfl
theorem p_120_126 (L : Nat) (xs : Nat → Int32) : ll_P L xs 120 126 = some (.inl (lo_push 127 (.int 0))) := (P_120 L xs 126).trans rfl
theorem p_120_127 (L : Nat) (xs : Nat → Int32) : ll_P L xs 120 127 = some (.inr (.inr 1)) := (P_120 L xs 127).trans rfl
theorem p_120_128 (L : Nat) (xs : Nat → Int32) : ll_P L xs 120 128 = some (.inl (lo_aload 129 3)) := (P_120 L xs 128).trans rfl
theorem p_120_129 (L : Nat) (xs : Nat → Int32) : ll_P L xs 120 129 = some (.inl (lo_getf 132 5 8)) := (P_120 L xs 129).trans rfl
theorem p_120_132 (L : Nat) (xs : Nat → Int32) : ll_P L xs 120 132 = some (.inl (lo_if 139 135 (fun x => decide (¬ x = 0)))) := (P_120 L xs 132).trans rfl
theorem p_120_135 (L : Nat) (xs : Nat → Int32) : ll_P L xs 120 135 = some (.inl (lo_push 136 (.int 1))) := (P_120 L xs 135).trans rfl
theorem p_120_136 (L : Nat) (xs : Nat → Int32) : ll_P L xs 120 136 = some (.inl (lo_goto 140)) := (P_120 L xs 136).trans rfl
theorem p_120_139 (L : Nat) (xs : Nat → Int32) : ll_P L xs 120 139 = some (.inl (lo_push 140 (.int 0))) := (P_120 L xs 139).trans rfl
theorem p_120_140 (L : Nat) (xs : Nat → Int32) : ll_P L xs 120 140 = some (.inr (.inr 1)) := (P_120 L xs 140).trans rfl
theorem p_120_141 (L : Nat) (xs : Nat → Int32) : ll_P L xs 120 141 = some (.inl (lo_aload 142 3)) := (P_120 L xs 141).trans rfl
theorem p_120_142 (L : Nat) (xs : Nat → Int32) : ll_P L xs 120 142 = some (.inl (lo_getf 145 5 7)) := (P_120 L xs 142).trans rfl
theorem p_120_145 (L : Nat) (xs : Nat → Int32) : ll_P L xs 120 145 = some (.inr (.inr 1)) := (P_120 L xs 145).trans rfl
theorem p_120_146 (L : Nat) (xs : Nat → Int32) : ll_P L xs 120 146 = some (.inl (lo_aload 147 3)) := (P_120 L xs 146).trans rfl
theorem p_120_147 (L : Nat) (xs : Nat → Int32) : ll_P L xs 120 147 = some (.inl (lo_getf 150 5 8)) := (P_120 L xs 147).trans rfl
theorem p_120_150 (L : Nat) (xs : Nat → Int32) : ll_P L xs 120 150 = some (.inr (.inr 1)) := (P_120 L xs 150).trans rfl
theorem p_120_151 (L : Nat) (xs : Nat → Int32) : ll_P L xs 120 151 = some (.inl (lo_iload 152 2)) := (P_120 L xs 151).trans rfl
theorem p_120_152 (L : Nat) (xs : Nat → Int32) : ll_P L xs 120 152 = some (.inl (lo_push 154 (.int 10))) := (P_120 L xs 152).trans rfl
theorem p_120_154 (L : Nat) (xs : Nat → Int32) : ll_P L xs 120 154 = some (.inl (lo_cmp 161 157 (fun x y => decide (y ≤ x)))) := (P_120 L xs 154).trans rfl
theorem p_120_157 (L : Nat) (xs : Nat → Int32) : ll_P L xs 120 157 = some (.inl (lo_push 158 (.int (-1)))) := (P_120 L xs 157).trans rfl
theorem p_120_158 (L : Nat) (xs : Nat → Int32) : ll_P L xs 120 158 = some (.inl (lo_goto 172)) := (P_120 L xs 158).trans rfl
theorem p_120_161 (L : Nat) (xs : Nat → Int32) : ll_P L xs 120 161 = some (.inl (lo_aload 162 3)) := (P_120 L xs 161).trans rfl
theorem p_120_162 (L : Nat) (xs : Nat → Int32) : ll_P L xs 120 162 = some (.inl (lo_getf 165 5 0)) := (P_120 L xs 162).trans rfl
theorem p_120_165 (L : Nat) (xs : Nat → Int32) : ll_P L xs 120 165 = some (.inl (lo_iload 166 2)) := (P_120 L xs 165).trans rfl
theorem p_120_166 (L : Nat) (xs : Nat → Int32) : ll_P L xs 120 166 = some (.inl (lo_push 168 (.int 10))) := (P_120 L xs 166).trans rfl
theorem p_120_168 (L : Nat) (xs : Nat → Int32) : ll_P L xs 120 168 = some (.inl (lo_bin 169 (fun x y => x - y))) := (P_120 L xs 168).trans rfl
theorem p_120_169 (L : Nat) (xs : Nat → Int32) : ll_P L xs 120 169 = some (.inr (.inl (77, 2, 172))) := (P_120 L xs 169).trans rfl
theorem p_120_172 (L : Nat) (xs : Nat → Int32) : ll_P L xs 120 172 = some (.inr (.inr 1)) := (P_120 L xs 172).trans rfl
theorem b_120_0 {Y : sY} {d : Nat} {s : sT} {K : Option Int32 → sT → Prop} {r0 : Nat} {x1 : Int32} {x2 : Int32} (h : tT Y d 138 0 [.int x1] [] s (fun r s1 => tT Y (d + 1) 120 4 [.ref r0, .int x1, .int x2, .null] ((r.map Value.int).toList ++ []) s1 K)) : tT Y (d + 1) 120 0 [.ref r0, .int x1, .int x2, .null] [] s K :=
  (tt_iload (p_120_0 _ _) rfl).mpr (t2_calls (z := 138) (k := 1) (as := [.int x1]) (rest := []) (p_120_1 _ _) mK_138 mL_138 rfl rfl (Nat.le_of_ble_eq_true rfl) rfl (Nat.le_of_ble_eq_true rfl) h)
theorem b_120_4 {Y : sY} {d : Nat} {s : sT} {K : Option Int32 → sT → Prop} {r0 : Nat} {x1 : Int32} {x2 : Int32} {t0 : Int32} (h : (if ¬ t0 = 0 then (∃ a2, (isO Y r0 10 ∧ s.2 r0 8 = some a2) ∧ (∃ a4, (isO Y a2 3 ∧ s.2 a2 1 = some a4) ∧ (∃ c8 m6 a7, (isQ Y a4 c8 m6 ∧ inR x1 m6 ∧ s.2 a4 (x1).toNatClampNeg = some a7) ∧ ((x2 = 0 → (isO Y a7 5 ∧ K (some (s.1 a7 6)) s)) ∧ (x2 = 1 → (isO Y a7 5 ∧ tT Y d 47 0 [.ref a7, .int (1 : Int32)] [] s (fun r s1 => tT Y (d + 1) 120 82 [.ref r0, .int x1, .int x2, .ref a7] ((r.map Value.int).toList ++ []) s1 K))) ∧ (x2 = 2 → (∃ a13, (isO Y a7 5 ∧ s.2 a7 0 = some a13) ∧ (isO Y a13 7 ∧ K (some (s.1 a13 1)) s))) ∧ (x2 = 3 → (isO Y a7 5 ∧ tT Y d 48 0 [.ref a7, .null, .null] [] s (fun r s1 => tT Y (d + 1) 120 103 [.ref r0, .int x1, .int x2, .ref a7] ((r.map Value.int).toList ++ []) s1 K))) ∧ (x2 = 4 → (∃ a17, (isO Y a7 5 ∧ s.2 a7 0 = some a17) ∧ (isO Y a17 7 ∧ tT Y d 78 0 [.ref a17, .int (42 : Int32), .null, .null] [] s (fun r s1 => tT Y (d + 1) 120 113 [.ref r0, .int x1, .int x2, .ref a7] ((r.map Value.int).toList ++ []) s1 K)))) ∧ (x2 = 5 → (isO Y a7 5 ∧ (if ¬ (s.1 a7 7) = (-1 : Int32) then K (some (0 : Int32)) s else K (some (1 : Int32)) s))) ∧ (x2 = 6 → (isO Y a7 5 ∧ (if ¬ (s.1 a7 8) = 0 then K (some (0 : Int32)) s else K (some (1 : Int32)) s))) ∧ (x2 = 7 → (isO Y a7 5 ∧ K (some (s.1 a7 7)) s)) ∧ (x2 = 8 → (isO Y a7 5 ∧ K (some (s.1 a7 8)) s)) ∧ (¬ x2 = 0 ∧ ¬ x2 = 1 ∧ ¬ x2 = 2 ∧ ¬ x2 = 3 ∧ ¬ x2 = 4 ∧ ¬ x2 = 5 ∧ ¬ x2 = 6 ∧ ¬ x2 = 7 ∧ ¬ x2 = 8 → (if (10 : Int32) ≤ x2 then (∃ a26, (isO Y a7 5 ∧ s.2 a7 0 = some a26) ∧ (isO Y a26 7 ∧ tT Y d 77 0 [.ref a26, .int (x2 - (10 : Int32))] [] s (fun r s1 => tT Y (d + 1) 120 172 [.ref r0, .int x1, .int x2, .ref a7] ((r.map Value.int).toList ++ []) s1 K))) else tT Y (d + 1) 120 172 [.ref r0, .int x1, .int x2, .ref a7] [.int (-1 : Int32)] s K)))))) else K (some (-1 : Int32)) s)) : tT Y (d + 1) 120 4 [.ref r0, .int x1, .int x2, .null] [.int t0] s K :=
  t3_if (p := ¬ t0 = 0) (p_120_4 _ _) rfl (fun g1 => (tt_aload (p_120_9 _ _) rfl).mpr (Exists.elim (ifp h g1) (fun a2 h3 => t3_getr (p_120_10 _ _) (isI_10_8) h3.1.1 h3.1.2 (Exists.elim h3.2 (fun a4 h5 => t3_getr (p_120_13 _ _) (isI_3_1) h5.1.1 h5.1.2 ((tt_iload (p_120_16 _ _) rfl).mpr (Exists.elim h5.2 (fun c8 h9q0 => Exists.elim h9q0 (fun m6 h9q1 => Exists.elim h9q1 (fun a7 h9 => t3_aald (p_120_17 _ _) h9.1.1 h9.1.2.1 h9.1.2.2 ((tt_astore (p_120_18 _ _) (Nat.le_of_ble_eq_true rfl) rfl rfl).mpr ((tt_iload (p_120_19 _ _) rfl).mpr (Decidable.byCases (p := x2 = 0) (fun g10 => t3_tab (t := 72) (p_120_20 _ _) (by rw [g10]; rfl) ((tt_aload (p_120_72 _ _) rfl).mpr (t3_geti (p_120_73 _ _) (isI_5_6) (h9.2.1 g10).1 (tt_ret1 (p_120_76 _ _) (h9.2.1 g10).2)))) (fun g10n => Decidable.byCases (p := x2 = 1) (fun g11 => t3_tab (t := 77) (p_120_20 _ _) (by rw [g11]; rfl) ((tt_aload (p_120_77 _ _) rfl).mpr ((tt_push (p_120_78 _ _)).mpr (t2_callv (z := 47) (k := 2) (i := a7) (as := [.int (1 : Int32)]) (rest := []) (p_120_79 _ _) mK_47 mL_47 rfl rfl (Nat.le_of_ble_eq_true rfl) rfl (Nat.le_of_ble_eq_true rfl) (h9.2.2.1 g11).1 (h9.2.2.1 g11).2)))) (fun g11n => Decidable.byCases (p := x2 = 2) (fun g12 => t3_tab (t := 91) (p_120_20 _ _) (by rw [g12]; rfl) ((tt_aload (p_120_91 _ _) rfl).mpr (Exists.elim (h9.2.2.2.1 g12) (fun a13 h14 => t3_getr (p_120_92 _ _) (isI_5_0) h14.1.1 h14.1.2 (t3_geti (p_120_95 _ _) (isI_7_1) h14.2.1 (tt_ret1 (p_120_98 _ _) h14.2.2)))))) (fun g12n => Decidable.byCases (p := x2 = 3) (fun g15 => t3_tab (t := 99) (p_120_20 _ _) (by rw [g15]; rfl) ((tt_aload (p_120_99 _ _) rfl).mpr (t2_callv (z := 48) (k := 1) (i := a7) (as := []) (rest := []) (p_120_100 _ _) mK_48 mL_48 rfl rfl (Nat.le_of_ble_eq_true rfl) rfl (Nat.le_of_ble_eq_true rfl) (h9.2.2.2.2.1 g15).1 (h9.2.2.2.2.1 g15).2))) (fun g15n => Decidable.byCases (p := x2 = 4) (fun g16 => t3_tab (t := 104) (p_120_20 _ _) (by rw [g16]; rfl) ((tt_aload (p_120_104 _ _) rfl).mpr (Exists.elim (h9.2.2.2.2.2.1 g16) (fun a17 h18 => t3_getr (p_120_105 _ _) (isI_5_0) h18.1.1 h18.1.2 ((tt_push (p_120_108 _ _)).mpr (t2_callv (z := 78) (k := 2) (i := a17) (as := [.int (42 : Int32)]) (rest := []) (p_120_110 _ _) mK_78 mL_78 rfl rfl (Nat.le_of_ble_eq_true rfl) rfl (Nat.le_of_ble_eq_true rfl) h18.2.1 h18.2.2)))))) (fun g16n => Decidable.byCases (p := x2 = 5) (fun g19 => t3_tab (t := 114) (p_120_20 _ _) (by rw [g19]; rfl) ((tt_aload (p_120_114 _ _) rfl).mpr (t3_geti (p_120_115 _ _) (isI_5_7) (h9.2.2.2.2.2.2.1 g19).1 ((tt_push (p_120_118 _ _)).mpr (t3_cmp (p := ¬ (s.1 a7 7) = (-1 : Int32)) (p_120_119 _ _) rfl (fun g20 => (tt_push (p_120_126 _ _)).mpr (tt_ret1 (p_120_127 _ _) (ifp (h9.2.2.2.2.2.2.1 g19).2 g20))) (fun g20 => (tt_push (p_120_122 _ _)).mpr ((tt_goto (p_120_123 _ _)).mpr (tt_ret1 (p_120_127 _ _) (ifn (h9.2.2.2.2.2.2.1 g19).2 g20))))))))) (fun g19n => Decidable.byCases (p := x2 = 6) (fun g21 => t3_tab (t := 128) (p_120_20 _ _) (by rw [g21]; rfl) ((tt_aload (p_120_128 _ _) rfl).mpr (t3_geti (p_120_129 _ _) (isI_5_8) (h9.2.2.2.2.2.2.2.1 g21).1 (t3_if (p := ¬ (s.1 a7 8) = 0) (p_120_132 _ _) rfl (fun g22 => (tt_push (p_120_139 _ _)).mpr (tt_ret1 (p_120_140 _ _) (ifp (h9.2.2.2.2.2.2.2.1 g21).2 g22))) (fun g22 => (tt_push (p_120_135 _ _)).mpr ((tt_goto (p_120_136 _ _)).mpr (tt_ret1 (p_120_140 _ _) (ifn (h9.2.2.2.2.2.2.2.1 g21).2 g22)))))))) (fun g21n => Decidable.byCases (p := x2 = 7) (fun g23 => t3_tab (t := 141) (p_120_20 _ _) (by rw [g23]; rfl) ((tt_aload (p_120_141 _ _) rfl).mpr (t3_geti (p_120_142 _ _) (isI_5_7) (h9.2.2.2.2.2.2.2.2.1 g23).1 (tt_ret1 (p_120_145 _ _) (h9.2.2.2.2.2.2.2.2.1 g23).2)))) (fun g23n => Decidable.byCases (p := x2 = 8) (fun g24 => t3_tab (t := 146) (p_120_20 _ _) (by rw [g24]; rfl) ((tt_aload (p_120_146 _ _) rfl).mpr (t3_geti (p_120_147 _ _) (isI_5_8) (h9.2.2.2.2.2.2.2.2.2.1 g24).1 (tt_ret1 (p_120_150 _ _) (h9.2.2.2.2.2.2.2.2.2.1 g24).2)))) (fun g24n => t3_tab (t := 151) (p_120_20 _ _) (t3_tabd (fun k hk => t3_tabk (lo := 0) (n := 9) (fun j (hj : j < 9) => by rcases (show j = 0 ∨ j = 1 ∨ j = 2 ∨ j = 3 ∨ j = 4 ∨ j = 5 ∨ j = 6 ∨ j = 7 ∨ j = 8 by omega) with rfl | rfl | rfl | rfl | rfl | rfl | rfl | rfl | rfl <;> assumption) k hk)) ((tt_iload (p_120_151 _ _) rfl).mpr ((tt_push (p_120_152 _ _)).mpr (t3_cmp (p := (10 : Int32) ≤ x2) (p_120_154 _ _) rfl (fun g25 => (tt_aload (p_120_161 _ _) rfl).mpr (Exists.elim (ifp (h9.2.2.2.2.2.2.2.2.2.2 ⟨g10n, g11n, g12n, g15n, g16n, g19n, g21n, g23n, g24n⟩) g25) (fun a26 h27 => t3_getr (p_120_162 _ _) (isI_5_0) h27.1.1 h27.1.2 ((tt_iload (p_120_165 _ _) rfl).mpr ((tt_push (p_120_166 _ _)).mpr ((tt_bin (p_120_168 _ _)).mpr (t2_callv (z := 77) (k := 2) (i := a26) (as := [.int (x2 - (10 : Int32))]) (rest := []) (p_120_169 _ _) mK_77 mL_77 rfl rfl (Nat.le_of_ble_eq_true rfl) rfl (Nat.le_of_ble_eq_true rfl) h27.2.1 h27.2.2))))))) (fun g25 => (tt_push (p_120_157 _ _)).mpr ((tt_goto (p_120_158 _ _)).mpr ((ifn (h9.2.2.2.2.2.2.2.2.2.2 ⟨g10n, g11n, g12n, g15n, g16n, g19n, g21n, g23n, g24n⟩) g25))))))))))))))))))))))))))))) (fun g1 => (tt_push (p_120_7 _ _)).mpr (tt_ret1 (p_120_8 _ _) (ifn h g1)))
theorem b_120_82 {Y : sY} {d : Nat} {s : sT} {K : Option Int32 → sT → Prop} {r0 : Nat} {x1 : Int32} {x2 : Int32} {r3 : Nat} {t0 : Int32} (h : (if t0 = 0 then K (some (0 : Int32)) s else K (some (1 : Int32)) s)) : tT Y (d + 1) 120 82 [.ref r0, .int x1, .int x2, .ref r3] [.int t0] s K :=
  t3_if (p := t0 = 0) (p_120_82 _ _) rfl (fun g1 => (tt_push (p_120_89 _ _)).mpr (tt_ret1 (p_120_90 _ _) (ifp h g1))) (fun g1 => (tt_push (p_120_85 _ _)).mpr ((tt_goto (p_120_86 _ _)).mpr (tt_ret1 (p_120_90 _ _) (ifn h g1))))
theorem b_120_103 {Y : sY} {d : Nat} {s : sT} {K : Option Int32 → sT → Prop} {r0 : Nat} {x1 : Int32} {x2 : Int32} {r3 : Nat} {t0 : Int32} (h : K (some t0) s) : tT Y (d + 1) 120 103 [.ref r0, .int x1, .int x2, .ref r3] [.int t0] s K :=
  tt_ret1 (p_120_103 _ _) h
theorem b_120_113 {Y : sY} {d : Nat} {s : sT} {K : Option Int32 → sT → Prop} {r0 : Nat} {x1 : Int32} {x2 : Int32} {r3 : Nat} {t0 : Int32} (h : K (some t0) s) : tT Y (d + 1) 120 113 [.ref r0, .int x1, .int x2, .ref r3] [.int t0] s K :=
  tt_ret1 (p_120_113 _ _) h
theorem b_120_172 {Y : sY} {d : Nat} {s : sT} {K : Option Int32 → sT → Prop} {r0 : Nat} {x1 : Int32} {x2 : Int32} {r3 : Nat} {t0 : Int32} (h : K (some t0) s) : tT Y (d + 1) 120 172 [.ref r0, .int x1, .int x2, .ref r3] [.int t0] s K :=
  tt_ret1 (p_120_172 _ _) h
/-! InclusionProver.term.(III)I -/
theorem p_121_0 (L : Nat) (xs : Nat → Int32) : ll_P L xs 121 0 = some (.inl (lo_iload 1 1)) := (P_121 L xs 0).trans rfl
theorem p_121_1 (L : Nat) (xs : Nat → Int32) : ll_P L xs 121 1 = some (.inr (.inl (138, 1, 4))) := (P_121 L xs 1).trans rfl
theorem p_121_4 (L : Nat) (xs : Nat → Int32) : ll_P L xs 121 4 = some (.inl (lo_if 23 7 (fun x => decide (x = 0)))) := (P_121 L xs 4).trans rfl
theorem p_121_7 (L : Nat) (xs : Nat → Int32) : ll_P L xs 121 7 = some (.inl (lo_aload 8 0)) := (P_121 L xs 7).trans rfl
theorem p_121_8 (L : Nat) (xs : Nat → Int32) : ll_P L xs 121 8 = some (.inl (lo_getf 11 10 8)) := (P_121 L xs 8).trans rfl
theorem p_121_11 (L : Nat) (xs : Nat → Int32) : ll_P L xs 121 11 = some (.inl (lo_getf 14 3 1)) := (P_121 L xs 11).trans rfl
theorem p_121_14 (L : Nat) (xs : Nat → Int32) : ll_P L xs 121 14 = some (.inl (lo_iload 15 1)) := (P_121 L xs 14).trans rfl
theorem p_121_15 (L : Nat) (xs : Nat → Int32) : ll_P L xs 121 15 = some (.inl (lo_aald 16)) := (P_121 L xs 15).trans rfl
theorem p_121_16 (L : Nat) (xs : Nat → Int32) : ll_P L xs 121 16 = some (.inl (lo_iload 17 2)) := (P_121 L xs 16).trans rfl
theorem p_121_17 (L : Nat) (xs : Nat → Int32) : ll_P L xs 121 17 = some (.inr (.inl (45, 2, 20))) := (P_121 L xs 17).trans rfl
theorem p_121_20 (L : Nat) (xs : Nat → Int32) : ll_P L xs 121 20 = some (.inl (lo_if 25 23 (fun x => decide (¬ x = 0)))) := (P_121 L xs 20).trans rfl
theorem p_121_23 (L : Nat) (xs : Nat → Int32) : ll_P L xs 121 23 = some (.inl (lo_push 24 (.int (-1)))) := (P_121 L xs 23).trans rfl
theorem p_121_24 (L : Nat) (xs : Nat → Int32) : ll_P L xs 121 24 = some (.inr (.inr 1)) := (P_121 L xs 24).trans rfl
theorem p_121_25 (L : Nat) (xs : Nat → Int32) : ll_P L xs 121 25 = some (.inl (lo_aload 26 0)) := (P_121 L xs 25).trans rfl
theorem p_121_26 (L : Nat) (xs : Nat → Int32) : ll_P L xs 121 26 = some (.inl (lo_getf 29 10 8)) := (P_121 L xs 26).trans rfl
theorem p_121_29 (L : Nat) (xs : Nat → Int32) : ll_P L xs 121 29 = some (.inl (lo_getf 32 3 1)) := (P_121 L xs 29).trans rfl
theorem p_121_32 (L : Nat) (xs : Nat → Int32) : ll_P L xs 121 32 = some (.inl (lo_iload 33 1)) := (P_121 L xs 32).trans rfl
theorem p_121_33 (L : Nat) (xs : Nat → Int32) : ll_P L xs 121 33 = some (.inl (lo_aald 34)) := (P_121 L xs 33).trans rfl
theorem p_121_34 (L : Nat) (xs : Nat → Int32) : ll_P L xs 121 34 = some (.inl (lo_astore 36 4)) := (P_121 L xs 34).trans rfl
theorem p_121_36 (L : Nat) (xs : Nat → Int32) : ll_P L xs 121 36 = some (.inl (lo_iload 37 3)) := (P_121 L xs 36).trans rfl
theorem p_121_37 (L : Nat) (xs : Nat → Int32) : ll_P L xs 121 37 = some (.inl (lo_tab 0 [72, 89, 96, 96, 96] 106)) := (P_121 L xs 37).trans rfl
theorem p_121_72 (L : Nat) (xs : Nat → Int32) : ll_P L xs 121 72 = some (.inl (lo_aload 74 4)) := (P_121 L xs 72).trans rfl
theorem p_121_74 (L : Nat) (xs : Nat → Int32) : ll_P L xs 121 74 = some (.inl (lo_push 75 (.int 1))) := (P_121 L xs 74).trans rfl
theorem p_121_75 (L : Nat) (xs : Nat → Int32) : ll_P L xs 121 75 = some (.inl (lo_iload 76 2)) := (P_121 L xs 75).trans rfl
theorem p_121_76 (L : Nat) (xs : Nat → Int32) : ll_P L xs 121 76 = some (.inl (lo_bin 77 (fun x y => x <<< (y &&& 31)))) := (P_121 L xs 76).trans rfl
theorem p_121_77 (L : Nat) (xs : Nat → Int32) : ll_P L xs 121 77 = some (.inr (.inl (47, 2, 80))) := (P_121 L xs 77).trans rfl
theorem p_121_80 (L : Nat) (xs : Nat → Int32) : ll_P L xs 121 80 = some (.inl (lo_if 87 83 (fun x => decide (x = 0)))) := (P_121 L xs 80).trans rfl
theorem p_121_83 (L : Nat) (xs : Nat → Int32) : ll_P L xs 121 83 = some (.inl (lo_push 84 (.int 1))) := (P_121 L xs 83).trans rfl
theorem p_121_84 (L : Nat) (xs : Nat → Int32) : ll_P L xs 121 84 = some (.inl (lo_goto 88)) := (P_121 L xs 84).trans rfl
theorem p_121_87 (L : Nat) (xs : Nat → Int32) : ll_P L xs 121 87 = some (.inl (lo_push 88 (.int 0))) := (P_121 L xs 87).trans rfl
theorem p_121_88 (L : Nat) (xs : Nat → Int32) : ll_P L xs 121 88 = some (.inr (.inr 1)) := (P_121 L xs 88).trans rfl
theorem p_121_89 (L : Nat) (xs : Nat → Int32) : ll_P L xs 121 89 = some (.inl (lo_aload 91 4)) := (P_121 L xs 89).trans rfl
theorem p_121_91 (L : Nat) (xs : Nat → Int32) : ll_P L xs 121 91 = some (.inl (lo_iload 92 2)) := (P_121 L xs 91).trans rfl
theorem p_121_92 (L : Nat) (xs : Nat → Int32) : ll_P L xs 121 92 = some (.inr (.inl (49, 2, 95))) := (P_121 L xs 92).trans rfl
theorem p_121_95 (L : Nat) (xs : Nat → Int32) : ll_P L xs 121 95 = some (.inr (.inr 1)) := (P_121 L xs 95).trans rfl
theorem p_121_96 (L : Nat) (xs : Nat → Int32) : ll_P L xs 121 96 = some (.inl (lo_aload 98 4)) := (P_121 L xs 96).trans rfl
theorem p_121_98 (L : Nat) (xs : Nat → Int32) : ll_P L xs 121 98 = some (.inl (lo_iload 99 2)) := (P_121 L xs 98).trans rfl
theorem p_121_99 (L : Nat) (xs : Nat → Int32) : ll_P L xs 121 99 = some (.inl (lo_iload 100 3)) := (P_121 L xs 99).trans rfl
theorem p_121_100 (L : Nat) (xs : Nat → Int32) : ll_P L xs 121 100 = some (.inl (lo_push 101 (.int 2))) := (P_121 L xs 100).trans rfl
theorem p_121_101 (L : Nat) (xs : Nat → Int32) : ll_P L xs 121 101 = some (.inl (lo_bin 102 (fun x y => x - y))) := (P_121 L xs 101).trans rfl
theorem p_121_102 (L : Nat) (xs : Nat → Int32) : ll_P L xs 121 102 = some (.inr (.inl (51, 3, 105))) := (P_121 L xs 102).trans rfl
theorem p_121_105 (L : Nat) (xs : Nat → Int32) : ll_P L xs 121 105 = some (.inr (.inr 1)) := (P_121 L xs 105).trans rfl
theorem p_121_106 (L : Nat) (xs : Nat → Int32) : ll_P L xs 121 106 = some (.inl (lo_iload 107 3)) := (P_121 L xs 106).trans rfl
theorem p_121_107 (L : Nat) (xs : Nat → Int32) : ll_P L xs 121 107 = some (.inl (lo_push 109 (.int 10))) := (P_121 L xs 107).trans rfl
theorem p_121_109 (L : Nat) (xs : Nat → Int32) : ll_P L xs 121 109 = some (.inl (lo_cmp 116 112 (fun x y => decide (y ≤ x)))) := (P_121 L xs 109).trans rfl
theorem p_121_112 (L : Nat) (xs : Nat → Int32) : ll_P L xs 121 112 = some (.inl (lo_push 113 (.int (-1)))) := (P_121 L xs 112).trans rfl
theorem p_121_113 (L : Nat) (xs : Nat → Int32) : ll_P L xs 121 113 = some (.inl (lo_goto 126)) := (P_121 L xs 113).trans rfl
theorem p_121_116 (L : Nat) (xs : Nat → Int32) : ll_P L xs 121 116 = some (.inl (lo_aload 118 4)) := (P_121 L xs 116).trans rfl
theorem p_121_118 (L : Nat) (xs : Nat → Int32) : ll_P L xs 121 118 = some (.inl (lo_iload 119 2)) := (P_121 L xs 118).trans rfl
theorem p_121_119 (L : Nat) (xs : Nat → Int32) : ll_P L xs 121 119 = some (.inl (lo_iload 120 3)) := (P_121 L xs 119).trans rfl
theorem p_121_120 (L : Nat) (xs : Nat → Int32) : ll_P L xs 121 120 = some (.inl (lo_push 122 (.int 10))) := (P_121 L xs 120).trans rfl
theorem p_121_122 (L : Nat) (xs : Nat → Int32) : ll_P L xs 121 122 = some (.inl (lo_bin 123 (fun x y => x - y))) := (P_121 L xs 122).trans rfl
theorem p_121_123 (L : Nat) (xs : Nat → Int32) : ll_P L xs 121 123 = some (.inr (.inl (50, 3, 126))) := (P_121 L xs 123).trans rfl
theorem p_121_126 (L : Nat) (xs : Nat → Int32) : ll_P L xs 121 126 = some (.inr (.inr 1)) := (P_121 L xs 126).trans rfl
theorem b_121_0 {Y : sY} {d : Nat} {s : sT} {K : Option Int32 → sT → Prop} {r0 : Nat} {x1 : Int32} {x2 : Int32} {x3 : Int32} (h : tT Y d 138 0 [.int x1] [] s (fun r s1 => tT Y (d + 1) 121 4 [.ref r0, .int x1, .int x2, .int x3, .null] ((r.map Value.int).toList ++ []) s1 K)) : tT Y (d + 1) 121 0 [.ref r0, .int x1, .int x2, .int x3, .null] [] s K :=
  (tt_iload (p_121_0 _ _) rfl).mpr (t2_calls (z := 138) (k := 1) (as := [.int x1]) (rest := []) (p_121_1 _ _) mK_138 mL_138 rfl rfl (Nat.le_of_ble_eq_true rfl) rfl (Nat.le_of_ble_eq_true rfl) h)
theorem b_121_4 {Y : sY} {d : Nat} {s : sT} {K : Option Int32 → sT → Prop} {r0 : Nat} {x1 : Int32} {x2 : Int32} {x3 : Int32} {t0 : Int32} (h : (if t0 = 0 then K (some (-1 : Int32)) s else (∃ a2, (isO Y r0 10 ∧ s.2 r0 8 = some a2) ∧ (∃ a4, (isO Y a2 3 ∧ s.2 a2 1 = some a4) ∧ (∃ c8 m6 a7, (isQ Y a4 c8 m6 ∧ inR x1 m6 ∧ s.2 a4 (x1).toNatClampNeg = some a7) ∧ (isO Y a7 5 ∧ tT Y d 45 0 [.ref a7, .int x2] [] s (fun r s1 => tT Y (d + 1) 121 20 [.ref r0, .int x1, .int x2, .int x3, .null] ((r.map Value.int).toList ++ []) s1 K))))))) : tT Y (d + 1) 121 4 [.ref r0, .int x1, .int x2, .int x3, .null] [.int t0] s K :=
  t3_if (p := t0 = 0) (p_121_4 _ _) rfl (fun g1 => (tt_push (p_121_23 _ _)).mpr (tt_ret1 (p_121_24 _ _) (ifp h g1))) (fun g1 => (tt_aload (p_121_7 _ _) rfl).mpr (Exists.elim (ifn h g1) (fun a2 h3 => t3_getr (p_121_8 _ _) (isI_10_8) h3.1.1 h3.1.2 (Exists.elim h3.2 (fun a4 h5 => t3_getr (p_121_11 _ _) (isI_3_1) h5.1.1 h5.1.2 ((tt_iload (p_121_14 _ _) rfl).mpr (Exists.elim h5.2 (fun c8 h9q0 => Exists.elim h9q0 (fun m6 h9q1 => Exists.elim h9q1 (fun a7 h9 => t3_aald (p_121_15 _ _) h9.1.1 h9.1.2.1 h9.1.2.2 ((tt_iload (p_121_16 _ _) rfl).mpr (t2_callv (z := 45) (k := 2) (i := a7) (as := [.int x2]) (rest := []) (p_121_17 _ _) mK_45 mL_45 rfl rfl (Nat.le_of_ble_eq_true rfl) rfl (Nat.le_of_ble_eq_true rfl) h9.2.1 h9.2.2))))))))))))
theorem b_121_20 {Y : sY} {d : Nat} {s : sT} {K : Option Int32 → sT → Prop} {r0 : Nat} {x1 : Int32} {x2 : Int32} {x3 : Int32} {t0 : Int32} (h : (if ¬ t0 = 0 then (∃ a2, (isO Y r0 10 ∧ s.2 r0 8 = some a2) ∧ (∃ a4, (isO Y a2 3 ∧ s.2 a2 1 = some a4) ∧ (∃ c8 m6 a7, (isQ Y a4 c8 m6 ∧ inR x1 m6 ∧ s.2 a4 (x1).toNatClampNeg = some a7) ∧ ((x3 = 0 → (isO Y a7 5 ∧ tT Y d 47 0 [.ref a7, .int ((1 : Int32) <<< (x2 &&& 31))] [] s (fun r s1 => tT Y (d + 1) 121 80 [.ref r0, .int x1, .int x2, .int x3, .ref a7] ((r.map Value.int).toList ++ []) s1 K))) ∧ (x3 = 1 → (isO Y a7 5 ∧ tT Y d 49 0 [.ref a7, .int x2] [] s (fun r s1 => tT Y (d + 1) 121 95 [.ref r0, .int x1, .int x2, .int x3, .ref a7] ((r.map Value.int).toList ++ []) s1 K))) ∧ (x3 = 2 → (isO Y a7 5 ∧ tT Y d 51 0 [.ref a7, .int x2, .int (x3 - (2 : Int32))] [] s (fun r s1 => tT Y (d + 1) 121 105 [.ref r0, .int x1, .int x2, .int x3, .ref a7] ((r.map Value.int).toList ++ []) s1 K))) ∧ (x3 = 3 → (isO Y a7 5 ∧ tT Y d 51 0 [.ref a7, .int x2, .int (x3 - (2 : Int32))] [] s (fun r s1 => tT Y (d + 1) 121 105 [.ref r0, .int x1, .int x2, .int x3, .ref a7] ((r.map Value.int).toList ++ []) s1 K))) ∧ (x3 = 4 → (isO Y a7 5 ∧ tT Y d 51 0 [.ref a7, .int x2, .int (x3 - (2 : Int32))] [] s (fun r s1 => tT Y (d + 1) 121 105 [.ref r0, .int x1, .int x2, .int x3, .ref a7] ((r.map Value.int).toList ++ []) s1 K))) ∧ (¬ x3 = 0 ∧ ¬ x3 = 1 ∧ ¬ x3 = 2 ∧ ¬ x3 = 3 ∧ ¬ x3 = 4 → (if (10 : Int32) ≤ x3 then (isO Y a7 5 ∧ tT Y d 50 0 [.ref a7, .int x2, .int (x3 - (10 : Int32))] [] s (fun r s1 => tT Y (d + 1) 121 126 [.ref r0, .int x1, .int x2, .int x3, .ref a7] ((r.map Value.int).toList ++ []) s1 K)) else tT Y (d + 1) 121 126 [.ref r0, .int x1, .int x2, .int x3, .ref a7] [.int (-1 : Int32)] s K)))))) else K (some (-1 : Int32)) s)) : tT Y (d + 1) 121 20 [.ref r0, .int x1, .int x2, .int x3, .null] [.int t0] s K :=
  t3_if (p := ¬ t0 = 0) (p_121_20 _ _) rfl (fun g1 => (tt_aload (p_121_25 _ _) rfl).mpr (Exists.elim (ifp h g1) (fun a2 h3 => t3_getr (p_121_26 _ _) (isI_10_8) h3.1.1 h3.1.2 (Exists.elim h3.2 (fun a4 h5 => t3_getr (p_121_29 _ _) (isI_3_1) h5.1.1 h5.1.2 ((tt_iload (p_121_32 _ _) rfl).mpr (Exists.elim h5.2 (fun c8 h9q0 => Exists.elim h9q0 (fun m6 h9q1 => Exists.elim h9q1 (fun a7 h9 => t3_aald (p_121_33 _ _) h9.1.1 h9.1.2.1 h9.1.2.2 ((tt_astore (p_121_34 _ _) (Nat.le_of_ble_eq_true rfl) rfl rfl).mpr ((tt_iload (p_121_36 _ _) rfl).mpr (Decidable.byCases (p := x3 = 0) (fun g10 => t3_tab (t := 72) (p_121_37 _ _) (by rw [g10]; rfl) ((tt_aload (p_121_72 _ _) rfl).mpr ((tt_push (p_121_74 _ _)).mpr ((tt_iload (p_121_75 _ _) rfl).mpr ((tt_bin (p_121_76 _ _)).mpr (t2_callv (z := 47) (k := 2) (i := a7) (as := [.int ((1 : Int32) <<< (x2 &&& 31))]) (rest := []) (p_121_77 _ _) mK_47 mL_47 rfl rfl (Nat.le_of_ble_eq_true rfl) rfl (Nat.le_of_ble_eq_true rfl) (h9.2.1 g10).1 (h9.2.1 g10).2)))))) (fun g10n => Decidable.byCases (p := x3 = 1) (fun g11 => t3_tab (t := 89) (p_121_37 _ _) (by rw [g11]; rfl) ((tt_aload (p_121_89 _ _) rfl).mpr ((tt_iload (p_121_91 _ _) rfl).mpr (t2_callv (z := 49) (k := 2) (i := a7) (as := [.int x2]) (rest := []) (p_121_92 _ _) mK_49 mL_49 rfl rfl (Nat.le_of_ble_eq_true rfl) rfl (Nat.le_of_ble_eq_true rfl) (h9.2.2.1 g11).1 (h9.2.2.1 g11).2)))) (fun g11n => Decidable.byCases (p := x3 = 2) (fun g12 => t3_tab (t := 96) (p_121_37 _ _) (by rw [g12]; rfl) ((tt_aload (p_121_96 _ _) rfl).mpr ((tt_iload (p_121_98 _ _) rfl).mpr ((tt_iload (p_121_99 _ _) rfl).mpr ((tt_push (p_121_100 _ _)).mpr ((tt_bin (p_121_101 _ _)).mpr (t2_callv (z := 51) (k := 3) (i := a7) (as := [.int x2, .int (x3 - (2 : Int32))]) (rest := []) (p_121_102 _ _) mK_51 mL_51 rfl rfl (Nat.le_of_ble_eq_true rfl) rfl (Nat.le_of_ble_eq_true rfl) (h9.2.2.2.1 g12).1 (h9.2.2.2.1 g12).2))))))) (fun g12n => Decidable.byCases (p := x3 = 3) (fun g13 => t3_tab (t := 96) (p_121_37 _ _) (by rw [g13]; rfl) ((tt_aload (p_121_96 _ _) rfl).mpr ((tt_iload (p_121_98 _ _) rfl).mpr ((tt_iload (p_121_99 _ _) rfl).mpr ((tt_push (p_121_100 _ _)).mpr ((tt_bin (p_121_101 _ _)).mpr (t2_callv (z := 51) (k := 3) (i := a7) (as := [.int x2, .int (x3 - (2 : Int32))]) (rest := []) (p_121_102 _ _) mK_51 mL_51 rfl rfl (Nat.le_of_ble_eq_true rfl) rfl (Nat.le_of_ble_eq_true rfl) (h9.2.2.2.2.1 g13).1 (h9.2.2.2.2.1 g13).2))))))) (fun g13n => Decidable.byCases (p := x3 = 4) (fun g14 => t3_tab (t := 96) (p_121_37 _ _) (by rw [g14]; rfl) ((tt_aload (p_121_96 _ _) rfl).mpr ((tt_iload (p_121_98 _ _) rfl).mpr ((tt_iload (p_121_99 _ _) rfl).mpr ((tt_push (p_121_100 _ _)).mpr ((tt_bin (p_121_101 _ _)).mpr (t2_callv (z := 51) (k := 3) (i := a7) (as := [.int x2, .int (x3 - (2 : Int32))]) (rest := []) (p_121_102 _ _) mK_51 mL_51 rfl rfl (Nat.le_of_ble_eq_true rfl) rfl (Nat.le_of_ble_eq_true rfl) (h9.2.2.2.2.2.1 g14).1 (h9.2.2.2.2.2.1 g14).2))))))) (fun g14n => t3_tab (t := 106) (p_121_37 _ _) (t3_tabd (fun k hk => t3_tabk (lo := 0) (n := 5) (fun j (hj : j < 5) => by rcases (show j = 0 ∨ j = 1 ∨ j = 2 ∨ j = 3 ∨ j = 4 by omega) with rfl | rfl | rfl | rfl | rfl <;> assumption) k hk)) ((tt_iload (p_121_106 _ _) rfl).mpr ((tt_push (p_121_107 _ _)).mpr (t3_cmp (p := (10 : Int32) ≤ x3) (p_121_109 _ _) rfl (fun g15 => (tt_aload (p_121_116 _ _) rfl).mpr ((tt_iload (p_121_118 _ _) rfl).mpr ((tt_iload (p_121_119 _ _) rfl).mpr ((tt_push (p_121_120 _ _)).mpr ((tt_bin (p_121_122 _ _)).mpr (t2_callv (z := 50) (k := 3) (i := a7) (as := [.int x2, .int (x3 - (10 : Int32))]) (rest := []) (p_121_123 _ _) mK_50 mL_50 rfl rfl (Nat.le_of_ble_eq_true rfl) rfl (Nat.le_of_ble_eq_true rfl) (ifp (h9.2.2.2.2.2.2 ⟨g10n, g11n, g12n, g13n, g14n⟩) g15).1 (ifp (h9.2.2.2.2.2.2 ⟨g10n, g11n, g12n, g13n, g14n⟩) g15).2)))))) (fun g15 => (tt_push (p_121_112 _ _)).mpr ((tt_goto (p_121_113 _ _)).mpr ((ifn (h9.2.2.2.2.2.2 ⟨g10n, g11n, g12n, g13n, g14n⟩) g15))))))))))))))))))))))))) (fun g1 => (tt_push (p_121_23 _ _)).mpr (tt_ret1 (p_121_24 _ _) (ifn h g1)))
theorem b_121_80 {Y : sY} {d : Nat} {s : sT} {K : Option Int32 → sT → Prop} {r0 : Nat} {x1 : Int32} {x2 : Int32} {x3 : Int32} {r4 : Nat} {t0 : Int32} (h : (if t0 = 0 then K (some (0 : Int32)) s else K (some (1 : Int32)) s)) : tT Y (d + 1) 121 80 [.ref r0, .int x1, .int x2, .int x3, .ref r4] [.int t0] s K :=
  t3_if (p := t0 = 0) (p_121_80 _ _) rfl (fun g1 => (tt_push (p_121_87 _ _)).mpr (tt_ret1 (p_121_88 _ _) (ifp h g1))) (fun g1 => (tt_push (p_121_83 _ _)).mpr ((tt_goto (p_121_84 _ _)).mpr (tt_ret1 (p_121_88 _ _) (ifn h g1))))
theorem b_121_95 {Y : sY} {d : Nat} {s : sT} {K : Option Int32 → sT → Prop} {r0 : Nat} {x1 : Int32} {x2 : Int32} {x3 : Int32} {r4 : Nat} {t0 : Int32} (h : K (some t0) s) : tT Y (d + 1) 121 95 [.ref r0, .int x1, .int x2, .int x3, .ref r4] [.int t0] s K :=
  tt_ret1 (p_121_95 _ _) h
theorem b_121_105 {Y : sY} {d : Nat} {s : sT} {K : Option Int32 → sT → Prop} {r0 : Nat} {x1 : Int32} {x2 : Int32} {x3 : Int32} {r4 : Nat} {t0 : Int32} (h : K (some t0) s) : tT Y (d + 1) 121 105 [.ref r0, .int x1, .int x2, .int x3, .ref r4] [.int t0] s K :=
  tt_ret1 (p_121_105 _ _) h
theorem b_121_126 {Y : sY} {d : Nat} {s : sT} {K : Option Int32 → sT → Prop} {r0 : Nat} {x1 : Int32} {x2 : Int32} {x3 : Int32} {r4 : Nat} {t0 : Int32} (h : K (some t0) s) : tT Y (d + 1) 121 126 [.ref r0, .int x1, .int x2, .int x3, .ref r4] [.int t0] s K :=
  tt_ret1 (p_121_126 _ _) h
/-! InclusionProver.like.(II)I -/
theorem p_122_0 (L : Nat) (xs : Nat → Int32) : ll_P L xs 122 0 = some (.inl (lo_iload 1 1)) := (P_122 L xs 0).trans rfl
theorem p_122_1 (L : Nat) (xs : Nat → Int32) : ll_P L xs 122 1 = some (.inr (.inl (138, 1, 4))) := (P_122 L xs 1).trans rfl
theorem p_122_4 (L : Nat) (xs : Nat → Int32) : ll_P L xs 122 4 = some (.inl (lo_if 9 7 (fun x => decide (¬ x = 0)))) := (P_122 L xs 4).trans rfl
theorem p_122_7 (L : Nat) (xs : Nat → Int32) : ll_P L xs 122 7 = some (.inl (lo_push 8 (.int (-1)))) := (P_122 L xs 7).trans rfl
theorem p_122_8 (L : Nat) (xs : Nat → Int32) : ll_P L xs 122 8 = some (.inr (.inr 1)) := (P_122 L xs 8).trans rfl
theorem p_122_9 (L : Nat) (xs : Nat → Int32) : ll_P L xs 122 9 = some (.inl (lo_aload 10 0)) := (P_122 L xs 9).trans rfl
theorem p_122_10 (L : Nat) (xs : Nat → Int32) : ll_P L xs 122 10 = some (.inl (lo_getf 13 10 8)) := (P_122 L xs 10).trans rfl
theorem p_122_13 (L : Nat) (xs : Nat → Int32) : ll_P L xs 122 13 = some (.inl (lo_getf 16 3 1)) := (P_122 L xs 13).trans rfl
theorem p_122_16 (L : Nat) (xs : Nat → Int32) : ll_P L xs 122 16 = some (.inl (lo_iload 17 1)) := (P_122 L xs 16).trans rfl
theorem p_122_17 (L : Nat) (xs : Nat → Int32) : ll_P L xs 122 17 = some (.inl (lo_aald 18)) := (P_122 L xs 17).trans rfl
theorem p_122_18 (L : Nat) (xs : Nat → Int32) : ll_P L xs 122 18 = some (.inl (lo_aload 19 0)) := (P_122 L xs 18).trans rfl
theorem p_122_19 (L : Nat) (xs : Nat → Int32) : ll_P L xs 122 19 = some (.inl (lo_getf 22 10 8)) := (P_122 L xs 19).trans rfl
theorem p_122_22 (L : Nat) (xs : Nat → Int32) : ll_P L xs 122 22 = some (.inl (lo_getf 25 3 1)) := (P_122 L xs 22).trans rfl
theorem p_122_25 (L : Nat) (xs : Nat → Int32) : ll_P L xs 122 25 = some (.inl (lo_push 26 (.int 1))) := (P_122 L xs 25).trans rfl
theorem p_122_26 (L : Nat) (xs : Nat → Int32) : ll_P L xs 122 26 = some (.inl (lo_iload 27 1)) := (P_122 L xs 26).trans rfl
theorem p_122_27 (L : Nat) (xs : Nat → Int32) : ll_P L xs 122 27 = some (.inl (lo_bin 28 (fun x y => x - y))) := (P_122 L xs 27).trans rfl
theorem p_122_28 (L : Nat) (xs : Nat → Int32) : ll_P L xs 122 28 = some (.inl (lo_aald 29)) := (P_122 L xs 28).trans rfl
theorem p_122_29 (L : Nat) (xs : Nat → Int32) : ll_P L xs 122 29 = some (.inl (lo_iload 30 2)) := (P_122 L xs 29).trans rfl
theorem p_122_30 (L : Nat) (xs : Nat → Int32) : ll_P L xs 122 30 = some (.inr (.inl (55, 3, 33))) := (P_122 L xs 30).trans rfl
theorem p_122_33 (L : Nat) (xs : Nat → Int32) : ll_P L xs 122 33 = some (.inr (.inr 1)) := (P_122 L xs 33).trans rfl
theorem b_122_0 {Y : sY} {d : Nat} {s : sT} {K : Option Int32 → sT → Prop} {r0 : Nat} {x1 : Int32} {x2 : Int32} (h : tT Y d 138 0 [.int x1] [] s (fun r s1 => tT Y (d + 1) 122 4 [.ref r0, .int x1, .int x2] ((r.map Value.int).toList ++ []) s1 K)) : tT Y (d + 1) 122 0 [.ref r0, .int x1, .int x2] [] s K :=
  (tt_iload (p_122_0 _ _) rfl).mpr (t2_calls (z := 138) (k := 1) (as := [.int x1]) (rest := []) (p_122_1 _ _) mK_138 mL_138 rfl rfl (Nat.le_of_ble_eq_true rfl) rfl (Nat.le_of_ble_eq_true rfl) h)
theorem b_122_4 {Y : sY} {d : Nat} {s : sT} {K : Option Int32 → sT → Prop} {r0 : Nat} {x1 : Int32} {x2 : Int32} {t0 : Int32} (h : (if ¬ t0 = 0 then (∃ a2, (isO Y r0 10 ∧ s.2 r0 8 = some a2) ∧ (∃ a4, (isO Y a2 3 ∧ s.2 a2 1 = some a4) ∧ (∃ c8 m6 a7, (isQ Y a4 c8 m6 ∧ inR x1 m6 ∧ s.2 a4 (x1).toNatClampNeg = some a7) ∧ (∃ a10, (isO Y r0 10 ∧ s.2 r0 8 = some a10) ∧ (∃ a12, (isO Y a10 3 ∧ s.2 a10 1 = some a12) ∧ (∃ c16 m14 a15, (isQ Y a12 c16 m14 ∧ inR ((1 : Int32) - x1) m14 ∧ s.2 a12 (((1 : Int32) - x1)).toNatClampNeg = some a15) ∧ (isO Y a7 5 ∧ tT Y d 55 0 [.ref a7, .ref a15, .int x2, .null] [] s (fun r s1 => tT Y (d + 1) 122 33 [.ref r0, .int x1, .int x2] ((r.map Value.int).toList ++ []) s1 K)))))))) else K (some (-1 : Int32)) s)) : tT Y (d + 1) 122 4 [.ref r0, .int x1, .int x2] [.int t0] s K :=
  t3_if (p := ¬ t0 = 0) (p_122_4 _ _) rfl (fun g1 => (tt_aload (p_122_9 _ _) rfl).mpr (Exists.elim (ifp h g1) (fun a2 h3 => t3_getr (p_122_10 _ _) (isI_10_8) h3.1.1 h3.1.2 (Exists.elim h3.2 (fun a4 h5 => t3_getr (p_122_13 _ _) (isI_3_1) h5.1.1 h5.1.2 ((tt_iload (p_122_16 _ _) rfl).mpr (Exists.elim h5.2 (fun c8 h9q0 => Exists.elim h9q0 (fun m6 h9q1 => Exists.elim h9q1 (fun a7 h9 => t3_aald (p_122_17 _ _) h9.1.1 h9.1.2.1 h9.1.2.2 ((tt_aload (p_122_18 _ _) rfl).mpr (Exists.elim h9.2 (fun a10 h11 => t3_getr (p_122_19 _ _) (isI_10_8) h11.1.1 h11.1.2 (Exists.elim h11.2 (fun a12 h13 => t3_getr (p_122_22 _ _) (isI_3_1) h13.1.1 h13.1.2 ((tt_push (p_122_25 _ _)).mpr ((tt_iload (p_122_26 _ _) rfl).mpr ((tt_bin (p_122_27 _ _)).mpr (Exists.elim h13.2 (fun c16 h17q0 => Exists.elim h17q0 (fun m14 h17q1 => Exists.elim h17q1 (fun a15 h17 => t3_aald (p_122_28 _ _) h17.1.1 h17.1.2.1 h17.1.2.2 ((tt_iload (p_122_29 _ _) rfl).mpr (t2_callv (z := 55) (k := 3) (i := a7) (as := [.ref a15, .int x2]) (rest := []) (p_122_30 _ _) mK_55 mL_55 rfl rfl (Nat.le_of_ble_eq_true rfl) rfl (Nat.le_of_ble_eq_true rfl) h17.2.1 h17.2.2)))))))))))))))))))))))) (fun g1 => (tt_push (p_122_7 _ _)).mpr (tt_ret1 (p_122_8 _ _) (ifn h g1)))
theorem b_122_33 {Y : sY} {d : Nat} {s : sT} {K : Option Int32 → sT → Prop} {r0 : Nat} {x1 : Int32} {x2 : Int32} {t0 : Int32} (h : K (some t0) s) : tT Y (d + 1) 122 33 [.ref r0, .int x1, .int x2] [.int t0] s K :=
  tt_ret1 (p_122_33 _ _) h
/-! InclusionProver.has.(I)Z -/
theorem p_123_0 (L : Nat) (xs : Nat → Int32) : ll_P L xs 123 0 = some (.inl (lo_iload 1 1)) := (P_123 L xs 0).trans rfl
theorem p_123_1 (L : Nat) (xs : Nat → Int32) : ll_P L xs 123 1 = some (.inr (.inl (138, 1, 4))) := (P_123 L xs 1).trans rfl
theorem p_123_4 (L : Nat) (xs : Nat → Int32) : ll_P L xs 123 4 = some (.inl (lo_if 27 7 (fun x => decide (x = 0)))) := (P_123 L xs 4).trans rfl
theorem p_123_7 (L : Nat) (xs : Nat → Int32) : ll_P L xs 123 7 = some (.inl (lo_aload 8 0)) := (P_123 L xs 7).trans rfl
theorem p_123_8 (L : Nat) (xs : Nat → Int32) : ll_P L xs 123 8 = some (.inl (lo_aload 9 0)) := (P_123 L xs 8).trans rfl
theorem p_123_9 (L : Nat) (xs : Nat → Int32) : ll_P L xs 123 9 = some (.inl (lo_getf 12 10 8)) := (P_123 L xs 9).trans rfl
theorem p_123_12 (L : Nat) (xs : Nat → Int32) : ll_P L xs 123 12 = some (.inl (lo_getf 15 3 1)) := (P_123 L xs 12).trans rfl
theorem p_123_15 (L : Nat) (xs : Nat → Int32) : ll_P L xs 123 15 = some (.inl (lo_iload 16 1)) := (P_123 L xs 15).trans rfl
theorem p_123_16 (L : Nat) (xs : Nat → Int32) : ll_P L xs 123 16 = some (.inl (lo_aald 17)) := (P_123 L xs 16).trans rfl
theorem p_123_17 (L : Nat) (xs : Nat → Int32) : ll_P L xs 123 17 = some (.inr (.inl (148, 2, 20))) := (P_123 L xs 17).trans rfl
theorem p_123_20 (L : Nat) (xs : Nat → Int32) : ll_P L xs 123 20 = some (.inl (lo_if 27 23 (fun x => decide (x = 0)))) := (P_123 L xs 20).trans rfl
theorem p_123_23 (L : Nat) (xs : Nat → Int32) : ll_P L xs 123 23 = some (.inl (lo_push 24 (.int 1))) := (P_123 L xs 23).trans rfl
theorem p_123_24 (L : Nat) (xs : Nat → Int32) : ll_P L xs 123 24 = some (.inl (lo_goto 28)) := (P_123 L xs 24).trans rfl
theorem p_123_27 (L : Nat) (xs : Nat → Int32) : ll_P L xs 123 27 = some (.inl (lo_push 28 (.int 0))) := (P_123 L xs 27).trans rfl
theorem p_123_28 (L : Nat) (xs : Nat → Int32) : ll_P L xs 123 28 = some (.inl (lo_istore 29 2)) := (P_123 L xs 28).trans rfl
theorem p_123_29 (L : Nat) (xs : Nat → Int32) : ll_P L xs 123 29 = some (.inl (lo_aload 30 0)) := (P_123 L xs 29).trans rfl
theorem p_123_30 (L : Nat) (xs : Nat → Int32) : ll_P L xs 123 30 = some (.inl (lo_getf 33 10 8)) := (P_123 L xs 30).trans rfl
theorem p_123_33 (L : Nat) (xs : Nat → Int32) : ll_P L xs 123 33 = some (.inl (lo_getf 36 3 0)) := (P_123 L xs 33).trans rfl
theorem p_123_36 (L : Nat) (xs : Nat → Int32) : ll_P L xs 123 36 = some (.inr (.inl (71, 1, 39))) := (P_123 L xs 36).trans rfl
theorem p_123_39 (L : Nat) (xs : Nat → Int32) : ll_P L xs 123 39 = some (.inl (lo_iload 40 2)) := (P_123 L xs 39).trans rfl
theorem p_123_40 (L : Nat) (xs : Nat → Int32) : ll_P L xs 123 40 = some (.inr (.inr 2)) := (P_123 L xs 40).trans rfl
theorem b_123_0 {Y : sY} {d : Nat} {s : sT} {K : Option Int32 → sT → Prop} {r0 : Nat} {x1 : Int32} (h : tT Y d 138 0 [.int x1] [] s (fun r s1 => tT Y (d + 1) 123 4 [.ref r0, .int x1, .null] ((r.map Value.int).toList ++ []) s1 K)) : tT Y (d + 1) 123 0 [.ref r0, .int x1, .null] [] s K :=
  (tt_iload (p_123_0 _ _) rfl).mpr (t2_calls (z := 138) (k := 1) (as := [.int x1]) (rest := []) (p_123_1 _ _) mK_138 mL_138 rfl rfl (Nat.le_of_ble_eq_true rfl) rfl (Nat.le_of_ble_eq_true rfl) h)
theorem b_123_4 {Y : sY} {d : Nat} {s : sT} {K : Option Int32 → sT → Prop} {r0 : Nat} {x1 : Int32} {t0 : Int32} (h : (if t0 = 0 then tT Y (d + 1) 123 27 [.ref r0, .int x1, .null] [] s K else (∃ a2, (isO Y r0 10 ∧ s.2 r0 8 = some a2) ∧ (∃ a4, (isO Y a2 3 ∧ s.2 a2 1 = some a4) ∧ (∃ c8 m6 a7, (isQ Y a4 c8 m6 ∧ inR x1 m6 ∧ s.2 a4 (x1).toNatClampNeg = some a7) ∧ (isO Y r0 10 ∧ tT Y d 148 0 [.ref r0, .ref a7, .null, .null, .null, .null] [] s (fun r s1 => tT Y (d + 1) 123 20 [.ref r0, .int x1, .null] ((r.map Value.int).toList ++ []) s1 K))))))) : tT Y (d + 1) 123 4 [.ref r0, .int x1, .null] [.int t0] s K :=
  t3_if (p := t0 = 0) (p_123_4 _ _) rfl (fun g1 => (ifp h g1)) (fun g1 => (tt_aload (p_123_7 _ _) rfl).mpr ((tt_aload (p_123_8 _ _) rfl).mpr (Exists.elim (ifn h g1) (fun a2 h3 => t3_getr (p_123_9 _ _) (isI_10_8) h3.1.1 h3.1.2 (Exists.elim h3.2 (fun a4 h5 => t3_getr (p_123_12 _ _) (isI_3_1) h5.1.1 h5.1.2 ((tt_iload (p_123_15 _ _) rfl).mpr (Exists.elim h5.2 (fun c8 h9q0 => Exists.elim h9q0 (fun m6 h9q1 => Exists.elim h9q1 (fun a7 h9 => t3_aald (p_123_16 _ _) h9.1.1 h9.1.2.1 h9.1.2.2 (t2_callv (z := 148) (k := 2) (i := r0) (as := [.ref a7]) (rest := []) (p_123_17 _ _) mK_148 mL_148 rfl rfl (Nat.le_of_ble_eq_true rfl) rfl (Nat.le_of_ble_eq_true rfl) h9.2.1 h9.2.2))))))))))))
theorem b_123_20 {Y : sY} {d : Nat} {s : sT} {K : Option Int32 → sT → Prop} {r0 : Nat} {x1 : Int32} {t0 : Int32} (h : (if t0 = 0 then tT Y (d + 1) 123 27 [.ref r0, .int x1, .null] [] s K else tT Y (d + 1) 123 28 [.ref r0, .int x1, .null] [.int (1 : Int32)] s K)) : tT Y (d + 1) 123 20 [.ref r0, .int x1, .null] [.int t0] s K :=
  t3_if (p := t0 = 0) (p_123_20 _ _) rfl (fun g1 => (ifp h g1)) (fun g1 => (tt_push (p_123_23 _ _)).mpr ((tt_goto (p_123_24 _ _)).mpr ((ifn h g1))))
theorem b_123_27 {Y : sY} {d : Nat} {s : sT} {K : Option Int32 → sT → Prop} {r0 : Nat} {x1 : Int32} (h : tT Y (d + 1) 123 28 [.ref r0, .int x1, .null] [.int (0 : Int32)] s K) : tT Y (d + 1) 123 27 [.ref r0, .int x1, .null] [] s K :=
  (tt_push (p_123_27 _ _)).mpr (h)
theorem b_123_28 {Y : sY} {d : Nat} {s : sT} {K : Option Int32 → sT → Prop} {r0 : Nat} {x1 : Int32} {t0 : Int32} (h : (∃ a1, (isO Y r0 10 ∧ s.2 r0 8 = some a1) ∧ (∃ a3, (isO Y a1 3 ∧ s.2 a1 0 = some a3) ∧ (isO Y a3 7 ∧ tT Y d 71 0 [.ref a3] [] s (fun r s1 => tT Y (d + 1) 123 39 [.ref r0, .int x1, .int t0] ((r.map Value.int).toList ++ []) s1 K))))) : tT Y (d + 1) 123 28 [.ref r0, .int x1, .null] [.int t0] s K :=
  (tt_istore (p_123_28 _ _) (Nat.le_of_ble_eq_true rfl) rfl rfl).mpr ((tt_aload (p_123_29 _ _) rfl).mpr (Exists.elim h (fun a1 h2 => t3_getr (p_123_30 _ _) (isI_10_8) h2.1.1 h2.1.2 (Exists.elim h2.2 (fun a3 h4 => t3_getr (p_123_33 _ _) (isI_3_0) h4.1.1 h4.1.2 (t2_callv (z := 71) (k := 1) (i := a3) (as := []) (rest := []) (p_123_36 _ _) mK_71 mL_71 rfl rfl (Nat.le_of_ble_eq_true rfl) rfl (Nat.le_of_ble_eq_true rfl) h4.2.1 h4.2.2))))))
theorem b_123_39 {Y : sY} {d : Nat} {s : sT} {K : Option Int32 → sT → Prop} {r0 : Nat} {x1 : Int32} {x2 : Int32} (h : ((x2 = 0 ∨ x2 = 1) ∧ K (some x2) s)) : tT Y (d + 1) 123 39 [.ref r0, .int x1, .int x2] [] s K :=
  (tt_iload (p_123_39 _ _) rfl).mpr (tt_ret2 (p_123_40 _ _) h.1 h.2)
/-! InclusionProver.words.(II)I -/
theorem p_124_0 (L : Nat) (xs : Nat → Int32) : ll_P L xs 124 0 = some (.inl (lo_iload 1 1)) := (P_124 L xs 0).trans rfl
theorem p_124_1 (L : Nat) (xs : Nat → Int32) : ll_P L xs 124 1 = some (.inl (lo_iload 2 2)) := (P_124 L xs 1).trans rfl
theorem p_124_2 (L : Nat) (xs : Nat → Int32) : ll_P L xs 124 2 = some (.inr (.inl (140, 2, 5))) := (P_124 L xs 2).trans rfl
theorem p_124_5 (L : Nat) (xs : Nat → Int32) : ll_P L xs 124 5 = some (.inl (lo_if 10 8 (fun x => decide (¬ x = 0)))) := (P_124 L xs 5).trans rfl
theorem p_124_8 (L : Nat) (xs : Nat → Int32) : ll_P L xs 124 8 = some (.inl (lo_push 9 (.int (-1)))) := (P_124 L xs 8).trans rfl
theorem p_124_9 (L : Nat) (xs : Nat → Int32) : ll_P L xs 124 9 = some (.inr (.inr 1)) := (P_124 L xs 9).trans rfl
theorem p_124_10 (L : Nat) (xs : Nat → Int32) : ll_P L xs 124 10 = some (.inl (lo_aload 11 0)) := (P_124 L xs 10).trans rfl
theorem p_124_11 (L : Nat) (xs : Nat → Int32) : ll_P L xs 124 11 = some (.inl (lo_getf 14 10 4)) := (P_124 L xs 11).trans rfl
theorem p_124_14 (L : Nat) (xs : Nat → Int32) : ll_P L xs 124 14 = some (.inl (lo_aload 15 0)) := (P_124 L xs 14).trans rfl
theorem p_124_15 (L : Nat) (xs : Nat → Int32) : ll_P L xs 124 15 = some (.inl (lo_getf 18 10 8)) := (P_124 L xs 15).trans rfl
theorem p_124_18 (L : Nat) (xs : Nat → Int32) : ll_P L xs 124 18 = some (.inl (lo_getf 21 3 1)) := (P_124 L xs 18).trans rfl
theorem p_124_21 (L : Nat) (xs : Nat → Int32) : ll_P L xs 124 21 = some (.inl (lo_push 22 (.int 0))) := (P_124 L xs 21).trans rfl
theorem p_124_22 (L : Nat) (xs : Nat → Int32) : ll_P L xs 124 22 = some (.inl (lo_aald 23)) := (P_124 L xs 22).trans rfl
theorem p_124_23 (L : Nat) (xs : Nat → Int32) : ll_P L xs 124 23 = some (.inl (lo_aload 24 0)) := (P_124 L xs 23).trans rfl
theorem p_124_24 (L : Nat) (xs : Nat → Int32) : ll_P L xs 124 24 = some (.inl (lo_getf 27 10 8)) := (P_124 L xs 24).trans rfl
theorem p_124_27 (L : Nat) (xs : Nat → Int32) : ll_P L xs 124 27 = some (.inl (lo_getf 30 3 1)) := (P_124 L xs 27).trans rfl
theorem p_124_30 (L : Nat) (xs : Nat → Int32) : ll_P L xs 124 30 = some (.inl (lo_push 31 (.int 1))) := (P_124 L xs 30).trans rfl
theorem p_124_31 (L : Nat) (xs : Nat → Int32) : ll_P L xs 124 31 = some (.inl (lo_aald 32)) := (P_124 L xs 31).trans rfl
theorem p_124_32 (L : Nat) (xs : Nat → Int32) : ll_P L xs 124 32 = some (.inl (lo_iload 33 1)) := (P_124 L xs 32).trans rfl
theorem p_124_33 (L : Nat) (xs : Nat → Int32) : ll_P L xs 124 33 = some (.inl (lo_iload 34 2)) := (P_124 L xs 33).trans rfl
theorem p_124_34 (L : Nat) (xs : Nat → Int32) : ll_P L xs 124 34 = some (.inr (.inl (103, 5, 37))) := (P_124 L xs 34).trans rfl
theorem p_124_37 (L : Nat) (xs : Nat → Int32) : ll_P L xs 124 37 = some (.inr (.inr 1)) := (P_124 L xs 37).trans rfl
theorem b_124_0 {Y : sY} {d : Nat} {s : sT} {K : Option Int32 → sT → Prop} {r0 : Nat} {x1 : Int32} {x2 : Int32} (h : tT Y d 140 0 [.int x1, .int x2] [] s (fun r s1 => tT Y (d + 1) 124 5 [.ref r0, .int x1, .int x2] ((r.map Value.int).toList ++ []) s1 K)) : tT Y (d + 1) 124 0 [.ref r0, .int x1, .int x2] [] s K :=
  (tt_iload (p_124_0 _ _) rfl).mpr ((tt_iload (p_124_1 _ _) rfl).mpr (t2_calls (z := 140) (k := 2) (as := [.int x1, .int x2]) (rest := []) (p_124_2 _ _) mK_140 mL_140 rfl rfl (Nat.le_of_ble_eq_true rfl) rfl (Nat.le_of_ble_eq_true rfl) h))
theorem b_124_5 {Y : sY} {d : Nat} {s : sT} {K : Option Int32 → sT → Prop} {r0 : Nat} {x1 : Int32} {x2 : Int32} {t0 : Int32} (h : (if ¬ t0 = 0 then (∃ a2, (isO Y r0 10 ∧ s.2 r0 4 = some a2) ∧ (∃ a4, (isO Y r0 10 ∧ s.2 r0 8 = some a4) ∧ (∃ a6, (isO Y a4 3 ∧ s.2 a4 1 = some a6) ∧ (∃ c10 m8 a9, (isQ Y a6 c10 m8 ∧ inR (0 : Int32) m8 ∧ s.2 a6 ((0 : Int32)).toNatClampNeg = some a9) ∧ (∃ a12, (isO Y r0 10 ∧ s.2 r0 8 = some a12) ∧ (∃ a14, (isO Y a12 3 ∧ s.2 a12 1 = some a14) ∧ (∃ c18 m16 a17, (isQ Y a14 c18 m16 ∧ inR (1 : Int32) m16 ∧ s.2 a14 ((1 : Int32)).toNatClampNeg = some a17) ∧ (isO Y a2 9 ∧ tT Y d 103 0 [.ref a2, .ref a9, .ref a17, .int x1, .int x2] [] s (fun r s1 => tT Y (d + 1) 124 37 [.ref r0, .int x1, .int x2] ((r.map Value.int).toList ++ []) s1 K))))))))) else K (some (-1 : Int32)) s)) : tT Y (d + 1) 124 5 [.ref r0, .int x1, .int x2] [.int t0] s K :=
  t3_if (p := ¬ t0 = 0) (p_124_5 _ _) rfl (fun g1 => (tt_aload (p_124_10 _ _) rfl).mpr (Exists.elim (ifp h g1) (fun a2 h3 => t3_getr (p_124_11 _ _) (isI_10_4) h3.1.1 h3.1.2 ((tt_aload (p_124_14 _ _) rfl).mpr (Exists.elim h3.2 (fun a4 h5 => t3_getr (p_124_15 _ _) (isI_10_8) h5.1.1 h5.1.2 (Exists.elim h5.2 (fun a6 h7 => t3_getr (p_124_18 _ _) (isI_3_1) h7.1.1 h7.1.2 ((tt_push (p_124_21 _ _)).mpr (Exists.elim h7.2 (fun c10 h11q0 => Exists.elim h11q0 (fun m8 h11q1 => Exists.elim h11q1 (fun a9 h11 => t3_aald (p_124_22 _ _) h11.1.1 h11.1.2.1 h11.1.2.2 ((tt_aload (p_124_23 _ _) rfl).mpr (Exists.elim h11.2 (fun a12 h13 => t3_getr (p_124_24 _ _) (isI_10_8) h13.1.1 h13.1.2 (Exists.elim h13.2 (fun a14 h15 => t3_getr (p_124_27 _ _) (isI_3_1) h15.1.1 h15.1.2 ((tt_push (p_124_30 _ _)).mpr (Exists.elim h15.2 (fun c18 h19q0 => Exists.elim h19q0 (fun m16 h19q1 => Exists.elim h19q1 (fun a17 h19 => t3_aald (p_124_31 _ _) h19.1.1 h19.1.2.1 h19.1.2.2 ((tt_iload (p_124_32 _ _) rfl).mpr ((tt_iload (p_124_33 _ _) rfl).mpr (t2_callv (z := 103) (k := 5) (i := a2) (as := [.ref a9, .ref a17, .int x1, .int x2]) (rest := []) (p_124_34 _ _) mK_103 mL_103 rfl rfl (Nat.le_of_ble_eq_true rfl) rfl (Nat.le_of_ble_eq_true rfl) h19.2.1 h19.2.2)))))))))))))))))))))))))) (fun g1 => (tt_push (p_124_8 _ _)).mpr (tt_ret1 (p_124_9 _ _) (ifn h g1)))
theorem b_124_37 {Y : sY} {d : Nat} {s : sT} {K : Option Int32 → sT → Prop} {r0 : Nat} {x1 : Int32} {x2 : Int32} {t0 : Int32} (h : K (some t0) s) : tT Y (d + 1) 124 37 [.ref r0, .int x1, .int x2] [.int t0] s K :=
  tt_ret1 (p_124_37 _ _) h
/-! InclusionProver.word.(III)I -/
theorem p_125_0 (L : Nat) (xs : Nat → Int32) : ll_P L xs 125 0 = some (.inl (lo_iload 1 1)) := (P_125 L xs 0).trans rfl
theorem p_125_1 (L : Nat) (xs : Nat → Int32) : ll_P L xs 125 1 = some (.inl (lo_iload 2 2)) := (P_125 L xs 1).trans rfl
theorem p_125_2 (L : Nat) (xs : Nat → Int32) : ll_P L xs 125 2 = some (.inr (.inl (140, 2, 5))) := (P_125 L xs 2).trans rfl
theorem p_125_5 (L : Nat) (xs : Nat → Int32) : ll_P L xs 125 5 = some (.inl (lo_if 12 8 (fun x => decide (x = 0)))) := (P_125 L xs 5).trans rfl
theorem p_125_8 (L : Nat) (xs : Nat → Int32) : ll_P L xs 125 8 = some (.inl (lo_iload 9 3)) := (P_125 L xs 8).trans rfl
theorem p_125_9 (L : Nat) (xs : Nat → Int32) : ll_P L xs 125 9 = some (.inl (lo_if 14 12 (fun x => decide (0 ≤ x)))) := (P_125 L xs 9).trans rfl
theorem p_125_12 (L : Nat) (xs : Nat → Int32) : ll_P L xs 125 12 = some (.inl (lo_push 13 (.int (-1)))) := (P_125 L xs 12).trans rfl
theorem p_125_13 (L : Nat) (xs : Nat → Int32) : ll_P L xs 125 13 = some (.inr (.inr 1)) := (P_125 L xs 13).trans rfl
theorem p_125_14 (L : Nat) (xs : Nat → Int32) : ll_P L xs 125 14 = some (.inl (lo_aload 15 0)) := (P_125 L xs 14).trans rfl
theorem p_125_15 (L : Nat) (xs : Nat → Int32) : ll_P L xs 125 15 = some (.inl (lo_getf 18 10 4)) := (P_125 L xs 15).trans rfl
theorem p_125_18 (L : Nat) (xs : Nat → Int32) : ll_P L xs 125 18 = some (.inl (lo_aload 19 0)) := (P_125 L xs 18).trans rfl
theorem p_125_19 (L : Nat) (xs : Nat → Int32) : ll_P L xs 125 19 = some (.inl (lo_getf 22 10 8)) := (P_125 L xs 19).trans rfl
theorem p_125_22 (L : Nat) (xs : Nat → Int32) : ll_P L xs 125 22 = some (.inl (lo_getf 25 3 1)) := (P_125 L xs 22).trans rfl
theorem p_125_25 (L : Nat) (xs : Nat → Int32) : ll_P L xs 125 25 = some (.inl (lo_push 26 (.int 0))) := (P_125 L xs 25).trans rfl
theorem p_125_26 (L : Nat) (xs : Nat → Int32) : ll_P L xs 125 26 = some (.inl (lo_aald 27)) := (P_125 L xs 26).trans rfl
theorem p_125_27 (L : Nat) (xs : Nat → Int32) : ll_P L xs 125 27 = some (.inl (lo_aload 28 0)) := (P_125 L xs 27).trans rfl
theorem p_125_28 (L : Nat) (xs : Nat → Int32) : ll_P L xs 125 28 = some (.inl (lo_getf 31 10 8)) := (P_125 L xs 28).trans rfl
theorem p_125_31 (L : Nat) (xs : Nat → Int32) : ll_P L xs 125 31 = some (.inl (lo_getf 34 3 1)) := (P_125 L xs 31).trans rfl
theorem p_125_34 (L : Nat) (xs : Nat → Int32) : ll_P L xs 125 34 = some (.inl (lo_push 35 (.int 1))) := (P_125 L xs 34).trans rfl
theorem p_125_35 (L : Nat) (xs : Nat → Int32) : ll_P L xs 125 35 = some (.inl (lo_aald 36)) := (P_125 L xs 35).trans rfl
theorem p_125_36 (L : Nat) (xs : Nat → Int32) : ll_P L xs 125 36 = some (.inl (lo_iload 37 1)) := (P_125 L xs 36).trans rfl
theorem p_125_37 (L : Nat) (xs : Nat → Int32) : ll_P L xs 125 37 = some (.inl (lo_iload 38 2)) := (P_125 L xs 37).trans rfl
theorem p_125_38 (L : Nat) (xs : Nat → Int32) : ll_P L xs 125 38 = some (.inl (lo_iload 39 3)) := (P_125 L xs 38).trans rfl
theorem p_125_39 (L : Nat) (xs : Nat → Int32) : ll_P L xs 125 39 = some (.inr (.inl (104, 6, 42))) := (P_125 L xs 39).trans rfl
theorem p_125_42 (L : Nat) (xs : Nat → Int32) : ll_P L xs 125 42 = some (.inr (.inr 1)) := (P_125 L xs 42).trans rfl
theorem b_125_0 {Y : sY} {d : Nat} {s : sT} {K : Option Int32 → sT → Prop} {r0 : Nat} {x1 : Int32} {x2 : Int32} {x3 : Int32} (h : tT Y d 140 0 [.int x1, .int x2] [] s (fun r s1 => tT Y (d + 1) 125 5 [.ref r0, .int x1, .int x2, .int x3] ((r.map Value.int).toList ++ []) s1 K)) : tT Y (d + 1) 125 0 [.ref r0, .int x1, .int x2, .int x3] [] s K :=
  (tt_iload (p_125_0 _ _) rfl).mpr ((tt_iload (p_125_1 _ _) rfl).mpr (t2_calls (z := 140) (k := 2) (as := [.int x1, .int x2]) (rest := []) (p_125_2 _ _) mK_140 mL_140 rfl rfl (Nat.le_of_ble_eq_true rfl) rfl (Nat.le_of_ble_eq_true rfl) h))
theorem b_125_5 {Y : sY} {d : Nat} {s : sT} {K : Option Int32 → sT → Prop} {r0 : Nat} {x1 : Int32} {x2 : Int32} {x3 : Int32} {t0 : Int32} (h : (if t0 = 0 then K (some (-1 : Int32)) s else (if 0 ≤ x3 then (∃ a3, (isO Y r0 10 ∧ s.2 r0 4 = some a3) ∧ (∃ a5, (isO Y r0 10 ∧ s.2 r0 8 = some a5) ∧ (∃ a7, (isO Y a5 3 ∧ s.2 a5 1 = some a7) ∧ (∃ c11 m9 a10, (isQ Y a7 c11 m9 ∧ inR (0 : Int32) m9 ∧ s.2 a7 ((0 : Int32)).toNatClampNeg = some a10) ∧ (∃ a13, (isO Y r0 10 ∧ s.2 r0 8 = some a13) ∧ (∃ a15, (isO Y a13 3 ∧ s.2 a13 1 = some a15) ∧ (∃ c19 m17 a18, (isQ Y a15 c19 m17 ∧ inR (1 : Int32) m17 ∧ s.2 a15 ((1 : Int32)).toNatClampNeg = some a18) ∧ (isO Y a3 9 ∧ tT Y d 104 0 [.ref a3, .ref a10, .ref a18, .int x1, .int x2, .int x3, .null, .null, .null, .null, .null, .null, .null] [] s (fun r s1 => tT Y (d + 1) 125 42 [.ref r0, .int x1, .int x2, .int x3] ((r.map Value.int).toList ++ []) s1 K))))))))) else K (some (-1 : Int32)) s))) : tT Y (d + 1) 125 5 [.ref r0, .int x1, .int x2, .int x3] [.int t0] s K :=
  t3_if (p := t0 = 0) (p_125_5 _ _) rfl (fun g1 => (tt_push (p_125_12 _ _)).mpr (tt_ret1 (p_125_13 _ _) (ifp h g1))) (fun g1 => (tt_iload (p_125_8 _ _) rfl).mpr (t3_if (p := 0 ≤ x3) (p_125_9 _ _) rfl (fun g2 => (tt_aload (p_125_14 _ _) rfl).mpr (Exists.elim (ifp (ifn h g1) g2) (fun a3 h4 => t3_getr (p_125_15 _ _) (isI_10_4) h4.1.1 h4.1.2 ((tt_aload (p_125_18 _ _) rfl).mpr (Exists.elim h4.2 (fun a5 h6 => t3_getr (p_125_19 _ _) (isI_10_8) h6.1.1 h6.1.2 (Exists.elim h6.2 (fun a7 h8 => t3_getr (p_125_22 _ _) (isI_3_1) h8.1.1 h8.1.2 ((tt_push (p_125_25 _ _)).mpr (Exists.elim h8.2 (fun c11 h12q0 => Exists.elim h12q0 (fun m9 h12q1 => Exists.elim h12q1 (fun a10 h12 => t3_aald (p_125_26 _ _) h12.1.1 h12.1.2.1 h12.1.2.2 ((tt_aload (p_125_27 _ _) rfl).mpr (Exists.elim h12.2 (fun a13 h14 => t3_getr (p_125_28 _ _) (isI_10_8) h14.1.1 h14.1.2 (Exists.elim h14.2 (fun a15 h16 => t3_getr (p_125_31 _ _) (isI_3_1) h16.1.1 h16.1.2 ((tt_push (p_125_34 _ _)).mpr (Exists.elim h16.2 (fun c19 h20q0 => Exists.elim h20q0 (fun m17 h20q1 => Exists.elim h20q1 (fun a18 h20 => t3_aald (p_125_35 _ _) h20.1.1 h20.1.2.1 h20.1.2.2 ((tt_iload (p_125_36 _ _) rfl).mpr ((tt_iload (p_125_37 _ _) rfl).mpr ((tt_iload (p_125_38 _ _) rfl).mpr (t2_callv (z := 104) (k := 6) (i := a3) (as := [.ref a10, .ref a18, .int x1, .int x2, .int x3]) (rest := []) (p_125_39 _ _) mK_104 mL_104 rfl rfl (Nat.le_of_ble_eq_true rfl) rfl (Nat.le_of_ble_eq_true rfl) h20.2.1 h20.2.2))))))))))))))))))))))))))) (fun g2 => (tt_push (p_125_12 _ _)).mpr (tt_ret1 (p_125_13 _ _) (ifn (ifn h g1) g2)))))
theorem b_125_42 {Y : sY} {d : Nat} {s : sT} {K : Option Int32 → sT → Prop} {r0 : Nat} {x1 : Int32} {x2 : Int32} {x3 : Int32} {t0 : Int32} (h : K (some t0) s) : tT Y (d + 1) 125 42 [.ref r0, .int x1, .int x2, .int x3] [.int t0] s K :=
  tt_ret1 (p_125_42 _ _) h
/-! InclusionProver.prove.()I -/
theorem p_126_0 (L : Nat) (xs : Nat → Int32) : ll_P L xs 126 0 = some (.inl (lo_aload 1 0)) := (P_126 L xs 0).trans rfl
theorem p_126_1 (L : Nat) (xs : Nat → Int32) : ll_P L xs 126 1 = some (.inl (lo_getf 4 10 2)) := (P_126 L xs 1).trans rfl
theorem p_126_4 (L : Nat) (xs : Nat → Int32) : ll_P L xs 126 4 = some (.inl (lo_aload 5 0)) := (P_126 L xs 4).trans rfl
theorem p_126_5 (L : Nat) (xs : Nat → Int32) : ll_P L xs 126 5 = some (.inl (lo_getf 8 10 8)) := (P_126 L xs 5).trans rfl
theorem p_126_8 (L : Nat) (xs : Nat → Int32) : ll_P L xs 126 8 = some (.inl (lo_getf 11 3 1)) := (P_126 L xs 8).trans rfl
theorem p_126_11 (L : Nat) (xs : Nat → Int32) : ll_P L xs 126 11 = some (.inl (lo_push 12 (.int 0))) := (P_126 L xs 11).trans rfl
theorem p_126_12 (L : Nat) (xs : Nat → Int32) : ll_P L xs 126 12 = some (.inl (lo_aald 13)) := (P_126 L xs 12).trans rfl
theorem p_126_13 (L : Nat) (xs : Nat → Int32) : ll_P L xs 126 13 = some (.inl (lo_aload 14 0)) := (P_126 L xs 13).trans rfl
theorem p_126_14 (L : Nat) (xs : Nat → Int32) : ll_P L xs 126 14 = some (.inl (lo_getf 17 10 8)) := (P_126 L xs 14).trans rfl
theorem p_126_17 (L : Nat) (xs : Nat → Int32) : ll_P L xs 126 17 = some (.inl (lo_getf 20 3 1)) := (P_126 L xs 17).trans rfl
theorem p_126_20 (L : Nat) (xs : Nat → Int32) : ll_P L xs 126 20 = some (.inl (lo_push 21 (.int 1))) := (P_126 L xs 20).trans rfl
theorem p_126_21 (L : Nat) (xs : Nat → Int32) : ll_P L xs 126 21 = some (.inl (lo_aald 22)) := (P_126 L xs 21).trans rfl
theorem p_126_22 (L : Nat) (xs : Nat → Int32) : ll_P L xs 126 22 = some (.inl (lo_aload 23 0)) := (P_126 L xs 22).trans rfl
theorem p_126_23 (L : Nat) (xs : Nat → Int32) : ll_P L xs 126 23 = some (.inl (lo_getf 26 10 8)) := (P_126 L xs 23).trans rfl
theorem p_126_26 (L : Nat) (xs : Nat → Int32) : ll_P L xs 126 26 = some (.inl (lo_getf 29 3 3)) := (P_126 L xs 26).trans rfl
theorem p_126_29 (L : Nat) (xs : Nat → Int32) : ll_P L xs 126 29 = some (.inr (.inl (32, 4, 32))) := (P_126 L xs 29).trans rfl
theorem p_126_32 (L : Nat) (xs : Nat → Int32) : ll_P L xs 126 32 = some (.inr (.inr 1)) := (P_126 L xs 32).trans rfl
theorem b_126_0 {Y : sY} {d : Nat} {s : sT} {K : Option Int32 → sT → Prop} {r0 : Nat} (h : (∃ a1, (isO Y r0 10 ∧ s.2 r0 2 = some a1) ∧ (∃ a3, (isO Y r0 10 ∧ s.2 r0 8 = some a3) ∧ (∃ a5, (isO Y a3 3 ∧ s.2 a3 1 = some a5) ∧ (∃ c9 m7 a8, (isQ Y a5 c9 m7 ∧ inR (0 : Int32) m7 ∧ s.2 a5 ((0 : Int32)).toNatClampNeg = some a8) ∧ (∃ a11, (isO Y r0 10 ∧ s.2 r0 8 = some a11) ∧ (∃ a13, (isO Y a11 3 ∧ s.2 a11 1 = some a13) ∧ (∃ c17 m15 a16, (isQ Y a13 c17 m15 ∧ inR (1 : Int32) m15 ∧ s.2 a13 ((1 : Int32)).toNatClampNeg = some a16) ∧ (∃ a19, (isO Y r0 10 ∧ s.2 r0 8 = some a19) ∧ (∃ a21, (isO Y a19 3 ∧ s.2 a19 3 = some a21) ∧ (isO Y a1 4 ∧ tT Y d 32 0 [.ref a1, .ref a8, .ref a16, .ref a21, .null, .null] [] s (fun r s1 => tT Y (d + 1) 126 32 [.ref r0] ((r.map Value.int).toList ++ []) s1 K)))))))))))) : tT Y (d + 1) 126 0 [.ref r0] [] s K :=
  (tt_aload (p_126_0 _ _) rfl).mpr (Exists.elim h (fun a1 h2 => t3_getr (p_126_1 _ _) (isI_10_2) h2.1.1 h2.1.2 ((tt_aload (p_126_4 _ _) rfl).mpr (Exists.elim h2.2 (fun a3 h4 => t3_getr (p_126_5 _ _) (isI_10_8) h4.1.1 h4.1.2 (Exists.elim h4.2 (fun a5 h6 => t3_getr (p_126_8 _ _) (isI_3_1) h6.1.1 h6.1.2 ((tt_push (p_126_11 _ _)).mpr (Exists.elim h6.2 (fun c9 h10q0 => Exists.elim h10q0 (fun m7 h10q1 => Exists.elim h10q1 (fun a8 h10 => t3_aald (p_126_12 _ _) h10.1.1 h10.1.2.1 h10.1.2.2 ((tt_aload (p_126_13 _ _) rfl).mpr (Exists.elim h10.2 (fun a11 h12 => t3_getr (p_126_14 _ _) (isI_10_8) h12.1.1 h12.1.2 (Exists.elim h12.2 (fun a13 h14 => t3_getr (p_126_17 _ _) (isI_3_1) h14.1.1 h14.1.2 ((tt_push (p_126_20 _ _)).mpr (Exists.elim h14.2 (fun c17 h18q0 => Exists.elim h18q0 (fun m15 h18q1 => Exists.elim h18q1 (fun a16 h18 => t3_aald (p_126_21 _ _) h18.1.1 h18.1.2.1 h18.1.2.2 ((tt_aload (p_126_22 _ _) rfl).mpr (Exists.elim h18.2 (fun a19 h20 => t3_getr (p_126_23 _ _) (isI_10_8) h20.1.1 h20.1.2 (Exists.elim h20.2 (fun a21 h22 => t3_getr (p_126_26 _ _) (isI_3_3) h22.1.1 h22.1.2 (t2_callv (z := 32) (k := 4) (i := a1) (as := [.ref a8, .ref a16, .ref a21]) (rest := []) (p_126_29 _ _) mK_32 mL_32 rfl rfl (Nat.le_of_ble_eq_true rfl) rfl (Nat.le_of_ble_eq_true rfl) h22.2.1 h22.2.2))))))))))))))))))))))))))))
theorem b_126_32 {Y : sY} {d : Nat} {s : sT} {K : Option Int32 → sT → Prop} {r0 : Nat} {t0 : Int32} (h : K (some t0) s) : tT Y (d + 1) 126 32 [.ref r0] [.int t0] s K :=
  tt_ret1 (p_126_32 _ _) h
/-! InclusionProver.apart.(I)I -/
theorem p_127_0 (L : Nat) (xs : Nat → Int32) : ll_P L xs 127 0 = some (.inl (lo_aload 1 0)) := (P_127 L xs 0).trans rfl
theorem p_127_1 (L : Nat) (xs : Nat → Int32) : ll_P L xs 127 1 = some (.inl (lo_getf 4 10 8)) := (P_127 L xs 1).trans rfl
theorem p_127_4 (L : Nat) (xs : Nat → Int32) : ll_P L xs 127 4 = some (.inl (lo_getf 7 3 3)) := (P_127 L xs 4).trans rfl
theorem p_127_7 (L : Nat) (xs : Nat → Int32) : ll_P L xs 127 7 = some (.inl (lo_astore 8 2)) := (P_127 L xs 7).trans rfl
theorem p_127_8 (L : Nat) (xs : Nat → Int32) : ll_P L xs 127 8 = some (.inl (lo_aload 9 2)) := (P_127 L xs 8).trans rfl
theorem p_127_9 (L : Nat) (xs : Nat → Int32) : ll_P L xs 127 9 = some (.inl (lo_getf 12 1 11)) := (P_127 L xs 9).trans rfl
theorem p_127_12 (L : Nat) (xs : Nat → Int32) : ll_P L xs 127 12 = some (.inl (lo_if 19 15 (fun x => decide (x = 0)))) := (P_127 L xs 12).trans rfl
theorem p_127_15 (L : Nat) (xs : Nat → Int32) : ll_P L xs 127 15 = some (.inl (lo_iload 16 1)) := (P_127 L xs 15).trans rfl
theorem p_127_16 (L : Nat) (xs : Nat → Int32) : ll_P L xs 127 16 = some (.inl (lo_if 21 19 (fun x => decide (0 ≤ x)))) := (P_127 L xs 16).trans rfl
theorem p_127_19 (L : Nat) (xs : Nat → Int32) : ll_P L xs 127 19 = some (.inl (lo_push 20 (.int (-1)))) := (P_127 L xs 19).trans rfl
theorem p_127_20 (L : Nat) (xs : Nat → Int32) : ll_P L xs 127 20 = some (.inr (.inr 1)) := (P_127 L xs 20).trans rfl
theorem p_127_21 (L : Nat) (xs : Nat → Int32) : ll_P L xs 127 21 = some (.inl (lo_iload 22 1)) := (P_127 L xs 21).trans rfl
theorem p_127_22 (L : Nat) (xs : Nat → Int32) : ll_P L xs 127 22 = some (.inl (lo_if 35 25 (fun x => decide (¬ x = 0)))) := (P_127 L xs 22).trans rfl
theorem p_127_25 (L : Nat) (xs : Nat → Int32) : ll_P L xs 127 25 = some (.inl (lo_aload 26 2)) := (P_127 L xs 25).trans rfl
theorem p_127_26 (L : Nat) (xs : Nat → Int32) : ll_P L xs 127 26 = some (.inl (lo_getf 29 1 6)) := (P_127 L xs 26).trans rfl
theorem p_127_29 (L : Nat) (xs : Nat → Int32) : ll_P L xs 127 29 = some (.inl (lo_getf 32 7 1)) := (P_127 L xs 29).trans rfl
theorem p_127_32 (L : Nat) (xs : Nat → Int32) : ll_P L xs 127 32 = some (.inl (lo_goto 45)) := (P_127 L xs 32).trans rfl
theorem p_127_35 (L : Nat) (xs : Nat → Int32) : ll_P L xs 127 35 = some (.inl (lo_aload 36 2)) := (P_127 L xs 35).trans rfl
theorem p_127_36 (L : Nat) (xs : Nat → Int32) : ll_P L xs 127 36 = some (.inl (lo_getf 39 1 6)) := (P_127 L xs 36).trans rfl
theorem p_127_39 (L : Nat) (xs : Nat → Int32) : ll_P L xs 127 39 = some (.inl (lo_iload 40 1)) := (P_127 L xs 39).trans rfl
theorem p_127_40 (L : Nat) (xs : Nat → Int32) : ll_P L xs 127 40 = some (.inl (lo_push 41 (.int 1))) := (P_127 L xs 40).trans rfl
theorem p_127_41 (L : Nat) (xs : Nat → Int32) : ll_P L xs 127 41 = some (.inl (lo_bin 42 (fun x y => x - y))) := (P_127 L xs 41).trans rfl
theorem p_127_42 (L : Nat) (xs : Nat → Int32) : ll_P L xs 127 42 = some (.inr (.inl (77, 2, 45))) := (P_127 L xs 42).trans rfl
theorem p_127_45 (L : Nat) (xs : Nat → Int32) : ll_P L xs 127 45 = some (.inr (.inr 1)) := (P_127 L xs 45).trans rfl
theorem b_127_0 {Y : sY} {d : Nat} {s : sT} {K : Option Int32 → sT → Prop} {r0 : Nat} {x1 : Int32} (h : (∃ a1, (isO Y r0 10 ∧ s.2 r0 8 = some a1) ∧ (∃ a3, (isO Y a1 3 ∧ s.2 a1 3 = some a3) ∧ (isO Y a3 1 ∧ (if (s.1 a3 11) = 0 then K (some (-1 : Int32)) s else (if 0 ≤ x1 then (if ¬ x1 = 0 then (∃ a8, (isO Y a3 1 ∧ s.2 a3 6 = some a8) ∧ (isO Y a8 7 ∧ tT Y d 77 0 [.ref a8, .int (x1 - (1 : Int32))] [] s (fun r s1 => tT Y (d + 1) 127 45 [.ref r0, .int x1, .ref a3] ((r.map Value.int).toList ++ []) s1 K))) else (∃ a10, (isO Y a3 1 ∧ s.2 a3 6 = some a10) ∧ (isO Y a10 7 ∧ tT Y (d + 1) 127 45 [.ref r0, .int x1, .ref a3] [.int (s.1 a10 1)] s K))) else K (some (-1 : Int32)) s)))))) : tT Y (d + 1) 127 0 [.ref r0, .int x1, .null] [] s K :=
  (tt_aload (p_127_0 _ _) rfl).mpr (Exists.elim h (fun a1 h2 => t3_getr (p_127_1 _ _) (isI_10_8) h2.1.1 h2.1.2 (Exists.elim h2.2 (fun a3 h4 => t3_getr (p_127_4 _ _) (isI_3_3) h4.1.1 h4.1.2 ((tt_astore (p_127_7 _ _) (Nat.le_of_ble_eq_true rfl) rfl rfl).mpr ((tt_aload (p_127_8 _ _) rfl).mpr (t3_geti (p_127_9 _ _) (isI_1_11) h4.2.1 (t3_if (p := (s.1 a3 11) = 0) (p_127_12 _ _) rfl (fun g5 => (tt_push (p_127_19 _ _)).mpr (tt_ret1 (p_127_20 _ _) (ifp h4.2.2 g5))) (fun g5 => (tt_iload (p_127_15 _ _) rfl).mpr (t3_if (p := 0 ≤ x1) (p_127_16 _ _) rfl (fun g6 => (tt_iload (p_127_21 _ _) rfl).mpr (t3_if (p := ¬ x1 = 0) (p_127_22 _ _) rfl (fun g7 => (tt_aload (p_127_35 _ _) rfl).mpr (Exists.elim (ifp (ifp (ifn h4.2.2 g5) g6) g7) (fun a8 h9 => t3_getr (p_127_36 _ _) (isI_1_6) h9.1.1 h9.1.2 ((tt_iload (p_127_39 _ _) rfl).mpr ((tt_push (p_127_40 _ _)).mpr ((tt_bin (p_127_41 _ _)).mpr (t2_callv (z := 77) (k := 2) (i := a8) (as := [.int (x1 - (1 : Int32))]) (rest := []) (p_127_42 _ _) mK_77 mL_77 rfl rfl (Nat.le_of_ble_eq_true rfl) rfl (Nat.le_of_ble_eq_true rfl) h9.2.1 h9.2.2))))))) (fun g7 => (tt_aload (p_127_25 _ _) rfl).mpr (Exists.elim (ifn (ifp (ifn h4.2.2 g5) g6) g7) (fun a10 h11 => t3_getr (p_127_26 _ _) (isI_1_6) h11.1.1 h11.1.2 (t3_geti (p_127_29 _ _) (isI_7_1) h11.2.1 ((tt_goto (p_127_32 _ _)).mpr (h11.2.2)))))))) (fun g6 => (tt_push (p_127_19 _ _)).mpr (tt_ret1 (p_127_20 _ _) (ifn (ifn h4.2.2 g5) g6)))))))))))))
theorem b_127_45 {Y : sY} {d : Nat} {s : sT} {K : Option Int32 → sT → Prop} {r0 : Nat} {x1 : Int32} {r2 : Nat} {t0 : Int32} (h : K (some t0) s) : tT Y (d + 1) 127 45 [.ref r0, .int x1, .ref r2] [.int t0] s K :=
  tt_ret1 (p_127_45 _ _) h
/-! InclusionProver.count.(I)I -/
theorem p_128_0 (L : Nat) (xs : Nat → Int32) : ll_P L xs 128 0 = some (.inl (lo_aload 1 0)) := (P_128 L xs 0).trans rfl
theorem p_128_1 (L : Nat) (xs : Nat → Int32) : ll_P L xs 128 1 = some (.inl (lo_getf 4 10 8)) := (P_128 L xs 1).trans rfl
theorem p_128_4 (L : Nat) (xs : Nat → Int32) : ll_P L xs 128 4 = some (.inl (lo_getf 7 3 3)) := (P_128 L xs 4).trans rfl
theorem p_128_7 (L : Nat) (xs : Nat → Int32) : ll_P L xs 128 7 = some (.inl (lo_astore 8 2)) := (P_128 L xs 7).trans rfl
theorem p_128_8 (L : Nat) (xs : Nat → Int32) : ll_P L xs 128 8 = some (.inl (lo_iload 9 1)) := (P_128 L xs 8).trans rfl
theorem p_128_9 (L : Nat) (xs : Nat → Int32) : ll_P L xs 128 9 = some (.inl (lo_tab 0 [52, 57, 63, 69, 74, 79, 84] 95)) := (P_128 L xs 9).trans rfl
theorem p_128_52 (L : Nat) (xs : Nat → Int32) : ll_P L xs 128 52 = some (.inl (lo_aload 53 2)) := (P_128 L xs 52).trans rfl
theorem p_128_53 (L : Nat) (xs : Nat → Int32) : ll_P L xs 128 53 = some (.inl (lo_getf 56 1 8)) := (P_128 L xs 53).trans rfl
theorem p_128_56 (L : Nat) (xs : Nat → Int32) : ll_P L xs 128 56 = some (.inr (.inr 1)) := (P_128 L xs 56).trans rfl
theorem p_128_57 (L : Nat) (xs : Nat → Int32) : ll_P L xs 128 57 = some (.inl (lo_aload 58 2)) := (P_128 L xs 57).trans rfl
theorem p_128_58 (L : Nat) (xs : Nat → Int32) : ll_P L xs 128 58 = some (.inl (lo_push 59 (.int 0))) := (P_128 L xs 58).trans rfl
theorem p_128_59 (L : Nat) (xs : Nat → Int32) : ll_P L xs 128 59 = some (.inr (.inl (18, 2, 62))) := (P_128 L xs 59).trans rfl
theorem p_128_62 (L : Nat) (xs : Nat → Int32) : ll_P L xs 128 62 = some (.inr (.inr 1)) := (P_128 L xs 62).trans rfl
theorem p_128_63 (L : Nat) (xs : Nat → Int32) : ll_P L xs 128 63 = some (.inl (lo_aload 64 2)) := (P_128 L xs 63).trans rfl
theorem p_128_64 (L : Nat) (xs : Nat → Int32) : ll_P L xs 128 64 = some (.inl (lo_push 65 (.int 1))) := (P_128 L xs 64).trans rfl
theorem p_128_65 (L : Nat) (xs : Nat → Int32) : ll_P L xs 128 65 = some (.inr (.inl (18, 2, 68))) := (P_128 L xs 65).trans rfl
theorem p_128_68 (L : Nat) (xs : Nat → Int32) : ll_P L xs 128 68 = some (.inr (.inr 1)) := (P_128 L xs 68).trans rfl
theorem p_128_69 (L : Nat) (xs : Nat → Int32) : ll_P L xs 128 69 = some (.inl (lo_aload 70 2)) := (P_128 L xs 69).trans rfl
theorem p_128_70 (L : Nat) (xs : Nat → Int32) : ll_P L xs 128 70 = some (.inl (lo_getf 73 1 9)) := (P_128 L xs 70).trans rfl
theorem p_128_73 (L : Nat) (xs : Nat → Int32) : ll_P L xs 128 73 = some (.inr (.inr 1)) := (P_128 L xs 73).trans rfl
theorem p_128_74 (L : Nat) (xs : Nat → Int32) : ll_P L xs 128 74 = some (.inl (lo_aload 75 2)) := (P_128 L xs 74).trans rfl
theorem p_128_75 (L : Nat) (xs : Nat → Int32) : ll_P L xs 128 75 = some (.inl (lo_getf 78 1 10)) := (P_128 L xs 75).trans rfl
theorem p_128_78 (L : Nat) (xs : Nat → Int32) : ll_P L xs 128 78 = some (.inr (.inr 1)) := (P_128 L xs 78).trans rfl
theorem p_128_79 (L : Nat) (xs : Nat → Int32) : ll_P L xs 128 79 = some (.inl (lo_aload 80 2)) := (P_128 L xs 79).trans rfl
theorem p_128_80 (L : Nat) (xs : Nat → Int32) : ll_P L xs 128 80 = some (.inr (.inl (19, 1, 83))) := (P_128 L xs 80).trans rfl
theorem p_128_83 (L : Nat) (xs : Nat → Int32) : ll_P L xs 128 83 = some (.inr (.inr 1)) := (P_128 L xs 83).trans rfl
theorem p_128_84 (L : Nat) (xs : Nat → Int32) : ll_P L xs 128 84 = some (.inl (lo_aload 85 0)) := (P_128 L xs 84).trans rfl
theorem p_128_85 (L : Nat) (xs : Nat → Int32) : ll_P L xs 128 85 = some (.inl (lo_getf 88 10 8)) := (P_128 L xs 85).trans rfl
theorem p_128_88 (L : Nat) (xs : Nat → Int32) : ll_P L xs 128 88 = some (.inl (lo_getf 91 3 0)) := (P_128 L xs 88).trans rfl
theorem p_128_91 (L : Nat) (xs : Nat → Int32) : ll_P L xs 128 91 = some (.inl (lo_getf 94 7 1)) := (P_128 L xs 91).trans rfl
theorem p_128_94 (L : Nat) (xs : Nat → Int32) : ll_P L xs 128 94 = some (.inr (.inr 1)) := (P_128 L xs 94).trans rfl
theorem p_128_95 (L : Nat) (xs : Nat → Int32) : ll_P L xs 128 95 = some (.inl (lo_push 96 (.int (-1)))) := (P_128 L xs 95).trans rfl
theorem p_128_96 (L : Nat) (xs : Nat → Int32) : ll_P L xs 128 96 = some (.inr (.inr 1)) := (P_128 L xs 96).trans rfl
theorem b_128_0 {Y : sY} {d : Nat} {s : sT} {K : Option Int32 → sT → Prop} {r0 : Nat} {x1 : Int32} (h : (∃ a1, (isO Y r0 10 ∧ s.2 r0 8 = some a1) ∧ (∃ a3, (isO Y a1 3 ∧ s.2 a1 3 = some a3) ∧ ((x1 = 0 → (isO Y a3 1 ∧ K (some (s.1 a3 8)) s)) ∧ (x1 = 1 → (isO Y a3 1 ∧ tT Y d 18 0 [.ref a3, .int (0 : Int32), .null, .null] [] s (fun r s1 => tT Y (d + 1) 128 62 [.ref r0, .int x1, .ref a3] ((r.map Value.int).toList ++ []) s1 K))) ∧ (x1 = 2 → (isO Y a3 1 ∧ tT Y d 18 0 [.ref a3, .int (1 : Int32), .null, .null] [] s (fun r s1 => tT Y (d + 1) 128 68 [.ref r0, .int x1, .ref a3] ((r.map Value.int).toList ++ []) s1 K))) ∧ (x1 = 3 → (isO Y a3 1 ∧ K (some (s.1 a3 9)) s)) ∧ (x1 = 4 → (isO Y a3 1 ∧ K (some (s.1 a3 10)) s)) ∧ (x1 = 5 → (isO Y a3 1 ∧ tT Y d 19 0 [.ref a3, .null, .null] [] s (fun r s1 => tT Y (d + 1) 128 83 [.ref r0, .int x1, .ref a3] ((r.map Value.int).toList ++ []) s1 K))) ∧ (x1 = 6 → (∃ a12, (isO Y r0 10 ∧ s.2 r0 8 = some a12) ∧ (∃ a14, (isO Y a12 3 ∧ s.2 a12 0 = some a14) ∧ (isO Y a14 7 ∧ K (some (s.1 a14 1)) s)))) ∧ (¬ x1 = 0 ∧ ¬ x1 = 1 ∧ ¬ x1 = 2 ∧ ¬ x1 = 3 ∧ ¬ x1 = 4 ∧ ¬ x1 = 5 ∧ ¬ x1 = 6 → K (some (-1 : Int32)) s))))) : tT Y (d + 1) 128 0 [.ref r0, .int x1, .null] [] s K :=
  (tt_aload (p_128_0 _ _) rfl).mpr (Exists.elim h (fun a1 h2 => t3_getr (p_128_1 _ _) (isI_10_8) h2.1.1 h2.1.2 (Exists.elim h2.2 (fun a3 h4 => t3_getr (p_128_4 _ _) (isI_3_3) h4.1.1 h4.1.2 ((tt_astore (p_128_7 _ _) (Nat.le_of_ble_eq_true rfl) rfl rfl).mpr ((tt_iload (p_128_8 _ _) rfl).mpr (Decidable.byCases (p := x1 = 0) (fun g5 => t3_tab (t := 52) (p_128_9 _ _) (by rw [g5]; rfl) ((tt_aload (p_128_52 _ _) rfl).mpr (t3_geti (p_128_53 _ _) (isI_1_8) (h4.2.1 g5).1 (tt_ret1 (p_128_56 _ _) (h4.2.1 g5).2)))) (fun g5n => Decidable.byCases (p := x1 = 1) (fun g6 => t3_tab (t := 57) (p_128_9 _ _) (by rw [g6]; rfl) ((tt_aload (p_128_57 _ _) rfl).mpr ((tt_push (p_128_58 _ _)).mpr (t2_callv (z := 18) (k := 2) (i := a3) (as := [.int (0 : Int32)]) (rest := []) (p_128_59 _ _) mK_18 mL_18 rfl rfl (Nat.le_of_ble_eq_true rfl) rfl (Nat.le_of_ble_eq_true rfl) (h4.2.2.1 g6).1 (h4.2.2.1 g6).2)))) (fun g6n => Decidable.byCases (p := x1 = 2) (fun g7 => t3_tab (t := 63) (p_128_9 _ _) (by rw [g7]; rfl) ((tt_aload (p_128_63 _ _) rfl).mpr ((tt_push (p_128_64 _ _)).mpr (t2_callv (z := 18) (k := 2) (i := a3) (as := [.int (1 : Int32)]) (rest := []) (p_128_65 _ _) mK_18 mL_18 rfl rfl (Nat.le_of_ble_eq_true rfl) rfl (Nat.le_of_ble_eq_true rfl) (h4.2.2.2.1 g7).1 (h4.2.2.2.1 g7).2)))) (fun g7n => Decidable.byCases (p := x1 = 3) (fun g8 => t3_tab (t := 69) (p_128_9 _ _) (by rw [g8]; rfl) ((tt_aload (p_128_69 _ _) rfl).mpr (t3_geti (p_128_70 _ _) (isI_1_9) (h4.2.2.2.2.1 g8).1 (tt_ret1 (p_128_73 _ _) (h4.2.2.2.2.1 g8).2)))) (fun g8n => Decidable.byCases (p := x1 = 4) (fun g9 => t3_tab (t := 74) (p_128_9 _ _) (by rw [g9]; rfl) ((tt_aload (p_128_74 _ _) rfl).mpr (t3_geti (p_128_75 _ _) (isI_1_10) (h4.2.2.2.2.2.1 g9).1 (tt_ret1 (p_128_78 _ _) (h4.2.2.2.2.2.1 g9).2)))) (fun g9n => Decidable.byCases (p := x1 = 5) (fun g10 => t3_tab (t := 79) (p_128_9 _ _) (by rw [g10]; rfl) ((tt_aload (p_128_79 _ _) rfl).mpr (t2_callv (z := 19) (k := 1) (i := a3) (as := []) (rest := []) (p_128_80 _ _) mK_19 mL_19 rfl rfl (Nat.le_of_ble_eq_true rfl) rfl (Nat.le_of_ble_eq_true rfl) (h4.2.2.2.2.2.2.1 g10).1 (h4.2.2.2.2.2.2.1 g10).2))) (fun g10n => Decidable.byCases (p := x1 = 6) (fun g11 => t3_tab (t := 84) (p_128_9 _ _) (by rw [g11]; rfl) ((tt_aload (p_128_84 _ _) rfl).mpr (Exists.elim (h4.2.2.2.2.2.2.2.1 g11) (fun a12 h13 => t3_getr (p_128_85 _ _) (isI_10_8) h13.1.1 h13.1.2 (Exists.elim h13.2 (fun a14 h15 => t3_getr (p_128_88 _ _) (isI_3_0) h15.1.1 h15.1.2 (t3_geti (p_128_91 _ _) (isI_7_1) h15.2.1 (tt_ret1 (p_128_94 _ _) h15.2.2)))))))) (fun g11n => t3_tab (t := 95) (p_128_9 _ _) (t3_tabd (fun k hk => t3_tabk (lo := 0) (n := 7) (fun j (hj : j < 7) => by rcases (show j = 0 ∨ j = 1 ∨ j = 2 ∨ j = 3 ∨ j = 4 ∨ j = 5 ∨ j = 6 by omega) with rfl | rfl | rfl | rfl | rfl | rfl | rfl <;> assumption) k hk)) ((tt_push (p_128_95 _ _)).mpr (tt_ret1 (p_128_96 _ _) (h4.2.2.2.2.2.2.2.2 ⟨g5n, g6n, g7n, g8n, g9n, g10n, g11n⟩)))))))))))))))))
theorem b_128_62 {Y : sY} {d : Nat} {s : sT} {K : Option Int32 → sT → Prop} {r0 : Nat} {x1 : Int32} {r2 : Nat} {t0 : Int32} (h : K (some t0) s) : tT Y (d + 1) 128 62 [.ref r0, .int x1, .ref r2] [.int t0] s K :=
  tt_ret1 (p_128_62 _ _) h
theorem b_128_68 {Y : sY} {d : Nat} {s : sT} {K : Option Int32 → sT → Prop} {r0 : Nat} {x1 : Int32} {r2 : Nat} {t0 : Int32} (h : K (some t0) s) : tT Y (d + 1) 128 68 [.ref r0, .int x1, .ref r2] [.int t0] s K :=
  tt_ret1 (p_128_68 _ _) h
theorem b_128_83 {Y : sY} {d : Nat} {s : sT} {K : Option Int32 → sT → Prop} {r0 : Nat} {x1 : Int32} {r2 : Nat} {t0 : Int32} (h : K (some t0) s) : tT Y (d + 1) 128 83 [.ref r0, .int x1, .ref r2] [.int t0] s K :=
  tt_ret1 (p_128_83 _ _) h
/-! InclusionProver.line.(II)I -/
theorem p_129_0 (L : Nat) (xs : Nat → Int32) : ll_P L xs 129 0 = some (.inl (lo_aload 1 0)) := (P_129 L xs 0).trans rfl
theorem p_129_1 (L : Nat) (xs : Nat → Int32) : ll_P L xs 129 1 = some (.inl (lo_getf 4 10 8)) := (P_129 L xs 1).trans rfl
theorem p_129_4 (L : Nat) (xs : Nat → Int32) : ll_P L xs 129 4 = some (.inl (lo_getf 7 3 3)) := (P_129 L xs 4).trans rfl
theorem p_129_7 (L : Nat) (xs : Nat → Int32) : ll_P L xs 129 7 = some (.inl (lo_astore 8 3)) := (P_129 L xs 7).trans rfl
theorem p_129_8 (L : Nat) (xs : Nat → Int32) : ll_P L xs 129 8 = some (.inl (lo_aload 9 3)) := (P_129 L xs 8).trans rfl
theorem p_129_9 (L : Nat) (xs : Nat → Int32) : ll_P L xs 129 9 = some (.inl (lo_iload 10 1)) := (P_129 L xs 9).trans rfl
theorem p_129_10 (L : Nat) (xs : Nat → Int32) : ll_P L xs 129 10 = some (.inr (.inl (10, 2, 13))) := (P_129 L xs 10).trans rfl
theorem p_129_13 (L : Nat) (xs : Nat → Int32) : ll_P L xs 129 13 = some (.inl (lo_if 19 16 (fun x => decide (¬ x = 0)))) := (P_129 L xs 13).trans rfl
theorem p_129_16 (L : Nat) (xs : Nat → Int32) : ll_P L xs 129 16 = some (.inl (lo_push 18 (.int (-2)))) := (P_129 L xs 16).trans rfl
theorem p_129_18 (L : Nat) (xs : Nat → Int32) : ll_P L xs 129 18 = some (.inr (.inr 1)) := (P_129 L xs 18).trans rfl
theorem p_129_19 (L : Nat) (xs : Nat → Int32) : ll_P L xs 129 19 = some (.inl (lo_iload 20 2)) := (P_129 L xs 19).trans rfl
theorem p_129_20 (L : Nat) (xs : Nat → Int32) : ll_P L xs 129 20 = some (.inl (lo_tab 0 [52, 59, 66, 73] 80)) := (P_129 L xs 20).trans rfl
theorem p_129_52 (L : Nat) (xs : Nat → Int32) : ll_P L xs 129 52 = some (.inl (lo_aload 53 3)) := (P_129 L xs 52).trans rfl
theorem p_129_53 (L : Nat) (xs : Nat → Int32) : ll_P L xs 129 53 = some (.inl (lo_getf 56 1 0)) := (P_129 L xs 53).trans rfl
theorem p_129_56 (L : Nat) (xs : Nat → Int32) : ll_P L xs 129 56 = some (.inl (lo_iload 57 1)) := (P_129 L xs 56).trans rfl
theorem p_129_57 (L : Nat) (xs : Nat → Int32) : ll_P L xs 129 57 = some (.inl (lo_ald 58 0)) := (P_129 L xs 57).trans rfl
theorem p_129_58 (L : Nat) (xs : Nat → Int32) : ll_P L xs 129 58 = some (.inr (.inr 1)) := (P_129 L xs 58).trans rfl
theorem p_129_59 (L : Nat) (xs : Nat → Int32) : ll_P L xs 129 59 = some (.inl (lo_aload 60 3)) := (P_129 L xs 59).trans rfl
theorem p_129_60 (L : Nat) (xs : Nat → Int32) : ll_P L xs 129 60 = some (.inl (lo_getf 63 1 1)) := (P_129 L xs 60).trans rfl
theorem p_129_63 (L : Nat) (xs : Nat → Int32) : ll_P L xs 129 63 = some (.inl (lo_iload 64 1)) := (P_129 L xs 63).trans rfl
theorem p_129_64 (L : Nat) (xs : Nat → Int32) : ll_P L xs 129 64 = some (.inl (lo_ald 65 0)) := (P_129 L xs 64).trans rfl
theorem p_129_65 (L : Nat) (xs : Nat → Int32) : ll_P L xs 129 65 = some (.inr (.inr 1)) := (P_129 L xs 65).trans rfl
theorem p_129_66 (L : Nat) (xs : Nat → Int32) : ll_P L xs 129 66 = some (.inl (lo_aload 67 3)) := (P_129 L xs 66).trans rfl
theorem p_129_67 (L : Nat) (xs : Nat → Int32) : ll_P L xs 129 67 = some (.inl (lo_getf 70 1 2)) := (P_129 L xs 67).trans rfl
theorem p_129_70 (L : Nat) (xs : Nat → Int32) : ll_P L xs 129 70 = some (.inl (lo_iload 71 1)) := (P_129 L xs 70).trans rfl
theorem p_129_71 (L : Nat) (xs : Nat → Int32) : ll_P L xs 129 71 = some (.inl (lo_ald 72 0)) := (P_129 L xs 71).trans rfl
theorem p_129_72 (L : Nat) (xs : Nat → Int32) : ll_P L xs 129 72 = some (.inr (.inr 1)) := (P_129 L xs 72).trans rfl
theorem p_129_73 (L : Nat) (xs : Nat → Int32) : ll_P L xs 129 73 = some (.inl (lo_aload 74 3)) := (P_129 L xs 73).trans rfl
theorem p_129_74 (L : Nat) (xs : Nat → Int32) : ll_P L xs 129 74 = some (.inl (lo_getf 77 1 4)) := (P_129 L xs 74).trans rfl
theorem p_129_77 (L : Nat) (xs : Nat → Int32) : ll_P L xs 129 77 = some (.inl (lo_iload 78 1)) := (P_129 L xs 77).trans rfl
theorem p_129_78 (L : Nat) (xs : Nat → Int32) : ll_P L xs 129 78 = some (.inl (lo_ald 79 0)) := (P_129 L xs 78).trans rfl
theorem p_129_79 (L : Nat) (xs : Nat → Int32) : ll_P L xs 129 79 = some (.inr (.inr 1)) := (P_129 L xs 79).trans rfl
theorem p_129_80 (L : Nat) (xs : Nat → Int32) : ll_P L xs 129 80 = some (.inl (lo_aload 81 3)) := (P_129 L xs 80).trans rfl
theorem p_129_81 (L : Nat) (xs : Nat → Int32) : ll_P L xs 129 81 = some (.inl (lo_iload 82 1)) := (P_129 L xs 81).trans rfl
theorem p_129_82 (L : Nat) (xs : Nat → Int32) : ll_P L xs 129 82 = some (.inl (lo_iload 83 2)) := (P_129 L xs 82).trans rfl
theorem p_129_83 (L : Nat) (xs : Nat → Int32) : ll_P L xs 129 83 = some (.inr (.inl (11, 3, 86))) := (P_129 L xs 83).trans rfl
theorem p_129_86 (L : Nat) (xs : Nat → Int32) : ll_P L xs 129 86 = some (.inl (lo_if 101 89 (fun x => decide (x = 0)))) := (P_129 L xs 86).trans rfl
theorem p_129_89 (L : Nat) (xs : Nat → Int32) : ll_P L xs 129 89 = some (.inl (lo_aload 90 3)) := (P_129 L xs 89).trans rfl
theorem p_129_90 (L : Nat) (xs : Nat → Int32) : ll_P L xs 129 90 = some (.inl (lo_iload 91 1)) := (P_129 L xs 90).trans rfl
theorem p_129_91 (L : Nat) (xs : Nat → Int32) : ll_P L xs 129 91 = some (.inl (lo_iload 92 2)) := (P_129 L xs 91).trans rfl
theorem p_129_92 (L : Nat) (xs : Nat → Int32) : ll_P L xs 129 92 = some (.inl (lo_push 94 (.int 10))) := (P_129 L xs 92).trans rfl
theorem p_129_94 (L : Nat) (xs : Nat → Int32) : ll_P L xs 129 94 = some (.inl (lo_bin 95 (fun x y => x - y))) := (P_129 L xs 94).trans rfl
theorem p_129_95 (L : Nat) (xs : Nat → Int32) : ll_P L xs 129 95 = some (.inr (.inl (12, 3, 98))) := (P_129 L xs 95).trans rfl
theorem p_129_98 (L : Nat) (xs : Nat → Int32) : ll_P L xs 129 98 = some (.inl (lo_goto 103)) := (P_129 L xs 98).trans rfl
theorem p_129_101 (L : Nat) (xs : Nat → Int32) : ll_P L xs 129 101 = some (.inl (lo_push 103 (.int (-2)))) := (P_129 L xs 101).trans rfl
theorem p_129_103 (L : Nat) (xs : Nat → Int32) : ll_P L xs 129 103 = some (.inr (.inr 1)) := (P_129 L xs 103).trans rfl
theorem b_129_0 {Y : sY} {d : Nat} {s : sT} {K : Option Int32 → sT → Prop} {r0 : Nat} {x1 : Int32} {x2 : Int32} (h : (∃ a1, (isO Y r0 10 ∧ s.2 r0 8 = some a1) ∧ (∃ a3, (isO Y a1 3 ∧ s.2 a1 3 = some a3) ∧ (isO Y a3 1 ∧ tT Y d 10 0 [.ref a3, .int x1] [] s (fun r s1 => tT Y (d + 1) 129 13 [.ref r0, .int x1, .int x2, .ref a3] ((r.map Value.int).toList ++ []) s1 K))))) : tT Y (d + 1) 129 0 [.ref r0, .int x1, .int x2, .null] [] s K :=
  (tt_aload (p_129_0 _ _) rfl).mpr (Exists.elim h (fun a1 h2 => t3_getr (p_129_1 _ _) (isI_10_8) h2.1.1 h2.1.2 (Exists.elim h2.2 (fun a3 h4 => t3_getr (p_129_4 _ _) (isI_3_3) h4.1.1 h4.1.2 ((tt_astore (p_129_7 _ _) (Nat.le_of_ble_eq_true rfl) rfl rfl).mpr ((tt_aload (p_129_8 _ _) rfl).mpr ((tt_iload (p_129_9 _ _) rfl).mpr (t2_callv (z := 10) (k := 2) (i := a3) (as := [.int x1]) (rest := []) (p_129_10 _ _) mK_10 mL_10 rfl rfl (Nat.le_of_ble_eq_true rfl) rfl (Nat.le_of_ble_eq_true rfl) h4.2.1 h4.2.2))))))))
theorem b_129_13 {Y : sY} {d : Nat} {s : sT} {K : Option Int32 → sT → Prop} {r0 : Nat} {x1 : Int32} {x2 : Int32} {r3 : Nat} {t0 : Int32} (h : (if ¬ t0 = 0 then ((x2 = 0 → (∃ a3, (isO Y r3 1 ∧ s.2 r3 0 = some a3) ∧ (∃ m5, (isA Y a3 0 m5 ∧ inR x1 m5) ∧ K (some (s.1 a3 (x1).toNatClampNeg)) s))) ∧ (x2 = 1 → (∃ a8, (isO Y r3 1 ∧ s.2 r3 1 = some a8) ∧ (∃ m10, (isA Y a8 0 m10 ∧ inR x1 m10) ∧ K (some (s.1 a8 (x1).toNatClampNeg)) s))) ∧ (x2 = 2 → (∃ a13, (isO Y r3 1 ∧ s.2 r3 2 = some a13) ∧ (∃ m15, (isA Y a13 0 m15 ∧ inR x1 m15) ∧ K (some (s.1 a13 (x1).toNatClampNeg)) s))) ∧ (x2 = 3 → (∃ a18, (isO Y r3 1 ∧ s.2 r3 4 = some a18) ∧ (∃ m20, (isA Y a18 0 m20 ∧ inR x1 m20) ∧ K (some (s.1 a18 (x1).toNatClampNeg)) s))) ∧ (¬ x2 = 0 ∧ ¬ x2 = 1 ∧ ¬ x2 = 2 ∧ ¬ x2 = 3 → (isO Y r3 1 ∧ tT Y d 11 0 [.ref r3, .int x1, .int x2] [] s (fun r s1 => tT Y (d + 1) 129 86 [.ref r0, .int x1, .int x2, .ref r3] ((r.map Value.int).toList ++ []) s1 K)))) else K (some (-2 : Int32)) s)) : tT Y (d + 1) 129 13 [.ref r0, .int x1, .int x2, .ref r3] [.int t0] s K :=
  t3_if (p := ¬ t0 = 0) (p_129_13 _ _) rfl (fun g1 => (tt_iload (p_129_19 _ _) rfl).mpr (Decidable.byCases (p := x2 = 0) (fun g2 => t3_tab (t := 52) (p_129_20 _ _) (by rw [g2]; rfl) ((tt_aload (p_129_52 _ _) rfl).mpr (Exists.elim ((ifp h g1).1 g2) (fun a3 h4 => t3_getr (p_129_53 _ _) (isI_1_0) h4.1.1 h4.1.2 ((tt_iload (p_129_56 _ _) rfl).mpr (Exists.elim h4.2 (fun m5 h6 => t3_ald (p_129_57 _ _) h6.1.1 h6.1.2 (tt_ret1 (p_129_58 _ _) h6.2)))))))) (fun g2n => Decidable.byCases (p := x2 = 1) (fun g7 => t3_tab (t := 59) (p_129_20 _ _) (by rw [g7]; rfl) ((tt_aload (p_129_59 _ _) rfl).mpr (Exists.elim ((ifp h g1).2.1 g7) (fun a8 h9 => t3_getr (p_129_60 _ _) (isI_1_1) h9.1.1 h9.1.2 ((tt_iload (p_129_63 _ _) rfl).mpr (Exists.elim h9.2 (fun m10 h11 => t3_ald (p_129_64 _ _) h11.1.1 h11.1.2 (tt_ret1 (p_129_65 _ _) h11.2)))))))) (fun g7n => Decidable.byCases (p := x2 = 2) (fun g12 => t3_tab (t := 66) (p_129_20 _ _) (by rw [g12]; rfl) ((tt_aload (p_129_66 _ _) rfl).mpr (Exists.elim ((ifp h g1).2.2.1 g12) (fun a13 h14 => t3_getr (p_129_67 _ _) (isI_1_2) h14.1.1 h14.1.2 ((tt_iload (p_129_70 _ _) rfl).mpr (Exists.elim h14.2 (fun m15 h16 => t3_ald (p_129_71 _ _) h16.1.1 h16.1.2 (tt_ret1 (p_129_72 _ _) h16.2)))))))) (fun g12n => Decidable.byCases (p := x2 = 3) (fun g17 => t3_tab (t := 73) (p_129_20 _ _) (by rw [g17]; rfl) ((tt_aload (p_129_73 _ _) rfl).mpr (Exists.elim ((ifp h g1).2.2.2.1 g17) (fun a18 h19 => t3_getr (p_129_74 _ _) (isI_1_4) h19.1.1 h19.1.2 ((tt_iload (p_129_77 _ _) rfl).mpr (Exists.elim h19.2 (fun m20 h21 => t3_ald (p_129_78 _ _) h21.1.1 h21.1.2 (tt_ret1 (p_129_79 _ _) h21.2)))))))) (fun g17n => t3_tab (t := 80) (p_129_20 _ _) (t3_tabd (fun k hk => t3_tabk (lo := 0) (n := 4) (fun j (hj : j < 4) => by rcases (show j = 0 ∨ j = 1 ∨ j = 2 ∨ j = 3 by omega) with rfl | rfl | rfl | rfl <;> assumption) k hk)) ((tt_aload (p_129_80 _ _) rfl).mpr ((tt_iload (p_129_81 _ _) rfl).mpr ((tt_iload (p_129_82 _ _) rfl).mpr (t2_callv (z := 11) (k := 3) (i := r3) (as := [.int x1, .int x2]) (rest := []) (p_129_83 _ _) mK_11 mL_11 rfl rfl (Nat.le_of_ble_eq_true rfl) rfl (Nat.le_of_ble_eq_true rfl) ((ifp h g1).2.2.2.2 ⟨g2n, g7n, g12n, g17n⟩).1 ((ifp h g1).2.2.2.2 ⟨g2n, g7n, g12n, g17n⟩).2)))))))))) (fun g1 => (tt_push (p_129_16 _ _)).mpr (tt_ret1 (p_129_18 _ _) (ifn h g1)))
theorem b_129_86 {Y : sY} {d : Nat} {s : sT} {K : Option Int32 → sT → Prop} {r0 : Nat} {x1 : Int32} {x2 : Int32} {r3 : Nat} {t0 : Int32} (h : (if t0 = 0 then K (some (-2 : Int32)) s else (isO Y r3 1 ∧ tT Y d 12 0 [.ref r3, .int x1, .int (x2 - (10 : Int32))] [] s (fun r s1 => tT Y (d + 1) 129 98 [.ref r0, .int x1, .int x2, .ref r3] ((r.map Value.int).toList ++ []) s1 K)))) : tT Y (d + 1) 129 86 [.ref r0, .int x1, .int x2, .ref r3] [.int t0] s K :=
  t3_if (p := t0 = 0) (p_129_86 _ _) rfl (fun g1 => (tt_push (p_129_101 _ _)).mpr (tt_ret1 (p_129_103 _ _) (ifp h g1))) (fun g1 => (tt_aload (p_129_89 _ _) rfl).mpr ((tt_iload (p_129_90 _ _) rfl).mpr ((tt_iload (p_129_91 _ _) rfl).mpr ((tt_push (p_129_92 _ _)).mpr ((tt_bin (p_129_94 _ _)).mpr (t2_callv (z := 12) (k := 3) (i := r3) (as := [.int x1, .int (x2 - (10 : Int32))]) (rest := []) (p_129_95 _ _) mK_12 mL_12 rfl rfl (Nat.le_of_ble_eq_true rfl) rfl (Nat.le_of_ble_eq_true rfl) (ifn h g1).1 (ifn h g1).2))))))
theorem b_129_98 {Y : sY} {d : Nat} {s : sT} {K : Option Int32 → sT → Prop} {r0 : Nat} {x1 : Int32} {x2 : Int32} {r3 : Nat} {t0 : Int32} (h : K (some t0) s) : tT Y (d + 1) 129 98 [.ref r0, .int x1, .int x2, .ref r3] [.int t0] s K :=
  (tt_goto (p_129_98 _ _)).mpr (tt_ret1 (p_129_103 _ _) h)
/-! InclusionProver.alter.(III)I -/
theorem p_130_0 (L : Nat) (xs : Nat → Int32) : ll_P L xs 130 0 = some (.inl (lo_aload 1 0)) := (P_130 L xs 0).trans rfl
theorem p_130_1 (L : Nat) (xs : Nat → Int32) : ll_P L xs 130 1 = some (.inl (lo_getf 4 10 8)) := (P_130 L xs 1).trans rfl
theorem p_130_4 (L : Nat) (xs : Nat → Int32) : ll_P L xs 130 4 = some (.inl (lo_getf 7 3 3)) := (P_130 L xs 4).trans rfl
theorem p_130_7 (L : Nat) (xs : Nat → Int32) : ll_P L xs 130 7 = some (.inl (lo_astore 9 4)) := (P_130 L xs 7).trans rfl
theorem p_130_9 (L : Nat) (xs : Nat → Int32) : ll_P L xs 130 9 = some (.inl (lo_aload 11 4)) := (P_130 L xs 9).trans rfl
theorem p_130_11 (L : Nat) (xs : Nat → Int32) : ll_P L xs 130 11 = some (.inl (lo_iload 12 1)) := (P_130 L xs 11).trans rfl
theorem p_130_12 (L : Nat) (xs : Nat → Int32) : ll_P L xs 130 12 = some (.inr (.inl (10, 2, 15))) := (P_130 L xs 12).trans rfl
theorem p_130_15 (L : Nat) (xs : Nat → Int32) : ll_P L xs 130 15 = some (.inl (lo_if 21 18 (fun x => decide (¬ x = 0)))) := (P_130 L xs 15).trans rfl
theorem p_130_18 (L : Nat) (xs : Nat → Int32) : ll_P L xs 130 18 = some (.inl (lo_push 20 (.int (-2)))) := (P_130 L xs 18).trans rfl
theorem p_130_20 (L : Nat) (xs : Nat → Int32) : ll_P L xs 130 20 = some (.inr (.inr 1)) := (P_130 L xs 20).trans rfl
theorem p_130_21 (L : Nat) (xs : Nat → Int32) : ll_P L xs 130 21 = some (.inl (lo_iload 22 2)) := (P_130 L xs 21).trans rfl
theorem p_130_22 (L : Nat) (xs : Nat → Int32) : ll_P L xs 130 22 = some (.inl (lo_tab 0 [48, 59, 70] 81)) := (P_130 L xs 22).trans rfl
theorem p_130_48 (L : Nat) (xs : Nat → Int32) : ll_P L xs 130 48 = some (.inl (lo_aload 50 4)) := (P_130 L xs 48).trans rfl
theorem p_130_50 (L : Nat) (xs : Nat → Int32) : ll_P L xs 130 50 = some (.inl (lo_getf 53 1 0)) := (P_130 L xs 50).trans rfl
theorem p_130_53 (L : Nat) (xs : Nat → Int32) : ll_P L xs 130 53 = some (.inl (lo_iload 54 1)) := (P_130 L xs 53).trans rfl
theorem p_130_54 (L : Nat) (xs : Nat → Int32) : ll_P L xs 130 54 = some (.inl (lo_iload 55 3)) := (P_130 L xs 54).trans rfl
theorem p_130_55 (L : Nat) (xs : Nat → Int32) : ll_P L xs 130 55 = some (.inr (.inl (143, 3, 58))) := (P_130 L xs 55).trans rfl
theorem p_130_58 (L : Nat) (xs : Nat → Int32) : ll_P L xs 130 58 = some (.inr (.inr 1)) := (P_130 L xs 58).trans rfl
theorem p_130_59 (L : Nat) (xs : Nat → Int32) : ll_P L xs 130 59 = some (.inl (lo_aload 61 4)) := (P_130 L xs 59).trans rfl
theorem p_130_61 (L : Nat) (xs : Nat → Int32) : ll_P L xs 130 61 = some (.inl (lo_getf 64 1 1)) := (P_130 L xs 61).trans rfl
theorem p_130_64 (L : Nat) (xs : Nat → Int32) : ll_P L xs 130 64 = some (.inl (lo_iload 65 1)) := (P_130 L xs 64).trans rfl
theorem p_130_65 (L : Nat) (xs : Nat → Int32) : ll_P L xs 130 65 = some (.inl (lo_iload 66 3)) := (P_130 L xs 65).trans rfl
theorem p_130_66 (L : Nat) (xs : Nat → Int32) : ll_P L xs 130 66 = some (.inr (.inl (143, 3, 69))) := (P_130 L xs 66).trans rfl
theorem p_130_69 (L : Nat) (xs : Nat → Int32) : ll_P L xs 130 69 = some (.inr (.inr 1)) := (P_130 L xs 69).trans rfl
theorem p_130_70 (L : Nat) (xs : Nat → Int32) : ll_P L xs 130 70 = some (.inl (lo_aload 72 4)) := (P_130 L xs 70).trans rfl
theorem p_130_72 (L : Nat) (xs : Nat → Int32) : ll_P L xs 130 72 = some (.inl (lo_getf 75 1 2)) := (P_130 L xs 72).trans rfl
theorem p_130_75 (L : Nat) (xs : Nat → Int32) : ll_P L xs 130 75 = some (.inl (lo_iload 76 1)) := (P_130 L xs 75).trans rfl
theorem p_130_76 (L : Nat) (xs : Nat → Int32) : ll_P L xs 130 76 = some (.inl (lo_iload 77 3)) := (P_130 L xs 76).trans rfl
theorem p_130_77 (L : Nat) (xs : Nat → Int32) : ll_P L xs 130 77 = some (.inr (.inl (143, 3, 80))) := (P_130 L xs 77).trans rfl
theorem p_130_80 (L : Nat) (xs : Nat → Int32) : ll_P L xs 130 80 = some (.inr (.inr 1)) := (P_130 L xs 80).trans rfl
theorem p_130_81 (L : Nat) (xs : Nat → Int32) : ll_P L xs 130 81 = some (.inl (lo_aload 83 4)) := (P_130 L xs 81).trans rfl
theorem p_130_83 (L : Nat) (xs : Nat → Int32) : ll_P L xs 130 83 = some (.inl (lo_iload 84 1)) := (P_130 L xs 83).trans rfl
theorem p_130_84 (L : Nat) (xs : Nat → Int32) : ll_P L xs 130 84 = some (.inl (lo_iload 85 2)) := (P_130 L xs 84).trans rfl
theorem p_130_85 (L : Nat) (xs : Nat → Int32) : ll_P L xs 130 85 = some (.inr (.inl (11, 3, 88))) := (P_130 L xs 85).trans rfl
theorem p_130_88 (L : Nat) (xs : Nat → Int32) : ll_P L xs 130 88 = some (.inl (lo_if 115 91 (fun x => decide (x = 0)))) := (P_130 L xs 88).trans rfl
theorem p_130_91 (L : Nat) (xs : Nat → Int32) : ll_P L xs 130 91 = some (.inl (lo_aload 93 4)) := (P_130 L xs 91).trans rfl
theorem p_130_93 (L : Nat) (xs : Nat → Int32) : ll_P L xs 130 93 = some (.inl (lo_getf 96 1 5)) := (P_130 L xs 93).trans rfl
theorem p_130_96 (L : Nat) (xs : Nat → Int32) : ll_P L xs 130 96 = some (.inl (lo_aload 98 4)) := (P_130 L xs 96).trans rfl
theorem p_130_98 (L : Nat) (xs : Nat → Int32) : ll_P L xs 130 98 = some (.inl (lo_getf 101 1 3)) := (P_130 L xs 98).trans rfl
theorem p_130_101 (L : Nat) (xs : Nat → Int32) : ll_P L xs 130 101 = some (.inl (lo_iload 102 1)) := (P_130 L xs 101).trans rfl
theorem p_130_102 (L : Nat) (xs : Nat → Int32) : ll_P L xs 130 102 = some (.inl (lo_ald 103 0)) := (P_130 L xs 102).trans rfl
theorem p_130_103 (L : Nat) (xs : Nat → Int32) : ll_P L xs 130 103 = some (.inl (lo_iload 104 2)) := (P_130 L xs 103).trans rfl
theorem p_130_104 (L : Nat) (xs : Nat → Int32) : ll_P L xs 130 104 = some (.inl (lo_bin 105 (fun x y => x + y))) := (P_130 L xs 104).trans rfl
theorem p_130_105 (L : Nat) (xs : Nat → Int32) : ll_P L xs 130 105 = some (.inl (lo_push 107 (.int 10))) := (P_130 L xs 105).trans rfl
theorem p_130_107 (L : Nat) (xs : Nat → Int32) : ll_P L xs 130 107 = some (.inl (lo_bin 108 (fun x y => x - y))) := (P_130 L xs 107).trans rfl
theorem p_130_108 (L : Nat) (xs : Nat → Int32) : ll_P L xs 130 108 = some (.inl (lo_iload 109 3)) := (P_130 L xs 108).trans rfl
theorem p_130_109 (L : Nat) (xs : Nat → Int32) : ll_P L xs 130 109 = some (.inr (.inl (143, 3, 112))) := (P_130 L xs 109).trans rfl
theorem p_130_112 (L : Nat) (xs : Nat → Int32) : ll_P L xs 130 112 = some (.inl (lo_goto 117)) := (P_130 L xs 112).trans rfl
theorem p_130_115 (L : Nat) (xs : Nat → Int32) : ll_P L xs 130 115 = some (.inl (lo_push 117 (.int (-2)))) := (P_130 L xs 115).trans rfl
theorem p_130_117 (L : Nat) (xs : Nat → Int32) : ll_P L xs 130 117 = some (.inr (.inr 1)) := (P_130 L xs 117).trans rfl
theorem b_130_0 {Y : sY} {d : Nat} {s : sT} {K : Option Int32 → sT → Prop} {r0 : Nat} {x1 : Int32} {x2 : Int32} {x3 : Int32} (h : (∃ a1, (isO Y r0 10 ∧ s.2 r0 8 = some a1) ∧ (∃ a3, (isO Y a1 3 ∧ s.2 a1 3 = some a3) ∧ (isO Y a3 1 ∧ tT Y d 10 0 [.ref a3, .int x1] [] s (fun r s1 => tT Y (d + 1) 130 15 [.ref r0, .int x1, .int x2, .int x3, .ref a3] ((r.map Value.int).toList ++ []) s1 K))))) : tT Y (d + 1) 130 0 [.ref r0, .int x1, .int x2, .int x3, .null] [] s K :=
  (tt_aload (p_130_0 _ _) rfl).mpr (Exists.elim h (fun a1 h2 => t3_getr (p_130_1 _ _) (isI_10_8) h2.1.1 h2.1.2 (Exists.elim h2.2 (fun a3 h4 => t3_getr (p_130_4 _ _) (isI_3_3) h4.1.1 h4.1.2 ((tt_astore (p_130_7 _ _) (Nat.le_of_ble_eq_true rfl) rfl rfl).mpr ((tt_aload (p_130_9 _ _) rfl).mpr ((tt_iload (p_130_11 _ _) rfl).mpr (t2_callv (z := 10) (k := 2) (i := a3) (as := [.int x1]) (rest := []) (p_130_12 _ _) mK_10 mL_10 rfl rfl (Nat.le_of_ble_eq_true rfl) rfl (Nat.le_of_ble_eq_true rfl) h4.2.1 h4.2.2))))))))
theorem b_130_15 {Y : sY} {d : Nat} {s : sT} {K : Option Int32 → sT → Prop} {r0 : Nat} {x1 : Int32} {x2 : Int32} {x3 : Int32} {r4 : Nat} {t0 : Int32} (h : (if ¬ t0 = 0 then ((x2 = 0 → (∃ a3, (isO Y r4 1 ∧ s.2 r4 0 = some a3) ∧ tT Y d 143 0 [.ref a3, .int x1, .int x3, .null] [] s (fun r s1 => tT Y (d + 1) 130 58 [.ref r0, .int x1, .int x2, .int x3, .ref r4] ((r.map Value.int).toList ++ []) s1 K))) ∧ (x2 = 1 → (∃ a6, (isO Y r4 1 ∧ s.2 r4 1 = some a6) ∧ tT Y d 143 0 [.ref a6, .int x1, .int x3, .null] [] s (fun r s1 => tT Y (d + 1) 130 69 [.ref r0, .int x1, .int x2, .int x3, .ref r4] ((r.map Value.int).toList ++ []) s1 K))) ∧ (x2 = 2 → (∃ a9, (isO Y r4 1 ∧ s.2 r4 2 = some a9) ∧ tT Y d 143 0 [.ref a9, .int x1, .int x3, .null] [] s (fun r s1 => tT Y (d + 1) 130 80 [.ref r0, .int x1, .int x2, .int x3, .ref r4] ((r.map Value.int).toList ++ []) s1 K))) ∧ (¬ x2 = 0 ∧ ¬ x2 = 1 ∧ ¬ x2 = 2 → (isO Y r4 1 ∧ tT Y d 11 0 [.ref r4, .int x1, .int x2] [] s (fun r s1 => tT Y (d + 1) 130 88 [.ref r0, .int x1, .int x2, .int x3, .ref r4] ((r.map Value.int).toList ++ []) s1 K)))) else K (some (-2 : Int32)) s)) : tT Y (d + 1) 130 15 [.ref r0, .int x1, .int x2, .int x3, .ref r4] [.int t0] s K :=
  t3_if (p := ¬ t0 = 0) (p_130_15 _ _) rfl (fun g1 => (tt_iload (p_130_21 _ _) rfl).mpr (Decidable.byCases (p := x2 = 0) (fun g2 => t3_tab (t := 48) (p_130_22 _ _) (by rw [g2]; rfl) ((tt_aload (p_130_48 _ _) rfl).mpr (Exists.elim ((ifp h g1).1 g2) (fun a3 h4 => t3_getr (p_130_50 _ _) (isI_1_0) h4.1.1 h4.1.2 ((tt_iload (p_130_53 _ _) rfl).mpr ((tt_iload (p_130_54 _ _) rfl).mpr (t2_calls (z := 143) (k := 3) (as := [.ref a3, .int x1, .int x3]) (rest := []) (p_130_55 _ _) mK_143 mL_143 rfl rfl (Nat.le_of_ble_eq_true rfl) rfl (Nat.le_of_ble_eq_true rfl) h4.2))))))) (fun g2n => Decidable.byCases (p := x2 = 1) (fun g5 => t3_tab (t := 59) (p_130_22 _ _) (by rw [g5]; rfl) ((tt_aload (p_130_59 _ _) rfl).mpr (Exists.elim ((ifp h g1).2.1 g5) (fun a6 h7 => t3_getr (p_130_61 _ _) (isI_1_1) h7.1.1 h7.1.2 ((tt_iload (p_130_64 _ _) rfl).mpr ((tt_iload (p_130_65 _ _) rfl).mpr (t2_calls (z := 143) (k := 3) (as := [.ref a6, .int x1, .int x3]) (rest := []) (p_130_66 _ _) mK_143 mL_143 rfl rfl (Nat.le_of_ble_eq_true rfl) rfl (Nat.le_of_ble_eq_true rfl) h7.2))))))) (fun g5n => Decidable.byCases (p := x2 = 2) (fun g8 => t3_tab (t := 70) (p_130_22 _ _) (by rw [g8]; rfl) ((tt_aload (p_130_70 _ _) rfl).mpr (Exists.elim ((ifp h g1).2.2.1 g8) (fun a9 h10 => t3_getr (p_130_72 _ _) (isI_1_2) h10.1.1 h10.1.2 ((tt_iload (p_130_75 _ _) rfl).mpr ((tt_iload (p_130_76 _ _) rfl).mpr (t2_calls (z := 143) (k := 3) (as := [.ref a9, .int x1, .int x3]) (rest := []) (p_130_77 _ _) mK_143 mL_143 rfl rfl (Nat.le_of_ble_eq_true rfl) rfl (Nat.le_of_ble_eq_true rfl) h10.2))))))) (fun g8n => t3_tab (t := 81) (p_130_22 _ _) (t3_tabd (fun k hk => t3_tabk (lo := 0) (n := 3) (fun j (hj : j < 3) => by rcases (show j = 0 ∨ j = 1 ∨ j = 2 by omega) with rfl | rfl | rfl <;> assumption) k hk)) ((tt_aload (p_130_81 _ _) rfl).mpr ((tt_iload (p_130_83 _ _) rfl).mpr ((tt_iload (p_130_84 _ _) rfl).mpr (t2_callv (z := 11) (k := 3) (i := r4) (as := [.int x1, .int x2]) (rest := []) (p_130_85 _ _) mK_11 mL_11 rfl rfl (Nat.le_of_ble_eq_true rfl) rfl (Nat.le_of_ble_eq_true rfl) ((ifp h g1).2.2.2 ⟨g2n, g5n, g8n⟩).1 ((ifp h g1).2.2.2 ⟨g2n, g5n, g8n⟩).2))))))))) (fun g1 => (tt_push (p_130_18 _ _)).mpr (tt_ret1 (p_130_20 _ _) (ifn h g1)))
theorem b_130_58 {Y : sY} {d : Nat} {s : sT} {K : Option Int32 → sT → Prop} {r0 : Nat} {x1 : Int32} {x2 : Int32} {x3 : Int32} {r4 : Nat} {t0 : Int32} (h : K (some t0) s) : tT Y (d + 1) 130 58 [.ref r0, .int x1, .int x2, .int x3, .ref r4] [.int t0] s K :=
  tt_ret1 (p_130_58 _ _) h
theorem b_130_69 {Y : sY} {d : Nat} {s : sT} {K : Option Int32 → sT → Prop} {r0 : Nat} {x1 : Int32} {x2 : Int32} {x3 : Int32} {r4 : Nat} {t0 : Int32} (h : K (some t0) s) : tT Y (d + 1) 130 69 [.ref r0, .int x1, .int x2, .int x3, .ref r4] [.int t0] s K :=
  tt_ret1 (p_130_69 _ _) h
theorem b_130_80 {Y : sY} {d : Nat} {s : sT} {K : Option Int32 → sT → Prop} {r0 : Nat} {x1 : Int32} {x2 : Int32} {x3 : Int32} {r4 : Nat} {t0 : Int32} (h : K (some t0) s) : tT Y (d + 1) 130 80 [.ref r0, .int x1, .int x2, .int x3, .ref r4] [.int t0] s K :=
  tt_ret1 (p_130_80 _ _) h
theorem b_130_88 {Y : sY} {d : Nat} {s : sT} {K : Option Int32 → sT → Prop} {r0 : Nat} {x1 : Int32} {x2 : Int32} {x3 : Int32} {r4 : Nat} {t0 : Int32} (h : (if t0 = 0 then K (some (-2 : Int32)) s else (∃ a2, (isO Y r4 1 ∧ s.2 r4 5 = some a2) ∧ (∃ a4, (isO Y r4 1 ∧ s.2 r4 3 = some a4) ∧ (∃ m6, (isA Y a4 0 m6 ∧ inR x1 m6) ∧ tT Y d 143 0 [.ref a2, .int (((s.1 a4 (x1).toNatClampNeg) + x2) - (10 : Int32)), .int x3, .null] [] s (fun r s1 => tT Y (d + 1) 130 112 [.ref r0, .int x1, .int x2, .int x3, .ref r4] ((r.map Value.int).toList ++ []) s1 K)))))) : tT Y (d + 1) 130 88 [.ref r0, .int x1, .int x2, .int x3, .ref r4] [.int t0] s K :=
  t3_if (p := t0 = 0) (p_130_88 _ _) rfl (fun g1 => (tt_push (p_130_115 _ _)).mpr (tt_ret1 (p_130_117 _ _) (ifp h g1))) (fun g1 => (tt_aload (p_130_91 _ _) rfl).mpr (Exists.elim (ifn h g1) (fun a2 h3 => t3_getr (p_130_93 _ _) (isI_1_5) h3.1.1 h3.1.2 ((tt_aload (p_130_96 _ _) rfl).mpr (Exists.elim h3.2 (fun a4 h5 => t3_getr (p_130_98 _ _) (isI_1_3) h5.1.1 h5.1.2 ((tt_iload (p_130_101 _ _) rfl).mpr (Exists.elim h5.2 (fun m6 h7 => t3_ald (p_130_102 _ _) h7.1.1 h7.1.2 ((tt_iload (p_130_103 _ _) rfl).mpr ((tt_bin (p_130_104 _ _)).mpr ((tt_push (p_130_105 _ _)).mpr ((tt_bin (p_130_107 _ _)).mpr ((tt_iload (p_130_108 _ _) rfl).mpr (t2_calls (z := 143) (k := 3) (as := [.ref a2, .int (((s.1 a4 (x1).toNatClampNeg) + x2) - (10 : Int32)), .int x3]) (rest := []) (p_130_109 _ _) mK_143 mL_143 rfl rfl (Nat.le_of_ble_eq_true rfl) rfl (Nat.le_of_ble_eq_true rfl) h7.2)))))))))))))))
theorem b_130_112 {Y : sY} {d : Nat} {s : sT} {K : Option Int32 → sT → Prop} {r0 : Nat} {x1 : Int32} {x2 : Int32} {x3 : Int32} {r4 : Nat} {t0 : Int32} (h : K (some t0) s) : tT Y (d + 1) 130 112 [.ref r0, .int x1, .int x2, .int x3, .ref r4] [.int t0] s K :=
  (tt_goto (p_130_112 _ _)).mpr (tt_ret1 (p_130_117 _ _) h)
/-! InclusionProver.cut.()I -/
theorem p_131_0 (L : Nat) (xs : Nat → Int32) : ll_P L xs 131 0 = some (.inl (lo_aload 1 0)) := (P_131 L xs 0).trans rfl
theorem p_131_1 (L : Nat) (xs : Nat → Int32) : ll_P L xs 131 1 = some (.inl (lo_getf 4 10 8)) := (P_131 L xs 1).trans rfl
theorem p_131_4 (L : Nat) (xs : Nat → Int32) : ll_P L xs 131 4 = some (.inl (lo_getf 7 3 3)) := (P_131 L xs 4).trans rfl
theorem p_131_7 (L : Nat) (xs : Nat → Int32) : ll_P L xs 131 7 = some (.inr (.inl (17, 1, 10))) := (P_131 L xs 7).trans rfl
theorem p_131_10 (L : Nat) (xs : Nat → Int32) : ll_P L xs 131 10 = some (.inr (.inr 1)) := (P_131 L xs 10).trans rfl
theorem b_131_0 {Y : sY} {d : Nat} {s : sT} {K : Option Int32 → sT → Prop} {r0 : Nat} (h : (∃ a1, (isO Y r0 10 ∧ s.2 r0 8 = some a1) ∧ (∃ a3, (isO Y a1 3 ∧ s.2 a1 3 = some a3) ∧ (isO Y a3 1 ∧ tT Y d 17 0 [.ref a3] [] s (fun r s1 => tT Y (d + 1) 131 10 [.ref r0] ((r.map Value.int).toList ++ []) s1 K))))) : tT Y (d + 1) 131 0 [.ref r0] [] s K :=
  (tt_aload (p_131_0 _ _) rfl).mpr (Exists.elim h (fun a1 h2 => t3_getr (p_131_1 _ _) (isI_10_8) h2.1.1 h2.1.2 (Exists.elim h2.2 (fun a3 h4 => t3_getr (p_131_4 _ _) (isI_3_3) h4.1.1 h4.1.2 (t2_callv (z := 17) (k := 1) (i := a3) (as := []) (rest := []) (p_131_7 _ _) mK_17 mL_17 rfl rfl (Nat.le_of_ble_eq_true rfl) rfl (Nat.le_of_ble_eq_true rfl) h4.2.1 h4.2.2)))))
theorem b_131_10 {Y : sY} {d : Nat} {s : sT} {K : Option Int32 → sT → Prop} {r0 : Nat} {t0 : Int32} (h : K (some t0) s) : tT Y (d + 1) 131 10 [.ref r0] [.int t0] s K :=
  tt_ret1 (p_131_10 _ _) h
/-! InclusionProver.check.()I -/
theorem p_132_0 (L : Nat) (xs : Nat → Int32) : ll_P L xs 132 0 = some (.inl (lo_aload 1 0)) := (P_132 L xs 0).trans rfl
theorem p_132_1 (L : Nat) (xs : Nat → Int32) : ll_P L xs 132 1 = some (.inl (lo_getf 4 10 3)) := (P_132 L xs 1).trans rfl
theorem p_132_4 (L : Nat) (xs : Nat → Int32) : ll_P L xs 132 4 = some (.inl (lo_aload 5 0)) := (P_132 L xs 4).trans rfl
theorem p_132_5 (L : Nat) (xs : Nat → Int32) : ll_P L xs 132 5 = some (.inl (lo_getf 8 10 8)) := (P_132 L xs 5).trans rfl
theorem p_132_8 (L : Nat) (xs : Nat → Int32) : ll_P L xs 132 8 = some (.inl (lo_getf 11 3 1)) := (P_132 L xs 8).trans rfl
theorem p_132_11 (L : Nat) (xs : Nat → Int32) : ll_P L xs 132 11 = some (.inl (lo_push 12 (.int 0))) := (P_132 L xs 11).trans rfl
theorem p_132_12 (L : Nat) (xs : Nat → Int32) : ll_P L xs 132 12 = some (.inl (lo_aald 13)) := (P_132 L xs 12).trans rfl
theorem p_132_13 (L : Nat) (xs : Nat → Int32) : ll_P L xs 132 13 = some (.inl (lo_aload 14 0)) := (P_132 L xs 13).trans rfl
theorem p_132_14 (L : Nat) (xs : Nat → Int32) : ll_P L xs 132 14 = some (.inl (lo_getf 17 10 8)) := (P_132 L xs 14).trans rfl
theorem p_132_17 (L : Nat) (xs : Nat → Int32) : ll_P L xs 132 17 = some (.inl (lo_getf 20 3 1)) := (P_132 L xs 17).trans rfl
theorem p_132_20 (L : Nat) (xs : Nat → Int32) : ll_P L xs 132 20 = some (.inl (lo_push 21 (.int 1))) := (P_132 L xs 20).trans rfl
theorem p_132_21 (L : Nat) (xs : Nat → Int32) : ll_P L xs 132 21 = some (.inl (lo_aald 22)) := (P_132 L xs 21).trans rfl
theorem p_132_22 (L : Nat) (xs : Nat → Int32) : ll_P L xs 132 22 = some (.inl (lo_aload 23 0)) := (P_132 L xs 22).trans rfl
theorem p_132_23 (L : Nat) (xs : Nat → Int32) : ll_P L xs 132 23 = some (.inl (lo_getf 26 10 8)) := (P_132 L xs 23).trans rfl
theorem p_132_26 (L : Nat) (xs : Nat → Int32) : ll_P L xs 132 26 = some (.inl (lo_getf 29 3 3)) := (P_132 L xs 26).trans rfl
theorem p_132_29 (L : Nat) (xs : Nat → Int32) : ll_P L xs 132 29 = some (.inr (.inl (1, 4, 32))) := (P_132 L xs 29).trans rfl
theorem p_132_32 (L : Nat) (xs : Nat → Int32) : ll_P L xs 132 32 = some (.inl (lo_aload 33 0)) := (P_132 L xs 32).trans rfl
theorem p_132_33 (L : Nat) (xs : Nat → Int32) : ll_P L xs 132 33 = some (.inl (lo_getf 36 10 3)) := (P_132 L xs 33).trans rfl
theorem p_132_36 (L : Nat) (xs : Nat → Int32) : ll_P L xs 132 36 = some (.inl (lo_getf 39 0 3)) := (P_132 L xs 36).trans rfl
theorem p_132_39 (L : Nat) (xs : Nat → Int32) : ll_P L xs 132 39 = some (.inr (.inr 1)) := (P_132 L xs 39).trans rfl
theorem b_132_0 {Y : sY} {d : Nat} {s : sT} {K : Option Int32 → sT → Prop} {r0 : Nat} (h : (∃ a1, (isO Y r0 10 ∧ s.2 r0 3 = some a1) ∧ (∃ a3, (isO Y r0 10 ∧ s.2 r0 8 = some a3) ∧ (∃ a5, (isO Y a3 3 ∧ s.2 a3 1 = some a5) ∧ (∃ c9 m7 a8, (isQ Y a5 c9 m7 ∧ inR (0 : Int32) m7 ∧ s.2 a5 ((0 : Int32)).toNatClampNeg = some a8) ∧ (∃ a11, (isO Y r0 10 ∧ s.2 r0 8 = some a11) ∧ (∃ a13, (isO Y a11 3 ∧ s.2 a11 1 = some a13) ∧ (∃ c17 m15 a16, (isQ Y a13 c17 m15 ∧ inR (1 : Int32) m15 ∧ s.2 a13 ((1 : Int32)).toNatClampNeg = some a16) ∧ (∃ a19, (isO Y r0 10 ∧ s.2 r0 8 = some a19) ∧ (∃ a21, (isO Y a19 3 ∧ s.2 a19 3 = some a21) ∧ (isO Y a1 0 ∧ tT Y d 1 0 [.ref a1, .ref a8, .ref a16, .ref a21, .null] [] s (fun r s1 => tT Y (d + 1) 132 32 [.ref r0] ((r.map Value.int).toList ++ []) s1 K)))))))))))) : tT Y (d + 1) 132 0 [.ref r0] [] s K :=
  (tt_aload (p_132_0 _ _) rfl).mpr (Exists.elim h (fun a1 h2 => t3_getr (p_132_1 _ _) (isI_10_3) h2.1.1 h2.1.2 ((tt_aload (p_132_4 _ _) rfl).mpr (Exists.elim h2.2 (fun a3 h4 => t3_getr (p_132_5 _ _) (isI_10_8) h4.1.1 h4.1.2 (Exists.elim h4.2 (fun a5 h6 => t3_getr (p_132_8 _ _) (isI_3_1) h6.1.1 h6.1.2 ((tt_push (p_132_11 _ _)).mpr (Exists.elim h6.2 (fun c9 h10q0 => Exists.elim h10q0 (fun m7 h10q1 => Exists.elim h10q1 (fun a8 h10 => t3_aald (p_132_12 _ _) h10.1.1 h10.1.2.1 h10.1.2.2 ((tt_aload (p_132_13 _ _) rfl).mpr (Exists.elim h10.2 (fun a11 h12 => t3_getr (p_132_14 _ _) (isI_10_8) h12.1.1 h12.1.2 (Exists.elim h12.2 (fun a13 h14 => t3_getr (p_132_17 _ _) (isI_3_1) h14.1.1 h14.1.2 ((tt_push (p_132_20 _ _)).mpr (Exists.elim h14.2 (fun c17 h18q0 => Exists.elim h18q0 (fun m15 h18q1 => Exists.elim h18q1 (fun a16 h18 => t3_aald (p_132_21 _ _) h18.1.1 h18.1.2.1 h18.1.2.2 ((tt_aload (p_132_22 _ _) rfl).mpr (Exists.elim h18.2 (fun a19 h20 => t3_getr (p_132_23 _ _) (isI_10_8) h20.1.1 h20.1.2 (Exists.elim h20.2 (fun a21 h22 => t3_getr (p_132_26 _ _) (isI_3_3) h22.1.1 h22.1.2 (t2_callv (z := 1) (k := 4) (i := a1) (as := [.ref a8, .ref a16, .ref a21]) (rest := []) (p_132_29 _ _) mK_1 mL_1 rfl rfl (Nat.le_of_ble_eq_true rfl) rfl (Nat.le_of_ble_eq_true rfl) h22.2.1 h22.2.2))))))))))))))))))))))))))))
theorem b_132_32 {Y : sY} {d : Nat} {s : sT} {K : Option Int32 → sT → Prop} {r0 : Nat} (h : (∃ a1, (isO Y r0 10 ∧ s.2 r0 3 = some a1) ∧ (isO Y a1 0 ∧ K (some (s.1 a1 3)) s))) : tT Y (d + 1) 132 32 [.ref r0] [] s K :=
  (tt_aload (p_132_32 _ _) rfl).mpr (Exists.elim h (fun a1 h2 => t3_getr (p_132_33 _ _) (isI_10_3) h2.1.1 h2.1.2 (t3_geti (p_132_36 _ _) (isI_0_3) h2.2.1 (tt_ret1 (p_132_39 _ _) h2.2.2))))
/-! InclusionProver.why.(I)I -/
theorem p_133_0 (L : Nat) (xs : Nat → Int32) : ll_P L xs 133 0 = some (.inl (lo_iload 1 1)) := (P_133 L xs 0).trans rfl
theorem p_133_1 (L : Nat) (xs : Nat → Int32) : ll_P L xs 133 1 = some (.inl (lo_if 9 4 (fun x => decide (x < 0)))) := (P_133 L xs 1).trans rfl
theorem p_133_4 (L : Nat) (xs : Nat → Int32) : ll_P L xs 133 4 = some (.inl (lo_iload 5 1)) := (P_133 L xs 4).trans rfl
theorem p_133_5 (L : Nat) (xs : Nat → Int32) : ll_P L xs 133 5 = some (.inl (lo_push 6 (.int 2))) := (P_133 L xs 5).trans rfl
theorem p_133_6 (L : Nat) (xs : Nat → Int32) : ll_P L xs 133 6 = some (.inl (lo_cmp 11 9 (fun x y => decide (x ≤ y)))) := (P_133 L xs 6).trans rfl
theorem p_133_9 (L : Nat) (xs : Nat → Int32) : ll_P L xs 133 9 = some (.inl (lo_push 10 (.int (-1)))) := (P_133 L xs 9).trans rfl
theorem p_133_10 (L : Nat) (xs : Nat → Int32) : ll_P L xs 133 10 = some (.inr (.inr 1)) := (P_133 L xs 10).trans rfl
theorem p_133_11 (L : Nat) (xs : Nat → Int32) : ll_P L xs 133 11 = some (.inl (lo_aload 12 0)) := (P_133 L xs 11).trans rfl
theorem p_133_12 (L : Nat) (xs : Nat → Int32) : ll_P L xs 133 12 = some (.inl (lo_getf 15 10 3)) := (P_133 L xs 12).trans rfl
theorem p_133_15 (L : Nat) (xs : Nat → Int32) : ll_P L xs 133 15 = some (.inl (lo_aload 16 0)) := (P_133 L xs 15).trans rfl
theorem p_133_16 (L : Nat) (xs : Nat → Int32) : ll_P L xs 133 16 = some (.inl (lo_getf 19 10 8)) := (P_133 L xs 16).trans rfl
theorem p_133_19 (L : Nat) (xs : Nat → Int32) : ll_P L xs 133 19 = some (.inl (lo_getf 22 3 1)) := (P_133 L xs 19).trans rfl
theorem p_133_22 (L : Nat) (xs : Nat → Int32) : ll_P L xs 133 22 = some (.inl (lo_push 23 (.int 0))) := (P_133 L xs 22).trans rfl
theorem p_133_23 (L : Nat) (xs : Nat → Int32) : ll_P L xs 133 23 = some (.inl (lo_aald 24)) := (P_133 L xs 23).trans rfl
theorem p_133_24 (L : Nat) (xs : Nat → Int32) : ll_P L xs 133 24 = some (.inl (lo_aload 25 0)) := (P_133 L xs 24).trans rfl
theorem p_133_25 (L : Nat) (xs : Nat → Int32) : ll_P L xs 133 25 = some (.inl (lo_getf 28 10 8)) := (P_133 L xs 25).trans rfl
theorem p_133_28 (L : Nat) (xs : Nat → Int32) : ll_P L xs 133 28 = some (.inl (lo_getf 31 3 1)) := (P_133 L xs 28).trans rfl
theorem p_133_31 (L : Nat) (xs : Nat → Int32) : ll_P L xs 133 31 = some (.inl (lo_push 32 (.int 1))) := (P_133 L xs 31).trans rfl
theorem p_133_32 (L : Nat) (xs : Nat → Int32) : ll_P L xs 133 32 = some (.inl (lo_aald 33)) := (P_133 L xs 32).trans rfl
theorem p_133_33 (L : Nat) (xs : Nat → Int32) : ll_P L xs 133 33 = some (.inl (lo_aload 34 0)) := (P_133 L xs 33).trans rfl
theorem p_133_34 (L : Nat) (xs : Nat → Int32) : ll_P L xs 133 34 = some (.inl (lo_getf 37 10 8)) := (P_133 L xs 34).trans rfl
theorem p_133_37 (L : Nat) (xs : Nat → Int32) : ll_P L xs 133 37 = some (.inl (lo_getf 40 3 3)) := (P_133 L xs 37).trans rfl
theorem p_133_40 (L : Nat) (xs : Nat → Int32) : ll_P L xs 133 40 = some (.inr (.inl (1, 4, 43))) := (P_133 L xs 40).trans rfl
theorem p_133_43 (L : Nat) (xs : Nat → Int32) : ll_P L xs 133 43 = some (.inl (lo_aload 44 0)) := (P_133 L xs 43).trans rfl
theorem p_133_44 (L : Nat) (xs : Nat → Int32) : ll_P L xs 133 44 = some (.inl (lo_getf 47 10 3)) := (P_133 L xs 44).trans rfl
theorem p_133_47 (L : Nat) (xs : Nat → Int32) : ll_P L xs 133 47 = some (.inl (lo_getf 50 0 3)) := (P_133 L xs 47).trans rfl
theorem p_133_50 (L : Nat) (xs : Nat → Int32) : ll_P L xs 133 50 = some (.inl (lo_if 55 53 (fun x => decide (0 ≤ x)))) := (P_133 L xs 50).trans rfl
theorem p_133_53 (L : Nat) (xs : Nat → Int32) : ll_P L xs 133 53 = some (.inl (lo_push 54 (.int 0))) := (P_133 L xs 53).trans rfl
theorem p_133_54 (L : Nat) (xs : Nat → Int32) : ll_P L xs 133 54 = some (.inr (.inr 1)) := (P_133 L xs 54).trans rfl
theorem p_133_55 (L : Nat) (xs : Nat → Int32) : ll_P L xs 133 55 = some (.inl (lo_iload 56 1)) := (P_133 L xs 55).trans rfl
theorem p_133_56 (L : Nat) (xs : Nat → Int32) : ll_P L xs 133 56 = some (.inl (lo_if 69 59 (fun x => decide (¬ x = 0)))) := (P_133 L xs 56).trans rfl
theorem p_133_59 (L : Nat) (xs : Nat → Int32) : ll_P L xs 133 59 = some (.inl (lo_aload 60 0)) := (P_133 L xs 59).trans rfl
theorem p_133_60 (L : Nat) (xs : Nat → Int32) : ll_P L xs 133 60 = some (.inl (lo_getf 63 10 3)) := (P_133 L xs 60).trans rfl
theorem p_133_63 (L : Nat) (xs : Nat → Int32) : ll_P L xs 133 63 = some (.inl (lo_getf 66 0 4)) := (P_133 L xs 63).trans rfl
theorem p_133_66 (L : Nat) (xs : Nat → Int32) : ll_P L xs 133 66 = some (.inl (lo_goto 91)) := (P_133 L xs 66).trans rfl
theorem p_133_69 (L : Nat) (xs : Nat → Int32) : ll_P L xs 133 69 = some (.inl (lo_iload 70 1)) := (P_133 L xs 69).trans rfl
theorem p_133_70 (L : Nat) (xs : Nat → Int32) : ll_P L xs 133 70 = some (.inl (lo_push 71 (.int 1))) := (P_133 L xs 70).trans rfl
theorem p_133_71 (L : Nat) (xs : Nat → Int32) : ll_P L xs 133 71 = some (.inl (lo_cmp 84 74 (fun x y => decide (¬ x = y)))) := (P_133 L xs 71).trans rfl
theorem p_133_74 (L : Nat) (xs : Nat → Int32) : ll_P L xs 133 74 = some (.inl (lo_aload 75 0)) := (P_133 L xs 74).trans rfl
theorem p_133_75 (L : Nat) (xs : Nat → Int32) : ll_P L xs 133 75 = some (.inl (lo_getf 78 10 3)) := (P_133 L xs 75).trans rfl
theorem p_133_78 (L : Nat) (xs : Nat → Int32) : ll_P L xs 133 78 = some (.inl (lo_getf 81 0 5)) := (P_133 L xs 78).trans rfl
theorem p_133_81 (L : Nat) (xs : Nat → Int32) : ll_P L xs 133 81 = some (.inl (lo_goto 91)) := (P_133 L xs 81).trans rfl
theorem p_133_84 (L : Nat) (xs : Nat → Int32) : ll_P L xs 133 84 = some (.inl (lo_aload 85 0)) := (P_133 L xs 84).trans rfl
theorem p_133_85 (L : Nat) (xs : Nat → Int32) : ll_P L xs 133 85 = some (.inl (lo_getf 88 10 3)) := (P_133 L xs 85).trans rfl
theorem p_133_88 (L : Nat) (xs : Nat → Int32) : ll_P L xs 133 88 = some (.inl (lo_getf 91 0 6)) := (P_133 L xs 88).trans rfl
theorem p_133_91 (L : Nat) (xs : Nat → Int32) : ll_P L xs 133 91 = some (.inr (.inr 1)) := (P_133 L xs 91).trans rfl
theorem b_133_0 {Y : sY} {d : Nat} {s : sT} {K : Option Int32 → sT → Prop} {r0 : Nat} {x1 : Int32} (h : (if x1 < 0 then K (some (-1 : Int32)) s else (if x1 ≤ (2 : Int32) then (∃ a3, (isO Y r0 10 ∧ s.2 r0 3 = some a3) ∧ (∃ a5, (isO Y r0 10 ∧ s.2 r0 8 = some a5) ∧ (∃ a7, (isO Y a5 3 ∧ s.2 a5 1 = some a7) ∧ (∃ c11 m9 a10, (isQ Y a7 c11 m9 ∧ inR (0 : Int32) m9 ∧ s.2 a7 ((0 : Int32)).toNatClampNeg = some a10) ∧ (∃ a13, (isO Y r0 10 ∧ s.2 r0 8 = some a13) ∧ (∃ a15, (isO Y a13 3 ∧ s.2 a13 1 = some a15) ∧ (∃ c19 m17 a18, (isQ Y a15 c19 m17 ∧ inR (1 : Int32) m17 ∧ s.2 a15 ((1 : Int32)).toNatClampNeg = some a18) ∧ (∃ a21, (isO Y r0 10 ∧ s.2 r0 8 = some a21) ∧ (∃ a23, (isO Y a21 3 ∧ s.2 a21 3 = some a23) ∧ (isO Y a3 0 ∧ tT Y d 1 0 [.ref a3, .ref a10, .ref a18, .ref a23, .null] [] s (fun r s1 => tT Y (d + 1) 133 43 [.ref r0, .int x1] ((r.map Value.int).toList ++ []) s1 K))))))))))) else K (some (-1 : Int32)) s))) : tT Y (d + 1) 133 0 [.ref r0, .int x1] [] s K :=
  (tt_iload (p_133_0 _ _) rfl).mpr (t3_if (p := x1 < 0) (p_133_1 _ _) rfl (fun g1 => (tt_push (p_133_9 _ _)).mpr (tt_ret1 (p_133_10 _ _) (ifp h g1))) (fun g1 => (tt_iload (p_133_4 _ _) rfl).mpr ((tt_push (p_133_5 _ _)).mpr (t3_cmp (p := x1 ≤ (2 : Int32)) (p_133_6 _ _) rfl (fun g2 => (tt_aload (p_133_11 _ _) rfl).mpr (Exists.elim (ifp (ifn h g1) g2) (fun a3 h4 => t3_getr (p_133_12 _ _) (isI_10_3) h4.1.1 h4.1.2 ((tt_aload (p_133_15 _ _) rfl).mpr (Exists.elim h4.2 (fun a5 h6 => t3_getr (p_133_16 _ _) (isI_10_8) h6.1.1 h6.1.2 (Exists.elim h6.2 (fun a7 h8 => t3_getr (p_133_19 _ _) (isI_3_1) h8.1.1 h8.1.2 ((tt_push (p_133_22 _ _)).mpr (Exists.elim h8.2 (fun c11 h12q0 => Exists.elim h12q0 (fun m9 h12q1 => Exists.elim h12q1 (fun a10 h12 => t3_aald (p_133_23 _ _) h12.1.1 h12.1.2.1 h12.1.2.2 ((tt_aload (p_133_24 _ _) rfl).mpr (Exists.elim h12.2 (fun a13 h14 => t3_getr (p_133_25 _ _) (isI_10_8) h14.1.1 h14.1.2 (Exists.elim h14.2 (fun a15 h16 => t3_getr (p_133_28 _ _) (isI_3_1) h16.1.1 h16.1.2 ((tt_push (p_133_31 _ _)).mpr (Exists.elim h16.2 (fun c19 h20q0 => Exists.elim h20q0 (fun m17 h20q1 => Exists.elim h20q1 (fun a18 h20 => t3_aald (p_133_32 _ _) h20.1.1 h20.1.2.1 h20.1.2.2 ((tt_aload (p_133_33 _ _) rfl).mpr (Exists.elim h20.2 (fun a21 h22 => t3_getr (p_133_34 _ _) (isI_10_8) h22.1.1 h22.1.2 (Exists.elim h22.2 (fun a23 h24 => t3_getr (p_133_37 _ _) (isI_3_3) h24.1.1 h24.1.2 (t2_callv (z := 1) (k := 4) (i := a3) (as := [.ref a10, .ref a18, .ref a23]) (rest := []) (p_133_40 _ _) mK_1 mL_1 rfl rfl (Nat.le_of_ble_eq_true rfl) rfl (Nat.le_of_ble_eq_true rfl) h24.2.1 h24.2.2))))))))))))))))))))))))))))) (fun g2 => (tt_push (p_133_9 _ _)).mpr (tt_ret1 (p_133_10 _ _) (ifn (ifn h g1) g2)))))))
theorem b_133_43 {Y : sY} {d : Nat} {s : sT} {K : Option Int32 → sT → Prop} {r0 : Nat} {x1 : Int32} (h : (∃ a1, (isO Y r0 10 ∧ s.2 r0 3 = some a1) ∧ (isO Y a1 0 ∧ (if 0 ≤ (s.1 a1 3) then (if ¬ x1 = 0 then (if ¬ x1 = (1 : Int32) then (∃ a6, (isO Y r0 10 ∧ s.2 r0 3 = some a6) ∧ (isO Y a6 0 ∧ K (some (s.1 a6 6)) s)) else (∃ a8, (isO Y r0 10 ∧ s.2 r0 3 = some a8) ∧ (isO Y a8 0 ∧ K (some (s.1 a8 5)) s))) else (∃ a10, (isO Y r0 10 ∧ s.2 r0 3 = some a10) ∧ (isO Y a10 0 ∧ K (some (s.1 a10 4)) s))) else K (some (0 : Int32)) s)))) : tT Y (d + 1) 133 43 [.ref r0, .int x1] [] s K :=
  (tt_aload (p_133_43 _ _) rfl).mpr (Exists.elim h (fun a1 h2 => t3_getr (p_133_44 _ _) (isI_10_3) h2.1.1 h2.1.2 (t3_geti (p_133_47 _ _) (isI_0_3) h2.2.1 (t3_if (p := 0 ≤ (s.1 a1 3)) (p_133_50 _ _) rfl (fun g3 => (tt_iload (p_133_55 _ _) rfl).mpr (t3_if (p := ¬ x1 = 0) (p_133_56 _ _) rfl (fun g4 => (tt_iload (p_133_69 _ _) rfl).mpr ((tt_push (p_133_70 _ _)).mpr (t3_cmp (p := ¬ x1 = (1 : Int32)) (p_133_71 _ _) rfl (fun g5 => (tt_aload (p_133_84 _ _) rfl).mpr (Exists.elim (ifp (ifp (ifp h2.2.2 g3) g4) g5) (fun a6 h7 => t3_getr (p_133_85 _ _) (isI_10_3) h7.1.1 h7.1.2 (t3_geti (p_133_88 _ _) (isI_0_6) h7.2.1 (tt_ret1 (p_133_91 _ _) h7.2.2))))) (fun g5 => (tt_aload (p_133_74 _ _) rfl).mpr (Exists.elim (ifn (ifp (ifp h2.2.2 g3) g4) g5) (fun a8 h9 => t3_getr (p_133_75 _ _) (isI_10_3) h9.1.1 h9.1.2 (t3_geti (p_133_78 _ _) (isI_0_5) h9.2.1 ((tt_goto (p_133_81 _ _)).mpr (tt_ret1 (p_133_91 _ _) h9.2.2))))))))) (fun g4 => (tt_aload (p_133_59 _ _) rfl).mpr (Exists.elim (ifn (ifp h2.2.2 g3) g4) (fun a10 h11 => t3_getr (p_133_60 _ _) (isI_10_3) h11.1.1 h11.1.2 (t3_geti (p_133_63 _ _) (isI_0_4) h11.2.1 ((tt_goto (p_133_66 _ _)).mpr (tt_ret1 (p_133_91 _ _) h11.2.2)))))))) (fun g3 => (tt_push (p_133_53 _ _)).mpr (tt_ret1 (p_133_54 _ _) (ifn h2.2.2 g3)))))))
/-! InclusionProver.same.()I -/
theorem p_134_0 (L : Nat) (xs : Nat → Int32) : ll_P L xs 134 0 = some (.inl (lo_aload 1 0)) := (P_134 L xs 0).trans rfl
theorem p_134_1 (L : Nat) (xs : Nat → Int32) : ll_P L xs 134 1 = some (.inl (lo_getf 4 10 2)) := (P_134 L xs 1).trans rfl
theorem p_134_4 (L : Nat) (xs : Nat → Int32) : ll_P L xs 134 4 = some (.inl (lo_aload 5 0)) := (P_134 L xs 4).trans rfl
theorem p_134_5 (L : Nat) (xs : Nat → Int32) : ll_P L xs 134 5 = some (.inl (lo_getf 8 10 8)) := (P_134 L xs 5).trans rfl
theorem p_134_8 (L : Nat) (xs : Nat → Int32) : ll_P L xs 134 8 = some (.inl (lo_getf 11 3 1)) := (P_134 L xs 8).trans rfl
theorem p_134_11 (L : Nat) (xs : Nat → Int32) : ll_P L xs 134 11 = some (.inl (lo_push 12 (.int 0))) := (P_134 L xs 11).trans rfl
theorem p_134_12 (L : Nat) (xs : Nat → Int32) : ll_P L xs 134 12 = some (.inl (lo_aald 13)) := (P_134 L xs 12).trans rfl
theorem p_134_13 (L : Nat) (xs : Nat → Int32) : ll_P L xs 134 13 = some (.inl (lo_aload 14 0)) := (P_134 L xs 13).trans rfl
theorem p_134_14 (L : Nat) (xs : Nat → Int32) : ll_P L xs 134 14 = some (.inl (lo_getf 17 10 8)) := (P_134 L xs 14).trans rfl
theorem p_134_17 (L : Nat) (xs : Nat → Int32) : ll_P L xs 134 17 = some (.inl (lo_getf 20 3 1)) := (P_134 L xs 17).trans rfl
theorem p_134_20 (L : Nat) (xs : Nat → Int32) : ll_P L xs 134 20 = some (.inl (lo_push 21 (.int 1))) := (P_134 L xs 20).trans rfl
theorem p_134_21 (L : Nat) (xs : Nat → Int32) : ll_P L xs 134 21 = some (.inl (lo_aald 22)) := (P_134 L xs 21).trans rfl
theorem p_134_22 (L : Nat) (xs : Nat → Int32) : ll_P L xs 134 22 = some (.inl (lo_aload 23 0)) := (P_134 L xs 22).trans rfl
theorem p_134_23 (L : Nat) (xs : Nat → Int32) : ll_P L xs 134 23 = some (.inl (lo_getf 26 10 7)) := (P_134 L xs 23).trans rfl
theorem p_134_26 (L : Nat) (xs : Nat → Int32) : ll_P L xs 134 26 = some (.inr (.inl (32, 4, 29))) := (P_134 L xs 26).trans rfl
theorem p_134_29 (L : Nat) (xs : Nat → Int32) : ll_P L xs 134 29 = some (.inl (lo_istore 30 1)) := (P_134 L xs 29).trans rfl
theorem p_134_30 (L : Nat) (xs : Nat → Int32) : ll_P L xs 134 30 = some (.inl (lo_aload 31 0)) := (P_134 L xs 30).trans rfl
theorem p_134_31 (L : Nat) (xs : Nat → Int32) : ll_P L xs 134 31 = some (.inl (lo_getf 34 10 2)) := (P_134 L xs 31).trans rfl
theorem p_134_34 (L : Nat) (xs : Nat → Int32) : ll_P L xs 134 34 = some (.inl (lo_aload 35 0)) := (P_134 L xs 34).trans rfl
theorem p_134_35 (L : Nat) (xs : Nat → Int32) : ll_P L xs 134 35 = some (.inl (lo_getf 38 10 8)) := (P_134 L xs 35).trans rfl
theorem p_134_38 (L : Nat) (xs : Nat → Int32) : ll_P L xs 134 38 = some (.inl (lo_getf 41 3 1)) := (P_134 L xs 38).trans rfl
theorem p_134_41 (L : Nat) (xs : Nat → Int32) : ll_P L xs 134 41 = some (.inl (lo_push 42 (.int 1))) := (P_134 L xs 41).trans rfl
theorem p_134_42 (L : Nat) (xs : Nat → Int32) : ll_P L xs 134 42 = some (.inl (lo_aald 43)) := (P_134 L xs 42).trans rfl
theorem p_134_43 (L : Nat) (xs : Nat → Int32) : ll_P L xs 134 43 = some (.inl (lo_aload 44 0)) := (P_134 L xs 43).trans rfl
theorem p_134_44 (L : Nat) (xs : Nat → Int32) : ll_P L xs 134 44 = some (.inl (lo_getf 47 10 8)) := (P_134 L xs 44).trans rfl
theorem p_134_47 (L : Nat) (xs : Nat → Int32) : ll_P L xs 134 47 = some (.inl (lo_getf 50 3 1)) := (P_134 L xs 47).trans rfl
theorem p_134_50 (L : Nat) (xs : Nat → Int32) : ll_P L xs 134 50 = some (.inl (lo_push 51 (.int 0))) := (P_134 L xs 50).trans rfl
theorem p_134_51 (L : Nat) (xs : Nat → Int32) : ll_P L xs 134 51 = some (.inl (lo_aald 52)) := (P_134 L xs 51).trans rfl
theorem p_134_52 (L : Nat) (xs : Nat → Int32) : ll_P L xs 134 52 = some (.inl (lo_aload 53 0)) := (P_134 L xs 52).trans rfl
theorem p_134_53 (L : Nat) (xs : Nat → Int32) : ll_P L xs 134 53 = some (.inl (lo_getf 56 10 7)) := (P_134 L xs 53).trans rfl
theorem p_134_56 (L : Nat) (xs : Nat → Int32) : ll_P L xs 134 56 = some (.inr (.inl (32, 4, 59))) := (P_134 L xs 56).trans rfl
theorem p_134_59 (L : Nat) (xs : Nat → Int32) : ll_P L xs 134 59 = some (.inl (lo_istore 60 2)) := (P_134 L xs 59).trans rfl
theorem p_134_60 (L : Nat) (xs : Nat → Int32) : ll_P L xs 134 60 = some (.inl (lo_iload 61 1)) := (P_134 L xs 60).trans rfl
theorem p_134_61 (L : Nat) (xs : Nat → Int32) : ll_P L xs 134 61 = some (.inl (lo_push 62 (.int 1))) := (P_134 L xs 61).trans rfl
theorem p_134_62 (L : Nat) (xs : Nat → Int32) : ll_P L xs 134 62 = some (.inl (lo_cmp 70 65 (fun x y => decide (x = y)))) := (P_134 L xs 62).trans rfl
theorem p_134_65 (L : Nat) (xs : Nat → Int32) : ll_P L xs 134 65 = some (.inl (lo_iload 66 2)) := (P_134 L xs 65).trans rfl
theorem p_134_66 (L : Nat) (xs : Nat → Int32) : ll_P L xs 134 66 = some (.inl (lo_push 67 (.int 1))) := (P_134 L xs 66).trans rfl
theorem p_134_67 (L : Nat) (xs : Nat → Int32) : ll_P L xs 134 67 = some (.inl (lo_cmp 72 70 (fun x y => decide (¬ x = y)))) := (P_134 L xs 67).trans rfl
theorem p_134_70 (L : Nat) (xs : Nat → Int32) : ll_P L xs 134 70 = some (.inl (lo_push 71 (.int 0))) := (P_134 L xs 70).trans rfl
theorem p_134_71 (L : Nat) (xs : Nat → Int32) : ll_P L xs 134 71 = some (.inr (.inr 1)) := (P_134 L xs 71).trans rfl
theorem p_134_72 (L : Nat) (xs : Nat → Int32) : ll_P L xs 134 72 = some (.inl (lo_iload 73 1)) := (P_134 L xs 72).trans rfl
theorem p_134_73 (L : Nat) (xs : Nat → Int32) : ll_P L xs 134 73 = some (.inl (lo_push 74 (.int 2))) := (P_134 L xs 73).trans rfl
theorem p_134_74 (L : Nat) (xs : Nat → Int32) : ll_P L xs 134 74 = some (.inl (lo_cmp 82 77 (fun x y => decide (x = y)))) := (P_134 L xs 74).trans rfl
theorem p_134_77 (L : Nat) (xs : Nat → Int32) : ll_P L xs 134 77 = some (.inl (lo_iload 78 2)) := (P_134 L xs 77).trans rfl
theorem p_134_78 (L : Nat) (xs : Nat → Int32) : ll_P L xs 134 78 = some (.inl (lo_push 79 (.int 2))) := (P_134 L xs 78).trans rfl
theorem p_134_79 (L : Nat) (xs : Nat → Int32) : ll_P L xs 134 79 = some (.inl (lo_cmp 86 82 (fun x y => decide (¬ x = y)))) := (P_134 L xs 79).trans rfl
theorem p_134_82 (L : Nat) (xs : Nat → Int32) : ll_P L xs 134 82 = some (.inl (lo_push 83 (.int 2))) := (P_134 L xs 82).trans rfl
theorem p_134_83 (L : Nat) (xs : Nat → Int32) : ll_P L xs 134 83 = some (.inl (lo_goto 87)) := (P_134 L xs 83).trans rfl
theorem p_134_86 (L : Nat) (xs : Nat → Int32) : ll_P L xs 134 86 = some (.inl (lo_push 87 (.int 1))) := (P_134 L xs 86).trans rfl
theorem p_134_87 (L : Nat) (xs : Nat → Int32) : ll_P L xs 134 87 = some (.inr (.inr 1)) := (P_134 L xs 87).trans rfl
theorem b_134_0 {Y : sY} {d : Nat} {s : sT} {K : Option Int32 → sT → Prop} {r0 : Nat} (h : (∃ a1, (isO Y r0 10 ∧ s.2 r0 2 = some a1) ∧ (∃ a3, (isO Y r0 10 ∧ s.2 r0 8 = some a3) ∧ (∃ a5, (isO Y a3 3 ∧ s.2 a3 1 = some a5) ∧ (∃ c9 m7 a8, (isQ Y a5 c9 m7 ∧ inR (0 : Int32) m7 ∧ s.2 a5 ((0 : Int32)).toNatClampNeg = some a8) ∧ (∃ a11, (isO Y r0 10 ∧ s.2 r0 8 = some a11) ∧ (∃ a13, (isO Y a11 3 ∧ s.2 a11 1 = some a13) ∧ (∃ c17 m15 a16, (isQ Y a13 c17 m15 ∧ inR (1 : Int32) m15 ∧ s.2 a13 ((1 : Int32)).toNatClampNeg = some a16) ∧ (∃ a19, (isO Y r0 10 ∧ s.2 r0 7 = some a19) ∧ (isO Y a1 4 ∧ tT Y d 32 0 [.ref a1, .ref a8, .ref a16, .ref a19, .null, .null] [] s (fun r s1 => tT Y (d + 1) 134 29 [.ref r0, .null, .null] ((r.map Value.int).toList ++ []) s1 K))))))))))) : tT Y (d + 1) 134 0 [.ref r0, .null, .null] [] s K :=
  (tt_aload (p_134_0 _ _) rfl).mpr (Exists.elim h (fun a1 h2 => t3_getr (p_134_1 _ _) (isI_10_2) h2.1.1 h2.1.2 ((tt_aload (p_134_4 _ _) rfl).mpr (Exists.elim h2.2 (fun a3 h4 => t3_getr (p_134_5 _ _) (isI_10_8) h4.1.1 h4.1.2 (Exists.elim h4.2 (fun a5 h6 => t3_getr (p_134_8 _ _) (isI_3_1) h6.1.1 h6.1.2 ((tt_push (p_134_11 _ _)).mpr (Exists.elim h6.2 (fun c9 h10q0 => Exists.elim h10q0 (fun m7 h10q1 => Exists.elim h10q1 (fun a8 h10 => t3_aald (p_134_12 _ _) h10.1.1 h10.1.2.1 h10.1.2.2 ((tt_aload (p_134_13 _ _) rfl).mpr (Exists.elim h10.2 (fun a11 h12 => t3_getr (p_134_14 _ _) (isI_10_8) h12.1.1 h12.1.2 (Exists.elim h12.2 (fun a13 h14 => t3_getr (p_134_17 _ _) (isI_3_1) h14.1.1 h14.1.2 ((tt_push (p_134_20 _ _)).mpr (Exists.elim h14.2 (fun c17 h18q0 => Exists.elim h18q0 (fun m15 h18q1 => Exists.elim h18q1 (fun a16 h18 => t3_aald (p_134_21 _ _) h18.1.1 h18.1.2.1 h18.1.2.2 ((tt_aload (p_134_22 _ _) rfl).mpr (Exists.elim h18.2 (fun a19 h20 => t3_getr (p_134_23 _ _) (isI_10_7) h20.1.1 h20.1.2 (t2_callv (z := 32) (k := 4) (i := a1) (as := [.ref a8, .ref a16, .ref a19]) (rest := []) (p_134_26 _ _) mK_32 mL_32 rfl rfl (Nat.le_of_ble_eq_true rfl) rfl (Nat.le_of_ble_eq_true rfl) h20.2.1 h20.2.2))))))))))))))))))))))))))
theorem b_134_29 {Y : sY} {d : Nat} {s : sT} {K : Option Int32 → sT → Prop} {r0 : Nat} {t0 : Int32} (h : (∃ a1, (isO Y r0 10 ∧ s.2 r0 2 = some a1) ∧ (∃ a3, (isO Y r0 10 ∧ s.2 r0 8 = some a3) ∧ (∃ a5, (isO Y a3 3 ∧ s.2 a3 1 = some a5) ∧ (∃ c9 m7 a8, (isQ Y a5 c9 m7 ∧ inR (1 : Int32) m7 ∧ s.2 a5 ((1 : Int32)).toNatClampNeg = some a8) ∧ (∃ a11, (isO Y r0 10 ∧ s.2 r0 8 = some a11) ∧ (∃ a13, (isO Y a11 3 ∧ s.2 a11 1 = some a13) ∧ (∃ c17 m15 a16, (isQ Y a13 c17 m15 ∧ inR (0 : Int32) m15 ∧ s.2 a13 ((0 : Int32)).toNatClampNeg = some a16) ∧ (∃ a19, (isO Y r0 10 ∧ s.2 r0 7 = some a19) ∧ (isO Y a1 4 ∧ tT Y d 32 0 [.ref a1, .ref a8, .ref a16, .ref a19, .null, .null] [] s (fun r s1 => tT Y (d + 1) 134 59 [.ref r0, .int t0, .null] ((r.map Value.int).toList ++ []) s1 K))))))))))) : tT Y (d + 1) 134 29 [.ref r0, .null, .null] [.int t0] s K :=
  (tt_istore (p_134_29 _ _) (Nat.le_of_ble_eq_true rfl) rfl rfl).mpr ((tt_aload (p_134_30 _ _) rfl).mpr (Exists.elim h (fun a1 h2 => t3_getr (p_134_31 _ _) (isI_10_2) h2.1.1 h2.1.2 ((tt_aload (p_134_34 _ _) rfl).mpr (Exists.elim h2.2 (fun a3 h4 => t3_getr (p_134_35 _ _) (isI_10_8) h4.1.1 h4.1.2 (Exists.elim h4.2 (fun a5 h6 => t3_getr (p_134_38 _ _) (isI_3_1) h6.1.1 h6.1.2 ((tt_push (p_134_41 _ _)).mpr (Exists.elim h6.2 (fun c9 h10q0 => Exists.elim h10q0 (fun m7 h10q1 => Exists.elim h10q1 (fun a8 h10 => t3_aald (p_134_42 _ _) h10.1.1 h10.1.2.1 h10.1.2.2 ((tt_aload (p_134_43 _ _) rfl).mpr (Exists.elim h10.2 (fun a11 h12 => t3_getr (p_134_44 _ _) (isI_10_8) h12.1.1 h12.1.2 (Exists.elim h12.2 (fun a13 h14 => t3_getr (p_134_47 _ _) (isI_3_1) h14.1.1 h14.1.2 ((tt_push (p_134_50 _ _)).mpr (Exists.elim h14.2 (fun c17 h18q0 => Exists.elim h18q0 (fun m15 h18q1 => Exists.elim h18q1 (fun a16 h18 => t3_aald (p_134_51 _ _) h18.1.1 h18.1.2.1 h18.1.2.2 ((tt_aload (p_134_52 _ _) rfl).mpr (Exists.elim h18.2 (fun a19 h20 => t3_getr (p_134_53 _ _) (isI_10_7) h20.1.1 h20.1.2 (t2_callv (z := 32) (k := 4) (i := a1) (as := [.ref a8, .ref a16, .ref a19]) (rest := []) (p_134_56 _ _) mK_32 mL_32 rfl rfl (Nat.le_of_ble_eq_true rfl) rfl (Nat.le_of_ble_eq_true rfl) h20.2.1 h20.2.2)))))))))))))))))))))))))))
theorem b_134_59 {Y : sY} {d : Nat} {s : sT} {K : Option Int32 → sT → Prop} {r0 : Nat} {x1 : Int32} {t0 : Int32} (h : (if x1 = (1 : Int32) then K (some (0 : Int32)) s else (if ¬ t0 = (1 : Int32) then (if x1 = (2 : Int32) then K (some (2 : Int32)) s else (if ¬ t0 = (2 : Int32) then K (some (1 : Int32)) s else K (some (2 : Int32)) s)) else K (some (0 : Int32)) s))) : tT Y (d + 1) 134 59 [.ref r0, .int x1, .null] [.int t0] s K :=
  (tt_istore (p_134_59 _ _) (Nat.le_of_ble_eq_true rfl) rfl rfl).mpr ((tt_iload (p_134_60 _ _) rfl).mpr ((tt_push (p_134_61 _ _)).mpr (t3_cmp (p := x1 = (1 : Int32)) (p_134_62 _ _) rfl (fun g1 => (tt_push (p_134_70 _ _)).mpr (tt_ret1 (p_134_71 _ _) (ifp h g1))) (fun g1 => (tt_iload (p_134_65 _ _) rfl).mpr ((tt_push (p_134_66 _ _)).mpr (t3_cmp (p := ¬ t0 = (1 : Int32)) (p_134_67 _ _) rfl (fun g2 => (tt_iload (p_134_72 _ _) rfl).mpr ((tt_push (p_134_73 _ _)).mpr (t3_cmp (p := x1 = (2 : Int32)) (p_134_74 _ _) rfl (fun g3 => (tt_push (p_134_82 _ _)).mpr ((tt_goto (p_134_83 _ _)).mpr (tt_ret1 (p_134_87 _ _) (ifp (ifp (ifn h g1) g2) g3)))) (fun g3 => (tt_iload (p_134_77 _ _) rfl).mpr ((tt_push (p_134_78 _ _)).mpr (t3_cmp (p := ¬ t0 = (2 : Int32)) (p_134_79 _ _) rfl (fun g4 => (tt_push (p_134_86 _ _)).mpr (tt_ret1 (p_134_87 _ _) (ifp (ifn (ifp (ifn h g1) g2) g3) g4))) (fun g4 => (tt_push (p_134_82 _ _)).mpr ((tt_goto (p_134_83 _ _)).mpr (tt_ret1 (p_134_87 _ _) (ifn (ifn (ifp (ifn h g1) g2) g3) g4)))))))))) (fun g2 => (tt_push (p_134_70 _ _)).mpr (tt_ret1 (p_134_71 _ _) (ifn (ifn h g1) g2)))))))))
/-! InclusionProver.between.(II)I -/
theorem p_135_0 (L : Nat) (xs : Nat → Int32) : ll_P L xs 135 0 = some (.inl (lo_iload 1 1)) := (P_135 L xs 0).trans rfl
theorem p_135_1 (L : Nat) (xs : Nat → Int32) : ll_P L xs 135 1 = some (.inr (.inl (139, 1, 4))) := (P_135 L xs 1).trans rfl
theorem p_135_4 (L : Nat) (xs : Nat → Int32) : ll_P L xs 135 4 = some (.inl (lo_if 14 7 (fun x => decide (x = 0)))) := (P_135 L xs 4).trans rfl
theorem p_135_7 (L : Nat) (xs : Nat → Int32) : ll_P L xs 135 7 = some (.inl (lo_iload 8 2)) := (P_135 L xs 7).trans rfl
theorem p_135_8 (L : Nat) (xs : Nat → Int32) : ll_P L xs 135 8 = some (.inr (.inl (139, 1, 11))) := (P_135 L xs 8).trans rfl
theorem p_135_11 (L : Nat) (xs : Nat → Int32) : ll_P L xs 135 11 = some (.inl (lo_if 16 14 (fun x => decide (¬ x = 0)))) := (P_135 L xs 11).trans rfl
theorem p_135_14 (L : Nat) (xs : Nat → Int32) : ll_P L xs 135 14 = some (.inl (lo_push 15 (.int (-1)))) := (P_135 L xs 14).trans rfl
theorem p_135_15 (L : Nat) (xs : Nat → Int32) : ll_P L xs 135 15 = some (.inr (.inr 1)) := (P_135 L xs 15).trans rfl
theorem p_135_16 (L : Nat) (xs : Nat → Int32) : ll_P L xs 135 16 = some (.inl (lo_aload 17 0)) := (P_135 L xs 16).trans rfl
theorem p_135_17 (L : Nat) (xs : Nat → Int32) : ll_P L xs 135 17 = some (.inl (lo_getf 20 10 1)) := (P_135 L xs 17).trans rfl
theorem p_135_20 (L : Nat) (xs : Nat → Int32) : ll_P L xs 135 20 = some (.inl (lo_aload 21 0)) := (P_135 L xs 20).trans rfl
theorem p_135_21 (L : Nat) (xs : Nat → Int32) : ll_P L xs 135 21 = some (.inl (lo_iload 22 1)) := (P_135 L xs 21).trans rfl
theorem p_135_22 (L : Nat) (xs : Nat → Int32) : ll_P L xs 135 22 = some (.inr (.inl (146, 2, 25))) := (P_135 L xs 22).trans rfl
theorem p_135_25 (L : Nat) (xs : Nat → Int32) : ll_P L xs 135 25 = some (.inl (lo_aload 26 0)) := (P_135 L xs 25).trans rfl
theorem p_135_26 (L : Nat) (xs : Nat → Int32) : ll_P L xs 135 26 = some (.inl (lo_getf 29 10 6)) := (P_135 L xs 26).trans rfl
theorem p_135_29 (L : Nat) (xs : Nat → Int32) : ll_P L xs 135 29 = some (.inl (lo_push 30 (.int 0))) := (P_135 L xs 29).trans rfl
theorem p_135_30 (L : Nat) (xs : Nat → Int32) : ll_P L xs 135 30 = some (.inl (lo_aald 31)) := (P_135 L xs 30).trans rfl
theorem p_135_31 (L : Nat) (xs : Nat → Int32) : ll_P L xs 135 31 = some (.inr (.inl (61, 3, 34))) := (P_135 L xs 31).trans rfl
theorem p_135_34 (L : Nat) (xs : Nat → Int32) : ll_P L xs 135 34 = some (.inl (lo_aload 35 0)) := (P_135 L xs 34).trans rfl
theorem p_135_35 (L : Nat) (xs : Nat → Int32) : ll_P L xs 135 35 = some (.inl (lo_getf 38 10 1)) := (P_135 L xs 35).trans rfl
theorem p_135_38 (L : Nat) (xs : Nat → Int32) : ll_P L xs 135 38 = some (.inl (lo_aload 39 0)) := (P_135 L xs 38).trans rfl
theorem p_135_39 (L : Nat) (xs : Nat → Int32) : ll_P L xs 135 39 = some (.inl (lo_iload 40 2)) := (P_135 L xs 39).trans rfl
theorem p_135_40 (L : Nat) (xs : Nat → Int32) : ll_P L xs 135 40 = some (.inr (.inl (146, 2, 43))) := (P_135 L xs 40).trans rfl
theorem p_135_43 (L : Nat) (xs : Nat → Int32) : ll_P L xs 135 43 = some (.inl (lo_aload 44 0)) := (P_135 L xs 43).trans rfl
theorem p_135_44 (L : Nat) (xs : Nat → Int32) : ll_P L xs 135 44 = some (.inl (lo_getf 47 10 6)) := (P_135 L xs 44).trans rfl
theorem p_135_47 (L : Nat) (xs : Nat → Int32) : ll_P L xs 135 47 = some (.inl (lo_push 48 (.int 1))) := (P_135 L xs 47).trans rfl
theorem p_135_48 (L : Nat) (xs : Nat → Int32) : ll_P L xs 135 48 = some (.inl (lo_aald 49)) := (P_135 L xs 48).trans rfl
theorem p_135_49 (L : Nat) (xs : Nat → Int32) : ll_P L xs 135 49 = some (.inr (.inl (61, 3, 52))) := (P_135 L xs 49).trans rfl
theorem p_135_52 (L : Nat) (xs : Nat → Int32) : ll_P L xs 135 52 = some (.inl (lo_aload 53 0)) := (P_135 L xs 52).trans rfl
theorem p_135_53 (L : Nat) (xs : Nat → Int32) : ll_P L xs 135 53 = some (.inl (lo_getf 56 10 2)) := (P_135 L xs 53).trans rfl
theorem p_135_56 (L : Nat) (xs : Nat → Int32) : ll_P L xs 135 56 = some (.inl (lo_aload 57 0)) := (P_135 L xs 56).trans rfl
theorem p_135_57 (L : Nat) (xs : Nat → Int32) : ll_P L xs 135 57 = some (.inl (lo_getf 60 10 6)) := (P_135 L xs 57).trans rfl
theorem p_135_60 (L : Nat) (xs : Nat → Int32) : ll_P L xs 135 60 = some (.inl (lo_push 61 (.int 0))) := (P_135 L xs 60).trans rfl
theorem p_135_61 (L : Nat) (xs : Nat → Int32) : ll_P L xs 135 61 = some (.inl (lo_aald 62)) := (P_135 L xs 61).trans rfl
theorem p_135_62 (L : Nat) (xs : Nat → Int32) : ll_P L xs 135 62 = some (.inl (lo_aload 63 0)) := (P_135 L xs 62).trans rfl
theorem p_135_63 (L : Nat) (xs : Nat → Int32) : ll_P L xs 135 63 = some (.inl (lo_getf 66 10 6)) := (P_135 L xs 63).trans rfl
theorem p_135_66 (L : Nat) (xs : Nat → Int32) : ll_P L xs 135 66 = some (.inl (lo_push 67 (.int 1))) := (P_135 L xs 66).trans rfl
theorem p_135_67 (L : Nat) (xs : Nat → Int32) : ll_P L xs 135 67 = some (.inl (lo_aald 68)) := (P_135 L xs 67).trans rfl
theorem p_135_68 (L : Nat) (xs : Nat → Int32) : ll_P L xs 135 68 = some (.inl (lo_aload 69 0)) := (P_135 L xs 68).trans rfl
theorem p_135_69 (L : Nat) (xs : Nat → Int32) : ll_P L xs 135 69 = some (.inl (lo_getf 72 10 7)) := (P_135 L xs 69).trans rfl
theorem p_135_72 (L : Nat) (xs : Nat → Int32) : ll_P L xs 135 72 = some (.inr (.inl (32, 4, 75))) := (P_135 L xs 72).trans rfl
theorem p_135_75 (L : Nat) (xs : Nat → Int32) : ll_P L xs 135 75 = some (.inr (.inr 1)) := (P_135 L xs 75).trans rfl
theorem b_135_0 {Y : sY} {d : Nat} {s : sT} {K : Option Int32 → sT → Prop} {r0 : Nat} {x1 : Int32} {x2 : Int32} (h : tT Y d 139 0 [.int x1] [] s (fun r s1 => tT Y (d + 1) 135 4 [.ref r0, .int x1, .int x2] ((r.map Value.int).toList ++ []) s1 K)) : tT Y (d + 1) 135 0 [.ref r0, .int x1, .int x2] [] s K :=
  (tt_iload (p_135_0 _ _) rfl).mpr (t2_calls (z := 139) (k := 1) (as := [.int x1]) (rest := []) (p_135_1 _ _) mK_139 mL_139 rfl rfl (Nat.le_of_ble_eq_true rfl) rfl (Nat.le_of_ble_eq_true rfl) h)
theorem b_135_4 {Y : sY} {d : Nat} {s : sT} {K : Option Int32 → sT → Prop} {r0 : Nat} {x1 : Int32} {x2 : Int32} {t0 : Int32} (h : (if t0 = 0 then K (some (-1 : Int32)) s else tT Y d 139 0 [.int x2] [] s (fun r s1 => tT Y (d + 1) 135 11 [.ref r0, .int x1, .int x2] ((r.map Value.int).toList ++ []) s1 K))) : tT Y (d + 1) 135 4 [.ref r0, .int x1, .int x2] [.int t0] s K :=
  t3_if (p := t0 = 0) (p_135_4 _ _) rfl (fun g1 => (tt_push (p_135_14 _ _)).mpr (tt_ret1 (p_135_15 _ _) (ifp h g1))) (fun g1 => (tt_iload (p_135_7 _ _) rfl).mpr (t2_calls (z := 139) (k := 1) (as := [.int x2]) (rest := []) (p_135_8 _ _) mK_139 mL_139 rfl rfl (Nat.le_of_ble_eq_true rfl) rfl (Nat.le_of_ble_eq_true rfl) (ifn h g1)))
theorem b_135_11 {Y : sY} {d : Nat} {s : sT} {K : Option Int32 → sT → Prop} {r0 : Nat} {x1 : Int32} {x2 : Int32} {t0 : Int32} (h : (if ¬ t0 = 0 then (∃ a2, (isO Y r0 10 ∧ s.2 r0 1 = some a2) ∧ (isO Y r0 10 ∧ tT Y d 146 0 [.ref r0, .int x1, .null, .null] [] s (fun r s1 => tT Y (d + 1) 135 25 [.ref r0, .int x1, .int x2] ((r.map Value.int).toList ++ [.ref a2]) s1 K))) else K (some (-1 : Int32)) s)) : tT Y (d + 1) 135 11 [.ref r0, .int x1, .int x2] [.int t0] s K :=
  t3_if (p := ¬ t0 = 0) (p_135_11 _ _) rfl (fun g1 => (tt_aload (p_135_16 _ _) rfl).mpr (Exists.elim (ifp h g1) (fun a2 h3 => t3_getr (p_135_17 _ _) (isI_10_1) h3.1.1 h3.1.2 ((tt_aload (p_135_20 _ _) rfl).mpr ((tt_iload (p_135_21 _ _) rfl).mpr (t2_callv (z := 146) (k := 2) (i := r0) (as := [.int x1]) (rest := [.ref a2]) (p_135_22 _ _) mK_146 mL_146 rfl rfl (Nat.le_of_ble_eq_true rfl) rfl (Nat.le_of_ble_eq_true rfl) h3.2.1 h3.2.2)))))) (fun g1 => (tt_push (p_135_14 _ _)).mpr (tt_ret1 (p_135_15 _ _) (ifn h g1)))
theorem b_135_25 {Y : sY} {d : Nat} {s : sT} {K : Option Int32 → sT → Prop} {r0 : Nat} {x1 : Int32} {x2 : Int32} {t0 : Nat} {t1 : Int32} (h : (∃ a1, (isO Y r0 10 ∧ s.2 r0 6 = some a1) ∧ (∃ c5 m3 a4, (isQ Y a1 c5 m3 ∧ inR (0 : Int32) m3 ∧ s.2 a1 ((0 : Int32)).toNatClampNeg = some a4) ∧ (isO Y t0 6 ∧ tT Y d 61 0 [.ref t0, .int t1, .ref a4, .null, .null] [] s (fun r s1 => tT Y (d + 1) 135 34 [.ref r0, .int x1, .int x2] ((r.map Value.int).toList ++ []) s1 K))))) : tT Y (d + 1) 135 25 [.ref r0, .int x1, .int x2] [.int t1, .ref t0] s K :=
  (tt_aload (p_135_25 _ _) rfl).mpr (Exists.elim h (fun a1 h2 => t3_getr (p_135_26 _ _) (isI_10_6) h2.1.1 h2.1.2 ((tt_push (p_135_29 _ _)).mpr (Exists.elim h2.2 (fun c5 h6q0 => Exists.elim h6q0 (fun m3 h6q1 => Exists.elim h6q1 (fun a4 h6 => t3_aald (p_135_30 _ _) h6.1.1 h6.1.2.1 h6.1.2.2 (t2_callv (z := 61) (k := 3) (i := t0) (as := [.int t1, .ref a4]) (rest := []) (p_135_31 _ _) mK_61 mL_61 rfl rfl (Nat.le_of_ble_eq_true rfl) rfl (Nat.le_of_ble_eq_true rfl) h6.2.1 h6.2.2))))))))
theorem b_135_34 {Y : sY} {d : Nat} {s : sT} {K : Option Int32 → sT → Prop} {r0 : Nat} {x1 : Int32} {x2 : Int32} (h : (∃ a1, (isO Y r0 10 ∧ s.2 r0 1 = some a1) ∧ (isO Y r0 10 ∧ tT Y d 146 0 [.ref r0, .int x2, .null, .null] [] s (fun r s1 => tT Y (d + 1) 135 43 [.ref r0, .int x1, .int x2] ((r.map Value.int).toList ++ [.ref a1]) s1 K)))) : tT Y (d + 1) 135 34 [.ref r0, .int x1, .int x2] [] s K :=
  (tt_aload (p_135_34 _ _) rfl).mpr (Exists.elim h (fun a1 h2 => t3_getr (p_135_35 _ _) (isI_10_1) h2.1.1 h2.1.2 ((tt_aload (p_135_38 _ _) rfl).mpr ((tt_iload (p_135_39 _ _) rfl).mpr (t2_callv (z := 146) (k := 2) (i := r0) (as := [.int x2]) (rest := [.ref a1]) (p_135_40 _ _) mK_146 mL_146 rfl rfl (Nat.le_of_ble_eq_true rfl) rfl (Nat.le_of_ble_eq_true rfl) h2.2.1 h2.2.2)))))
theorem b_135_43 {Y : sY} {d : Nat} {s : sT} {K : Option Int32 → sT → Prop} {r0 : Nat} {x1 : Int32} {x2 : Int32} {t0 : Nat} {t1 : Int32} (h : (∃ a1, (isO Y r0 10 ∧ s.2 r0 6 = some a1) ∧ (∃ c5 m3 a4, (isQ Y a1 c5 m3 ∧ inR (1 : Int32) m3 ∧ s.2 a1 ((1 : Int32)).toNatClampNeg = some a4) ∧ (isO Y t0 6 ∧ tT Y d 61 0 [.ref t0, .int t1, .ref a4, .null, .null] [] s (fun r s1 => tT Y (d + 1) 135 52 [.ref r0, .int x1, .int x2] ((r.map Value.int).toList ++ []) s1 K))))) : tT Y (d + 1) 135 43 [.ref r0, .int x1, .int x2] [.int t1, .ref t0] s K :=
  (tt_aload (p_135_43 _ _) rfl).mpr (Exists.elim h (fun a1 h2 => t3_getr (p_135_44 _ _) (isI_10_6) h2.1.1 h2.1.2 ((tt_push (p_135_47 _ _)).mpr (Exists.elim h2.2 (fun c5 h6q0 => Exists.elim h6q0 (fun m3 h6q1 => Exists.elim h6q1 (fun a4 h6 => t3_aald (p_135_48 _ _) h6.1.1 h6.1.2.1 h6.1.2.2 (t2_callv (z := 61) (k := 3) (i := t0) (as := [.int t1, .ref a4]) (rest := []) (p_135_49 _ _) mK_61 mL_61 rfl rfl (Nat.le_of_ble_eq_true rfl) rfl (Nat.le_of_ble_eq_true rfl) h6.2.1 h6.2.2))))))))
theorem b_135_52 {Y : sY} {d : Nat} {s : sT} {K : Option Int32 → sT → Prop} {r0 : Nat} {x1 : Int32} {x2 : Int32} (h : (∃ a1, (isO Y r0 10 ∧ s.2 r0 2 = some a1) ∧ (∃ a3, (isO Y r0 10 ∧ s.2 r0 6 = some a3) ∧ (∃ c7 m5 a6, (isQ Y a3 c7 m5 ∧ inR (0 : Int32) m5 ∧ s.2 a3 ((0 : Int32)).toNatClampNeg = some a6) ∧ (∃ a9, (isO Y r0 10 ∧ s.2 r0 6 = some a9) ∧ (∃ c13 m11 a12, (isQ Y a9 c13 m11 ∧ inR (1 : Int32) m11 ∧ s.2 a9 ((1 : Int32)).toNatClampNeg = some a12) ∧ (∃ a15, (isO Y r0 10 ∧ s.2 r0 7 = some a15) ∧ (isO Y a1 4 ∧ tT Y d 32 0 [.ref a1, .ref a6, .ref a12, .ref a15, .null, .null] [] s (fun r s1 => tT Y (d + 1) 135 75 [.ref r0, .int x1, .int x2] ((r.map Value.int).toList ++ []) s1 K))))))))) : tT Y (d + 1) 135 52 [.ref r0, .int x1, .int x2] [] s K :=
  (tt_aload (p_135_52 _ _) rfl).mpr (Exists.elim h (fun a1 h2 => t3_getr (p_135_53 _ _) (isI_10_2) h2.1.1 h2.1.2 ((tt_aload (p_135_56 _ _) rfl).mpr (Exists.elim h2.2 (fun a3 h4 => t3_getr (p_135_57 _ _) (isI_10_6) h4.1.1 h4.1.2 ((tt_push (p_135_60 _ _)).mpr (Exists.elim h4.2 (fun c7 h8q0 => Exists.elim h8q0 (fun m5 h8q1 => Exists.elim h8q1 (fun a6 h8 => t3_aald (p_135_61 _ _) h8.1.1 h8.1.2.1 h8.1.2.2 ((tt_aload (p_135_62 _ _) rfl).mpr (Exists.elim h8.2 (fun a9 h10 => t3_getr (p_135_63 _ _) (isI_10_6) h10.1.1 h10.1.2 ((tt_push (p_135_66 _ _)).mpr (Exists.elim h10.2 (fun c13 h14q0 => Exists.elim h14q0 (fun m11 h14q1 => Exists.elim h14q1 (fun a12 h14 => t3_aald (p_135_67 _ _) h14.1.1 h14.1.2.1 h14.1.2.2 ((tt_aload (p_135_68 _ _) rfl).mpr (Exists.elim h14.2 (fun a15 h16 => t3_getr (p_135_69 _ _) (isI_10_7) h16.1.1 h16.1.2 (t2_callv (z := 32) (k := 4) (i := a1) (as := [.ref a6, .ref a12, .ref a15]) (rest := []) (p_135_72 _ _) mK_32 mL_32 rfl rfl (Nat.le_of_ble_eq_true rfl) rfl (Nat.le_of_ble_eq_true rfl) h16.2.1 h16.2.2))))))))))))))))))))))
theorem b_135_75 {Y : sY} {d : Nat} {s : sT} {K : Option Int32 → sT → Prop} {r0 : Nat} {x1 : Int32} {x2 : Int32} {t0 : Int32} (h : K (some t0) s) : tT Y (d + 1) 135 75 [.ref r0, .int x1, .int x2] [.int t0] s K :=
  tt_ret1 (p_135_75 _ _) h
