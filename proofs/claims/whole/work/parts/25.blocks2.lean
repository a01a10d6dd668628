/-! BLOCKS (written by wip/whole/blocks.py) -/
/-! InclusionProver$Search.run.(LInclusionProver$Side;LInclusionProver$Side;LInclusionProver$Lines;)I -/
theorem p_32_0 (L : Nat) (xs : Nat → Int32) : ll_P L xs 32 0 = some (.inl (lo_aload 1 0)) := (P_32 L xs 0).trans rfl
theorem p_32_1 (L : Nat) (xs : Nat → Int32) : ll_P L xs 32 1 = some (.inl (lo_aload 2 1)) := (P_32 L xs 1).trans rfl
theorem p_32_2 (L : Nat) (xs : Nat → Int32) : ll_P L xs 32 2 = some (.inl (lo_putf 5 4 7 2)) := (P_32 L xs 2).trans rfl
theorem p_32_5 (L : Nat) (xs : Nat → Int32) : ll_P L xs 32 5 = some (.inl (lo_aload 6 0)) := (P_32 L xs 5).trans rfl
theorem p_32_6 (L : Nat) (xs : Nat → Int32) : ll_P L xs 32 6 = some (.inl (lo_aload 7 2)) := (P_32 L xs 6).trans rfl
theorem p_32_7 (L : Nat) (xs : Nat → Int32) : ll_P L xs 32 7 = some (.inl (lo_putf 10 4 8 2)) := (P_32 L xs 7).trans rfl
theorem p_32_10 (L : Nat) (xs : Nat → Int32) : ll_P L xs 32 10 = some (.inl (lo_aload 11 0)) := (P_32 L xs 10).trans rfl
theorem p_32_11 (L : Nat) (xs : Nat → Int32) : ll_P L xs 32 11 = some (.inl (lo_aload 12 3)) := (P_32 L xs 11).trans rfl
theorem p_32_12 (L : Nat) (xs : Nat → Int32) : ll_P L xs 32 12 = some (.inl (lo_putf 15 4 9 2)) := (P_32 L xs 12).trans rfl
theorem p_32_15 (L : Nat) (xs : Nat → Int32) : ll_P L xs 32 15 = some (.inl (lo_aload 16 0)) := (P_32 L xs 15).trans rfl
theorem p_32_16 (L : Nat) (xs : Nat → Int32) : ll_P L xs 32 16 = some (.inl (lo_getf 19 4 9)) := (P_32 L xs 16).trans rfl
theorem p_32_19 (L : Nat) (xs : Nat → Int32) : ll_P L xs 32 19 = some (.inr (.inl (9, 1, 22))) := (P_32 L xs 19).trans rfl
theorem p_32_22 (L : Nat) (xs : Nat → Int32) : ll_P L xs 32 22 = some (.inl (lo_push 23 (.int 0))) := (P_32 L xs 22).trans rfl
theorem p_32_23 (L : Nat) (xs : Nat → Int32) : ll_P L xs 32 23 = some (.inl (lo_istore 25 4)) := (P_32 L xs 23).trans rfl
theorem p_32_25 (L : Nat) (xs : Nat → Int32) : ll_P L xs 32 25 = some (.inl (lo_iload 27 4)) := (P_32 L xs 25).trans rfl
theorem p_32_27 (L : Nat) (xs : Nat → Int32) : ll_P L xs 32 27 = some (.inl (lo_aload 28 0)) := (P_32 L xs 27).trans rfl
theorem p_32_28 (L : Nat) (xs : Nat → Int32) : ll_P L xs 32 28 = some (.inl (lo_getf 31 4 7)) := (P_32 L xs 28).trans rfl
theorem p_32_31 (L : Nat) (xs : Nat → Int32) : ll_P L xs 32 31 = some (.inl (lo_getf 34 5 6)) := (P_32 L xs 31).trans rfl
theorem p_32_34 (L : Nat) (xs : Nat → Int32) : ll_P L xs 32 34 = some (.inl (lo_cmp 71 37 (fun x y => decide (y ≤ x)))) := (P_32 L xs 34).trans rfl
theorem p_32_37 (L : Nat) (xs : Nat → Int32) : ll_P L xs 32 37 = some (.inl (lo_aload 38 0)) := (P_32 L xs 37).trans rfl
theorem p_32_38 (L : Nat) (xs : Nat → Int32) : ll_P L xs 32 38 = some (.inl (lo_getf 41 4 3)) := (P_32 L xs 38).trans rfl
theorem p_32_41 (L : Nat) (xs : Nat → Int32) : ll_P L xs 32 41 = some (.inl (lo_iload 43 4)) := (P_32 L xs 41).trans rfl
theorem p_32_43 (L : Nat) (xs : Nat → Int32) : ll_P L xs 32 43 = some (.inl (lo_push 44 (.int (-1)))) := (P_32 L xs 43).trans rfl
theorem p_32_44 (L : Nat) (xs : Nat → Int32) : ll_P L xs 32 44 = some (.inl (lo_ast 45 0)) := (P_32 L xs 44).trans rfl
theorem p_32_45 (L : Nat) (xs : Nat → Int32) : ll_P L xs 32 45 = some (.inl (lo_aload 46 0)) := (P_32 L xs 45).trans rfl
theorem p_32_46 (L : Nat) (xs : Nat → Int32) : ll_P L xs 32 46 = some (.inl (lo_getf 49 4 6)) := (P_32 L xs 46).trans rfl
theorem p_32_49 (L : Nat) (xs : Nat → Int32) : ll_P L xs 32 49 = some (.inl (lo_iload 51 4)) := (P_32 L xs 49).trans rfl
theorem p_32_51 (L : Nat) (xs : Nat → Int32) : ll_P L xs 32 51 = some (.inl (lo_aload 52 0)) := (P_32 L xs 51).trans rfl
theorem p_32_52 (L : Nat) (xs : Nat → Int32) : ll_P L xs 32 52 = some (.inl (lo_getf 55 4 8)) := (P_32 L xs 52).trans rfl
theorem p_32_55 (L : Nat) (xs : Nat → Int32) : ll_P L xs 32 55 = some (.inl (lo_aload 56 0)) := (P_32 L xs 55).trans rfl
theorem p_32_56 (L : Nat) (xs : Nat → Int32) : ll_P L xs 32 56 = some (.inl (lo_getf 59 4 7)) := (P_32 L xs 56).trans rfl
theorem p_32_59 (L : Nat) (xs : Nat → Int32) : ll_P L xs 32 59 = some (.inl (lo_iload 61 4)) := (P_32 L xs 59).trans rfl
theorem p_32_61 (L : Nat) (xs : Nat → Int32) : ll_P L xs 32 61 = some (.inr (.inl (55, 3, 64))) := (P_32 L xs 61).trans rfl
theorem p_32_64 (L : Nat) (xs : Nat → Int32) : ll_P L xs 32 64 = some (.inl (lo_ast 65 0)) := (P_32 L xs 64).trans rfl
theorem p_32_65 (L : Nat) (xs : Nat → Int32) : ll_P L xs 32 65 = some (.inl (lo_iinc 68 4 1)) := (P_32 L xs 65).trans rfl
theorem p_32_68 (L : Nat) (xs : Nat → Int32) : ll_P L xs 32 68 = some (.inl (lo_goto 25)) := (P_32 L xs 68).trans rfl
theorem p_32_71 (L : Nat) (xs : Nat → Int32) : ll_P L xs 32 71 = some (.inl (lo_aload 72 0)) := (P_32 L xs 71).trans rfl
theorem p_32_72 (L : Nat) (xs : Nat → Int32) : ll_P L xs 32 72 = some (.inl (lo_push 73 (.int 0))) := (P_32 L xs 72).trans rfl
theorem p_32_73 (L : Nat) (xs : Nat → Int32) : ll_P L xs 32 73 = some (.inl (lo_push 74 (.int 1))) := (P_32 L xs 73).trans rfl
theorem p_32_74 (L : Nat) (xs : Nat → Int32) : ll_P L xs 32 74 = some (.inl (lo_push 75 (.int (-1)))) := (P_32 L xs 74).trans rfl
theorem p_32_75 (L : Nat) (xs : Nat → Int32) : ll_P L xs 32 75 = some (.inl (lo_push 76 (.int 0))) := (P_32 L xs 75).trans rfl
theorem p_32_76 (L : Nat) (xs : Nat → Int32) : ll_P L xs 32 76 = some (.inr (.inl (36, 5, 79))) := (P_32 L xs 76).trans rfl
theorem p_32_79 (L : Nat) (xs : Nat → Int32) : ll_P L xs 32 79 = some (.inl (lo_pop 80)) := (P_32 L xs 79).trans rfl
theorem p_32_80 (L : Nat) (xs : Nat → Int32) : ll_P L xs 32 80 = some (.inl (lo_push 81 (.int 0))) := (P_32 L xs 80).trans rfl
theorem p_32_81 (L : Nat) (xs : Nat → Int32) : ll_P L xs 32 81 = some (.inl (lo_istore 83 4)) := (P_32 L xs 81).trans rfl
theorem p_32_83 (L : Nat) (xs : Nat → Int32) : ll_P L xs 32 83 = some (.inl (lo_push 84 (.int 0))) := (P_32 L xs 83).trans rfl
theorem p_32_84 (L : Nat) (xs : Nat → Int32) : ll_P L xs 32 84 = some (.inl (lo_istore 86 5)) := (P_32 L xs 84).trans rfl
theorem p_32_86 (L : Nat) (xs : Nat → Int32) : ll_P L xs 32 86 = some (.inl (lo_iload 88 5)) := (P_32 L xs 86).trans rfl
theorem p_32_88 (L : Nat) (xs : Nat → Int32) : ll_P L xs 32 88 = some (.inl (lo_push 91 (.int 300))) := (P_32 L xs 88).trans rfl
theorem p_32_91 (L : Nat) (xs : Nat → Int32) : ll_P L xs 32 91 = some (.inl (lo_cmp 125 94 (fun x y => decide (y ≤ x)))) := (P_32 L xs 91).trans rfl
theorem p_32_94 (L : Nat) (xs : Nat → Int32) : ll_P L xs 32 94 = some (.inl (lo_iload 96 5)) := (P_32 L xs 94).trans rfl
theorem p_32_96 (L : Nat) (xs : Nat → Int32) : ll_P L xs 32 96 = some (.inl (lo_aload 97 0)) := (P_32 L xs 96).trans rfl
theorem p_32_97 (L : Nat) (xs : Nat → Int32) : ll_P L xs 32 97 = some (.inl (lo_getf 100 4 9)) := (P_32 L xs 97).trans rfl
theorem p_32_100 (L : Nat) (xs : Nat → Int32) : ll_P L xs 32 100 = some (.inl (lo_getf 103 1 8)) := (P_32 L xs 100).trans rfl
theorem p_32_103 (L : Nat) (xs : Nat → Int32) : ll_P L xs 32 103 = some (.inl (lo_cmp 125 106 (fun x y => decide (y ≤ x)))) := (P_32 L xs 103).trans rfl
theorem p_32_106 (L : Nat) (xs : Nat → Int32) : ll_P L xs 32 106 = some (.inl (lo_iload 108 4)) := (P_32 L xs 106).trans rfl
theorem p_32_108 (L : Nat) (xs : Nat → Int32) : ll_P L xs 32 108 = some (.inl (lo_if 125 111 (fun x => decide (¬ x = 0)))) := (P_32 L xs 108).trans rfl
theorem p_32_111 (L : Nat) (xs : Nat → Int32) : ll_P L xs 32 111 = some (.inl (lo_aload 112 0)) := (P_32 L xs 111).trans rfl
theorem p_32_112 (L : Nat) (xs : Nat → Int32) : ll_P L xs 32 112 = some (.inl (lo_iload 114 5)) := (P_32 L xs 112).trans rfl
theorem p_32_114 (L : Nat) (xs : Nat → Int32) : ll_P L xs 32 114 = some (.inr (.inl (33, 2, 117))) := (P_32 L xs 114).trans rfl
theorem p_32_117 (L : Nat) (xs : Nat → Int32) : ll_P L xs 32 117 = some (.inl (lo_istore 119 4)) := (P_32 L xs 117).trans rfl
theorem p_32_119 (L : Nat) (xs : Nat → Int32) : ll_P L xs 32 119 = some (.inl (lo_iinc 122 5 1)) := (P_32 L xs 119).trans rfl
theorem p_32_122 (L : Nat) (xs : Nat → Int32) : ll_P L xs 32 122 = some (.inl (lo_goto 86)) := (P_32 L xs 122).trans rfl
theorem p_32_125 (L : Nat) (xs : Nat → Int32) : ll_P L xs 32 125 = some (.inl (lo_iload 127 4)) := (P_32 L xs 125).trans rfl
theorem p_32_127 (L : Nat) (xs : Nat → Int32) : ll_P L xs 32 127 = some (.inr (.inr 1)) := (P_32 L xs 127).trans rfl
theorem b_32_0 {Y : sY} {d : Nat} {s : sT} {K : Option Int32 → sT → Prop} {r0 : Nat} {r1 : Nat} {r2 : Nat} {r3 : Nat} (h : (isO Y r0 4 ∧ (isO Y r0 4 ∧ (isO Y r0 4 ∧ (∃ a1, (isO Y r0 4 ∧ (pR (pR (pR s r0 7 (some r1)) r0 8 (some r2)) r0 9 (some r3)).2 r0 9 = some a1) ∧ (isO Y a1 1 ∧ tT Y d 9 0 [.ref a1] [] (pR (pR (pR s r0 7 (some r1)) r0 8 (some r2)) r0 9 (some r3)) (fun r s1 => tT Y (d + 1) 32 22 [.ref r0, .ref r1, .ref r2, .ref r3, .null, .null] ((r.map Value.int).toList ++ []) s1 K))))))) : tT Y (d + 1) 32 0 [.ref r0, .ref r1, .ref r2, .ref r3, .null, .null] [] s K :=
  (tt_aload (p_32_0 _ _) rfl).mpr ((tt_aload (p_32_1 _ _) rfl).mpr ((t2_putr (p_32_2 _ _) isI_4_7 h.1).mpr ((tt_aload (p_32_5 _ _) rfl).mpr ((tt_aload (p_32_6 _ _) rfl).mpr ((t2_putr (p_32_7 _ _) isI_4_8 h.2.1).mpr ((tt_aload (p_32_10 _ _) rfl).mpr ((tt_aload (p_32_11 _ _) rfl).mpr ((t2_putr (p_32_12 _ _) isI_4_9 h.2.2.1).mpr ((tt_aload (p_32_15 _ _) rfl).mpr (Exists.elim h.2.2.2 (fun a1 h2 => t3_getr (p_32_16 _ _) (isI_4_9) h2.1.1 h2.1.2 (t2_callv (z := 9) (k := 1) (i := a1) (as := []) (rest := []) (p_32_19 _ _) mK_9 mL_9 rfl rfl (Nat.le_of_ble_eq_true rfl) rfl (Nat.le_of_ble_eq_true rfl) h2.2.1 h2.2.2))))))))))))
theorem b_32_22 {Y : sY} {d : Nat} {s : sT} {K : Option Int32 → sT → Prop} {r0 : Nat} {r1 : Nat} {r2 : Nat} {r3 : Nat} (h : tT Y (d + 1) 32 25 [.ref r0, .ref r1, .ref r2, .ref r3, .int (0 : Int32), .null] [] s K) : tT Y (d + 1) 32 22 [.ref r0, .ref r1, .ref r2, .ref r3, .null, .null] [] s K :=
  (tt_push (p_32_22 _ _)).mpr ((tt_istore (p_32_23 _ _) (Nat.le_of_ble_eq_true rfl) rfl rfl).mpr (h))
theorem b_32_25 {Y : sY} {d : Nat} {s : sT} {K : Option Int32 → sT → Prop} {r0 : Nat} {r1 : Nat} {r2 : Nat} {r3 : Nat} {x4 : Int32} (h : (∃ a1, (isO Y r0 4 ∧ s.2 r0 7 = some a1) ∧ (isO Y a1 5 ∧ (if (s.1 a1 6) ≤ x4 then (isO Y r0 4 ∧ tT Y d 36 0 [.ref r0, .int (0 : Int32), .int (1 : Int32), .int (-1 : Int32), .int (0 : Int32), .null] [] s (fun r s1 => tT Y (d + 1) 32 79 [.ref r0, .ref r1, .ref r2, .ref r3, .int x4, .null] ((r.map Value.int).toList ++ []) s1 K)) else (∃ a4, (isO Y r0 4 ∧ s.2 r0 3 = some a4) ∧ (∃ m6, (isA Y a4 0 m6 ∧ inR x4 m6) ∧ (∃ a8, (isO Y r0 4 ∧ (pV s a4 (x4).toNatClampNeg (-1 : Int32)).2 r0 6 = some a8) ∧ (∃ a10, (isO Y r0 4 ∧ (pV s a4 (x4).toNatClampNeg (-1 : Int32)).2 r0 8 = some a10) ∧ (∃ a12, (isO Y r0 4 ∧ (pV s a4 (x4).toNatClampNeg (-1 : Int32)).2 r0 7 = some a12) ∧ (isO Y a10 5 ∧ tT Y d 55 0 [.ref a10, .ref a12, .int x4, .null] [] (pV s a4 (x4).toNatClampNeg (-1 : Int32)) (fun r s1 => tT Y (d + 1) 32 64 [.ref r0, .ref r1, .ref r2, .ref r3, .int x4, .null] ((r.map Value.int).toList ++ [.int x4, .ref a8]) s1 K))))))))))) : tT Y (d + 1) 32 25 [.ref r0, .ref r1, .ref r2, .ref r3, .int x4, .null] [] s K :=
  (tt_iload (p_32_25 _ _) rfl).mpr ((tt_aload (p_32_27 _ _) rfl).mpr (Exists.elim h (fun a1 h2 => t3_getr (p_32_28 _ _) (isI_4_7) h2.1.1 h2.1.2 (t3_geti (p_32_31 _ _) (isI_5_6) h2.2.1 (t3_cmp (p := (s.1 a1 6) ≤ x4) (p_32_34 _ _) rfl (fun g3 => (tt_aload (p_32_71 _ _) rfl).mpr ((tt_push (p_32_72 _ _)).mpr ((tt_push (p_32_73 _ _)).mpr ((tt_push (p_32_74 _ _)).mpr ((tt_push (p_32_75 _ _)).mpr (t2_callv (z := 36) (k := 5) (i := r0) (as := [.int (0 : Int32), .int (1 : Int32), .int (-1 : Int32), .int (0 : Int32)]) (rest := []) (p_32_76 _ _) mK_36 mL_36 rfl rfl (Nat.le_of_ble_eq_true rfl) rfl (Nat.le_of_ble_eq_true rfl) (ifp h2.2.2 g3).1 (ifp h2.2.2 g3).2)))))) (fun g3 => (tt_aload (p_32_37 _ _) rfl).mpr (Exists.elim (ifn h2.2.2 g3) (fun a4 h5 => t3_getr (p_32_38 _ _) (isI_4_3) h5.1.1 h5.1.2 ((tt_iload (p_32_41 _ _) rfl).mpr ((tt_push (p_32_43 _ _)).mpr (Exists.elim h5.2 (fun m6 h7 => t3_ast (p_32_44 _ _) h7.1.1 h7.1.2 ((tt_aload (p_32_45 _ _) rfl).mpr (Exists.elim h7.2 (fun a8 h9 => t3_getr (p_32_46 _ _) (isI_4_6) h9.1.1 h9.1.2 ((tt_iload (p_32_49 _ _) rfl).mpr ((tt_aload (p_32_51 _ _) rfl).mpr (Exists.elim h9.2 (fun a10 h11 => t3_getr (p_32_52 _ _) (isI_4_8) h11.1.1 h11.1.2 ((tt_aload (p_32_55 _ _) rfl).mpr (Exists.elim h11.2 (fun a12 h13 => t3_getr (p_32_56 _ _) (isI_4_7) h13.1.1 h13.1.2 ((tt_iload (p_32_59 _ _) rfl).mpr (t2_callv (z := 55) (k := 3) (i := a10) (as := [.ref a12, .int x4]) (rest := [.int x4, .ref a8]) (p_32_61 _ _) mK_55 mL_55 rfl rfl (Nat.le_of_ble_eq_true rfl) rfl (Nat.le_of_ble_eq_true rfl) h13.2.1 h13.2.2))))))))))))))))))))))))
theorem b_32_64 {Y : sY} {d : Nat} {s : sT} {K : Option Int32 → sT → Prop} {r0 : Nat} {r1 : Nat} {r2 : Nat} {r3 : Nat} {x4 : Int32} {t0 : Nat} {t1 : Int32} {t2 : Int32} (h : (∃ m1, (isA Y t0 0 m1 ∧ inR t1 m1) ∧ tT Y (d + 1) 32 25 [.ref r0, .ref r1, .ref r2, .ref r3, .int (x4 + 1), .null] [] (pV s t0 (t1).toNatClampNeg t2) K)) : tT Y (d + 1) 32 64 [.ref r0, .ref r1, .ref r2, .ref r3, .int x4, .null] [.int t2, .int t1, .ref t0] s K :=
  Exists.elim h (fun m1 h2 => t3_ast (p_32_64 _ _) h2.1.1 h2.1.2 ((tt_iinc (p_32_65 _ _) rfl rfl rfl).mpr ((tt_goto (p_32_68 _ _)).mpr (h2.2))))
theorem b_32_79 {Y : sY} {d : Nat} {s : sT} {K : Option Int32 → sT → Prop} {r0 : Nat} {r1 : Nat} {r2 : Nat} {r3 : Nat} {x4 : Int32} {t0 : Int32} (h : tT Y (d + 1) 32 86 [.ref r0, .ref r1, .ref r2, .ref r3, .int (0 : Int32), .int (0 : Int32)] [] s K) : tT Y (d + 1) 32 79 [.ref r0, .ref r1, .ref r2, .ref r3, .int x4, .null] [.int t0] s K :=
  (tt_popi (p_32_79 _ _)).mpr ((tt_push (p_32_80 _ _)).mpr ((tt_istore (p_32_81 _ _) (Nat.le_of_ble_eq_true rfl) rfl rfl).mpr ((tt_push (p_32_83 _ _)).mpr ((tt_istore (p_32_84 _ _) (Nat.le_of_ble_eq_true rfl) rfl rfl).mpr (h)))))
theorem b_32_86 {Y : sY} {d : Nat} {s : sT} {K : Option Int32 → sT → Prop} {r0 : Nat} {r1 : Nat} {r2 : Nat} {r3 : Nat} {x4 : Int32} {x5 : Int32} (h : (if (300 : Int32) ≤ x5 then K (some x4) s else (∃ a2, (isO Y r0 4 ∧ s.2 r0 9 = some a2) ∧ (isO Y a2 1 ∧ (if (s.1 a2 8) ≤ x5 then K (some x4) s else (if ¬ x4 = 0 then K (some x4) s else (isO Y r0 4 ∧ tT Y d 33 0 [.ref r0, .int x5, .null, .null] [] s (fun r s1 => tT Y (d + 1) 32 117 [.ref r0, .ref r1, .ref r2, .ref r3, .int x4, .int x5] ((r.map Value.int).toList ++ []) s1 K)))))))) : tT Y (d + 1) 32 86 [.ref r0, .ref r1, .ref r2, .ref r3, .int x4, .int x5] [] s K :=
  (tt_iload (p_32_86 _ _) rfl).mpr ((tt_push (p_32_88 _ _)).mpr (t3_cmp (p := (300 : Int32) ≤ x5) (p_32_91 _ _) rfl (fun g1 => (tt_iload (p_32_125 _ _) rfl).mpr (tt_ret1 (p_32_127 _ _) (ifp h g1))) (fun g1 => (tt_iload (p_32_94 _ _) rfl).mpr ((tt_aload (p_32_96 _ _) rfl).mpr (Exists.elim (ifn h g1) (fun a2 h3 => t3_getr (p_32_97 _ _) (isI_4_9) h3.1.1 h3.1.2 (t3_geti (p_32_100 _ _) (isI_1_8) h3.2.1 (t3_cmp (p := (s.1 a2 8) ≤ x5) (p_32_103 _ _) rfl (fun g4 => (tt_iload (p_32_125 _ _) rfl).mpr (tt_ret1 (p_32_127 _ _) (ifp h3.2.2 g4))) (fun g4 => (tt_iload (p_32_106 _ _) rfl).mpr (t3_if (p := ¬ x4 = 0) (p_32_108 _ _) rfl (fun g5 => (tt_iload (p_32_125 _ _) rfl).mpr (tt_ret1 (p_32_127 _ _) (ifp (ifn h3.2.2 g4) g5))) (fun g5 => (tt_aload (p_32_111 _ _) rfl).mpr ((tt_iload (p_32_112 _ _) rfl).mpr (t2_callv (z := 33) (k := 2) (i := r0) (as := [.int x5]) (rest := []) (p_32_114 _ _) mK_33 mL_33 rfl rfl (Nat.le_of_ble_eq_true rfl) rfl (Nat.le_of_ble_eq_true rfl) (ifn (ifn h3.2.2 g4) g5).1 (ifn (ifn h3.2.2 g4) g5).2)))))))))))))
theorem b_32_117 {Y : sY} {d : Nat} {s : sT} {K : Option Int32 → sT → Prop} {r0 : Nat} {r1 : Nat} {r2 : Nat} {r3 : Nat} {x4 : Int32} {x5 : Int32} {t0 : Int32} (h : tT Y (d + 1) 32 86 [.ref r0, .ref r1, .ref r2, .ref r3, .int t0, .int (x5 + 1)] [] s K) : tT Y (d + 1) 32 117 [.ref r0, .ref r1, .ref r2, .ref r3, .int x4, .int x5] [.int t0] s K :=
  (tt_istore (p_32_117 _ _) (Nat.le_of_ble_eq_true rfl) rfl rfl).mpr ((tt_iinc (p_32_119 _ _) rfl rfl rfl).mpr ((tt_goto (p_32_122 _ _)).mpr (h)))
/-! InclusionProver$Search.takeTurn.(I)I -/
theorem p_33_0 (L : Nat) (xs : Nat → Int32) : ll_P L xs 33 0 = some (.inl (lo_aload 1 0)) := (P_33 L xs 0).trans rfl
theorem p_33_1 (L : Nat) (xs : Nat → Int32) : ll_P L xs 33 1 = some (.inl (lo_getf 4 4 9)) := (P_33 L xs 1).trans rfl
theorem p_33_4 (L : Nat) (xs : Nat → Int32) : ll_P L xs 33 4 = some (.inl (lo_getf 7 1 0)) := (P_33 L xs 4).trans rfl
theorem p_33_7 (L : Nat) (xs : Nat → Int32) : ll_P L xs 33 7 = some (.inl (lo_iload 8 1)) := (P_33 L xs 7).trans rfl
theorem p_33_8 (L : Nat) (xs : Nat → Int32) : ll_P L xs 33 8 = some (.inl (lo_ald 9 0)) := (P_33 L xs 8).trans rfl
theorem p_33_9 (L : Nat) (xs : Nat → Int32) : ll_P L xs 33 9 = some (.inl (lo_istore 10 2)) := (P_33 L xs 9).trans rfl
theorem p_33_10 (L : Nat) (xs : Nat → Int32) : ll_P L xs 33 10 = some (.inl (lo_aload 11 0)) := (P_33 L xs 10).trans rfl
theorem p_33_11 (L : Nat) (xs : Nat → Int32) : ll_P L xs 33 11 = some (.inl (lo_getf 14 4 9)) := (P_33 L xs 11).trans rfl
theorem p_33_14 (L : Nat) (xs : Nat → Int32) : ll_P L xs 33 14 = some (.inl (lo_getf 17 1 1)) := (P_33 L xs 14).trans rfl
theorem p_33_17 (L : Nat) (xs : Nat → Int32) : ll_P L xs 33 17 = some (.inl (lo_iload 18 1)) := (P_33 L xs 17).trans rfl
theorem p_33_18 (L : Nat) (xs : Nat → Int32) : ll_P L xs 33 18 = some (.inl (lo_ald 19 0)) := (P_33 L xs 18).trans rfl
theorem p_33_19 (L : Nat) (xs : Nat → Int32) : ll_P L xs 33 19 = some (.inl (lo_istore 20 3)) := (P_33 L xs 19).trans rfl
theorem p_33_20 (L : Nat) (xs : Nat → Int32) : ll_P L xs 33 20 = some (.inl (lo_aload 21 0)) := (P_33 L xs 20).trans rfl
theorem p_33_21 (L : Nat) (xs : Nat → Int32) : ll_P L xs 33 21 = some (.inl (lo_getf 24 4 6)) := (P_33 L xs 21).trans rfl
theorem p_33_24 (L : Nat) (xs : Nat → Int32) : ll_P L xs 33 24 = some (.inl (lo_iload 25 2)) := (P_33 L xs 24).trans rfl
theorem p_33_25 (L : Nat) (xs : Nat → Int32) : ll_P L xs 33 25 = some (.inl (lo_ald 26 0)) := (P_33 L xs 25).trans rfl
theorem p_33_26 (L : Nat) (xs : Nat → Int32) : ll_P L xs 33 26 = some (.inl (lo_push 27 (.int (-1)))) := (P_33 L xs 26).trans rfl
theorem p_33_27 (L : Nat) (xs : Nat → Int32) : ll_P L xs 33 27 = some (.inl (lo_cmp 55 30 (fun x y => decide (x = y)))) := (P_33 L xs 27).trans rfl
theorem p_33_30 (L : Nat) (xs : Nat → Int32) : ll_P L xs 33 30 = some (.inl (lo_iload 31 3)) := (P_33 L xs 30).trans rfl
theorem p_33_31 (L : Nat) (xs : Nat → Int32) : ll_P L xs 33 31 = some (.inl (lo_aload 32 0)) := (P_33 L xs 31).trans rfl
theorem p_33_32 (L : Nat) (xs : Nat → Int32) : ll_P L xs 33 32 = some (.inl (lo_getf 35 4 6)) := (P_33 L xs 32).trans rfl
theorem p_33_35 (L : Nat) (xs : Nat → Int32) : ll_P L xs 33 35 = some (.inl (lo_iload 36 2)) := (P_33 L xs 35).trans rfl
theorem p_33_36 (L : Nat) (xs : Nat → Int32) : ll_P L xs 33 36 = some (.inl (lo_ald 37 0)) := (P_33 L xs 36).trans rfl
theorem p_33_37 (L : Nat) (xs : Nat → Int32) : ll_P L xs 33 37 = some (.inl (lo_bin 38 (fun x y => x >>> (y &&& 31)))) := (P_33 L xs 37).trans rfl
theorem p_33_38 (L : Nat) (xs : Nat → Int32) : ll_P L xs 33 38 = some (.inl (lo_push 39 (.int 1))) := (P_33 L xs 38).trans rfl
theorem p_33_39 (L : Nat) (xs : Nat → Int32) : ll_P L xs 33 39 = some (.inl (lo_bin 40 (fun x y => x &&& y))) := (P_33 L xs 39).trans rfl
theorem p_33_40 (L : Nat) (xs : Nat → Int32) : ll_P L xs 33 40 = some (.inl (lo_if 55 43 (fun x => decide (x = 0)))) := (P_33 L xs 40).trans rfl
theorem p_33_43 (L : Nat) (xs : Nat → Int32) : ll_P L xs 33 43 = some (.inl (lo_aload 44 0)) := (P_33 L xs 43).trans rfl
theorem p_33_44 (L : Nat) (xs : Nat → Int32) : ll_P L xs 33 44 = some (.inl (lo_getf 47 4 9)) := (P_33 L xs 44).trans rfl
theorem p_33_47 (L : Nat) (xs : Nat → Int32) : ll_P L xs 33 47 = some (.inl (lo_getf 50 1 2)) := (P_33 L xs 47).trans rfl
theorem p_33_50 (L : Nat) (xs : Nat → Int32) : ll_P L xs 33 50 = some (.inl (lo_iload 51 1)) := (P_33 L xs 50).trans rfl
theorem p_33_51 (L : Nat) (xs : Nat → Int32) : ll_P L xs 33 51 = some (.inl (lo_push 52 (.int 0))) := (P_33 L xs 51).trans rfl
theorem p_33_52 (L : Nat) (xs : Nat → Int32) : ll_P L xs 33 52 = some (.inl (lo_ast 53 0)) := (P_33 L xs 52).trans rfl
theorem p_33_53 (L : Nat) (xs : Nat → Int32) : ll_P L xs 33 53 = some (.inl (lo_push 54 (.int 0))) := (P_33 L xs 53).trans rfl
theorem p_33_54 (L : Nat) (xs : Nat → Int32) : ll_P L xs 33 54 = some (.inr (.inr 1)) := (P_33 L xs 54).trans rfl
theorem p_33_55 (L : Nat) (xs : Nat → Int32) : ll_P L xs 33 55 = some (.inl (lo_aload 56 0)) := (P_33 L xs 55).trans rfl
theorem p_33_56 (L : Nat) (xs : Nat → Int32) : ll_P L xs 33 56 = some (.inl (lo_getf 59 4 7)) := (P_33 L xs 56).trans rfl
theorem p_33_59 (L : Nat) (xs : Nat → Int32) : ll_P L xs 33 59 = some (.inl (lo_push 60 (.int 1))) := (P_33 L xs 59).trans rfl
theorem p_33_60 (L : Nat) (xs : Nat → Int32) : ll_P L xs 33 60 = some (.inl (lo_iload 61 2)) := (P_33 L xs 60).trans rfl
theorem p_33_61 (L : Nat) (xs : Nat → Int32) : ll_P L xs 33 61 = some (.inl (lo_bin 62 (fun x y => x <<< (y &&& 31)))) := (P_33 L xs 61).trans rfl
theorem p_33_62 (L : Nat) (xs : Nat → Int32) : ll_P L xs 33 62 = some (.inr (.inl (47, 2, 65))) := (P_33 L xs 62).trans rfl
theorem p_33_65 (L : Nat) (xs : Nat → Int32) : ll_P L xs 33 65 = some (.inl (lo_if 86 68 (fun x => decide (x = 0)))) := (P_33 L xs 65).trans rfl
theorem p_33_68 (L : Nat) (xs : Nat → Int32) : ll_P L xs 33 68 = some (.inl (lo_aload 69 0)) := (P_33 L xs 68).trans rfl
theorem p_33_69 (L : Nat) (xs : Nat → Int32) : ll_P L xs 33 69 = some (.inl (lo_getf 72 4 8)) := (P_33 L xs 69).trans rfl
theorem p_33_72 (L : Nat) (xs : Nat → Int32) : ll_P L xs 33 72 = some (.inl (lo_iload 73 3)) := (P_33 L xs 72).trans rfl
theorem p_33_73 (L : Nat) (xs : Nat → Int32) : ll_P L xs 33 73 = some (.inr (.inl (47, 2, 76))) := (P_33 L xs 73).trans rfl
theorem p_33_76 (L : Nat) (xs : Nat → Int32) : ll_P L xs 33 76 = some (.inl (lo_if 86 79 (fun x => decide (¬ x = 0)))) := (P_33 L xs 76).trans rfl
theorem p_33_79 (L : Nat) (xs : Nat → Int32) : ll_P L xs 33 79 = some (.inl (lo_aload 80 0)) := (P_33 L xs 79).trans rfl
theorem p_33_80 (L : Nat) (xs : Nat → Int32) : ll_P L xs 33 80 = some (.inl (lo_iload 81 1)) := (P_33 L xs 80).trans rfl
theorem p_33_81 (L : Nat) (xs : Nat → Int32) : ll_P L xs 33 81 = some (.inr (.inl (37, 2, 84))) := (P_33 L xs 81).trans rfl
theorem p_33_84 (L : Nat) (xs : Nat → Int32) : ll_P L xs 33 84 = some (.inl (lo_push 85 (.int 1))) := (P_33 L xs 84).trans rfl
theorem p_33_85 (L : Nat) (xs : Nat → Int32) : ll_P L xs 33 85 = some (.inr (.inr 1)) := (P_33 L xs 85).trans rfl
theorem p_33_86 (L : Nat) (xs : Nat → Int32) : ll_P L xs 33 86 = some (.inl (lo_aload 87 0)) := (P_33 L xs 86).trans rfl
theorem p_33_87 (L : Nat) (xs : Nat → Int32) : ll_P L xs 33 87 = some (.inl (lo_iload 88 1)) := (P_33 L xs 87).trans rfl
theorem p_33_88 (L : Nat) (xs : Nat → Int32) : ll_P L xs 33 88 = some (.inl (lo_iload 89 2)) := (P_33 L xs 88).trans rfl
theorem p_33_89 (L : Nat) (xs : Nat → Int32) : ll_P L xs 33 89 = some (.inl (lo_iload 90 3)) := (P_33 L xs 89).trans rfl
theorem p_33_90 (L : Nat) (xs : Nat → Int32) : ll_P L xs 33 90 = some (.inr (.inl (34, 4, 93))) := (P_33 L xs 90).trans rfl
theorem p_33_93 (L : Nat) (xs : Nat → Int32) : ll_P L xs 33 93 = some (.inl (lo_if 106 96 (fun x => decide (¬ x = 0)))) := (P_33 L xs 93).trans rfl
theorem p_33_96 (L : Nat) (xs : Nat → Int32) : ll_P L xs 33 96 = some (.inl (lo_aload 97 0)) := (P_33 L xs 96).trans rfl
theorem p_33_97 (L : Nat) (xs : Nat → Int32) : ll_P L xs 33 97 = some (.inl (lo_getf 100 4 9)) := (P_33 L xs 97).trans rfl
theorem p_33_100 (L : Nat) (xs : Nat → Int32) : ll_P L xs 33 100 = some (.inl (lo_iload 101 1)) := (P_33 L xs 100).trans rfl
theorem p_33_101 (L : Nat) (xs : Nat → Int32) : ll_P L xs 33 101 = some (.inr (.inl (16, 2, 104))) := (P_33 L xs 101).trans rfl
theorem p_33_104 (L : Nat) (xs : Nat → Int32) : ll_P L xs 33 104 = some (.inl (lo_push 105 (.int 2))) := (P_33 L xs 104).trans rfl
theorem p_33_105 (L : Nat) (xs : Nat → Int32) : ll_P L xs 33 105 = some (.inr (.inr 1)) := (P_33 L xs 105).trans rfl
theorem p_33_106 (L : Nat) (xs : Nat → Int32) : ll_P L xs 33 106 = some (.inl (lo_aload 107 0)) := (P_33 L xs 106).trans rfl
theorem p_33_107 (L : Nat) (xs : Nat → Int32) : ll_P L xs 33 107 = some (.inl (lo_getf 110 4 9)) := (P_33 L xs 107).trans rfl
theorem p_33_110 (L : Nat) (xs : Nat → Int32) : ll_P L xs 33 110 = some (.inl (lo_getf 113 1 2)) := (P_33 L xs 110).trans rfl
theorem p_33_113 (L : Nat) (xs : Nat → Int32) : ll_P L xs 33 113 = some (.inl (lo_iload 114 1)) := (P_33 L xs 113).trans rfl
theorem p_33_114 (L : Nat) (xs : Nat → Int32) : ll_P L xs 33 114 = some (.inl (lo_push 115 (.int 1))) := (P_33 L xs 114).trans rfl
theorem p_33_115 (L : Nat) (xs : Nat → Int32) : ll_P L xs 33 115 = some (.inl (lo_ast 116 0)) := (P_33 L xs 115).trans rfl
theorem p_33_116 (L : Nat) (xs : Nat → Int32) : ll_P L xs 33 116 = some (.inl (lo_push 117 (.int 0))) := (P_33 L xs 116).trans rfl
theorem p_33_117 (L : Nat) (xs : Nat → Int32) : ll_P L xs 33 117 = some (.inr (.inr 1)) := (P_33 L xs 117).trans rfl
theorem b_33_0 {Y : sY} {d : Nat} {s : sT} {K : Option Int32 → sT → Prop} {r0 : Nat} {x1 : Int32} (h : (∃ a1, (isO Y r0 4 ∧ s.2 r0 9 = some a1) ∧ (∃ a3, (isO Y a1 1 ∧ s.2 a1 0 = some a3) ∧ (∃ m5, (isA Y a3 0 m5 ∧ inR x1 m5) ∧ (∃ a7, (isO Y r0 4 ∧ s.2 r0 9 = some a7) ∧ (∃ a9, (isO Y a7 1 ∧ s.2 a7 1 = some a9) ∧ (∃ m11, (isA Y a9 0 m11 ∧ inR x1 m11) ∧ (∃ a13, (isO Y r0 4 ∧ s.2 r0 6 = some a13) ∧ (∃ m15, (isA Y a13 0 m15 ∧ inR (s.1 a3 (x1).toNatClampNeg) m15) ∧ (if (s.1 a13 ((s.1 a3 (x1).toNatClampNeg)).toNatClampNeg) = (-1 : Int32) then tT Y (d + 1) 33 55 [.ref r0, .int x1, .int (s.1 a3 (x1).toNatClampNeg), .int (s.1 a9 (x1).toNatClampNeg)] [] s K else (∃ a18, (isO Y r0 4 ∧ s.2 r0 6 = some a18) ∧ (∃ m20, (isA Y a18 0 m20 ∧ inR (s.1 a3 (x1).toNatClampNeg) m20) ∧ (if (((s.1 a9 (x1).toNatClampNeg) >>> ((s.1 a18 ((s.1 a3 (x1).toNatClampNeg)).toNatClampNeg) &&& 31)) &&& (1 : Int32)) = 0 then tT Y (d + 1) 33 55 [.ref r0, .int x1, .int (s.1 a3 (x1).toNatClampNeg), .int (s.1 a9 (x1).toNatClampNeg)] [] s K else (∃ a23, (isO Y r0 4 ∧ s.2 r0 9 = some a23) ∧ (∃ a25, (isO Y a23 1 ∧ s.2 a23 2 = some a25) ∧ (∃ m27, (isA Y a25 0 m27 ∧ inR x1 m27) ∧ K (some (0 : Int32)) (pV s a25 (x1).toNatClampNeg (0 : Int32)))))))))))))))))) : tT Y (d + 1) 33 0 [.ref r0, .int x1, .null, .null] [] s K :=
  (tt_aload (p_33_0 _ _) rfl).mpr (Exists.elim h (fun a1 h2 => t3_getr (p_33_1 _ _) (isI_4_9) h2.1.1 h2.1.2 (Exists.elim h2.2 (fun a3 h4 => t3_getr (p_33_4 _ _) (isI_1_0) h4.1.1 h4.1.2 ((tt_iload (p_33_7 _ _) rfl).mpr (Exists.elim h4.2 (fun m5 h6 => t3_ald (p_33_8 _ _) h6.1.1 h6.1.2 ((tt_istore (p_33_9 _ _) (Nat.le_of_ble_eq_true rfl) rfl rfl).mpr ((tt_aload (p_33_10 _ _) rfl).mpr (Exists.elim h6.2 (fun a7 h8 => t3_getr (p_33_11 _ _) (isI_4_9) h8.1.1 h8.1.2 (Exists.elim h8.2 (fun a9 h10 => t3_getr (p_33_14 _ _) (isI_1_1) h10.1.1 h10.1.2 ((tt_iload (p_33_17 _ _) rfl).mpr (Exists.elim h10.2 (fun m11 h12 => t3_ald (p_33_18 _ _) h12.1.1 h12.1.2 ((tt_istore (p_33_19 _ _) (Nat.le_of_ble_eq_true rfl) rfl rfl).mpr ((tt_aload (p_33_20 _ _) rfl).mpr (Exists.elim h12.2 (fun a13 h14 => t3_getr (p_33_21 _ _) (isI_4_6) h14.1.1 h14.1.2 ((tt_iload (p_33_24 _ _) rfl).mpr (Exists.elim h14.2 (fun m15 h16 => t3_ald (p_33_25 _ _) h16.1.1 h16.1.2 ((tt_push (p_33_26 _ _)).mpr (t3_cmp (p := (s.1 a13 ((s.1 a3 (x1).toNatClampNeg)).toNatClampNeg) = (-1 : Int32)) (p_33_27 _ _) rfl (fun g17 => (ifp h16.2 g17)) (fun g17 => (tt_iload (p_33_30 _ _) rfl).mpr ((tt_aload (p_33_31 _ _) rfl).mpr (Exists.elim (ifn h16.2 g17) (fun a18 h19 => t3_getr (p_33_32 _ _) (isI_4_6) h19.1.1 h19.1.2 ((tt_iload (p_33_35 _ _) rfl).mpr (Exists.elim h19.2 (fun m20 h21 => t3_ald (p_33_36 _ _) h21.1.1 h21.1.2 ((tt_bin (p_33_37 _ _)).mpr ((tt_push (p_33_38 _ _)).mpr ((tt_bin (p_33_39 _ _)).mpr (t3_if (p := (((s.1 a9 (x1).toNatClampNeg) >>> ((s.1 a18 ((s.1 a3 (x1).toNatClampNeg)).toNatClampNeg) &&& 31)) &&& (1 : Int32)) = 0) (p_33_40 _ _) rfl (fun g22 => (ifp h21.2 g22)) (fun g22 => (tt_aload (p_33_43 _ _) rfl).mpr (Exists.elim (ifn h21.2 g22) (fun a23 h24 => t3_getr (p_33_44 _ _) (isI_4_9) h24.1.1 h24.1.2 (Exists.elim h24.2 (fun a25 h26 => t3_getr (p_33_47 _ _) (isI_1_2) h26.1.1 h26.1.2 ((tt_iload (p_33_50 _ _) rfl).mpr ((tt_push (p_33_51 _ _)).mpr (Exists.elim h26.2 (fun m27 h28 => t3_ast (p_33_52 _ _) h28.1.1 h28.1.2 ((tt_push (p_33_53 _ _)).mpr (tt_ret1 (p_33_54 _ _) h28.2)))))))))))))))))))))))))))))))))))))))))))))))
theorem b_33_55 {Y : sY} {d : Nat} {s : sT} {K : Option Int32 → sT → Prop} {r0 : Nat} {x1 : Int32} {x2 : Int32} {x3 : Int32} (h : (∃ a1, (isO Y r0 4 ∧ s.2 r0 7 = some a1) ∧ (isO Y a1 5 ∧ tT Y d 47 0 [.ref a1, .int ((1 : Int32) <<< (x2 &&& 31))] [] s (fun r s1 => tT Y (d + 1) 33 65 [.ref r0, .int x1, .int x2, .int x3] ((r.map Value.int).toList ++ []) s1 K)))) : tT Y (d + 1) 33 55 [.ref r0, .int x1, .int x2, .int x3] [] s K :=
  (tt_aload (p_33_55 _ _) rfl).mpr (Exists.elim h (fun a1 h2 => t3_getr (p_33_56 _ _) (isI_4_7) h2.1.1 h2.1.2 ((tt_push (p_33_59 _ _)).mpr ((tt_iload (p_33_60 _ _) rfl).mpr ((tt_bin (p_33_61 _ _)).mpr (t2_callv (z := 47) (k := 2) (i := a1) (as := [.int ((1 : Int32) <<< (x2 &&& 31))]) (rest := []) (p_33_62 _ _) mK_47 mL_47 rfl rfl (Nat.le_of_ble_eq_true rfl) rfl (Nat.le_of_ble_eq_true rfl) h2.2.1 h2.2.2))))))
theorem b_33_65 {Y : sY} {d : Nat} {s : sT} {K : Option Int32 → sT → Prop} {r0 : Nat} {x1 : Int32} {x2 : Int32} {x3 : Int32} {t0 : Int32} (h : (if t0 = 0 then tT Y (d + 1) 33 86 [.ref r0, .int x1, .int x2, .int x3] [] s K else (∃ a2, (isO Y r0 4 ∧ s.2 r0 8 = some a2) ∧ (isO Y a2 5 ∧ tT Y d 47 0 [.ref a2, .int x3] [] s (fun r s1 => tT Y (d + 1) 33 76 [.ref r0, .int x1, .int x2, .int x3] ((r.map Value.int).toList ++ []) s1 K))))) : tT Y (d + 1) 33 65 [.ref r0, .int x1, .int x2, .int x3] [.int t0] s K :=
  t3_if (p := t0 = 0) (p_33_65 _ _) rfl (fun g1 => (ifp h g1)) (fun g1 => (tt_aload (p_33_68 _ _) rfl).mpr (Exists.elim (ifn h g1) (fun a2 h3 => t3_getr (p_33_69 _ _) (isI_4_8) h3.1.1 h3.1.2 ((tt_iload (p_33_72 _ _) rfl).mpr (t2_callv (z := 47) (k := 2) (i := a2) (as := [.int x3]) (rest := []) (p_33_73 _ _) mK_47 mL_47 rfl rfl (Nat.le_of_ble_eq_true rfl) rfl (Nat.le_of_ble_eq_true rfl) h3.2.1 h3.2.2)))))
theorem b_33_76 {Y : sY} {d : Nat} {s : sT} {K : Option Int32 → sT → Prop} {r0 : Nat} {x1 : Int32} {x2 : Int32} {x3 : Int32} {t0 : Int32} (h : (if ¬ t0 = 0 then tT Y (d + 1) 33 86 [.ref r0, .int x1, .int x2, .int x3] [] s K else (isO Y r0 4 ∧ tT Y d 37 0 [.ref r0, .int x1, .null, .null, .null] [] s (fun r s1 => tT Y (d + 1) 33 84 [.ref r0, .int x1, .int x2, .int x3] ((r.map Value.int).toList ++ []) s1 K)))) : tT Y (d + 1) 33 76 [.ref r0, .int x1, .int x2, .int x3] [.int t0] s K :=
  t3_if (p := ¬ t0 = 0) (p_33_76 _ _) rfl (fun g1 => (ifp h g1)) (fun g1 => (tt_aload (p_33_79 _ _) rfl).mpr ((tt_iload (p_33_80 _ _) rfl).mpr (t2_callv (z := 37) (k := 2) (i := r0) (as := [.int x1]) (rest := []) (p_33_81 _ _) mK_37 mL_37 rfl rfl (Nat.le_of_ble_eq_true rfl) rfl (Nat.le_of_ble_eq_true rfl) (ifn h g1).1 (ifn h g1).2)))
theorem b_33_84 {Y : sY} {d : Nat} {s : sT} {K : Option Int32 → sT → Prop} {r0 : Nat} {x1 : Int32} {x2 : Int32} {x3 : Int32} (h : K (some (1 : Int32)) s) : tT Y (d + 1) 33 84 [.ref r0, .int x1, .int x2, .int x3] [] s K :=
  (tt_push (p_33_84 _ _)).mpr (tt_ret1 (p_33_85 _ _) h)
theorem b_33_86 {Y : sY} {d : Nat} {s : sT} {K : Option Int32 → sT → Prop} {r0 : Nat} {x1 : Int32} {x2 : Int32} {x3 : Int32} (h : (isO Y r0 4 ∧ tT Y d 34 0 [.ref r0, .int x1, .int x2, .int x3, .null, .null, .null, .null, .null] [] s (fun r s1 => tT Y (d + 1) 33 93 [.ref r0, .int x1, .int x2, .int x3] ((r.map Value.int).toList ++ []) s1 K))) : tT Y (d + 1) 33 86 [.ref r0, .int x1, .int x2, .int x3] [] s K :=
  (tt_aload (p_33_86 _ _) rfl).mpr ((tt_iload (p_33_87 _ _) rfl).mpr ((tt_iload (p_33_88 _ _) rfl).mpr ((tt_iload (p_33_89 _ _) rfl).mpr (t2_callv (z := 34) (k := 4) (i := r0) (as := [.int x1, .int x2, .int x3]) (rest := []) (p_33_90 _ _) mK_34 mL_34 rfl rfl (Nat.le_of_ble_eq_true rfl) rfl (Nat.le_of_ble_eq_true rfl) h.1 h.2))))
theorem b_33_93 {Y : sY} {d : Nat} {s : sT} {K : Option Int32 → sT → Prop} {r0 : Nat} {x1 : Int32} {x2 : Int32} {x3 : Int32} {t0 : Int32} (h : (if ¬ t0 = 0 then (∃ a2, (isO Y r0 4 ∧ s.2 r0 9 = some a2) ∧ (∃ a4, (isO Y a2 1 ∧ s.2 a2 2 = some a4) ∧ (∃ m6, (isA Y a4 0 m6 ∧ inR x1 m6) ∧ K (some (0 : Int32)) (pV s a4 (x1).toNatClampNeg (1 : Int32))))) else (∃ a8, (isO Y r0 4 ∧ s.2 r0 9 = some a8) ∧ (isO Y a8 1 ∧ tT Y d 16 0 [.ref a8, .int x1] [] s (fun r s1 => tT Y (d + 1) 33 104 [.ref r0, .int x1, .int x2, .int x3] ((r.map Value.int).toList ++ []) s1 K))))) : tT Y (d + 1) 33 93 [.ref r0, .int x1, .int x2, .int x3] [.int t0] s K :=
  t3_if (p := ¬ t0 = 0) (p_33_93 _ _) rfl (fun g1 => (tt_aload (p_33_106 _ _) rfl).mpr (Exists.elim (ifp h g1) (fun a2 h3 => t3_getr (p_33_107 _ _) (isI_4_9) h3.1.1 h3.1.2 (Exists.elim h3.2 (fun a4 h5 => t3_getr (p_33_110 _ _) (isI_1_2) h5.1.1 h5.1.2 ((tt_iload (p_33_113 _ _) rfl).mpr ((tt_push (p_33_114 _ _)).mpr (Exists.elim h5.2 (fun m6 h7 => t3_ast (p_33_115 _ _) h7.1.1 h7.1.2 ((tt_push (p_33_116 _ _)).mpr (tt_ret1 (p_33_117 _ _) h7.2))))))))))) (fun g1 => (tt_aload (p_33_96 _ _) rfl).mpr (Exists.elim (ifn h g1) (fun a8 h9 => t3_getr (p_33_97 _ _) (isI_4_9) h9.1.1 h9.1.2 ((tt_iload (p_33_100 _ _) rfl).mpr (t2_callv (z := 16) (k := 2) (i := a8) (as := [.int x1]) (rest := []) (p_33_101 _ _) mK_16 mL_16 rfl rfl (Nat.le_of_ble_eq_true rfl) rfl (Nat.le_of_ble_eq_true rfl) h9.2.1 h9.2.2)))))
theorem b_33_104 {Y : sY} {d : Nat} {s : sT} {K : Option Int32 → sT → Prop} {r0 : Nat} {x1 : Int32} {x2 : Int32} {x3 : Int32} (h : K (some (2 : Int32)) s) : tT Y (d + 1) 33 104 [.ref r0, .int x1, .int x2, .int x3] [] s K :=
  (tt_push (p_33_104 _ _)).mpr (tt_ret1 (p_33_105 _ _) h)
/-! InclusionProver$Search.step.(III)Z -/
theorem p_34_0 (L : Nat) (xs : Nat → Int32) : ll_P L xs 34 0 = some (.inl (lo_aload 1 0)) := (P_34 L xs 0).trans rfl
theorem p_34_1 (L : Nat) (xs : Nat → Int32) : ll_P L xs 34 1 = some (.inl (lo_getf 4 4 9)) := (P_34 L xs 1).trans rfl
theorem p_34_4 (L : Nat) (xs : Nat → Int32) : ll_P L xs 34 4 = some (.inl (lo_iload 5 1)) := (P_34 L xs 4).trans rfl
theorem p_34_5 (L : Nat) (xs : Nat → Int32) : ll_P L xs 34 5 = some (.inr (.inl (14, 2, 8))) := (P_34 L xs 5).trans rfl
theorem p_34_8 (L : Nat) (xs : Nat → Int32) : ll_P L xs 34 8 = some (.inl (lo_push 9 (.int 0))) := (P_34 L xs 8).trans rfl
theorem p_34_9 (L : Nat) (xs : Nat → Int32) : ll_P L xs 34 9 = some (.inl (lo_istore 11 4)) := (P_34 L xs 9).trans rfl
theorem p_34_11 (L : Nat) (xs : Nat → Int32) : ll_P L xs 34 11 = some (.inl (lo_iload 13 4)) := (P_34 L xs 11).trans rfl
theorem p_34_13 (L : Nat) (xs : Nat → Int32) : ll_P L xs 34 13 = some (.inl (lo_push 14 (.int 3))) := (P_34 L xs 13).trans rfl
theorem p_34_14 (L : Nat) (xs : Nat → Int32) : ll_P L xs 34 14 = some (.inl (lo_cmp 104 17 (fun x y => decide (y ≤ x)))) := (P_34 L xs 14).trans rfl
theorem p_34_17 (L : Nat) (xs : Nat → Int32) : ll_P L xs 34 17 = some (.inl (lo_aload 18 0)) := (P_34 L xs 17).trans rfl
theorem p_34_18 (L : Nat) (xs : Nat → Int32) : ll_P L xs 34 18 = some (.inl (lo_getf 21 4 8)) := (P_34 L xs 18).trans rfl
theorem p_34_21 (L : Nat) (xs : Nat → Int32) : ll_P L xs 34 21 = some (.inl (lo_iload 22 3)) := (P_34 L xs 21).trans rfl
theorem p_34_22 (L : Nat) (xs : Nat → Int32) : ll_P L xs 34 22 = some (.inl (lo_iload 24 4)) := (P_34 L xs 22).trans rfl
theorem p_34_24 (L : Nat) (xs : Nat → Int32) : ll_P L xs 34 24 = some (.inr (.inl (54, 3, 27))) := (P_34 L xs 24).trans rfl
theorem p_34_27 (L : Nat) (xs : Nat → Int32) : ll_P L xs 34 27 = some (.inl (lo_istore 29 5)) := (P_34 L xs 27).trans rfl
theorem p_34_29 (L : Nat) (xs : Nat → Int32) : ll_P L xs 34 29 = some (.inl (lo_aload 30 0)) := (P_34 L xs 29).trans rfl
theorem p_34_30 (L : Nat) (xs : Nat → Int32) : ll_P L xs 34 30 = some (.inl (lo_getf 33 4 7)) := (P_34 L xs 30).trans rfl
theorem p_34_33 (L : Nat) (xs : Nat → Int32) : ll_P L xs 34 33 = some (.inl (lo_iload 34 2)) := (P_34 L xs 33).trans rfl
theorem p_34_34 (L : Nat) (xs : Nat → Int32) : ll_P L xs 34 34 = some (.inl (lo_iload 36 4)) := (P_34 L xs 34).trans rfl
theorem p_34_36 (L : Nat) (xs : Nat → Int32) : ll_P L xs 34 36 = some (.inr (.inl (52, 3, 39))) := (P_34 L xs 36).trans rfl
theorem p_34_39 (L : Nat) (xs : Nat → Int32) : ll_P L xs 34 39 = some (.inl (lo_istore 41 6)) := (P_34 L xs 39).trans rfl
theorem p_34_41 (L : Nat) (xs : Nat → Int32) : ll_P L xs 34 41 = some (.inl (lo_push 42 (.int 0))) := (P_34 L xs 41).trans rfl
theorem p_34_42 (L : Nat) (xs : Nat → Int32) : ll_P L xs 34 42 = some (.inl (lo_istore 44 7)) := (P_34 L xs 42).trans rfl
theorem p_34_44 (L : Nat) (xs : Nat → Int32) : ll_P L xs 34 44 = some (.inl (lo_iload 46 7)) := (P_34 L xs 44).trans rfl
theorem p_34_46 (L : Nat) (xs : Nat → Int32) : ll_P L xs 34 46 = some (.inl (lo_iload 48 6)) := (P_34 L xs 46).trans rfl
theorem p_34_48 (L : Nat) (xs : Nat → Int32) : ll_P L xs 34 48 = some (.inl (lo_cmp 98 51 (fun x y => decide (y ≤ x)))) := (P_34 L xs 48).trans rfl
theorem p_34_51 (L : Nat) (xs : Nat → Int32) : ll_P L xs 34 51 = some (.inl (lo_aload 52 0)) := (P_34 L xs 51).trans rfl
theorem p_34_52 (L : Nat) (xs : Nat → Int32) : ll_P L xs 34 52 = some (.inl (lo_aload 53 0)) := (P_34 L xs 52).trans rfl
theorem p_34_53 (L : Nat) (xs : Nat → Int32) : ll_P L xs 34 53 = some (.inl (lo_getf 56 4 7)) := (P_34 L xs 53).trans rfl
theorem p_34_56 (L : Nat) (xs : Nat → Int32) : ll_P L xs 34 56 = some (.inl (lo_iload 57 2)) := (P_34 L xs 56).trans rfl
theorem p_34_57 (L : Nat) (xs : Nat → Int32) : ll_P L xs 34 57 = some (.inl (lo_iload 59 4)) := (P_34 L xs 57).trans rfl
theorem p_34_59 (L : Nat) (xs : Nat → Int32) : ll_P L xs 34 59 = some (.inl (lo_iload 61 7)) := (P_34 L xs 59).trans rfl
theorem p_34_61 (L : Nat) (xs : Nat → Int32) : ll_P L xs 34 61 = some (.inr (.inl (53, 4, 64))) := (P_34 L xs 61).trans rfl
theorem p_34_64 (L : Nat) (xs : Nat → Int32) : ll_P L xs 34 64 = some (.inl (lo_iload 66 5)) := (P_34 L xs 64).trans rfl
theorem p_34_66 (L : Nat) (xs : Nat → Int32) : ll_P L xs 34 66 = some (.inl (lo_iload 67 1)) := (P_34 L xs 66).trans rfl
theorem p_34_67 (L : Nat) (xs : Nat → Int32) : ll_P L xs 34 67 = some (.inl (lo_iload 69 4)) := (P_34 L xs 67).trans rfl
theorem p_34_69 (L : Nat) (xs : Nat → Int32) : ll_P L xs 34 69 = some (.inr (.inl (35, 5, 72))) := (P_34 L xs 69).trans rfl
theorem p_34_72 (L : Nat) (xs : Nat → Int32) : ll_P L xs 34 72 = some (.inl (lo_istore 74 8)) := (P_34 L xs 72).trans rfl
theorem p_34_74 (L : Nat) (xs : Nat → Int32) : ll_P L xs 34 74 = some (.inl (lo_iload 76 8)) := (P_34 L xs 74).trans rfl
theorem p_34_76 (L : Nat) (xs : Nat → Int32) : ll_P L xs 34 76 = some (.inl (lo_push 77 (.int (-1)))) := (P_34 L xs 76).trans rfl
theorem p_34_77 (L : Nat) (xs : Nat → Int32) : ll_P L xs 34 77 = some (.inl (lo_cmp 82 80 (fun x y => decide (¬ x = y)))) := (P_34 L xs 77).trans rfl
theorem p_34_80 (L : Nat) (xs : Nat → Int32) : ll_P L xs 34 80 = some (.inl (lo_push 81 (.int 0))) := (P_34 L xs 80).trans rfl
theorem p_34_81 (L : Nat) (xs : Nat → Int32) : ll_P L xs 34 81 = some (.inr (.inr 2)) := (P_34 L xs 81).trans rfl
theorem p_34_82 (L : Nat) (xs : Nat → Int32) : ll_P L xs 34 82 = some (.inl (lo_aload 83 0)) := (P_34 L xs 82).trans rfl
theorem p_34_83 (L : Nat) (xs : Nat → Int32) : ll_P L xs 34 83 = some (.inl (lo_getf 86 4 9)) := (P_34 L xs 83).trans rfl
theorem p_34_86 (L : Nat) (xs : Nat → Int32) : ll_P L xs 34 86 = some (.inl (lo_iload 87 1)) := (P_34 L xs 86).trans rfl
theorem p_34_87 (L : Nat) (xs : Nat → Int32) : ll_P L xs 34 87 = some (.inl (lo_iload 89 8)) := (P_34 L xs 87).trans rfl
theorem p_34_89 (L : Nat) (xs : Nat → Int32) : ll_P L xs 34 89 = some (.inr (.inl (15, 3, 92))) := (P_34 L xs 89).trans rfl
theorem p_34_92 (L : Nat) (xs : Nat → Int32) : ll_P L xs 34 92 = some (.inl (lo_iinc 95 7 1)) := (P_34 L xs 92).trans rfl
theorem p_34_95 (L : Nat) (xs : Nat → Int32) : ll_P L xs 34 95 = some (.inl (lo_goto 44)) := (P_34 L xs 95).trans rfl
theorem p_34_98 (L : Nat) (xs : Nat → Int32) : ll_P L xs 34 98 = some (.inl (lo_iinc 101 4 1)) := (P_34 L xs 98).trans rfl
theorem p_34_101 (L : Nat) (xs : Nat → Int32) : ll_P L xs 34 101 = some (.inl (lo_goto 11)) := (P_34 L xs 101).trans rfl
theorem p_34_104 (L : Nat) (xs : Nat → Int32) : ll_P L xs 34 104 = some (.inl (lo_push 105 (.int 1))) := (P_34 L xs 104).trans rfl
theorem p_34_105 (L : Nat) (xs : Nat → Int32) : ll_P L xs 34 105 = some (.inr (.inr 2)) := (P_34 L xs 105).trans rfl
theorem b_34_0 {Y : sY} {d : Nat} {s : sT} {K : Option Int32 → sT → Prop} {r0 : Nat} {x1 : Int32} {x2 : Int32} {x3 : Int32} (h : (∃ a1, (isO Y r0 4 ∧ s.2 r0 9 = some a1) ∧ (isO Y a1 1 ∧ tT Y d 14 0 [.ref a1, .int x1] [] s (fun r s1 => tT Y (d + 1) 34 8 [.ref r0, .int x1, .int x2, .int x3, .null, .null, .null, .null, .null] ((r.map Value.int).toList ++ []) s1 K)))) : tT Y (d + 1) 34 0 [.ref r0, .int x1, .int x2, .int x3, .null, .null, .null, .null, .null] [] s K :=
  (tt_aload (p_34_0 _ _) rfl).mpr (Exists.elim h (fun a1 h2 => t3_getr (p_34_1 _ _) (isI_4_9) h2.1.1 h2.1.2 ((tt_iload (p_34_4 _ _) rfl).mpr (t2_callv (z := 14) (k := 2) (i := a1) (as := [.int x1]) (rest := []) (p_34_5 _ _) mK_14 mL_14 rfl rfl (Nat.le_of_ble_eq_true rfl) rfl (Nat.le_of_ble_eq_true rfl) h2.2.1 h2.2.2))))
theorem b_34_8 {Y : sY} {d : Nat} {s : sT} {K : Option Int32 → sT → Prop} {r0 : Nat} {x1 : Int32} {x2 : Int32} {x3 : Int32} (h : tT Y (d + 1) 34 11 [.ref r0, .int x1, .int x2, .int x3, .int (0 : Int32), .null, .null, .null, .null] [] s K) : tT Y (d + 1) 34 8 [.ref r0, .int x1, .int x2, .int x3, .null, .null, .null, .null, .null] [] s K :=
  (tt_push (p_34_8 _ _)).mpr ((tt_istore (p_34_9 _ _) (Nat.le_of_ble_eq_true rfl) rfl rfl).mpr (h))
theorem b_34_11 {Y : sY} {d : Nat} {s : sT} {K : Option Int32 → sT → Prop} {r0 : Nat} {x1 : Int32} {x2 : Int32} {x3 : Int32} {x4 : Int32} {u5 : Value} {u6 : Value} {u7 : Value} {u8 : Value} (h : (if (3 : Int32) ≤ x4 then K (some (1 : Int32)) s else (∃ a2, (isO Y r0 4 ∧ s.2 r0 8 = some a2) ∧ (isO Y a2 5 ∧ tT Y d 54 0 [.ref a2, .int x3, .int x4, .null, .null] [] s (fun r s1 => tT Y (d + 1) 34 27 [.ref r0, .int x1, .int x2, .int x3, .int x4, u5, u6, u7, u8] ((r.map Value.int).toList ++ []) s1 K))))) : tT Y (d + 1) 34 11 [.ref r0, .int x1, .int x2, .int x3, .int x4, u5, u6, u7, u8] [] s K :=
  (tt_iload (p_34_11 _ _) rfl).mpr ((tt_push (p_34_13 _ _)).mpr (t3_cmp (p := (3 : Int32) ≤ x4) (p_34_14 _ _) rfl (fun g1 => (tt_push (p_34_104 _ _)).mpr (tt_ret2 (p_34_105 _ _) (Or.inr rfl) (ifp h g1))) (fun g1 => (tt_aload (p_34_17 _ _) rfl).mpr (Exists.elim (ifn h g1) (fun a2 h3 => t3_getr (p_34_18 _ _) (isI_4_8) h3.1.1 h3.1.2 ((tt_iload (p_34_21 _ _) rfl).mpr ((tt_iload (p_34_22 _ _) rfl).mpr (t2_callv (z := 54) (k := 3) (i := a2) (as := [.int x3, .int x4]) (rest := []) (p_34_24 _ _) mK_54 mL_54 rfl rfl (Nat.le_of_ble_eq_true rfl) rfl (Nat.le_of_ble_eq_true rfl) h3.2.1 h3.2.2))))))))
theorem b_34_27 {Y : sY} {d : Nat} {s : sT} {K : Option Int32 → sT → Prop} {r0 : Nat} {x1 : Int32} {x2 : Int32} {x3 : Int32} {x4 : Int32} {u5 : Value} {u6 : Value} {u7 : Value} {u8 : Value} {t0 : Int32} (h : (∃ a1, (isO Y r0 4 ∧ s.2 r0 7 = some a1) ∧ (isO Y a1 5 ∧ tT Y d 52 0 [.ref a1, .int x2, .int x4, .null] [] s (fun r s1 => tT Y (d + 1) 34 39 [.ref r0, .int x1, .int x2, .int x3, .int x4, .int t0, u6, u7, u8] ((r.map Value.int).toList ++ []) s1 K)))) : tT Y (d + 1) 34 27 [.ref r0, .int x1, .int x2, .int x3, .int x4, u5, u6, u7, u8] [.int t0] s K :=
  (tt_istore (p_34_27 _ _) (Nat.le_of_ble_eq_true rfl) rfl rfl).mpr ((tt_aload (p_34_29 _ _) rfl).mpr (Exists.elim h (fun a1 h2 => t3_getr (p_34_30 _ _) (isI_4_7) h2.1.1 h2.1.2 ((tt_iload (p_34_33 _ _) rfl).mpr ((tt_iload (p_34_34 _ _) rfl).mpr (t2_callv (z := 52) (k := 3) (i := a1) (as := [.int x2, .int x4]) (rest := []) (p_34_36 _ _) mK_52 mL_52 rfl rfl (Nat.le_of_ble_eq_true rfl) rfl (Nat.le_of_ble_eq_true rfl) h2.2.1 h2.2.2))))))
theorem b_34_39 {Y : sY} {d : Nat} {s : sT} {K : Option Int32 → sT → Prop} {r0 : Nat} {x1 : Int32} {x2 : Int32} {x3 : Int32} {x4 : Int32} {x5 : Int32} {u6 : Value} {u7 : Value} {u8 : Value} {t0 : Int32} (h : tT Y (d + 1) 34 44 [.ref r0, .int x1, .int x2, .int x3, .int x4, .int x5, .int t0, .int (0 : Int32), u8] [] s K) : tT Y (d + 1) 34 39 [.ref r0, .int x1, .int x2, .int x3, .int x4, .int x5, u6, u7, u8] [.int t0] s K :=
  (tt_istore (p_34_39 _ _) (Nat.le_of_ble_eq_true rfl) rfl rfl).mpr ((tt_push (p_34_41 _ _)).mpr ((tt_istore (p_34_42 _ _) (Nat.le_of_ble_eq_true rfl) rfl rfl).mpr (h)))
theorem b_34_44 {Y : sY} {d : Nat} {s : sT} {K : Option Int32 → sT → Prop} {r0 : Nat} {x1 : Int32} {x2 : Int32} {x3 : Int32} {x4 : Int32} {x5 : Int32} {x6 : Int32} {x7 : Int32} {u8 : Value} (h : (if x6 ≤ x7 then tT Y (d + 1) 34 11 [.ref r0, .int x1, .int x2, .int x3, .int (x4 + 1), .int x5, .int x6, .int x7, u8] [] s K else (∃ a2, (isO Y r0 4 ∧ s.2 r0 7 = some a2) ∧ (isO Y a2 5 ∧ tT Y d 53 0 [.ref a2, .int x2, .int x4, .int x7] [] s (fun r s1 => tT Y (d + 1) 34 64 [.ref r0, .int x1, .int x2, .int x3, .int x4, .int x5, .int x6, .int x7, u8] ((r.map Value.int).toList ++ [.ref r0]) s1 K))))) : tT Y (d + 1) 34 44 [.ref r0, .int x1, .int x2, .int x3, .int x4, .int x5, .int x6, .int x7, u8] [] s K :=
  (tt_iload (p_34_44 _ _) rfl).mpr ((tt_iload (p_34_46 _ _) rfl).mpr (t3_cmp (p := x6 ≤ x7) (p_34_48 _ _) rfl (fun g1 => (tt_iinc (p_34_98 _ _) rfl rfl rfl).mpr ((tt_goto (p_34_101 _ _)).mpr ((ifp h g1)))) (fun g1 => (tt_aload (p_34_51 _ _) rfl).mpr ((tt_aload (p_34_52 _ _) rfl).mpr (Exists.elim (ifn h g1) (fun a2 h3 => t3_getr (p_34_53 _ _) (isI_4_7) h3.1.1 h3.1.2 ((tt_iload (p_34_56 _ _) rfl).mpr ((tt_iload (p_34_57 _ _) rfl).mpr ((tt_iload (p_34_59 _ _) rfl).mpr (t2_callv (z := 53) (k := 4) (i := a2) (as := [.int x2, .int x4, .int x7]) (rest := [.ref r0]) (p_34_61 _ _) mK_53 mL_53 rfl rfl (Nat.le_of_ble_eq_true rfl) rfl (Nat.le_of_ble_eq_true rfl) h3.2.1 h3.2.2))))))))))
theorem b_34_64 {Y : sY} {d : Nat} {s : sT} {K : Option Int32 → sT → Prop} {r0 : Nat} {x1 : Int32} {x2 : Int32} {x3 : Int32} {x4 : Int32} {x5 : Int32} {x6 : Int32} {x7 : Int32} {u8 : Value} {t0 : Nat} {t1 : Int32} (h : (isO Y t0 4 ∧ tT Y d 35 0 [.ref t0, .int t1, .int x5, .int x1, .int x4, .null, .null] [] s (fun r s1 => tT Y (d + 1) 34 72 [.ref r0, .int x1, .int x2, .int x3, .int x4, .int x5, .int x6, .int x7, u8] ((r.map Value.int).toList ++ []) s1 K))) : tT Y (d + 1) 34 64 [.ref r0, .int x1, .int x2, .int x3, .int x4, .int x5, .int x6, .int x7, u8] [.int t1, .ref t0] s K :=
  (tt_iload (p_34_64 _ _) rfl).mpr ((tt_iload (p_34_66 _ _) rfl).mpr ((tt_iload (p_34_67 _ _) rfl).mpr (t2_callv (z := 35) (k := 5) (i := t0) (as := [.int t1, .int x5, .int x1, .int x4]) (rest := []) (p_34_69 _ _) mK_35 mL_35 rfl rfl (Nat.le_of_ble_eq_true rfl) rfl (Nat.le_of_ble_eq_true rfl) h.1 h.2)))
theorem b_34_72 {Y : sY} {d : Nat} {s : sT} {K : Option Int32 → sT → Prop} {r0 : Nat} {x1 : Int32} {x2 : Int32} {x3 : Int32} {x4 : Int32} {x5 : Int32} {x6 : Int32} {x7 : Int32} {u8 : Value} {t0 : Int32} (h : (if ¬ t0 = (-1 : Int32) then (∃ a2, (isO Y r0 4 ∧ s.2 r0 9 = some a2) ∧ (isO Y a2 1 ∧ tT Y d 15 0 [.ref a2, .int x1, .int t0] [] s (fun r s1 => tT Y (d + 1) 34 92 [.ref r0, .int x1, .int x2, .int x3, .int x4, .int x5, .int x6, .int x7, .int t0] ((r.map Value.int).toList ++ []) s1 K))) else K (some (0 : Int32)) s)) : tT Y (d + 1) 34 72 [.ref r0, .int x1, .int x2, .int x3, .int x4, .int x5, .int x6, .int x7, u8] [.int t0] s K :=
  (tt_istore (p_34_72 _ _) (Nat.le_of_ble_eq_true rfl) rfl rfl).mpr ((tt_iload (p_34_74 _ _) rfl).mpr ((tt_push (p_34_76 _ _)).mpr (t3_cmp (p := ¬ t0 = (-1 : Int32)) (p_34_77 _ _) rfl (fun g1 => (tt_aload (p_34_82 _ _) rfl).mpr (Exists.elim (ifp h g1) (fun a2 h3 => t3_getr (p_34_83 _ _) (isI_4_9) h3.1.1 h3.1.2 ((tt_iload (p_34_86 _ _) rfl).mpr ((tt_iload (p_34_87 _ _) rfl).mpr (t2_callv (z := 15) (k := 3) (i := a2) (as := [.int x1, .int t0]) (rest := []) (p_34_89 _ _) mK_15 mL_15 rfl rfl (Nat.le_of_ble_eq_true rfl) rfl (Nat.le_of_ble_eq_true rfl) h3.2.1 h3.2.2)))))) (fun g1 => (tt_push (p_34_80 _ _)).mpr (tt_ret2 (p_34_81 _ _) (Or.inl rfl) (ifn h g1))))))
theorem b_34_92 {Y : sY} {d : Nat} {s : sT} {K : Option Int32 → sT → Prop} {r0 : Nat} {x1 : Int32} {x2 : Int32} {x3 : Int32} {x4 : Int32} {x5 : Int32} {x6 : Int32} {x7 : Int32} {x8 : Int32} (h : tT Y (d + 1) 34 44 [.ref r0, .int x1, .int x2, .int x3, .int x4, .int x5, .int x6, .int (x7 + 1), .int x8] [] s K) : tT Y (d + 1) 34 92 [.ref r0, .int x1, .int x2, .int x3, .int x4, .int x5, .int x6, .int x7, .int x8] [] s K :=
  (tt_iinc (p_34_92 _ _) rfl rfl rfl).mpr ((tt_goto (p_34_95 _ _)).mpr (h))
/-! InclusionProver$Search.lineFor.(IIII)I -/
theorem p_35_0 (L : Nat) (xs : Nat → Int32) : ll_P L xs 35 0 = some (.inl (lo_aload 1 0)) := (P_35 L xs 0).trans rfl
theorem p_35_1 (L : Nat) (xs : Nat → Int32) : ll_P L xs 35 1 = some (.inl (lo_getf 4 4 7)) := (P_35 L xs 1).trans rfl
theorem p_35_4 (L : Nat) (xs : Nat → Int32) : ll_P L xs 35 4 = some (.inl (lo_iload 5 1)) := (P_35 L xs 4).trans rfl
theorem p_35_5 (L : Nat) (xs : Nat → Int32) : ll_P L xs 35 5 = some (.inr (.inl (45, 2, 8))) := (P_35 L xs 5).trans rfl
theorem p_35_8 (L : Nat) (xs : Nat → Int32) : ll_P L xs 35 8 = some (.inl (lo_if 13 11 (fun x => decide (¬ x = 0)))) := (P_35 L xs 8).trans rfl
theorem p_35_11 (L : Nat) (xs : Nat → Int32) : ll_P L xs 35 11 = some (.inl (lo_push 12 (.int (-1)))) := (P_35 L xs 11).trans rfl
theorem p_35_12 (L : Nat) (xs : Nat → Int32) : ll_P L xs 35 12 = some (.inr (.inr 1)) := (P_35 L xs 12).trans rfl
theorem p_35_13 (L : Nat) (xs : Nat → Int32) : ll_P L xs 35 13 = some (.inl (lo_aload 14 0)) := (P_35 L xs 13).trans rfl
theorem p_35_14 (L : Nat) (xs : Nat → Int32) : ll_P L xs 35 14 = some (.inl (lo_getf 17 4 3)) := (P_35 L xs 14).trans rfl
theorem p_35_17 (L : Nat) (xs : Nat → Int32) : ll_P L xs 35 17 = some (.inl (lo_iload 18 1)) := (P_35 L xs 17).trans rfl
theorem p_35_18 (L : Nat) (xs : Nat → Int32) : ll_P L xs 35 18 = some (.inl (lo_ald 19 0)) := (P_35 L xs 18).trans rfl
theorem p_35_19 (L : Nat) (xs : Nat → Int32) : ll_P L xs 35 19 = some (.inl (lo_istore 21 5)) := (P_35 L xs 19).trans rfl
theorem p_35_21 (L : Nat) (xs : Nat → Int32) : ll_P L xs 35 21 = some (.inl (lo_push 22 (.int 0))) := (P_35 L xs 21).trans rfl
theorem p_35_22 (L : Nat) (xs : Nat → Int32) : ll_P L xs 35 22 = some (.inl (lo_istore 24 6)) := (P_35 L xs 22).trans rfl
theorem p_35_24 (L : Nat) (xs : Nat → Int32) : ll_P L xs 35 24 = some (.inl (lo_iload 26 6)) := (P_35 L xs 24).trans rfl
theorem p_35_26 (L : Nat) (xs : Nat → Int32) : ll_P L xs 35 26 = some (.inl (lo_push 29 (.int 300))) := (P_35 L xs 26).trans rfl
theorem p_35_29 (L : Nat) (xs : Nat → Int32) : ll_P L xs 35 29 = some (.inl (lo_cmp 73 32 (fun x y => decide (y ≤ x)))) := (P_35 L xs 29).trans rfl
theorem p_35_32 (L : Nat) (xs : Nat → Int32) : ll_P L xs 35 32 = some (.inl (lo_iload 34 5)) := (P_35 L xs 32).trans rfl
theorem p_35_34 (L : Nat) (xs : Nat → Int32) : ll_P L xs 35 34 = some (.inl (lo_push 35 (.int (-1)))) := (P_35 L xs 34).trans rfl
theorem p_35_35 (L : Nat) (xs : Nat → Int32) : ll_P L xs 35 35 = some (.inl (lo_cmp 73 38 (fun x y => decide (x = y)))) := (P_35 L xs 35).trans rfl
theorem p_35_38 (L : Nat) (xs : Nat → Int32) : ll_P L xs 35 38 = some (.inl (lo_aload 39 0)) := (P_35 L xs 38).trans rfl
theorem p_35_39 (L : Nat) (xs : Nat → Int32) : ll_P L xs 35 39 = some (.inl (lo_getf 42 4 9)) := (P_35 L xs 39).trans rfl
theorem p_35_42 (L : Nat) (xs : Nat → Int32) : ll_P L xs 35 42 = some (.inl (lo_getf 45 1 1)) := (P_35 L xs 42).trans rfl
theorem p_35_45 (L : Nat) (xs : Nat → Int32) : ll_P L xs 35 45 = some (.inl (lo_iload 47 5)) := (P_35 L xs 45).trans rfl
theorem p_35_47 (L : Nat) (xs : Nat → Int32) : ll_P L xs 35 47 = some (.inl (lo_ald 48 0)) := (P_35 L xs 47).trans rfl
theorem p_35_48 (L : Nat) (xs : Nat → Int32) : ll_P L xs 35 48 = some (.inl (lo_iload 49 2)) := (P_35 L xs 48).trans rfl
theorem p_35_49 (L : Nat) (xs : Nat → Int32) : ll_P L xs 35 49 = some (.inl (lo_push 50 (.int (-1)))) := (P_35 L xs 49).trans rfl
theorem p_35_50 (L : Nat) (xs : Nat → Int32) : ll_P L xs 35 50 = some (.inl (lo_bin 51 (fun x y => x ^^^ y))) := (P_35 L xs 50).trans rfl
theorem p_35_51 (L : Nat) (xs : Nat → Int32) : ll_P L xs 35 51 = some (.inl (lo_bin 52 (fun x y => x &&& y))) := (P_35 L xs 51).trans rfl
theorem p_35_52 (L : Nat) (xs : Nat → Int32) : ll_P L xs 35 52 = some (.inl (lo_if 58 55 (fun x => decide (¬ x = 0)))) := (P_35 L xs 52).trans rfl
theorem p_35_55 (L : Nat) (xs : Nat → Int32) : ll_P L xs 35 55 = some (.inl (lo_iload 57 5)) := (P_35 L xs 55).trans rfl
theorem p_35_57 (L : Nat) (xs : Nat → Int32) : ll_P L xs 35 57 = some (.inr (.inr 1)) := (P_35 L xs 57).trans rfl
theorem p_35_58 (L : Nat) (xs : Nat → Int32) : ll_P L xs 35 58 = some (.inl (lo_aload 59 0)) := (P_35 L xs 58).trans rfl
theorem p_35_59 (L : Nat) (xs : Nat → Int32) : ll_P L xs 35 59 = some (.inl (lo_getf 62 4 5)) := (P_35 L xs 59).trans rfl
theorem p_35_62 (L : Nat) (xs : Nat → Int32) : ll_P L xs 35 62 = some (.inl (lo_iload 64 5)) := (P_35 L xs 62).trans rfl
theorem p_35_64 (L : Nat) (xs : Nat → Int32) : ll_P L xs 35 64 = some (.inl (lo_ald 65 0)) := (P_35 L xs 64).trans rfl
theorem p_35_65 (L : Nat) (xs : Nat → Int32) : ll_P L xs 35 65 = some (.inl (lo_istore 67 5)) := (P_35 L xs 65).trans rfl
theorem p_35_67 (L : Nat) (xs : Nat → Int32) : ll_P L xs 35 67 = some (.inl (lo_iinc 70 6 1)) := (P_35 L xs 67).trans rfl
theorem p_35_70 (L : Nat) (xs : Nat → Int32) : ll_P L xs 35 70 = some (.inl (lo_goto 24)) := (P_35 L xs 70).trans rfl
theorem p_35_73 (L : Nat) (xs : Nat → Int32) : ll_P L xs 35 73 = some (.inl (lo_aload 74 0)) := (P_35 L xs 73).trans rfl
theorem p_35_74 (L : Nat) (xs : Nat → Int32) : ll_P L xs 35 74 = some (.inl (lo_iload 75 1)) := (P_35 L xs 74).trans rfl
theorem p_35_75 (L : Nat) (xs : Nat → Int32) : ll_P L xs 35 75 = some (.inl (lo_iload 76 2)) := (P_35 L xs 75).trans rfl
theorem p_35_76 (L : Nat) (xs : Nat → Int32) : ll_P L xs 35 76 = some (.inl (lo_iload 77 3)) := (P_35 L xs 76).trans rfl
theorem p_35_77 (L : Nat) (xs : Nat → Int32) : ll_P L xs 35 77 = some (.inl (lo_iload 79 4)) := (P_35 L xs 77).trans rfl
theorem p_35_79 (L : Nat) (xs : Nat → Int32) : ll_P L xs 35 79 = some (.inr (.inl (36, 5, 82))) := (P_35 L xs 79).trans rfl
theorem p_35_82 (L : Nat) (xs : Nat → Int32) : ll_P L xs 35 82 = some (.inr (.inr 1)) := (P_35 L xs 82).trans rfl
theorem b_35_0 {Y : sY} {d : Nat} {s : sT} {K : Option Int32 → sT → Prop} {r0 : Nat} {x1 : Int32} {x2 : Int32} {x3 : Int32} {x4 : Int32} (h : (∃ a1, (isO Y r0 4 ∧ s.2 r0 7 = some a1) ∧ (isO Y a1 5 ∧ tT Y d 45 0 [.ref a1, .int x1] [] s (fun r s1 => tT Y (d + 1) 35 8 [.ref r0, .int x1, .int x2, .int x3, .int x4, .null, .null] ((r.map Value.int).toList ++ []) s1 K)))) : tT Y (d + 1) 35 0 [.ref r0, .int x1, .int x2, .int x3, .int x4, .null, .null] [] s K :=
  (tt_aload (p_35_0 _ _) rfl).mpr (Exists.elim h (fun a1 h2 => t3_getr (p_35_1 _ _) (isI_4_7) h2.1.1 h2.1.2 ((tt_iload (p_35_4 _ _) rfl).mpr (t2_callv (z := 45) (k := 2) (i := a1) (as := [.int x1]) (rest := []) (p_35_5 _ _) mK_45 mL_45 rfl rfl (Nat.le_of_ble_eq_true rfl) rfl (Nat.le_of_ble_eq_true rfl) h2.2.1 h2.2.2))))
theorem b_35_8 {Y : sY} {d : Nat} {s : sT} {K : Option Int32 → sT → Prop} {r0 : Nat} {x1 : Int32} {x2 : Int32} {x3 : Int32} {x4 : Int32} {t0 : Int32} (h : (if ¬ t0 = 0 then (∃ a2, (isO Y r0 4 ∧ s.2 r0 3 = some a2) ∧ (∃ m4, (isA Y a2 0 m4 ∧ inR x1 m4) ∧ tT Y (d + 1) 35 24 [.ref r0, .int x1, .int x2, .int x3, .int x4, .int (s.1 a2 (x1).toNatClampNeg), .int (0 : Int32)] [] s K)) else K (some (-1 : Int32)) s)) : tT Y (d + 1) 35 8 [.ref r0, .int x1, .int x2, .int x3, .int x4, .null, .null] [.int t0] s K :=
  t3_if (p := ¬ t0 = 0) (p_35_8 _ _) rfl (fun g1 => (tt_aload (p_35_13 _ _) rfl).mpr (Exists.elim (ifp h g1) (fun a2 h3 => t3_getr (p_35_14 _ _) (isI_4_3) h3.1.1 h3.1.2 ((tt_iload (p_35_17 _ _) rfl).mpr (Exists.elim h3.2 (fun m4 h5 => t3_ald (p_35_18 _ _) h5.1.1 h5.1.2 ((tt_istore (p_35_19 _ _) (Nat.le_of_ble_eq_true rfl) rfl rfl).mpr ((tt_push (p_35_21 _ _)).mpr ((tt_istore (p_35_22 _ _) (Nat.le_of_ble_eq_true rfl) rfl rfl).mpr (h5.2)))))))))) (fun g1 => (tt_push (p_35_11 _ _)).mpr (tt_ret1 (p_35_12 _ _) (ifn h g1)))
theorem b_35_24 {Y : sY} {d : Nat} {s : sT} {K : Option Int32 → sT → Prop} {r0 : Nat} {x1 : Int32} {x2 : Int32} {x3 : Int32} {x4 : Int32} {x5 : Int32} {x6 : Int32} (h : (if (300 : Int32) ≤ x6 then tT Y (d + 1) 35 73 [.ref r0, .int x1, .int x2, .int x3, .int x4, .int x5, .int x6] [] s K else (if x5 = (-1 : Int32) then tT Y (d + 1) 35 73 [.ref r0, .int x1, .int x2, .int x3, .int x4, .int x5, .int x6] [] s K else (∃ a3, (isO Y r0 4 ∧ s.2 r0 9 = some a3) ∧ (∃ a5, (isO Y a3 1 ∧ s.2 a3 1 = some a5) ∧ (∃ m7, (isA Y a5 0 m7 ∧ inR x5 m7) ∧ (if ¬ ((s.1 a5 (x5).toNatClampNeg) &&& (x2 ^^^ (-1 : Int32))) = 0 then (∃ a10, (isO Y r0 4 ∧ s.2 r0 5 = some a10) ∧ (∃ m12, (isA Y a10 0 m12 ∧ inR x5 m12) ∧ tT Y (d + 1) 35 24 [.ref r0, .int x1, .int x2, .int x3, .int x4, .int (s.1 a10 (x5).toNatClampNeg), .int (x6 + 1)] [] s K)) else K (some x5) s))))))) : tT Y (d + 1) 35 24 [.ref r0, .int x1, .int x2, .int x3, .int x4, .int x5, .int x6] [] s K :=
  (tt_iload (p_35_24 _ _) rfl).mpr ((tt_push (p_35_26 _ _)).mpr (t3_cmp (p := (300 : Int32) ≤ x6) (p_35_29 _ _) rfl (fun g1 => (ifp h g1)) (fun g1 => (tt_iload (p_35_32 _ _) rfl).mpr ((tt_push (p_35_34 _ _)).mpr (t3_cmp (p := x5 = (-1 : Int32)) (p_35_35 _ _) rfl (fun g2 => (ifp (ifn h g1) g2)) (fun g2 => (tt_aload (p_35_38 _ _) rfl).mpr (Exists.elim (ifn (ifn h g1) g2) (fun a3 h4 => t3_getr (p_35_39 _ _) (isI_4_9) h4.1.1 h4.1.2 (Exists.elim h4.2 (fun a5 h6 => t3_getr (p_35_42 _ _) (isI_1_1) h6.1.1 h6.1.2 ((tt_iload (p_35_45 _ _) rfl).mpr (Exists.elim h6.2 (fun m7 h8 => t3_ald (p_35_47 _ _) h8.1.1 h8.1.2 ((tt_iload (p_35_48 _ _) rfl).mpr ((tt_push (p_35_49 _ _)).mpr ((tt_bin (p_35_50 _ _)).mpr ((tt_bin (p_35_51 _ _)).mpr (t3_if (p := ¬ ((s.1 a5 (x5).toNatClampNeg) &&& (x2 ^^^ (-1 : Int32))) = 0) (p_35_52 _ _) rfl (fun g9 => (tt_aload (p_35_58 _ _) rfl).mpr (Exists.elim (ifp h8.2 g9) (fun a10 h11 => t3_getr (p_35_59 _ _) (isI_4_5) h11.1.1 h11.1.2 ((tt_iload (p_35_62 _ _) rfl).mpr (Exists.elim h11.2 (fun m12 h13 => t3_ald (p_35_64 _ _) h13.1.1 h13.1.2 ((tt_istore (p_35_65 _ _) (Nat.le_of_ble_eq_true rfl) rfl rfl).mpr ((tt_iinc (p_35_67 _ _) rfl rfl rfl).mpr ((tt_goto (p_35_70 _ _)).mpr (h13.2)))))))))) (fun g9 => (tt_iload (p_35_55 _ _) rfl).mpr (tt_ret1 (p_35_57 _ _) (ifn h8.2 g9)))))))))))))))))))))
theorem b_35_73 {Y : sY} {d : Nat} {s : sT} {K : Option Int32 → sT → Prop} {r0 : Nat} {x1 : Int32} {x2 : Int32} {x3 : Int32} {x4 : Int32} {x5 : Int32} {x6 : Int32} (h : (isO Y r0 4 ∧ tT Y d 36 0 [.ref r0, .int x1, .int x2, .int x3, .int x4, .null] [] s (fun r s1 => tT Y (d + 1) 35 82 [.ref r0, .int x1, .int x2, .int x3, .int x4, .int x5, .int x6] ((r.map Value.int).toList ++ []) s1 K))) : tT Y (d + 1) 35 73 [.ref r0, .int x1, .int x2, .int x3, .int x4, .int x5, .int x6] [] s K :=
  (tt_aload (p_35_73 _ _) rfl).mpr ((tt_iload (p_35_74 _ _) rfl).mpr ((tt_iload (p_35_75 _ _) rfl).mpr ((tt_iload (p_35_76 _ _) rfl).mpr ((tt_iload (p_35_77 _ _) rfl).mpr (t2_callv (z := 36) (k := 5) (i := r0) (as := [.int x1, .int x2, .int x3, .int x4]) (rest := []) (p_35_79 _ _) mK_36 mL_36 rfl rfl (Nat.le_of_ble_eq_true rfl) rfl (Nat.le_of_ble_eq_true rfl) h.1 h.2)))))
theorem b_35_82 {Y : sY} {d : Nat} {s : sT} {K : Option Int32 → sT → Prop} {r0 : Nat} {x1 : Int32} {x2 : Int32} {x3 : Int32} {x4 : Int32} {x5 : Int32} {x6 : Int32} {t0 : Int32} (h : K (some t0) s) : tT Y (d + 1) 35 82 [.ref r0, .int x1, .int x2, .int x3, .int x4, .int x5, .int x6] [.int t0] s K :=
  tt_ret1 (p_35_82 _ _) h
/-! InclusionProver$Search.comeTo.(IIII)I -/
theorem p_36_0 (L : Nat) (xs : Nat → Int32) : ll_P L xs 36 0 = some (.inl (lo_aload 1 0)) := (P_36 L xs 0).trans rfl
theorem p_36_1 (L : Nat) (xs : Nat → Int32) : ll_P L xs 36 1 = some (.inl (lo_getf 4 4 9)) := (P_36 L xs 1).trans rfl
theorem p_36_4 (L : Nat) (xs : Nat → Int32) : ll_P L xs 36 4 = some (.inl (lo_iload 5 1)) := (P_36 L xs 4).trans rfl
theorem p_36_5 (L : Nat) (xs : Nat → Int32) : ll_P L xs 36 5 = some (.inl (lo_iload 6 2)) := (P_36 L xs 5).trans rfl
theorem p_36_6 (L : Nat) (xs : Nat → Int32) : ll_P L xs 36 6 = some (.inr (.inl (13, 3, 9))) := (P_36 L xs 6).trans rfl
theorem p_36_9 (L : Nat) (xs : Nat → Int32) : ll_P L xs 36 9 = some (.inl (lo_istore 11 5)) := (P_36 L xs 9).trans rfl
theorem p_36_11 (L : Nat) (xs : Nat → Int32) : ll_P L xs 36 11 = some (.inl (lo_iload 13 5)) := (P_36 L xs 11).trans rfl
theorem p_36_13 (L : Nat) (xs : Nat → Int32) : ll_P L xs 36 13 = some (.inl (lo_push 14 (.int (-1)))) := (P_36 L xs 13).trans rfl
theorem p_36_14 (L : Nat) (xs : Nat → Int32) : ll_P L xs 36 14 = some (.inl (lo_cmp 19 17 (fun x y => decide (¬ x = y)))) := (P_36 L xs 14).trans rfl
theorem p_36_17 (L : Nat) (xs : Nat → Int32) : ll_P L xs 36 17 = some (.inl (lo_push 18 (.int (-1)))) := (P_36 L xs 17).trans rfl
theorem p_36_18 (L : Nat) (xs : Nat → Int32) : ll_P L xs 36 18 = some (.inr (.inr 1)) := (P_36 L xs 18).trans rfl
theorem p_36_19 (L : Nat) (xs : Nat → Int32) : ll_P L xs 36 19 = some (.inl (lo_aload 20 0)) := (P_36 L xs 19).trans rfl
theorem p_36_20 (L : Nat) (xs : Nat → Int32) : ll_P L xs 36 20 = some (.inl (lo_getf 23 4 0)) := (P_36 L xs 20).trans rfl
theorem p_36_23 (L : Nat) (xs : Nat → Int32) : ll_P L xs 36 23 = some (.inl (lo_iload 25 5)) := (P_36 L xs 23).trans rfl
theorem p_36_25 (L : Nat) (xs : Nat → Int32) : ll_P L xs 36 25 = some (.inl (lo_iload 26 3)) := (P_36 L xs 25).trans rfl
theorem p_36_26 (L : Nat) (xs : Nat → Int32) : ll_P L xs 36 26 = some (.inl (lo_ast 27 0)) := (P_36 L xs 26).trans rfl
theorem p_36_27 (L : Nat) (xs : Nat → Int32) : ll_P L xs 36 27 = some (.inl (lo_aload 28 0)) := (P_36 L xs 27).trans rfl
theorem p_36_28 (L : Nat) (xs : Nat → Int32) : ll_P L xs 36 28 = some (.inl (lo_getf 31 4 1)) := (P_36 L xs 28).trans rfl
theorem p_36_31 (L : Nat) (xs : Nat → Int32) : ll_P L xs 36 31 = some (.inl (lo_iload 33 5)) := (P_36 L xs 31).trans rfl
theorem p_36_33 (L : Nat) (xs : Nat → Int32) : ll_P L xs 36 33 = some (.inl (lo_iload 35 4)) := (P_36 L xs 33).trans rfl
theorem p_36_35 (L : Nat) (xs : Nat → Int32) : ll_P L xs 36 35 = some (.inl (lo_ast 36 0)) := (P_36 L xs 35).trans rfl
theorem p_36_36 (L : Nat) (xs : Nat → Int32) : ll_P L xs 36 36 = some (.inl (lo_aload 37 0)) := (P_36 L xs 36).trans rfl
theorem p_36_37 (L : Nat) (xs : Nat → Int32) : ll_P L xs 36 37 = some (.inl (lo_getf 40 4 2)) := (P_36 L xs 37).trans rfl
theorem p_36_40 (L : Nat) (xs : Nat → Int32) : ll_P L xs 36 40 = some (.inl (lo_iload 42 5)) := (P_36 L xs 40).trans rfl
theorem p_36_42 (L : Nat) (xs : Nat → Int32) : ll_P L xs 36 42 = some (.inl (lo_iload 43 3)) := (P_36 L xs 42).trans rfl
theorem p_36_43 (L : Nat) (xs : Nat → Int32) : ll_P L xs 36 43 = some (.inl (lo_push 44 (.int (-1)))) := (P_36 L xs 43).trans rfl
theorem p_36_44 (L : Nat) (xs : Nat → Int32) : ll_P L xs 36 44 = some (.inl (lo_cmp 51 47 (fun x y => decide (¬ x = y)))) := (P_36 L xs 44).trans rfl
theorem p_36_47 (L : Nat) (xs : Nat → Int32) : ll_P L xs 36 47 = some (.inl (lo_push 48 (.int 0))) := (P_36 L xs 47).trans rfl
theorem p_36_48 (L : Nat) (xs : Nat → Int32) : ll_P L xs 36 48 = some (.inl (lo_goto 59)) := (P_36 L xs 48).trans rfl
theorem p_36_51 (L : Nat) (xs : Nat → Int32) : ll_P L xs 36 51 = some (.inl (lo_aload 52 0)) := (P_36 L xs 51).trans rfl
theorem p_36_52 (L : Nat) (xs : Nat → Int32) : ll_P L xs 36 52 = some (.inl (lo_getf 55 4 2)) := (P_36 L xs 52).trans rfl
theorem p_36_55 (L : Nat) (xs : Nat → Int32) : ll_P L xs 36 55 = some (.inl (lo_iload 56 3)) := (P_36 L xs 55).trans rfl
theorem p_36_56 (L : Nat) (xs : Nat → Int32) : ll_P L xs 36 56 = some (.inl (lo_ald 57 0)) := (P_36 L xs 56).trans rfl
theorem p_36_57 (L : Nat) (xs : Nat → Int32) : ll_P L xs 36 57 = some (.inl (lo_push 58 (.int 1))) := (P_36 L xs 57).trans rfl
theorem p_36_58 (L : Nat) (xs : Nat → Int32) : ll_P L xs 36 58 = some (.inl (lo_bin 59 (fun x y => x + y))) := (P_36 L xs 58).trans rfl
theorem p_36_59 (L : Nat) (xs : Nat → Int32) : ll_P L xs 36 59 = some (.inl (lo_ast 60 0)) := (P_36 L xs 59).trans rfl
theorem p_36_60 (L : Nat) (xs : Nat → Int32) : ll_P L xs 36 60 = some (.inl (lo_aload 61 0)) := (P_36 L xs 60).trans rfl
theorem p_36_61 (L : Nat) (xs : Nat → Int32) : ll_P L xs 36 61 = some (.inl (lo_getf 64 4 9)) := (P_36 L xs 61).trans rfl
theorem p_36_64 (L : Nat) (xs : Nat → Int32) : ll_P L xs 36 64 = some (.inl (lo_aload 65 0)) := (P_36 L xs 64).trans rfl
theorem p_36_65 (L : Nat) (xs : Nat → Int32) : ll_P L xs 36 65 = some (.inl (lo_getf 68 4 9)) := (P_36 L xs 65).trans rfl
theorem p_36_68 (L : Nat) (xs : Nat → Int32) : ll_P L xs 36 68 = some (.inl (lo_getf 71 1 10)) := (P_36 L xs 68).trans rfl
theorem p_36_71 (L : Nat) (xs : Nat → Int32) : ll_P L xs 36 71 = some (.inl (lo_aload 72 0)) := (P_36 L xs 71).trans rfl
theorem p_36_72 (L : Nat) (xs : Nat → Int32) : ll_P L xs 36 72 = some (.inl (lo_getf 75 4 2)) := (P_36 L xs 72).trans rfl
theorem p_36_75 (L : Nat) (xs : Nat → Int32) : ll_P L xs 36 75 = some (.inl (lo_iload 77 5)) := (P_36 L xs 75).trans rfl
theorem p_36_77 (L : Nat) (xs : Nat → Int32) : ll_P L xs 36 77 = some (.inl (lo_ald 78 0)) := (P_36 L xs 77).trans rfl
theorem p_36_78 (L : Nat) (xs : Nat → Int32) : ll_P L xs 36 78 = some (.inl (lo_mm 81 (fun x y => if x < y then y else x))) := (P_36 L xs 78).trans rfl
theorem p_36_81 (L : Nat) (xs : Nat → Int32) : ll_P L xs 36 81 = some (.inl (lo_putf 84 1 10 0)) := (P_36 L xs 81).trans rfl
theorem p_36_84 (L : Nat) (xs : Nat → Int32) : ll_P L xs 36 84 = some (.inl (lo_aload 85 0)) := (P_36 L xs 84).trans rfl
theorem p_36_85 (L : Nat) (xs : Nat → Int32) : ll_P L xs 36 85 = some (.inl (lo_getf 88 4 5)) := (P_36 L xs 85).trans rfl
theorem p_36_88 (L : Nat) (xs : Nat → Int32) : ll_P L xs 36 88 = some (.inl (lo_iload 90 5)) := (P_36 L xs 88).trans rfl
theorem p_36_90 (L : Nat) (xs : Nat → Int32) : ll_P L xs 36 90 = some (.inl (lo_push 91 (.int (-1)))) := (P_36 L xs 90).trans rfl
theorem p_36_91 (L : Nat) (xs : Nat → Int32) : ll_P L xs 36 91 = some (.inl (lo_ast 92 0)) := (P_36 L xs 91).trans rfl
theorem p_36_92 (L : Nat) (xs : Nat → Int32) : ll_P L xs 36 92 = some (.inl (lo_aload 93 0)) := (P_36 L xs 92).trans rfl
theorem p_36_93 (L : Nat) (xs : Nat → Int32) : ll_P L xs 36 93 = some (.inl (lo_getf 96 4 3)) := (P_36 L xs 93).trans rfl
theorem p_36_96 (L : Nat) (xs : Nat → Int32) : ll_P L xs 36 96 = some (.inl (lo_iload 97 1)) := (P_36 L xs 96).trans rfl
theorem p_36_97 (L : Nat) (xs : Nat → Int32) : ll_P L xs 36 97 = some (.inl (lo_ald 98 0)) := (P_36 L xs 97).trans rfl
theorem p_36_98 (L : Nat) (xs : Nat → Int32) : ll_P L xs 36 98 = some (.inl (lo_push 99 (.int (-1)))) := (P_36 L xs 98).trans rfl
theorem p_36_99 (L : Nat) (xs : Nat → Int32) : ll_P L xs 36 99 = some (.inl (lo_cmp 113 102 (fun x y => decide (¬ x = y)))) := (P_36 L xs 99).trans rfl
theorem p_36_102 (L : Nat) (xs : Nat → Int32) : ll_P L xs 36 102 = some (.inl (lo_aload 103 0)) := (P_36 L xs 102).trans rfl
theorem p_36_103 (L : Nat) (xs : Nat → Int32) : ll_P L xs 36 103 = some (.inl (lo_getf 106 4 3)) := (P_36 L xs 103).trans rfl
theorem p_36_106 (L : Nat) (xs : Nat → Int32) : ll_P L xs 36 106 = some (.inl (lo_iload 107 1)) := (P_36 L xs 106).trans rfl
theorem p_36_107 (L : Nat) (xs : Nat → Int32) : ll_P L xs 36 107 = some (.inl (lo_iload 109 5)) := (P_36 L xs 107).trans rfl
theorem p_36_109 (L : Nat) (xs : Nat → Int32) : ll_P L xs 36 109 = some (.inl (lo_ast 110 0)) := (P_36 L xs 109).trans rfl
theorem p_36_110 (L : Nat) (xs : Nat → Int32) : ll_P L xs 36 110 = some (.inl (lo_goto 126)) := (P_36 L xs 110).trans rfl
theorem p_36_113 (L : Nat) (xs : Nat → Int32) : ll_P L xs 36 113 = some (.inl (lo_aload 114 0)) := (P_36 L xs 113).trans rfl
theorem p_36_114 (L : Nat) (xs : Nat → Int32) : ll_P L xs 36 114 = some (.inl (lo_getf 117 4 5)) := (P_36 L xs 114).trans rfl
theorem p_36_117 (L : Nat) (xs : Nat → Int32) : ll_P L xs 36 117 = some (.inl (lo_aload 118 0)) := (P_36 L xs 117).trans rfl
theorem p_36_118 (L : Nat) (xs : Nat → Int32) : ll_P L xs 36 118 = some (.inl (lo_getf 121 4 4)) := (P_36 L xs 118).trans rfl
theorem p_36_121 (L : Nat) (xs : Nat → Int32) : ll_P L xs 36 121 = some (.inl (lo_iload 122 1)) := (P_36 L xs 121).trans rfl
theorem p_36_122 (L : Nat) (xs : Nat → Int32) : ll_P L xs 36 122 = some (.inl (lo_ald 123 0)) := (P_36 L xs 122).trans rfl
theorem p_36_123 (L : Nat) (xs : Nat → Int32) : ll_P L xs 36 123 = some (.inl (lo_iload 125 5)) := (P_36 L xs 123).trans rfl
theorem p_36_125 (L : Nat) (xs : Nat → Int32) : ll_P L xs 36 125 = some (.inl (lo_ast 126 0)) := (P_36 L xs 125).trans rfl
theorem p_36_126 (L : Nat) (xs : Nat → Int32) : ll_P L xs 36 126 = some (.inl (lo_aload 127 0)) := (P_36 L xs 126).trans rfl
theorem p_36_127 (L : Nat) (xs : Nat → Int32) : ll_P L xs 36 127 = some (.inl (lo_getf 130 4 4)) := (P_36 L xs 127).trans rfl
theorem p_36_130 (L : Nat) (xs : Nat → Int32) : ll_P L xs 36 130 = some (.inl (lo_iload 131 1)) := (P_36 L xs 130).trans rfl
theorem p_36_131 (L : Nat) (xs : Nat → Int32) : ll_P L xs 36 131 = some (.inl (lo_iload 133 5)) := (P_36 L xs 131).trans rfl
theorem p_36_133 (L : Nat) (xs : Nat → Int32) : ll_P L xs 36 133 = some (.inl (lo_ast 134 0)) := (P_36 L xs 133).trans rfl
theorem p_36_134 (L : Nat) (xs : Nat → Int32) : ll_P L xs 36 134 = some (.inl (lo_iload 136 5)) := (P_36 L xs 134).trans rfl
theorem p_36_136 (L : Nat) (xs : Nat → Int32) : ll_P L xs 36 136 = some (.inr (.inr 1)) := (P_36 L xs 136).trans rfl
theorem b_36_0 {Y : sY} {d : Nat} {s : sT} {K : Option Int32 → sT → Prop} {r0 : Nat} {x1 : Int32} {x2 : Int32} {x3 : Int32} {x4 : Int32} (h : (∃ a1, (isO Y r0 4 ∧ s.2 r0 9 = some a1) ∧ (isO Y a1 1 ∧ tT Y d 13 0 [.ref a1, .int x1, .int x2, .null] [] s (fun r s1 => tT Y (d + 1) 36 9 [.ref r0, .int x1, .int x2, .int x3, .int x4, .null] ((r.map Value.int).toList ++ []) s1 K)))) : tT Y (d + 1) 36 0 [.ref r0, .int x1, .int x2, .int x3, .int x4, .null] [] s K :=
  (tt_aload (p_36_0 _ _) rfl).mpr (Exists.elim h (fun a1 h2 => t3_getr (p_36_1 _ _) (isI_4_9) h2.1.1 h2.1.2 ((tt_iload (p_36_4 _ _) rfl).mpr ((tt_iload (p_36_5 _ _) rfl).mpr (t2_callv (z := 13) (k := 3) (i := a1) (as := [.int x1, .int x2]) (rest := []) (p_36_6 _ _) mK_13 mL_13 rfl rfl (Nat.le_of_ble_eq_true rfl) rfl (Nat.le_of_ble_eq_true rfl) h2.2.1 h2.2.2)))))
theorem b_36_9 {Y : sY} {d : Nat} {s : sT} {K : Option Int32 → sT → Prop} {r0 : Nat} {x1 : Int32} {x2 : Int32} {x3 : Int32} {x4 : Int32} {t0 : Int32} (h : (if ¬ t0 = (-1 : Int32) then (∃ a2, (isO Y r0 4 ∧ s.2 r0 0 = some a2) ∧ (∃ m4, (isA Y a2 0 m4 ∧ inR t0 m4) ∧ (∃ a6, (isO Y r0 4 ∧ (pV s a2 (t0).toNatClampNeg x3).2 r0 1 = some a6) ∧ (∃ m8, (isA Y a6 0 m8 ∧ inR t0 m8) ∧ (∃ a10, (isO Y r0 4 ∧ (pV (pV s a2 (t0).toNatClampNeg x3) a6 (t0).toNatClampNeg x4).2 r0 2 = some a10) ∧ (if ¬ x3 = (-1 : Int32) then (∃ a13, (isO Y r0 4 ∧ (pV (pV s a2 (t0).toNatClampNeg x3) a6 (t0).toNatClampNeg x4).2 r0 2 = some a13) ∧ (∃ m15, (isA Y a13 0 m15 ∧ inR x3 m15) ∧ tT Y (d + 1) 36 59 [.ref r0, .int x1, .int x2, .int x3, .int x4, .int t0] [.int (((pV (pV s a2 (t0).toNatClampNeg x3) a6 (t0).toNatClampNeg x4).1 a13 (x3).toNatClampNeg) + (1 : Int32)), .int t0, .ref a10] (pV (pV s a2 (t0).toNatClampNeg x3) a6 (t0).toNatClampNeg x4) K)) else tT Y (d + 1) 36 59 [.ref r0, .int x1, .int x2, .int x3, .int x4, .int t0] [.int (0 : Int32), .int t0, .ref a10] (pV (pV s a2 (t0).toNatClampNeg x3) a6 (t0).toNatClampNeg x4) K)))))) else K (some (-1 : Int32)) s)) : tT Y (d + 1) 36 9 [.ref r0, .int x1, .int x2, .int x3, .int x4, .null] [.int t0] s K :=
  (tt_istore (p_36_9 _ _) (Nat.le_of_ble_eq_true rfl) rfl rfl).mpr ((tt_iload (p_36_11 _ _) rfl).mpr ((tt_push (p_36_13 _ _)).mpr (t3_cmp (p := ¬ t0 = (-1 : Int32)) (p_36_14 _ _) rfl (fun g1 => (tt_aload (p_36_19 _ _) rfl).mpr (Exists.elim (ifp h g1) (fun a2 h3 => t3_getr (p_36_20 _ _) (isI_4_0) h3.1.1 h3.1.2 ((tt_iload (p_36_23 _ _) rfl).mpr ((tt_iload (p_36_25 _ _) rfl).mpr (Exists.elim h3.2 (fun m4 h5 => t3_ast (p_36_26 _ _) h5.1.1 h5.1.2 ((tt_aload (p_36_27 _ _) rfl).mpr (Exists.elim h5.2 (fun a6 h7 => t3_getr (p_36_28 _ _) (isI_4_1) h7.1.1 h7.1.2 ((tt_iload (p_36_31 _ _) rfl).mpr ((tt_iload (p_36_33 _ _) rfl).mpr (Exists.elim h7.2 (fun m8 h9 => t3_ast (p_36_35 _ _) h9.1.1 h9.1.2 ((tt_aload (p_36_36 _ _) rfl).mpr (Exists.elim h9.2 (fun a10 h11 => t3_getr (p_36_37 _ _) (isI_4_2) h11.1.1 h11.1.2 ((tt_iload (p_36_40 _ _) rfl).mpr ((tt_iload (p_36_42 _ _) rfl).mpr ((tt_push (p_36_43 _ _)).mpr (t3_cmp (p := ¬ x3 = (-1 : Int32)) (p_36_44 _ _) rfl (fun g12 => (tt_aload (p_36_51 _ _) rfl).mpr (Exists.elim (ifp h11.2 g12) (fun a13 h14 => t3_getr (p_36_52 _ _) (isI_4_2) h14.1.1 h14.1.2 ((tt_iload (p_36_55 _ _) rfl).mpr (Exists.elim h14.2 (fun m15 h16 => t3_ald (p_36_56 _ _) h16.1.1 h16.1.2 ((tt_push (p_36_57 _ _)).mpr ((tt_bin (p_36_58 _ _)).mpr (h16.2))))))))) (fun g12 => (tt_push (p_36_47 _ _)).mpr ((tt_goto (p_36_48 _ _)).mpr ((ifn h11.2 g12))))))))))))))))))))))))) (fun g1 => (tt_push (p_36_17 _ _)).mpr (tt_ret1 (p_36_18 _ _) (ifn h g1))))))
theorem b_36_59 {Y : sY} {d : Nat} {s : sT} {K : Option Int32 → sT → Prop} {r0 : Nat} {x1 : Int32} {x2 : Int32} {x3 : Int32} {x4 : Int32} {x5 : Int32} {t0 : Nat} {t1 : Int32} {t2 : Int32} (h : (∃ m1, (isA Y t0 0 m1 ∧ inR t1 m1) ∧ (∃ a3, (isO Y r0 4 ∧ (pV s t0 (t1).toNatClampNeg t2).2 r0 9 = some a3) ∧ (∃ a5, (isO Y r0 4 ∧ (pV s t0 (t1).toNatClampNeg t2).2 r0 9 = some a5) ∧ (isO Y a5 1 ∧ (∃ a7, (isO Y r0 4 ∧ (pV s t0 (t1).toNatClampNeg t2).2 r0 2 = some a7) ∧ (∃ m9, (isA Y a7 0 m9 ∧ inR x5 m9) ∧ (isO Y a3 1 ∧ (∃ a11, (isO Y r0 4 ∧ (pV (pV s t0 (t1).toNatClampNeg t2) a3 10 (if ((pV s t0 (t1).toNatClampNeg t2).1 a5 10) < ((pV s t0 (t1).toNatClampNeg t2).1 a7 (x5).toNatClampNeg) then ((pV s t0 (t1).toNatClampNeg t2).1 a7 (x5).toNatClampNeg) else ((pV s t0 (t1).toNatClampNeg t2).1 a5 10))).2 r0 5 = some a11) ∧ (∃ m13, (isA Y a11 0 m13 ∧ inR x5 m13) ∧ (∃ a15, (isO Y r0 4 ∧ (pV (pV (pV s t0 (t1).toNatClampNeg t2) a3 10 (if ((pV s t0 (t1).toNatClampNeg t2).1 a5 10) < ((pV s t0 (t1).toNatClampNeg t2).1 a7 (x5).toNatClampNeg) then ((pV s t0 (t1).toNatClampNeg t2).1 a7 (x5).toNatClampNeg) else ((pV s t0 (t1).toNatClampNeg t2).1 a5 10))) a11 (x5).toNatClampNeg (-1 : Int32)).2 r0 3 = some a15) ∧ (∃ m17, (isA Y a15 0 m17 ∧ inR x1 m17) ∧ (if ¬ ((pV (pV (pV s t0 (t1).toNatClampNeg t2) a3 10 (if ((pV s t0 (t1).toNatClampNeg t2).1 a5 10) < ((pV s t0 (t1).toNatClampNeg t2).1 a7 (x5).toNatClampNeg) then ((pV s t0 (t1).toNatClampNeg t2).1 a7 (x5).toNatClampNeg) else ((pV s t0 (t1).toNatClampNeg t2).1 a5 10))) a11 (x5).toNatClampNeg (-1 : Int32)).1 a15 (x1).toNatClampNeg) = (-1 : Int32) then (∃ a20, (isO Y r0 4 ∧ (pV (pV (pV s t0 (t1).toNatClampNeg t2) a3 10 (if ((pV s t0 (t1).toNatClampNeg t2).1 a5 10) < ((pV s t0 (t1).toNatClampNeg t2).1 a7 (x5).toNatClampNeg) then ((pV s t0 (t1).toNatClampNeg t2).1 a7 (x5).toNatClampNeg) else ((pV s t0 (t1).toNatClampNeg t2).1 a5 10))) a11 (x5).toNatClampNeg (-1 : Int32)).2 r0 5 = some a20) ∧ (∃ a22, (isO Y r0 4 ∧ (pV (pV (pV s t0 (t1).toNatClampNeg t2) a3 10 (if ((pV s t0 (t1).toNatClampNeg t2).1 a5 10) < ((pV s t0 (t1).toNatClampNeg t2).1 a7 (x5).toNatClampNeg) then ((pV s t0 (t1).toNatClampNeg t2).1 a7 (x5).toNatClampNeg) else ((pV s t0 (t1).toNatClampNeg t2).1 a5 10))) a11 (x5).toNatClampNeg (-1 : Int32)).2 r0 4 = some a22) ∧ (∃ m24, (isA Y a22 0 m24 ∧ inR x1 m24) ∧ (∃ m26, (isA Y a20 0 m26 ∧ inR ((pV (pV (pV s t0 (t1).toNatClampNeg t2) a3 10 (if ((pV s t0 (t1).toNatClampNeg t2).1 a5 10) < ((pV s t0 (t1).toNatClampNeg t2).1 a7 (x5).toNatClampNeg) then ((pV s t0 (t1).toNatClampNeg t2).1 a7 (x5).toNatClampNeg) else ((pV s t0 (t1).toNatClampNeg t2).1 a5 10))) a11 (x5).toNatClampNeg (-1 : Int32)).1 a22 (x1).toNatClampNeg) m26) ∧ tT Y (d + 1) 36 126 [.ref r0, .int x1, .int x2, .int x3, .int x4, .int x5] [] (pV (pV (pV (pV s t0 (t1).toNatClampNeg t2) a3 10 (if ((pV s t0 (t1).toNatClampNeg t2).1 a5 10) < ((pV s t0 (t1).toNatClampNeg t2).1 a7 (x5).toNatClampNeg) then ((pV s t0 (t1).toNatClampNeg t2).1 a7 (x5).toNatClampNeg) else ((pV s t0 (t1).toNatClampNeg t2).1 a5 10))) a11 (x5).toNatClampNeg (-1 : Int32)) a20 (((pV (pV (pV s t0 (t1).toNatClampNeg t2) a3 10 (if ((pV s t0 (t1).toNatClampNeg t2).1 a5 10) < ((pV s t0 (t1).toNatClampNeg t2).1 a7 (x5).toNatClampNeg) then ((pV s t0 (t1).toNatClampNeg t2).1 a7 (x5).toNatClampNeg) else ((pV s t0 (t1).toNatClampNeg t2).1 a5 10))) a11 (x5).toNatClampNeg (-1 : Int32)).1 a22 (x1).toNatClampNeg)).toNatClampNeg x5) K)))) else (∃ a28, (isO Y r0 4 ∧ (pV (pV (pV s t0 (t1).toNatClampNeg t2) a3 10 (if ((pV s t0 (t1).toNatClampNeg t2).1 a5 10) < ((pV s t0 (t1).toNatClampNeg t2).1 a7 (x5).toNatClampNeg) then ((pV s t0 (t1).toNatClampNeg t2).1 a7 (x5).toNatClampNeg) else ((pV s t0 (t1).toNatClampNeg t2).1 a5 10))) a11 (x5).toNatClampNeg (-1 : Int32)).2 r0 3 = some a28) ∧ (∃ m30, (isA Y a28 0 m30 ∧ inR x1 m30) ∧ tT Y (d + 1) 36 126 [.ref r0, .int x1, .int x2, .int x3, .int x4, .int x5] [] (pV (pV (pV (pV s t0 (t1).toNatClampNeg t2) a3 10 (if ((pV s t0 (t1).toNatClampNeg t2).1 a5 10) < ((pV s t0 (t1).toNatClampNeg t2).1 a7 (x5).toNatClampNeg) then ((pV s t0 (t1).toNatClampNeg t2).1 a7 (x5).toNatClampNeg) else ((pV s t0 (t1).toNatClampNeg t2).1 a5 10))) a11 (x5).toNatClampNeg (-1 : Int32)) a28 (x1).toNatClampNeg x5) K))))))))))))))) : tT Y (d + 1) 36 59 [.ref r0, .int x1, .int x2, .int x3, .int x4, .int x5] [.int t2, .int t1, .ref t0] s K :=
  Exists.elim h (fun m1 h2 => t3_ast (p_36_59 _ _) h2.1.1 h2.1.2 ((tt_aload (p_36_60 _ _) rfl).mpr (Exists.elim h2.2 (fun a3 h4 => t3_getr (p_36_61 _ _) (isI_4_9) h4.1.1 h4.1.2 ((tt_aload (p_36_64 _ _) rfl).mpr (Exists.elim h4.2 (fun a5 h6 => t3_getr (p_36_65 _ _) (isI_4_9) h6.1.1 h6.1.2 (t3_geti (p_36_68 _ _) (isI_1_10) h6.2.1 ((tt_aload (p_36_71 _ _) rfl).mpr (Exists.elim h6.2.2 (fun a7 h8 => t3_getr (p_36_72 _ _) (isI_4_2) h8.1.1 h8.1.2 ((tt_iload (p_36_75 _ _) rfl).mpr (Exists.elim h8.2 (fun m9 h10 => t3_ald (p_36_77 _ _) h10.1.1 h10.1.2 ((tt_mm (p_36_78 _ _) (Nat.le_of_ble_eq_true rfl)).mpr ((t2_puti (p_36_81 _ _) isI_1_10 h10.2.1).mpr ((tt_aload (p_36_84 _ _) rfl).mpr (Exists.elim h10.2.2 (fun a11 h12 => t3_getr (p_36_85 _ _) (isI_4_5) h12.1.1 h12.1.2 ((tt_iload (p_36_88 _ _) rfl).mpr ((tt_push (p_36_90 _ _)).mpr (Exists.elim h12.2 (fun m13 h14 => t3_ast (p_36_91 _ _) h14.1.1 h14.1.2 ((tt_aload (p_36_92 _ _) rfl).mpr (Exists.elim h14.2 (fun a15 h16 => t3_getr (p_36_93 _ _) (isI_4_3) h16.1.1 h16.1.2 ((tt_iload (p_36_96 _ _) rfl).mpr (Exists.elim h16.2 (fun m17 h18 => t3_ald (p_36_97 _ _) h18.1.1 h18.1.2 ((tt_push (p_36_98 _ _)).mpr (t3_cmp (p := ¬ ((pV (pV (pV s t0 (t1).toNatClampNeg t2) a3 10 (if ((pV s t0 (t1).toNatClampNeg t2).1 a5 10) < ((pV s t0 (t1).toNatClampNeg t2).1 a7 (x5).toNatClampNeg) then ((pV s t0 (t1).toNatClampNeg t2).1 a7 (x5).toNatClampNeg) else ((pV s t0 (t1).toNatClampNeg t2).1 a5 10))) a11 (x5).toNatClampNeg (-1 : Int32)).1 a15 (x1).toNatClampNeg) = (-1 : Int32)) (p_36_99 _ _) rfl (fun g19 => (tt_aload (p_36_113 _ _) rfl).mpr (Exists.elim (ifp h18.2 g19) (fun a20 h21 => t3_getr (p_36_114 _ _) (isI_4_5) h21.1.1 h21.1.2 ((tt_aload (p_36_117 _ _) rfl).mpr (Exists.elim h21.2 (fun a22 h23 => t3_getr (p_36_118 _ _) (isI_4_4) h23.1.1 h23.1.2 ((tt_iload (p_36_121 _ _) rfl).mpr (Exists.elim h23.2 (fun m24 h25 => t3_ald (p_36_122 _ _) h25.1.1 h25.1.2 ((tt_iload (p_36_123 _ _) rfl).mpr (Exists.elim h25.2 (fun m26 h27 => t3_ast (p_36_125 _ _) h27.1.1 h27.1.2 (h27.2))))))))))))) (fun g19 => (tt_aload (p_36_102 _ _) rfl).mpr (Exists.elim (ifn h18.2 g19) (fun a28 h29 => t3_getr (p_36_103 _ _) (isI_4_3) h29.1.1 h29.1.2 ((tt_iload (p_36_106 _ _) rfl).mpr ((tt_iload (p_36_107 _ _) rfl).mpr (Exists.elim h29.2 (fun m30 h31 => t3_ast (p_36_109 _ _) h31.1.1 h31.1.2 ((tt_goto (p_36_110 _ _)).mpr (h31.2))))))))))))))))))))))))))))))))))))))))
theorem b_36_126 {Y : sY} {d : Nat} {s : sT} {K : Option Int32 → sT → Prop} {r0 : Nat} {x1 : Int32} {x2 : Int32} {x3 : Int32} {x4 : Int32} {x5 : Int32} (h : (∃ a1, (isO Y r0 4 ∧ s.2 r0 4 = some a1) ∧ (∃ m3, (isA Y a1 0 m3 ∧ inR x1 m3) ∧ K (some x5) (pV s a1 (x1).toNatClampNeg x5)))) : tT Y (d + 1) 36 126 [.ref r0, .int x1, .int x2, .int x3, .int x4, .int x5] [] s K :=
  (tt_aload (p_36_126 _ _) rfl).mpr (Exists.elim h (fun a1 h2 => t3_getr (p_36_127 _ _) (isI_4_4) h2.1.1 h2.1.2 ((tt_iload (p_36_130 _ _) rfl).mpr ((tt_iload (p_36_131 _ _) rfl).mpr (Exists.elim h2.2 (fun m3 h4 => t3_ast (p_36_133 _ _) h4.1.1 h4.1.2 ((tt_iload (p_36_134 _ _) rfl).mpr (tt_ret1 (p_36_136 _ _) h4.2))))))))
/-! InclusionProver$Search.tellApart.(I)V -/
theorem p_37_0 (L : Nat) (xs : Nat → Int32) : ll_P L xs 37 0 = some (.inl (lo_aload 1 0)) := (P_37 L xs 0).trans rfl
theorem p_37_1 (L : Nat) (xs : Nat → Int32) : ll_P L xs 37 1 = some (.inl (lo_getf 4 4 9)) := (P_37 L xs 1).trans rfl
theorem p_37_4 (L : Nat) (xs : Nat → Int32) : ll_P L xs 37 4 = some (.inl (lo_getf 7 1 6)) := (P_37 L xs 4).trans rfl
theorem p_37_7 (L : Nat) (xs : Nat → Int32) : ll_P L xs 37 7 = some (.inl (lo_astore 8 2)) := (P_37 L xs 7).trans rfl
theorem p_37_8 (L : Nat) (xs : Nat → Int32) : ll_P L xs 37 8 = some (.inl (lo_aload 9 0)) := (P_37 L xs 8).trans rfl
theorem p_37_9 (L : Nat) (xs : Nat → Int32) : ll_P L xs 37 9 = some (.inl (lo_getf 12 4 9)) := (P_37 L xs 9).trans rfl
theorem p_37_12 (L : Nat) (xs : Nat → Int32) : ll_P L xs 37 12 = some (.inl (lo_push 13 (.int 1))) := (P_37 L xs 12).trans rfl
theorem p_37_13 (L : Nat) (xs : Nat → Int32) : ll_P L xs 37 13 = some (.inl (lo_putf 16 1 11 1)) := (P_37 L xs 13).trans rfl
theorem p_37_16 (L : Nat) (xs : Nat → Int32) : ll_P L xs 37 16 = some (.inl (lo_push 17 (.int 0))) := (P_37 L xs 16).trans rfl
theorem p_37_17 (L : Nat) (xs : Nat → Int32) : ll_P L xs 37 17 = some (.inl (lo_istore 18 3)) := (P_37 L xs 17).trans rfl
theorem p_37_18 (L : Nat) (xs : Nat → Int32) : ll_P L xs 37 18 = some (.inl (lo_iload 19 3)) := (P_37 L xs 18).trans rfl
theorem p_37_19 (L : Nat) (xs : Nat → Int32) : ll_P L xs 37 19 = some (.inl (lo_aload 20 0)) := (P_37 L xs 19).trans rfl
theorem p_37_20 (L : Nat) (xs : Nat → Int32) : ll_P L xs 37 20 = some (.inl (lo_getf 23 4 2)) := (P_37 L xs 20).trans rfl
theorem p_37_23 (L : Nat) (xs : Nat → Int32) : ll_P L xs 37 23 = some (.inl (lo_iload 24 1)) := (P_37 L xs 23).trans rfl
theorem p_37_24 (L : Nat) (xs : Nat → Int32) : ll_P L xs 37 24 = some (.inl (lo_ald 25 0)) := (P_37 L xs 24).trans rfl
theorem p_37_25 (L : Nat) (xs : Nat → Int32) : ll_P L xs 37 25 = some (.inl (lo_cmp 39 28 (fun x y => decide (y ≤ x)))) := (P_37 L xs 25).trans rfl
theorem p_37_28 (L : Nat) (xs : Nat → Int32) : ll_P L xs 37 28 = some (.inl (lo_aload 29 2)) := (P_37 L xs 28).trans rfl
theorem p_37_29 (L : Nat) (xs : Nat → Int32) : ll_P L xs 37 29 = some (.inl (lo_push 30 (.int 0))) := (P_37 L xs 29).trans rfl
theorem p_37_30 (L : Nat) (xs : Nat → Int32) : ll_P L xs 37 30 = some (.inr (.inl (72, 2, 33))) := (P_37 L xs 30).trans rfl
theorem p_37_33 (L : Nat) (xs : Nat → Int32) : ll_P L xs 37 33 = some (.inl (lo_iinc 36 3 1)) := (P_37 L xs 33).trans rfl
theorem p_37_36 (L : Nat) (xs : Nat → Int32) : ll_P L xs 37 36 = some (.inl (lo_goto 18)) := (P_37 L xs 36).trans rfl
theorem p_37_39 (L : Nat) (xs : Nat → Int32) : ll_P L xs 37 39 = some (.inl (lo_iload 40 1)) := (P_37 L xs 39).trans rfl
theorem p_37_40 (L : Nat) (xs : Nat → Int32) : ll_P L xs 37 40 = some (.inl (lo_istore 41 3)) := (P_37 L xs 40).trans rfl
theorem p_37_41 (L : Nat) (xs : Nat → Int32) : ll_P L xs 37 41 = some (.inl (lo_aload 42 0)) := (P_37 L xs 41).trans rfl
theorem p_37_42 (L : Nat) (xs : Nat → Int32) : ll_P L xs 37 42 = some (.inl (lo_getf 45 4 2)) := (P_37 L xs 42).trans rfl
theorem p_37_45 (L : Nat) (xs : Nat → Int32) : ll_P L xs 37 45 = some (.inl (lo_iload 46 1)) := (P_37 L xs 45).trans rfl
theorem p_37_46 (L : Nat) (xs : Nat → Int32) : ll_P L xs 37 46 = some (.inl (lo_ald 47 0)) := (P_37 L xs 46).trans rfl
theorem p_37_47 (L : Nat) (xs : Nat → Int32) : ll_P L xs 37 47 = some (.inl (lo_push 48 (.int 1))) := (P_37 L xs 47).trans rfl
theorem p_37_48 (L : Nat) (xs : Nat → Int32) : ll_P L xs 37 48 = some (.inl (lo_bin 49 (fun x y => x - y))) := (P_37 L xs 48).trans rfl
theorem p_37_49 (L : Nat) (xs : Nat → Int32) : ll_P L xs 37 49 = some (.inl (lo_istore 51 4)) := (P_37 L xs 49).trans rfl
theorem p_37_51 (L : Nat) (xs : Nat → Int32) : ll_P L xs 37 51 = some (.inl (lo_iload 53 4)) := (P_37 L xs 51).trans rfl
theorem p_37_53 (L : Nat) (xs : Nat → Int32) : ll_P L xs 37 53 = some (.inl (lo_if 83 56 (fun x => decide (x < 0)))) := (P_37 L xs 53).trans rfl
theorem p_37_56 (L : Nat) (xs : Nat → Int32) : ll_P L xs 37 56 = some (.inl (lo_aload 57 2)) := (P_37 L xs 56).trans rfl
theorem p_37_57 (L : Nat) (xs : Nat → Int32) : ll_P L xs 37 57 = some (.inl (lo_iload 59 4)) := (P_37 L xs 57).trans rfl
theorem p_37_59 (L : Nat) (xs : Nat → Int32) : ll_P L xs 37 59 = some (.inl (lo_aload 60 0)) := (P_37 L xs 59).trans rfl
theorem p_37_60 (L : Nat) (xs : Nat → Int32) : ll_P L xs 37 60 = some (.inl (lo_getf 63 4 1)) := (P_37 L xs 60).trans rfl
theorem p_37_63 (L : Nat) (xs : Nat → Int32) : ll_P L xs 37 63 = some (.inl (lo_iload 64 3)) := (P_37 L xs 63).trans rfl
theorem p_37_64 (L : Nat) (xs : Nat → Int32) : ll_P L xs 37 64 = some (.inl (lo_ald 65 0)) := (P_37 L xs 64).trans rfl
theorem p_37_65 (L : Nat) (xs : Nat → Int32) : ll_P L xs 37 65 = some (.inl (lo_push 66 (.int 1))) := (P_37 L xs 65).trans rfl
theorem p_37_66 (L : Nat) (xs : Nat → Int32) : ll_P L xs 37 66 = some (.inl (lo_bin 67 (fun x y => x + y))) := (P_37 L xs 66).trans rfl
theorem p_37_67 (L : Nat) (xs : Nat → Int32) : ll_P L xs 37 67 = some (.inr (.inl (76, 3, 70))) := (P_37 L xs 67).trans rfl
theorem p_37_70 (L : Nat) (xs : Nat → Int32) : ll_P L xs 37 70 = some (.inl (lo_aload 71 0)) := (P_37 L xs 70).trans rfl
theorem p_37_71 (L : Nat) (xs : Nat → Int32) : ll_P L xs 37 71 = some (.inl (lo_getf 74 4 0)) := (P_37 L xs 71).trans rfl
theorem p_37_74 (L : Nat) (xs : Nat → Int32) : ll_P L xs 37 74 = some (.inl (lo_iload 75 3)) := (P_37 L xs 74).trans rfl
theorem p_37_75 (L : Nat) (xs : Nat → Int32) : ll_P L xs 37 75 = some (.inl (lo_ald 76 0)) := (P_37 L xs 75).trans rfl
theorem p_37_76 (L : Nat) (xs : Nat → Int32) : ll_P L xs 37 76 = some (.inl (lo_istore 77 3)) := (P_37 L xs 76).trans rfl
theorem p_37_77 (L : Nat) (xs : Nat → Int32) : ll_P L xs 37 77 = some (.inl (lo_iinc 80 4 (-1))) := (P_37 L xs 77).trans rfl
theorem p_37_80 (L : Nat) (xs : Nat → Int32) : ll_P L xs 37 80 = some (.inl (lo_goto 51)) := (P_37 L xs 80).trans rfl
theorem p_37_83 (L : Nat) (xs : Nat → Int32) : ll_P L xs 37 83 = some (.inr (.inr 0)) := (P_37 L xs 83).trans rfl
theorem b_37_0 {Y : sY} {d : Nat} {s : sT} {K : Option Int32 → sT → Prop} {r0 : Nat} {x1 : Int32} (h : (∃ a1, (isO Y r0 4 ∧ s.2 r0 9 = some a1) ∧ (∃ a3, (isO Y a1 1 ∧ s.2 a1 6 = some a3) ∧ (∃ a5, (isO Y r0 4 ∧ s.2 r0 9 = some a5) ∧ (isO Y a5 1 ∧ ((1 : Int32) = 0 ∨ (1 : Int32) = 1) ∧ tT Y (d + 1) 37 18 [.ref r0, .int x1, .ref a3, .int (0 : Int32), .null] [] (pV s a5 11 (1 : Int32)) K))))) : tT Y (d + 1) 37 0 [.ref r0, .int x1, .null, .null, .null] [] s K :=
  (tt_aload (p_37_0 _ _) rfl).mpr (Exists.elim h (fun a1 h2 => t3_getr (p_37_1 _ _) (isI_4_9) h2.1.1 h2.1.2 (Exists.elim h2.2 (fun a3 h4 => t3_getr (p_37_4 _ _) (isI_1_6) h4.1.1 h4.1.2 ((tt_astore (p_37_7 _ _) (Nat.le_of_ble_eq_true rfl) rfl rfl).mpr ((tt_aload (p_37_8 _ _) rfl).mpr (Exists.elim h4.2 (fun a5 h6 => t3_getr (p_37_9 _ _) (isI_4_9) h6.1.1 h6.1.2 ((tt_push (p_37_12 _ _)).mpr ((t2_putz (p_37_13 _ _) isI_1_11 h6.2.1 h6.2.2.1).mpr ((tt_push (p_37_16 _ _)).mpr ((tt_istore (p_37_17 _ _) (Nat.le_of_ble_eq_true rfl) rfl rfl).mpr (h6.2.2.2)))))))))))))
theorem b_37_18 {Y : sY} {d : Nat} {s : sT} {K : Option Int32 → sT → Prop} {r0 : Nat} {x1 : Int32} {r2 : Nat} {x3 : Int32} (h : (∃ a1, (isO Y r0 4 ∧ s.2 r0 2 = some a1) ∧ (∃ m3, (isA Y a1 0 m3 ∧ inR x1 m3) ∧ (if (s.1 a1 (x1).toNatClampNeg) ≤ x3 then (∃ a6, (isO Y r0 4 ∧ s.2 r0 2 = some a6) ∧ (∃ m8, (isA Y a6 0 m8 ∧ inR x1 m8) ∧ tT Y (d + 1) 37 51 [.ref r0, .int x1, .ref r2, .int x1, .int ((s.1 a6 (x1).toNatClampNeg) - (1 : Int32))] [] s K)) else (isO Y r2 7 ∧ tT Y d 72 0 [.ref r2, .int (0 : Int32)] [] s (fun r s1 => tT Y (d + 1) 37 33 [.ref r0, .int x1, .ref r2, .int x3, .null] ((r.map Value.int).toList ++ []) s1 K)))))) : tT Y (d + 1) 37 18 [.ref r0, .int x1, .ref r2, .int x3, .null] [] s K :=
  (tt_iload (p_37_18 _ _) rfl).mpr ((tt_aload (p_37_19 _ _) rfl).mpr (Exists.elim h (fun a1 h2 => t3_getr (p_37_20 _ _) (isI_4_2) h2.1.1 h2.1.2 ((tt_iload (p_37_23 _ _) rfl).mpr (Exists.elim h2.2 (fun m3 h4 => t3_ald (p_37_24 _ _) h4.1.1 h4.1.2 (t3_cmp (p := (s.1 a1 (x1).toNatClampNeg) ≤ x3) (p_37_25 _ _) rfl (fun g5 => (tt_iload (p_37_39 _ _) rfl).mpr ((tt_istore (p_37_40 _ _) (Nat.le_of_ble_eq_true rfl) rfl rfl).mpr ((tt_aload (p_37_41 _ _) rfl).mpr (Exists.elim (ifp h4.2 g5) (fun a6 h7 => t3_getr (p_37_42 _ _) (isI_4_2) h7.1.1 h7.1.2 ((tt_iload (p_37_45 _ _) rfl).mpr (Exists.elim h7.2 (fun m8 h9 => t3_ald (p_37_46 _ _) h9.1.1 h9.1.2 ((tt_push (p_37_47 _ _)).mpr ((tt_bin (p_37_48 _ _)).mpr ((tt_istore (p_37_49 _ _) (Nat.le_of_ble_eq_true rfl) rfl rfl).mpr (h9.2)))))))))))) (fun g5 => (tt_aload (p_37_28 _ _) rfl).mpr ((tt_push (p_37_29 _ _)).mpr (t2_callv (z := 72) (k := 2) (i := r2) (as := [.int (0 : Int32)]) (rest := []) (p_37_30 _ _) mK_72 mL_72 rfl rfl (Nat.le_of_ble_eq_true rfl) rfl (Nat.le_of_ble_eq_true rfl) (ifn h4.2 g5).1 (ifn h4.2 g5).2))))))))))
theorem b_37_33 {Y : sY} {d : Nat} {s : sT} {K : Option Int32 → sT → Prop} {r0 : Nat} {x1 : Int32} {r2 : Nat} {x3 : Int32} (h : tT Y (d + 1) 37 18 [.ref r0, .int x1, .ref r2, .int (x3 + 1), .null] [] s K) : tT Y (d + 1) 37 33 [.ref r0, .int x1, .ref r2, .int x3, .null] [] s K :=
  (tt_iinc (p_37_33 _ _) rfl rfl rfl).mpr ((tt_goto (p_37_36 _ _)).mpr (h))
theorem b_37_51 {Y : sY} {d : Nat} {s : sT} {K : Option Int32 → sT → Prop} {r0 : Nat} {x1 : Int32} {r2 : Nat} {x3 : Int32} {x4 : Int32} (h : (if x4 < 0 then K none s else (∃ a2, (isO Y r0 4 ∧ s.2 r0 1 = some a2) ∧ (∃ m4, (isA Y a2 0 m4 ∧ inR x3 m4) ∧ (isO Y r2 7 ∧ tT Y d 76 0 [.ref r2, .int x4, .int ((s.1 a2 (x3).toNatClampNeg) + (1 : Int32))] [] s (fun r s1 => tT Y (d + 1) 37 70 [.ref r0, .int x1, .ref r2, .int x3, .int x4] ((r.map Value.int).toList ++ []) s1 K)))))) : tT Y (d + 1) 37 51 [.ref r0, .int x1, .ref r2, .int x3, .int x4] [] s K :=
  (tt_iload (p_37_51 _ _) rfl).mpr (t3_if (p := x4 < 0) (p_37_53 _ _) rfl (fun g1 => tt_ret0 (p_37_83 _ _) (ifp h g1)) (fun g1 => (tt_aload (p_37_56 _ _) rfl).mpr ((tt_iload (p_37_57 _ _) rfl).mpr ((tt_aload (p_37_59 _ _) rfl).mpr (Exists.elim (ifn h g1) (fun a2 h3 => t3_getr (p_37_60 _ _) (isI_4_1) h3.1.1 h3.1.2 ((tt_iload (p_37_63 _ _) rfl).mpr (Exists.elim h3.2 (fun m4 h5 => t3_ald (p_37_64 _ _) h5.1.1 h5.1.2 ((tt_push (p_37_65 _ _)).mpr ((tt_bin (p_37_66 _ _)).mpr (t2_callv (z := 76) (k := 3) (i := r2) (as := [.int x4, .int ((s.1 a2 (x3).toNatClampNeg) + (1 : Int32))]) (rest := []) (p_37_67 _ _) mK_76 mL_76 rfl rfl (Nat.le_of_ble_eq_true rfl) rfl (Nat.le_of_ble_eq_true rfl) h5.2.1 h5.2.2))))))))))))
theorem b_37_70 {Y : sY} {d : Nat} {s : sT} {K : Option Int32 → sT → Prop} {r0 : Nat} {x1 : Int32} {r2 : Nat} {x3 : Int32} {x4 : Int32} (h : (∃ a1, (isO Y r0 4 ∧ s.2 r0 0 = some a1) ∧ (∃ m3, (isA Y a1 0 m3 ∧ inR x3 m3) ∧ tT Y (d + 1) 37 51 [.ref r0, .int x1, .ref r2, .int (s.1 a1 (x3).toNatClampNeg), .int (x4 + (-1))] [] s K))) : tT Y (d + 1) 37 70 [.ref r0, .int x1, .ref r2, .int x3, .int x4] [] s K :=
  (tt_aload (p_37_70 _ _) rfl).mpr (Exists.elim h (fun a1 h2 => t3_getr (p_37_71 _ _) (isI_4_0) h2.1.1 h2.1.2 ((tt_iload (p_37_74 _ _) rfl).mpr (Exists.elim h2.2 (fun m3 h4 => t3_ald (p_37_75 _ _) h4.1.1 h4.1.2 ((tt_istore (p_37_76 _ _) (Nat.le_of_ble_eq_true rfl) rfl rfl).mpr ((tt_iinc (p_37_77 _ _) rfl rfl rfl).mpr ((tt_goto (p_37_80 _ _)).mpr (h4.2)))))))))
/-! InclusionProver$Side.<init>.()V -/
theorem p_38_0 (L : Nat) (xs : Nat → Int32) : ll_P L xs 38 0 = some (.inl (lo_aload 1 0)) := (P_38 L xs 0).trans rfl
theorem p_38_1 (L : Nat) (xs : Nat → Int32) : ll_P L xs 38 1 = some (.inl (lo_init 4)) := (P_38 L xs 1).trans rfl
theorem p_38_4 (L : Nat) (xs : Nat → Int32) : ll_P L xs 38 4 = some (.inl (lo_aload 5 0)) := (P_38 L xs 4).trans rfl
theorem p_38_5 (L : Nat) (xs : Nat → Int32) : ll_P L xs 38 5 = some (.inl (lo_new 8 7 2 [.null, .int 0])) := (P_38 L xs 5).trans rfl
theorem p_38_8 (L : Nat) (xs : Nat → Int32) : ll_P L xs 38 8 = some (.inl (lo_dup 9)) := (P_38 L xs 8).trans rfl
theorem p_38_9 (L : Nat) (xs : Nat → Int32) : ll_P L xs 38 9 = some (.inl (lo_push 11 (.int 30))) := (P_38 L xs 9).trans rfl
theorem p_38_11 (L : Nat) (xs : Nat → Int32) : ll_P L xs 38 11 = some (.inr (.inl (70, 2, 14))) := (P_38 L xs 11).trans rfl
theorem p_38_14 (L : Nat) (xs : Nat → Int32) : ll_P L xs 38 14 = some (.inl (lo_putf 17 5 0 2)) := (P_38 L xs 14).trans rfl
theorem p_38_17 (L : Nat) (xs : Nat → Int32) : ll_P L xs 38 17 = some (.inl (lo_aload 18 0)) := (P_38 L xs 17).trans rfl
theorem p_38_18 (L : Nat) (xs : Nat → Int32) : ll_P L xs 38 18 = some (.inl (lo_new 21 7 2 [.null, .int 0])) := (P_38 L xs 18).trans rfl
theorem p_38_21 (L : Nat) (xs : Nat → Int32) : ll_P L xs 38 21 = some (.inl (lo_dup 22)) := (P_38 L xs 21).trans rfl
theorem p_38_22 (L : Nat) (xs : Nat → Int32) : ll_P L xs 38 22 = some (.inl (lo_push 25 (.int 4960))) := (P_38 L xs 22).trans rfl
theorem p_38_25 (L : Nat) (xs : Nat → Int32) : ll_P L xs 38 25 = some (.inr (.inl (70, 2, 28))) := (P_38 L xs 25).trans rfl
theorem p_38_28 (L : Nat) (xs : Nat → Int32) : ll_P L xs 38 28 = some (.inl (lo_putf 31 5 1 2)) := (P_38 L xs 28).trans rfl
theorem p_38_31 (L : Nat) (xs : Nat → Int32) : ll_P L xs 38 31 = some (.inl (lo_aload 32 0)) := (P_38 L xs 31).trans rfl
theorem p_38_32 (L : Nat) (xs : Nat → Int32) : ll_P L xs 38 32 = some (.inl (lo_push 34 (.int 31))) := (P_38 L xs 32).trans rfl
theorem p_38_34 (L : Nat) (xs : Nat → Int32) : ll_P L xs 38 34 = some (.inl (lo_newa 36 0)) := (P_38 L xs 34).trans rfl
theorem p_38_36 (L : Nat) (xs : Nat → Int32) : ll_P L xs 38 36 = some (.inl (lo_putf 39 5 2 2)) := (P_38 L xs 36).trans rfl
theorem p_38_39 (L : Nat) (xs : Nat → Int32) : ll_P L xs 38 39 = some (.inl (lo_aload 40 0)) := (P_38 L xs 39).trans rfl
theorem p_38_40 (L : Nat) (xs : Nat → Int32) : ll_P L xs 38 40 = some (.inl (lo_push 42 (.int 93))) := (P_38 L xs 40).trans rfl
theorem p_38_42 (L : Nat) (xs : Nat → Int32) : ll_P L xs 38 42 = some (.inl (lo_newa 44 0)) := (P_38 L xs 42).trans rfl
theorem p_38_44 (L : Nat) (xs : Nat → Int32) : ll_P L xs 38 44 = some (.inl (lo_putf 47 5 3 2)) := (P_38 L xs 44).trans rfl
theorem p_38_47 (L : Nat) (xs : Nat → Int32) : ll_P L xs 38 47 = some (.inl (lo_aload 48 0)) := (P_38 L xs 47).trans rfl
theorem p_38_48 (L : Nat) (xs : Nat → Int32) : ll_P L xs 38 48 = some (.inl (lo_push 50 (.int 94))) := (P_38 L xs 48).trans rfl
theorem p_38_50 (L : Nat) (xs : Nat → Int32) : ll_P L xs 38 50 = some (.inl (lo_newa 52 0)) := (P_38 L xs 50).trans rfl
theorem p_38_52 (L : Nat) (xs : Nat → Int32) : ll_P L xs 38 52 = some (.inl (lo_putf 55 5 4 2)) := (P_38 L xs 52).trans rfl
theorem p_38_55 (L : Nat) (xs : Nat → Int32) : ll_P L xs 38 55 = some (.inl (lo_aload 56 0)) := (P_38 L xs 55).trans rfl
theorem p_38_56 (L : Nat) (xs : Nat → Int32) : ll_P L xs 38 56 = some (.inl (lo_push 59 (.int 961))) := (P_38 L xs 56).trans rfl
theorem p_38_59 (L : Nat) (xs : Nat → Int32) : ll_P L xs 38 59 = some (.inl (lo_newa 61 0)) := (P_38 L xs 59).trans rfl
theorem p_38_61 (L : Nat) (xs : Nat → Int32) : ll_P L xs 38 61 = some (.inl (lo_putf 64 5 5 2)) := (P_38 L xs 61).trans rfl
theorem p_38_64 (L : Nat) (xs : Nat → Int32) : ll_P L xs 38 64 = some (.inr (.inr 0)) := (P_38 L xs 64).trans rfl
/-! InclusionProver$Side.clear.()V -/
theorem p_39_0 (L : Nat) (xs : Nat → Int32) : ll_P L xs 39 0 = some (.inl (lo_aload 1 0)) := (P_39 L xs 0).trans rfl
theorem p_39_1 (L : Nat) (xs : Nat → Int32) : ll_P L xs 39 1 = some (.inl (lo_getf 4 5 0)) := (P_39 L xs 1).trans rfl
theorem p_39_4 (L : Nat) (xs : Nat → Int32) : ll_P L xs 39 4 = some (.inr (.inl (71, 1, 7))) := (P_39 L xs 4).trans rfl
theorem p_39_7 (L : Nat) (xs : Nat → Int32) : ll_P L xs 39 7 = some (.inl (lo_aload 8 0)) := (P_39 L xs 7).trans rfl
theorem p_39_8 (L : Nat) (xs : Nat → Int32) : ll_P L xs 39 8 = some (.inl (lo_getf 11 5 1)) := (P_39 L xs 8).trans rfl
theorem p_39_11 (L : Nat) (xs : Nat → Int32) : ll_P L xs 39 11 = some (.inr (.inl (71, 1, 14))) := (P_39 L xs 11).trans rfl
theorem p_39_14 (L : Nat) (xs : Nat → Int32) : ll_P L xs 39 14 = some (.inl (lo_aload 15 0)) := (P_39 L xs 14).trans rfl
theorem p_39_15 (L : Nat) (xs : Nat → Int32) : ll_P L xs 39 15 = some (.inl (lo_push 16 (.int 0))) := (P_39 L xs 15).trans rfl
theorem p_39_16 (L : Nat) (xs : Nat → Int32) : ll_P L xs 39 16 = some (.inl (lo_putf 19 5 6 0)) := (P_39 L xs 16).trans rfl
theorem p_39_19 (L : Nat) (xs : Nat → Int32) : ll_P L xs 39 19 = some (.inl (lo_aload 20 0)) := (P_39 L xs 19).trans rfl
theorem p_39_20 (L : Nat) (xs : Nat → Int32) : ll_P L xs 39 20 = some (.inl (lo_push 21 (.int (-1)))) := (P_39 L xs 20).trans rfl
theorem p_39_21 (L : Nat) (xs : Nat → Int32) : ll_P L xs 39 21 = some (.inl (lo_putf 24 5 7 0)) := (P_39 L xs 21).trans rfl
theorem p_39_24 (L : Nat) (xs : Nat → Int32) : ll_P L xs 39 24 = some (.inl (lo_aload 25 0)) := (P_39 L xs 24).trans rfl
theorem p_39_25 (L : Nat) (xs : Nat → Int32) : ll_P L xs 39 25 = some (.inl (lo_push 26 (.int 0))) := (P_39 L xs 25).trans rfl
theorem p_39_26 (L : Nat) (xs : Nat → Int32) : ll_P L xs 39 26 = some (.inl (lo_putf 29 5 8 0)) := (P_39 L xs 26).trans rfl
theorem p_39_29 (L : Nat) (xs : Nat → Int32) : ll_P L xs 39 29 = some (.inl (lo_aload 30 0)) := (P_39 L xs 29).trans rfl
theorem p_39_30 (L : Nat) (xs : Nat → Int32) : ll_P L xs 39 30 = some (.inl (lo_push 31 (.int 0))) := (P_39 L xs 30).trans rfl
theorem p_39_31 (L : Nat) (xs : Nat → Int32) : ll_P L xs 39 31 = some (.inl (lo_putf 34 5 9 0)) := (P_39 L xs 31).trans rfl
theorem p_39_34 (L : Nat) (xs : Nat → Int32) : ll_P L xs 39 34 = some (.inl (lo_aload 35 0)) := (P_39 L xs 34).trans rfl
theorem p_39_35 (L : Nat) (xs : Nat → Int32) : ll_P L xs 39 35 = some (.inl (lo_push 36 (.int 0))) := (P_39 L xs 35).trans rfl
theorem p_39_36 (L : Nat) (xs : Nat → Int32) : ll_P L xs 39 36 = some (.inl (lo_putf 39 5 10 0)) := (P_39 L xs 36).trans rfl
theorem p_39_39 (L : Nat) (xs : Nat → Int32) : ll_P L xs 39 39 = some (.inr (.inr 0)) := (P_39 L xs 39).trans rfl
theorem b_39_0 {Y : sY} {d : Nat} {s : sT} {K : Option Int32 → sT → Prop} {r0 : Nat} (h : (∃ a1, (isO Y r0 5 ∧ s.2 r0 0 = some a1) ∧ (isO Y a1 7 ∧ tT Y d 71 0 [.ref a1] [] s (fun r s1 => tT Y (d + 1) 39 7 [.ref r0] ((r.map Value.int).toList ++ []) s1 K)))) : tT Y (d + 1) 39 0 [.ref r0] [] s K :=
  (tt_aload (p_39_0 _ _) rfl).mpr (Exists.elim h (fun a1 h2 => t3_getr (p_39_1 _ _) (isI_5_0) h2.1.1 h2.1.2 (t2_callv (z := 71) (k := 1) (i := a1) (as := []) (rest := []) (p_39_4 _ _) mK_71 mL_71 rfl rfl (Nat.le_of_ble_eq_true rfl) rfl (Nat.le_of_ble_eq_true rfl) h2.2.1 h2.2.2)))
theorem b_39_7 {Y : sY} {d : Nat} {s : sT} {K : Option Int32 → sT → Prop} {r0 : Nat} (h : (∃ a1, (isO Y r0 5 ∧ s.2 r0 1 = some a1) ∧ (isO Y a1 7 ∧ tT Y d 71 0 [.ref a1] [] s (fun r s1 => tT Y (d + 1) 39 14 [.ref r0] ((r.map Value.int).toList ++ []) s1 K)))) : tT Y (d + 1) 39 7 [.ref r0] [] s K :=
  (tt_aload (p_39_7 _ _) rfl).mpr (Exists.elim h (fun a1 h2 => t3_getr (p_39_8 _ _) (isI_5_1) h2.1.1 h2.1.2 (t2_callv (z := 71) (k := 1) (i := a1) (as := []) (rest := []) (p_39_11 _ _) mK_71 mL_71 rfl rfl (Nat.le_of_ble_eq_true rfl) rfl (Nat.le_of_ble_eq_true rfl) h2.2.1 h2.2.2)))
theorem b_39_14 {Y : sY} {d : Nat} {s : sT} {K : Option Int32 → sT → Prop} {r0 : Nat} (h : (isO Y r0 5 ∧ (isO Y r0 5 ∧ (isO Y r0 5 ∧ (isO Y r0 5 ∧ (isO Y r0 5 ∧ K none (pV (pV (pV (pV (pV s r0 6 (0 : Int32)) r0 7 (-1 : Int32)) r0 8 (0 : Int32)) r0 9 (0 : Int32)) r0 10 (0 : Int32)))))))) : tT Y (d + 1) 39 14 [.ref r0] [] s K :=
  (tt_aload (p_39_14 _ _) rfl).mpr ((tt_push (p_39_15 _ _)).mpr ((t2_puti (p_39_16 _ _) isI_5_6 h.1).mpr ((tt_aload (p_39_19 _ _) rfl).mpr ((tt_push (p_39_20 _ _)).mpr ((t2_puti (p_39_21 _ _) isI_5_7 h.2.1).mpr ((tt_aload (p_39_24 _ _) rfl).mpr ((tt_push (p_39_25 _ _)).mpr ((t2_puti (p_39_26 _ _) isI_5_8 h.2.2.1).mpr ((tt_aload (p_39_29 _ _) rfl).mpr ((tt_push (p_39_30 _ _)).mpr ((t2_puti (p_39_31 _ _) isI_5_9 h.2.2.2.1).mpr ((tt_aload (p_39_34 _ _) rfl).mpr ((tt_push (p_39_35 _ _)).mpr ((t2_puti (p_39_36 _ _) isI_5_10 h.2.2.2.2.1).mpr (tt_ret0 (p_39_39 _ _) h.2.2.2.2.2)))))))))))))))
/-! InclusionProver$Side.openTerm.(Z)V -/
theorem p_40_0 (L : Nat) (xs : Nat → Int32) : ll_P L xs 40 0 = some (.inl (lo_aload 1 0)) := (P_40 L xs 0).trans rfl
theorem p_40_1 (L : Nat) (xs : Nat → Int32) : ll_P L xs 40 1 = some (.inl (lo_getf 4 5 2)) := (P_40 L xs 1).trans rfl
theorem p_40_4 (L : Nat) (xs : Nat → Int32) : ll_P L xs 40 4 = some (.inl (lo_aload 5 0)) := (P_40 L xs 4).trans rfl
theorem p_40_5 (L : Nat) (xs : Nat → Int32) : ll_P L xs 40 5 = some (.inl (lo_getf 8 5 6)) := (P_40 L xs 5).trans rfl
theorem p_40_8 (L : Nat) (xs : Nat → Int32) : ll_P L xs 40 8 = some (.inl (lo_aload 9 0)) := (P_40 L xs 8).trans rfl
theorem p_40_9 (L : Nat) (xs : Nat → Int32) : ll_P L xs 40 9 = some (.inl (lo_getf 12 5 1)) := (P_40 L xs 9).trans rfl
theorem p_40_12 (L : Nat) (xs : Nat → Int32) : ll_P L xs 40 12 = some (.inl (lo_getf 15 7 1)) := (P_40 L xs 12).trans rfl
theorem p_40_15 (L : Nat) (xs : Nat → Int32) : ll_P L xs 40 15 = some (.inl (lo_ast 16 0)) := (P_40 L xs 15).trans rfl
theorem p_40_16 (L : Nat) (xs : Nat → Int32) : ll_P L xs 40 16 = some (.inl (lo_iload 17 1)) := (P_40 L xs 16).trans rfl
theorem p_40_17 (L : Nat) (xs : Nat → Int32) : ll_P L xs 40 17 = some (.inl (lo_if 35 20 (fun x => decide (x = 0)))) := (P_40 L xs 17).trans rfl
theorem p_40_20 (L : Nat) (xs : Nat → Int32) : ll_P L xs 40 20 = some (.inl (lo_aload 21 0)) := (P_40 L xs 20).trans rfl
theorem p_40_21 (L : Nat) (xs : Nat → Int32) : ll_P L xs 40 21 = some (.inl (lo_dup 22)) := (P_40 L xs 21).trans rfl
theorem p_40_22 (L : Nat) (xs : Nat → Int32) : ll_P L xs 40 22 = some (.inl (lo_getf 25 5 9)) := (P_40 L xs 22).trans rfl
theorem p_40_25 (L : Nat) (xs : Nat → Int32) : ll_P L xs 40 25 = some (.inl (lo_push 26 (.int 1))) := (P_40 L xs 25).trans rfl
theorem p_40_26 (L : Nat) (xs : Nat → Int32) : ll_P L xs 40 26 = some (.inl (lo_aload 27 0)) := (P_40 L xs 26).trans rfl
theorem p_40_27 (L : Nat) (xs : Nat → Int32) : ll_P L xs 40 27 = some (.inl (lo_getf 30 5 6)) := (P_40 L xs 27).trans rfl
theorem p_40_30 (L : Nat) (xs : Nat → Int32) : ll_P L xs 40 30 = some (.inl (lo_bin 31 (fun x y => x <<< (y &&& 31)))) := (P_40 L xs 30).trans rfl
theorem p_40_31 (L : Nat) (xs : Nat → Int32) : ll_P L xs 40 31 = some (.inl (lo_bin 32 (fun x y => x ||| y))) := (P_40 L xs 31).trans rfl
theorem p_40_32 (L : Nat) (xs : Nat → Int32) : ll_P L xs 40 32 = some (.inl (lo_putf 35 5 9 0)) := (P_40 L xs 32).trans rfl
theorem p_40_35 (L : Nat) (xs : Nat → Int32) : ll_P L xs 40 35 = some (.inr (.inr 0)) := (P_40 L xs 35).trans rfl
theorem b_40_0 {Y : sY} {d : Nat} {s : sT} {K : Option Int32 → sT → Prop} {r0 : Nat} {x1 : Int32} (h : (∃ a1, (isO Y r0 5 ∧ s.2 r0 2 = some a1) ∧ (isO Y r0 5 ∧ (∃ a3, (isO Y r0 5 ∧ s.2 r0 1 = some a3) ∧ (isO Y a3 7 ∧ (∃ m5, (isA Y a1 0 m5 ∧ inR (s.1 r0 6) m5) ∧ (if x1 = 0 then K none (pV s a1 ((s.1 r0 6)).toNatClampNeg (s.1 a3 1)) else (isO Y r0 5 ∧ (isO Y r0 5 ∧ (isO Y r0 5 ∧ K none (pV (pV s a1 ((s.1 r0 6)).toNatClampNeg (s.1 a3 1)) r0 9 (((pV s a1 ((s.1 r0 6)).toNatClampNeg (s.1 a3 1)).1 r0 9) ||| ((1 : Int32) <<< (((pV s a1 ((s.1 r0 6)).toNatClampNeg (s.1 a3 1)).1 r0 6) &&& 31)))))))))))))) : tT Y d 40 0 [.ref r0, .int x1] [] s K :=
  (tt_aload (p_40_0 _ _) rfl).mpr (Exists.elim h (fun a1 h2 => t3_getr (p_40_1 _ _) (isI_5_2) h2.1.1 h2.1.2 ((tt_aload (p_40_4 _ _) rfl).mpr (t3_geti (p_40_5 _ _) (isI_5_6) h2.2.1 ((tt_aload (p_40_8 _ _) rfl).mpr (Exists.elim h2.2.2 (fun a3 h4 => t3_getr (p_40_9 _ _) (isI_5_1) h4.1.1 h4.1.2 (t3_geti (p_40_12 _ _) (isI_7_1) h4.2.1 (Exists.elim h4.2.2 (fun m5 h6 => t3_ast (p_40_15 _ _) h6.1.1 h6.1.2 ((tt_iload (p_40_16 _ _) rfl).mpr (t3_if (p := x1 = 0) (p_40_17 _ _) rfl (fun g7 => tt_ret0 (p_40_35 _ _) (ifp h6.2 g7)) (fun g7 => (tt_aload (p_40_20 _ _) rfl).mpr ((tt_dupr (p_40_21 _ _)).mpr (t3_geti (p_40_22 _ _) (isI_5_9) (ifn h6.2 g7).1 ((tt_push (p_40_25 _ _)).mpr ((tt_aload (p_40_26 _ _) rfl).mpr (t3_geti (p_40_27 _ _) (isI_5_6) (ifn h6.2 g7).2.1 ((tt_bin (p_40_30 _ _)).mpr ((tt_bin (p_40_31 _ _)).mpr ((t2_puti (p_40_32 _ _) isI_5_9 (ifn h6.2 g7).2.2.1).mpr (tt_ret0 (p_40_35 _ _) (ifn h6.2 g7).2.2.2))))))))))))))))))))))
/-! InclusionProver$Side.openParts.(I)V -/
theorem p_41_0 (L : Nat) (xs : Nat → Int32) : ll_P L xs 41 0 = some (.inl (lo_aload 1 0)) := (P_41 L xs 0).trans rfl
theorem p_41_1 (L : Nat) (xs : Nat → Int32) : ll_P L xs 41 1 = some (.inl (lo_aload 2 0)) := (P_41 L xs 1).trans rfl
theorem p_41_2 (L : Nat) (xs : Nat → Int32) : ll_P L xs 41 2 = some (.inl (lo_getf 5 5 6)) := (P_41 L xs 2).trans rfl
theorem p_41_5 (L : Nat) (xs : Nat → Int32) : ll_P L xs 41 5 = some (.inl (lo_push 6 (.int 3))) := (P_41 L xs 5).trans rfl
theorem p_41_6 (L : Nat) (xs : Nat → Int32) : ll_P L xs 41 6 = some (.inl (lo_bin 7 (fun x y => x * y))) := (P_41 L xs 6).trans rfl
theorem p_41_7 (L : Nat) (xs : Nat → Int32) : ll_P L xs 41 7 = some (.inl (lo_iload 8 1)) := (P_41 L xs 7).trans rfl
theorem p_41_8 (L : Nat) (xs : Nat → Int32) : ll_P L xs 41 8 = some (.inl (lo_bin 9 (fun x y => x + y))) := (P_41 L xs 8).trans rfl
theorem p_41_9 (L : Nat) (xs : Nat → Int32) : ll_P L xs 41 9 = some (.inl (lo_putf 12 5 10 0)) := (P_41 L xs 9).trans rfl
theorem p_41_12 (L : Nat) (xs : Nat → Int32) : ll_P L xs 41 12 = some (.inl (lo_aload 13 0)) := (P_41 L xs 12).trans rfl
theorem p_41_13 (L : Nat) (xs : Nat → Int32) : ll_P L xs 41 13 = some (.inl (lo_getf 16 5 3)) := (P_41 L xs 13).trans rfl
theorem p_41_16 (L : Nat) (xs : Nat → Int32) : ll_P L xs 41 16 = some (.inl (lo_aload 17 0)) := (P_41 L xs 16).trans rfl
theorem p_41_17 (L : Nat) (xs : Nat → Int32) : ll_P L xs 41 17 = some (.inl (lo_getf 20 5 10)) := (P_41 L xs 17).trans rfl
theorem p_41_20 (L : Nat) (xs : Nat → Int32) : ll_P L xs 41 20 = some (.inl (lo_push 21 (.int 0))) := (P_41 L xs 20).trans rfl
theorem p_41_21 (L : Nat) (xs : Nat → Int32) : ll_P L xs 41 21 = some (.inl (lo_ast 22 0)) := (P_41 L xs 21).trans rfl
theorem p_41_22 (L : Nat) (xs : Nat → Int32) : ll_P L xs 41 22 = some (.inl (lo_aload 23 0)) := (P_41 L xs 22).trans rfl
theorem p_41_23 (L : Nat) (xs : Nat → Int32) : ll_P L xs 41 23 = some (.inl (lo_getf 26 5 4)) := (P_41 L xs 23).trans rfl
theorem p_41_26 (L : Nat) (xs : Nat → Int32) : ll_P L xs 41 26 = some (.inl (lo_aload 27 0)) := (P_41 L xs 26).trans rfl
theorem p_41_27 (L : Nat) (xs : Nat → Int32) : ll_P L xs 41 27 = some (.inl (lo_getf 30 5 10)) := (P_41 L xs 27).trans rfl
theorem p_41_30 (L : Nat) (xs : Nat → Int32) : ll_P L xs 41 30 = some (.inl (lo_push 31 (.int 1))) := (P_41 L xs 30).trans rfl
theorem p_41_31 (L : Nat) (xs : Nat → Int32) : ll_P L xs 41 31 = some (.inl (lo_bin 32 (fun x y => x + y))) := (P_41 L xs 31).trans rfl
theorem p_41_32 (L : Nat) (xs : Nat → Int32) : ll_P L xs 41 32 = some (.inl (lo_aload 33 0)) := (P_41 L xs 32).trans rfl
theorem p_41_33 (L : Nat) (xs : Nat → Int32) : ll_P L xs 41 33 = some (.inl (lo_getf 36 5 4)) := (P_41 L xs 33).trans rfl
theorem p_41_36 (L : Nat) (xs : Nat → Int32) : ll_P L xs 41 36 = some (.inl (lo_aload 37 0)) := (P_41 L xs 36).trans rfl
theorem p_41_37 (L : Nat) (xs : Nat → Int32) : ll_P L xs 41 37 = some (.inl (lo_getf 40 5 10)) := (P_41 L xs 37).trans rfl
theorem p_41_40 (L : Nat) (xs : Nat → Int32) : ll_P L xs 41 40 = some (.inl (lo_ald 41 0)) := (P_41 L xs 40).trans rfl
theorem p_41_41 (L : Nat) (xs : Nat → Int32) : ll_P L xs 41 41 = some (.inl (lo_ast 42 0)) := (P_41 L xs 41).trans rfl
theorem p_41_42 (L : Nat) (xs : Nat → Int32) : ll_P L xs 41 42 = some (.inr (.inr 0)) := (P_41 L xs 42).trans rfl
theorem b_41_0 {Y : sY} {d : Nat} {s : sT} {K : Option Int32 → sT → Prop} {r0 : Nat} {x1 : Int32} (h : (isO Y r0 5 ∧ (isO Y r0 5 ∧ (∃ a1, (isO Y r0 5 ∧ (pV s r0 10 (((s.1 r0 6) * (3 : Int32)) + x1)).2 r0 3 = some a1) ∧ (isO Y r0 5 ∧ (∃ m3, (isA Y a1 0 m3 ∧ inR ((pV s r0 10 (((s.1 r0 6) * (3 : Int32)) + x1)).1 r0 10) m3) ∧ (∃ a5, (isO Y r0 5 ∧ (pV (pV s r0 10 (((s.1 r0 6) * (3 : Int32)) + x1)) a1 (((pV s r0 10 (((s.1 r0 6) * (3 : Int32)) + x1)).1 r0 10)).toNatClampNeg (0 : Int32)).2 r0 4 = some a5) ∧ (isO Y r0 5 ∧ (∃ a7, (isO Y r0 5 ∧ (pV (pV s r0 10 (((s.1 r0 6) * (3 : Int32)) + x1)) a1 (((pV s r0 10 (((s.1 r0 6) * (3 : Int32)) + x1)).1 r0 10)).toNatClampNeg (0 : Int32)).2 r0 4 = some a7) ∧ (isO Y r0 5 ∧ (∃ m9, (isA Y a7 0 m9 ∧ inR ((pV (pV s r0 10 (((s.1 r0 6) * (3 : Int32)) + x1)) a1 (((pV s r0 10 (((s.1 r0 6) * (3 : Int32)) + x1)).1 r0 10)).toNatClampNeg (0 : Int32)).1 r0 10) m9) ∧ (∃ m11, (isA Y a5 0 m11 ∧ inR (((pV (pV s r0 10 (((s.1 r0 6) * (3 : Int32)) + x1)) a1 (((pV s r0 10 (((s.1 r0 6) * (3 : Int32)) + x1)).1 r0 10)).toNatClampNeg (0 : Int32)).1 r0 10) + (1 : Int32)) m11) ∧ K none (pV (pV (pV s r0 10 (((s.1 r0 6) * (3 : Int32)) + x1)) a1 (((pV s r0 10 (((s.1 r0 6) * (3 : Int32)) + x1)).1 r0 10)).toNatClampNeg (0 : Int32)) a5 ((((pV (pV s r0 10 (((s.1 r0 6) * (3 : Int32)) + x1)) a1 (((pV s r0 10 (((s.1 r0 6) * (3 : Int32)) + x1)).1 r0 10)).toNatClampNeg (0 : Int32)).1 r0 10) + (1 : Int32))).toNatClampNeg ((pV (pV s r0 10 (((s.1 r0 6) * (3 : Int32)) + x1)) a1 (((pV s r0 10 (((s.1 r0 6) * (3 : Int32)) + x1)).1 r0 10)).toNatClampNeg (0 : Int32)).1 a7 (((pV (pV s r0 10 (((s.1 r0 6) * (3 : Int32)) + x1)) a1 (((pV s r0 10 (((s.1 r0 6) * (3 : Int32)) + x1)).1 r0 10)).toNatClampNeg (0 : Int32)).1 r0 10)).toNatClampNeg)))))))))))))) : tT Y d 41 0 [.ref r0, .int x1] [] s K :=
  (tt_aload (p_41_0 _ _) rfl).mpr ((tt_aload (p_41_1 _ _) rfl).mpr (t3_geti (p_41_2 _ _) (isI_5_6) h.1 ((tt_push (p_41_5 _ _)).mpr ((tt_bin (p_41_6 _ _)).mpr ((tt_iload (p_41_7 _ _) rfl).mpr ((tt_bin (p_41_8 _ _)).mpr ((t2_puti (p_41_9 _ _) isI_5_10 h.2.1).mpr ((tt_aload (p_41_12 _ _) rfl).mpr (Exists.elim h.2.2 (fun a1 h2 => t3_getr (p_41_13 _ _) (isI_5_3) h2.1.1 h2.1.2 ((tt_aload (p_41_16 _ _) rfl).mpr (t3_geti (p_41_17 _ _) (isI_5_10) h2.2.1 ((tt_push (p_41_20 _ _)).mpr (Exists.elim h2.2.2 (fun m3 h4 => t3_ast (p_41_21 _ _) h4.1.1 h4.1.2 ((tt_aload (p_41_22 _ _) rfl).mpr (Exists.elim h4.2 (fun a5 h6 => t3_getr (p_41_23 _ _) (isI_5_4) h6.1.1 h6.1.2 ((tt_aload (p_41_26 _ _) rfl).mpr (t3_geti (p_41_27 _ _) (isI_5_10) h6.2.1 ((tt_push (p_41_30 _ _)).mpr ((tt_bin (p_41_31 _ _)).mpr ((tt_aload (p_41_32 _ _) rfl).mpr (Exists.elim h6.2.2 (fun a7 h8 => t3_getr (p_41_33 _ _) (isI_5_4) h8.1.1 h8.1.2 ((tt_aload (p_41_36 _ _) rfl).mpr (t3_geti (p_41_37 _ _) (isI_5_10) h8.2.1 (Exists.elim h8.2.2 (fun m9 h10 => t3_ald (p_41_40 _ _) h10.1.1 h10.1.2 (Exists.elim h10.2 (fun m11 h12 => t3_ast (p_41_41 _ _) h12.1.1 h12.1.2 (tt_ret0 (p_41_42 _ _) h12.2))))))))))))))))))))))))))))))))
/-! InclusionProver$Side.addPart.(I)V -/
theorem p_42_0 (L : Nat) (xs : Nat → Int32) : ll_P L xs 42 0 = some (.inl (lo_aload 1 0)) := (P_42 L xs 0).trans rfl
theorem p_42_1 (L : Nat) (xs : Nat → Int32) : ll_P L xs 42 1 = some (.inl (lo_getf 4 5 4)) := (P_42 L xs 1).trans rfl
theorem p_42_4 (L : Nat) (xs : Nat → Int32) : ll_P L xs 42 4 = some (.inl (lo_aload 5 0)) := (P_42 L xs 4).trans rfl
theorem p_42_5 (L : Nat) (xs : Nat → Int32) : ll_P L xs 42 5 = some (.inl (lo_getf 8 5 10)) := (P_42 L xs 5).trans rfl
theorem p_42_8 (L : Nat) (xs : Nat → Int32) : ll_P L xs 42 8 = some (.inl (lo_push 9 (.int 1))) := (P_42 L xs 8).trans rfl
theorem p_42_9 (L : Nat) (xs : Nat → Int32) : ll_P L xs 42 9 = some (.inl (lo_bin 10 (fun x y => x + y))) := (P_42 L xs 9).trans rfl
theorem p_42_10 (L : Nat) (xs : Nat → Int32) : ll_P L xs 42 10 = some (.inl (lo_ald 11 0)) := (P_42 L xs 10).trans rfl
theorem p_42_11 (L : Nat) (xs : Nat → Int32) : ll_P L xs 42 11 = some (.inl (lo_istore 12 2)) := (P_42 L xs 11).trans rfl
theorem p_42_12 (L : Nat) (xs : Nat → Int32) : ll_P L xs 42 12 = some (.inl (lo_iload 13 1)) := (P_42 L xs 12).trans rfl
theorem p_42_13 (L : Nat) (xs : Nat → Int32) : ll_P L xs 42 13 = some (.inl (lo_if 41 16 (fun x => decide (x < 0)))) := (P_42 L xs 13).trans rfl
theorem p_42_16 (L : Nat) (xs : Nat → Int32) : ll_P L xs 42 16 = some (.inl (lo_iload 17 2)) := (P_42 L xs 16).trans rfl
theorem p_42_17 (L : Nat) (xs : Nat → Int32) : ll_P L xs 42 17 = some (.inl (lo_aload 18 0)) := (P_42 L xs 17).trans rfl
theorem p_42_18 (L : Nat) (xs : Nat → Int32) : ll_P L xs 42 18 = some (.inl (lo_getf 21 5 5)) := (P_42 L xs 18).trans rfl
theorem p_42_21 (L : Nat) (xs : Nat → Int32) : ll_P L xs 42 21 = some (.inl (lo_alen 22)) := (P_42 L xs 21).trans rfl
theorem p_42_22 (L : Nat) (xs : Nat → Int32) : ll_P L xs 42 22 = some (.inl (lo_cmp 41 25 (fun x y => decide (y ≤ x)))) := (P_42 L xs 22).trans rfl
theorem p_42_25 (L : Nat) (xs : Nat → Int32) : ll_P L xs 42 25 = some (.inl (lo_aload 26 0)) := (P_42 L xs 25).trans rfl
theorem p_42_26 (L : Nat) (xs : Nat → Int32) : ll_P L xs 42 26 = some (.inl (lo_getf 29 5 3)) := (P_42 L xs 26).trans rfl
theorem p_42_29 (L : Nat) (xs : Nat → Int32) : ll_P L xs 42 29 = some (.inl (lo_aload 30 0)) := (P_42 L xs 29).trans rfl
theorem p_42_30 (L : Nat) (xs : Nat → Int32) : ll_P L xs 42 30 = some (.inl (lo_getf 33 5 10)) := (P_42 L xs 30).trans rfl
theorem p_42_33 (L : Nat) (xs : Nat → Int32) : ll_P L xs 42 33 = some (.inl (lo_ald 34 0)) := (P_42 L xs 33).trans rfl
theorem p_42_34 (L : Nat) (xs : Nat → Int32) : ll_P L xs 42 34 = some (.inl (lo_iload 35 1)) := (P_42 L xs 34).trans rfl
theorem p_42_35 (L : Nat) (xs : Nat → Int32) : ll_P L xs 42 35 = some (.inl (lo_bin 36 (fun x y => x >>> (y &&& 31)))) := (P_42 L xs 35).trans rfl
theorem p_42_36 (L : Nat) (xs : Nat → Int32) : ll_P L xs 42 36 = some (.inl (lo_push 37 (.int 1))) := (P_42 L xs 36).trans rfl
theorem p_42_37 (L : Nat) (xs : Nat → Int32) : ll_P L xs 42 37 = some (.inl (lo_bin 38 (fun x y => x &&& y))) := (P_42 L xs 37).trans rfl
theorem p_42_38 (L : Nat) (xs : Nat → Int32) : ll_P L xs 42 38 = some (.inl (lo_if 42 41 (fun x => decide (x = 0)))) := (P_42 L xs 38).trans rfl
theorem p_42_41 (L : Nat) (xs : Nat → Int32) : ll_P L xs 42 41 = some (.inr (.inr 0)) := (P_42 L xs 41).trans rfl
theorem p_42_42 (L : Nat) (xs : Nat → Int32) : ll_P L xs 42 42 = some (.inl (lo_aload 43 0)) := (P_42 L xs 42).trans rfl
theorem p_42_43 (L : Nat) (xs : Nat → Int32) : ll_P L xs 42 43 = some (.inl (lo_getf 46 5 3)) := (P_42 L xs 43).trans rfl
theorem p_42_46 (L : Nat) (xs : Nat → Int32) : ll_P L xs 42 46 = some (.inl (lo_aload 47 0)) := (P_42 L xs 46).trans rfl
theorem p_42_47 (L : Nat) (xs : Nat → Int32) : ll_P L xs 42 47 = some (.inl (lo_getf 50 5 10)) := (P_42 L xs 47).trans rfl
theorem p_42_50 (L : Nat) (xs : Nat → Int32) : ll_P L xs 42 50 = some (.inl (lo_dup2 51)) := (P_42 L xs 50).trans rfl
theorem p_42_51 (L : Nat) (xs : Nat → Int32) : ll_P L xs 42 51 = some (.inl (lo_ald 52 0)) := (P_42 L xs 51).trans rfl
theorem p_42_52 (L : Nat) (xs : Nat → Int32) : ll_P L xs 42 52 = some (.inl (lo_push 53 (.int 1))) := (P_42 L xs 52).trans rfl
theorem p_42_53 (L : Nat) (xs : Nat → Int32) : ll_P L xs 42 53 = some (.inl (lo_iload 54 1)) := (P_42 L xs 53).trans rfl
theorem p_42_54 (L : Nat) (xs : Nat → Int32) : ll_P L xs 42 54 = some (.inl (lo_bin 55 (fun x y => x <<< (y &&& 31)))) := (P_42 L xs 54).trans rfl
theorem p_42_55 (L : Nat) (xs : Nat → Int32) : ll_P L xs 42 55 = some (.inl (lo_bin 56 (fun x y => x ||| y))) := (P_42 L xs 55).trans rfl
theorem p_42_56 (L : Nat) (xs : Nat → Int32) : ll_P L xs 42 56 = some (.inl (lo_ast 57 0)) := (P_42 L xs 56).trans rfl
theorem p_42_57 (L : Nat) (xs : Nat → Int32) : ll_P L xs 42 57 = some (.inl (lo_aload 58 0)) := (P_42 L xs 57).trans rfl
theorem p_42_58 (L : Nat) (xs : Nat → Int32) : ll_P L xs 42 58 = some (.inl (lo_getf 61 5 5)) := (P_42 L xs 58).trans rfl
theorem p_42_61 (L : Nat) (xs : Nat → Int32) : ll_P L xs 42 61 = some (.inl (lo_iload 62 2)) := (P_42 L xs 61).trans rfl
theorem p_42_62 (L : Nat) (xs : Nat → Int32) : ll_P L xs 42 62 = some (.inl (lo_iload 63 1)) := (P_42 L xs 62).trans rfl
theorem p_42_63 (L : Nat) (xs : Nat → Int32) : ll_P L xs 42 63 = some (.inl (lo_ast 64 0)) := (P_42 L xs 63).trans rfl
theorem p_42_64 (L : Nat) (xs : Nat → Int32) : ll_P L xs 42 64 = some (.inl (lo_aload 65 0)) := (P_42 L xs 64).trans rfl
theorem p_42_65 (L : Nat) (xs : Nat → Int32) : ll_P L xs 42 65 = some (.inl (lo_getf 68 5 4)) := (P_42 L xs 65).trans rfl
theorem p_42_68 (L : Nat) (xs : Nat → Int32) : ll_P L xs 42 68 = some (.inl (lo_aload 69 0)) := (P_42 L xs 68).trans rfl
theorem p_42_69 (L : Nat) (xs : Nat → Int32) : ll_P L xs 42 69 = some (.inl (lo_getf 72 5 10)) := (P_42 L xs 69).trans rfl
theorem p_42_72 (L : Nat) (xs : Nat → Int32) : ll_P L xs 42 72 = some (.inl (lo_push 73 (.int 1))) := (P_42 L xs 72).trans rfl
theorem p_42_73 (L : Nat) (xs : Nat → Int32) : ll_P L xs 42 73 = some (.inl (lo_bin 74 (fun x y => x + y))) := (P_42 L xs 73).trans rfl
theorem p_42_74 (L : Nat) (xs : Nat → Int32) : ll_P L xs 42 74 = some (.inl (lo_iload 75 2)) := (P_42 L xs 74).trans rfl
theorem p_42_75 (L : Nat) (xs : Nat → Int32) : ll_P L xs 42 75 = some (.inl (lo_push 76 (.int 1))) := (P_42 L xs 75).trans rfl
theorem p_42_76 (L : Nat) (xs : Nat → Int32) : ll_P L xs 42 76 = some (.inl (lo_bin 77 (fun x y => x + y))) := (P_42 L xs 76).trans rfl
theorem p_42_77 (L : Nat) (xs : Nat → Int32) : ll_P L xs 42 77 = some (.inl (lo_ast 78 0)) := (P_42 L xs 77).trans rfl
theorem p_42_78 (L : Nat) (xs : Nat → Int32) : ll_P L xs 42 78 = some (.inr (.inr 0)) := (P_42 L xs 78).trans rfl
theorem b_42_0 {Y : sY} {d : Nat} {s : sT} {K : Option Int32 → sT → Prop} {r0 : Nat} {x1 : Int32} (h : (∃ a1, (isO Y r0 5 ∧ s.2 r0 4 = some a1) ∧ (isO Y r0 5 ∧ (∃ m3, (isA Y a1 0 m3 ∧ inR ((s.1 r0 10) + (1 : Int32)) m3) ∧ (if x1 < 0 then K none s else (∃ a6, (isO Y r0 5 ∧ s.2 r0 5 = some a6) ∧ (∃ c9 m8, isA Y a6 c9 m8 ∧ (if (Int32.ofNat m8) ≤ (s.1 a1 (((s.1 r0 10) + (1 : Int32))).toNatClampNeg) then K none s else (∃ a12, (isO Y r0 5 ∧ s.2 r0 3 = some a12) ∧ (isO Y r0 5 ∧ (∃ m14, (isA Y a12 0 m14 ∧ inR (s.1 r0 10) m14) ∧ (if (((s.1 a12 ((s.1 r0 10)).toNatClampNeg) >>> (x1 &&& 31)) &&& (1 : Int32)) = 0 then (∃ a17, (isO Y r0 5 ∧ s.2 r0 3 = some a17) ∧ (isO Y r0 5 ∧ (∃ m19, (isA Y a17 0 m19 ∧ inR (s.1 r0 10) m19) ∧ (∃ m21, (isA Y a17 0 m21 ∧ inR (s.1 r0 10) m21) ∧ (∃ a23, (isO Y r0 5 ∧ (pV s a17 ((s.1 r0 10)).toNatClampNeg ((s.1 a17 ((s.1 r0 10)).toNatClampNeg) ||| ((1 : Int32) <<< (x1 &&& 31)))).2 r0 5 = some a23) ∧ (∃ m25, (isA Y a23 0 m25 ∧ inR (s.1 a1 (((s.1 r0 10) + (1 : Int32))).toNatClampNeg) m25) ∧ (∃ a27, (isO Y r0 5 ∧ (pV (pV s a17 ((s.1 r0 10)).toNatClampNeg ((s.1 a17 ((s.1 r0 10)).toNatClampNeg) ||| ((1 : Int32) <<< (x1 &&& 31)))) a23 ((s.1 a1 (((s.1 r0 10) + (1 : Int32))).toNatClampNeg)).toNatClampNeg x1).2 r0 4 = some a27) ∧ (isO Y r0 5 ∧ (∃ m29, (isA Y a27 0 m29 ∧ inR (((pV (pV s a17 ((s.1 r0 10)).toNatClampNeg ((s.1 a17 ((s.1 r0 10)).toNatClampNeg) ||| ((1 : Int32) <<< (x1 &&& 31)))) a23 ((s.1 a1 (((s.1 r0 10) + (1 : Int32))).toNatClampNeg)).toNatClampNeg x1).1 r0 10) + (1 : Int32)) m29) ∧ K none (pV (pV (pV s a17 ((s.1 r0 10)).toNatClampNeg ((s.1 a17 ((s.1 r0 10)).toNatClampNeg) ||| ((1 : Int32) <<< (x1 &&& 31)))) a23 ((s.1 a1 (((s.1 r0 10) + (1 : Int32))).toNatClampNeg)).toNatClampNeg x1) a27 ((((pV (pV s a17 ((s.1 r0 10)).toNatClampNeg ((s.1 a17 ((s.1 r0 10)).toNatClampNeg) ||| ((1 : Int32) <<< (x1 &&& 31)))) a23 ((s.1 a1 (((s.1 r0 10) + (1 : Int32))).toNatClampNeg)).toNatClampNeg x1).1 r0 10) + (1 : Int32))).toNatClampNeg ((s.1 a1 (((s.1 r0 10) + (1 : Int32))).toNatClampNeg) + (1 : Int32)))))))))))) else K none s)))))))))))) : tT Y d 42 0 [.ref r0, .int x1, .null] [] s K :=
  (tt_aload (p_42_0 _ _) rfl).mpr (Exists.elim h (fun a1 h2 => t3_getr (p_42_1 _ _) (isI_5_4) h2.1.1 h2.1.2 ((tt_aload (p_42_4 _ _) rfl).mpr (t3_geti (p_42_5 _ _) (isI_5_10) h2.2.1 ((tt_push (p_42_8 _ _)).mpr ((tt_bin (p_42_9 _ _)).mpr (Exists.elim h2.2.2 (fun m3 h4 => t3_ald (p_42_10 _ _) h4.1.1 h4.1.2 ((tt_istore (p_42_11 _ _) (Nat.le_of_ble_eq_true rfl) rfl rfl).mpr ((tt_iload (p_42_12 _ _) rfl).mpr (t3_if (p := x1 < 0) (p_42_13 _ _) rfl (fun g5 => tt_ret0 (p_42_41 _ _) (ifp h4.2 g5)) (fun g5 => (tt_iload (p_42_16 _ _) rfl).mpr ((tt_aload (p_42_17 _ _) rfl).mpr (Exists.elim (ifn h4.2 g5) (fun a6 h7 => t3_getr (p_42_18 _ _) (isI_5_5) h7.1.1 h7.1.2 (Exists.elim h7.2 (fun c9 h10q0 => Exists.elim h10q0 (fun m8 h10 => t3_alen (p_42_21 _ _) h10.1 (t3_cmp (p := (Int32.ofNat m8) ≤ (s.1 a1 (((s.1 r0 10) + (1 : Int32))).toNatClampNeg)) (p_42_22 _ _) rfl (fun g11 => tt_ret0 (p_42_41 _ _) (ifp h10.2 g11)) (fun g11 => (tt_aload (p_42_25 _ _) rfl).mpr (Exists.elim (ifn h10.2 g11) (fun a12 h13 => t3_getr (p_42_26 _ _) (isI_5_3) h13.1.1 h13.1.2 ((tt_aload (p_42_29 _ _) rfl).mpr (t3_geti (p_42_30 _ _) (isI_5_10) h13.2.1 (Exists.elim h13.2.2 (fun m14 h15 => t3_ald (p_42_33 _ _) h15.1.1 h15.1.2 ((tt_iload (p_42_34 _ _) rfl).mpr ((tt_bin (p_42_35 _ _)).mpr ((tt_push (p_42_36 _ _)).mpr ((tt_bin (p_42_37 _ _)).mpr (t3_if (p := (((s.1 a12 ((s.1 r0 10)).toNatClampNeg) >>> (x1 &&& 31)) &&& (1 : Int32)) = 0) (p_42_38 _ _) rfl (fun g16 => (tt_aload (p_42_42 _ _) rfl).mpr (Exists.elim (ifp h15.2 g16) (fun a17 h18 => t3_getr (p_42_43 _ _) (isI_5_3) h18.1.1 h18.1.2 ((tt_aload (p_42_46 _ _) rfl).mpr (t3_geti (p_42_47 _ _) (isI_5_10) h18.2.1 ((tt_dup2 (p_42_50 _ _)).mpr (Exists.elim h18.2.2 (fun m19 h20 => t3_ald (p_42_51 _ _) h20.1.1 h20.1.2 ((tt_push (p_42_52 _ _)).mpr ((tt_iload (p_42_53 _ _) rfl).mpr ((tt_bin (p_42_54 _ _)).mpr ((tt_bin (p_42_55 _ _)).mpr (Exists.elim h20.2 (fun m21 h22 => t3_ast (p_42_56 _ _) h22.1.1 h22.1.2 ((tt_aload (p_42_57 _ _) rfl).mpr (Exists.elim h22.2 (fun a23 h24 => t3_getr (p_42_58 _ _) (isI_5_5) h24.1.1 h24.1.2 ((tt_iload (p_42_61 _ _) rfl).mpr ((tt_iload (p_42_62 _ _) rfl).mpr (Exists.elim h24.2 (fun m25 h26 => t3_ast (p_42_63 _ _) h26.1.1 h26.1.2 ((tt_aload (p_42_64 _ _) rfl).mpr (Exists.elim h26.2 (fun a27 h28 => t3_getr (p_42_65 _ _) (isI_5_4) h28.1.1 h28.1.2 ((tt_aload (p_42_68 _ _) rfl).mpr (t3_geti (p_42_69 _ _) (isI_5_10) h28.2.1 ((tt_push (p_42_72 _ _)).mpr ((tt_bin (p_42_73 _ _)).mpr ((tt_iload (p_42_74 _ _) rfl).mpr ((tt_push (p_42_75 _ _)).mpr ((tt_bin (p_42_76 _ _)).mpr (Exists.elim h28.2.2 (fun m29 h30 => t3_ast (p_42_77 _ _) h30.1.1 h30.1.2 (tt_ret0 (p_42_78 _ _) h30.2)))))))))))))))))))))))))))))))))) (fun g16 => tt_ret0 (p_42_41 _ _) (ifn h15.2 g16)))))))))))))))))))))))))))))))))
/-! InclusionProver$Side.closeTerm.()V -/
theorem p_43_0 (L : Nat) (xs : Nat → Int32) : ll_P L xs 43 0 = some (.inl (lo_aload 1 0)) := (P_43 L xs 0).trans rfl
theorem p_43_1 (L : Nat) (xs : Nat → Int32) : ll_P L xs 43 1 = some (.inl (lo_dup 2)) := (P_43 L xs 1).trans rfl
theorem p_43_2 (L : Nat) (xs : Nat → Int32) : ll_P L xs 43 2 = some (.inl (lo_getf 5 5 6)) := (P_43 L xs 2).trans rfl
theorem p_43_5 (L : Nat) (xs : Nat → Int32) : ll_P L xs 43 5 = some (.inl (lo_push 6 (.int 1))) := (P_43 L xs 5).trans rfl
theorem p_43_6 (L : Nat) (xs : Nat → Int32) : ll_P L xs 43 6 = some (.inl (lo_bin 7 (fun x y => x + y))) := (P_43 L xs 6).trans rfl
theorem p_43_7 (L : Nat) (xs : Nat → Int32) : ll_P L xs 43 7 = some (.inl (lo_putf 10 5 6 0)) := (P_43 L xs 7).trans rfl
theorem p_43_10 (L : Nat) (xs : Nat → Int32) : ll_P L xs 43 10 = some (.inr (.inr 0)) := (P_43 L xs 10).trans rfl
theorem b_43_0 {Y : sY} {d : Nat} {s : sT} {K : Option Int32 → sT → Prop} {r0 : Nat} (h : (isO Y r0 5 ∧ (isO Y r0 5 ∧ K none (pV s r0 6 ((s.1 r0 6) + (1 : Int32)))))) : tT Y d 43 0 [.ref r0] [] s K :=
  (tt_aload (p_43_0 _ _) rfl).mpr ((tt_dupr (p_43_1 _ _)).mpr (t3_geti (p_43_2 _ _) (isI_5_6) h.1 ((tt_push (p_43_5 _ _)).mpr ((tt_bin (p_43_6 _ _)).mpr ((t2_puti (p_43_7 _ _) isI_5_6 h.2.1).mpr (tt_ret0 (p_43_10 _ _) h.2.2))))))
/-! InclusionProver$Side.become.(LInclusionProver$Side;)V -/
theorem p_44_0 (L : Nat) (xs : Nat → Int32) : ll_P L xs 44 0 = some (.inl (lo_aload 1 0)) := (P_44 L xs 0).trans rfl
theorem p_44_1 (L : Nat) (xs : Nat → Int32) : ll_P L xs 44 1 = some (.inl (lo_getf 4 5 0)) := (P_44 L xs 1).trans rfl
theorem p_44_4 (L : Nat) (xs : Nat → Int32) : ll_P L xs 44 4 = some (.inl (lo_aload 5 1)) := (P_44 L xs 4).trans rfl
theorem p_44_5 (L : Nat) (xs : Nat → Int32) : ll_P L xs 44 5 = some (.inl (lo_getf 8 5 0)) := (P_44 L xs 5).trans rfl
theorem p_44_8 (L : Nat) (xs : Nat → Int32) : ll_P L xs 44 8 = some (.inr (.inl (75, 2, 11))) := (P_44 L xs 8).trans rfl
theorem p_44_11 (L : Nat) (xs : Nat → Int32) : ll_P L xs 44 11 = some (.inl (lo_aload 12 0)) := (P_44 L xs 11).trans rfl
theorem p_44_12 (L : Nat) (xs : Nat → Int32) : ll_P L xs 44 12 = some (.inl (lo_getf 15 5 1)) := (P_44 L xs 12).trans rfl
theorem p_44_15 (L : Nat) (xs : Nat → Int32) : ll_P L xs 44 15 = some (.inl (lo_aload 16 1)) := (P_44 L xs 15).trans rfl
theorem p_44_16 (L : Nat) (xs : Nat → Int32) : ll_P L xs 44 16 = some (.inl (lo_getf 19 5 1)) := (P_44 L xs 16).trans rfl
theorem p_44_19 (L : Nat) (xs : Nat → Int32) : ll_P L xs 44 19 = some (.inr (.inl (75, 2, 22))) := (P_44 L xs 19).trans rfl
theorem p_44_22 (L : Nat) (xs : Nat → Int32) : ll_P L xs 44 22 = some (.inl (lo_aload 23 0)) := (P_44 L xs 22).trans rfl
theorem p_44_23 (L : Nat) (xs : Nat → Int32) : ll_P L xs 44 23 = some (.inl (lo_aload 24 1)) := (P_44 L xs 23).trans rfl
theorem p_44_24 (L : Nat) (xs : Nat → Int32) : ll_P L xs 44 24 = some (.inl (lo_getf 27 5 6)) := (P_44 L xs 24).trans rfl
theorem p_44_27 (L : Nat) (xs : Nat → Int32) : ll_P L xs 44 27 = some (.inl (lo_putf 30 5 6 0)) := (P_44 L xs 27).trans rfl
theorem p_44_30 (L : Nat) (xs : Nat → Int32) : ll_P L xs 44 30 = some (.inl (lo_aload 31 0)) := (P_44 L xs 30).trans rfl
theorem p_44_31 (L : Nat) (xs : Nat → Int32) : ll_P L xs 44 31 = some (.inl (lo_aload 32 1)) := (P_44 L xs 31).trans rfl
theorem p_44_32 (L : Nat) (xs : Nat → Int32) : ll_P L xs 44 32 = some (.inl (lo_getf 35 5 7)) := (P_44 L xs 32).trans rfl
theorem p_44_35 (L : Nat) (xs : Nat → Int32) : ll_P L xs 44 35 = some (.inl (lo_putf 38 5 7 0)) := (P_44 L xs 35).trans rfl
theorem p_44_38 (L : Nat) (xs : Nat → Int32) : ll_P L xs 44 38 = some (.inl (lo_aload 39 0)) := (P_44 L xs 38).trans rfl
theorem p_44_39 (L : Nat) (xs : Nat → Int32) : ll_P L xs 44 39 = some (.inl (lo_aload 40 1)) := (P_44 L xs 39).trans rfl
theorem p_44_40 (L : Nat) (xs : Nat → Int32) : ll_P L xs 44 40 = some (.inl (lo_getf 43 5 8)) := (P_44 L xs 40).trans rfl
theorem p_44_43 (L : Nat) (xs : Nat → Int32) : ll_P L xs 44 43 = some (.inl (lo_putf 46 5 8 0)) := (P_44 L xs 43).trans rfl
theorem p_44_46 (L : Nat) (xs : Nat → Int32) : ll_P L xs 44 46 = some (.inl (lo_aload 47 0)) := (P_44 L xs 46).trans rfl
theorem p_44_47 (L : Nat) (xs : Nat → Int32) : ll_P L xs 44 47 = some (.inl (lo_aload 48 1)) := (P_44 L xs 47).trans rfl
theorem p_44_48 (L : Nat) (xs : Nat → Int32) : ll_P L xs 44 48 = some (.inl (lo_getf 51 5 9)) := (P_44 L xs 48).trans rfl
theorem p_44_51 (L : Nat) (xs : Nat → Int32) : ll_P L xs 44 51 = some (.inl (lo_putf 54 5 9 0)) := (P_44 L xs 51).trans rfl
theorem p_44_54 (L : Nat) (xs : Nat → Int32) : ll_P L xs 44 54 = some (.inl (lo_aload 55 0)) := (P_44 L xs 54).trans rfl
theorem p_44_55 (L : Nat) (xs : Nat → Int32) : ll_P L xs 44 55 = some (.inl (lo_aload 56 1)) := (P_44 L xs 55).trans rfl
theorem p_44_56 (L : Nat) (xs : Nat → Int32) : ll_P L xs 44 56 = some (.inl (lo_getf 59 5 10)) := (P_44 L xs 56).trans rfl
theorem p_44_59 (L : Nat) (xs : Nat → Int32) : ll_P L xs 44 59 = some (.inl (lo_putf 62 5 10 0)) := (P_44 L xs 59).trans rfl
theorem p_44_62 (L : Nat) (xs : Nat → Int32) : ll_P L xs 44 62 = some (.inl (lo_aload 63 0)) := (P_44 L xs 62).trans rfl
theorem p_44_63 (L : Nat) (xs : Nat → Int32) : ll_P L xs 44 63 = some (.inl (lo_getf 66 5 6)) := (P_44 L xs 63).trans rfl
theorem p_44_66 (L : Nat) (xs : Nat → Int32) : ll_P L xs 44 66 = some (.inl (lo_push 67 (.int 3))) := (P_44 L xs 66).trans rfl
theorem p_44_67 (L : Nat) (xs : Nat → Int32) : ll_P L xs 44 67 = some (.inl (lo_bin 68 (fun x y => x * y))) := (P_44 L xs 67).trans rfl
theorem p_44_68 (L : Nat) (xs : Nat → Int32) : ll_P L xs 44 68 = some (.inl (lo_istore 69 2)) := (P_44 L xs 68).trans rfl
theorem p_44_69 (L : Nat) (xs : Nat → Int32) : ll_P L xs 44 69 = some (.inl (lo_aload 70 1)) := (P_44 L xs 69).trans rfl
theorem p_44_70 (L : Nat) (xs : Nat → Int32) : ll_P L xs 44 70 = some (.inl (lo_getf 73 5 2)) := (P_44 L xs 70).trans rfl
theorem p_44_73 (L : Nat) (xs : Nat → Int32) : ll_P L xs 44 73 = some (.inl (lo_push 74 (.int 0))) := (P_44 L xs 73).trans rfl
theorem p_44_74 (L : Nat) (xs : Nat → Int32) : ll_P L xs 44 74 = some (.inl (lo_aload 75 0)) := (P_44 L xs 74).trans rfl
theorem p_44_75 (L : Nat) (xs : Nat → Int32) : ll_P L xs 44 75 = some (.inl (lo_getf 78 5 2)) := (P_44 L xs 75).trans rfl
theorem p_44_78 (L : Nat) (xs : Nat → Int32) : ll_P L xs 44 78 = some (.inl (lo_push 79 (.int 0))) := (P_44 L xs 78).trans rfl
theorem p_44_79 (L : Nat) (xs : Nat → Int32) : ll_P L xs 44 79 = some (.inl (lo_aload 80 0)) := (P_44 L xs 79).trans rfl
theorem p_44_80 (L : Nat) (xs : Nat → Int32) : ll_P L xs 44 80 = some (.inl (lo_getf 83 5 6)) := (P_44 L xs 80).trans rfl
theorem p_44_83 (L : Nat) (xs : Nat → Int32) : ll_P L xs 44 83 = some (.inl (lo_copy 86)) := (P_44 L xs 83).trans rfl
theorem p_44_86 (L : Nat) (xs : Nat → Int32) : ll_P L xs 44 86 = some (.inl (lo_aload 87 1)) := (P_44 L xs 86).trans rfl
theorem p_44_87 (L : Nat) (xs : Nat → Int32) : ll_P L xs 44 87 = some (.inl (lo_getf 90 5 3)) := (P_44 L xs 87).trans rfl
theorem p_44_90 (L : Nat) (xs : Nat → Int32) : ll_P L xs 44 90 = some (.inl (lo_push 91 (.int 0))) := (P_44 L xs 90).trans rfl
theorem p_44_91 (L : Nat) (xs : Nat → Int32) : ll_P L xs 44 91 = some (.inl (lo_aload 92 0)) := (P_44 L xs 91).trans rfl
theorem p_44_92 (L : Nat) (xs : Nat → Int32) : ll_P L xs 44 92 = some (.inl (lo_getf 95 5 3)) := (P_44 L xs 92).trans rfl
theorem p_44_95 (L : Nat) (xs : Nat → Int32) : ll_P L xs 44 95 = some (.inl (lo_push 96 (.int 0))) := (P_44 L xs 95).trans rfl
theorem p_44_96 (L : Nat) (xs : Nat → Int32) : ll_P L xs 44 96 = some (.inl (lo_iload 97 2)) := (P_44 L xs 96).trans rfl
theorem p_44_97 (L : Nat) (xs : Nat → Int32) : ll_P L xs 44 97 = some (.inl (lo_copy 100)) := (P_44 L xs 97).trans rfl
theorem p_44_100 (L : Nat) (xs : Nat → Int32) : ll_P L xs 44 100 = some (.inl (lo_aload 101 1)) := (P_44 L xs 100).trans rfl
theorem p_44_101 (L : Nat) (xs : Nat → Int32) : ll_P L xs 44 101 = some (.inl (lo_getf 104 5 4)) := (P_44 L xs 101).trans rfl
theorem p_44_104 (L : Nat) (xs : Nat → Int32) : ll_P L xs 44 104 = some (.inl (lo_push 105 (.int 0))) := (P_44 L xs 104).trans rfl
theorem p_44_105 (L : Nat) (xs : Nat → Int32) : ll_P L xs 44 105 = some (.inl (lo_aload 106 0)) := (P_44 L xs 105).trans rfl
theorem p_44_106 (L : Nat) (xs : Nat → Int32) : ll_P L xs 44 106 = some (.inl (lo_getf 109 5 4)) := (P_44 L xs 106).trans rfl
theorem p_44_109 (L : Nat) (xs : Nat → Int32) : ll_P L xs 44 109 = some (.inl (lo_push 110 (.int 0))) := (P_44 L xs 109).trans rfl
theorem p_44_110 (L : Nat) (xs : Nat → Int32) : ll_P L xs 44 110 = some (.inl (lo_iload 111 2)) := (P_44 L xs 110).trans rfl
theorem p_44_111 (L : Nat) (xs : Nat → Int32) : ll_P L xs 44 111 = some (.inl (lo_push 112 (.int 1))) := (P_44 L xs 111).trans rfl
theorem p_44_112 (L : Nat) (xs : Nat → Int32) : ll_P L xs 44 112 = some (.inl (lo_bin 113 (fun x y => x + y))) := (P_44 L xs 112).trans rfl
theorem p_44_113 (L : Nat) (xs : Nat → Int32) : ll_P L xs 44 113 = some (.inl (lo_copy 116)) := (P_44 L xs 113).trans rfl
theorem p_44_116 (L : Nat) (xs : Nat → Int32) : ll_P L xs 44 116 = some (.inl (lo_aload 117 1)) := (P_44 L xs 116).trans rfl
theorem p_44_117 (L : Nat) (xs : Nat → Int32) : ll_P L xs 44 117 = some (.inl (lo_getf 120 5 5)) := (P_44 L xs 117).trans rfl
theorem p_44_120 (L : Nat) (xs : Nat → Int32) : ll_P L xs 44 120 = some (.inl (lo_push 121 (.int 0))) := (P_44 L xs 120).trans rfl
theorem p_44_121 (L : Nat) (xs : Nat → Int32) : ll_P L xs 44 121 = some (.inl (lo_aload 122 0)) := (P_44 L xs 121).trans rfl
theorem p_44_122 (L : Nat) (xs : Nat → Int32) : ll_P L xs 44 122 = some (.inl (lo_getf 125 5 5)) := (P_44 L xs 122).trans rfl
theorem p_44_125 (L : Nat) (xs : Nat → Int32) : ll_P L xs 44 125 = some (.inl (lo_push 126 (.int 0))) := (P_44 L xs 125).trans rfl
theorem p_44_126 (L : Nat) (xs : Nat → Int32) : ll_P L xs 44 126 = some (.inl (lo_aload 127 0)) := (P_44 L xs 126).trans rfl
theorem p_44_127 (L : Nat) (xs : Nat → Int32) : ll_P L xs 44 127 = some (.inl (lo_getf 130 5 4)) := (P_44 L xs 127).trans rfl
theorem p_44_130 (L : Nat) (xs : Nat → Int32) : ll_P L xs 44 130 = some (.inl (lo_iload 131 2)) := (P_44 L xs 130).trans rfl
theorem p_44_131 (L : Nat) (xs : Nat → Int32) : ll_P L xs 44 131 = some (.inl (lo_ald 132 0)) := (P_44 L xs 131).trans rfl
theorem p_44_132 (L : Nat) (xs : Nat → Int32) : ll_P L xs 44 132 = some (.inl (lo_copy 135)) := (P_44 L xs 132).trans rfl
theorem p_44_135 (L : Nat) (xs : Nat → Int32) : ll_P L xs 44 135 = some (.inr (.inr 0)) := (P_44 L xs 135).trans rfl
theorem b_44_0 {Y : sY} {d : Nat} {s : sT} {K : Option Int32 → sT → Prop} {r0 : Nat} {r1 : Nat} (h : (∃ a1, (isO Y r0 5 ∧ s.2 r0 0 = some a1) ∧ (∃ a3, (isO Y r1 5 ∧ s.2 r1 0 = some a3) ∧ (isO Y a1 7 ∧ tT Y d 75 0 [.ref a1, .ref a3] [] s (fun r s1 => tT Y (d + 1) 44 11 [.ref r0, .ref r1, .null] ((r.map Value.int).toList ++ []) s1 K))))) : tT Y (d + 1) 44 0 [.ref r0, .ref r1, .null] [] s K :=
  (tt_aload (p_44_0 _ _) rfl).mpr (Exists.elim h (fun a1 h2 => t3_getr (p_44_1 _ _) (isI_5_0) h2.1.1 h2.1.2 ((tt_aload (p_44_4 _ _) rfl).mpr (Exists.elim h2.2 (fun a3 h4 => t3_getr (p_44_5 _ _) (isI_5_0) h4.1.1 h4.1.2 (t2_callv (z := 75) (k := 2) (i := a1) (as := [.ref a3]) (rest := []) (p_44_8 _ _) mK_75 mL_75 rfl rfl (Nat.le_of_ble_eq_true rfl) rfl (Nat.le_of_ble_eq_true rfl) h4.2.1 h4.2.2))))))
theorem b_44_11 {Y : sY} {d : Nat} {s : sT} {K : Option Int32 → sT → Prop} {r0 : Nat} {r1 : Nat} (h : (∃ a1, (isO Y r0 5 ∧ s.2 r0 1 = some a1) ∧ (∃ a3, (isO Y r1 5 ∧ s.2 r1 1 = some a3) ∧ (isO Y a1 7 ∧ tT Y d 75 0 [.ref a1, .ref a3] [] s (fun r s1 => tT Y (d + 1) 44 22 [.ref r0, .ref r1, .null] ((r.map Value.int).toList ++ []) s1 K))))) : tT Y (d + 1) 44 11 [.ref r0, .ref r1, .null] [] s K :=
  (tt_aload (p_44_11 _ _) rfl).mpr (Exists.elim h (fun a1 h2 => t3_getr (p_44_12 _ _) (isI_5_1) h2.1.1 h2.1.2 ((tt_aload (p_44_15 _ _) rfl).mpr (Exists.elim h2.2 (fun a3 h4 => t3_getr (p_44_16 _ _) (isI_5_1) h4.1.1 h4.1.2 (t2_callv (z := 75) (k := 2) (i := a1) (as := [.ref a3]) (rest := []) (p_44_19 _ _) mK_75 mL_75 rfl rfl (Nat.le_of_ble_eq_true rfl) rfl (Nat.le_of_ble_eq_true rfl) h4.2.1 h4.2.2))))))
theorem b_44_22 {Y : sY} {d : Nat} {s : sT} {K : Option Int32 → sT → Prop} {r0 : Nat} {r1 : Nat} (h : (isO Y r1 5 ∧ (isO Y r0 5 ∧ tT Y (d + 1) 44 30 [.ref r0, .ref r1, .null] [] (pV s r0 6 (s.1 r1 6)) K))) : tT Y (d + 1) 44 22 [.ref r0, .ref r1, .null] [] s K :=
  (tt_aload (p_44_22 _ _) rfl).mpr ((tt_aload (p_44_23 _ _) rfl).mpr (t3_geti (p_44_24 _ _) (isI_5_6) h.1 ((t2_puti (p_44_27 _ _) isI_5_6 h.2.1).mpr (h.2.2))))
theorem b_44_30 {Y : sY} {d : Nat} {s : sT} {K : Option Int32 → sT → Prop} {r0 : Nat} {r1 : Nat} (h : (isO Y r1 5 ∧ (isO Y r0 5 ∧ tT Y (d + 1) 44 38 [.ref r0, .ref r1, .null] [] (pV s r0 7 (s.1 r1 7)) K))) : tT Y (d + 1) 44 30 [.ref r0, .ref r1, .null] [] s K :=
  (tt_aload (p_44_30 _ _) rfl).mpr ((tt_aload (p_44_31 _ _) rfl).mpr (t3_geti (p_44_32 _ _) (isI_5_7) h.1 ((t2_puti (p_44_35 _ _) isI_5_7 h.2.1).mpr (h.2.2))))
theorem b_44_38 {Y : sY} {d : Nat} {s : sT} {K : Option Int32 → sT → Prop} {r0 : Nat} {r1 : Nat} (h : (isO Y r1 5 ∧ (isO Y r0 5 ∧ tT Y (d + 1) 44 46 [.ref r0, .ref r1, .null] [] (pV s r0 8 (s.1 r1 8)) K))) : tT Y (d + 1) 44 38 [.ref r0, .ref r1, .null] [] s K :=
  (tt_aload (p_44_38 _ _) rfl).mpr ((tt_aload (p_44_39 _ _) rfl).mpr (t3_geti (p_44_40 _ _) (isI_5_8) h.1 ((t2_puti (p_44_43 _ _) isI_5_8 h.2.1).mpr (h.2.2))))
theorem b_44_46 {Y : sY} {d : Nat} {s : sT} {K : Option Int32 → sT → Prop} {r0 : Nat} {r1 : Nat} (h : (isO Y r1 5 ∧ (isO Y r0 5 ∧ tT Y (d + 1) 44 54 [.ref r0, .ref r1, .null] [] (pV s r0 9 (s.1 r1 9)) K))) : tT Y (d + 1) 44 46 [.ref r0, .ref r1, .null] [] s K :=
  (tt_aload (p_44_46 _ _) rfl).mpr ((tt_aload (p_44_47 _ _) rfl).mpr (t3_geti (p_44_48 _ _) (isI_5_9) h.1 ((t2_puti (p_44_51 _ _) isI_5_9 h.2.1).mpr (h.2.2))))
theorem b_44_54 {Y : sY} {d : Nat} {s : sT} {K : Option Int32 → sT → Prop} {r0 : Nat} {r1 : Nat} (h : (isO Y r1 5 ∧ (isO Y r0 5 ∧ tT Y (d + 1) 44 62 [.ref r0, .ref r1, .null] [] (pV s r0 10 (s.1 r1 10)) K))) : tT Y (d + 1) 44 54 [.ref r0, .ref r1, .null] [] s K :=
  (tt_aload (p_44_54 _ _) rfl).mpr ((tt_aload (p_44_55 _ _) rfl).mpr (t3_geti (p_44_56 _ _) (isI_5_10) h.1 ((t2_puti (p_44_59 _ _) isI_5_10 h.2.1).mpr (h.2.2))))
theorem b_44_62 {Y : sY} {d : Nat} {s : sT} {K : Option Int32 → sT → Prop} {r0 : Nat} {r1 : Nat} (h : (isO Y r0 5 ∧ (∃ a1, (isO Y r1 5 ∧ s.2 r1 2 = some a1) ∧ (∃ a3, (isO Y r0 5 ∧ s.2 r0 2 = some a3) ∧ (isO Y r0 5 ∧ (∃ m5 m6, (isA Y a1 0 m5 ∧ isA Y a3 0 m6 ∧ cpOK (0 : Int32) (0 : Int32) (s.1 r0 6) m5 m6) ∧ tT Y (d + 1) 44 86 [.ref r0, .ref r1, .int ((s.1 r0 6) * (3 : Int32))] [] (pA s a3 (va_cpy (s.1 a1) (s.1 a3) ((0 : Int32)).toNatClampNeg ((0 : Int32)).toNatClampNeg ((s.1 r0 6)).toNatClampNeg)) K)))))) : tT Y (d + 1) 44 62 [.ref r0, .ref r1, .null] [] s K :=
  (tt_aload (p_44_62 _ _) rfl).mpr (t3_geti (p_44_63 _ _) (isI_5_6) h.1 ((tt_push (p_44_66 _ _)).mpr ((tt_bin (p_44_67 _ _)).mpr ((tt_istore (p_44_68 _ _) (Nat.le_of_ble_eq_true rfl) rfl rfl).mpr ((tt_aload (p_44_69 _ _) rfl).mpr (Exists.elim h.2 (fun a1 h2 => t3_getr (p_44_70 _ _) (isI_5_2) h2.1.1 h2.1.2 ((tt_push (p_44_73 _ _)).mpr ((tt_aload (p_44_74 _ _) rfl).mpr (Exists.elim h2.2 (fun a3 h4 => t3_getr (p_44_75 _ _) (isI_5_2) h4.1.1 h4.1.2 ((tt_push (p_44_78 _ _)).mpr ((tt_aload (p_44_79 _ _) rfl).mpr (t3_geti (p_44_80 _ _) (isI_5_6) h4.2.1 (Exists.elim h4.2.2 (fun m5 h7q0 => Exists.elim h7q0 (fun m6 h7 => t3_copy (p_44_83 _ _) h7.1.1 h7.1.2.1 h7.1.2.2 (Nat.le_of_ble_eq_true rfl) (h7.2))))))))))))))))))
theorem b_44_86 {Y : sY} {d : Nat} {s : sT} {K : Option Int32 → sT → Prop} {r0 : Nat} {r1 : Nat} {x2 : Int32} (h : (∃ a1, (isO Y r1 5 ∧ s.2 r1 3 = some a1) ∧ (∃ a3, (isO Y r0 5 ∧ s.2 r0 3 = some a3) ∧ (∃ m5 m6, (isA Y a1 0 m5 ∧ isA Y a3 0 m6 ∧ cpOK (0 : Int32) (0 : Int32) x2 m5 m6) ∧ tT Y (d + 1) 44 100 [.ref r0, .ref r1, .int x2] [] (pA s a3 (va_cpy (s.1 a1) (s.1 a3) ((0 : Int32)).toNatClampNeg ((0 : Int32)).toNatClampNeg (x2).toNatClampNeg)) K)))) : tT Y (d + 1) 44 86 [.ref r0, .ref r1, .int x2] [] s K :=
  (tt_aload (p_44_86 _ _) rfl).mpr (Exists.elim h (fun a1 h2 => t3_getr (p_44_87 _ _) (isI_5_3) h2.1.1 h2.1.2 ((tt_push (p_44_90 _ _)).mpr ((tt_aload (p_44_91 _ _) rfl).mpr (Exists.elim h2.2 (fun a3 h4 => t3_getr (p_44_92 _ _) (isI_5_3) h4.1.1 h4.1.2 ((tt_push (p_44_95 _ _)).mpr ((tt_iload (p_44_96 _ _) rfl).mpr (Exists.elim h4.2 (fun m5 h7q0 => Exists.elim h7q0 (fun m6 h7 => t3_copy (p_44_97 _ _) h7.1.1 h7.1.2.1 h7.1.2.2 (Nat.le_of_ble_eq_true rfl) (h7.2))))))))))))
theorem b_44_100 {Y : sY} {d : Nat} {s : sT} {K : Option Int32 → sT → Prop} {r0 : Nat} {r1 : Nat} {x2 : Int32} (h : (∃ a1, (isO Y r1 5 ∧ s.2 r1 4 = some a1) ∧ (∃ a3, (isO Y r0 5 ∧ s.2 r0 4 = some a3) ∧ (∃ m5 m6, (isA Y a1 0 m5 ∧ isA Y a3 0 m6 ∧ cpOK (0 : Int32) (0 : Int32) (x2 + (1 : Int32)) m5 m6) ∧ tT Y (d + 1) 44 116 [.ref r0, .ref r1, .int x2] [] (pA s a3 (va_cpy (s.1 a1) (s.1 a3) ((0 : Int32)).toNatClampNeg ((0 : Int32)).toNatClampNeg ((x2 + (1 : Int32))).toNatClampNeg)) K)))) : tT Y (d + 1) 44 100 [.ref r0, .ref r1, .int x2] [] s K :=
  (tt_aload (p_44_100 _ _) rfl).mpr (Exists.elim h (fun a1 h2 => t3_getr (p_44_101 _ _) (isI_5_4) h2.1.1 h2.1.2 ((tt_push (p_44_104 _ _)).mpr ((tt_aload (p_44_105 _ _) rfl).mpr (Exists.elim h2.2 (fun a3 h4 => t3_getr (p_44_106 _ _) (isI_5_4) h4.1.1 h4.1.2 ((tt_push (p_44_109 _ _)).mpr ((tt_iload (p_44_110 _ _) rfl).mpr ((tt_push (p_44_111 _ _)).mpr ((tt_bin (p_44_112 _ _)).mpr (Exists.elim h4.2 (fun m5 h7q0 => Exists.elim h7q0 (fun m6 h7 => t3_copy (p_44_113 _ _) h7.1.1 h7.1.2.1 h7.1.2.2 (Nat.le_of_ble_eq_true rfl) (h7.2))))))))))))))
theorem b_44_116 {Y : sY} {d : Nat} {s : sT} {K : Option Int32 → sT → Prop} {r0 : Nat} {r1 : Nat} {x2 : Int32} (h : (∃ a1, (isO Y r1 5 ∧ s.2 r1 5 = some a1) ∧ (∃ a3, (isO Y r0 5 ∧ s.2 r0 5 = some a3) ∧ (∃ a5, (isO Y r0 5 ∧ s.2 r0 4 = some a5) ∧ (∃ m7, (isA Y a5 0 m7 ∧ inR x2 m7) ∧ (∃ m9 m10, (isA Y a1 0 m9 ∧ isA Y a3 0 m10 ∧ cpOK (0 : Int32) (0 : Int32) (s.1 a5 (x2).toNatClampNeg) m9 m10) ∧ tT Y (d + 1) 44 135 [.ref r0, .ref r1, .int x2] [] (pA s a3 (va_cpy (s.1 a1) (s.1 a3) ((0 : Int32)).toNatClampNeg ((0 : Int32)).toNatClampNeg ((s.1 a5 (x2).toNatClampNeg)).toNatClampNeg)) K)))))) : tT Y (d + 1) 44 116 [.ref r0, .ref r1, .int x2] [] s K :=
  (tt_aload (p_44_116 _ _) rfl).mpr (Exists.elim h (fun a1 h2 => t3_getr (p_44_117 _ _) (isI_5_5) h2.1.1 h2.1.2 ((tt_push (p_44_120 _ _)).mpr ((tt_aload (p_44_121 _ _) rfl).mpr (Exists.elim h2.2 (fun a3 h4 => t3_getr (p_44_122 _ _) (isI_5_5) h4.1.1 h4.1.2 ((tt_push (p_44_125 _ _)).mpr ((tt_aload (p_44_126 _ _) rfl).mpr (Exists.elim h4.2 (fun a5 h6 => t3_getr (p_44_127 _ _) (isI_5_4) h6.1.1 h6.1.2 ((tt_iload (p_44_130 _ _) rfl).mpr (Exists.elim h6.2 (fun m7 h8 => t3_ald (p_44_131 _ _) h8.1.1 h8.1.2 (Exists.elim h8.2 (fun m9 h11q0 => Exists.elim h11q0 (fun m10 h11 => t3_copy (p_44_132 _ _) h11.1.1 h11.1.2.1 h11.1.2.2 (Nat.le_of_ble_eq_true rfl) (h11.2)))))))))))))))))
theorem b_44_135 {Y : sY} {d : Nat} {s : sT} {K : Option Int32 → sT → Prop} {r0 : Nat} {r1 : Nat} {x2 : Int32} (h : K none s) : tT Y (d + 1) 44 135 [.ref r0, .ref r1, .int x2] [] s K :=
  tt_ret0 (p_44_135 _ _) h
/-! InclusionProver$Side.isTerm.(I)Z -/
theorem p_45_0 (L : Nat) (xs : Nat → Int32) : ll_P L xs 45 0 = some (.inl (lo_iload 1 1)) := (P_45 L xs 0).trans rfl
theorem p_45_1 (L : Nat) (xs : Nat → Int32) : ll_P L xs 45 1 = some (.inl (lo_if 16 4 (fun x => decide (x < 0)))) := (P_45 L xs 1).trans rfl
theorem p_45_4 (L : Nat) (xs : Nat → Int32) : ll_P L xs 45 4 = some (.inl (lo_iload 5 1)) := (P_45 L xs 4).trans rfl
theorem p_45_5 (L : Nat) (xs : Nat → Int32) : ll_P L xs 45 5 = some (.inl (lo_aload 6 0)) := (P_45 L xs 5).trans rfl
theorem p_45_6 (L : Nat) (xs : Nat → Int32) : ll_P L xs 45 6 = some (.inl (lo_getf 9 5 6)) := (P_45 L xs 6).trans rfl
theorem p_45_9 (L : Nat) (xs : Nat → Int32) : ll_P L xs 45 9 = some (.inl (lo_cmp 16 12 (fun x y => decide (y ≤ x)))) := (P_45 L xs 9).trans rfl
theorem p_45_12 (L : Nat) (xs : Nat → Int32) : ll_P L xs 45 12 = some (.inl (lo_push 13 (.int 1))) := (P_45 L xs 12).trans rfl
theorem p_45_13 (L : Nat) (xs : Nat → Int32) : ll_P L xs 45 13 = some (.inl (lo_goto 17)) := (P_45 L xs 13).trans rfl
theorem p_45_16 (L : Nat) (xs : Nat → Int32) : ll_P L xs 45 16 = some (.inl (lo_push 17 (.int 0))) := (P_45 L xs 16).trans rfl
theorem p_45_17 (L : Nat) (xs : Nat → Int32) : ll_P L xs 45 17 = some (.inr (.inr 2)) := (P_45 L xs 17).trans rfl
theorem b_45_0 {Y : sY} {d : Nat} {s : sT} {K : Option Int32 → sT → Prop} {r0 : Nat} {x1 : Int32} (h : (if x1 < 0 then K (some (0 : Int32)) s else (isO Y r0 5 ∧ (if (s.1 r0 6) ≤ x1 then K (some (0 : Int32)) s else K (some (1 : Int32)) s)))) : tT Y d 45 0 [.ref r0, .int x1] [] s K :=
  (tt_iload (p_45_0 _ _) rfl).mpr (t3_if (p := x1 < 0) (p_45_1 _ _) rfl (fun g1 => (tt_push (p_45_16 _ _)).mpr (tt_ret2 (p_45_17 _ _) (Or.inl rfl) (ifp h g1))) (fun g1 => (tt_iload (p_45_4 _ _) rfl).mpr ((tt_aload (p_45_5 _ _) rfl).mpr (t3_geti (p_45_6 _ _) (isI_5_6) (ifn h g1).1 (t3_cmp (p := (s.1 r0 6) ≤ x1) (p_45_9 _ _) rfl (fun g2 => (tt_push (p_45_16 _ _)).mpr (tt_ret2 (p_45_17 _ _) (Or.inl rfl) (ifp (ifn h g1).2 g2))) (fun g2 => (tt_push (p_45_12 _ _)).mpr ((tt_goto (p_45_13 _ _)).mpr (tt_ret2 (p_45_17 _ _) (Or.inr rfl) (ifn (ifn h g1).2 g2)))))))))
/-! InclusionProver$Side.isSet.(I)Z -/
theorem p_46_0 (L : Nat) (xs : Nat → Int32) : ll_P L xs 46 0 = some (.inl (lo_iload 1 1)) := (P_46 L xs 0).trans rfl
theorem p_46_1 (L : Nat) (xs : Nat → Int32) : ll_P L xs 46 1 = some (.inl (lo_push 2 (.int 1))) := (P_46 L xs 1).trans rfl
theorem p_46_2 (L : Nat) (xs : Nat → Int32) : ll_P L xs 46 2 = some (.inl (lo_aload 3 0)) := (P_46 L xs 2).trans rfl
theorem p_46_3 (L : Nat) (xs : Nat → Int32) : ll_P L xs 46 3 = some (.inl (lo_getf 6 5 6)) := (P_46 L xs 3).trans rfl
theorem p_46_6 (L : Nat) (xs : Nat → Int32) : ll_P L xs 46 6 = some (.inl (lo_bin 7 (fun x y => x <<< (y &&& 31)))) := (P_46 L xs 6).trans rfl
theorem p_46_7 (L : Nat) (xs : Nat → Int32) : ll_P L xs 46 7 = some (.inl (lo_push 8 (.int 1))) := (P_46 L xs 7).trans rfl
theorem p_46_8 (L : Nat) (xs : Nat → Int32) : ll_P L xs 46 8 = some (.inl (lo_bin 9 (fun x y => x - y))) := (P_46 L xs 8).trans rfl
theorem p_46_9 (L : Nat) (xs : Nat → Int32) : ll_P L xs 46 9 = some (.inl (lo_push 10 (.int (-1)))) := (P_46 L xs 9).trans rfl
theorem p_46_10 (L : Nat) (xs : Nat → Int32) : ll_P L xs 46 10 = some (.inl (lo_bin 11 (fun x y => x ^^^ y))) := (P_46 L xs 10).trans rfl
theorem p_46_11 (L : Nat) (xs : Nat → Int32) : ll_P L xs 46 11 = some (.inl (lo_bin 12 (fun x y => x &&& y))) := (P_46 L xs 11).trans rfl
theorem p_46_12 (L : Nat) (xs : Nat → Int32) : ll_P L xs 46 12 = some (.inl (lo_if 19 15 (fun x => decide (¬ x = 0)))) := (P_46 L xs 12).trans rfl
theorem p_46_15 (L : Nat) (xs : Nat → Int32) : ll_P L xs 46 15 = some (.inl (lo_push 16 (.int 1))) := (P_46 L xs 15).trans rfl
theorem p_46_16 (L : Nat) (xs : Nat → Int32) : ll_P L xs 46 16 = some (.inl (lo_goto 20)) := (P_46 L xs 16).trans rfl
theorem p_46_19 (L : Nat) (xs : Nat → Int32) : ll_P L xs 46 19 = some (.inl (lo_push 20 (.int 0))) := (P_46 L xs 19).trans rfl
theorem p_46_20 (L : Nat) (xs : Nat → Int32) : ll_P L xs 46 20 = some (.inr (.inr 2)) := (P_46 L xs 20).trans rfl
theorem b_46_0 {Y : sY} {d : Nat} {s : sT} {K : Option Int32 → sT → Prop} {r0 : Nat} {x1 : Int32} (h : (isO Y r0 5 ∧ (if ¬ (x1 &&& ((((1 : Int32) <<< ((s.1 r0 6) &&& 31)) - (1 : Int32)) ^^^ (-1 : Int32))) = 0 then K (some (0 : Int32)) s else K (some (1 : Int32)) s))) : tT Y d 46 0 [.ref r0, .int x1] [] s K :=
  (tt_iload (p_46_0 _ _) rfl).mpr ((tt_push (p_46_1 _ _)).mpr ((tt_aload (p_46_2 _ _) rfl).mpr (t3_geti (p_46_3 _ _) (isI_5_6) h.1 ((tt_bin (p_46_6 _ _)).mpr ((tt_push (p_46_7 _ _)).mpr ((tt_bin (p_46_8 _ _)).mpr ((tt_push (p_46_9 _ _)).mpr ((tt_bin (p_46_10 _ _)).mpr ((tt_bin (p_46_11 _ _)).mpr (t3_if (p := ¬ (x1 &&& ((((1 : Int32) <<< ((s.1 r0 6) &&& 31)) - (1 : Int32)) ^^^ (-1 : Int32))) = 0) (p_46_12 _ _) rfl (fun g1 => (tt_push (p_46_19 _ _)).mpr (tt_ret2 (p_46_20 _ _) (Or.inl rfl) (ifp h.2 g1))) (fun g1 => (tt_push (p_46_15 _ _)).mpr ((tt_goto (p_46_16 _ _)).mpr (tt_ret2 (p_46_20 _ _) (Or.inr rfl) (ifn h.2 g1))))))))))))))
/-! InclusionProver$Side.anyFull.(I)Z -/
theorem p_47_0 (L : Nat) (xs : Nat → Int32) : ll_P L xs 47 0 = some (.inl (lo_iload 1 1)) := (P_47 L xs 0).trans rfl
theorem p_47_1 (L : Nat) (xs : Nat → Int32) : ll_P L xs 47 1 = some (.inl (lo_aload 2 0)) := (P_47 L xs 1).trans rfl
theorem p_47_2 (L : Nat) (xs : Nat → Int32) : ll_P L xs 47 2 = some (.inl (lo_getf 5 5 9)) := (P_47 L xs 2).trans rfl
theorem p_47_5 (L : Nat) (xs : Nat → Int32) : ll_P L xs 47 5 = some (.inl (lo_bin 6 (fun x y => x &&& y))) := (P_47 L xs 5).trans rfl
theorem p_47_6 (L : Nat) (xs : Nat → Int32) : ll_P L xs 47 6 = some (.inl (lo_if 13 9 (fun x => decide (x = 0)))) := (P_47 L xs 6).trans rfl
theorem p_47_9 (L : Nat) (xs : Nat → Int32) : ll_P L xs 47 9 = some (.inl (lo_push 10 (.int 1))) := (P_47 L xs 9).trans rfl
theorem p_47_10 (L : Nat) (xs : Nat → Int32) : ll_P L xs 47 10 = some (.inl (lo_goto 14)) := (P_47 L xs 10).trans rfl
theorem p_47_13 (L : Nat) (xs : Nat → Int32) : ll_P L xs 47 13 = some (.inl (lo_push 14 (.int 0))) := (P_47 L xs 13).trans rfl
theorem p_47_14 (L : Nat) (xs : Nat → Int32) : ll_P L xs 47 14 = some (.inr (.inr 2)) := (P_47 L xs 14).trans rfl
theorem b_47_0 {Y : sY} {d : Nat} {s : sT} {K : Option Int32 → sT → Prop} {r0 : Nat} {x1 : Int32} (h : (isO Y r0 5 ∧ (if (x1 &&& (s.1 r0 9)) = 0 then K (some (0 : Int32)) s else K (some (1 : Int32)) s))) : tT Y d 47 0 [.ref r0, .int x1] [] s K :=
  (tt_iload (p_47_0 _ _) rfl).mpr ((tt_aload (p_47_1 _ _) rfl).mpr (t3_geti (p_47_2 _ _) (isI_5_9) h.1 ((tt_bin (p_47_5 _ _)).mpr (t3_if (p := (x1 &&& (s.1 r0 9)) = 0) (p_47_6 _ _) rfl (fun g1 => (tt_push (p_47_13 _ _)).mpr (tt_ret2 (p_47_14 _ _) (Or.inl rfl) (ifp h.2 g1))) (fun g1 => (tt_push (p_47_9 _ _)).mpr ((tt_goto (p_47_10 _ _)).mpr (tt_ret2 (p_47_14 _ _) (Or.inr rfl) (ifn h.2 g1))))))))
/-! InclusionProver$Side.lettersSpelt.()I -/
theorem p_48_0 (L : Nat) (xs : Nat → Int32) : ll_P L xs 48 0 = some (.inl (lo_push 1 (.int 0))) := (P_48 L xs 0).trans rfl
theorem p_48_1 (L : Nat) (xs : Nat → Int32) : ll_P L xs 48 1 = some (.inl (lo_istore 2 1)) := (P_48 L xs 1).trans rfl
theorem p_48_2 (L : Nat) (xs : Nat → Int32) : ll_P L xs 48 2 = some (.inl (lo_push 3 (.int 0))) := (P_48 L xs 2).trans rfl
theorem p_48_3 (L : Nat) (xs : Nat → Int32) : ll_P L xs 48 3 = some (.inl (lo_istore 4 2)) := (P_48 L xs 3).trans rfl
theorem p_48_4 (L : Nat) (xs : Nat → Int32) : ll_P L xs 48 4 = some (.inl (lo_iload 5 2)) := (P_48 L xs 4).trans rfl
theorem p_48_5 (L : Nat) (xs : Nat → Int32) : ll_P L xs 48 5 = some (.inl (lo_push 6 (.int 3))) := (P_48 L xs 5).trans rfl
theorem p_48_6 (L : Nat) (xs : Nat → Int32) : ll_P L xs 48 6 = some (.inl (lo_cmp 29 9 (fun x y => decide (y ≤ x)))) := (P_48 L xs 6).trans rfl
theorem p_48_9 (L : Nat) (xs : Nat → Int32) : ll_P L xs 48 9 = some (.inl (lo_iload 10 1)) := (P_48 L xs 9).trans rfl
theorem p_48_10 (L : Nat) (xs : Nat → Int32) : ll_P L xs 48 10 = some (.inl (lo_aload 11 0)) := (P_48 L xs 10).trans rfl
theorem p_48_11 (L : Nat) (xs : Nat → Int32) : ll_P L xs 48 11 = some (.inl (lo_getf 14 5 0)) := (P_48 L xs 11).trans rfl
theorem p_48_14 (L : Nat) (xs : Nat → Int32) : ll_P L xs 48 14 = some (.inl (lo_push 16 (.int 97))) := (P_48 L xs 14).trans rfl
theorem p_48_16 (L : Nat) (xs : Nat → Int32) : ll_P L xs 48 16 = some (.inl (lo_iload 17 2)) := (P_48 L xs 16).trans rfl
theorem p_48_17 (L : Nat) (xs : Nat → Int32) : ll_P L xs 48 17 = some (.inl (lo_bin 18 (fun x y => x + y))) := (P_48 L xs 17).trans rfl
theorem p_48_18 (L : Nat) (xs : Nat → Int32) : ll_P L xs 48 18 = some (.inr (.inl (78, 2, 21))) := (P_48 L xs 18).trans rfl
theorem p_48_21 (L : Nat) (xs : Nat → Int32) : ll_P L xs 48 21 = some (.inl (lo_bin 22 (fun x y => x + y))) := (P_48 L xs 21).trans rfl
theorem p_48_22 (L : Nat) (xs : Nat → Int32) : ll_P L xs 48 22 = some (.inl (lo_istore 23 1)) := (P_48 L xs 22).trans rfl
theorem p_48_23 (L : Nat) (xs : Nat → Int32) : ll_P L xs 48 23 = some (.inl (lo_iinc 26 2 1)) := (P_48 L xs 23).trans rfl
theorem p_48_26 (L : Nat) (xs : Nat → Int32) : ll_P L xs 48 26 = some (.inl (lo_goto 4)) := (P_48 L xs 26).trans rfl
theorem p_48_29 (L : Nat) (xs : Nat → Int32) : ll_P L xs 48 29 = some (.inl (lo_iload 30 1)) := (P_48 L xs 29).trans rfl
theorem p_48_30 (L : Nat) (xs : Nat → Int32) : ll_P L xs 48 30 = some (.inr (.inr 1)) := (P_48 L xs 30).trans rfl
theorem b_48_0 {Y : sY} {d : Nat} {s : sT} {K : Option Int32 → sT → Prop} {r0 : Nat} (h : tT Y (d + 1) 48 4 [.ref r0, .int (0 : Int32), .int (0 : Int32)] [] s K) : tT Y (d + 1) 48 0 [.ref r0, .null, .null] [] s K :=
  (tt_push (p_48_0 _ _)).mpr ((tt_istore (p_48_1 _ _) (Nat.le_of_ble_eq_true rfl) rfl rfl).mpr ((tt_push (p_48_2 _ _)).mpr ((tt_istore (p_48_3 _ _) (Nat.le_of_ble_eq_true rfl) rfl rfl).mpr (h))))
theorem b_48_4 {Y : sY} {d : Nat} {s : sT} {K : Option Int32 → sT → Prop} {r0 : Nat} {x1 : Int32} {x2 : Int32} (h : (if (3 : Int32) ≤ x2 then K (some x1) s else (∃ a2, (isO Y r0 5 ∧ s.2 r0 0 = some a2) ∧ (isO Y a2 7 ∧ tT Y d 78 0 [.ref a2, .int ((97 : Int32) + x2), .null, .null] [] s (fun r s1 => tT Y (d + 1) 48 21 [.ref r0, .int x1, .int x2] ((r.map Value.int).toList ++ [.int x1]) s1 K))))) : tT Y (d + 1) 48 4 [.ref r0, .int x1, .int x2] [] s K :=
  (tt_iload (p_48_4 _ _) rfl).mpr ((tt_push (p_48_5 _ _)).mpr (t3_cmp (p := (3 : Int32) ≤ x2) (p_48_6 _ _) rfl (fun g1 => (tt_iload (p_48_29 _ _) rfl).mpr (tt_ret1 (p_48_30 _ _) (ifp h g1))) (fun g1 => (tt_iload (p_48_9 _ _) rfl).mpr ((tt_aload (p_48_10 _ _) rfl).mpr (Exists.elim (ifn h g1) (fun a2 h3 => t3_getr (p_48_11 _ _) (isI_5_0) h3.1.1 h3.1.2 ((tt_push (p_48_14 _ _)).mpr ((tt_iload (p_48_16 _ _) rfl).mpr ((tt_bin (p_48_17 _ _)).mpr (t2_callv (z := 78) (k := 2) (i := a2) (as := [.int ((97 : Int32) + x2)]) (rest := [.int x1]) (p_48_18 _ _) mK_78 mL_78 rfl rfl (Nat.le_of_ble_eq_true rfl) rfl (Nat.le_of_ble_eq_true rfl) h3.2.1 h3.2.2))))))))))
theorem b_48_21 {Y : sY} {d : Nat} {s : sT} {K : Option Int32 → sT → Prop} {r0 : Nat} {x1 : Int32} {x2 : Int32} {t0 : Int32} {t1 : Int32} (h : tT Y (d + 1) 48 4 [.ref r0, .int (t0 + t1), .int (x2 + 1)] [] s K) : tT Y (d + 1) 48 21 [.ref r0, .int x1, .int x2] [.int t1, .int t0] s K :=
  (tt_bin (p_48_21 _ _)).mpr ((tt_istore (p_48_22 _ _) (Nat.le_of_ble_eq_true rfl) rfl rfl).mpr ((tt_iinc (p_48_23 _ _) rfl rfl rfl).mpr ((tt_goto (p_48_26 _ _)).mpr (h))))
/-! InclusionProver$Side.termBytes.(I)I -/
theorem p_49_0 (L : Nat) (xs : Nat → Int32) : ll_P L xs 49 0 = some (.inl (lo_aload 1 0)) := (P_49 L xs 0).trans rfl
theorem p_49_1 (L : Nat) (xs : Nat → Int32) : ll_P L xs 49 1 = some (.inl (lo_iload 2 1)) := (P_49 L xs 1).trans rfl
theorem p_49_2 (L : Nat) (xs : Nat → Int32) : ll_P L xs 49 2 = some (.inr (.inl (45, 2, 5))) := (P_49 L xs 2).trans rfl
theorem p_49_5 (L : Nat) (xs : Nat → Int32) : ll_P L xs 49 5 = some (.inl (lo_if 23 8 (fun x => decide (x = 0)))) := (P_49 L xs 5).trans rfl
theorem p_49_8 (L : Nat) (xs : Nat → Int32) : ll_P L xs 49 8 = some (.inl (lo_aload 9 0)) := (P_49 L xs 8).trans rfl
theorem p_49_9 (L : Nat) (xs : Nat → Int32) : ll_P L xs 49 9 = some (.inl (lo_getf 12 5 2)) := (P_49 L xs 9).trans rfl
theorem p_49_12 (L : Nat) (xs : Nat → Int32) : ll_P L xs 49 12 = some (.inl (lo_iload 13 1)) := (P_49 L xs 12).trans rfl
theorem p_49_13 (L : Nat) (xs : Nat → Int32) : ll_P L xs 49 13 = some (.inl (lo_ald 14 0)) := (P_49 L xs 13).trans rfl
theorem p_49_14 (L : Nat) (xs : Nat → Int32) : ll_P L xs 49 14 = some (.inl (lo_aload 15 0)) := (P_49 L xs 14).trans rfl
theorem p_49_15 (L : Nat) (xs : Nat → Int32) : ll_P L xs 49 15 = some (.inl (lo_iload 16 1)) := (P_49 L xs 15).trans rfl
theorem p_49_16 (L : Nat) (xs : Nat → Int32) : ll_P L xs 49 16 = some (.inr (.inl (57, 2, 19))) := (P_49 L xs 16).trans rfl
theorem p_49_19 (L : Nat) (xs : Nat → Int32) : ll_P L xs 49 19 = some (.inl (lo_bin 20 (fun x y => x - y))) := (P_49 L xs 19).trans rfl
theorem p_49_20 (L : Nat) (xs : Nat → Int32) : ll_P L xs 49 20 = some (.inl (lo_goto 24)) := (P_49 L xs 20).trans rfl
theorem p_49_23 (L : Nat) (xs : Nat → Int32) : ll_P L xs 49 23 = some (.inl (lo_push 24 (.int (-1)))) := (P_49 L xs 23).trans rfl
theorem p_49_24 (L : Nat) (xs : Nat → Int32) : ll_P L xs 49 24 = some (.inr (.inr 1)) := (P_49 L xs 24).trans rfl
theorem b_49_0 {Y : sY} {d : Nat} {s : sT} {K : Option Int32 → sT → Prop} {r0 : Nat} {x1 : Int32} (h : (isO Y r0 5 ∧ tT Y d 45 0 [.ref r0, .int x1] [] s (fun r s1 => tT Y (d + 1) 49 5 [.ref r0, .int x1] ((r.map Value.int).toList ++ []) s1 K))) : tT Y (d + 1) 49 0 [.ref r0, .int x1] [] s K :=
  (tt_aload (p_49_0 _ _) rfl).mpr ((tt_iload (p_49_1 _ _) rfl).mpr (t2_callv (z := 45) (k := 2) (i := r0) (as := [.int x1]) (rest := []) (p_49_2 _ _) mK_45 mL_45 rfl rfl (Nat.le_of_ble_eq_true rfl) rfl (Nat.le_of_ble_eq_true rfl) h.1 h.2))
theorem b_49_5 {Y : sY} {d : Nat} {s : sT} {K : Option Int32 → sT → Prop} {r0 : Nat} {x1 : Int32} {t0 : Int32} (h : (if t0 = 0 then K (some (-1 : Int32)) s else (∃ a2, (isO Y r0 5 ∧ s.2 r0 2 = some a2) ∧ (∃ m4, (isA Y a2 0 m4 ∧ inR x1 m4) ∧ (isO Y r0 5 ∧ tT Y d 57 0 [.ref r0, .int x1] [] s (fun r s1 => tT Y (d + 1) 49 19 [.ref r0, .int x1] ((r.map Value.int).toList ++ [.int (s.1 a2 (x1).toNatClampNeg)]) s1 K)))))) : tT Y (d + 1) 49 5 [.ref r0, .int x1] [.int t0] s K :=
  t3_if (p := t0 = 0) (p_49_5 _ _) rfl (fun g1 => (tt_push (p_49_23 _ _)).mpr (tt_ret1 (p_49_24 _ _) (ifp h g1))) (fun g1 => (tt_aload (p_49_8 _ _) rfl).mpr (Exists.elim (ifn h g1) (fun a2 h3 => t3_getr (p_49_9 _ _) (isI_5_2) h3.1.1 h3.1.2 ((tt_iload (p_49_12 _ _) rfl).mpr (Exists.elim h3.2 (fun m4 h5 => t3_ald (p_49_13 _ _) h5.1.1 h5.1.2 ((tt_aload (p_49_14 _ _) rfl).mpr ((tt_iload (p_49_15 _ _) rfl).mpr (t2_callv (z := 57) (k := 2) (i := r0) (as := [.int x1]) (rest := [.int (s.1 a2 (x1).toNatClampNeg)]) (p_49_16 _ _) mK_57 mL_57 rfl rfl (Nat.le_of_ble_eq_true rfl) rfl (Nat.le_of_ble_eq_true rfl) h5.2.1 h5.2.2)))))))))
theorem b_49_19 {Y : sY} {d : Nat} {s : sT} {K : Option Int32 → sT → Prop} {r0 : Nat} {x1 : Int32} {t0 : Int32} {t1 : Int32} (h : K (some (t0 - t1)) s) : tT Y (d + 1) 49 19 [.ref r0, .int x1] [.int t1, .int t0] s K :=
  (tt_bin (p_49_19 _ _)).mpr ((tt_goto (p_49_20 _ _)).mpr (tt_ret1 (p_49_24 _ _) h))
/-! InclusionProver$Side.termByte.(II)I -/
theorem p_50_0 (L : Nat) (xs : Nat → Int32) : ll_P L xs 50 0 = some (.inl (lo_iload 1 2)) := (P_50 L xs 0).trans rfl
theorem p_50_1 (L : Nat) (xs : Nat → Int32) : ll_P L xs 50 1 = some (.inl (lo_if 30 4 (fun x => decide (x < 0)))) := (P_50 L xs 1).trans rfl
theorem p_50_4 (L : Nat) (xs : Nat → Int32) : ll_P L xs 50 4 = some (.inl (lo_iload 5 2)) := (P_50 L xs 4).trans rfl
theorem p_50_5 (L : Nat) (xs : Nat → Int32) : ll_P L xs 50 5 = some (.inl (lo_aload 6 0)) := (P_50 L xs 5).trans rfl
theorem p_50_6 (L : Nat) (xs : Nat → Int32) : ll_P L xs 50 6 = some (.inl (lo_iload 7 1)) := (P_50 L xs 6).trans rfl
theorem p_50_7 (L : Nat) (xs : Nat → Int32) : ll_P L xs 50 7 = some (.inr (.inl (49, 2, 10))) := (P_50 L xs 7).trans rfl
theorem p_50_10 (L : Nat) (xs : Nat → Int32) : ll_P L xs 50 10 = some (.inl (lo_cmp 30 13 (fun x y => decide (y ≤ x)))) := (P_50 L xs 10).trans rfl
theorem p_50_13 (L : Nat) (xs : Nat → Int32) : ll_P L xs 50 13 = some (.inl (lo_aload 14 0)) := (P_50 L xs 13).trans rfl
theorem p_50_14 (L : Nat) (xs : Nat → Int32) : ll_P L xs 50 14 = some (.inl (lo_getf 17 5 1)) := (P_50 L xs 14).trans rfl
theorem p_50_17 (L : Nat) (xs : Nat → Int32) : ll_P L xs 50 17 = some (.inl (lo_aload 18 0)) := (P_50 L xs 17).trans rfl
theorem p_50_18 (L : Nat) (xs : Nat → Int32) : ll_P L xs 50 18 = some (.inl (lo_iload 19 1)) := (P_50 L xs 18).trans rfl
theorem p_50_19 (L : Nat) (xs : Nat → Int32) : ll_P L xs 50 19 = some (.inr (.inl (57, 2, 22))) := (P_50 L xs 19).trans rfl
theorem p_50_22 (L : Nat) (xs : Nat → Int32) : ll_P L xs 50 22 = some (.inl (lo_iload 23 2)) := (P_50 L xs 22).trans rfl
theorem p_50_23 (L : Nat) (xs : Nat → Int32) : ll_P L xs 50 23 = some (.inl (lo_bin 24 (fun x y => x + y))) := (P_50 L xs 23).trans rfl
theorem p_50_24 (L : Nat) (xs : Nat → Int32) : ll_P L xs 50 24 = some (.inr (.inl (77, 2, 27))) := (P_50 L xs 24).trans rfl
theorem p_50_27 (L : Nat) (xs : Nat → Int32) : ll_P L xs 50 27 = some (.inl (lo_goto 31)) := (P_50 L xs 27).trans rfl
theorem p_50_30 (L : Nat) (xs : Nat → Int32) : ll_P L xs 50 30 = some (.inl (lo_push 31 (.int (-1)))) := (P_50 L xs 30).trans rfl
theorem p_50_31 (L : Nat) (xs : Nat → Int32) : ll_P L xs 50 31 = some (.inr (.inr 1)) := (P_50 L xs 31).trans rfl
theorem b_50_0 {Y : sY} {d : Nat} {s : sT} {K : Option Int32 → sT → Prop} {r0 : Nat} {x1 : Int32} {x2 : Int32} (h : (if x2 < 0 then K (some (-1 : Int32)) s else (isO Y r0 5 ∧ tT Y d 49 0 [.ref r0, .int x1] [] s (fun r s1 => tT Y (d + 1) 50 10 [.ref r0, .int x1, .int x2] ((r.map Value.int).toList ++ [.int x2]) s1 K)))) : tT Y (d + 1) 50 0 [.ref r0, .int x1, .int x2] [] s K :=
  (tt_iload (p_50_0 _ _) rfl).mpr (t3_if (p := x2 < 0) (p_50_1 _ _) rfl (fun g1 => (tt_push (p_50_30 _ _)).mpr (tt_ret1 (p_50_31 _ _) (ifp h g1))) (fun g1 => (tt_iload (p_50_4 _ _) rfl).mpr ((tt_aload (p_50_5 _ _) rfl).mpr ((tt_iload (p_50_6 _ _) rfl).mpr (t2_callv (z := 49) (k := 2) (i := r0) (as := [.int x1]) (rest := [.int x2]) (p_50_7 _ _) mK_49 mL_49 rfl rfl (Nat.le_of_ble_eq_true rfl) rfl (Nat.le_of_ble_eq_true rfl) (ifn h g1).1 (ifn h g1).2)))))
theorem b_50_10 {Y : sY} {d : Nat} {s : sT} {K : Option Int32 → sT → Prop} {r0 : Nat} {x1 : Int32} {x2 : Int32} {t0 : Int32} {t1 : Int32} (h : (if t1 ≤ t0 then K (some (-1 : Int32)) s else (∃ a2, (isO Y r0 5 ∧ s.2 r0 1 = some a2) ∧ (isO Y r0 5 ∧ tT Y d 57 0 [.ref r0, .int x1] [] s (fun r s1 => tT Y (d + 1) 50 22 [.ref r0, .int x1, .int x2] ((r.map Value.int).toList ++ [.ref a2]) s1 K))))) : tT Y (d + 1) 50 10 [.ref r0, .int x1, .int x2] [.int t1, .int t0] s K :=
  t3_cmp (p := t1 ≤ t0) (p_50_10 _ _) rfl (fun g1 => (tt_push (p_50_30 _ _)).mpr (tt_ret1 (p_50_31 _ _) (ifp h g1))) (fun g1 => (tt_aload (p_50_13 _ _) rfl).mpr (Exists.elim (ifn h g1) (fun a2 h3 => t3_getr (p_50_14 _ _) (isI_5_1) h3.1.1 h3.1.2 ((tt_aload (p_50_17 _ _) rfl).mpr ((tt_iload (p_50_18 _ _) rfl).mpr (t2_callv (z := 57) (k := 2) (i := r0) (as := [.int x1]) (rest := [.ref a2]) (p_50_19 _ _) mK_57 mL_57 rfl rfl (Nat.le_of_ble_eq_true rfl) rfl (Nat.le_of_ble_eq_true rfl) h3.2.1 h3.2.2))))))
theorem b_50_22 {Y : sY} {d : Nat} {s : sT} {K : Option Int32 → sT → Prop} {r0 : Nat} {x1 : Int32} {x2 : Int32} {t0 : Nat} {t1 : Int32} (h : (isO Y t0 7 ∧ tT Y d 77 0 [.ref t0, .int (t1 + x2)] [] s (fun r s1 => tT Y (d + 1) 50 27 [.ref r0, .int x1, .int x2] ((r.map Value.int).toList ++ []) s1 K))) : tT Y (d + 1) 50 22 [.ref r0, .int x1, .int x2] [.int t1, .ref t0] s K :=
  (tt_iload (p_50_22 _ _) rfl).mpr ((tt_bin (p_50_23 _ _)).mpr (t2_callv (z := 77) (k := 2) (i := t0) (as := [.int (t1 + x2)]) (rest := []) (p_50_24 _ _) mK_77 mL_77 rfl rfl (Nat.le_of_ble_eq_true rfl) rfl (Nat.le_of_ble_eq_true rfl) h.1 h.2))
theorem b_50_27 {Y : sY} {d : Nat} {s : sT} {K : Option Int32 → sT → Prop} {r0 : Nat} {x1 : Int32} {x2 : Int32} {t0 : Int32} (h : K (some t0) s) : tT Y (d + 1) 50 27 [.ref r0, .int x1, .int x2] [.int t0] s K :=
  (tt_goto (p_50_27 _ _)).mpr (tt_ret1 (p_50_31 _ _) h)
/-! InclusionProver$Side.partSet.(II)I -/
theorem p_51_0 (L : Nat) (xs : Nat → Int32) : ll_P L xs 51 0 = some (.inl (lo_aload 1 0)) := (P_51 L xs 0).trans rfl
theorem p_51_1 (L : Nat) (xs : Nat → Int32) : ll_P L xs 51 1 = some (.inl (lo_iload 2 1)) := (P_51 L xs 1).trans rfl
theorem p_51_2 (L : Nat) (xs : Nat → Int32) : ll_P L xs 51 2 = some (.inr (.inl (45, 2, 5))) := (P_51 L xs 2).trans rfl
theorem p_51_5 (L : Nat) (xs : Nat → Int32) : ll_P L xs 51 5 = some (.inl (lo_if 28 8 (fun x => decide (x = 0)))) := (P_51 L xs 5).trans rfl
theorem p_51_8 (L : Nat) (xs : Nat → Int32) : ll_P L xs 51 8 = some (.inl (lo_iload 9 2)) := (P_51 L xs 8).trans rfl
theorem p_51_9 (L : Nat) (xs : Nat → Int32) : ll_P L xs 51 9 = some (.inr (.inl (56, 1, 12))) := (P_51 L xs 9).trans rfl
theorem p_51_12 (L : Nat) (xs : Nat → Int32) : ll_P L xs 51 12 = some (.inl (lo_if 28 15 (fun x => decide (x = 0)))) := (P_51 L xs 12).trans rfl
theorem p_51_15 (L : Nat) (xs : Nat → Int32) : ll_P L xs 51 15 = some (.inl (lo_aload 16 0)) := (P_51 L xs 15).trans rfl
theorem p_51_16 (L : Nat) (xs : Nat → Int32) : ll_P L xs 51 16 = some (.inl (lo_getf 19 5 3)) := (P_51 L xs 16).trans rfl
theorem p_51_19 (L : Nat) (xs : Nat → Int32) : ll_P L xs 51 19 = some (.inl (lo_iload 20 1)) := (P_51 L xs 19).trans rfl
theorem p_51_20 (L : Nat) (xs : Nat → Int32) : ll_P L xs 51 20 = some (.inl (lo_push 21 (.int 3))) := (P_51 L xs 20).trans rfl
theorem p_51_21 (L : Nat) (xs : Nat → Int32) : ll_P L xs 51 21 = some (.inl (lo_bin 22 (fun x y => x * y))) := (P_51 L xs 21).trans rfl
theorem p_51_22 (L : Nat) (xs : Nat → Int32) : ll_P L xs 51 22 = some (.inl (lo_iload 23 2)) := (P_51 L xs 22).trans rfl
theorem p_51_23 (L : Nat) (xs : Nat → Int32) : ll_P L xs 51 23 = some (.inl (lo_bin 24 (fun x y => x + y))) := (P_51 L xs 23).trans rfl
theorem p_51_24 (L : Nat) (xs : Nat → Int32) : ll_P L xs 51 24 = some (.inl (lo_ald 25 0)) := (P_51 L xs 24).trans rfl
theorem p_51_25 (L : Nat) (xs : Nat → Int32) : ll_P L xs 51 25 = some (.inl (lo_goto 29)) := (P_51 L xs 25).trans rfl
theorem p_51_28 (L : Nat) (xs : Nat → Int32) : ll_P L xs 51 28 = some (.inl (lo_push 29 (.int 0))) := (P_51 L xs 28).trans rfl
theorem p_51_29 (L : Nat) (xs : Nat → Int32) : ll_P L xs 51 29 = some (.inr (.inr 1)) := (P_51 L xs 29).trans rfl
theorem b_51_0 {Y : sY} {d : Nat} {s : sT} {K : Option Int32 → sT → Prop} {r0 : Nat} {x1 : Int32} {x2 : Int32} (h : (isO Y r0 5 ∧ tT Y d 45 0 [.ref r0, .int x1] [] s (fun r s1 => tT Y (d + 1) 51 5 [.ref r0, .int x1, .int x2] ((r.map Value.int).toList ++ []) s1 K))) : tT Y (d + 1) 51 0 [.ref r0, .int x1, .int x2] [] s K :=
  (tt_aload (p_51_0 _ _) rfl).mpr ((tt_iload (p_51_1 _ _) rfl).mpr (t2_callv (z := 45) (k := 2) (i := r0) (as := [.int x1]) (rest := []) (p_51_2 _ _) mK_45 mL_45 rfl rfl (Nat.le_of_ble_eq_true rfl) rfl (Nat.le_of_ble_eq_true rfl) h.1 h.2))
theorem b_51_5 {Y : sY} {d : Nat} {s : sT} {K : Option Int32 → sT → Prop} {r0 : Nat} {x1 : Int32} {x2 : Int32} {t0 : Int32} (h : (if t0 = 0 then K (some (0 : Int32)) s else tT Y d 56 0 [.int x2] [] s (fun r s1 => tT Y (d + 1) 51 12 [.ref r0, .int x1, .int x2] ((r.map Value.int).toList ++ []) s1 K))) : tT Y (d + 1) 51 5 [.ref r0, .int x1, .int x2] [.int t0] s K :=
  t3_if (p := t0 = 0) (p_51_5 _ _) rfl (fun g1 => (tt_push (p_51_28 _ _)).mpr (tt_ret1 (p_51_29 _ _) (ifp h g1))) (fun g1 => (tt_iload (p_51_8 _ _) rfl).mpr (t2_calls (z := 56) (k := 1) (as := [.int x2]) (rest := []) (p_51_9 _ _) mK_56 mL_56 rfl rfl (Nat.le_of_ble_eq_true rfl) rfl (Nat.le_of_ble_eq_true rfl) (ifn h g1)))
theorem b_51_12 {Y : sY} {d : Nat} {s : sT} {K : Option Int32 → sT → Prop} {r0 : Nat} {x1 : Int32} {x2 : Int32} {t0 : Int32} (h : (if t0 = 0 then K (some (0 : Int32)) s else (∃ a2, (isO Y r0 5 ∧ s.2 r0 3 = some a2) ∧ (∃ m4, (isA Y a2 0 m4 ∧ inR ((x1 * (3 : Int32)) + x2) m4) ∧ K (some (s.1 a2 (((x1 * (3 : Int32)) + x2)).toNatClampNeg)) s)))) : tT Y (d + 1) 51 12 [.ref r0, .int x1, .int x2] [.int t0] s K :=
  t3_if (p := t0 = 0) (p_51_12 _ _) rfl (fun g1 => (tt_push (p_51_28 _ _)).mpr (tt_ret1 (p_51_29 _ _) (ifp h g1))) (fun g1 => (tt_aload (p_51_15 _ _) rfl).mpr (Exists.elim (ifn h g1) (fun a2 h3 => t3_getr (p_51_16 _ _) (isI_5_3) h3.1.1 h3.1.2 ((tt_iload (p_51_19 _ _) rfl).mpr ((tt_push (p_51_20 _ _)).mpr ((tt_bin (p_51_21 _ _)).mpr ((tt_iload (p_51_22 _ _) rfl).mpr ((tt_bin (p_51_23 _ _)).mpr (Exists.elim h3.2 (fun m4 h5 => t3_ald (p_51_24 _ _) h5.1.1 h5.1.2 ((tt_goto (p_51_25 _ _)).mpr (tt_ret1 (p_51_29 _ _) h5.2))))))))))))
/-! InclusionProver$Side.partsOf.(II)I -/
theorem p_52_0 (L : Nat) (xs : Nat → Int32) : ll_P L xs 52 0 = some (.inl (lo_aload 1 0)) := (P_52 L xs 0).trans rfl
theorem p_52_1 (L : Nat) (xs : Nat → Int32) : ll_P L xs 52 1 = some (.inl (lo_iload 2 1)) := (P_52 L xs 1).trans rfl
theorem p_52_2 (L : Nat) (xs : Nat → Int32) : ll_P L xs 52 2 = some (.inr (.inl (45, 2, 5))) := (P_52 L xs 2).trans rfl
theorem p_52_5 (L : Nat) (xs : Nat → Int32) : ll_P L xs 52 5 = some (.inl (lo_if 15 8 (fun x => decide (x = 0)))) := (P_52 L xs 5).trans rfl
theorem p_52_8 (L : Nat) (xs : Nat → Int32) : ll_P L xs 52 8 = some (.inl (lo_iload 9 2)) := (P_52 L xs 8).trans rfl
theorem p_52_9 (L : Nat) (xs : Nat → Int32) : ll_P L xs 52 9 = some (.inr (.inl (56, 1, 12))) := (P_52 L xs 9).trans rfl
theorem p_52_12 (L : Nat) (xs : Nat → Int32) : ll_P L xs 52 12 = some (.inl (lo_if 17 15 (fun x => decide (¬ x = 0)))) := (P_52 L xs 12).trans rfl
theorem p_52_15 (L : Nat) (xs : Nat → Int32) : ll_P L xs 52 15 = some (.inl (lo_push 16 (.int 0))) := (P_52 L xs 15).trans rfl
theorem p_52_16 (L : Nat) (xs : Nat → Int32) : ll_P L xs 52 16 = some (.inr (.inr 1)) := (P_52 L xs 16).trans rfl
theorem p_52_17 (L : Nat) (xs : Nat → Int32) : ll_P L xs 52 17 = some (.inl (lo_iload 18 1)) := (P_52 L xs 17).trans rfl
theorem p_52_18 (L : Nat) (xs : Nat → Int32) : ll_P L xs 52 18 = some (.inl (lo_push 19 (.int 3))) := (P_52 L xs 18).trans rfl
theorem p_52_19 (L : Nat) (xs : Nat → Int32) : ll_P L xs 52 19 = some (.inl (lo_bin 20 (fun x y => x * y))) := (P_52 L xs 19).trans rfl
theorem p_52_20 (L : Nat) (xs : Nat → Int32) : ll_P L xs 52 20 = some (.inl (lo_iload 21 2)) := (P_52 L xs 20).trans rfl
theorem p_52_21 (L : Nat) (xs : Nat → Int32) : ll_P L xs 52 21 = some (.inl (lo_bin 22 (fun x y => x + y))) := (P_52 L xs 21).trans rfl
theorem p_52_22 (L : Nat) (xs : Nat → Int32) : ll_P L xs 52 22 = some (.inl (lo_istore 23 3)) := (P_52 L xs 22).trans rfl
theorem p_52_23 (L : Nat) (xs : Nat → Int32) : ll_P L xs 52 23 = some (.inl (lo_aload 24 0)) := (P_52 L xs 23).trans rfl
theorem p_52_24 (L : Nat) (xs : Nat → Int32) : ll_P L xs 52 24 = some (.inl (lo_getf 27 5 4)) := (P_52 L xs 24).trans rfl
theorem p_52_27 (L : Nat) (xs : Nat → Int32) : ll_P L xs 52 27 = some (.inl (lo_iload 28 3)) := (P_52 L xs 27).trans rfl
theorem p_52_28 (L : Nat) (xs : Nat → Int32) : ll_P L xs 52 28 = some (.inl (lo_push 29 (.int 1))) := (P_52 L xs 28).trans rfl
theorem p_52_29 (L : Nat) (xs : Nat → Int32) : ll_P L xs 52 29 = some (.inl (lo_bin 30 (fun x y => x + y))) := (P_52 L xs 29).trans rfl
theorem p_52_30 (L : Nat) (xs : Nat → Int32) : ll_P L xs 52 30 = some (.inl (lo_ald 31 0)) := (P_52 L xs 30).trans rfl
theorem p_52_31 (L : Nat) (xs : Nat → Int32) : ll_P L xs 52 31 = some (.inl (lo_aload 32 0)) := (P_52 L xs 31).trans rfl
theorem p_52_32 (L : Nat) (xs : Nat → Int32) : ll_P L xs 52 32 = some (.inl (lo_getf 35 5 4)) := (P_52 L xs 32).trans rfl
theorem p_52_35 (L : Nat) (xs : Nat → Int32) : ll_P L xs 52 35 = some (.inl (lo_iload 36 3)) := (P_52 L xs 35).trans rfl
theorem p_52_36 (L : Nat) (xs : Nat → Int32) : ll_P L xs 52 36 = some (.inl (lo_ald 37 0)) := (P_52 L xs 36).trans rfl
theorem p_52_37 (L : Nat) (xs : Nat → Int32) : ll_P L xs 52 37 = some (.inl (lo_bin 38 (fun x y => x - y))) := (P_52 L xs 37).trans rfl
theorem p_52_38 (L : Nat) (xs : Nat → Int32) : ll_P L xs 52 38 = some (.inr (.inr 1)) := (P_52 L xs 38).trans rfl
theorem b_52_0 {Y : sY} {d : Nat} {s : sT} {K : Option Int32 → sT → Prop} {r0 : Nat} {x1 : Int32} {x2 : Int32} (h : (isO Y r0 5 ∧ tT Y d 45 0 [.ref r0, .int x1] [] s (fun r s1 => tT Y (d + 1) 52 5 [.ref r0, .int x1, .int x2, .null] ((r.map Value.int).toList ++ []) s1 K))) : tT Y (d + 1) 52 0 [.ref r0, .int x1, .int x2, .null] [] s K :=
  (tt_aload (p_52_0 _ _) rfl).mpr ((tt_iload (p_52_1 _ _) rfl).mpr (t2_callv (z := 45) (k := 2) (i := r0) (as := [.int x1]) (rest := []) (p_52_2 _ _) mK_45 mL_45 rfl rfl (Nat.le_of_ble_eq_true rfl) rfl (Nat.le_of_ble_eq_true rfl) h.1 h.2))
theorem b_52_5 {Y : sY} {d : Nat} {s : sT} {K : Option Int32 → sT → Prop} {r0 : Nat} {x1 : Int32} {x2 : Int32} {t0 : Int32} (h : (if t0 = 0 then K (some (0 : Int32)) s else tT Y d 56 0 [.int x2] [] s (fun r s1 => tT Y (d + 1) 52 12 [.ref r0, .int x1, .int x2, .null] ((r.map Value.int).toList ++ []) s1 K))) : tT Y (d + 1) 52 5 [.ref r0, .int x1, .int x2, .null] [.int t0] s K :=
  t3_if (p := t0 = 0) (p_52_5 _ _) rfl (fun g1 => (tt_push (p_52_15 _ _)).mpr (tt_ret1 (p_52_16 _ _) (ifp h g1))) (fun g1 => (tt_iload (p_52_8 _ _) rfl).mpr (t2_calls (z := 56) (k := 1) (as := [.int x2]) (rest := []) (p_52_9 _ _) mK_56 mL_56 rfl rfl (Nat.le_of_ble_eq_true rfl) rfl (Nat.le_of_ble_eq_true rfl) (ifn h g1)))
theorem b_52_12 {Y : sY} {d : Nat} {s : sT} {K : Option Int32 → sT → Prop} {r0 : Nat} {x1 : Int32} {x2 : Int32} {t0 : Int32} (h : (if ¬ t0 = 0 then (∃ a2, (isO Y r0 5 ∧ s.2 r0 4 = some a2) ∧ (∃ m4, (isA Y a2 0 m4 ∧ inR (((x1 * (3 : Int32)) + x2) + (1 : Int32)) m4) ∧ (∃ a6, (isO Y r0 5 ∧ s.2 r0 4 = some a6) ∧ (∃ m8, (isA Y a6 0 m8 ∧ inR ((x1 * (3 : Int32)) + x2) m8) ∧ K (some ((s.1 a2 ((((x1 * (3 : Int32)) + x2) + (1 : Int32))).toNatClampNeg) - (s.1 a6 (((x1 * (3 : Int32)) + x2)).toNatClampNeg))) s)))) else K (some (0 : Int32)) s)) : tT Y (d + 1) 52 12 [.ref r0, .int x1, .int x2, .null] [.int t0] s K :=
  t3_if (p := ¬ t0 = 0) (p_52_12 _ _) rfl (fun g1 => (tt_iload (p_52_17 _ _) rfl).mpr ((tt_push (p_52_18 _ _)).mpr ((tt_bin (p_52_19 _ _)).mpr ((tt_iload (p_52_20 _ _) rfl).mpr ((tt_bin (p_52_21 _ _)).mpr ((tt_istore (p_52_22 _ _) (Nat.le_of_ble_eq_true rfl) rfl rfl).mpr ((tt_aload (p_52_23 _ _) rfl).mpr (Exists.elim (ifp h g1) (fun a2 h3 => t3_getr (p_52_24 _ _) (isI_5_4) h3.1.1 h3.1.2 ((tt_iload (p_52_27 _ _) rfl).mpr ((tt_push (p_52_28 _ _)).mpr ((tt_bin (p_52_29 _ _)).mpr (Exists.elim h3.2 (fun m4 h5 => t3_ald (p_52_30 _ _) h5.1.1 h5.1.2 ((tt_aload (p_52_31 _ _) rfl).mpr (Exists.elim h5.2 (fun a6 h7 => t3_getr (p_52_32 _ _) (isI_5_4) h7.1.1 h7.1.2 ((tt_iload (p_52_35 _ _) rfl).mpr (Exists.elim h7.2 (fun m8 h9 => t3_ald (p_52_36 _ _) h9.1.1 h9.1.2 ((tt_bin (p_52_37 _ _)).mpr (tt_ret1 (p_52_38 _ _) h9.2)))))))))))))))))))))) (fun g1 => (tt_push (p_52_15 _ _)).mpr (tt_ret1 (p_52_16 _ _) (ifn h g1)))
/-! InclusionProver$Side.partOf.(III)I -/
theorem p_53_0 (L : Nat) (xs : Nat → Int32) : ll_P L xs 53 0 = some (.inl (lo_iload 1 3)) := (P_53 L xs 0).trans rfl
theorem p_53_1 (L : Nat) (xs : Nat → Int32) : ll_P L xs 53 1 = some (.inl (lo_if 34 4 (fun x => decide (x < 0)))) := (P_53 L xs 1).trans rfl
theorem p_53_4 (L : Nat) (xs : Nat → Int32) : ll_P L xs 53 4 = some (.inl (lo_iload 5 3)) := (P_53 L xs 4).trans rfl
theorem p_53_5 (L : Nat) (xs : Nat → Int32) : ll_P L xs 53 5 = some (.inl (lo_aload 6 0)) := (P_53 L xs 5).trans rfl
theorem p_53_6 (L : Nat) (xs : Nat → Int32) : ll_P L xs 53 6 = some (.inl (lo_iload 7 1)) := (P_53 L xs 6).trans rfl
theorem p_53_7 (L : Nat) (xs : Nat → Int32) : ll_P L xs 53 7 = some (.inl (lo_iload 8 2)) := (P_53 L xs 7).trans rfl
theorem p_53_8 (L : Nat) (xs : Nat → Int32) : ll_P L xs 53 8 = some (.inr (.inl (52, 3, 11))) := (P_53 L xs 8).trans rfl
theorem p_53_11 (L : Nat) (xs : Nat → Int32) : ll_P L xs 53 11 = some (.inl (lo_cmp 34 14 (fun x y => decide (y ≤ x)))) := (P_53 L xs 11).trans rfl
theorem p_53_14 (L : Nat) (xs : Nat → Int32) : ll_P L xs 53 14 = some (.inl (lo_aload 15 0)) := (P_53 L xs 14).trans rfl
theorem p_53_15 (L : Nat) (xs : Nat → Int32) : ll_P L xs 53 15 = some (.inl (lo_getf 18 5 5)) := (P_53 L xs 15).trans rfl
theorem p_53_18 (L : Nat) (xs : Nat → Int32) : ll_P L xs 53 18 = some (.inl (lo_aload 19 0)) := (P_53 L xs 18).trans rfl
theorem p_53_19 (L : Nat) (xs : Nat → Int32) : ll_P L xs 53 19 = some (.inl (lo_getf 22 5 4)) := (P_53 L xs 19).trans rfl
theorem p_53_22 (L : Nat) (xs : Nat → Int32) : ll_P L xs 53 22 = some (.inl (lo_iload 23 1)) := (P_53 L xs 22).trans rfl
theorem p_53_23 (L : Nat) (xs : Nat → Int32) : ll_P L xs 53 23 = some (.inl (lo_push 24 (.int 3))) := (P_53 L xs 23).trans rfl
theorem p_53_24 (L : Nat) (xs : Nat → Int32) : ll_P L xs 53 24 = some (.inl (lo_bin 25 (fun x y => x * y))) := (P_53 L xs 24).trans rfl
theorem p_53_25 (L : Nat) (xs : Nat → Int32) : ll_P L xs 53 25 = some (.inl (lo_iload 26 2)) := (P_53 L xs 25).trans rfl
theorem p_53_26 (L : Nat) (xs : Nat → Int32) : ll_P L xs 53 26 = some (.inl (lo_bin 27 (fun x y => x + y))) := (P_53 L xs 26).trans rfl
theorem p_53_27 (L : Nat) (xs : Nat → Int32) : ll_P L xs 53 27 = some (.inl (lo_ald 28 0)) := (P_53 L xs 27).trans rfl
theorem p_53_28 (L : Nat) (xs : Nat → Int32) : ll_P L xs 53 28 = some (.inl (lo_iload 29 3)) := (P_53 L xs 28).trans rfl
theorem p_53_29 (L : Nat) (xs : Nat → Int32) : ll_P L xs 53 29 = some (.inl (lo_bin 30 (fun x y => x + y))) := (P_53 L xs 29).trans rfl
theorem p_53_30 (L : Nat) (xs : Nat → Int32) : ll_P L xs 53 30 = some (.inl (lo_ald 31 0)) := (P_53 L xs 30).trans rfl
theorem p_53_31 (L : Nat) (xs : Nat → Int32) : ll_P L xs 53 31 = some (.inl (lo_goto 35)) := (P_53 L xs 31).trans rfl
theorem p_53_34 (L : Nat) (xs : Nat → Int32) : ll_P L xs 53 34 = some (.inl (lo_push 35 (.int (-1)))) := (P_53 L xs 34).trans rfl
theorem p_53_35 (L : Nat) (xs : Nat → Int32) : ll_P L xs 53 35 = some (.inr (.inr 1)) := (P_53 L xs 35).trans rfl
theorem b_53_0 {Y : sY} {d : Nat} {s : sT} {K : Option Int32 → sT → Prop} {r0 : Nat} {x1 : Int32} {x2 : Int32} {x3 : Int32} (h : (if x3 < 0 then K (some (-1 : Int32)) s else (isO Y r0 5 ∧ tT Y d 52 0 [.ref r0, .int x1, .int x2, .null] [] s (fun r s1 => tT Y (d + 1) 53 11 [.ref r0, .int x1, .int x2, .int x3] ((r.map Value.int).toList ++ [.int x3]) s1 K)))) : tT Y (d + 1) 53 0 [.ref r0, .int x1, .int x2, .int x3] [] s K :=
  (tt_iload (p_53_0 _ _) rfl).mpr (t3_if (p := x3 < 0) (p_53_1 _ _) rfl (fun g1 => (tt_push (p_53_34 _ _)).mpr (tt_ret1 (p_53_35 _ _) (ifp h g1))) (fun g1 => (tt_iload (p_53_4 _ _) rfl).mpr ((tt_aload (p_53_5 _ _) rfl).mpr ((tt_iload (p_53_6 _ _) rfl).mpr ((tt_iload (p_53_7 _ _) rfl).mpr (t2_callv (z := 52) (k := 3) (i := r0) (as := [.int x1, .int x2]) (rest := [.int x3]) (p_53_8 _ _) mK_52 mL_52 rfl rfl (Nat.le_of_ble_eq_true rfl) rfl (Nat.le_of_ble_eq_true rfl) (ifn h g1).1 (ifn h g1).2))))))
theorem b_53_11 {Y : sY} {d : Nat} {s : sT} {K : Option Int32 → sT → Prop} {r0 : Nat} {x1 : Int32} {x2 : Int32} {x3 : Int32} {t0 : Int32} {t1 : Int32} (h : (if t1 ≤ t0 then K (some (-1 : Int32)) s else (∃ a2, (isO Y r0 5 ∧ s.2 r0 5 = some a2) ∧ (∃ a4, (isO Y r0 5 ∧ s.2 r0 4 = some a4) ∧ (∃ m6, (isA Y a4 0 m6 ∧ inR ((x1 * (3 : Int32)) + x2) m6) ∧ (∃ m8, (isA Y a2 0 m8 ∧ inR ((s.1 a4 (((x1 * (3 : Int32)) + x2)).toNatClampNeg) + x3) m8) ∧ K (some (s.1 a2 (((s.1 a4 (((x1 * (3 : Int32)) + x2)).toNatClampNeg) + x3)).toNatClampNeg)) s)))))) : tT Y (d + 1) 53 11 [.ref r0, .int x1, .int x2, .int x3] [.int t1, .int t0] s K :=
  t3_cmp (p := t1 ≤ t0) (p_53_11 _ _) rfl (fun g1 => (tt_push (p_53_34 _ _)).mpr (tt_ret1 (p_53_35 _ _) (ifp h g1))) (fun g1 => (tt_aload (p_53_14 _ _) rfl).mpr (Exists.elim (ifn h g1) (fun a2 h3 => t3_getr (p_53_15 _ _) (isI_5_5) h3.1.1 h3.1.2 ((tt_aload (p_53_18 _ _) rfl).mpr (Exists.elim h3.2 (fun a4 h5 => t3_getr (p_53_19 _ _) (isI_5_4) h5.1.1 h5.1.2 ((tt_iload (p_53_22 _ _) rfl).mpr ((tt_push (p_53_23 _ _)).mpr ((tt_bin (p_53_24 _ _)).mpr ((tt_iload (p_53_25 _ _) rfl).mpr ((tt_bin (p_53_26 _ _)).mpr (Exists.elim h5.2 (fun m6 h7 => t3_ald (p_53_27 _ _) h7.1.1 h7.1.2 ((tt_iload (p_53_28 _ _) rfl).mpr ((tt_bin (p_53_29 _ _)).mpr (Exists.elim h7.2 (fun m8 h9 => t3_ald (p_53_30 _ _) h9.1.1 h9.1.2 ((tt_goto (p_53_31 _ _)).mpr (tt_ret1 (p_53_35 _ _) h9.2)))))))))))))))))))
/-! InclusionProver$Side.partsOfSet.(II)I -/
theorem p_54_0 (L : Nat) (xs : Nat → Int32) : ll_P L xs 54 0 = some (.inl (lo_push 1 (.int 0))) := (P_54 L xs 0).trans rfl
theorem p_54_1 (L : Nat) (xs : Nat → Int32) : ll_P L xs 54 1 = some (.inl (lo_istore 2 3)) := (P_54 L xs 1).trans rfl
theorem p_54_2 (L : Nat) (xs : Nat → Int32) : ll_P L xs 54 2 = some (.inl (lo_iload 3 1)) := (P_54 L xs 2).trans rfl
theorem p_54_3 (L : Nat) (xs : Nat → Int32) : ll_P L xs 54 3 = some (.inl (lo_if 13 6 (fun x => decide (x = 0)))) := (P_54 L xs 3).trans rfl
theorem p_54_6 (L : Nat) (xs : Nat → Int32) : ll_P L xs 54 6 = some (.inl (lo_iload 7 2)) := (P_54 L xs 6).trans rfl
theorem p_54_7 (L : Nat) (xs : Nat → Int32) : ll_P L xs 54 7 = some (.inr (.inl (56, 1, 10))) := (P_54 L xs 7).trans rfl
theorem p_54_10 (L : Nat) (xs : Nat → Int32) : ll_P L xs 54 10 = some (.inl (lo_if 15 13 (fun x => decide (¬ x = 0)))) := (P_54 L xs 10).trans rfl
theorem p_54_13 (L : Nat) (xs : Nat → Int32) : ll_P L xs 54 13 = some (.inl (lo_iload 14 3)) := (P_54 L xs 13).trans rfl
theorem p_54_14 (L : Nat) (xs : Nat → Int32) : ll_P L xs 54 14 = some (.inr (.inr 1)) := (P_54 L xs 14).trans rfl
theorem p_54_15 (L : Nat) (xs : Nat → Int32) : ll_P L xs 54 15 = some (.inl (lo_push 16 (.int 0))) := (P_54 L xs 15).trans rfl
theorem p_54_16 (L : Nat) (xs : Nat → Int32) : ll_P L xs 54 16 = some (.inl (lo_istore 18 4)) := (P_54 L xs 16).trans rfl
theorem p_54_18 (L : Nat) (xs : Nat → Int32) : ll_P L xs 54 18 = some (.inl (lo_iload 20 4)) := (P_54 L xs 18).trans rfl
theorem p_54_20 (L : Nat) (xs : Nat → Int32) : ll_P L xs 54 20 = some (.inl (lo_aload 21 0)) := (P_54 L xs 20).trans rfl
theorem p_54_21 (L : Nat) (xs : Nat → Int32) : ll_P L xs 54 21 = some (.inl (lo_getf 24 5 6)) := (P_54 L xs 21).trans rfl
theorem p_54_24 (L : Nat) (xs : Nat → Int32) : ll_P L xs 54 24 = some (.inl (lo_cmp 56 27 (fun x y => decide (y ≤ x)))) := (P_54 L xs 24).trans rfl
theorem p_54_27 (L : Nat) (xs : Nat → Int32) : ll_P L xs 54 27 = some (.inl (lo_iload 28 1)) := (P_54 L xs 27).trans rfl
theorem p_54_28 (L : Nat) (xs : Nat → Int32) : ll_P L xs 54 28 = some (.inl (lo_iload 30 4)) := (P_54 L xs 28).trans rfl
theorem p_54_30 (L : Nat) (xs : Nat → Int32) : ll_P L xs 54 30 = some (.inl (lo_bin 31 (fun x y => x >>> (y &&& 31)))) := (P_54 L xs 30).trans rfl
theorem p_54_31 (L : Nat) (xs : Nat → Int32) : ll_P L xs 54 31 = some (.inl (lo_push 32 (.int 1))) := (P_54 L xs 31).trans rfl
theorem p_54_32 (L : Nat) (xs : Nat → Int32) : ll_P L xs 54 32 = some (.inl (lo_bin 33 (fun x y => x &&& y))) := (P_54 L xs 32).trans rfl
theorem p_54_33 (L : Nat) (xs : Nat → Int32) : ll_P L xs 54 33 = some (.inl (lo_if 50 36 (fun x => decide (x = 0)))) := (P_54 L xs 33).trans rfl
theorem p_54_36 (L : Nat) (xs : Nat → Int32) : ll_P L xs 54 36 = some (.inl (lo_iload 37 3)) := (P_54 L xs 36).trans rfl
theorem p_54_37 (L : Nat) (xs : Nat → Int32) : ll_P L xs 54 37 = some (.inl (lo_aload 38 0)) := (P_54 L xs 37).trans rfl
theorem p_54_38 (L : Nat) (xs : Nat → Int32) : ll_P L xs 54 38 = some (.inl (lo_getf 41 5 3)) := (P_54 L xs 38).trans rfl
theorem p_54_41 (L : Nat) (xs : Nat → Int32) : ll_P L xs 54 41 = some (.inl (lo_iload 43 4)) := (P_54 L xs 41).trans rfl
theorem p_54_43 (L : Nat) (xs : Nat → Int32) : ll_P L xs 54 43 = some (.inl (lo_push 44 (.int 3))) := (P_54 L xs 43).trans rfl
theorem p_54_44 (L : Nat) (xs : Nat → Int32) : ll_P L xs 54 44 = some (.inl (lo_bin 45 (fun x y => x * y))) := (P_54 L xs 44).trans rfl
theorem p_54_45 (L : Nat) (xs : Nat → Int32) : ll_P L xs 54 45 = some (.inl (lo_iload 46 2)) := (P_54 L xs 45).trans rfl
theorem p_54_46 (L : Nat) (xs : Nat → Int32) : ll_P L xs 54 46 = some (.inl (lo_bin 47 (fun x y => x + y))) := (P_54 L xs 46).trans rfl
theorem p_54_47 (L : Nat) (xs : Nat → Int32) : ll_P L xs 54 47 = some (.inl (lo_ald 48 0)) := (P_54 L xs 47).trans rfl
theorem p_54_48 (L : Nat) (xs : Nat → Int32) : ll_P L xs 54 48 = some (.inl (lo_bin 49 (fun x y => x ||| y))) := (P_54 L xs 48).trans rfl
theorem p_54_49 (L : Nat) (xs : Nat → Int32) : ll_P L xs 54 49 = some (.inl (lo_istore 50 3)) := (P_54 L xs 49).trans rfl
theorem p_54_50 (L : Nat) (xs : Nat → Int32) : ll_P L xs 54 50 = some (.inl (lo_iinc 53 4 1)) := (P_54 L xs 50).trans rfl
theorem p_54_53 (L : Nat) (xs : Nat → Int32) : ll_P L xs 54 53 = some (.inl (lo_goto 18)) := (P_54 L xs 53).trans rfl
theorem p_54_56 (L : Nat) (xs : Nat → Int32) : ll_P L xs 54 56 = some (.inl (lo_iload 57 3)) := (P_54 L xs 56).trans rfl
theorem p_54_57 (L : Nat) (xs : Nat → Int32) : ll_P L xs 54 57 = some (.inr (.inr 1)) := (P_54 L xs 57).trans rfl
theorem b_54_0 {Y : sY} {d : Nat} {s : sT} {K : Option Int32 → sT → Prop} {r0 : Nat} {x1 : Int32} {x2 : Int32} (h : (if x1 = 0 then K (some (0 : Int32)) s else tT Y d 56 0 [.int x2] [] s (fun r s1 => tT Y (d + 1) 54 10 [.ref r0, .int x1, .int x2, .int (0 : Int32), .null] ((r.map Value.int).toList ++ []) s1 K))) : tT Y (d + 1) 54 0 [.ref r0, .int x1, .int x2, .null, .null] [] s K :=
  (tt_push (p_54_0 _ _)).mpr ((tt_istore (p_54_1 _ _) (Nat.le_of_ble_eq_true rfl) rfl rfl).mpr ((tt_iload (p_54_2 _ _) rfl).mpr (t3_if (p := x1 = 0) (p_54_3 _ _) rfl (fun g1 => (tt_iload (p_54_13 _ _) rfl).mpr (tt_ret1 (p_54_14 _ _) (ifp h g1))) (fun g1 => (tt_iload (p_54_6 _ _) rfl).mpr (t2_calls (z := 56) (k := 1) (as := [.int x2]) (rest := []) (p_54_7 _ _) mK_56 mL_56 rfl rfl (Nat.le_of_ble_eq_true rfl) rfl (Nat.le_of_ble_eq_true rfl) (ifn h g1))))))
theorem b_54_10 {Y : sY} {d : Nat} {s : sT} {K : Option Int32 → sT → Prop} {r0 : Nat} {x1 : Int32} {x2 : Int32} {x3 : Int32} {t0 : Int32} (h : (if ¬ t0 = 0 then tT Y (d + 1) 54 18 [.ref r0, .int x1, .int x2, .int x3, .int (0 : Int32)] [] s K else K (some x3) s)) : tT Y (d + 1) 54 10 [.ref r0, .int x1, .int x2, .int x3, .null] [.int t0] s K :=
  t3_if (p := ¬ t0 = 0) (p_54_10 _ _) rfl (fun g1 => (tt_push (p_54_15 _ _)).mpr ((tt_istore (p_54_16 _ _) (Nat.le_of_ble_eq_true rfl) rfl rfl).mpr ((ifp h g1)))) (fun g1 => (tt_iload (p_54_13 _ _) rfl).mpr (tt_ret1 (p_54_14 _ _) (ifn h g1)))
theorem b_54_18 {Y : sY} {d : Nat} {s : sT} {K : Option Int32 → sT → Prop} {r0 : Nat} {x1 : Int32} {x2 : Int32} {x3 : Int32} {x4 : Int32} (h : (isO Y r0 5 ∧ (if (s.1 r0 6) ≤ x4 then K (some x3) s else (if ((x1 >>> (x4 &&& 31)) &&& (1 : Int32)) = 0 then tT Y (d + 1) 54 50 [.ref r0, .int x1, .int x2, .int x3, .int x4] [] s K else (∃ a3, (isO Y r0 5 ∧ s.2 r0 3 = some a3) ∧ (∃ m5, (isA Y a3 0 m5 ∧ inR ((x4 * (3 : Int32)) + x2) m5) ∧ tT Y (d + 1) 54 50 [.ref r0, .int x1, .int x2, .int (x3 ||| (s.1 a3 (((x4 * (3 : Int32)) + x2)).toNatClampNeg)), .int x4] [] s K)))))) : tT Y (d + 1) 54 18 [.ref r0, .int x1, .int x2, .int x3, .int x4] [] s K :=
  (tt_iload (p_54_18 _ _) rfl).mpr ((tt_aload (p_54_20 _ _) rfl).mpr (t3_geti (p_54_21 _ _) (isI_5_6) h.1 (t3_cmp (p := (s.1 r0 6) ≤ x4) (p_54_24 _ _) rfl (fun g1 => (tt_iload (p_54_56 _ _) rfl).mpr (tt_ret1 (p_54_57 _ _) (ifp h.2 g1))) (fun g1 => (tt_iload (p_54_27 _ _) rfl).mpr ((tt_iload (p_54_28 _ _) rfl).mpr ((tt_bin (p_54_30 _ _)).mpr ((tt_push (p_54_31 _ _)).mpr ((tt_bin (p_54_32 _ _)).mpr (t3_if (p := ((x1 >>> (x4 &&& 31)) &&& (1 : Int32)) = 0) (p_54_33 _ _) rfl (fun g2 => (ifp (ifn h.2 g1) g2)) (fun g2 => (tt_iload (p_54_36 _ _) rfl).mpr ((tt_aload (p_54_37 _ _) rfl).mpr (Exists.elim (ifn (ifn h.2 g1) g2) (fun a3 h4 => t3_getr (p_54_38 _ _) (isI_5_3) h4.1.1 h4.1.2 ((tt_iload (p_54_41 _ _) rfl).mpr ((tt_push (p_54_43 _ _)).mpr ((tt_bin (p_54_44 _ _)).mpr ((tt_iload (p_54_45 _ _) rfl).mpr ((tt_bin (p_54_46 _ _)).mpr (Exists.elim h4.2 (fun m5 h6 => t3_ald (p_54_47 _ _) h6.1.1 h6.1.2 ((tt_bin (p_54_48 _ _)).mpr ((tt_istore (p_54_49 _ _) (Nat.le_of_ble_eq_true rfl) rfl rfl).mpr (h6.2)))))))))))))))))))))))
theorem b_54_50 {Y : sY} {d : Nat} {s : sT} {K : Option Int32 → sT → Prop} {r0 : Nat} {x1 : Int32} {x2 : Int32} {x3 : Int32} {x4 : Int32} (h : tT Y (d + 1) 54 18 [.ref r0, .int x1, .int x2, .int x3, .int (x4 + 1)] [] s K) : tT Y (d + 1) 54 50 [.ref r0, .int x1, .int x2, .int x3, .int x4] [] s K :=
  (tt_iinc (p_54_50 _ _) rfl rfl rfl).mpr ((tt_goto (p_54_53 _ _)).mpr (h))
/-! InclusionProver$Side.alikeTerm.(LInclusionProver$Side;I)I -/
theorem p_55_0 (L : Nat) (xs : Nat → Int32) : ll_P L xs 55 0 = some (.inl (lo_aload 1 1)) := (P_55 L xs 0).trans rfl
theorem p_55_1 (L : Nat) (xs : Nat → Int32) : ll_P L xs 55 1 = some (.inl (lo_iload 2 2)) := (P_55 L xs 1).trans rfl
theorem p_55_2 (L : Nat) (xs : Nat → Int32) : ll_P L xs 55 2 = some (.inr (.inl (45, 2, 5))) := (P_55 L xs 2).trans rfl
theorem p_55_5 (L : Nat) (xs : Nat → Int32) : ll_P L xs 55 5 = some (.inl (lo_if 10 8 (fun x => decide (¬ x = 0)))) := (P_55 L xs 5).trans rfl
theorem p_55_8 (L : Nat) (xs : Nat → Int32) : ll_P L xs 55 8 = some (.inl (lo_push 9 (.int (-1)))) := (P_55 L xs 8).trans rfl
theorem p_55_9 (L : Nat) (xs : Nat → Int32) : ll_P L xs 55 9 = some (.inr (.inr 1)) := (P_55 L xs 9).trans rfl
theorem p_55_10 (L : Nat) (xs : Nat → Int32) : ll_P L xs 55 10 = some (.inl (lo_push 11 (.int 0))) := (P_55 L xs 10).trans rfl
theorem p_55_11 (L : Nat) (xs : Nat → Int32) : ll_P L xs 55 11 = some (.inl (lo_istore 12 3)) := (P_55 L xs 11).trans rfl
theorem p_55_12 (L : Nat) (xs : Nat → Int32) : ll_P L xs 55 12 = some (.inl (lo_iload 13 3)) := (P_55 L xs 12).trans rfl
theorem p_55_13 (L : Nat) (xs : Nat → Int32) : ll_P L xs 55 13 = some (.inl (lo_aload 14 0)) := (P_55 L xs 13).trans rfl
theorem p_55_14 (L : Nat) (xs : Nat → Int32) : ll_P L xs 55 14 = some (.inl (lo_getf 17 5 6)) := (P_55 L xs 14).trans rfl
theorem p_55_17 (L : Nat) (xs : Nat → Int32) : ll_P L xs 55 17 = some (.inl (lo_cmp 38 20 (fun x y => decide (y ≤ x)))) := (P_55 L xs 17).trans rfl
theorem p_55_20 (L : Nat) (xs : Nat → Int32) : ll_P L xs 55 20 = some (.inl (lo_aload 21 0)) := (P_55 L xs 20).trans rfl
theorem p_55_21 (L : Nat) (xs : Nat → Int32) : ll_P L xs 55 21 = some (.inl (lo_iload 22 3)) := (P_55 L xs 21).trans rfl
theorem p_55_22 (L : Nat) (xs : Nat → Int32) : ll_P L xs 55 22 = some (.inl (lo_aload 23 1)) := (P_55 L xs 22).trans rfl
theorem p_55_23 (L : Nat) (xs : Nat → Int32) : ll_P L xs 55 23 = some (.inl (lo_iload 24 2)) := (P_55 L xs 23).trans rfl
theorem p_55_24 (L : Nat) (xs : Nat → Int32) : ll_P L xs 55 24 = some (.inr (.inl (58, 4, 27))) := (P_55 L xs 24).trans rfl
theorem p_55_27 (L : Nat) (xs : Nat → Int32) : ll_P L xs 55 27 = some (.inl (lo_if 32 30 (fun x => decide (x = 0)))) := (P_55 L xs 27).trans rfl
theorem p_55_30 (L : Nat) (xs : Nat → Int32) : ll_P L xs 55 30 = some (.inl (lo_iload 31 3)) := (P_55 L xs 30).trans rfl
theorem p_55_31 (L : Nat) (xs : Nat → Int32) : ll_P L xs 55 31 = some (.inr (.inr 1)) := (P_55 L xs 31).trans rfl
theorem p_55_32 (L : Nat) (xs : Nat → Int32) : ll_P L xs 55 32 = some (.inl (lo_iinc 35 3 1)) := (P_55 L xs 32).trans rfl
theorem p_55_35 (L : Nat) (xs : Nat → Int32) : ll_P L xs 55 35 = some (.inl (lo_goto 12)) := (P_55 L xs 35).trans rfl
theorem p_55_38 (L : Nat) (xs : Nat → Int32) : ll_P L xs 55 38 = some (.inl (lo_push 39 (.int (-1)))) := (P_55 L xs 38).trans rfl
theorem p_55_39 (L : Nat) (xs : Nat → Int32) : ll_P L xs 55 39 = some (.inr (.inr 1)) := (P_55 L xs 39).trans rfl
theorem b_55_0 {Y : sY} {d : Nat} {s : sT} {K : Option Int32 → sT → Prop} {r0 : Nat} {r1 : Nat} {x2 : Int32} (h : (isO Y r1 5 ∧ tT Y d 45 0 [.ref r1, .int x2] [] s (fun r s1 => tT Y (d + 1) 55 5 [.ref r0, .ref r1, .int x2, .null] ((r.map Value.int).toList ++ []) s1 K))) : tT Y (d + 1) 55 0 [.ref r0, .ref r1, .int x2, .null] [] s K :=
  (tt_aload (p_55_0 _ _) rfl).mpr ((tt_iload (p_55_1 _ _) rfl).mpr (t2_callv (z := 45) (k := 2) (i := r1) (as := [.int x2]) (rest := []) (p_55_2 _ _) mK_45 mL_45 rfl rfl (Nat.le_of_ble_eq_true rfl) rfl (Nat.le_of_ble_eq_true rfl) h.1 h.2))
theorem b_55_5 {Y : sY} {d : Nat} {s : sT} {K : Option Int32 → sT → Prop} {r0 : Nat} {r1 : Nat} {x2 : Int32} {t0 : Int32} (h : (if ¬ t0 = 0 then tT Y (d + 1) 55 12 [.ref r0, .ref r1, .int x2, .int (0 : Int32)] [] s K else K (some (-1 : Int32)) s)) : tT Y (d + 1) 55 5 [.ref r0, .ref r1, .int x2, .null] [.int t0] s K :=
  t3_if (p := ¬ t0 = 0) (p_55_5 _ _) rfl (fun g1 => (tt_push (p_55_10 _ _)).mpr ((tt_istore (p_55_11 _ _) (Nat.le_of_ble_eq_true rfl) rfl rfl).mpr ((ifp h g1)))) (fun g1 => (tt_push (p_55_8 _ _)).mpr (tt_ret1 (p_55_9 _ _) (ifn h g1)))
theorem b_55_12 {Y : sY} {d : Nat} {s : sT} {K : Option Int32 → sT → Prop} {r0 : Nat} {r1 : Nat} {x2 : Int32} {x3 : Int32} (h : (isO Y r0 5 ∧ (if (s.1 r0 6) ≤ x3 then K (some (-1 : Int32)) s else (isO Y r0 5 ∧ tT Y d 58 0 [.ref r0, .int x3, .ref r1, .int x2, .null, .null, .null, .null] [] s (fun r s1 => tT Y (d + 1) 55 27 [.ref r0, .ref r1, .int x2, .int x3] ((r.map Value.int).toList ++ []) s1 K))))) : tT Y (d + 1) 55 12 [.ref r0, .ref r1, .int x2, .int x3] [] s K :=
  (tt_iload (p_55_12 _ _) rfl).mpr ((tt_aload (p_55_13 _ _) rfl).mpr (t3_geti (p_55_14 _ _) (isI_5_6) h.1 (t3_cmp (p := (s.1 r0 6) ≤ x3) (p_55_17 _ _) rfl (fun g1 => (tt_push (p_55_38 _ _)).mpr (tt_ret1 (p_55_39 _ _) (ifp h.2 g1))) (fun g1 => (tt_aload (p_55_20 _ _) rfl).mpr ((tt_iload (p_55_21 _ _) rfl).mpr ((tt_aload (p_55_22 _ _) rfl).mpr ((tt_iload (p_55_23 _ _) rfl).mpr (t2_callv (z := 58) (k := 4) (i := r0) (as := [.int x3, .ref r1, .int x2]) (rest := []) (p_55_24 _ _) mK_58 mL_58 rfl rfl (Nat.le_of_ble_eq_true rfl) rfl (Nat.le_of_ble_eq_true rfl) (ifn h.2 g1).1 (ifn h.2 g1).2))))))))
theorem b_55_27 {Y : sY} {d : Nat} {s : sT} {K : Option Int32 → sT → Prop} {r0 : Nat} {r1 : Nat} {x2 : Int32} {x3 : Int32} {t0 : Int32} (h : (if t0 = 0 then tT Y (d + 1) 55 12 [.ref r0, .ref r1, .int x2, .int (x3 + 1)] [] s K else K (some x3) s)) : tT Y (d + 1) 55 27 [.ref r0, .ref r1, .int x2, .int x3] [.int t0] s K :=
  t3_if (p := t0 = 0) (p_55_27 _ _) rfl (fun g1 => (tt_iinc (p_55_32 _ _) rfl rfl rfl).mpr ((tt_goto (p_55_35 _ _)).mpr ((ifp h g1)))) (fun g1 => (tt_iload (p_55_30 _ _) rfl).mpr (tt_ret1 (p_55_31 _ _) (ifn h g1)))
/-! InclusionProver$Side.isLetter.(I)Z -/
theorem p_56_0 (L : Nat) (xs : Nat → Int32) : ll_P L xs 56 0 = some (.inl (lo_iload 1 0)) := (P_56 L xs 0).trans rfl
theorem p_56_1 (L : Nat) (xs : Nat → Int32) : ll_P L xs 56 1 = some (.inl (lo_if 13 4 (fun x => decide (x < 0)))) := (P_56 L xs 1).trans rfl
theorem p_56_4 (L : Nat) (xs : Nat → Int32) : ll_P L xs 56 4 = some (.inl (lo_iload 5 0)) := (P_56 L xs 4).trans rfl
theorem p_56_5 (L : Nat) (xs : Nat → Int32) : ll_P L xs 56 5 = some (.inl (lo_push 6 (.int 3))) := (P_56 L xs 5).trans rfl
theorem p_56_6 (L : Nat) (xs : Nat → Int32) : ll_P L xs 56 6 = some (.inl (lo_cmp 13 9 (fun x y => decide (y ≤ x)))) := (P_56 L xs 6).trans rfl
theorem p_56_9 (L : Nat) (xs : Nat → Int32) : ll_P L xs 56 9 = some (.inl (lo_push 10 (.int 1))) := (P_56 L xs 9).trans rfl
theorem p_56_10 (L : Nat) (xs : Nat → Int32) : ll_P L xs 56 10 = some (.inl (lo_goto 14)) := (P_56 L xs 10).trans rfl
theorem p_56_13 (L : Nat) (xs : Nat → Int32) : ll_P L xs 56 13 = some (.inl (lo_push 14 (.int 0))) := (P_56 L xs 13).trans rfl
theorem p_56_14 (L : Nat) (xs : Nat → Int32) : ll_P L xs 56 14 = some (.inr (.inr 2)) := (P_56 L xs 14).trans rfl
theorem b_56_0 {Y : sY} {d : Nat} {s : sT} {K : Option Int32 → sT → Prop} {x0 : Int32} (h : (if x0 < 0 then K (some (0 : Int32)) s else (if (3 : Int32) ≤ x0 then K (some (0 : Int32)) s else K (some (1 : Int32)) s))) : tT Y d 56 0 [.int x0] [] s K :=
  (tt_iload (p_56_0 _ _) rfl).mpr (t3_if (p := x0 < 0) (p_56_1 _ _) rfl (fun g1 => (tt_push (p_56_13 _ _)).mpr (tt_ret2 (p_56_14 _ _) (Or.inl rfl) (ifp h g1))) (fun g1 => (tt_iload (p_56_4 _ _) rfl).mpr ((tt_push (p_56_5 _ _)).mpr (t3_cmp (p := (3 : Int32) ≤ x0) (p_56_6 _ _) rfl (fun g2 => (tt_push (p_56_13 _ _)).mpr (tt_ret2 (p_56_14 _ _) (Or.inl rfl) (ifp (ifn h g1) g2))) (fun g2 => (tt_push (p_56_9 _ _)).mpr ((tt_goto (p_56_10 _ _)).mpr (tt_ret2 (p_56_14 _ _) (Or.inr rfl) (ifn (ifn h g1) g2))))))))
/-! InclusionProver$Side.signsStart.(I)I -/
theorem p_57_0 (L : Nat) (xs : Nat → Int32) : ll_P L xs 57 0 = some (.inl (lo_iload 1 1)) := (P_57 L xs 0).trans rfl
theorem p_57_1 (L : Nat) (xs : Nat → Int32) : ll_P L xs 57 1 = some (.inl (lo_if 8 4 (fun x => decide (¬ x = 0)))) := (P_57 L xs 1).trans rfl
theorem p_57_4 (L : Nat) (xs : Nat → Int32) : ll_P L xs 57 4 = some (.inl (lo_push 5 (.int 0))) := (P_57 L xs 4).trans rfl
theorem p_57_5 (L : Nat) (xs : Nat → Int32) : ll_P L xs 57 5 = some (.inl (lo_goto 16)) := (P_57 L xs 5).trans rfl
theorem p_57_8 (L : Nat) (xs : Nat → Int32) : ll_P L xs 57 8 = some (.inl (lo_aload 9 0)) := (P_57 L xs 8).trans rfl
theorem p_57_9 (L : Nat) (xs : Nat → Int32) : ll_P L xs 57 9 = some (.inl (lo_getf 12 5 2)) := (P_57 L xs 9).trans rfl
theorem p_57_12 (L : Nat) (xs : Nat → Int32) : ll_P L xs 57 12 = some (.inl (lo_iload 13 1)) := (P_57 L xs 12).trans rfl
theorem p_57_13 (L : Nat) (xs : Nat → Int32) : ll_P L xs 57 13 = some (.inl (lo_push 14 (.int 1))) := (P_57 L xs 13).trans rfl
theorem p_57_14 (L : Nat) (xs : Nat → Int32) : ll_P L xs 57 14 = some (.inl (lo_bin 15 (fun x y => x - y))) := (P_57 L xs 14).trans rfl
theorem p_57_15 (L : Nat) (xs : Nat → Int32) : ll_P L xs 57 15 = some (.inl (lo_ald 16 0)) := (P_57 L xs 15).trans rfl
theorem p_57_16 (L : Nat) (xs : Nat → Int32) : ll_P L xs 57 16 = some (.inr (.inr 1)) := (P_57 L xs 16).trans rfl
theorem b_57_0 {Y : sY} {d : Nat} {s : sT} {K : Option Int32 → sT → Prop} {r0 : Nat} {x1 : Int32} (h : (if ¬ x1 = 0 then (∃ a2, (isO Y r0 5 ∧ s.2 r0 2 = some a2) ∧ (∃ m4, (isA Y a2 0 m4 ∧ inR (x1 - (1 : Int32)) m4) ∧ K (some (s.1 a2 ((x1 - (1 : Int32))).toNatClampNeg)) s)) else K (some (0 : Int32)) s)) : tT Y d 57 0 [.ref r0, .int x1] [] s K :=
  (tt_iload (p_57_0 _ _) rfl).mpr (t3_if (p := ¬ x1 = 0) (p_57_1 _ _) rfl (fun g1 => (tt_aload (p_57_8 _ _) rfl).mpr (Exists.elim (ifp h g1) (fun a2 h3 => t3_getr (p_57_9 _ _) (isI_5_2) h3.1.1 h3.1.2 ((tt_iload (p_57_12 _ _) rfl).mpr ((tt_push (p_57_13 _ _)).mpr ((tt_bin (p_57_14 _ _)).mpr (Exists.elim h3.2 (fun m4 h5 => t3_ald (p_57_15 _ _) h5.1.1 h5.1.2 (tt_ret1 (p_57_16 _ _) h5.2))))))))) (fun g1 => (tt_push (p_57_4 _ _)).mpr ((tt_goto (p_57_5 _ _)).mpr (tt_ret1 (p_57_16 _ _) (ifn h g1)))))
/-! InclusionProver$Side.isAlike.(ILInclusionProver$Side;I)Z -/
theorem p_58_0 (L : Nat) (xs : Nat → Int32) : ll_P L xs 58 0 = some (.inl (lo_aload 1 0)) := (P_58 L xs 0).trans rfl
theorem p_58_1 (L : Nat) (xs : Nat → Int32) : ll_P L xs 58 1 = some (.inl (lo_iload 2 1)) := (P_58 L xs 1).trans rfl
theorem p_58_2 (L : Nat) (xs : Nat → Int32) : ll_P L xs 58 2 = some (.inr (.inl (49, 2, 5))) := (P_58 L xs 2).trans rfl
theorem p_58_5 (L : Nat) (xs : Nat → Int32) : ll_P L xs 58 5 = some (.inl (lo_istore 7 4)) := (P_58 L xs 5).trans rfl
theorem p_58_7 (L : Nat) (xs : Nat → Int32) : ll_P L xs 58 7 = some (.inl (lo_iload 9 4)) := (P_58 L xs 7).trans rfl
theorem p_58_9 (L : Nat) (xs : Nat → Int32) : ll_P L xs 58 9 = some (.inl (lo_aload 10 2)) := (P_58 L xs 9).trans rfl
theorem p_58_10 (L : Nat) (xs : Nat → Int32) : ll_P L xs 58 10 = some (.inl (lo_iload 11 3)) := (P_58 L xs 10).trans rfl
theorem p_58_11 (L : Nat) (xs : Nat → Int32) : ll_P L xs 58 11 = some (.inr (.inl (49, 2, 14))) := (P_58 L xs 11).trans rfl
theorem p_58_14 (L : Nat) (xs : Nat → Int32) : ll_P L xs 58 14 = some (.inl (lo_cmp 19 17 (fun x y => decide (x = y)))) := (P_58 L xs 14).trans rfl
theorem p_58_17 (L : Nat) (xs : Nat → Int32) : ll_P L xs 58 17 = some (.inl (lo_push 18 (.int 0))) := (P_58 L xs 17).trans rfl
theorem p_58_18 (L : Nat) (xs : Nat → Int32) : ll_P L xs 58 18 = some (.inr (.inr 2)) := (P_58 L xs 18).trans rfl
theorem p_58_19 (L : Nat) (xs : Nat → Int32) : ll_P L xs 58 19 = some (.inl (lo_aload 20 0)) := (P_58 L xs 19).trans rfl
theorem p_58_20 (L : Nat) (xs : Nat → Int32) : ll_P L xs 58 20 = some (.inl (lo_iload 21 1)) := (P_58 L xs 20).trans rfl
theorem p_58_21 (L : Nat) (xs : Nat → Int32) : ll_P L xs 58 21 = some (.inr (.inl (57, 2, 24))) := (P_58 L xs 21).trans rfl
theorem p_58_24 (L : Nat) (xs : Nat → Int32) : ll_P L xs 58 24 = some (.inl (lo_istore 26 5)) := (P_58 L xs 24).trans rfl
theorem p_58_26 (L : Nat) (xs : Nat → Int32) : ll_P L xs 58 26 = some (.inl (lo_aload 27 2)) := (P_58 L xs 26).trans rfl
theorem p_58_27 (L : Nat) (xs : Nat → Int32) : ll_P L xs 58 27 = some (.inl (lo_iload 28 3)) := (P_58 L xs 27).trans rfl
theorem p_58_28 (L : Nat) (xs : Nat → Int32) : ll_P L xs 58 28 = some (.inr (.inl (57, 2, 31))) := (P_58 L xs 28).trans rfl
theorem p_58_31 (L : Nat) (xs : Nat → Int32) : ll_P L xs 58 31 = some (.inl (lo_istore 33 6)) := (P_58 L xs 31).trans rfl
theorem p_58_33 (L : Nat) (xs : Nat → Int32) : ll_P L xs 58 33 = some (.inl (lo_push 34 (.int 0))) := (P_58 L xs 33).trans rfl
theorem p_58_34 (L : Nat) (xs : Nat → Int32) : ll_P L xs 58 34 = some (.inl (lo_istore 36 7)) := (P_58 L xs 34).trans rfl
theorem p_58_36 (L : Nat) (xs : Nat → Int32) : ll_P L xs 58 36 = some (.inl (lo_iload 38 7)) := (P_58 L xs 36).trans rfl
theorem p_58_38 (L : Nat) (xs : Nat → Int32) : ll_P L xs 58 38 = some (.inl (lo_iload 40 4)) := (P_58 L xs 38).trans rfl
theorem p_58_40 (L : Nat) (xs : Nat → Int32) : ll_P L xs 58 40 = some (.inl (lo_cmp 78 43 (fun x y => decide (y ≤ x)))) := (P_58 L xs 40).trans rfl
theorem p_58_43 (L : Nat) (xs : Nat → Int32) : ll_P L xs 58 43 = some (.inl (lo_aload 44 0)) := (P_58 L xs 43).trans rfl
theorem p_58_44 (L : Nat) (xs : Nat → Int32) : ll_P L xs 58 44 = some (.inl (lo_getf 47 5 1)) := (P_58 L xs 44).trans rfl
theorem p_58_47 (L : Nat) (xs : Nat → Int32) : ll_P L xs 58 47 = some (.inl (lo_iload 49 5)) := (P_58 L xs 47).trans rfl
theorem p_58_49 (L : Nat) (xs : Nat → Int32) : ll_P L xs 58 49 = some (.inl (lo_iload 51 7)) := (P_58 L xs 49).trans rfl
theorem p_58_51 (L : Nat) (xs : Nat → Int32) : ll_P L xs 58 51 = some (.inl (lo_bin 52 (fun x y => x + y))) := (P_58 L xs 51).trans rfl
theorem p_58_52 (L : Nat) (xs : Nat → Int32) : ll_P L xs 58 52 = some (.inr (.inl (77, 2, 55))) := (P_58 L xs 52).trans rfl
theorem p_58_55 (L : Nat) (xs : Nat → Int32) : ll_P L xs 58 55 = some (.inl (lo_aload 56 2)) := (P_58 L xs 55).trans rfl
theorem p_58_56 (L : Nat) (xs : Nat → Int32) : ll_P L xs 58 56 = some (.inl (lo_getf 59 5 1)) := (P_58 L xs 56).trans rfl
theorem p_58_59 (L : Nat) (xs : Nat → Int32) : ll_P L xs 58 59 = some (.inl (lo_iload 61 6)) := (P_58 L xs 59).trans rfl
theorem p_58_61 (L : Nat) (xs : Nat → Int32) : ll_P L xs 58 61 = some (.inl (lo_iload 63 7)) := (P_58 L xs 61).trans rfl
theorem p_58_63 (L : Nat) (xs : Nat → Int32) : ll_P L xs 58 63 = some (.inl (lo_bin 64 (fun x y => x + y))) := (P_58 L xs 63).trans rfl
theorem p_58_64 (L : Nat) (xs : Nat → Int32) : ll_P L xs 58 64 = some (.inr (.inl (77, 2, 67))) := (P_58 L xs 64).trans rfl
theorem p_58_67 (L : Nat) (xs : Nat → Int32) : ll_P L xs 58 67 = some (.inl (lo_cmp 72 70 (fun x y => decide (x = y)))) := (P_58 L xs 67).trans rfl
theorem p_58_70 (L : Nat) (xs : Nat → Int32) : ll_P L xs 58 70 = some (.inl (lo_push 71 (.int 0))) := (P_58 L xs 70).trans rfl
theorem p_58_71 (L : Nat) (xs : Nat → Int32) : ll_P L xs 58 71 = some (.inr (.inr 2)) := (P_58 L xs 71).trans rfl
theorem p_58_72 (L : Nat) (xs : Nat → Int32) : ll_P L xs 58 72 = some (.inl (lo_iinc 75 7 1)) := (P_58 L xs 72).trans rfl
theorem p_58_75 (L : Nat) (xs : Nat → Int32) : ll_P L xs 58 75 = some (.inl (lo_goto 36)) := (P_58 L xs 75).trans rfl
theorem p_58_78 (L : Nat) (xs : Nat → Int32) : ll_P L xs 58 78 = some (.inl (lo_push 79 (.int 1))) := (P_58 L xs 78).trans rfl
theorem p_58_79 (L : Nat) (xs : Nat → Int32) : ll_P L xs 58 79 = some (.inr (.inr 2)) := (P_58 L xs 79).trans rfl
theorem b_58_0 {Y : sY} {d : Nat} {s : sT} {K : Option Int32 → sT → Prop} {r0 : Nat} {x1 : Int32} {r2 : Nat} {x3 : Int32} (h : (isO Y r0 5 ∧ tT Y d 49 0 [.ref r0, .int x1] [] s (fun r s1 => tT Y (d + 1) 58 5 [.ref r0, .int x1, .ref r2, .int x3, .null, .null, .null, .null] ((r.map Value.int).toList ++ []) s1 K))) : tT Y (d + 1) 58 0 [.ref r0, .int x1, .ref r2, .int x3, .null, .null, .null, .null] [] s K :=
  (tt_aload (p_58_0 _ _) rfl).mpr ((tt_iload (p_58_1 _ _) rfl).mpr (t2_callv (z := 49) (k := 2) (i := r0) (as := [.int x1]) (rest := []) (p_58_2 _ _) mK_49 mL_49 rfl rfl (Nat.le_of_ble_eq_true rfl) rfl (Nat.le_of_ble_eq_true rfl) h.1 h.2))
theorem b_58_5 {Y : sY} {d : Nat} {s : sT} {K : Option Int32 → sT → Prop} {r0 : Nat} {x1 : Int32} {r2 : Nat} {x3 : Int32} {t0 : Int32} (h : (isO Y r2 5 ∧ tT Y d 49 0 [.ref r2, .int x3] [] s (fun r s1 => tT Y (d + 1) 58 14 [.ref r0, .int x1, .ref r2, .int x3, .int t0, .null, .null, .null] ((r.map Value.int).toList ++ [.int t0]) s1 K))) : tT Y (d + 1) 58 5 [.ref r0, .int x1, .ref r2, .int x3, .null, .null, .null, .null] [.int t0] s K :=
  (tt_istore (p_58_5 _ _) (Nat.le_of_ble_eq_true rfl) rfl rfl).mpr ((tt_iload (p_58_7 _ _) rfl).mpr ((tt_aload (p_58_9 _ _) rfl).mpr ((tt_iload (p_58_10 _ _) rfl).mpr (t2_callv (z := 49) (k := 2) (i := r2) (as := [.int x3]) (rest := [.int t0]) (p_58_11 _ _) mK_49 mL_49 rfl rfl (Nat.le_of_ble_eq_true rfl) rfl (Nat.le_of_ble_eq_true rfl) h.1 h.2))))
theorem b_58_14 {Y : sY} {d : Nat} {s : sT} {K : Option Int32 → sT → Prop} {r0 : Nat} {x1 : Int32} {r2 : Nat} {x3 : Int32} {x4 : Int32} {t0 : Int32} {t1 : Int32} (h : (if t0 = t1 then (isO Y r0 5 ∧ tT Y d 57 0 [.ref r0, .int x1] [] s (fun r s1 => tT Y (d + 1) 58 24 [.ref r0, .int x1, .ref r2, .int x3, .int x4, .null, .null, .null] ((r.map Value.int).toList ++ []) s1 K)) else K (some (0 : Int32)) s)) : tT Y (d + 1) 58 14 [.ref r0, .int x1, .ref r2, .int x3, .int x4, .null, .null, .null] [.int t1, .int t0] s K :=
  t3_cmp (p := t0 = t1) (p_58_14 _ _) rfl (fun g1 => (tt_aload (p_58_19 _ _) rfl).mpr ((tt_iload (p_58_20 _ _) rfl).mpr (t2_callv (z := 57) (k := 2) (i := r0) (as := [.int x1]) (rest := []) (p_58_21 _ _) mK_57 mL_57 rfl rfl (Nat.le_of_ble_eq_true rfl) rfl (Nat.le_of_ble_eq_true rfl) (ifp h g1).1 (ifp h g1).2))) (fun g1 => (tt_push (p_58_17 _ _)).mpr (tt_ret2 (p_58_18 _ _) (Or.inl rfl) (ifn h g1)))
theorem b_58_24 {Y : sY} {d : Nat} {s : sT} {K : Option Int32 → sT → Prop} {r0 : Nat} {x1 : Int32} {r2 : Nat} {x3 : Int32} {x4 : Int32} {t0 : Int32} (h : (isO Y r2 5 ∧ tT Y d 57 0 [.ref r2, .int x3] [] s (fun r s1 => tT Y (d + 1) 58 31 [.ref r0, .int x1, .ref r2, .int x3, .int x4, .int t0, .null, .null] ((r.map Value.int).toList ++ []) s1 K))) : tT Y (d + 1) 58 24 [.ref r0, .int x1, .ref r2, .int x3, .int x4, .null, .null, .null] [.int t0] s K :=
  (tt_istore (p_58_24 _ _) (Nat.le_of_ble_eq_true rfl) rfl rfl).mpr ((tt_aload (p_58_26 _ _) rfl).mpr ((tt_iload (p_58_27 _ _) rfl).mpr (t2_callv (z := 57) (k := 2) (i := r2) (as := [.int x3]) (rest := []) (p_58_28 _ _) mK_57 mL_57 rfl rfl (Nat.le_of_ble_eq_true rfl) rfl (Nat.le_of_ble_eq_true rfl) h.1 h.2)))
theorem b_58_31 {Y : sY} {d : Nat} {s : sT} {K : Option Int32 → sT → Prop} {r0 : Nat} {x1 : Int32} {r2 : Nat} {x3 : Int32} {x4 : Int32} {x5 : Int32} {t0 : Int32} (h : tT Y (d + 1) 58 36 [.ref r0, .int x1, .ref r2, .int x3, .int x4, .int x5, .int t0, .int (0 : Int32)] [] s K) : tT Y (d + 1) 58 31 [.ref r0, .int x1, .ref r2, .int x3, .int x4, .int x5, .null, .null] [.int t0] s K :=
  (tt_istore (p_58_31 _ _) (Nat.le_of_ble_eq_true rfl) rfl rfl).mpr ((tt_push (p_58_33 _ _)).mpr ((tt_istore (p_58_34 _ _) (Nat.le_of_ble_eq_true rfl) rfl rfl).mpr (h)))
theorem b_58_36 {Y : sY} {d : Nat} {s : sT} {K : Option Int32 → sT → Prop} {r0 : Nat} {x1 : Int32} {r2 : Nat} {x3 : Int32} {x4 : Int32} {x5 : Int32} {x6 : Int32} {x7 : Int32} (h : (if x4 ≤ x7 then K (some (1 : Int32)) s else (∃ a2, (isO Y r0 5 ∧ s.2 r0 1 = some a2) ∧ (isO Y a2 7 ∧ tT Y d 77 0 [.ref a2, .int (x5 + x7)] [] s (fun r s1 => tT Y (d + 1) 58 55 [.ref r0, .int x1, .ref r2, .int x3, .int x4, .int x5, .int x6, .int x7] ((r.map Value.int).toList ++ []) s1 K))))) : tT Y (d + 1) 58 36 [.ref r0, .int x1, .ref r2, .int x3, .int x4, .int x5, .int x6, .int x7] [] s K :=
  (tt_iload (p_58_36 _ _) rfl).mpr ((tt_iload (p_58_38 _ _) rfl).mpr (t3_cmp (p := x4 ≤ x7) (p_58_40 _ _) rfl (fun g1 => (tt_push (p_58_78 _ _)).mpr (tt_ret2 (p_58_79 _ _) (Or.inr rfl) (ifp h g1))) (fun g1 => (tt_aload (p_58_43 _ _) rfl).mpr (Exists.elim (ifn h g1) (fun a2 h3 => t3_getr (p_58_44 _ _) (isI_5_1) h3.1.1 h3.1.2 ((tt_iload (p_58_47 _ _) rfl).mpr ((tt_iload (p_58_49 _ _) rfl).mpr ((tt_bin (p_58_51 _ _)).mpr (t2_callv (z := 77) (k := 2) (i := a2) (as := [.int (x5 + x7)]) (rest := []) (p_58_52 _ _) mK_77 mL_77 rfl rfl (Nat.le_of_ble_eq_true rfl) rfl (Nat.le_of_ble_eq_true rfl) h3.2.1 h3.2.2)))))))))
theorem b_58_55 {Y : sY} {d : Nat} {s : sT} {K : Option Int32 → sT → Prop} {r0 : Nat} {x1 : Int32} {r2 : Nat} {x3 : Int32} {x4 : Int32} {x5 : Int32} {x6 : Int32} {x7 : Int32} {t0 : Int32} (h : (∃ a1, (isO Y r2 5 ∧ s.2 r2 1 = some a1) ∧ (isO Y a1 7 ∧ tT Y d 77 0 [.ref a1, .int (x6 + x7)] [] s (fun r s1 => tT Y (d + 1) 58 67 [.ref r0, .int x1, .ref r2, .int x3, .int x4, .int x5, .int x6, .int x7] ((r.map Value.int).toList ++ [.int t0]) s1 K)))) : tT Y (d + 1) 58 55 [.ref r0, .int x1, .ref r2, .int x3, .int x4, .int x5, .int x6, .int x7] [.int t0] s K :=
  (tt_aload (p_58_55 _ _) rfl).mpr (Exists.elim h (fun a1 h2 => t3_getr (p_58_56 _ _) (isI_5_1) h2.1.1 h2.1.2 ((tt_iload (p_58_59 _ _) rfl).mpr ((tt_iload (p_58_61 _ _) rfl).mpr ((tt_bin (p_58_63 _ _)).mpr (t2_callv (z := 77) (k := 2) (i := a1) (as := [.int (x6 + x7)]) (rest := [.int t0]) (p_58_64 _ _) mK_77 mL_77 rfl rfl (Nat.le_of_ble_eq_true rfl) rfl (Nat.le_of_ble_eq_true rfl) h2.2.1 h2.2.2))))))
theorem b_58_67 {Y : sY} {d : Nat} {s : sT} {K : Option Int32 → sT → Prop} {r0 : Nat} {x1 : Int32} {r2 : Nat} {x3 : Int32} {x4 : Int32} {x5 : Int32} {x6 : Int32} {x7 : Int32} {t0 : Int32} {t1 : Int32} (h : (if t0 = t1 then tT Y (d + 1) 58 36 [.ref r0, .int x1, .ref r2, .int x3, .int x4, .int x5, .int x6, .int (x7 + 1)] [] s K else K (some (0 : Int32)) s)) : tT Y (d + 1) 58 67 [.ref r0, .int x1, .ref r2, .int x3, .int x4, .int x5, .int x6, .int x7] [.int t1, .int t0] s K :=
  t3_cmp (p := t0 = t1) (p_58_67 _ _) rfl (fun g1 => (tt_iinc (p_58_72 _ _) rfl rfl rfl).mpr ((tt_goto (p_58_75 _ _)).mpr ((ifp h g1)))) (fun g1 => (tt_push (p_58_70 _ _)).mpr (tt_ret2 (p_58_71 _ _) (Or.inl rfl) (ifn h g1)))
/-! InclusionProver$TermFinder.<init>.(LInclusionProver$Tree;)V -/
theorem p_59_0 (L : Nat) (xs : Nat → Int32) : ll_P L xs 59 0 = some (.inl (lo_aload 1 0)) := (P_59 L xs 0).trans rfl
theorem p_59_1 (L : Nat) (xs : Nat → Int32) : ll_P L xs 59 1 = some (.inl (lo_init 4)) := (P_59 L xs 1).trans rfl
theorem p_59_4 (L : Nat) (xs : Nat → Int32) : ll_P L xs 59 4 = some (.inl (lo_aload 5 0)) := (P_59 L xs 4).trans rfl
theorem p_59_5 (L : Nat) (xs : Nat → Int32) : ll_P L xs 59 5 = some (.inl (lo_push 8 (.int 1984))) := (P_59 L xs 5).trans rfl
theorem p_59_8 (L : Nat) (xs : Nat → Int32) : ll_P L xs 59 8 = some (.inl (lo_newa 10 0)) := (P_59 L xs 8).trans rfl
theorem p_59_10 (L : Nat) (xs : Nat → Int32) : ll_P L xs 59 10 = some (.inl (lo_putf 13 6 1 2)) := (P_59 L xs 10).trans rfl
theorem p_59_13 (L : Nat) (xs : Nat → Int32) : ll_P L xs 59 13 = some (.inl (lo_aload 14 0)) := (P_59 L xs 13).trans rfl
theorem p_59_14 (L : Nat) (xs : Nat → Int32) : ll_P L xs 59 14 = some (.inl (lo_push 16 (.int 31))) := (P_59 L xs 14).trans rfl
theorem p_59_16 (L : Nat) (xs : Nat → Int32) : ll_P L xs 59 16 = some (.inl (lo_newa 18 0)) := (P_59 L xs 16).trans rfl
theorem p_59_18 (L : Nat) (xs : Nat → Int32) : ll_P L xs 59 18 = some (.inl (lo_putf 21 6 2 2)) := (P_59 L xs 18).trans rfl
theorem p_59_21 (L : Nat) (xs : Nat → Int32) : ll_P L xs 59 21 = some (.inl (lo_aload 22 0)) := (P_59 L xs 21).trans rfl
theorem p_59_22 (L : Nat) (xs : Nat → Int32) : ll_P L xs 59 22 = some (.inl (lo_push 25 (.int 192))) := (P_59 L xs 22).trans rfl
theorem p_59_25 (L : Nat) (xs : Nat → Int32) : ll_P L xs 59 25 = some (.inl (lo_newa 27 0)) := (P_59 L xs 25).trans rfl
theorem p_59_27 (L : Nat) (xs : Nat → Int32) : ll_P L xs 59 27 = some (.inl (lo_putf 30 6 3 2)) := (P_59 L xs 27).trans rfl
theorem p_59_30 (L : Nat) (xs : Nat → Int32) : ll_P L xs 59 30 = some (.inl (lo_aload 31 0)) := (P_59 L xs 30).trans rfl
theorem p_59_31 (L : Nat) (xs : Nat → Int32) : ll_P L xs 59 31 = some (.inl (lo_new 34 7 2 [.null, .int 0])) := (P_59 L xs 31).trans rfl
theorem p_59_34 (L : Nat) (xs : Nat → Int32) : ll_P L xs 59 34 = some (.inl (lo_dup 35)) := (P_59 L xs 34).trans rfl
theorem p_59_35 (L : Nat) (xs : Nat → Int32) : ll_P L xs 59 35 = some (.inl (lo_push 37 (.int 68))) := (P_59 L xs 35).trans rfl
theorem p_59_37 (L : Nat) (xs : Nat → Int32) : ll_P L xs 59 37 = some (.inr (.inl (70, 2, 40))) := (P_59 L xs 37).trans rfl
theorem p_59_40 (L : Nat) (xs : Nat → Int32) : ll_P L xs 59 40 = some (.inl (lo_putf 43 6 4 2)) := (P_59 L xs 40).trans rfl
theorem p_59_43 (L : Nat) (xs : Nat → Int32) : ll_P L xs 59 43 = some (.inl (lo_aload 44 0)) := (P_59 L xs 43).trans rfl
theorem p_59_44 (L : Nat) (xs : Nat → Int32) : ll_P L xs 59 44 = some (.inl (lo_aload 45 1)) := (P_59 L xs 44).trans rfl
theorem p_59_45 (L : Nat) (xs : Nat → Int32) : ll_P L xs 59 45 = some (.inl (lo_putf 48 6 0 2)) := (P_59 L xs 45).trans rfl
theorem p_59_48 (L : Nat) (xs : Nat → Int32) : ll_P L xs 59 48 = some (.inr (.inr 0)) := (P_59 L xs 48).trans rfl
/-! InclusionProver$TermFinder.speltBytes.(I)I -/
theorem p_60_0 (L : Nat) (xs : Nat → Int32) : ll_P L xs 60 0 = some (.inl (lo_aload 1 0)) := (P_60 L xs 0).trans rfl
theorem p_60_1 (L : Nat) (xs : Nat → Int32) : ll_P L xs 60 1 = some (.inl (lo_getf 4 6 4)) := (P_60 L xs 1).trans rfl
theorem p_60_4 (L : Nat) (xs : Nat → Int32) : ll_P L xs 60 4 = some (.inr (.inl (71, 1, 7))) := (P_60 L xs 4).trans rfl
theorem p_60_7 (L : Nat) (xs : Nat → Int32) : ll_P L xs 60 7 = some (.inl (lo_aload 8 0)) := (P_60 L xs 7).trans rfl
theorem p_60_8 (L : Nat) (xs : Nat → Int32) : ll_P L xs 60 8 = some (.inl (lo_getf 11 6 0)) := (P_60 L xs 8).trans rfl
theorem p_60_11 (L : Nat) (xs : Nat → Int32) : ll_P L xs 60 11 = some (.inl (lo_iload 12 1)) := (P_60 L xs 11).trans rfl
theorem p_60_12 (L : Nat) (xs : Nat → Int32) : ll_P L xs 60 12 = some (.inl (lo_push 13 (.int 0))) := (P_60 L xs 12).trans rfl
theorem p_60_13 (L : Nat) (xs : Nat → Int32) : ll_P L xs 60 13 = some (.inl (lo_aload 14 0)) := (P_60 L xs 13).trans rfl
theorem p_60_14 (L : Nat) (xs : Nat → Int32) : ll_P L xs 60 14 = some (.inl (lo_getf 17 6 4)) := (P_60 L xs 14).trans rfl
theorem p_60_17 (L : Nat) (xs : Nat → Int32) : ll_P L xs 60 17 = some (.inr (.inl (93, 4, 20))) := (P_60 L xs 17).trans rfl
theorem p_60_20 (L : Nat) (xs : Nat → Int32) : ll_P L xs 60 20 = some (.inl (lo_aload 21 0)) := (P_60 L xs 20).trans rfl
theorem p_60_21 (L : Nat) (xs : Nat → Int32) : ll_P L xs 60 21 = some (.inl (lo_getf 24 6 4)) := (P_60 L xs 21).trans rfl
theorem p_60_24 (L : Nat) (xs : Nat → Int32) : ll_P L xs 60 24 = some (.inl (lo_getf 27 7 1)) := (P_60 L xs 24).trans rfl
theorem p_60_27 (L : Nat) (xs : Nat → Int32) : ll_P L xs 60 27 = some (.inr (.inr 1)) := (P_60 L xs 27).trans rfl
theorem b_60_0 {Y : sY} {d : Nat} {s : sT} {K : Option Int32 → sT → Prop} {r0 : Nat} {x1 : Int32} (h : (∃ a1, (isO Y r0 6 ∧ s.2 r0 4 = some a1) ∧ (isO Y a1 7 ∧ tT Y d 71 0 [.ref a1] [] s (fun r s1 => tT Y (d + 1) 60 7 [.ref r0, .int x1] ((r.map Value.int).toList ++ []) s1 K)))) : tT Y (d + 1) 60 0 [.ref r0, .int x1] [] s K :=
  (tt_aload (p_60_0 _ _) rfl).mpr (Exists.elim h (fun a1 h2 => t3_getr (p_60_1 _ _) (isI_6_4) h2.1.1 h2.1.2 (t2_callv (z := 71) (k := 1) (i := a1) (as := []) (rest := []) (p_60_4 _ _) mK_71 mL_71 rfl rfl (Nat.le_of_ble_eq_true rfl) rfl (Nat.le_of_ble_eq_true rfl) h2.2.1 h2.2.2)))
theorem b_60_7 {Y : sY} {d : Nat} {s : sT} {K : Option Int32 → sT → Prop} {r0 : Nat} {x1 : Int32} (h : (∃ a1, (isO Y r0 6 ∧ s.2 r0 0 = some a1) ∧ (∃ a3, (isO Y r0 6 ∧ s.2 r0 4 = some a3) ∧ (isO Y a1 8 ∧ tT Y d 93 0 [.ref a1, .int x1, .int (0 : Int32), .ref a3] [] s (fun r s1 => tT Y (d + 1) 60 20 [.ref r0, .int x1] ((r.map Value.int).toList ++ []) s1 K))))) : tT Y (d + 1) 60 7 [.ref r0, .int x1] [] s K :=
  (tt_aload (p_60_7 _ _) rfl).mpr (Exists.elim h (fun a1 h2 => t3_getr (p_60_8 _ _) (isI_6_0) h2.1.1 h2.1.2 ((tt_iload (p_60_11 _ _) rfl).mpr ((tt_push (p_60_12 _ _)).mpr ((tt_aload (p_60_13 _ _) rfl).mpr (Exists.elim h2.2 (fun a3 h4 => t3_getr (p_60_14 _ _) (isI_6_4) h4.1.1 h4.1.2 (t2_callv (z := 93) (k := 4) (i := a1) (as := [.int x1, .int (0 : Int32), .ref a3]) (rest := []) (p_60_17 _ _) mK_93 mL_93 rfl rfl (Nat.le_of_ble_eq_true rfl) rfl (Nat.le_of_ble_eq_true rfl) h4.2.1 h4.2.2))))))))
theorem b_60_20 {Y : sY} {d : Nat} {s : sT} {K : Option Int32 → sT → Prop} {r0 : Nat} {x1 : Int32} (h : (∃ a1, (isO Y r0 6 ∧ s.2 r0 4 = some a1) ∧ (isO Y a1 7 ∧ K (some (s.1 a1 1)) s))) : tT Y (d + 1) 60 20 [.ref r0, .int x1] [] s K :=
  (tt_aload (p_60_20 _ _) rfl).mpr (Exists.elim h (fun a1 h2 => t3_getr (p_60_21 _ _) (isI_6_4) h2.1.1 h2.1.2 (t3_geti (p_60_24 _ _) (isI_7_1) h2.2.1 (tt_ret1 (p_60_27 _ _) h2.2.2))))
/-! InclusionProver$TermFinder.findTerms.(ILInclusionProver$Side;)V -/
theorem p_61_0 (L : Nat) (xs : Nat → Int32) : ll_P L xs 61 0 = some (.inl (lo_aload 1 2)) := (P_61 L xs 0).trans rfl
theorem p_61_1 (L : Nat) (xs : Nat → Int32) : ll_P L xs 61 1 = some (.inr (.inl (39, 1, 4))) := (P_61 L xs 1).trans rfl
theorem p_61_4 (L : Nat) (xs : Nat → Int32) : ll_P L xs 61 4 = some (.inl (lo_aload 5 0)) := (P_61 L xs 4).trans rfl
theorem p_61_5 (L : Nat) (xs : Nat → Int32) : ll_P L xs 61 5 = some (.inl (lo_getf 8 6 0)) := (P_61 L xs 5).trans rfl
theorem p_61_8 (L : Nat) (xs : Nat → Int32) : ll_P L xs 61 8 = some (.inl (lo_iload 9 1)) := (P_61 L xs 8).trans rfl
theorem p_61_9 (L : Nat) (xs : Nat → Int32) : ll_P L xs 61 9 = some (.inl (lo_push 10 (.int 0))) := (P_61 L xs 9).trans rfl
theorem p_61_10 (L : Nat) (xs : Nat → Int32) : ll_P L xs 61 10 = some (.inl (lo_aload 11 2)) := (P_61 L xs 10).trans rfl
theorem p_61_11 (L : Nat) (xs : Nat → Int32) : ll_P L xs 61 11 = some (.inl (lo_getf 14 5 0)) := (P_61 L xs 11).trans rfl
theorem p_61_14 (L : Nat) (xs : Nat → Int32) : ll_P L xs 61 14 = some (.inr (.inl (93, 4, 17))) := (P_61 L xs 14).trans rfl
theorem p_61_17 (L : Nat) (xs : Nat → Int32) : ll_P L xs 61 17 = some (.inl (lo_aload 18 2)) := (P_61 L xs 17).trans rfl
theorem p_61_18 (L : Nat) (xs : Nat → Int32) : ll_P L xs 61 18 = some (.inl (lo_aload 19 0)) := (P_61 L xs 18).trans rfl
theorem p_61_19 (L : Nat) (xs : Nat → Int32) : ll_P L xs 61 19 = some (.inl (lo_getf 22 6 0)) := (P_61 L xs 19).trans rfl
theorem p_61_22 (L : Nat) (xs : Nat → Int32) : ll_P L xs 61 22 = some (.inl (lo_iload 23 1)) := (P_61 L xs 22).trans rfl
theorem p_61_23 (L : Nat) (xs : Nat → Int32) : ll_P L xs 61 23 = some (.inr (.inl (84, 2, 26))) := (P_61 L xs 23).trans rfl
theorem p_61_26 (L : Nat) (xs : Nat → Int32) : ll_P L xs 61 26 = some (.inl (lo_putf 29 5 7 0)) := (P_61 L xs 26).trans rfl
theorem p_61_29 (L : Nat) (xs : Nat → Int32) : ll_P L xs 61 29 = some (.inl (lo_aload 30 2)) := (P_61 L xs 29).trans rfl
theorem p_61_30 (L : Nat) (xs : Nat → Int32) : ll_P L xs 61 30 = some (.inl (lo_aload 31 0)) := (P_61 L xs 30).trans rfl
theorem p_61_31 (L : Nat) (xs : Nat → Int32) : ll_P L xs 61 31 = some (.inl (lo_getf 34 6 0)) := (P_61 L xs 31).trans rfl
theorem p_61_34 (L : Nat) (xs : Nat → Int32) : ll_P L xs 61 34 = some (.inl (lo_iload 35 1)) := (P_61 L xs 34).trans rfl
theorem p_61_35 (L : Nat) (xs : Nat → Int32) : ll_P L xs 61 35 = some (.inr (.inl (85, 2, 38))) := (P_61 L xs 35).trans rfl
theorem p_61_38 (L : Nat) (xs : Nat → Int32) : ll_P L xs 61 38 = some (.inl (lo_putf 41 5 8 0)) := (P_61 L xs 38).trans rfl
theorem p_61_41 (L : Nat) (xs : Nat → Int32) : ll_P L xs 61 41 = some (.inl (lo_aload 42 0)) := (P_61 L xs 41).trans rfl
theorem p_61_42 (L : Nat) (xs : Nat → Int32) : ll_P L xs 61 42 = some (.inl (lo_push 43 (.int 0))) := (P_61 L xs 42).trans rfl
theorem p_61_43 (L : Nat) (xs : Nat → Int32) : ll_P L xs 61 43 = some (.inl (lo_putf 46 6 6 0)) := (P_61 L xs 43).trans rfl
theorem p_61_46 (L : Nat) (xs : Nat → Int32) : ll_P L xs 61 46 = some (.inl (lo_aload 47 0)) := (P_61 L xs 46).trans rfl
theorem p_61_47 (L : Nat) (xs : Nat → Int32) : ll_P L xs 61 47 = some (.inl (lo_push 48 (.int 0))) := (P_61 L xs 47).trans rfl
theorem p_61_48 (L : Nat) (xs : Nat → Int32) : ll_P L xs 61 48 = some (.inl (lo_putf 51 6 5 0)) := (P_61 L xs 48).trans rfl
theorem p_61_51 (L : Nat) (xs : Nat → Int32) : ll_P L xs 61 51 = some (.inl (lo_aload 52 0)) := (P_61 L xs 51).trans rfl
theorem p_61_52 (L : Nat) (xs : Nat → Int32) : ll_P L xs 61 52 = some (.inl (lo_iload 53 1)) := (P_61 L xs 52).trans rfl
theorem p_61_53 (L : Nat) (xs : Nat → Int32) : ll_P L xs 61 53 = some (.inr (.inl (66, 2, 56))) := (P_61 L xs 53).trans rfl
theorem p_61_56 (L : Nat) (xs : Nat → Int32) : ll_P L xs 61 56 = some (.inl (lo_aload 57 0)) := (P_61 L xs 56).trans rfl
theorem p_61_57 (L : Nat) (xs : Nat → Int32) : ll_P L xs 61 57 = some (.inr (.inl (68, 1, 60))) := (P_61 L xs 57).trans rfl
theorem p_61_60 (L : Nat) (xs : Nat → Int32) : ll_P L xs 61 60 = some (.inl (lo_pop 61)) := (P_61 L xs 60).trans rfl
theorem p_61_61 (L : Nat) (xs : Nat → Int32) : ll_P L xs 61 61 = some (.inl (lo_push 62 (.int 0))) := (P_61 L xs 61).trans rfl
theorem p_61_62 (L : Nat) (xs : Nat → Int32) : ll_P L xs 61 62 = some (.inl (lo_istore 63 3)) := (P_61 L xs 62).trans rfl
theorem p_61_63 (L : Nat) (xs : Nat → Int32) : ll_P L xs 61 63 = some (.inl (lo_iload 64 3)) := (P_61 L xs 63).trans rfl
theorem p_61_64 (L : Nat) (xs : Nat → Int32) : ll_P L xs 61 64 = some (.inl (lo_push 66 (.int 31))) := (P_61 L xs 64).trans rfl
theorem p_61_66 (L : Nat) (xs : Nat → Int32) : ll_P L xs 61 66 = some (.inl (lo_cmp 116 69 (fun x y => decide (y ≤ x)))) := (P_61 L xs 66).trans rfl
theorem p_61_69 (L : Nat) (xs : Nat → Int32) : ll_P L xs 61 69 = some (.inl (lo_iload 70 3)) := (P_61 L xs 69).trans rfl
theorem p_61_70 (L : Nat) (xs : Nat → Int32) : ll_P L xs 61 70 = some (.inl (lo_aload 71 0)) := (P_61 L xs 70).trans rfl
theorem p_61_71 (L : Nat) (xs : Nat → Int32) : ll_P L xs 61 71 = some (.inl (lo_getf 74 6 6)) := (P_61 L xs 71).trans rfl
theorem p_61_74 (L : Nat) (xs : Nat → Int32) : ll_P L xs 61 74 = some (.inl (lo_cmp 116 77 (fun x y => decide (y ≤ x)))) := (P_61 L xs 74).trans rfl
theorem p_61_77 (L : Nat) (xs : Nat → Int32) : ll_P L xs 61 77 = some (.inl (lo_aload 78 0)) := (P_61 L xs 77).trans rfl
theorem p_61_78 (L : Nat) (xs : Nat → Int32) : ll_P L xs 61 78 = some (.inl (lo_iload 79 3)) := (P_61 L xs 78).trans rfl
theorem p_61_79 (L : Nat) (xs : Nat → Int32) : ll_P L xs 61 79 = some (.inl (lo_aload 80 2)) := (P_61 L xs 79).trans rfl
theorem p_61_80 (L : Nat) (xs : Nat → Int32) : ll_P L xs 61 80 = some (.inr (.inl (62, 3, 83))) := (P_61 L xs 80).trans rfl
theorem p_61_83 (L : Nat) (xs : Nat → Int32) : ll_P L xs 61 83 = some (.inl (lo_push 84 (.int 0))) := (P_61 L xs 83).trans rfl
theorem p_61_84 (L : Nat) (xs : Nat → Int32) : ll_P L xs 61 84 = some (.inl (lo_istore 86 4)) := (P_61 L xs 84).trans rfl
theorem p_61_86 (L : Nat) (xs : Nat → Int32) : ll_P L xs 61 86 = some (.inl (lo_iload 88 4)) := (P_61 L xs 86).trans rfl
theorem p_61_88 (L : Nat) (xs : Nat → Int32) : ll_P L xs 61 88 = some (.inl (lo_push 89 (.int 3))) := (P_61 L xs 88).trans rfl
theorem p_61_89 (L : Nat) (xs : Nat → Int32) : ll_P L xs 61 89 = some (.inl (lo_cmp 106 92 (fun x y => decide (y ≤ x)))) := (P_61 L xs 89).trans rfl
theorem p_61_92 (L : Nat) (xs : Nat → Int32) : ll_P L xs 61 92 = some (.inl (lo_aload 93 0)) := (P_61 L xs 92).trans rfl
theorem p_61_93 (L : Nat) (xs : Nat → Int32) : ll_P L xs 61 93 = some (.inl (lo_iload 94 3)) := (P_61 L xs 93).trans rfl
theorem p_61_94 (L : Nat) (xs : Nat → Int32) : ll_P L xs 61 94 = some (.inl (lo_iload 96 4)) := (P_61 L xs 94).trans rfl
theorem p_61_96 (L : Nat) (xs : Nat → Int32) : ll_P L xs 61 96 = some (.inl (lo_aload 97 2)) := (P_61 L xs 96).trans rfl
theorem p_61_97 (L : Nat) (xs : Nat → Int32) : ll_P L xs 61 97 = some (.inr (.inl (63, 4, 100))) := (P_61 L xs 97).trans rfl
theorem p_61_100 (L : Nat) (xs : Nat → Int32) : ll_P L xs 61 100 = some (.inl (lo_iinc 103 4 1)) := (P_61 L xs 100).trans rfl
theorem p_61_103 (L : Nat) (xs : Nat → Int32) : ll_P L xs 61 103 = some (.inl (lo_goto 86)) := (P_61 L xs 103).trans rfl
theorem p_61_106 (L : Nat) (xs : Nat → Int32) : ll_P L xs 61 106 = some (.inl (lo_aload 107 2)) := (P_61 L xs 106).trans rfl
theorem p_61_107 (L : Nat) (xs : Nat → Int32) : ll_P L xs 61 107 = some (.inr (.inl (43, 1, 110))) := (P_61 L xs 107).trans rfl
theorem p_61_110 (L : Nat) (xs : Nat → Int32) : ll_P L xs 61 110 = some (.inl (lo_iinc 113 3 1)) := (P_61 L xs 110).trans rfl
theorem p_61_113 (L : Nat) (xs : Nat → Int32) : ll_P L xs 61 113 = some (.inl (lo_goto 63)) := (P_61 L xs 113).trans rfl
theorem p_61_116 (L : Nat) (xs : Nat → Int32) : ll_P L xs 61 116 = some (.inr (.inr 0)) := (P_61 L xs 116).trans rfl
theorem b_61_0 {Y : sY} {d : Nat} {s : sT} {K : Option Int32 → sT → Prop} {r0 : Nat} {x1 : Int32} {r2 : Nat} (h : (isO Y r2 5 ∧ tT Y d 39 0 [.ref r2] [] s (fun r s1 => tT Y (d + 1) 61 4 [.ref r0, .int x1, .ref r2, .null, .null] ((r.map Value.int).toList ++ []) s1 K))) : tT Y (d + 1) 61 0 [.ref r0, .int x1, .ref r2, .null, .null] [] s K :=
  (tt_aload (p_61_0 _ _) rfl).mpr (t2_callv (z := 39) (k := 1) (i := r2) (as := []) (rest := []) (p_61_1 _ _) mK_39 mL_39 rfl rfl (Nat.le_of_ble_eq_true rfl) rfl (Nat.le_of_ble_eq_true rfl) h.1 h.2)
theorem b_61_4 {Y : sY} {d : Nat} {s : sT} {K : Option Int32 → sT → Prop} {r0 : Nat} {x1 : Int32} {r2 : Nat} (h : (∃ a1, (isO Y r0 6 ∧ s.2 r0 0 = some a1) ∧ (∃ a3, (isO Y r2 5 ∧ s.2 r2 0 = some a3) ∧ (isO Y a1 8 ∧ tT Y d 93 0 [.ref a1, .int x1, .int (0 : Int32), .ref a3] [] s (fun r s1 => tT Y (d + 1) 61 17 [.ref r0, .int x1, .ref r2, .null, .null] ((r.map Value.int).toList ++ []) s1 K))))) : tT Y (d + 1) 61 4 [.ref r0, .int x1, .ref r2, .null, .null] [] s K :=
  (tt_aload (p_61_4 _ _) rfl).mpr (Exists.elim h (fun a1 h2 => t3_getr (p_61_5 _ _) (isI_6_0) h2.1.1 h2.1.2 ((tt_iload (p_61_8 _ _) rfl).mpr ((tt_push (p_61_9 _ _)).mpr ((tt_aload (p_61_10 _ _) rfl).mpr (Exists.elim h2.2 (fun a3 h4 => t3_getr (p_61_11 _ _) (isI_5_0) h4.1.1 h4.1.2 (t2_callv (z := 93) (k := 4) (i := a1) (as := [.int x1, .int (0 : Int32), .ref a3]) (rest := []) (p_61_14 _ _) mK_93 mL_93 rfl rfl (Nat.le_of_ble_eq_true rfl) rfl (Nat.le_of_ble_eq_true rfl) h4.2.1 h4.2.2))))))))
theorem b_61_17 {Y : sY} {d : Nat} {s : sT} {K : Option Int32 → sT → Prop} {r0 : Nat} {x1 : Int32} {r2 : Nat} (h : (∃ a1, (isO Y r0 6 ∧ s.2 r0 0 = some a1) ∧ (isO Y a1 8 ∧ tT Y d 84 0 [.ref a1, .int x1] [] s (fun r s1 => tT Y (d + 1) 61 26 [.ref r0, .int x1, .ref r2, .null, .null] ((r.map Value.int).toList ++ [.ref r2]) s1 K)))) : tT Y (d + 1) 61 17 [.ref r0, .int x1, .ref r2, .null, .null] [] s K :=
  (tt_aload (p_61_17 _ _) rfl).mpr ((tt_aload (p_61_18 _ _) rfl).mpr (Exists.elim h (fun a1 h2 => t3_getr (p_61_19 _ _) (isI_6_0) h2.1.1 h2.1.2 ((tt_iload (p_61_22 _ _) rfl).mpr (t2_callv (z := 84) (k := 2) (i := a1) (as := [.int x1]) (rest := [.ref r2]) (p_61_23 _ _) mK_84 mL_84 rfl rfl (Nat.le_of_ble_eq_true rfl) rfl (Nat.le_of_ble_eq_true rfl) h2.2.1 h2.2.2)))))
theorem b_61_26 {Y : sY} {d : Nat} {s : sT} {K : Option Int32 → sT → Prop} {r0 : Nat} {x1 : Int32} {r2 : Nat} {t0 : Nat} {t1 : Int32} (h : (isO Y t0 5 ∧ (∃ a1, (isO Y r0 6 ∧ (pV s t0 7 t1).2 r0 0 = some a1) ∧ (isO Y a1 8 ∧ tT Y d 85 0 [.ref a1, .int x1] [] (pV s t0 7 t1) (fun r s1 => tT Y (d + 1) 61 38 [.ref r0, .int x1, .ref r2, .null, .null] ((r.map Value.int).toList ++ [.ref r2]) s1 K))))) : tT Y (d + 1) 61 26 [.ref r0, .int x1, .ref r2, .null, .null] [.int t1, .ref t0] s K :=
  (t2_puti (p_61_26 _ _) isI_5_7 h.1).mpr ((tt_aload (p_61_29 _ _) rfl).mpr ((tt_aload (p_61_30 _ _) rfl).mpr (Exists.elim h.2 (fun a1 h2 => t3_getr (p_61_31 _ _) (isI_6_0) h2.1.1 h2.1.2 ((tt_iload (p_61_34 _ _) rfl).mpr (t2_callv (z := 85) (k := 2) (i := a1) (as := [.int x1]) (rest := [.ref r2]) (p_61_35 _ _) mK_85 mL_85 rfl rfl (Nat.le_of_ble_eq_true rfl) rfl (Nat.le_of_ble_eq_true rfl) h2.2.1 h2.2.2))))))
theorem b_61_38 {Y : sY} {d : Nat} {s : sT} {K : Option Int32 → sT → Prop} {r0 : Nat} {x1 : Int32} {r2 : Nat} {t0 : Nat} {t1 : Int32} (h : (isO Y t0 5 ∧ (isO Y r0 6 ∧ (isO Y r0 6 ∧ (isO Y r0 6 ∧ tT Y d 66 0 [.ref r0, .int x1, .null] [] (pV (pV (pV s t0 8 t1) r0 6 (0 : Int32)) r0 5 (0 : Int32)) (fun r s1 => tT Y (d + 1) 61 56 [.ref r0, .int x1, .ref r2, .null, .null] ((r.map Value.int).toList ++ []) s1 K)))))) : tT Y (d + 1) 61 38 [.ref r0, .int x1, .ref r2, .null, .null] [.int t1, .ref t0] s K :=
  (t2_puti (p_61_38 _ _) isI_5_8 h.1).mpr ((tt_aload (p_61_41 _ _) rfl).mpr ((tt_push (p_61_42 _ _)).mpr ((t2_puti (p_61_43 _ _) isI_6_6 h.2.1).mpr ((tt_aload (p_61_46 _ _) rfl).mpr ((tt_push (p_61_47 _ _)).mpr ((t2_puti (p_61_48 _ _) isI_6_5 h.2.2.1).mpr ((tt_aload (p_61_51 _ _) rfl).mpr ((tt_iload (p_61_52 _ _) rfl).mpr (t2_callv (z := 66) (k := 2) (i := r0) (as := [.int x1]) (rest := []) (p_61_53 _ _) mK_66 mL_66 rfl rfl (Nat.le_of_ble_eq_true rfl) rfl (Nat.le_of_ble_eq_true rfl) h.2.2.2.1 h.2.2.2.2)))))))))
theorem b_61_56 {Y : sY} {d : Nat} {s : sT} {K : Option Int32 → sT → Prop} {r0 : Nat} {x1 : Int32} {r2 : Nat} (h : (isO Y r0 6 ∧ tT Y d 68 0 [.ref r0, .null, .null] [] s (fun r s1 => tT Y (d + 1) 61 60 [.ref r0, .int x1, .ref r2, .null, .null] ((r.map Value.int).toList ++ []) s1 K))) : tT Y (d + 1) 61 56 [.ref r0, .int x1, .ref r2, .null, .null] [] s K :=
  (tt_aload (p_61_56 _ _) rfl).mpr (t2_callv (z := 68) (k := 1) (i := r0) (as := []) (rest := []) (p_61_57 _ _) mK_68 mL_68 rfl rfl (Nat.le_of_ble_eq_true rfl) rfl (Nat.le_of_ble_eq_true rfl) h.1 h.2)
theorem b_61_60 {Y : sY} {d : Nat} {s : sT} {K : Option Int32 → sT → Prop} {r0 : Nat} {x1 : Int32} {r2 : Nat} {t0 : Int32} (h : tT Y (d + 1) 61 63 [.ref r0, .int x1, .ref r2, .int (0 : Int32), .null] [] s K) : tT Y (d + 1) 61 60 [.ref r0, .int x1, .ref r2, .null, .null] [.int t0] s K :=
  (tt_popi (p_61_60 _ _)).mpr ((tt_push (p_61_61 _ _)).mpr ((tt_istore (p_61_62 _ _) (Nat.le_of_ble_eq_true rfl) rfl rfl).mpr (h)))
theorem b_61_63 {Y : sY} {d : Nat} {s : sT} {K : Option Int32 → sT → Prop} {r0 : Nat} {x1 : Int32} {r2 : Nat} {x3 : Int32} {u4 : Value} (h : (if (31 : Int32) ≤ x3 then K none s else (isO Y r0 6 ∧ (if (s.1 r0 6) ≤ x3 then K none s else (isO Y r0 6 ∧ tT Y d 62 0 [.ref r0, .int x3, .ref r2, .null, .null, .null, .null] [] s (fun r s1 => tT Y (d + 1) 61 83 [.ref r0, .int x1, .ref r2, .int x3, u4] ((r.map Value.int).toList ++ []) s1 K)))))) : tT Y (d + 1) 61 63 [.ref r0, .int x1, .ref r2, .int x3, u4] [] s K :=
  (tt_iload (p_61_63 _ _) rfl).mpr ((tt_push (p_61_64 _ _)).mpr (t3_cmp (p := (31 : Int32) ≤ x3) (p_61_66 _ _) rfl (fun g1 => tt_ret0 (p_61_116 _ _) (ifp h g1)) (fun g1 => (tt_iload (p_61_69 _ _) rfl).mpr ((tt_aload (p_61_70 _ _) rfl).mpr (t3_geti (p_61_71 _ _) (isI_6_6) (ifn h g1).1 (t3_cmp (p := (s.1 r0 6) ≤ x3) (p_61_74 _ _) rfl (fun g2 => tt_ret0 (p_61_116 _ _) (ifp (ifn h g1).2 g2)) (fun g2 => (tt_aload (p_61_77 _ _) rfl).mpr ((tt_iload (p_61_78 _ _) rfl).mpr ((tt_aload (p_61_79 _ _) rfl).mpr (t2_callv (z := 62) (k := 3) (i := r0) (as := [.int x3, .ref r2]) (rest := []) (p_61_80 _ _) mK_62 mL_62 rfl rfl (Nat.le_of_ble_eq_true rfl) rfl (Nat.le_of_ble_eq_true rfl) (ifn (ifn h g1).2 g2).1 (ifn (ifn h g1).2 g2).2))))))))))
theorem b_61_83 {Y : sY} {d : Nat} {s : sT} {K : Option Int32 → sT → Prop} {r0 : Nat} {x1 : Int32} {r2 : Nat} {x3 : Int32} {u4 : Value} (h : tT Y (d + 1) 61 86 [.ref r0, .int x1, .ref r2, .int x3, .int (0 : Int32)] [] s K) : tT Y (d + 1) 61 83 [.ref r0, .int x1, .ref r2, .int x3, u4] [] s K :=
  (tt_push (p_61_83 _ _)).mpr ((tt_istore (p_61_84 _ _) (Nat.le_of_ble_eq_true rfl) rfl rfl).mpr (h))
theorem b_61_86 {Y : sY} {d : Nat} {s : sT} {K : Option Int32 → sT → Prop} {r0 : Nat} {x1 : Int32} {r2 : Nat} {x3 : Int32} {x4 : Int32} (h : (if (3 : Int32) ≤ x4 then (isO Y r2 5 ∧ tT Y d 43 0 [.ref r2] [] s (fun r s1 => tT Y (d + 1) 61 110 [.ref r0, .int x1, .ref r2, .int x3, .int x4] ((r.map Value.int).toList ++ []) s1 K)) else (isO Y r0 6 ∧ tT Y d 63 0 [.ref r0, .int x3, .int x4, .ref r2, .null] [] s (fun r s1 => tT Y (d + 1) 61 100 [.ref r0, .int x1, .ref r2, .int x3, .int x4] ((r.map Value.int).toList ++ []) s1 K)))) : tT Y (d + 1) 61 86 [.ref r0, .int x1, .ref r2, .int x3, .int x4] [] s K :=
  (tt_iload (p_61_86 _ _) rfl).mpr ((tt_push (p_61_88 _ _)).mpr (t3_cmp (p := (3 : Int32) ≤ x4) (p_61_89 _ _) rfl (fun g1 => (tt_aload (p_61_106 _ _) rfl).mpr (t2_callv (z := 43) (k := 1) (i := r2) (as := []) (rest := []) (p_61_107 _ _) mK_43 mL_43 rfl rfl (Nat.le_of_ble_eq_true rfl) rfl (Nat.le_of_ble_eq_true rfl) (ifp h g1).1 (ifp h g1).2)) (fun g1 => (tt_aload (p_61_92 _ _) rfl).mpr ((tt_iload (p_61_93 _ _) rfl).mpr ((tt_iload (p_61_94 _ _) rfl).mpr ((tt_aload (p_61_96 _ _) rfl).mpr (t2_callv (z := 63) (k := 4) (i := r0) (as := [.int x3, .int x4, .ref r2]) (rest := []) (p_61_97 _ _) mK_63 mL_63 rfl rfl (Nat.le_of_ble_eq_true rfl) rfl (Nat.le_of_ble_eq_true rfl) (ifn h g1).1 (ifn h g1).2)))))))
theorem b_61_100 {Y : sY} {d : Nat} {s : sT} {K : Option Int32 → sT → Prop} {r0 : Nat} {x1 : Int32} {r2 : Nat} {x3 : Int32} {x4 : Int32} (h : tT Y (d + 1) 61 86 [.ref r0, .int x1, .ref r2, .int x3, .int (x4 + 1)] [] s K) : tT Y (d + 1) 61 100 [.ref r0, .int x1, .ref r2, .int x3, .int x4] [] s K :=
  (tt_iinc (p_61_100 _ _) rfl rfl rfl).mpr ((tt_goto (p_61_103 _ _)).mpr (h))
theorem b_61_110 {Y : sY} {d : Nat} {s : sT} {K : Option Int32 → sT → Prop} {r0 : Nat} {x1 : Int32} {r2 : Nat} {x3 : Int32} {x4 : Int32} (h : tT Y (d + 1) 61 63 [.ref r0, .int x1, .ref r2, .int (x3 + 1), .int x4] [] s K) : tT Y (d + 1) 61 110 [.ref r0, .int x1, .ref r2, .int x3, .int x4] [] s K :=
  (tt_iinc (p_61_110 _ _) rfl rfl rfl).mpr ((tt_goto (p_61_113 _ _)).mpr (h))
/-! InclusionProver$TermFinder.tellTerm.(ILInclusionProver$Side;)V -/
theorem p_62_0 (L : Nat) (xs : Nat → Int32) : ll_P L xs 62 0 = some (.inl (lo_aload 1 0)) := (P_62 L xs 0).trans rfl
theorem p_62_1 (L : Nat) (xs : Nat → Int32) : ll_P L xs 62 1 = some (.inl (lo_getf 4 6 2)) := (P_62 L xs 1).trans rfl
theorem p_62_4 (L : Nat) (xs : Nat → Int32) : ll_P L xs 62 4 = some (.inl (lo_iload 5 1)) := (P_62 L xs 4).trans rfl
theorem p_62_5 (L : Nat) (xs : Nat → Int32) : ll_P L xs 62 5 = some (.inl (lo_ald 6 0)) := (P_62 L xs 5).trans rfl
theorem p_62_6 (L : Nat) (xs : Nat → Int32) : ll_P L xs 62 6 = some (.inl (lo_istore 7 3)) := (P_62 L xs 6).trans rfl
theorem p_62_7 (L : Nat) (xs : Nat → Int32) : ll_P L xs 62 7 = some (.inl (lo_push 8 (.int 1))) := (P_62 L xs 7).trans rfl
theorem p_62_8 (L : Nat) (xs : Nat → Int32) : ll_P L xs 62 8 = some (.inl (lo_istore 10 4)) := (P_62 L xs 8).trans rfl
theorem p_62_10 (L : Nat) (xs : Nat → Int32) : ll_P L xs 62 10 = some (.inl (lo_iload 11 3)) := (P_62 L xs 10).trans rfl
theorem p_62_11 (L : Nat) (xs : Nat → Int32) : ll_P L xs 62 11 = some (.inl (lo_if 27 14 (fun x => decide (¬ x = 0)))) := (P_62 L xs 11).trans rfl
theorem p_62_14 (L : Nat) (xs : Nat → Int32) : ll_P L xs 62 14 = some (.inl (lo_aload 15 0)) := (P_62 L xs 14).trans rfl
theorem p_62_15 (L : Nat) (xs : Nat → Int32) : ll_P L xs 62 15 = some (.inl (lo_getf 18 6 0)) := (P_62 L xs 15).trans rfl
theorem p_62_18 (L : Nat) (xs : Nat → Int32) : ll_P L xs 62 18 = some (.inl (lo_push 19 (.int 1))) := (P_62 L xs 18).trans rfl
theorem p_62_19 (L : Nat) (xs : Nat → Int32) : ll_P L xs 62 19 = some (.inl (lo_push 20 (.int 0))) := (P_62 L xs 19).trans rfl
theorem p_62_20 (L : Nat) (xs : Nat → Int32) : ll_P L xs 62 20 = some (.inl (lo_aload 21 2)) := (P_62 L xs 20).trans rfl
theorem p_62_21 (L : Nat) (xs : Nat → Int32) : ll_P L xs 62 21 = some (.inl (lo_getf 24 5 1)) := (P_62 L xs 21).trans rfl
theorem p_62_24 (L : Nat) (xs : Nat → Int32) : ll_P L xs 62 24 = some (.inr (.inl (93, 4, 27))) := (P_62 L xs 24).trans rfl
theorem p_62_27 (L : Nat) (xs : Nat → Int32) : ll_P L xs 62 27 = some (.inl (lo_push 28 (.int 0))) := (P_62 L xs 27).trans rfl
theorem p_62_28 (L : Nat) (xs : Nat → Int32) : ll_P L xs 62 28 = some (.inl (lo_istore 30 5)) := (P_62 L xs 28).trans rfl
theorem p_62_30 (L : Nat) (xs : Nat → Int32) : ll_P L xs 62 30 = some (.inl (lo_iload 32 5)) := (P_62 L xs 30).trans rfl
theorem p_62_32 (L : Nat) (xs : Nat → Int32) : ll_P L xs 62 32 = some (.inl (lo_iload 33 3)) := (P_62 L xs 32).trans rfl
theorem p_62_33 (L : Nat) (xs : Nat → Int32) : ll_P L xs 62 33 = some (.inl (lo_cmp 103 36 (fun x y => decide (y ≤ x)))) := (P_62 L xs 33).trans rfl
theorem p_62_36 (L : Nat) (xs : Nat → Int32) : ll_P L xs 62 36 = some (.inl (lo_aload 37 0)) := (P_62 L xs 36).trans rfl
theorem p_62_37 (L : Nat) (xs : Nat → Int32) : ll_P L xs 62 37 = some (.inl (lo_getf 40 6 1)) := (P_62 L xs 37).trans rfl
theorem p_62_40 (L : Nat) (xs : Nat → Int32) : ll_P L xs 62 40 = some (.inl (lo_iload 41 1)) := (P_62 L xs 40).trans rfl
theorem p_62_41 (L : Nat) (xs : Nat → Int32) : ll_P L xs 62 41 = some (.inl (lo_push 43 (.int 64))) := (P_62 L xs 41).trans rfl
theorem p_62_43 (L : Nat) (xs : Nat → Int32) : ll_P L xs 62 43 = some (.inl (lo_bin 44 (fun x y => x * y))) := (P_62 L xs 43).trans rfl
theorem p_62_44 (L : Nat) (xs : Nat → Int32) : ll_P L xs 62 44 = some (.inl (lo_iload 46 5)) := (P_62 L xs 44).trans rfl
theorem p_62_46 (L : Nat) (xs : Nat → Int32) : ll_P L xs 62 46 = some (.inl (lo_bin 47 (fun x y => x + y))) := (P_62 L xs 46).trans rfl
theorem p_62_47 (L : Nat) (xs : Nat → Int32) : ll_P L xs 62 47 = some (.inl (lo_ald 48 0)) := (P_62 L xs 47).trans rfl
theorem p_62_48 (L : Nat) (xs : Nat → Int32) : ll_P L xs 62 48 = some (.inl (lo_istore 50 6)) := (P_62 L xs 48).trans rfl
theorem p_62_50 (L : Nat) (xs : Nat → Int32) : ll_P L xs 62 50 = some (.inl (lo_iload 52 4)) := (P_62 L xs 50).trans rfl
theorem p_62_52 (L : Nat) (xs : Nat → Int32) : ll_P L xs 62 52 = some (.inl (lo_if 71 55 (fun x => decide (x = 0)))) := (P_62 L xs 52).trans rfl
theorem p_62_55 (L : Nat) (xs : Nat → Int32) : ll_P L xs 62 55 = some (.inl (lo_aload 56 0)) := (P_62 L xs 55).trans rfl
theorem p_62_56 (L : Nat) (xs : Nat → Int32) : ll_P L xs 62 56 = some (.inl (lo_getf 59 6 0)) := (P_62 L xs 56).trans rfl
theorem p_62_59 (L : Nat) (xs : Nat → Int32) : ll_P L xs 62 59 = some (.inl (lo_iload 61 6)) := (P_62 L xs 59).trans rfl
theorem p_62_61 (L : Nat) (xs : Nat → Int32) : ll_P L xs 62 61 = some (.inr (.inl (86, 2, 64))) := (P_62 L xs 61).trans rfl
theorem p_62_64 (L : Nat) (xs : Nat → Int32) : ll_P L xs 62 64 = some (.inl (lo_if 71 67 (fun x => decide (x = 0)))) := (P_62 L xs 64).trans rfl
theorem p_62_67 (L : Nat) (xs : Nat → Int32) : ll_P L xs 62 67 = some (.inl (lo_push 68 (.int 1))) := (P_62 L xs 67).trans rfl
theorem p_62_68 (L : Nat) (xs : Nat → Int32) : ll_P L xs 62 68 = some (.inl (lo_goto 72)) := (P_62 L xs 68).trans rfl
theorem p_62_71 (L : Nat) (xs : Nat → Int32) : ll_P L xs 62 71 = some (.inl (lo_push 72 (.int 0))) := (P_62 L xs 71).trans rfl
theorem p_62_72 (L : Nat) (xs : Nat → Int32) : ll_P L xs 62 72 = some (.inl (lo_istore 74 4)) := (P_62 L xs 72).trans rfl
theorem p_62_74 (L : Nat) (xs : Nat → Int32) : ll_P L xs 62 74 = some (.inl (lo_aload 75 0)) := (P_62 L xs 74).trans rfl
theorem p_62_75 (L : Nat) (xs : Nat → Int32) : ll_P L xs 62 75 = some (.inl (lo_getf 78 6 0)) := (P_62 L xs 75).trans rfl
theorem p_62_78 (L : Nat) (xs : Nat → Int32) : ll_P L xs 62 78 = some (.inl (lo_iload 80 6)) := (P_62 L xs 78).trans rfl
theorem p_62_80 (L : Nat) (xs : Nat → Int32) : ll_P L xs 62 80 = some (.inl (lo_iload 81 3)) := (P_62 L xs 80).trans rfl
theorem p_62_81 (L : Nat) (xs : Nat → Int32) : ll_P L xs 62 81 = some (.inl (lo_push 82 (.int 1))) := (P_62 L xs 81).trans rfl
theorem p_62_82 (L : Nat) (xs : Nat → Int32) : ll_P L xs 62 82 = some (.inl (lo_cmp 89 85 (fun x y => decide (¬ x = y)))) := (P_62 L xs 82).trans rfl
theorem p_62_85 (L : Nat) (xs : Nat → Int32) : ll_P L xs 62 85 = some (.inl (lo_push 86 (.int 0))) := (P_62 L xs 85).trans rfl
theorem p_62_86 (L : Nat) (xs : Nat → Int32) : ll_P L xs 62 86 = some (.inl (lo_goto 90)) := (P_62 L xs 86).trans rfl
theorem p_62_89 (L : Nat) (xs : Nat → Int32) : ll_P L xs 62 89 = some (.inl (lo_push 90 (.int 1))) := (P_62 L xs 89).trans rfl
theorem p_62_90 (L : Nat) (xs : Nat → Int32) : ll_P L xs 62 90 = some (.inl (lo_aload 91 2)) := (P_62 L xs 90).trans rfl
theorem p_62_91 (L : Nat) (xs : Nat → Int32) : ll_P L xs 62 91 = some (.inl (lo_getf 94 5 1)) := (P_62 L xs 91).trans rfl
theorem p_62_94 (L : Nat) (xs : Nat → Int32) : ll_P L xs 62 94 = some (.inr (.inl (93, 4, 97))) := (P_62 L xs 94).trans rfl
theorem p_62_97 (L : Nat) (xs : Nat → Int32) : ll_P L xs 62 97 = some (.inl (lo_iinc 100 5 1)) := (P_62 L xs 97).trans rfl
theorem p_62_100 (L : Nat) (xs : Nat → Int32) : ll_P L xs 62 100 = some (.inl (lo_goto 30)) := (P_62 L xs 100).trans rfl
theorem p_62_103 (L : Nat) (xs : Nat → Int32) : ll_P L xs 62 103 = some (.inl (lo_aload 104 2)) := (P_62 L xs 103).trans rfl
theorem p_62_104 (L : Nat) (xs : Nat → Int32) : ll_P L xs 62 104 = some (.inl (lo_iload 106 4)) := (P_62 L xs 104).trans rfl
theorem p_62_106 (L : Nat) (xs : Nat → Int32) : ll_P L xs 62 106 = some (.inr (.inl (40, 2, 109))) := (P_62 L xs 106).trans rfl
theorem p_62_109 (L : Nat) (xs : Nat → Int32) : ll_P L xs 62 109 = some (.inr (.inr 0)) := (P_62 L xs 109).trans rfl
theorem b_62_0 {Y : sY} {d : Nat} {s : sT} {K : Option Int32 → sT → Prop} {r0 : Nat} {x1 : Int32} {r2 : Nat} (h : (∃ a1, (isO Y r0 6 ∧ s.2 r0 2 = some a1) ∧ (∃ m3, (isA Y a1 0 m3 ∧ inR x1 m3) ∧ (if ¬ (s.1 a1 (x1).toNatClampNeg) = 0 then tT Y (d + 1) 62 27 [.ref r0, .int x1, .ref r2, .int (s.1 a1 (x1).toNatClampNeg), .int (1 : Int32), .null, .null] [] s K else (∃ a6, (isO Y r0 6 ∧ s.2 r0 0 = some a6) ∧ (∃ a8, (isO Y r2 5 ∧ s.2 r2 1 = some a8) ∧ (isO Y a6 8 ∧ tT Y d 93 0 [.ref a6, .int (1 : Int32), .int (0 : Int32), .ref a8] [] s (fun r s1 => tT Y (d + 1) 62 27 [.ref r0, .int x1, .ref r2, .int (s.1 a1 (x1).toNatClampNeg), .int (1 : Int32), .null, .null] ((r.map Value.int).toList ++ []) s1 K)))))))) : tT Y (d + 1) 62 0 [.ref r0, .int x1, .ref r2, .null, .null, .null, .null] [] s K :=
  (tt_aload (p_62_0 _ _) rfl).mpr (Exists.elim h (fun a1 h2 => t3_getr (p_62_1 _ _) (isI_6_2) h2.1.1 h2.1.2 ((tt_iload (p_62_4 _ _) rfl).mpr (Exists.elim h2.2 (fun m3 h4 => t3_ald (p_62_5 _ _) h4.1.1 h4.1.2 ((tt_istore (p_62_6 _ _) (Nat.le_of_ble_eq_true rfl) rfl rfl).mpr ((tt_push (p_62_7 _ _)).mpr ((tt_istore (p_62_8 _ _) (Nat.le_of_ble_eq_true rfl) rfl rfl).mpr ((tt_iload (p_62_10 _ _) rfl).mpr (t3_if (p := ¬ (s.1 a1 (x1).toNatClampNeg) = 0) (p_62_11 _ _) rfl (fun g5 => (ifp h4.2 g5)) (fun g5 => (tt_aload (p_62_14 _ _) rfl).mpr (Exists.elim (ifn h4.2 g5) (fun a6 h7 => t3_getr (p_62_15 _ _) (isI_6_0) h7.1.1 h7.1.2 ((tt_push (p_62_18 _ _)).mpr ((tt_push (p_62_19 _ _)).mpr ((tt_aload (p_62_20 _ _) rfl).mpr (Exists.elim h7.2 (fun a8 h9 => t3_getr (p_62_21 _ _) (isI_5_1) h9.1.1 h9.1.2 (t2_callv (z := 93) (k := 4) (i := a6) (as := [.int (1 : Int32), .int (0 : Int32), .ref a8]) (rest := []) (p_62_24 _ _) mK_93 mL_93 rfl rfl (Nat.le_of_ble_eq_true rfl) rfl (Nat.le_of_ble_eq_true rfl) h9.2.1 h9.2.2)))))))))))))))))))
theorem b_62_27 {Y : sY} {d : Nat} {s : sT} {K : Option Int32 → sT → Prop} {r0 : Nat} {x1 : Int32} {r2 : Nat} {x3 : Int32} {x4 : Int32} (h : tT Y (d + 1) 62 30 [.ref r0, .int x1, .ref r2, .int x3, .int x4, .int (0 : Int32), .null] [] s K) : tT Y (d + 1) 62 27 [.ref r0, .int x1, .ref r2, .int x3, .int x4, .null, .null] [] s K :=
  (tt_push (p_62_27 _ _)).mpr ((tt_istore (p_62_28 _ _) (Nat.le_of_ble_eq_true rfl) rfl rfl).mpr (h))
theorem b_62_30 {Y : sY} {d : Nat} {s : sT} {K : Option Int32 → sT → Prop} {r0 : Nat} {x1 : Int32} {r2 : Nat} {x3 : Int32} {x4 : Int32} {x5 : Int32} {u6 : Value} (h : (if x3 ≤ x5 then (isO Y r2 5 ∧ tT Y d 40 0 [.ref r2, .int x4] [] s (fun r s1 => tT Y (d + 1) 62 109 [.ref r0, .int x1, .ref r2, .int x3, .int x4, .int x5, u6] ((r.map Value.int).toList ++ []) s1 K)) else (∃ a2, (isO Y r0 6 ∧ s.2 r0 1 = some a2) ∧ (∃ m4, (isA Y a2 0 m4 ∧ inR ((x1 * (64 : Int32)) + x5) m4) ∧ (if x4 = 0 then tT Y (d + 1) 62 71 [.ref r0, .int x1, .ref r2, .int x3, .int x4, .int x5, .int (s.1 a2 (((x1 * (64 : Int32)) + x5)).toNatClampNeg)] [] s K else (∃ a7, (isO Y r0 6 ∧ s.2 r0 0 = some a7) ∧ (isO Y a7 8 ∧ tT Y d 86 0 [.ref a7, .int (s.1 a2 (((x1 * (64 : Int32)) + x5)).toNatClampNeg)] [] s (fun r s1 => tT Y (d + 1) 62 64 [.ref r0, .int x1, .ref r2, .int x3, .int x4, .int x5, .int (s.1 a2 (((x1 * (64 : Int32)) + x5)).toNatClampNeg)] ((r.map Value.int).toList ++ []) s1 K)))))))) : tT Y (d + 1) 62 30 [.ref r0, .int x1, .ref r2, .int x3, .int x4, .int x5, u6] [] s K :=
  (tt_iload (p_62_30 _ _) rfl).mpr ((tt_iload (p_62_32 _ _) rfl).mpr (t3_cmp (p := x3 ≤ x5) (p_62_33 _ _) rfl (fun g1 => (tt_aload (p_62_103 _ _) rfl).mpr ((tt_iload (p_62_104 _ _) rfl).mpr (t2_callv (z := 40) (k := 2) (i := r2) (as := [.int x4]) (rest := []) (p_62_106 _ _) mK_40 mL_40 rfl rfl (Nat.le_of_ble_eq_true rfl) rfl (Nat.le_of_ble_eq_true rfl) (ifp h g1).1 (ifp h g1).2))) (fun g1 => (tt_aload (p_62_36 _ _) rfl).mpr (Exists.elim (ifn h g1) (fun a2 h3 => t3_getr (p_62_37 _ _) (isI_6_1) h3.1.1 h3.1.2 ((tt_iload (p_62_40 _ _) rfl).mpr ((tt_push (p_62_41 _ _)).mpr ((tt_bin (p_62_43 _ _)).mpr ((tt_iload (p_62_44 _ _) rfl).mpr ((tt_bin (p_62_46 _ _)).mpr (Exists.elim h3.2 (fun m4 h5 => t3_ald (p_62_47 _ _) h5.1.1 h5.1.2 ((tt_istore (p_62_48 _ _) (Nat.le_of_ble_eq_true rfl) rfl rfl).mpr ((tt_iload (p_62_50 _ _) rfl).mpr (t3_if (p := x4 = 0) (p_62_52 _ _) rfl (fun g6 => (ifp h5.2 g6)) (fun g6 => (tt_aload (p_62_55 _ _) rfl).mpr (Exists.elim (ifn h5.2 g6) (fun a7 h8 => t3_getr (p_62_56 _ _) (isI_6_0) h8.1.1 h8.1.2 ((tt_iload (p_62_59 _ _) rfl).mpr (t2_callv (z := 86) (k := 2) (i := a7) (as := [.int (s.1 a2 (((x1 * (64 : Int32)) + x5)).toNatClampNeg)]) (rest := []) (p_62_61 _ _) mK_86 mL_86 rfl rfl (Nat.le_of_ble_eq_true rfl) rfl (Nat.le_of_ble_eq_true rfl) h8.2.1 h8.2.2))))))))))))))))))))
theorem b_62_64 {Y : sY} {d : Nat} {s : sT} {K : Option Int32 → sT → Prop} {r0 : Nat} {x1 : Int32} {r2 : Nat} {x3 : Int32} {x4 : Int32} {x5 : Int32} {x6 : Int32} {t0 : Int32} (h : (if t0 = 0 then tT Y (d + 1) 62 71 [.ref r0, .int x1, .ref r2, .int x3, .int x4, .int x5, .int x6] [] s K else tT Y (d + 1) 62 72 [.ref r0, .int x1, .ref r2, .int x3, .int x4, .int x5, .int x6] [.int (1 : Int32)] s K)) : tT Y (d + 1) 62 64 [.ref r0, .int x1, .ref r2, .int x3, .int x4, .int x5, .int x6] [.int t0] s K :=
  t3_if (p := t0 = 0) (p_62_64 _ _) rfl (fun g1 => (ifp h g1)) (fun g1 => (tt_push (p_62_67 _ _)).mpr ((tt_goto (p_62_68 _ _)).mpr ((ifn h g1))))
theorem b_62_71 {Y : sY} {d : Nat} {s : sT} {K : Option Int32 → sT → Prop} {r0 : Nat} {x1 : Int32} {r2 : Nat} {x3 : Int32} {x4 : Int32} {x5 : Int32} {x6 : Int32} (h : tT Y (d + 1) 62 72 [.ref r0, .int x1, .ref r2, .int x3, .int x4, .int x5, .int x6] [.int (0 : Int32)] s K) : tT Y (d + 1) 62 71 [.ref r0, .int x1, .ref r2, .int x3, .int x4, .int x5, .int x6] [] s K :=
  (tt_push (p_62_71 _ _)).mpr (h)
theorem b_62_72 {Y : sY} {d : Nat} {s : sT} {K : Option Int32 → sT → Prop} {r0 : Nat} {x1 : Int32} {r2 : Nat} {x3 : Int32} {x4 : Int32} {x5 : Int32} {x6 : Int32} {t0 : Int32} (h : (∃ a1, (isO Y r0 6 ∧ s.2 r0 0 = some a1) ∧ (if ¬ x3 = (1 : Int32) then tT Y (d + 1) 62 90 [.ref r0, .int x1, .ref r2, .int x3, .int t0, .int x5, .int x6] [.int (1 : Int32), .int x6, .ref a1] s K else tT Y (d + 1) 62 90 [.ref r0, .int x1, .ref r2, .int x3, .int t0, .int x5, .int x6] [.int (0 : Int32), .int x6, .ref a1] s K))) : tT Y (d + 1) 62 72 [.ref r0, .int x1, .ref r2, .int x3, .int x4, .int x5, .int x6] [.int t0] s K :=
  (tt_istore (p_62_72 _ _) (Nat.le_of_ble_eq_true rfl) rfl rfl).mpr ((tt_aload (p_62_74 _ _) rfl).mpr (Exists.elim h (fun a1 h2 => t3_getr (p_62_75 _ _) (isI_6_0) h2.1.1 h2.1.2 ((tt_iload (p_62_78 _ _) rfl).mpr ((tt_iload (p_62_80 _ _) rfl).mpr ((tt_push (p_62_81 _ _)).mpr (t3_cmp (p := ¬ x3 = (1 : Int32)) (p_62_82 _ _) rfl (fun g3 => (tt_push (p_62_89 _ _)).mpr ((ifp h2.2 g3))) (fun g3 => (tt_push (p_62_85 _ _)).mpr ((tt_goto (p_62_86 _ _)).mpr ((ifn h2.2 g3)))))))))))
theorem b_62_90 {Y : sY} {d : Nat} {s : sT} {K : Option Int32 → sT → Prop} {r0 : Nat} {x1 : Int32} {r2 : Nat} {x3 : Int32} {x4 : Int32} {x5 : Int32} {x6 : Int32} {t0 : Nat} {t1 : Int32} {t2 : Int32} (h : (∃ a1, (isO Y r2 5 ∧ s.2 r2 1 = some a1) ∧ (isO Y t0 8 ∧ tT Y d 93 0 [.ref t0, .int t1, .int t2, .ref a1] [] s (fun r s1 => tT Y (d + 1) 62 97 [.ref r0, .int x1, .ref r2, .int x3, .int x4, .int x5, .int x6] ((r.map Value.int).toList ++ []) s1 K)))) : tT Y (d + 1) 62 90 [.ref r0, .int x1, .ref r2, .int x3, .int x4, .int x5, .int x6] [.int t2, .int t1, .ref t0] s K :=
  (tt_aload (p_62_90 _ _) rfl).mpr (Exists.elim h (fun a1 h2 => t3_getr (p_62_91 _ _) (isI_5_1) h2.1.1 h2.1.2 (t2_callv (z := 93) (k := 4) (i := t0) (as := [.int t1, .int t2, .ref a1]) (rest := []) (p_62_94 _ _) mK_93 mL_93 rfl rfl (Nat.le_of_ble_eq_true rfl) rfl (Nat.le_of_ble_eq_true rfl) h2.2.1 h2.2.2)))
theorem b_62_97 {Y : sY} {d : Nat} {s : sT} {K : Option Int32 → sT → Prop} {r0 : Nat} {x1 : Int32} {r2 : Nat} {x3 : Int32} {x4 : Int32} {x5 : Int32} {x6 : Int32} (h : tT Y (d + 1) 62 30 [.ref r0, .int x1, .ref r2, .int x3, .int x4, .int (x5 + 1), .int x6] [] s K) : tT Y (d + 1) 62 97 [.ref r0, .int x1, .ref r2, .int x3, .int x4, .int x5, .int x6] [] s K :=
  (tt_iinc (p_62_97 _ _) rfl rfl rfl).mpr ((tt_goto (p_62_100 _ _)).mpr (h))
theorem b_62_109 {Y : sY} {d : Nat} {s : sT} {K : Option Int32 → sT → Prop} {r0 : Nat} {x1 : Int32} {r2 : Nat} {x3 : Int32} {x4 : Int32} {x5 : Int32} {u6 : Value} (h : K none s) : tT Y (d + 1) 62 109 [.ref r0, .int x1, .ref r2, .int x3, .int x4, .int x5, u6] [] s K :=
  tt_ret0 (p_62_109 _ _) h
/-! InclusionProver$TermFinder.findParts.(IILInclusionProver$Side;)V -/
theorem p_63_0 (L : Nat) (xs : Nat → Int32) : ll_P L xs 63 0 = some (.inl (lo_aload 1 0)) := (P_63 L xs 0).trans rfl
theorem p_63_1 (L : Nat) (xs : Nat → Int32) : ll_P L xs 63 1 = some (.inl (lo_push 2 (.int 2))) := (P_63 L xs 1).trans rfl
theorem p_63_2 (L : Nat) (xs : Nat → Int32) : ll_P L xs 63 2 = some (.inl (lo_iload 3 2)) := (P_63 L xs 2).trans rfl
theorem p_63_3 (L : Nat) (xs : Nat → Int32) : ll_P L xs 63 3 = some (.inl (lo_bin 4 (fun x y => x + y))) := (P_63 L xs 3).trans rfl
theorem p_63_4 (L : Nat) (xs : Nat → Int32) : ll_P L xs 63 4 = some (.inl (lo_putf 7 6 7 0)) := (P_63 L xs 4).trans rfl
theorem p_63_7 (L : Nat) (xs : Nat → Int32) : ll_P L xs 63 7 = some (.inl (lo_aload 8 3)) := (P_63 L xs 7).trans rfl
theorem p_63_8 (L : Nat) (xs : Nat → Int32) : ll_P L xs 63 8 = some (.inl (lo_iload 9 2)) := (P_63 L xs 8).trans rfl
theorem p_63_9 (L : Nat) (xs : Nat → Int32) : ll_P L xs 63 9 = some (.inr (.inl (41, 2, 12))) := (P_63 L xs 9).trans rfl
theorem p_63_12 (L : Nat) (xs : Nat → Int32) : ll_P L xs 63 12 = some (.inl (lo_aload 13 0)) := (P_63 L xs 12).trans rfl
theorem p_63_13 (L : Nat) (xs : Nat → Int32) : ll_P L xs 63 13 = some (.inl (lo_push 14 (.int 0))) := (P_63 L xs 13).trans rfl
theorem p_63_14 (L : Nat) (xs : Nat → Int32) : ll_P L xs 63 14 = some (.inl (lo_putf 17 6 5 0)) := (P_63 L xs 14).trans rfl
theorem p_63_17 (L : Nat) (xs : Nat → Int32) : ll_P L xs 63 17 = some (.inl (lo_aload 18 0)) := (P_63 L xs 17).trans rfl
theorem p_63_18 (L : Nat) (xs : Nat → Int32) : ll_P L xs 63 18 = some (.inl (lo_getf 21 6 2)) := (P_63 L xs 18).trans rfl
theorem p_63_21 (L : Nat) (xs : Nat → Int32) : ll_P L xs 63 21 = some (.inl (lo_iload 22 1)) := (P_63 L xs 21).trans rfl
theorem p_63_22 (L : Nat) (xs : Nat → Int32) : ll_P L xs 63 22 = some (.inl (lo_ald 23 0)) := (P_63 L xs 22).trans rfl
theorem p_63_23 (L : Nat) (xs : Nat → Int32) : ll_P L xs 63 23 = some (.inl (lo_push 24 (.int 1))) := (P_63 L xs 23).trans rfl
theorem p_63_24 (L : Nat) (xs : Nat → Int32) : ll_P L xs 63 24 = some (.inl (lo_bin 25 (fun x y => x - y))) := (P_63 L xs 24).trans rfl
theorem p_63_25 (L : Nat) (xs : Nat → Int32) : ll_P L xs 63 25 = some (.inl (lo_istore 27 4)) := (P_63 L xs 25).trans rfl
theorem p_63_27 (L : Nat) (xs : Nat → Int32) : ll_P L xs 63 27 = some (.inl (lo_iload 29 4)) := (P_63 L xs 27).trans rfl
theorem p_63_29 (L : Nat) (xs : Nat → Int32) : ll_P L xs 63 29 = some (.inl (lo_if 54 32 (fun x => decide (x < 0)))) := (P_63 L xs 29).trans rfl
theorem p_63_32 (L : Nat) (xs : Nat → Int32) : ll_P L xs 63 32 = some (.inl (lo_aload 33 0)) := (P_63 L xs 32).trans rfl
theorem p_63_33 (L : Nat) (xs : Nat → Int32) : ll_P L xs 63 33 = some (.inl (lo_aload 34 0)) := (P_63 L xs 33).trans rfl
theorem p_63_34 (L : Nat) (xs : Nat → Int32) : ll_P L xs 63 34 = some (.inl (lo_getf 37 6 1)) := (P_63 L xs 34).trans rfl
theorem p_63_37 (L : Nat) (xs : Nat → Int32) : ll_P L xs 63 37 = some (.inl (lo_iload 38 1)) := (P_63 L xs 37).trans rfl
theorem p_63_38 (L : Nat) (xs : Nat → Int32) : ll_P L xs 63 38 = some (.inl (lo_push 40 (.int 64))) := (P_63 L xs 38).trans rfl
theorem p_63_40 (L : Nat) (xs : Nat → Int32) : ll_P L xs 63 40 = some (.inl (lo_bin 41 (fun x y => x * y))) := (P_63 L xs 40).trans rfl
theorem p_63_41 (L : Nat) (xs : Nat → Int32) : ll_P L xs 63 41 = some (.inl (lo_iload 43 4)) := (P_63 L xs 41).trans rfl
theorem p_63_43 (L : Nat) (xs : Nat → Int32) : ll_P L xs 63 43 = some (.inl (lo_bin 44 (fun x y => x + y))) := (P_63 L xs 43).trans rfl
theorem p_63_44 (L : Nat) (xs : Nat → Int32) : ll_P L xs 63 44 = some (.inl (lo_ald 45 0)) := (P_63 L xs 44).trans rfl
theorem p_63_45 (L : Nat) (xs : Nat → Int32) : ll_P L xs 63 45 = some (.inr (.inl (67, 2, 48))) := (P_63 L xs 45).trans rfl
theorem p_63_48 (L : Nat) (xs : Nat → Int32) : ll_P L xs 63 48 = some (.inl (lo_iinc 51 4 (-1))) := (P_63 L xs 48).trans rfl
theorem p_63_51 (L : Nat) (xs : Nat → Int32) : ll_P L xs 63 51 = some (.inl (lo_goto 27)) := (P_63 L xs 51).trans rfl
theorem p_63_54 (L : Nat) (xs : Nat → Int32) : ll_P L xs 63 54 = some (.inl (lo_aload 55 0)) := (P_63 L xs 54).trans rfl
theorem p_63_55 (L : Nat) (xs : Nat → Int32) : ll_P L xs 63 55 = some (.inl (lo_push 56 (.int 0))) := (P_63 L xs 55).trans rfl
theorem p_63_56 (L : Nat) (xs : Nat → Int32) : ll_P L xs 63 56 = some (.inl (lo_aload 57 3)) := (P_63 L xs 56).trans rfl
theorem p_63_57 (L : Nat) (xs : Nat → Int32) : ll_P L xs 63 57 = some (.inl (lo_push 58 (.int 0))) := (P_63 L xs 57).trans rfl
theorem p_63_58 (L : Nat) (xs : Nat → Int32) : ll_P L xs 63 58 = some (.inr (.inl (64, 4, 61))) := (P_63 L xs 58).trans rfl
theorem p_63_61 (L : Nat) (xs : Nat → Int32) : ll_P L xs 63 61 = some (.inr (.inr 0)) := (P_63 L xs 61).trans rfl
theorem b_63_0 {Y : sY} {d : Nat} {s : sT} {K : Option Int32 → sT → Prop} {r0 : Nat} {x1 : Int32} {x2 : Int32} {r3 : Nat} (h : (isO Y r0 6 ∧ (isO Y r3 5 ∧ tT Y d 41 0 [.ref r3, .int x2] [] (pV s r0 7 ((2 : Int32) + x2)) (fun r s1 => tT Y (d + 1) 63 12 [.ref r0, .int x1, .int x2, .ref r3, .null] ((r.map Value.int).toList ++ []) s1 K)))) : tT Y (d + 1) 63 0 [.ref r0, .int x1, .int x2, .ref r3, .null] [] s K :=
  (tt_aload (p_63_0 _ _) rfl).mpr ((tt_push (p_63_1 _ _)).mpr ((tt_iload (p_63_2 _ _) rfl).mpr ((tt_bin (p_63_3 _ _)).mpr ((t2_puti (p_63_4 _ _) isI_6_7 h.1).mpr ((tt_aload (p_63_7 _ _) rfl).mpr ((tt_iload (p_63_8 _ _) rfl).mpr (t2_callv (z := 41) (k := 2) (i := r3) (as := [.int x2]) (rest := []) (p_63_9 _ _) mK_41 mL_41 rfl rfl (Nat.le_of_ble_eq_true rfl) rfl (Nat.le_of_ble_eq_true rfl) h.2.1 h.2.2)))))))
theorem b_63_12 {Y : sY} {d : Nat} {s : sT} {K : Option Int32 → sT → Prop} {r0 : Nat} {x1 : Int32} {x2 : Int32} {r3 : Nat} (h : (isO Y r0 6 ∧ (∃ a1, (isO Y r0 6 ∧ (pV s r0 5 (0 : Int32)).2 r0 2 = some a1) ∧ (∃ m3, (isA Y a1 0 m3 ∧ inR x1 m3) ∧ tT Y (d + 1) 63 27 [.ref r0, .int x1, .int x2, .ref r3, .int (((pV s r0 5 (0 : Int32)).1 a1 (x1).toNatClampNeg) - (1 : Int32))] [] (pV s r0 5 (0 : Int32)) K)))) : tT Y (d + 1) 63 12 [.ref r0, .int x1, .int x2, .ref r3, .null] [] s K :=
  (tt_aload (p_63_12 _ _) rfl).mpr ((tt_push (p_63_13 _ _)).mpr ((t2_puti (p_63_14 _ _) isI_6_5 h.1).mpr ((tt_aload (p_63_17 _ _) rfl).mpr (Exists.elim h.2 (fun a1 h2 => t3_getr (p_63_18 _ _) (isI_6_2) h2.1.1 h2.1.2 ((tt_iload (p_63_21 _ _) rfl).mpr (Exists.elim h2.2 (fun m3 h4 => t3_ald (p_63_22 _ _) h4.1.1 h4.1.2 ((tt_push (p_63_23 _ _)).mpr ((tt_bin (p_63_24 _ _)).mpr ((tt_istore (p_63_25 _ _) (Nat.le_of_ble_eq_true rfl) rfl rfl).mpr (h4.2))))))))))))
theorem b_63_27 {Y : sY} {d : Nat} {s : sT} {K : Option Int32 → sT → Prop} {r0 : Nat} {x1 : Int32} {x2 : Int32} {r3 : Nat} {x4 : Int32} (h : (if x4 < 0 then (isO Y r0 6 ∧ tT Y d 64 0 [.ref r0, .int (0 : Int32), .ref r3, .int (0 : Int32), .null, .null, .null] [] s (fun r s1 => tT Y (d + 1) 63 61 [.ref r0, .int x1, .int x2, .ref r3, .int x4] ((r.map Value.int).toList ++ []) s1 K)) else (∃ a2, (isO Y r0 6 ∧ s.2 r0 1 = some a2) ∧ (∃ m4, (isA Y a2 0 m4 ∧ inR ((x1 * (64 : Int32)) + x4) m4) ∧ (isO Y r0 6 ∧ tT Y d 67 0 [.ref r0, .int (s.1 a2 (((x1 * (64 : Int32)) + x4)).toNatClampNeg)] [] s (fun r s1 => tT Y (d + 1) 63 48 [.ref r0, .int x1, .int x2, .ref r3, .int x4] ((r.map Value.int).toList ++ []) s1 K)))))) : tT Y (d + 1) 63 27 [.ref r0, .int x1, .int x2, .ref r3, .int x4] [] s K :=
  (tt_iload (p_63_27 _ _) rfl).mpr (t3_if (p := x4 < 0) (p_63_29 _ _) rfl (fun g1 => (tt_aload (p_63_54 _ _) rfl).mpr ((tt_push (p_63_55 _ _)).mpr ((tt_aload (p_63_56 _ _) rfl).mpr ((tt_push (p_63_57 _ _)).mpr (t2_callv (z := 64) (k := 4) (i := r0) (as := [.int (0 : Int32), .ref r3, .int (0 : Int32)]) (rest := []) (p_63_58 _ _) mK_64 mL_64 rfl rfl (Nat.le_of_ble_eq_true rfl) rfl (Nat.le_of_ble_eq_true rfl) (ifp h g1).1 (ifp h g1).2))))) (fun g1 => (tt_aload (p_63_32 _ _) rfl).mpr ((tt_aload (p_63_33 _ _) rfl).mpr (Exists.elim (ifn h g1) (fun a2 h3 => t3_getr (p_63_34 _ _) (isI_6_1) h3.1.1 h3.1.2 ((tt_iload (p_63_37 _ _) rfl).mpr ((tt_push (p_63_38 _ _)).mpr ((tt_bin (p_63_40 _ _)).mpr ((tt_iload (p_63_41 _ _) rfl).mpr ((tt_bin (p_63_43 _ _)).mpr (Exists.elim h3.2 (fun m4 h5 => t3_ald (p_63_44 _ _) h5.1.1 h5.1.2 (t2_callv (z := 67) (k := 2) (i := r0) (as := [.int (s.1 a2 (((x1 * (64 : Int32)) + x4)).toNatClampNeg)]) (rest := []) (p_63_45 _ _) mK_67 mL_67 rfl rfl (Nat.le_of_ble_eq_true rfl) rfl (Nat.le_of_ble_eq_true rfl) h5.2.1 h5.2.2)))))))))))))
theorem b_63_48 {Y : sY} {d : Nat} {s : sT} {K : Option Int32 → sT → Prop} {r0 : Nat} {x1 : Int32} {x2 : Int32} {r3 : Nat} {x4 : Int32} (h : tT Y (d + 1) 63 27 [.ref r0, .int x1, .int x2, .ref r3, .int (x4 + (-1))] [] s K) : tT Y (d + 1) 63 48 [.ref r0, .int x1, .int x2, .ref r3, .int x4] [] s K :=
  (tt_iinc (p_63_48 _ _) rfl rfl rfl).mpr ((tt_goto (p_63_51 _ _)).mpr (h))
theorem b_63_61 {Y : sY} {d : Nat} {s : sT} {K : Option Int32 → sT → Prop} {r0 : Nat} {x1 : Int32} {x2 : Int32} {r3 : Nat} {x4 : Int32} (h : K none s) : tT Y (d + 1) 63 61 [.ref r0, .int x1, .int x2, .ref r3, .int x4] [] s K :=
  tt_ret0 (p_63_61 _ _) h
/-! InclusionProver$TermFinder.gatherFactors.(ILInclusionProver$Side;I)V -/
theorem p_64_0 (L : Nat) (xs : Nat → Int32) : ll_P L xs 64 0 = some (.inl (lo_push 1 (.int 1))) := (P_64 L xs 0).trans rfl
theorem p_64_1 (L : Nat) (xs : Nat → Int32) : ll_P L xs 64 1 = some (.inl (lo_istore 3 4)) := (P_64 L xs 1).trans rfl
theorem p_64_3 (L : Nat) (xs : Nat → Int32) : ll_P L xs 64 3 = some (.inl (lo_aload 4 0)) := (P_64 L xs 3).trans rfl
theorem p_64_4 (L : Nat) (xs : Nat → Int32) : ll_P L xs 64 4 = some (.inl (lo_getf 7 6 5)) := (P_64 L xs 4).trans rfl
theorem p_64_7 (L : Nat) (xs : Nat → Int32) : ll_P L xs 64 7 = some (.inl (lo_push 8 (.int 1))) := (P_64 L xs 7).trans rfl
theorem p_64_8 (L : Nat) (xs : Nat → Int32) : ll_P L xs 64 8 = some (.inl (lo_bin 9 (fun x y => x - y))) := (P_64 L xs 8).trans rfl
theorem p_64_9 (L : Nat) (xs : Nat → Int32) : ll_P L xs 64 9 = some (.inl (lo_istore 11 5)) := (P_64 L xs 9).trans rfl
theorem p_64_11 (L : Nat) (xs : Nat → Int32) : ll_P L xs 64 11 = some (.inl (lo_iload 13 5)) := (P_64 L xs 11).trans rfl
theorem p_64_13 (L : Nat) (xs : Nat → Int32) : ll_P L xs 64 13 = some (.inl (lo_iload 14 1)) := (P_64 L xs 13).trans rfl
theorem p_64_14 (L : Nat) (xs : Nat → Int32) : ll_P L xs 64 14 = some (.inl (lo_cmp 62 17 (fun x y => decide (x < y)))) := (P_64 L xs 14).trans rfl
theorem p_64_17 (L : Nat) (xs : Nat → Int32) : ll_P L xs 64 17 = some (.inl (lo_iload 19 4)) := (P_64 L xs 17).trans rfl
theorem p_64_19 (L : Nat) (xs : Nat → Int32) : ll_P L xs 64 19 = some (.inl (lo_if 62 22 (fun x => decide (x = 0)))) := (P_64 L xs 19).trans rfl
theorem p_64_22 (L : Nat) (xs : Nat → Int32) : ll_P L xs 64 22 = some (.inl (lo_aload 23 0)) := (P_64 L xs 22).trans rfl
theorem p_64_23 (L : Nat) (xs : Nat → Int32) : ll_P L xs 64 23 = some (.inl (lo_getf 26 6 3)) := (P_64 L xs 23).trans rfl
theorem p_64_26 (L : Nat) (xs : Nat → Int32) : ll_P L xs 64 26 = some (.inl (lo_iload 28 5)) := (P_64 L xs 26).trans rfl
theorem p_64_28 (L : Nat) (xs : Nat → Int32) : ll_P L xs 64 28 = some (.inl (lo_ald 29 0)) := (P_64 L xs 28).trans rfl
theorem p_64_29 (L : Nat) (xs : Nat → Int32) : ll_P L xs 64 29 = some (.inl (lo_istore 31 6)) := (P_64 L xs 29).trans rfl
theorem p_64_31 (L : Nat) (xs : Nat → Int32) : ll_P L xs 64 31 = some (.inl (lo_aload 32 0)) := (P_64 L xs 31).trans rfl
theorem p_64_32 (L : Nat) (xs : Nat → Int32) : ll_P L xs 64 32 = some (.inl (lo_iload 34 5)) := (P_64 L xs 32).trans rfl
theorem p_64_34 (L : Nat) (xs : Nat → Int32) : ll_P L xs 64 34 = some (.inl (lo_putf 37 6 5 0)) := (P_64 L xs 34).trans rfl
theorem p_64_37 (L : Nat) (xs : Nat → Int32) : ll_P L xs 64 37 = some (.inl (lo_aload 38 0)) := (P_64 L xs 37).trans rfl
theorem p_64_38 (L : Nat) (xs : Nat → Int32) : ll_P L xs 64 38 = some (.inl (lo_iload 40 6)) := (P_64 L xs 38).trans rfl
theorem p_64_40 (L : Nat) (xs : Nat → Int32) : ll_P L xs 64 40 = some (.inl (lo_aload 41 2)) := (P_64 L xs 40).trans rfl
theorem p_64_41 (L : Nat) (xs : Nat → Int32) : ll_P L xs 64 41 = some (.inl (lo_iload 42 3)) := (P_64 L xs 41).trans rfl
theorem p_64_42 (L : Nat) (xs : Nat → Int32) : ll_P L xs 64 42 = some (.inr (.inl (65, 4, 45))) := (P_64 L xs 42).trans rfl
theorem p_64_45 (L : Nat) (xs : Nat → Int32) : ll_P L xs 64 45 = some (.inl (lo_aload 46 0)) := (P_64 L xs 45).trans rfl
theorem p_64_46 (L : Nat) (xs : Nat → Int32) : ll_P L xs 64 46 = some (.inl (lo_getf 49 6 0)) := (P_64 L xs 46).trans rfl
theorem p_64_49 (L : Nat) (xs : Nat → Int32) : ll_P L xs 64 49 = some (.inl (lo_iload 51 6)) := (P_64 L xs 49).trans rfl
theorem p_64_51 (L : Nat) (xs : Nat → Int32) : ll_P L xs 64 51 = some (.inr (.inl (86, 2, 54))) := (P_64 L xs 51).trans rfl
theorem p_64_54 (L : Nat) (xs : Nat → Int32) : ll_P L xs 64 54 = some (.inl (lo_istore 56 4)) := (P_64 L xs 54).trans rfl
theorem p_64_56 (L : Nat) (xs : Nat → Int32) : ll_P L xs 64 56 = some (.inl (lo_iinc 59 5 (-1))) := (P_64 L xs 56).trans rfl
theorem p_64_59 (L : Nat) (xs : Nat → Int32) : ll_P L xs 64 59 = some (.inl (lo_goto 11)) := (P_64 L xs 59).trans rfl
theorem p_64_62 (L : Nat) (xs : Nat → Int32) : ll_P L xs 64 62 = some (.inl (lo_aload 63 0)) := (P_64 L xs 62).trans rfl
theorem p_64_63 (L : Nat) (xs : Nat → Int32) : ll_P L xs 64 63 = some (.inl (lo_iload 64 1)) := (P_64 L xs 63).trans rfl
theorem p_64_64 (L : Nat) (xs : Nat → Int32) : ll_P L xs 64 64 = some (.inl (lo_putf 67 6 5 0)) := (P_64 L xs 64).trans rfl
theorem p_64_67 (L : Nat) (xs : Nat → Int32) : ll_P L xs 64 67 = some (.inr (.inr 0)) := (P_64 L xs 67).trans rfl
theorem b_64_0 {Y : sY} {d : Nat} {s : sT} {K : Option Int32 → sT → Prop} {r0 : Nat} {x1 : Int32} {r2 : Nat} {x3 : Int32} (h : (isO Y r0 6 ∧ tT Y (d + 1) 64 11 [.ref r0, .int x1, .ref r2, .int x3, .int (1 : Int32), .int ((s.1 r0 5) - (1 : Int32)), .null] [] s K)) : tT Y (d + 1) 64 0 [.ref r0, .int x1, .ref r2, .int x3, .null, .null, .null] [] s K :=
  (tt_push (p_64_0 _ _)).mpr ((tt_istore (p_64_1 _ _) (Nat.le_of_ble_eq_true rfl) rfl rfl).mpr ((tt_aload (p_64_3 _ _) rfl).mpr (t3_geti (p_64_4 _ _) (isI_6_5) h.1 ((tt_push (p_64_7 _ _)).mpr ((tt_bin (p_64_8 _ _)).mpr ((tt_istore (p_64_9 _ _) (Nat.le_of_ble_eq_true rfl) rfl rfl).mpr (h.2)))))))
theorem b_64_11 {Y : sY} {d : Nat} {s : sT} {K : Option Int32 → sT → Prop} {r0 : Nat} {x1 : Int32} {r2 : Nat} {x3 : Int32} {x4 : Int32} {x5 : Int32} {u6 : Value} (h : (if x5 < x1 then (isO Y r0 6 ∧ K none (pV s r0 5 x1)) else (if x4 = 0 then (isO Y r0 6 ∧ K none (pV s r0 5 x1)) else (∃ a3, (isO Y r0 6 ∧ s.2 r0 3 = some a3) ∧ (∃ m5, (isA Y a3 0 m5 ∧ inR x5 m5) ∧ (isO Y r0 6 ∧ (isO Y r0 6 ∧ tT Y d 65 0 [.ref r0, .int (s.1 a3 (x5).toNatClampNeg), .ref r2, .int x3, .null, .null] [] (pV s r0 5 x5) (fun r s1 => tT Y (d + 1) 64 45 [.ref r0, .int x1, .ref r2, .int x3, .int x4, .int x5, .int (s.1 a3 (x5).toNatClampNeg)] ((r.map Value.int).toList ++ []) s1 K)))))))) : tT Y (d + 1) 64 11 [.ref r0, .int x1, .ref r2, .int x3, .int x4, .int x5, u6] [] s K :=
  (tt_iload (p_64_11 _ _) rfl).mpr ((tt_iload (p_64_13 _ _) rfl).mpr (t3_cmp (p := x5 < x1) (p_64_14 _ _) rfl (fun g1 => (tt_aload (p_64_62 _ _) rfl).mpr ((tt_iload (p_64_63 _ _) rfl).mpr ((t2_puti (p_64_64 _ _) isI_6_5 (ifp h g1).1).mpr (tt_ret0 (p_64_67 _ _) (ifp h g1).2)))) (fun g1 => (tt_iload (p_64_17 _ _) rfl).mpr (t3_if (p := x4 = 0) (p_64_19 _ _) rfl (fun g2 => (tt_aload (p_64_62 _ _) rfl).mpr ((tt_iload (p_64_63 _ _) rfl).mpr ((t2_puti (p_64_64 _ _) isI_6_5 (ifp (ifn h g1) g2).1).mpr (tt_ret0 (p_64_67 _ _) (ifp (ifn h g1) g2).2)))) (fun g2 => (tt_aload (p_64_22 _ _) rfl).mpr (Exists.elim (ifn (ifn h g1) g2) (fun a3 h4 => t3_getr (p_64_23 _ _) (isI_6_3) h4.1.1 h4.1.2 ((tt_iload (p_64_26 _ _) rfl).mpr (Exists.elim h4.2 (fun m5 h6 => t3_ald (p_64_28 _ _) h6.1.1 h6.1.2 ((tt_istore (p_64_29 _ _) (Nat.le_of_ble_eq_true rfl) rfl rfl).mpr ((tt_aload (p_64_31 _ _) rfl).mpr ((tt_iload (p_64_32 _ _) rfl).mpr ((t2_puti (p_64_34 _ _) isI_6_5 h6.2.1).mpr ((tt_aload (p_64_37 _ _) rfl).mpr ((tt_iload (p_64_38 _ _) rfl).mpr ((tt_aload (p_64_40 _ _) rfl).mpr ((tt_iload (p_64_41 _ _) rfl).mpr (t2_callv (z := 65) (k := 4) (i := r0) (as := [.int (s.1 a3 (x5).toNatClampNeg), .ref r2, .int x3]) (rest := []) (p_64_42 _ _) mK_65 mL_65 rfl rfl (Nat.le_of_ble_eq_true rfl) rfl (Nat.le_of_ble_eq_true rfl) h6.2.2.1 h6.2.2.2)))))))))))))))))))
theorem b_64_45 {Y : sY} {d : Nat} {s : sT} {K : Option Int32 → sT → Prop} {r0 : Nat} {x1 : Int32} {r2 : Nat} {x3 : Int32} {x4 : Int32} {x5 : Int32} {x6 : Int32} (h : (∃ a1, (isO Y r0 6 ∧ s.2 r0 0 = some a1) ∧ (isO Y a1 8 ∧ tT Y d 86 0 [.ref a1, .int x6] [] s (fun r s1 => tT Y (d + 1) 64 54 [.ref r0, .int x1, .ref r2, .int x3, .int x4, .int x5, .int x6] ((r.map Value.int).toList ++ []) s1 K)))) : tT Y (d + 1) 64 45 [.ref r0, .int x1, .ref r2, .int x3, .int x4, .int x5, .int x6] [] s K :=
  (tt_aload (p_64_45 _ _) rfl).mpr (Exists.elim h (fun a1 h2 => t3_getr (p_64_46 _ _) (isI_6_0) h2.1.1 h2.1.2 ((tt_iload (p_64_49 _ _) rfl).mpr (t2_callv (z := 86) (k := 2) (i := a1) (as := [.int x6]) (rest := []) (p_64_51 _ _) mK_86 mL_86 rfl rfl (Nat.le_of_ble_eq_true rfl) rfl (Nat.le_of_ble_eq_true rfl) h2.2.1 h2.2.2))))
theorem b_64_54 {Y : sY} {d : Nat} {s : sT} {K : Option Int32 → sT → Prop} {r0 : Nat} {x1 : Int32} {r2 : Nat} {x3 : Int32} {x4 : Int32} {x5 : Int32} {x6 : Int32} {t0 : Int32} (h : tT Y (d + 1) 64 11 [.ref r0, .int x1, .ref r2, .int x3, .int t0, .int (x5 + (-1)), .int x6] [] s K) : tT Y (d + 1) 64 54 [.ref r0, .int x1, .ref r2, .int x3, .int x4, .int x5, .int x6] [.int t0] s K :=
  (tt_istore (p_64_54 _ _) (Nat.le_of_ble_eq_true rfl) rfl rfl).mpr ((tt_iinc (p_64_56 _ _) rfl rfl rfl).mpr ((tt_goto (p_64_59 _ _)).mpr (h)))
