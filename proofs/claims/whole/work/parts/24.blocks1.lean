/-! BLOCKS (written by wip/whole/blocks.py) -/
/-! InclusionProver$Kernel.<init>.(LInclusionProver$Side;LInclusionProver$Side;LInclusionProver$Lines;)V -/
theorem p_0_0 (L : Nat) (xs : Nat → Int32) : ll_P L xs 0 0 = some (.inl (lo_aload 1 0)) := (P_0 L xs 0).trans rfl
theorem p_0_1 (L : Nat) (xs : Nat → Int32) : ll_P L xs 0 1 = some (.inl (lo_init 4)) := (P_0 L xs 1).trans rfl
theorem p_0_4 (L : Nat) (xs : Nat → Int32) : ll_P L xs 0 4 = some (.inl (lo_aload 5 0)) := (P_0 L xs 4).trans rfl
theorem p_0_5 (L : Nat) (xs : Nat → Int32) : ll_P L xs 0 5 = some (.inl (lo_push 7 (.int (-2)))) := (P_0 L xs 5).trans rfl
theorem p_0_7 (L : Nat) (xs : Nat → Int32) : ll_P L xs 0 7 = some (.inl (lo_putf 10 0 3 0)) := (P_0 L xs 7).trans rfl
theorem p_0_10 (L : Nat) (xs : Nat → Int32) : ll_P L xs 0 10 = some (.inl (lo_aload 11 0)) := (P_0 L xs 10).trans rfl
theorem p_0_11 (L : Nat) (xs : Nat → Int32) : ll_P L xs 0 11 = some (.inl (lo_push 12 (.int (-1)))) := (P_0 L xs 11).trans rfl
theorem p_0_12 (L : Nat) (xs : Nat → Int32) : ll_P L xs 0 12 = some (.inl (lo_putf 15 0 5 0)) := (P_0 L xs 12).trans rfl
theorem p_0_15 (L : Nat) (xs : Nat → Int32) : ll_P L xs 0 15 = some (.inl (lo_aload 16 0)) := (P_0 L xs 15).trans rfl
theorem p_0_16 (L : Nat) (xs : Nat → Int32) : ll_P L xs 0 16 = some (.inl (lo_push 17 (.int (-1)))) := (P_0 L xs 16).trans rfl
theorem p_0_17 (L : Nat) (xs : Nat → Int32) : ll_P L xs 0 17 = some (.inl (lo_putf 20 0 6 0)) := (P_0 L xs 17).trans rfl
theorem p_0_20 (L : Nat) (xs : Nat → Int32) : ll_P L xs 0 20 = some (.inl (lo_aload 21 0)) := (P_0 L xs 20).trans rfl
theorem p_0_21 (L : Nat) (xs : Nat → Int32) : ll_P L xs 0 21 = some (.inl (lo_aload 22 1)) := (P_0 L xs 21).trans rfl
theorem p_0_22 (L : Nat) (xs : Nat → Int32) : ll_P L xs 0 22 = some (.inl (lo_putf 25 0 0 2)) := (P_0 L xs 22).trans rfl
theorem p_0_25 (L : Nat) (xs : Nat → Int32) : ll_P L xs 0 25 = some (.inl (lo_aload 26 0)) := (P_0 L xs 25).trans rfl
theorem p_0_26 (L : Nat) (xs : Nat → Int32) : ll_P L xs 0 26 = some (.inl (lo_aload 27 2)) := (P_0 L xs 26).trans rfl
theorem p_0_27 (L : Nat) (xs : Nat → Int32) : ll_P L xs 0 27 = some (.inl (lo_putf 30 0 1 2)) := (P_0 L xs 27).trans rfl
theorem p_0_30 (L : Nat) (xs : Nat → Int32) : ll_P L xs 0 30 = some (.inl (lo_aload 31 0)) := (P_0 L xs 30).trans rfl
theorem p_0_31 (L : Nat) (xs : Nat → Int32) : ll_P L xs 0 31 = some (.inl (lo_aload 32 3)) := (P_0 L xs 31).trans rfl
theorem p_0_32 (L : Nat) (xs : Nat → Int32) : ll_P L xs 0 32 = some (.inl (lo_putf 35 0 2 2)) := (P_0 L xs 32).trans rfl
theorem p_0_35 (L : Nat) (xs : Nat → Int32) : ll_P L xs 0 35 = some (.inr (.inr 0)) := (P_0 L xs 35).trans rfl
/-! InclusionProver$Kernel.look.(LInclusionProver$Side;LInclusionProver$Side;LInclusionProver$Lines;)V -/
theorem p_1_0 (L : Nat) (xs : Nat → Int32) : ll_P L xs 1 0 = some (.inl (lo_aload 1 0)) := (P_1 L xs 0).trans rfl
theorem p_1_1 (L : Nat) (xs : Nat → Int32) : ll_P L xs 1 1 = some (.inl (lo_aload 2 1)) := (P_1 L xs 1).trans rfl
theorem p_1_2 (L : Nat) (xs : Nat → Int32) : ll_P L xs 1 2 = some (.inl (lo_putf 5 0 0 2)) := (P_1 L xs 2).trans rfl
theorem p_1_5 (L : Nat) (xs : Nat → Int32) : ll_P L xs 1 5 = some (.inl (lo_aload 6 0)) := (P_1 L xs 5).trans rfl
theorem p_1_6 (L : Nat) (xs : Nat → Int32) : ll_P L xs 1 6 = some (.inl (lo_aload 7 2)) := (P_1 L xs 6).trans rfl
theorem p_1_7 (L : Nat) (xs : Nat → Int32) : ll_P L xs 1 7 = some (.inl (lo_putf 10 0 1 2)) := (P_1 L xs 7).trans rfl
theorem p_1_10 (L : Nat) (xs : Nat → Int32) : ll_P L xs 1 10 = some (.inl (lo_aload 11 0)) := (P_1 L xs 10).trans rfl
theorem p_1_11 (L : Nat) (xs : Nat → Int32) : ll_P L xs 1 11 = some (.inl (lo_aload 12 3)) := (P_1 L xs 11).trans rfl
theorem p_1_12 (L : Nat) (xs : Nat → Int32) : ll_P L xs 1 12 = some (.inl (lo_putf 15 0 2 2)) := (P_1 L xs 12).trans rfl
theorem p_1_15 (L : Nat) (xs : Nat → Int32) : ll_P L xs 1 15 = some (.inl (lo_aload 16 0)) := (P_1 L xs 15).trans rfl
theorem p_1_16 (L : Nat) (xs : Nat → Int32) : ll_P L xs 1 16 = some (.inl (lo_push 17 (.int (-1)))) := (P_1 L xs 16).trans rfl
theorem p_1_17 (L : Nat) (xs : Nat → Int32) : ll_P L xs 1 17 = some (.inl (lo_putf 20 0 5 0)) := (P_1 L xs 17).trans rfl
theorem p_1_20 (L : Nat) (xs : Nat → Int32) : ll_P L xs 1 20 = some (.inl (lo_aload 21 0)) := (P_1 L xs 20).trans rfl
theorem p_1_21 (L : Nat) (xs : Nat → Int32) : ll_P L xs 1 21 = some (.inl (lo_push 22 (.int (-1)))) := (P_1 L xs 21).trans rfl
theorem p_1_22 (L : Nat) (xs : Nat → Int32) : ll_P L xs 1 22 = some (.inl (lo_putf 25 0 6 0)) := (P_1 L xs 22).trans rfl
theorem p_1_25 (L : Nat) (xs : Nat → Int32) : ll_P L xs 1 25 = some (.inl (lo_aload 26 0)) := (P_1 L xs 25).trans rfl
theorem p_1_26 (L : Nat) (xs : Nat → Int32) : ll_P L xs 1 26 = some (.inl (lo_push 27 (.int 0))) := (P_1 L xs 26).trans rfl
theorem p_1_27 (L : Nat) (xs : Nat → Int32) : ll_P L xs 1 27 = some (.inl (lo_putf 30 0 4 0)) := (P_1 L xs 27).trans rfl
theorem p_1_30 (L : Nat) (xs : Nat → Int32) : ll_P L xs 1 30 = some (.inl (lo_aload 31 0)) := (P_1 L xs 30).trans rfl
theorem p_1_31 (L : Nat) (xs : Nat → Int32) : ll_P L xs 1 31 = some (.inl (lo_aload 32 0)) := (P_1 L xs 31).trans rfl
theorem p_1_32 (L : Nat) (xs : Nat → Int32) : ll_P L xs 1 32 = some (.inl (lo_getf 35 0 2)) := (P_1 L xs 32).trans rfl
theorem p_1_35 (L : Nat) (xs : Nat → Int32) : ll_P L xs 1 35 = some (.inl (lo_getf 38 1 8)) := (P_1 L xs 35).trans rfl
theorem p_1_38 (L : Nat) (xs : Nat → Int32) : ll_P L xs 1 38 = some (.inl (lo_if 46 41 (fun x => decide (¬ x = 0)))) := (P_1 L xs 38).trans rfl
theorem p_1_41 (L : Nat) (xs : Nat → Int32) : ll_P L xs 1 41 = some (.inl (lo_push 43 (.int (-2)))) := (P_1 L xs 41).trans rfl
theorem p_1_43 (L : Nat) (xs : Nat → Int32) : ll_P L xs 1 43 = some (.inl (lo_goto 47)) := (P_1 L xs 43).trans rfl
theorem p_1_46 (L : Nat) (xs : Nat → Int32) : ll_P L xs 1 46 = some (.inl (lo_push 47 (.int (-1)))) := (P_1 L xs 46).trans rfl
theorem p_1_47 (L : Nat) (xs : Nat → Int32) : ll_P L xs 1 47 = some (.inl (lo_putf 50 0 3 0)) := (P_1 L xs 47).trans rfl
theorem p_1_50 (L : Nat) (xs : Nat → Int32) : ll_P L xs 1 50 = some (.inl (lo_push 51 (.int 0))) := (P_1 L xs 50).trans rfl
theorem p_1_51 (L : Nat) (xs : Nat → Int32) : ll_P L xs 1 51 = some (.inl (lo_istore 53 4)) := (P_1 L xs 51).trans rfl
theorem p_1_53 (L : Nat) (xs : Nat → Int32) : ll_P L xs 1 53 = some (.inl (lo_iload 55 4)) := (P_1 L xs 53).trans rfl
theorem p_1_55 (L : Nat) (xs : Nat → Int32) : ll_P L xs 1 55 = some (.inl (lo_aload 56 0)) := (P_1 L xs 55).trans rfl
theorem p_1_56 (L : Nat) (xs : Nat → Int32) : ll_P L xs 1 56 = some (.inl (lo_getf 59 0 2)) := (P_1 L xs 56).trans rfl
theorem p_1_59 (L : Nat) (xs : Nat → Int32) : ll_P L xs 1 59 = some (.inl (lo_getf 62 1 8)) := (P_1 L xs 59).trans rfl
theorem p_1_62 (L : Nat) (xs : Nat → Int32) : ll_P L xs 1 62 = some (.inl (lo_cmp 102 65 (fun x y => decide (y ≤ x)))) := (P_1 L xs 62).trans rfl
theorem p_1_65 (L : Nat) (xs : Nat → Int32) : ll_P L xs 1 65 = some (.inl (lo_aload 66 0)) := (P_1 L xs 65).trans rfl
theorem p_1_66 (L : Nat) (xs : Nat → Int32) : ll_P L xs 1 66 = some (.inl (lo_getf 69 0 3)) := (P_1 L xs 66).trans rfl
theorem p_1_69 (L : Nat) (xs : Nat → Int32) : ll_P L xs 1 69 = some (.inl (lo_push 70 (.int (-1)))) := (P_1 L xs 69).trans rfl
theorem p_1_70 (L : Nat) (xs : Nat → Int32) : ll_P L xs 1 70 = some (.inl (lo_cmp 102 73 (fun x y => decide (¬ x = y)))) := (P_1 L xs 70).trans rfl
theorem p_1_73 (L : Nat) (xs : Nat → Int32) : ll_P L xs 1 73 = some (.inl (lo_aload 74 0)) := (P_1 L xs 73).trans rfl
theorem p_1_74 (L : Nat) (xs : Nat → Int32) : ll_P L xs 1 74 = some (.inl (lo_aload 75 0)) := (P_1 L xs 74).trans rfl
theorem p_1_75 (L : Nat) (xs : Nat → Int32) : ll_P L xs 1 75 = some (.inl (lo_iload 77 4)) := (P_1 L xs 75).trans rfl
theorem p_1_77 (L : Nat) (xs : Nat → Int32) : ll_P L xs 1 77 = some (.inr (.inl (3, 2, 80))) := (P_1 L xs 77).trans rfl
theorem p_1_80 (L : Nat) (xs : Nat → Int32) : ll_P L xs 1 80 = some (.inl (lo_putf 83 0 4 0)) := (P_1 L xs 80).trans rfl
theorem p_1_83 (L : Nat) (xs : Nat → Int32) : ll_P L xs 1 83 = some (.inl (lo_aload 84 0)) := (P_1 L xs 83).trans rfl
theorem p_1_84 (L : Nat) (xs : Nat → Int32) : ll_P L xs 1 84 = some (.inl (lo_getf 87 0 4)) := (P_1 L xs 84).trans rfl
theorem p_1_87 (L : Nat) (xs : Nat → Int32) : ll_P L xs 1 87 = some (.inl (lo_if 96 90 (fun x => decide (x = 0)))) := (P_1 L xs 87).trans rfl
theorem p_1_90 (L : Nat) (xs : Nat → Int32) : ll_P L xs 1 90 = some (.inl (lo_aload 91 0)) := (P_1 L xs 90).trans rfl
theorem p_1_91 (L : Nat) (xs : Nat → Int32) : ll_P L xs 1 91 = some (.inl (lo_iload 93 4)) := (P_1 L xs 91).trans rfl
theorem p_1_93 (L : Nat) (xs : Nat → Int32) : ll_P L xs 1 93 = some (.inl (lo_putf 96 0 3 0)) := (P_1 L xs 93).trans rfl
theorem p_1_96 (L : Nat) (xs : Nat → Int32) : ll_P L xs 1 96 = some (.inl (lo_iinc 99 4 1)) := (P_1 L xs 96).trans rfl
theorem p_1_99 (L : Nat) (xs : Nat → Int32) : ll_P L xs 1 99 = some (.inl (lo_goto 53)) := (P_1 L xs 99).trans rfl
theorem p_1_102 (L : Nat) (xs : Nat → Int32) : ll_P L xs 1 102 = some (.inl (lo_aload 103 0)) := (P_1 L xs 102).trans rfl
theorem p_1_103 (L : Nat) (xs : Nat → Int32) : ll_P L xs 1 103 = some (.inl (lo_getf 106 0 3)) := (P_1 L xs 103).trans rfl
theorem p_1_106 (L : Nat) (xs : Nat → Int32) : ll_P L xs 1 106 = some (.inl (lo_push 107 (.int (-1)))) := (P_1 L xs 106).trans rfl
theorem p_1_107 (L : Nat) (xs : Nat → Int32) : ll_P L xs 1 107 = some (.inl (lo_cmp 128 110 (fun x y => decide (¬ x = y)))) := (P_1 L xs 107).trans rfl
theorem p_1_110 (L : Nat) (xs : Nat → Int32) : ll_P L xs 1 110 = some (.inl (lo_aload 111 0)) := (P_1 L xs 110).trans rfl
theorem p_1_111 (L : Nat) (xs : Nat → Int32) : ll_P L xs 1 111 = some (.inr (.inl (2, 1, 114))) := (P_1 L xs 111).trans rfl
theorem p_1_114 (L : Nat) (xs : Nat → Int32) : ll_P L xs 1 114 = some (.inl (lo_if 128 117 (fun x => decide (¬ x = 0)))) := (P_1 L xs 114).trans rfl
theorem p_1_117 (L : Nat) (xs : Nat → Int32) : ll_P L xs 1 117 = some (.inl (lo_aload 118 0)) := (P_1 L xs 117).trans rfl
theorem p_1_118 (L : Nat) (xs : Nat → Int32) : ll_P L xs 1 118 = some (.inl (lo_push 119 (.int 0))) := (P_1 L xs 118).trans rfl
theorem p_1_119 (L : Nat) (xs : Nat → Int32) : ll_P L xs 1 119 = some (.inl (lo_putf 122 0 3 0)) := (P_1 L xs 119).trans rfl
theorem p_1_122 (L : Nat) (xs : Nat → Int32) : ll_P L xs 1 122 = some (.inl (lo_aload 123 0)) := (P_1 L xs 122).trans rfl
theorem p_1_123 (L : Nat) (xs : Nat → Int32) : ll_P L xs 1 123 = some (.inl (lo_push 125 (.int 6))) := (P_1 L xs 123).trans rfl
theorem p_1_125 (L : Nat) (xs : Nat → Int32) : ll_P L xs 1 125 = some (.inl (lo_putf 128 0 4 0)) := (P_1 L xs 125).trans rfl
theorem p_1_128 (L : Nat) (xs : Nat → Int32) : ll_P L xs 1 128 = some (.inr (.inr 0)) := (P_1 L xs 128).trans rfl
theorem b_1_0 {Y : sY} {d : Nat} {s : sT} {K : Option Int32 → sT → Prop} {r0 : Nat} {r1 : Nat} {r2 : Nat} {r3 : Nat} (h : (isO Y r0 0 ∧ (isO Y r0 0 ∧ (isO Y r0 0 ∧ (isO Y r0 0 ∧ (isO Y r0 0 ∧ (isO Y r0 0 ∧ (∃ a1, (isO Y r0 0 ∧ (pV (pV (pV (pR (pR (pR s r0 0 (some r1)) r0 1 (some r2)) r0 2 (some r3)) r0 5 (-1 : Int32)) r0 6 (-1 : Int32)) r0 4 (0 : Int32)).2 r0 2 = some a1) ∧ (isO Y a1 1 ∧ (if ¬ ((pV (pV (pV (pR (pR (pR s r0 0 (some r1)) r0 1 (some r2)) r0 2 (some r3)) r0 5 (-1 : Int32)) r0 6 (-1 : Int32)) r0 4 (0 : Int32)).1 a1 8) = 0 then tT Y (d + 1) 1 47 [.ref r0, .ref r1, .ref r2, .ref r3, .null] [.int (-1 : Int32), .ref r0] (pV (pV (pV (pR (pR (pR s r0 0 (some r1)) r0 1 (some r2)) r0 2 (some r3)) r0 5 (-1 : Int32)) r0 6 (-1 : Int32)) r0 4 (0 : Int32)) K else tT Y (d + 1) 1 47 [.ref r0, .ref r1, .ref r2, .ref r3, .null] [.int (-2 : Int32), .ref r0] (pV (pV (pV (pR (pR (pR s r0 0 (some r1)) r0 1 (some r2)) r0 2 (some r3)) r0 5 (-1 : Int32)) r0 6 (-1 : Int32)) r0 4 (0 : Int32)) K)))))))))) : tT Y (d + 1) 1 0 [.ref r0, .ref r1, .ref r2, .ref r3, .null] [] s K :=
  (tt_aload (p_1_0 _ _) rfl).mpr ((tt_aload (p_1_1 _ _) rfl).mpr ((t2_putr (p_1_2 _ _) isI_0_0 h.1).mpr ((tt_aload (p_1_5 _ _) rfl).mpr ((tt_aload (p_1_6 _ _) rfl).mpr ((t2_putr (p_1_7 _ _) isI_0_1 h.2.1).mpr ((tt_aload (p_1_10 _ _) rfl).mpr ((tt_aload (p_1_11 _ _) rfl).mpr ((t2_putr (p_1_12 _ _) isI_0_2 h.2.2.1).mpr ((tt_aload (p_1_15 _ _) rfl).mpr ((tt_push (p_1_16 _ _)).mpr ((t2_puti (p_1_17 _ _) isI_0_5 h.2.2.2.1).mpr ((tt_aload (p_1_20 _ _) rfl).mpr ((tt_push (p_1_21 _ _)).mpr ((t2_puti (p_1_22 _ _) isI_0_6 h.2.2.2.2.1).mpr ((tt_aload (p_1_25 _ _) rfl).mpr ((tt_push (p_1_26 _ _)).mpr ((t2_puti (p_1_27 _ _) isI_0_4 h.2.2.2.2.2.1).mpr ((tt_aload (p_1_30 _ _) rfl).mpr ((tt_aload (p_1_31 _ _) rfl).mpr (Exists.elim h.2.2.2.2.2.2 (fun a1 h2 => t3_getr (p_1_32 _ _) (isI_0_2) h2.1.1 h2.1.2 (t3_geti (p_1_35 _ _) (isI_1_8) h2.2.1 (t3_if (p := ¬ ((pV (pV (pV (pR (pR (pR s r0 0 (some r1)) r0 1 (some r2)) r0 2 (some r3)) r0 5 (-1 : Int32)) r0 6 (-1 : Int32)) r0 4 (0 : Int32)).1 a1 8) = 0) (p_1_38 _ _) rfl (fun g3 => (tt_push (p_1_46 _ _)).mpr ((ifp h2.2.2 g3))) (fun g3 => (tt_push (p_1_41 _ _)).mpr ((tt_goto (p_1_43 _ _)).mpr ((ifn h2.2.2 g3)))))))))))))))))))))))))))
theorem b_1_47 {Y : sY} {d : Nat} {s : sT} {K : Option Int32 → sT → Prop} {r0 : Nat} {r1 : Nat} {r2 : Nat} {r3 : Nat} {t0 : Nat} {t1 : Int32} (h : (isO Y t0 0 ∧ tT Y (d + 1) 1 53 [.ref r0, .ref r1, .ref r2, .ref r3, .int (0 : Int32)] [] (pV s t0 3 t1) K)) : tT Y (d + 1) 1 47 [.ref r0, .ref r1, .ref r2, .ref r3, .null] [.int t1, .ref t0] s K :=
  (t2_puti (p_1_47 _ _) isI_0_3 h.1).mpr ((tt_push (p_1_50 _ _)).mpr ((tt_istore (p_1_51 _ _) (Nat.le_of_ble_eq_true rfl) rfl rfl).mpr (h.2)))
theorem b_1_53 {Y : sY} {d : Nat} {s : sT} {K : Option Int32 → sT → Prop} {r0 : Nat} {r1 : Nat} {r2 : Nat} {r3 : Nat} {x4 : Int32} (h : (∃ a1, (isO Y r0 0 ∧ s.2 r0 2 = some a1) ∧ (isO Y a1 1 ∧ (if (s.1 a1 8) ≤ x4 then tT Y (d + 1) 1 102 [.ref r0, .ref r1, .ref r2, .ref r3, .int x4] [] s K else (isO Y r0 0 ∧ (if ¬ (s.1 r0 3) = (-1 : Int32) then tT Y (d + 1) 1 102 [.ref r0, .ref r1, .ref r2, .ref r3, .int x4] [] s K else (isO Y r0 0 ∧ tT Y d 3 0 [.ref r0, .int x4, .null, .null, .null] [] s (fun r s1 => tT Y (d + 1) 1 80 [.ref r0, .ref r1, .ref r2, .ref r3, .int x4] ((r.map Value.int).toList ++ [.ref r0]) s1 K)))))))) : tT Y (d + 1) 1 53 [.ref r0, .ref r1, .ref r2, .ref r3, .int x4] [] s K :=
  (tt_iload (p_1_53 _ _) rfl).mpr ((tt_aload (p_1_55 _ _) rfl).mpr (Exists.elim h (fun a1 h2 => t3_getr (p_1_56 _ _) (isI_0_2) h2.1.1 h2.1.2 (t3_geti (p_1_59 _ _) (isI_1_8) h2.2.1 (t3_cmp (p := (s.1 a1 8) ≤ x4) (p_1_62 _ _) rfl (fun g3 => (ifp h2.2.2 g3)) (fun g3 => (tt_aload (p_1_65 _ _) rfl).mpr (t3_geti (p_1_66 _ _) (isI_0_3) (ifn h2.2.2 g3).1 ((tt_push (p_1_69 _ _)).mpr (t3_cmp (p := ¬ (s.1 r0 3) = (-1 : Int32)) (p_1_70 _ _) rfl (fun g4 => (ifp (ifn h2.2.2 g3).2 g4)) (fun g4 => (tt_aload (p_1_73 _ _) rfl).mpr ((tt_aload (p_1_74 _ _) rfl).mpr ((tt_iload (p_1_75 _ _) rfl).mpr (t2_callv (z := 3) (k := 2) (i := r0) (as := [.int x4]) (rest := [.ref r0]) (p_1_77 _ _) mK_3 mL_3 rfl rfl (Nat.le_of_ble_eq_true rfl) rfl (Nat.le_of_ble_eq_true rfl) (ifn (ifn h2.2.2 g3).2 g4).1 (ifn (ifn h2.2.2 g3).2 g4).2)))))))))))))
theorem b_1_80 {Y : sY} {d : Nat} {s : sT} {K : Option Int32 → sT → Prop} {r0 : Nat} {r1 : Nat} {r2 : Nat} {r3 : Nat} {x4 : Int32} {t0 : Nat} {t1 : Int32} (h : (isO Y t0 0 ∧ (isO Y r0 0 ∧ (if ((pV s t0 4 t1).1 r0 4) = 0 then tT Y (d + 1) 1 96 [.ref r0, .ref r1, .ref r2, .ref r3, .int x4] [] (pV s t0 4 t1) K else (isO Y r0 0 ∧ tT Y (d + 1) 1 96 [.ref r0, .ref r1, .ref r2, .ref r3, .int x4] [] (pV (pV s t0 4 t1) r0 3 x4) K))))) : tT Y (d + 1) 1 80 [.ref r0, .ref r1, .ref r2, .ref r3, .int x4] [.int t1, .ref t0] s K :=
  (t2_puti (p_1_80 _ _) isI_0_4 h.1).mpr ((tt_aload (p_1_83 _ _) rfl).mpr (t3_geti (p_1_84 _ _) (isI_0_4) h.2.1 (t3_if (p := ((pV s t0 4 t1).1 r0 4) = 0) (p_1_87 _ _) rfl (fun g1 => (ifp h.2.2 g1)) (fun g1 => (tt_aload (p_1_90 _ _) rfl).mpr ((tt_iload (p_1_91 _ _) rfl).mpr ((t2_puti (p_1_93 _ _) isI_0_3 (ifn h.2.2 g1).1).mpr ((ifn h.2.2 g1).2)))))))
theorem b_1_96 {Y : sY} {d : Nat} {s : sT} {K : Option Int32 → sT → Prop} {r0 : Nat} {r1 : Nat} {r2 : Nat} {r3 : Nat} {x4 : Int32} (h : tT Y (d + 1) 1 53 [.ref r0, .ref r1, .ref r2, .ref r3, .int (x4 + 1)] [] s K) : tT Y (d + 1) 1 96 [.ref r0, .ref r1, .ref r2, .ref r3, .int x4] [] s K :=
  (tt_iinc (p_1_96 _ _) rfl rfl rfl).mpr ((tt_goto (p_1_99 _ _)).mpr (h))
theorem b_1_102 {Y : sY} {d : Nat} {s : sT} {K : Option Int32 → sT → Prop} {r0 : Nat} {r1 : Nat} {r2 : Nat} {r3 : Nat} {x4 : Int32} (h : (isO Y r0 0 ∧ (if ¬ (s.1 r0 3) = (-1 : Int32) then K none s else (isO Y r0 0 ∧ tT Y d 2 0 [.ref r0] [] s (fun r s1 => tT Y (d + 1) 1 114 [.ref r0, .ref r1, .ref r2, .ref r3, .int x4] ((r.map Value.int).toList ++ []) s1 K))))) : tT Y (d + 1) 1 102 [.ref r0, .ref r1, .ref r2, .ref r3, .int x4] [] s K :=
  (tt_aload (p_1_102 _ _) rfl).mpr (t3_geti (p_1_103 _ _) (isI_0_3) h.1 ((tt_push (p_1_106 _ _)).mpr (t3_cmp (p := ¬ (s.1 r0 3) = (-1 : Int32)) (p_1_107 _ _) rfl (fun g1 => tt_ret0 (p_1_128 _ _) (ifp h.2 g1)) (fun g1 => (tt_aload (p_1_110 _ _) rfl).mpr (t2_callv (z := 2) (k := 1) (i := r0) (as := []) (rest := []) (p_1_111 _ _) mK_2 mL_2 rfl rfl (Nat.le_of_ble_eq_true rfl) rfl (Nat.le_of_ble_eq_true rfl) (ifn h.2 g1).1 (ifn h.2 g1).2)))))
theorem b_1_114 {Y : sY} {d : Nat} {s : sT} {K : Option Int32 → sT → Prop} {r0 : Nat} {r1 : Nat} {r2 : Nat} {r3 : Nat} {x4 : Int32} {t0 : Int32} (h : (if ¬ t0 = 0 then K none s else (isO Y r0 0 ∧ (isO Y r0 0 ∧ K none (pV (pV s r0 3 (0 : Int32)) r0 4 (6 : Int32)))))) : tT Y (d + 1) 1 114 [.ref r0, .ref r1, .ref r2, .ref r3, .int x4] [.int t0] s K :=
  t3_if (p := ¬ t0 = 0) (p_1_114 _ _) rfl (fun g1 => tt_ret0 (p_1_128 _ _) (ifp h g1)) (fun g1 => (tt_aload (p_1_117 _ _) rfl).mpr ((tt_push (p_1_118 _ _)).mpr ((t2_puti (p_1_119 _ _) isI_0_3 (ifn h g1).1).mpr ((tt_aload (p_1_122 _ _) rfl).mpr ((tt_push (p_1_123 _ _)).mpr ((t2_puti (p_1_125 _ _) isI_0_4 (ifn h g1).2.1).mpr (tt_ret0 (p_1_128 _ _) (ifn h g1).2.2)))))))
/-! InclusionProver$Kernel.startsWell.()Z -/
theorem p_2_0 (L : Nat) (xs : Nat → Int32) : ll_P L xs 2 0 = some (.inl (lo_aload 1 0)) := (P_2 L xs 0).trans rfl
theorem p_2_1 (L : Nat) (xs : Nat → Int32) : ll_P L xs 2 1 = some (.inl (lo_getf 4 0 2)) := (P_2 L xs 1).trans rfl
theorem p_2_4 (L : Nat) (xs : Nat → Int32) : ll_P L xs 2 4 = some (.inl (lo_getf 7 1 0)) := (P_2 L xs 4).trans rfl
theorem p_2_7 (L : Nat) (xs : Nat → Int32) : ll_P L xs 2 7 = some (.inl (lo_push 8 (.int 0))) := (P_2 L xs 7).trans rfl
theorem p_2_8 (L : Nat) (xs : Nat → Int32) : ll_P L xs 2 8 = some (.inl (lo_ald 9 0)) := (P_2 L xs 8).trans rfl
theorem p_2_9 (L : Nat) (xs : Nat → Int32) : ll_P L xs 2 9 = some (.inl (lo_if 41 12 (fun x => decide (¬ x = 0)))) := (P_2 L xs 9).trans rfl
theorem p_2_12 (L : Nat) (xs : Nat → Int32) : ll_P L xs 2 12 = some (.inl (lo_aload 13 0)) := (P_2 L xs 12).trans rfl
theorem p_2_13 (L : Nat) (xs : Nat → Int32) : ll_P L xs 2 13 = some (.inl (lo_getf 16 0 2)) := (P_2 L xs 13).trans rfl
theorem p_2_16 (L : Nat) (xs : Nat → Int32) : ll_P L xs 2 16 = some (.inl (lo_getf 19 1 1)) := (P_2 L xs 16).trans rfl
theorem p_2_19 (L : Nat) (xs : Nat → Int32) : ll_P L xs 2 19 = some (.inl (lo_push 20 (.int 0))) := (P_2 L xs 19).trans rfl
theorem p_2_20 (L : Nat) (xs : Nat → Int32) : ll_P L xs 2 20 = some (.inl (lo_ald 21 0)) := (P_2 L xs 20).trans rfl
theorem p_2_21 (L : Nat) (xs : Nat → Int32) : ll_P L xs 2 21 = some (.inl (lo_if 37 24 (fun x => decide (x = 0)))) := (P_2 L xs 21).trans rfl
theorem p_2_24 (L : Nat) (xs : Nat → Int32) : ll_P L xs 2 24 = some (.inl (lo_aload 25 0)) := (P_2 L xs 24).trans rfl
theorem p_2_25 (L : Nat) (xs : Nat → Int32) : ll_P L xs 2 25 = some (.inl (lo_getf 28 0 2)) := (P_2 L xs 25).trans rfl
theorem p_2_28 (L : Nat) (xs : Nat → Int32) : ll_P L xs 2 28 = some (.inl (lo_getf 31 1 1)) := (P_2 L xs 28).trans rfl
theorem p_2_31 (L : Nat) (xs : Nat → Int32) : ll_P L xs 2 31 = some (.inl (lo_push 32 (.int 0))) := (P_2 L xs 31).trans rfl
theorem p_2_32 (L : Nat) (xs : Nat → Int32) : ll_P L xs 2 32 = some (.inl (lo_ald 33 0)) := (P_2 L xs 32).trans rfl
theorem p_2_33 (L : Nat) (xs : Nat → Int32) : ll_P L xs 2 33 = some (.inl (lo_push 34 (.int 1))) := (P_2 L xs 33).trans rfl
theorem p_2_34 (L : Nat) (xs : Nat → Int32) : ll_P L xs 2 34 = some (.inl (lo_cmp 41 37 (fun x y => decide (¬ x = y)))) := (P_2 L xs 34).trans rfl
theorem p_2_37 (L : Nat) (xs : Nat → Int32) : ll_P L xs 2 37 = some (.inl (lo_push 38 (.int 1))) := (P_2 L xs 37).trans rfl
theorem p_2_38 (L : Nat) (xs : Nat → Int32) : ll_P L xs 2 38 = some (.inl (lo_goto 42)) := (P_2 L xs 38).trans rfl
theorem p_2_41 (L : Nat) (xs : Nat → Int32) : ll_P L xs 2 41 = some (.inl (lo_push 42 (.int 0))) := (P_2 L xs 41).trans rfl
theorem p_2_42 (L : Nat) (xs : Nat → Int32) : ll_P L xs 2 42 = some (.inr (.inr 2)) := (P_2 L xs 42).trans rfl
theorem b_2_0 {Y : sY} {d : Nat} {s : sT} {K : Option Int32 → sT → Prop} {r0 : Nat} (h : (∃ a1, (isO Y r0 0 ∧ s.2 r0 2 = some a1) ∧ (∃ a3, (isO Y a1 1 ∧ s.2 a1 0 = some a3) ∧ (∃ m5, (isA Y a3 0 m5 ∧ inR (0 : Int32) m5) ∧ (if ¬ (s.1 a3 ((0 : Int32)).toNatClampNeg) = 0 then K (some (0 : Int32)) s else (∃ a8, (isO Y r0 0 ∧ s.2 r0 2 = some a8) ∧ (∃ a10, (isO Y a8 1 ∧ s.2 a8 1 = some a10) ∧ (∃ m12, (isA Y a10 0 m12 ∧ inR (0 : Int32) m12) ∧ (if (s.1 a10 ((0 : Int32)).toNatClampNeg) = 0 then K (some (1 : Int32)) s else (∃ a15, (isO Y r0 0 ∧ s.2 r0 2 = some a15) ∧ (∃ a17, (isO Y a15 1 ∧ s.2 a15 1 = some a17) ∧ (∃ m19, (isA Y a17 0 m19 ∧ inR (0 : Int32) m19) ∧ (if ¬ (s.1 a17 ((0 : Int32)).toNatClampNeg) = (1 : Int32) then K (some (0 : Int32)) s else K (some (1 : Int32)) s))))))))))))) : tT Y d 2 0 [.ref r0] [] s K :=
  (tt_aload (p_2_0 _ _) rfl).mpr (Exists.elim h (fun a1 h2 => t3_getr (p_2_1 _ _) (isI_0_2) h2.1.1 h2.1.2 (Exists.elim h2.2 (fun a3 h4 => t3_getr (p_2_4 _ _) (isI_1_0) h4.1.1 h4.1.2 ((tt_push (p_2_7 _ _)).mpr (Exists.elim h4.2 (fun m5 h6 => t3_ald (p_2_8 _ _) h6.1.1 h6.1.2 (t3_if (p := ¬ (s.1 a3 ((0 : Int32)).toNatClampNeg) = 0) (p_2_9 _ _) rfl (fun g7 => (tt_push (p_2_41 _ _)).mpr (tt_ret2 (p_2_42 _ _) (Or.inl rfl) (ifp h6.2 g7))) (fun g7 => (tt_aload (p_2_12 _ _) rfl).mpr (Exists.elim (ifn h6.2 g7) (fun a8 h9 => t3_getr (p_2_13 _ _) (isI_0_2) h9.1.1 h9.1.2 (Exists.elim h9.2 (fun a10 h11 => t3_getr (p_2_16 _ _) (isI_1_1) h11.1.1 h11.1.2 ((tt_push (p_2_19 _ _)).mpr (Exists.elim h11.2 (fun m12 h13 => t3_ald (p_2_20 _ _) h13.1.1 h13.1.2 (t3_if (p := (s.1 a10 ((0 : Int32)).toNatClampNeg) = 0) (p_2_21 _ _) rfl (fun g14 => (tt_push (p_2_37 _ _)).mpr ((tt_goto (p_2_38 _ _)).mpr (tt_ret2 (p_2_42 _ _) (Or.inr rfl) (ifp h13.2 g14)))) (fun g14 => (tt_aload (p_2_24 _ _) rfl).mpr (Exists.elim (ifn h13.2 g14) (fun a15 h16 => t3_getr (p_2_25 _ _) (isI_0_2) h16.1.1 h16.1.2 (Exists.elim h16.2 (fun a17 h18 => t3_getr (p_2_28 _ _) (isI_1_1) h18.1.1 h18.1.2 ((tt_push (p_2_31 _ _)).mpr (Exists.elim h18.2 (fun m19 h20 => t3_ald (p_2_32 _ _) h20.1.1 h20.1.2 ((tt_push (p_2_33 _ _)).mpr (t3_cmp (p := ¬ (s.1 a17 ((0 : Int32)).toNatClampNeg) = (1 : Int32)) (p_2_34 _ _) rfl (fun g21 => (tt_push (p_2_41 _ _)).mpr (tt_ret2 (p_2_42 _ _) (Or.inl rfl) (ifp h20.2 g21))) (fun g21 => (tt_push (p_2_37 _ _)).mpr ((tt_goto (p_2_38 _ _)).mpr (tt_ret2 (p_2_42 _ _) (Or.inr rfl) (ifn h20.2 g21)))))))))))))))))))))))))))))))
/-! InclusionProver$Kernel.reasonOf.(I)I -/
theorem p_3_0 (L : Nat) (xs : Nat → Int32) : ll_P L xs 3 0 = some (.inl (lo_aload 1 0)) := (P_3 L xs 0).trans rfl
theorem p_3_1 (L : Nat) (xs : Nat → Int32) : ll_P L xs 3 1 = some (.inl (lo_getf 4 0 2)) := (P_3 L xs 1).trans rfl
theorem p_3_4 (L : Nat) (xs : Nat → Int32) : ll_P L xs 3 4 = some (.inl (lo_getf 7 1 0)) := (P_3 L xs 4).trans rfl
theorem p_3_7 (L : Nat) (xs : Nat → Int32) : ll_P L xs 3 7 = some (.inl (lo_iload 8 1)) := (P_3 L xs 7).trans rfl
theorem p_3_8 (L : Nat) (xs : Nat → Int32) : ll_P L xs 3 8 = some (.inl (lo_ald 9 0)) := (P_3 L xs 8).trans rfl
theorem p_3_9 (L : Nat) (xs : Nat → Int32) : ll_P L xs 3 9 = some (.inl (lo_istore 10 2)) := (P_3 L xs 9).trans rfl
theorem p_3_10 (L : Nat) (xs : Nat → Int32) : ll_P L xs 3 10 = some (.inl (lo_aload 11 0)) := (P_3 L xs 10).trans rfl
theorem p_3_11 (L : Nat) (xs : Nat → Int32) : ll_P L xs 3 11 = some (.inl (lo_getf 14 0 2)) := (P_3 L xs 11).trans rfl
theorem p_3_14 (L : Nat) (xs : Nat → Int32) : ll_P L xs 3 14 = some (.inl (lo_getf 17 1 1)) := (P_3 L xs 14).trans rfl
theorem p_3_17 (L : Nat) (xs : Nat → Int32) : ll_P L xs 3 17 = some (.inl (lo_iload 18 1)) := (P_3 L xs 17).trans rfl
theorem p_3_18 (L : Nat) (xs : Nat → Int32) : ll_P L xs 3 18 = some (.inl (lo_ald 19 0)) := (P_3 L xs 18).trans rfl
theorem p_3_19 (L : Nat) (xs : Nat → Int32) : ll_P L xs 3 19 = some (.inl (lo_istore 20 3)) := (P_3 L xs 19).trans rfl
theorem p_3_20 (L : Nat) (xs : Nat → Int32) : ll_P L xs 3 20 = some (.inl (lo_aload 21 0)) := (P_3 L xs 20).trans rfl
theorem p_3_21 (L : Nat) (xs : Nat → Int32) : ll_P L xs 3 21 = some (.inl (lo_getf 24 0 2)) := (P_3 L xs 21).trans rfl
theorem p_3_24 (L : Nat) (xs : Nat → Int32) : ll_P L xs 3 24 = some (.inl (lo_getf 27 1 2)) := (P_3 L xs 24).trans rfl
theorem p_3_27 (L : Nat) (xs : Nat → Int32) : ll_P L xs 3 27 = some (.inl (lo_iload 28 1)) := (P_3 L xs 27).trans rfl
theorem p_3_28 (L : Nat) (xs : Nat → Int32) : ll_P L xs 3 28 = some (.inl (lo_ald 29 0)) := (P_3 L xs 28).trans rfl
theorem p_3_29 (L : Nat) (xs : Nat → Int32) : ll_P L xs 3 29 = some (.inl (lo_istore 31 4)) := (P_3 L xs 29).trans rfl
theorem p_3_31 (L : Nat) (xs : Nat → Int32) : ll_P L xs 3 31 = some (.inl (lo_aload 32 0)) := (P_3 L xs 31).trans rfl
theorem p_3_32 (L : Nat) (xs : Nat → Int32) : ll_P L xs 3 32 = some (.inl (lo_getf 35 0 0)) := (P_3 L xs 32).trans rfl
theorem p_3_35 (L : Nat) (xs : Nat → Int32) : ll_P L xs 3 35 = some (.inl (lo_iload 36 2)) := (P_3 L xs 35).trans rfl
theorem p_3_36 (L : Nat) (xs : Nat → Int32) : ll_P L xs 3 36 = some (.inr (.inl (45, 2, 39))) := (P_3 L xs 36).trans rfl
theorem p_3_39 (L : Nat) (xs : Nat → Int32) : ll_P L xs 3 39 = some (.inl (lo_if 64 42 (fun x => decide (x = 0)))) := (P_3 L xs 39).trans rfl
theorem p_3_42 (L : Nat) (xs : Nat → Int32) : ll_P L xs 3 42 = some (.inl (lo_aload 43 0)) := (P_3 L xs 42).trans rfl
theorem p_3_43 (L : Nat) (xs : Nat → Int32) : ll_P L xs 3 43 = some (.inl (lo_getf 46 0 1)) := (P_3 L xs 43).trans rfl
theorem p_3_46 (L : Nat) (xs : Nat → Int32) : ll_P L xs 3 46 = some (.inl (lo_iload 47 3)) := (P_3 L xs 46).trans rfl
theorem p_3_47 (L : Nat) (xs : Nat → Int32) : ll_P L xs 3 47 = some (.inr (.inl (46, 2, 50))) := (P_3 L xs 47).trans rfl
theorem p_3_50 (L : Nat) (xs : Nat → Int32) : ll_P L xs 3 50 = some (.inl (lo_if 64 53 (fun x => decide (x = 0)))) := (P_3 L xs 50).trans rfl
theorem p_3_53 (L : Nat) (xs : Nat → Int32) : ll_P L xs 3 53 = some (.inl (lo_iload 55 4)) := (P_3 L xs 53).trans rfl
theorem p_3_55 (L : Nat) (xs : Nat → Int32) : ll_P L xs 3 55 = some (.inl (lo_if 66 58 (fun x => decide (x = 0)))) := (P_3 L xs 55).trans rfl
theorem p_3_58 (L : Nat) (xs : Nat → Int32) : ll_P L xs 3 58 = some (.inl (lo_iload 60 4)) := (P_3 L xs 58).trans rfl
theorem p_3_60 (L : Nat) (xs : Nat → Int32) : ll_P L xs 3 60 = some (.inl (lo_push 61 (.int 1))) := (P_3 L xs 60).trans rfl
theorem p_3_61 (L : Nat) (xs : Nat → Int32) : ll_P L xs 3 61 = some (.inl (lo_cmp 66 64 (fun x y => decide (x = y)))) := (P_3 L xs 61).trans rfl
theorem p_3_64 (L : Nat) (xs : Nat → Int32) : ll_P L xs 3 64 = some (.inl (lo_push 65 (.int 1))) := (P_3 L xs 64).trans rfl
theorem p_3_65 (L : Nat) (xs : Nat → Int32) : ll_P L xs 3 65 = some (.inr (.inr 1)) := (P_3 L xs 65).trans rfl
theorem p_3_66 (L : Nat) (xs : Nat → Int32) : ll_P L xs 3 66 = some (.inl (lo_iload 68 4)) := (P_3 L xs 66).trans rfl
theorem p_3_68 (L : Nat) (xs : Nat → Int32) : ll_P L xs 3 68 = some (.inl (lo_if 86 71 (fun x => decide (¬ x = 0)))) := (P_3 L xs 68).trans rfl
theorem p_3_71 (L : Nat) (xs : Nat → Int32) : ll_P L xs 3 71 = some (.inl (lo_aload 72 0)) := (P_3 L xs 71).trans rfl
theorem p_3_72 (L : Nat) (xs : Nat → Int32) : ll_P L xs 3 72 = some (.inl (lo_iload 73 2)) := (P_3 L xs 72).trans rfl
theorem p_3_73 (L : Nat) (xs : Nat → Int32) : ll_P L xs 3 73 = some (.inl (lo_iload 74 3)) := (P_3 L xs 73).trans rfl
theorem p_3_74 (L : Nat) (xs : Nat → Int32) : ll_P L xs 3 74 = some (.inr (.inl (4, 3, 77))) := (P_3 L xs 74).trans rfl
theorem p_3_77 (L : Nat) (xs : Nat → Int32) : ll_P L xs 3 77 = some (.inl (lo_if 84 80 (fun x => decide (x = 0)))) := (P_3 L xs 77).trans rfl
theorem p_3_80 (L : Nat) (xs : Nat → Int32) : ll_P L xs 3 80 = some (.inl (lo_push 81 (.int 0))) := (P_3 L xs 80).trans rfl
theorem p_3_81 (L : Nat) (xs : Nat → Int32) : ll_P L xs 3 81 = some (.inl (lo_goto 85)) := (P_3 L xs 81).trans rfl
theorem p_3_84 (L : Nat) (xs : Nat → Int32) : ll_P L xs 3 84 = some (.inl (lo_push 85 (.int 2))) := (P_3 L xs 84).trans rfl
theorem p_3_85 (L : Nat) (xs : Nat → Int32) : ll_P L xs 3 85 = some (.inr (.inr 1)) := (P_3 L xs 85).trans rfl
theorem p_3_86 (L : Nat) (xs : Nat → Int32) : ll_P L xs 3 86 = some (.inl (lo_aload 87 0)) := (P_3 L xs 86).trans rfl
theorem p_3_87 (L : Nat) (xs : Nat → Int32) : ll_P L xs 3 87 = some (.inl (lo_getf 90 0 0)) := (P_3 L xs 87).trans rfl
theorem p_3_90 (L : Nat) (xs : Nat → Int32) : ll_P L xs 3 90 = some (.inl (lo_push 91 (.int 1))) := (P_3 L xs 90).trans rfl
theorem p_3_91 (L : Nat) (xs : Nat → Int32) : ll_P L xs 3 91 = some (.inl (lo_iload 92 2)) := (P_3 L xs 91).trans rfl
theorem p_3_92 (L : Nat) (xs : Nat → Int32) : ll_P L xs 3 92 = some (.inl (lo_bin 93 (fun x y => x <<< (y &&& 31)))) := (P_3 L xs 92).trans rfl
theorem p_3_93 (L : Nat) (xs : Nat → Int32) : ll_P L xs 3 93 = some (.inr (.inl (47, 2, 96))) := (P_3 L xs 93).trans rfl
theorem p_3_96 (L : Nat) (xs : Nat → Int32) : ll_P L xs 3 96 = some (.inl (lo_if 112 99 (fun x => decide (x = 0)))) := (P_3 L xs 96).trans rfl
theorem p_3_99 (L : Nat) (xs : Nat → Int32) : ll_P L xs 3 99 = some (.inl (lo_aload 100 0)) := (P_3 L xs 99).trans rfl
theorem p_3_100 (L : Nat) (xs : Nat → Int32) : ll_P L xs 3 100 = some (.inl (lo_getf 103 0 1)) := (P_3 L xs 100).trans rfl
theorem p_3_103 (L : Nat) (xs : Nat → Int32) : ll_P L xs 3 103 = some (.inl (lo_iload 104 3)) := (P_3 L xs 103).trans rfl
theorem p_3_104 (L : Nat) (xs : Nat → Int32) : ll_P L xs 3 104 = some (.inr (.inl (47, 2, 107))) := (P_3 L xs 104).trans rfl
theorem p_3_107 (L : Nat) (xs : Nat → Int32) : ll_P L xs 3 107 = some (.inl (lo_if 112 110 (fun x => decide (¬ x = 0)))) := (P_3 L xs 107).trans rfl
theorem p_3_110 (L : Nat) (xs : Nat → Int32) : ll_P L xs 3 110 = some (.inl (lo_push 111 (.int 3))) := (P_3 L xs 110).trans rfl
theorem p_3_111 (L : Nat) (xs : Nat → Int32) : ll_P L xs 3 111 = some (.inr (.inr 1)) := (P_3 L xs 111).trans rfl
theorem p_3_112 (L : Nat) (xs : Nat → Int32) : ll_P L xs 3 112 = some (.inl (lo_aload 113 0)) := (P_3 L xs 112).trans rfl
theorem p_3_113 (L : Nat) (xs : Nat → Int32) : ll_P L xs 3 113 = some (.inl (lo_iload 114 1)) := (P_3 L xs 113).trans rfl
theorem p_3_114 (L : Nat) (xs : Nat → Int32) : ll_P L xs 3 114 = some (.inr (.inl (5, 2, 117))) := (P_3 L xs 114).trans rfl
theorem p_3_117 (L : Nat) (xs : Nat → Int32) : ll_P L xs 3 117 = some (.inl (lo_if 122 120 (fun x => decide (¬ x = 0)))) := (P_3 L xs 117).trans rfl
theorem p_3_120 (L : Nat) (xs : Nat → Int32) : ll_P L xs 3 120 = some (.inl (lo_push 121 (.int 4))) := (P_3 L xs 120).trans rfl
theorem p_3_121 (L : Nat) (xs : Nat → Int32) : ll_P L xs 3 121 = some (.inr (.inr 1)) := (P_3 L xs 121).trans rfl
theorem p_3_122 (L : Nat) (xs : Nat → Int32) : ll_P L xs 3 122 = some (.inl (lo_aload 123 0)) := (P_3 L xs 122).trans rfl
theorem p_3_123 (L : Nat) (xs : Nat → Int32) : ll_P L xs 3 123 = some (.inl (lo_iload 124 1)) := (P_3 L xs 123).trans rfl
theorem p_3_124 (L : Nat) (xs : Nat → Int32) : ll_P L xs 3 124 = some (.inl (lo_iload 125 2)) := (P_3 L xs 124).trans rfl
theorem p_3_125 (L : Nat) (xs : Nat → Int32) : ll_P L xs 3 125 = some (.inl (lo_iload 126 3)) := (P_3 L xs 125).trans rfl
theorem p_3_126 (L : Nat) (xs : Nat → Int32) : ll_P L xs 3 126 = some (.inr (.inl (6, 4, 129))) := (P_3 L xs 126).trans rfl
theorem p_3_129 (L : Nat) (xs : Nat → Int32) : ll_P L xs 3 129 = some (.inl (lo_if 136 132 (fun x => decide (x = 0)))) := (P_3 L xs 129).trans rfl
theorem p_3_132 (L : Nat) (xs : Nat → Int32) : ll_P L xs 3 132 = some (.inl (lo_push 133 (.int 0))) := (P_3 L xs 132).trans rfl
theorem p_3_133 (L : Nat) (xs : Nat → Int32) : ll_P L xs 3 133 = some (.inl (lo_goto 137)) := (P_3 L xs 133).trans rfl
theorem p_3_136 (L : Nat) (xs : Nat → Int32) : ll_P L xs 3 136 = some (.inl (lo_push 137 (.int 5))) := (P_3 L xs 136).trans rfl
theorem p_3_137 (L : Nat) (xs : Nat → Int32) : ll_P L xs 3 137 = some (.inr (.inr 1)) := (P_3 L xs 137).trans rfl
theorem b_3_0 {Y : sY} {d : Nat} {s : sT} {K : Option Int32 → sT → Prop} {r0 : Nat} {x1 : Int32} (h : (∃ a1, (isO Y r0 0 ∧ s.2 r0 2 = some a1) ∧ (∃ a3, (isO Y a1 1 ∧ s.2 a1 0 = some a3) ∧ (∃ m5, (isA Y a3 0 m5 ∧ inR x1 m5) ∧ (∃ a7, (isO Y r0 0 ∧ s.2 r0 2 = some a7) ∧ (∃ a9, (isO Y a7 1 ∧ s.2 a7 1 = some a9) ∧ (∃ m11, (isA Y a9 0 m11 ∧ inR x1 m11) ∧ (∃ a13, (isO Y r0 0 ∧ s.2 r0 2 = some a13) ∧ (∃ a15, (isO Y a13 1 ∧ s.2 a13 2 = some a15) ∧ (∃ m17, (isA Y a15 0 m17 ∧ inR x1 m17) ∧ (∃ a19, (isO Y r0 0 ∧ s.2 r0 0 = some a19) ∧ (isO Y a19 5 ∧ tT Y d 45 0 [.ref a19, .int (s.1 a3 (x1).toNatClampNeg)] [] s (fun r s1 => tT Y (d + 1) 3 39 [.ref r0, .int x1, .int (s.1 a3 (x1).toNatClampNeg), .int (s.1 a9 (x1).toNatClampNeg), .int (s.1 a15 (x1).toNatClampNeg)] ((r.map Value.int).toList ++ []) s1 K))))))))))))) : tT Y (d + 1) 3 0 [.ref r0, .int x1, .null, .null, .null] [] s K :=
  (tt_aload (p_3_0 _ _) rfl).mpr (Exists.elim h (fun a1 h2 => t3_getr (p_3_1 _ _) (isI_0_2) h2.1.1 h2.1.2 (Exists.elim h2.2 (fun a3 h4 => t3_getr (p_3_4 _ _) (isI_1_0) h4.1.1 h4.1.2 ((tt_iload (p_3_7 _ _) rfl).mpr (Exists.elim h4.2 (fun m5 h6 => t3_ald (p_3_8 _ _) h6.1.1 h6.1.2 ((tt_istore (p_3_9 _ _) (Nat.le_of_ble_eq_true rfl) rfl rfl).mpr ((tt_aload (p_3_10 _ _) rfl).mpr (Exists.elim h6.2 (fun a7 h8 => t3_getr (p_3_11 _ _) (isI_0_2) h8.1.1 h8.1.2 (Exists.elim h8.2 (fun a9 h10 => t3_getr (p_3_14 _ _) (isI_1_1) h10.1.1 h10.1.2 ((tt_iload (p_3_17 _ _) rfl).mpr (Exists.elim h10.2 (fun m11 h12 => t3_ald (p_3_18 _ _) h12.1.1 h12.1.2 ((tt_istore (p_3_19 _ _) (Nat.le_of_ble_eq_true rfl) rfl rfl).mpr ((tt_aload (p_3_20 _ _) rfl).mpr (Exists.elim h12.2 (fun a13 h14 => t3_getr (p_3_21 _ _) (isI_0_2) h14.1.1 h14.1.2 (Exists.elim h14.2 (fun a15 h16 => t3_getr (p_3_24 _ _) (isI_1_2) h16.1.1 h16.1.2 ((tt_iload (p_3_27 _ _) rfl).mpr (Exists.elim h16.2 (fun m17 h18 => t3_ald (p_3_28 _ _) h18.1.1 h18.1.2 ((tt_istore (p_3_29 _ _) (Nat.le_of_ble_eq_true rfl) rfl rfl).mpr ((tt_aload (p_3_31 _ _) rfl).mpr (Exists.elim h18.2 (fun a19 h20 => t3_getr (p_3_32 _ _) (isI_0_0) h20.1.1 h20.1.2 ((tt_iload (p_3_35 _ _) rfl).mpr (t2_callv (z := 45) (k := 2) (i := a19) (as := [.int (s.1 a3 (x1).toNatClampNeg)]) (rest := []) (p_3_36 _ _) mK_45 mL_45 rfl rfl (Nat.le_of_ble_eq_true rfl) rfl (Nat.le_of_ble_eq_true rfl) h20.2.1 h20.2.2)))))))))))))))))))))))))))))))
theorem b_3_39 {Y : sY} {d : Nat} {s : sT} {K : Option Int32 → sT → Prop} {r0 : Nat} {x1 : Int32} {x2 : Int32} {x3 : Int32} {x4 : Int32} {t0 : Int32} (h : (if t0 = 0 then K (some (1 : Int32)) s else (∃ a2, (isO Y r0 0 ∧ s.2 r0 1 = some a2) ∧ (isO Y a2 5 ∧ tT Y d 46 0 [.ref a2, .int x3] [] s (fun r s1 => tT Y (d + 1) 3 50 [.ref r0, .int x1, .int x2, .int x3, .int x4] ((r.map Value.int).toList ++ []) s1 K))))) : tT Y (d + 1) 3 39 [.ref r0, .int x1, .int x2, .int x3, .int x4] [.int t0] s K :=
  t3_if (p := t0 = 0) (p_3_39 _ _) rfl (fun g1 => (tt_push (p_3_64 _ _)).mpr (tt_ret1 (p_3_65 _ _) (ifp h g1))) (fun g1 => (tt_aload (p_3_42 _ _) rfl).mpr (Exists.elim (ifn h g1) (fun a2 h3 => t3_getr (p_3_43 _ _) (isI_0_1) h3.1.1 h3.1.2 ((tt_iload (p_3_46 _ _) rfl).mpr (t2_callv (z := 46) (k := 2) (i := a2) (as := [.int x3]) (rest := []) (p_3_47 _ _) mK_46 mL_46 rfl rfl (Nat.le_of_ble_eq_true rfl) rfl (Nat.le_of_ble_eq_true rfl) h3.2.1 h3.2.2)))))
theorem b_3_50 {Y : sY} {d : Nat} {s : sT} {K : Option Int32 → sT → Prop} {r0 : Nat} {x1 : Int32} {x2 : Int32} {x3 : Int32} {x4 : Int32} {t0 : Int32} (h : (if t0 = 0 then K (some (1 : Int32)) s else (if x4 = 0 then tT Y (d + 1) 3 66 [.ref r0, .int x1, .int x2, .int x3, .int x4] [] s K else (if x4 = (1 : Int32) then tT Y (d + 1) 3 66 [.ref r0, .int x1, .int x2, .int x3, .int x4] [] s K else K (some (1 : Int32)) s)))) : tT Y (d + 1) 3 50 [.ref r0, .int x1, .int x2, .int x3, .int x4] [.int t0] s K :=
  t3_if (p := t0 = 0) (p_3_50 _ _) rfl (fun g1 => (tt_push (p_3_64 _ _)).mpr (tt_ret1 (p_3_65 _ _) (ifp h g1))) (fun g1 => (tt_iload (p_3_53 _ _) rfl).mpr (t3_if (p := x4 = 0) (p_3_55 _ _) rfl (fun g2 => (ifp (ifn h g1) g2)) (fun g2 => (tt_iload (p_3_58 _ _) rfl).mpr ((tt_push (p_3_60 _ _)).mpr (t3_cmp (p := x4 = (1 : Int32)) (p_3_61 _ _) rfl (fun g3 => (ifp (ifn (ifn h g1) g2) g3)) (fun g3 => (tt_push (p_3_64 _ _)).mpr (tt_ret1 (p_3_65 _ _) (ifn (ifn (ifn h g1) g2) g3))))))))
theorem b_3_66 {Y : sY} {d : Nat} {s : sT} {K : Option Int32 → sT → Prop} {r0 : Nat} {x1 : Int32} {x2 : Int32} {x3 : Int32} {x4 : Int32} (h : (if ¬ x4 = 0 then (∃ a2, (isO Y r0 0 ∧ s.2 r0 0 = some a2) ∧ (isO Y a2 5 ∧ tT Y d 47 0 [.ref a2, .int ((1 : Int32) <<< (x2 &&& 31))] [] s (fun r s1 => tT Y (d + 1) 3 96 [.ref r0, .int x1, .int x2, .int x3, .int x4] ((r.map Value.int).toList ++ []) s1 K))) else (isO Y r0 0 ∧ tT Y d 4 0 [.ref r0, .int x2, .int x3, .null] [] s (fun r s1 => tT Y (d + 1) 3 77 [.ref r0, .int x1, .int x2, .int x3, .int x4] ((r.map Value.int).toList ++ []) s1 K)))) : tT Y (d + 1) 3 66 [.ref r0, .int x1, .int x2, .int x3, .int x4] [] s K :=
  (tt_iload (p_3_66 _ _) rfl).mpr (t3_if (p := ¬ x4 = 0) (p_3_68 _ _) rfl (fun g1 => (tt_aload (p_3_86 _ _) rfl).mpr (Exists.elim (ifp h g1) (fun a2 h3 => t3_getr (p_3_87 _ _) (isI_0_0) h3.1.1 h3.1.2 ((tt_push (p_3_90 _ _)).mpr ((tt_iload (p_3_91 _ _) rfl).mpr ((tt_bin (p_3_92 _ _)).mpr (t2_callv (z := 47) (k := 2) (i := a2) (as := [.int ((1 : Int32) <<< (x2 &&& 31))]) (rest := []) (p_3_93 _ _) mK_47 mL_47 rfl rfl (Nat.le_of_ble_eq_true rfl) rfl (Nat.le_of_ble_eq_true rfl) h3.2.1 h3.2.2))))))) (fun g1 => (tt_aload (p_3_71 _ _) rfl).mpr ((tt_iload (p_3_72 _ _) rfl).mpr ((tt_iload (p_3_73 _ _) rfl).mpr (t2_callv (z := 4) (k := 3) (i := r0) (as := [.int x2, .int x3]) (rest := []) (p_3_74 _ _) mK_4 mL_4 rfl rfl (Nat.le_of_ble_eq_true rfl) rfl (Nat.le_of_ble_eq_true rfl) (ifn h g1).1 (ifn h g1).2)))))
theorem b_3_77 {Y : sY} {d : Nat} {s : sT} {K : Option Int32 → sT → Prop} {r0 : Nat} {x1 : Int32} {x2 : Int32} {x3 : Int32} {x4 : Int32} {t0 : Int32} (h : (if t0 = 0 then K (some (2 : Int32)) s else K (some (0 : Int32)) s)) : tT Y (d + 1) 3 77 [.ref r0, .int x1, .int x2, .int x3, .int x4] [.int t0] s K :=
  t3_if (p := t0 = 0) (p_3_77 _ _) rfl (fun g1 => (tt_push (p_3_84 _ _)).mpr (tt_ret1 (p_3_85 _ _) (ifp h g1))) (fun g1 => (tt_push (p_3_80 _ _)).mpr ((tt_goto (p_3_81 _ _)).mpr (tt_ret1 (p_3_85 _ _) (ifn h g1))))
theorem b_3_96 {Y : sY} {d : Nat} {s : sT} {K : Option Int32 → sT → Prop} {r0 : Nat} {x1 : Int32} {x2 : Int32} {x3 : Int32} {x4 : Int32} {t0 : Int32} (h : (if t0 = 0 then tT Y (d + 1) 3 112 [.ref r0, .int x1, .int x2, .int x3, .int x4] [] s K else (∃ a2, (isO Y r0 0 ∧ s.2 r0 1 = some a2) ∧ (isO Y a2 5 ∧ tT Y d 47 0 [.ref a2, .int x3] [] s (fun r s1 => tT Y (d + 1) 3 107 [.ref r0, .int x1, .int x2, .int x3, .int x4] ((r.map Value.int).toList ++ []) s1 K))))) : tT Y (d + 1) 3 96 [.ref r0, .int x1, .int x2, .int x3, .int x4] [.int t0] s K :=
  t3_if (p := t0 = 0) (p_3_96 _ _) rfl (fun g1 => (ifp h g1)) (fun g1 => (tt_aload (p_3_99 _ _) rfl).mpr (Exists.elim (ifn h g1) (fun a2 h3 => t3_getr (p_3_100 _ _) (isI_0_1) h3.1.1 h3.1.2 ((tt_iload (p_3_103 _ _) rfl).mpr (t2_callv (z := 47) (k := 2) (i := a2) (as := [.int x3]) (rest := []) (p_3_104 _ _) mK_47 mL_47 rfl rfl (Nat.le_of_ble_eq_true rfl) rfl (Nat.le_of_ble_eq_true rfl) h3.2.1 h3.2.2)))))
theorem b_3_107 {Y : sY} {d : Nat} {s : sT} {K : Option Int32 → sT → Prop} {r0 : Nat} {x1 : Int32} {x2 : Int32} {x3 : Int32} {x4 : Int32} {t0 : Int32} (h : (if ¬ t0 = 0 then tT Y (d + 1) 3 112 [.ref r0, .int x1, .int x2, .int x3, .int x4] [] s K else K (some (3 : Int32)) s)) : tT Y (d + 1) 3 107 [.ref r0, .int x1, .int x2, .int x3, .int x4] [.int t0] s K :=
  t3_if (p := ¬ t0 = 0) (p_3_107 _ _) rfl (fun g1 => (ifp h g1)) (fun g1 => (tt_push (p_3_110 _ _)).mpr (tt_ret1 (p_3_111 _ _) (ifn h g1)))
theorem b_3_112 {Y : sY} {d : Nat} {s : sT} {K : Option Int32 → sT → Prop} {r0 : Nat} {x1 : Int32} {x2 : Int32} {x3 : Int32} {x4 : Int32} (h : (isO Y r0 0 ∧ tT Y d 5 0 [.ref r0, .int x1, .null] [] s (fun r s1 => tT Y (d + 1) 3 117 [.ref r0, .int x1, .int x2, .int x3, .int x4] ((r.map Value.int).toList ++ []) s1 K))) : tT Y (d + 1) 3 112 [.ref r0, .int x1, .int x2, .int x3, .int x4] [] s K :=
  (tt_aload (p_3_112 _ _) rfl).mpr ((tt_iload (p_3_113 _ _) rfl).mpr (t2_callv (z := 5) (k := 2) (i := r0) (as := [.int x1]) (rest := []) (p_3_114 _ _) mK_5 mL_5 rfl rfl (Nat.le_of_ble_eq_true rfl) rfl (Nat.le_of_ble_eq_true rfl) h.1 h.2))
theorem b_3_117 {Y : sY} {d : Nat} {s : sT} {K : Option Int32 → sT → Prop} {r0 : Nat} {x1 : Int32} {x2 : Int32} {x3 : Int32} {x4 : Int32} {t0 : Int32} (h : (if ¬ t0 = 0 then (isO Y r0 0 ∧ tT Y d 6 0 [.ref r0, .int x1, .int x2, .int x3, .null, .null, .null, .null] [] s (fun r s1 => tT Y (d + 1) 3 129 [.ref r0, .int x1, .int x2, .int x3, .int x4] ((r.map Value.int).toList ++ []) s1 K)) else K (some (4 : Int32)) s)) : tT Y (d + 1) 3 117 [.ref r0, .int x1, .int x2, .int x3, .int x4] [.int t0] s K :=
  t3_if (p := ¬ t0 = 0) (p_3_117 _ _) rfl (fun g1 => (tt_aload (p_3_122 _ _) rfl).mpr ((tt_iload (p_3_123 _ _) rfl).mpr ((tt_iload (p_3_124 _ _) rfl).mpr ((tt_iload (p_3_125 _ _) rfl).mpr (t2_callv (z := 6) (k := 4) (i := r0) (as := [.int x1, .int x2, .int x3]) (rest := []) (p_3_126 _ _) mK_6 mL_6 rfl rfl (Nat.le_of_ble_eq_true rfl) rfl (Nat.le_of_ble_eq_true rfl) (ifp h g1).1 (ifp h g1).2))))) (fun g1 => (tt_push (p_3_120 _ _)).mpr (tt_ret1 (p_3_121 _ _) (ifn h g1)))
theorem b_3_129 {Y : sY} {d : Nat} {s : sT} {K : Option Int32 → sT → Prop} {r0 : Nat} {x1 : Int32} {x2 : Int32} {x3 : Int32} {x4 : Int32} {t0 : Int32} (h : (if t0 = 0 then K (some (5 : Int32)) s else K (some (0 : Int32)) s)) : tT Y (d + 1) 3 129 [.ref r0, .int x1, .int x2, .int x3, .int x4] [.int t0] s K :=
  t3_if (p := t0 = 0) (p_3_129 _ _) rfl (fun g1 => (tt_push (p_3_136 _ _)).mpr (tt_ret1 (p_3_137 _ _) (ifp h g1))) (fun g1 => (tt_push (p_3_132 _ _)).mpr ((tt_goto (p_3_133 _ _)).mpr (tt_ret1 (p_3_137 _ _) (ifn h g1))))
/-! InclusionProver$Kernel.isMember.(II)Z -/
theorem p_4_0 (L : Nat) (xs : Nat → Int32) : ll_P L xs 4 0 = some (.inl (lo_aload 1 0)) := (P_4 L xs 0).trans rfl
theorem p_4_1 (L : Nat) (xs : Nat → Int32) : ll_P L xs 4 1 = some (.inl (lo_getf 4 0 1)) := (P_4 L xs 1).trans rfl
theorem p_4_4 (L : Nat) (xs : Nat → Int32) : ll_P L xs 4 4 = some (.inl (lo_aload 5 0)) := (P_4 L xs 4).trans rfl
theorem p_4_5 (L : Nat) (xs : Nat → Int32) : ll_P L xs 4 5 = some (.inl (lo_getf 8 0 0)) := (P_4 L xs 5).trans rfl
theorem p_4_8 (L : Nat) (xs : Nat → Int32) : ll_P L xs 4 8 = some (.inl (lo_iload 9 1)) := (P_4 L xs 8).trans rfl
theorem p_4_9 (L : Nat) (xs : Nat → Int32) : ll_P L xs 4 9 = some (.inr (.inl (55, 3, 12))) := (P_4 L xs 9).trans rfl
theorem p_4_12 (L : Nat) (xs : Nat → Int32) : ll_P L xs 4 12 = some (.inl (lo_istore 13 3)) := (P_4 L xs 12).trans rfl
theorem p_4_13 (L : Nat) (xs : Nat → Int32) : ll_P L xs 4 13 = some (.inl (lo_iload 14 3)) := (P_4 L xs 13).trans rfl
theorem p_4_14 (L : Nat) (xs : Nat → Int32) : ll_P L xs 4 14 = some (.inl (lo_push 15 (.int (-1)))) := (P_4 L xs 14).trans rfl
theorem p_4_15 (L : Nat) (xs : Nat → Int32) : ll_P L xs 4 15 = some (.inl (lo_cmp 30 18 (fun x y => decide (x = y)))) := (P_4 L xs 15).trans rfl
theorem p_4_18 (L : Nat) (xs : Nat → Int32) : ll_P L xs 4 18 = some (.inl (lo_iload 19 2)) := (P_4 L xs 18).trans rfl
theorem p_4_19 (L : Nat) (xs : Nat → Int32) : ll_P L xs 4 19 = some (.inl (lo_iload 20 3)) := (P_4 L xs 19).trans rfl
theorem p_4_20 (L : Nat) (xs : Nat → Int32) : ll_P L xs 4 20 = some (.inl (lo_bin 21 (fun x y => x >>> (y &&& 31)))) := (P_4 L xs 20).trans rfl
theorem p_4_21 (L : Nat) (xs : Nat → Int32) : ll_P L xs 4 21 = some (.inl (lo_push 22 (.int 1))) := (P_4 L xs 21).trans rfl
theorem p_4_22 (L : Nat) (xs : Nat → Int32) : ll_P L xs 4 22 = some (.inl (lo_bin 23 (fun x y => x &&& y))) := (P_4 L xs 22).trans rfl
theorem p_4_23 (L : Nat) (xs : Nat → Int32) : ll_P L xs 4 23 = some (.inl (lo_if 30 26 (fun x => decide (x = 0)))) := (P_4 L xs 23).trans rfl
theorem p_4_26 (L : Nat) (xs : Nat → Int32) : ll_P L xs 4 26 = some (.inl (lo_push 27 (.int 1))) := (P_4 L xs 26).trans rfl
theorem p_4_27 (L : Nat) (xs : Nat → Int32) : ll_P L xs 4 27 = some (.inl (lo_goto 31)) := (P_4 L xs 27).trans rfl
theorem p_4_30 (L : Nat) (xs : Nat → Int32) : ll_P L xs 4 30 = some (.inl (lo_push 31 (.int 0))) := (P_4 L xs 30).trans rfl
theorem p_4_31 (L : Nat) (xs : Nat → Int32) : ll_P L xs 4 31 = some (.inr (.inr 2)) := (P_4 L xs 31).trans rfl
theorem b_4_0 {Y : sY} {d : Nat} {s : sT} {K : Option Int32 → sT → Prop} {r0 : Nat} {x1 : Int32} {x2 : Int32} (h : (∃ a1, (isO Y r0 0 ∧ s.2 r0 1 = some a1) ∧ (∃ a3, (isO Y r0 0 ∧ s.2 r0 0 = some a3) ∧ (isO Y a1 5 ∧ tT Y d 55 0 [.ref a1, .ref a3, .int x1, .null] [] s (fun r s1 => tT Y (d + 1) 4 12 [.ref r0, .int x1, .int x2, .null] ((r.map Value.int).toList ++ []) s1 K))))) : tT Y (d + 1) 4 0 [.ref r0, .int x1, .int x2, .null] [] s K :=
  (tt_aload (p_4_0 _ _) rfl).mpr (Exists.elim h (fun a1 h2 => t3_getr (p_4_1 _ _) (isI_0_1) h2.1.1 h2.1.2 ((tt_aload (p_4_4 _ _) rfl).mpr (Exists.elim h2.2 (fun a3 h4 => t3_getr (p_4_5 _ _) (isI_0_0) h4.1.1 h4.1.2 ((tt_iload (p_4_8 _ _) rfl).mpr (t2_callv (z := 55) (k := 3) (i := a1) (as := [.ref a3, .int x1]) (rest := []) (p_4_9 _ _) mK_55 mL_55 rfl rfl (Nat.le_of_ble_eq_true rfl) rfl (Nat.le_of_ble_eq_true rfl) h4.2.1 h4.2.2)))))))
theorem b_4_12 {Y : sY} {d : Nat} {s : sT} {K : Option Int32 → sT → Prop} {r0 : Nat} {x1 : Int32} {x2 : Int32} {t0 : Int32} (h : (if t0 = (-1 : Int32) then K (some (0 : Int32)) s else (if ((x2 >>> (t0 &&& 31)) &&& (1 : Int32)) = 0 then K (some (0 : Int32)) s else K (some (1 : Int32)) s))) : tT Y (d + 1) 4 12 [.ref r0, .int x1, .int x2, .null] [.int t0] s K :=
  (tt_istore (p_4_12 _ _) (Nat.le_of_ble_eq_true rfl) rfl rfl).mpr ((tt_iload (p_4_13 _ _) rfl).mpr ((tt_push (p_4_14 _ _)).mpr (t3_cmp (p := t0 = (-1 : Int32)) (p_4_15 _ _) rfl (fun g1 => (tt_push (p_4_30 _ _)).mpr (tt_ret2 (p_4_31 _ _) (Or.inl rfl) (ifp h g1))) (fun g1 => (tt_iload (p_4_18 _ _) rfl).mpr ((tt_iload (p_4_19 _ _) rfl).mpr ((tt_bin (p_4_20 _ _)).mpr ((tt_push (p_4_21 _ _)).mpr ((tt_bin (p_4_22 _ _)).mpr (t3_if (p := ((x2 >>> (t0 &&& 31)) &&& (1 : Int32)) = 0) (p_4_23 _ _) rfl (fun g2 => (tt_push (p_4_30 _ _)).mpr (tt_ret2 (p_4_31 _ _) (Or.inl rfl) (ifp (ifn h g1) g2))) (fun g2 => (tt_push (p_4_26 _ _)).mpr ((tt_goto (p_4_27 _ _)).mpr (tt_ret2 (p_4_31 _ _) (Or.inr rfl) (ifn (ifn h g1) g2)))))))))))))
/-! InclusionProver$Kernel.premisesAreLines.(I)Z -/
theorem p_5_0 (L : Nat) (xs : Nat → Int32) : ll_P L xs 5 0 = some (.inl (lo_push 1 (.int 0))) := (P_5 L xs 0).trans rfl
theorem p_5_1 (L : Nat) (xs : Nat → Int32) : ll_P L xs 5 1 = some (.inl (lo_istore 2 2)) := (P_5 L xs 1).trans rfl
theorem p_5_2 (L : Nat) (xs : Nat → Int32) : ll_P L xs 5 2 = some (.inl (lo_iload 3 2)) := (P_5 L xs 2).trans rfl
theorem p_5_3 (L : Nat) (xs : Nat → Int32) : ll_P L xs 5 3 = some (.inl (lo_aload 4 0)) := (P_5 L xs 3).trans rfl
theorem p_5_4 (L : Nat) (xs : Nat → Int32) : ll_P L xs 5 4 = some (.inl (lo_getf 7 0 2)) := (P_5 L xs 4).trans rfl
theorem p_5_7 (L : Nat) (xs : Nat → Int32) : ll_P L xs 5 7 = some (.inl (lo_getf 10 1 4)) := (P_5 L xs 7).trans rfl
theorem p_5_10 (L : Nat) (xs : Nat → Int32) : ll_P L xs 5 10 = some (.inl (lo_iload 11 1)) := (P_5 L xs 10).trans rfl
theorem p_5_11 (L : Nat) (xs : Nat → Int32) : ll_P L xs 5 11 = some (.inl (lo_ald 12 0)) := (P_5 L xs 11).trans rfl
theorem p_5_12 (L : Nat) (xs : Nat → Int32) : ll_P L xs 5 12 = some (.inl (lo_cmp 47 15 (fun x y => decide (y ≤ x)))) := (P_5 L xs 12).trans rfl
theorem p_5_15 (L : Nat) (xs : Nat → Int32) : ll_P L xs 5 15 = some (.inl (lo_aload 16 0)) := (P_5 L xs 15).trans rfl
theorem p_5_16 (L : Nat) (xs : Nat → Int32) : ll_P L xs 5 16 = some (.inl (lo_getf 19 0 2)) := (P_5 L xs 16).trans rfl
theorem p_5_19 (L : Nat) (xs : Nat → Int32) : ll_P L xs 5 19 = some (.inl (lo_aload 20 0)) := (P_5 L xs 19).trans rfl
theorem p_5_20 (L : Nat) (xs : Nat → Int32) : ll_P L xs 5 20 = some (.inl (lo_getf 23 0 2)) := (P_5 L xs 20).trans rfl
theorem p_5_23 (L : Nat) (xs : Nat → Int32) : ll_P L xs 5 23 = some (.inl (lo_iload 24 1)) := (P_5 L xs 23).trans rfl
theorem p_5_24 (L : Nat) (xs : Nat → Int32) : ll_P L xs 5 24 = some (.inl (lo_iload 25 2)) := (P_5 L xs 24).trans rfl
theorem p_5_25 (L : Nat) (xs : Nat → Int32) : ll_P L xs 5 25 = some (.inr (.inl (12, 3, 28))) := (P_5 L xs 25).trans rfl
theorem p_5_28 (L : Nat) (xs : Nat → Int32) : ll_P L xs 5 28 = some (.inr (.inl (10, 2, 31))) := (P_5 L xs 28).trans rfl
theorem p_5_31 (L : Nat) (xs : Nat → Int32) : ll_P L xs 5 31 = some (.inl (lo_if 41 34 (fun x => decide (¬ x = 0)))) := (P_5 L xs 31).trans rfl
theorem p_5_34 (L : Nat) (xs : Nat → Int32) : ll_P L xs 5 34 = some (.inl (lo_aload 35 0)) := (P_5 L xs 34).trans rfl
theorem p_5_35 (L : Nat) (xs : Nat → Int32) : ll_P L xs 5 35 = some (.inl (lo_iload 36 2)) := (P_5 L xs 35).trans rfl
theorem p_5_36 (L : Nat) (xs : Nat → Int32) : ll_P L xs 5 36 = some (.inl (lo_putf 39 0 6 0)) := (P_5 L xs 36).trans rfl
theorem p_5_39 (L : Nat) (xs : Nat → Int32) : ll_P L xs 5 39 = some (.inl (lo_push 40 (.int 0))) := (P_5 L xs 39).trans rfl
theorem p_5_40 (L : Nat) (xs : Nat → Int32) : ll_P L xs 5 40 = some (.inr (.inr 2)) := (P_5 L xs 40).trans rfl
theorem p_5_41 (L : Nat) (xs : Nat → Int32) : ll_P L xs 5 41 = some (.inl (lo_iinc 44 2 1)) := (P_5 L xs 41).trans rfl
theorem p_5_44 (L : Nat) (xs : Nat → Int32) : ll_P L xs 5 44 = some (.inl (lo_goto 2)) := (P_5 L xs 44).trans rfl
theorem p_5_47 (L : Nat) (xs : Nat → Int32) : ll_P L xs 5 47 = some (.inl (lo_push 48 (.int 1))) := (P_5 L xs 47).trans rfl
theorem p_5_48 (L : Nat) (xs : Nat → Int32) : ll_P L xs 5 48 = some (.inr (.inr 2)) := (P_5 L xs 48).trans rfl
theorem b_5_0 {Y : sY} {d : Nat} {s : sT} {K : Option Int32 → sT → Prop} {r0 : Nat} {x1 : Int32} (h : tT Y (d + 1) 5 2 [.ref r0, .int x1, .int (0 : Int32)] [] s K) : tT Y (d + 1) 5 0 [.ref r0, .int x1, .null] [] s K :=
  (tt_push (p_5_0 _ _)).mpr ((tt_istore (p_5_1 _ _) (Nat.le_of_ble_eq_true rfl) rfl rfl).mpr (h))
theorem b_5_2 {Y : sY} {d : Nat} {s : sT} {K : Option Int32 → sT → Prop} {r0 : Nat} {x1 : Int32} {x2 : Int32} (h : (∃ a1, (isO Y r0 0 ∧ s.2 r0 2 = some a1) ∧ (∃ a3, (isO Y a1 1 ∧ s.2 a1 4 = some a3) ∧ (∃ m5, (isA Y a3 0 m5 ∧ inR x1 m5) ∧ (if (s.1 a3 (x1).toNatClampNeg) ≤ x2 then K (some (1 : Int32)) s else (∃ a8, (isO Y r0 0 ∧ s.2 r0 2 = some a8) ∧ (∃ a10, (isO Y r0 0 ∧ s.2 r0 2 = some a10) ∧ (isO Y a10 1 ∧ tT Y d 12 0 [.ref a10, .int x1, .int x2] [] s (fun r s1 => tT Y (d + 1) 5 28 [.ref r0, .int x1, .int x2] ((r.map Value.int).toList ++ [.ref a8]) s1 K))))))))) : tT Y (d + 1) 5 2 [.ref r0, .int x1, .int x2] [] s K :=
  (tt_iload (p_5_2 _ _) rfl).mpr ((tt_aload (p_5_3 _ _) rfl).mpr (Exists.elim h (fun a1 h2 => t3_getr (p_5_4 _ _) (isI_0_2) h2.1.1 h2.1.2 (Exists.elim h2.2 (fun a3 h4 => t3_getr (p_5_7 _ _) (isI_1_4) h4.1.1 h4.1.2 ((tt_iload (p_5_10 _ _) rfl).mpr (Exists.elim h4.2 (fun m5 h6 => t3_ald (p_5_11 _ _) h6.1.1 h6.1.2 (t3_cmp (p := (s.1 a3 (x1).toNatClampNeg) ≤ x2) (p_5_12 _ _) rfl (fun g7 => (tt_push (p_5_47 _ _)).mpr (tt_ret2 (p_5_48 _ _) (Or.inr rfl) (ifp h6.2 g7))) (fun g7 => (tt_aload (p_5_15 _ _) rfl).mpr (Exists.elim (ifn h6.2 g7) (fun a8 h9 => t3_getr (p_5_16 _ _) (isI_0_2) h9.1.1 h9.1.2 ((tt_aload (p_5_19 _ _) rfl).mpr (Exists.elim h9.2 (fun a10 h11 => t3_getr (p_5_20 _ _) (isI_0_2) h11.1.1 h11.1.2 ((tt_iload (p_5_23 _ _) rfl).mpr ((tt_iload (p_5_24 _ _) rfl).mpr (t2_callv (z := 12) (k := 3) (i := a10) (as := [.int x1, .int x2]) (rest := [.ref a8]) (p_5_25 _ _) mK_12 mL_12 rfl rfl (Nat.le_of_ble_eq_true rfl) rfl (Nat.le_of_ble_eq_true rfl) h11.2.1 h11.2.2))))))))))))))))))
theorem b_5_28 {Y : sY} {d : Nat} {s : sT} {K : Option Int32 → sT → Prop} {r0 : Nat} {x1 : Int32} {x2 : Int32} {t0 : Nat} {t1 : Int32} (h : (isO Y t0 1 ∧ tT Y d 10 0 [.ref t0, .int t1] [] s (fun r s1 => tT Y (d + 1) 5 31 [.ref r0, .int x1, .int x2] ((r.map Value.int).toList ++ []) s1 K))) : tT Y (d + 1) 5 28 [.ref r0, .int x1, .int x2] [.int t1, .ref t0] s K :=
  t2_callv (z := 10) (k := 2) (i := t0) (as := [.int t1]) (rest := []) (p_5_28 _ _) mK_10 mL_10 rfl rfl (Nat.le_of_ble_eq_true rfl) rfl (Nat.le_of_ble_eq_true rfl) h.1 h.2
theorem b_5_31 {Y : sY} {d : Nat} {s : sT} {K : Option Int32 → sT → Prop} {r0 : Nat} {x1 : Int32} {x2 : Int32} {t0 : Int32} (h : (if ¬ t0 = 0 then tT Y (d + 1) 5 2 [.ref r0, .int x1, .int (x2 + 1)] [] s K else (isO Y r0 0 ∧ K (some (0 : Int32)) (pV s r0 6 x2)))) : tT Y (d + 1) 5 31 [.ref r0, .int x1, .int x2] [.int t0] s K :=
  t3_if (p := ¬ t0 = 0) (p_5_31 _ _) rfl (fun g1 => (tt_iinc (p_5_41 _ _) rfl rfl rfl).mpr ((tt_goto (p_5_44 _ _)).mpr ((ifp h g1)))) (fun g1 => (tt_aload (p_5_34 _ _) rfl).mpr ((tt_iload (p_5_35 _ _) rfl).mpr ((t2_puti (p_5_36 _ _) isI_0_6 (ifn h g1).1).mpr ((tt_push (p_5_39 _ _)).mpr (tt_ret2 (p_5_40 _ _) (Or.inl rfl) (ifn h g1).2)))))
/-! InclusionProver$Kernel.partsAreProved.(III)Z -/
theorem p_6_0 (L : Nat) (xs : Nat → Int32) : ll_P L xs 6 0 = some (.inl (lo_push 1 (.int 0))) := (P_6 L xs 0).trans rfl
theorem p_6_1 (L : Nat) (xs : Nat → Int32) : ll_P L xs 6 1 = some (.inl (lo_istore 3 4)) := (P_6 L xs 1).trans rfl
theorem p_6_3 (L : Nat) (xs : Nat → Int32) : ll_P L xs 6 3 = some (.inl (lo_iload 5 4)) := (P_6 L xs 3).trans rfl
theorem p_6_5 (L : Nat) (xs : Nat → Int32) : ll_P L xs 6 5 = some (.inl (lo_push 6 (.int 3))) := (P_6 L xs 5).trans rfl
theorem p_6_6 (L : Nat) (xs : Nat → Int32) : ll_P L xs 6 6 = some (.inl (lo_cmp 93 9 (fun x y => decide (y ≤ x)))) := (P_6 L xs 6).trans rfl
theorem p_6_9 (L : Nat) (xs : Nat → Int32) : ll_P L xs 6 9 = some (.inl (lo_aload 10 0)) := (P_6 L xs 9).trans rfl
theorem p_6_10 (L : Nat) (xs : Nat → Int32) : ll_P L xs 6 10 = some (.inl (lo_getf 13 0 1)) := (P_6 L xs 10).trans rfl
theorem p_6_13 (L : Nat) (xs : Nat → Int32) : ll_P L xs 6 13 = some (.inl (lo_iload 14 3)) := (P_6 L xs 13).trans rfl
theorem p_6_14 (L : Nat) (xs : Nat → Int32) : ll_P L xs 6 14 = some (.inl (lo_iload 16 4)) := (P_6 L xs 14).trans rfl
theorem p_6_16 (L : Nat) (xs : Nat → Int32) : ll_P L xs 6 16 = some (.inr (.inl (54, 3, 19))) := (P_6 L xs 16).trans rfl
theorem p_6_19 (L : Nat) (xs : Nat → Int32) : ll_P L xs 6 19 = some (.inl (lo_istore 21 5)) := (P_6 L xs 19).trans rfl
theorem p_6_21 (L : Nat) (xs : Nat → Int32) : ll_P L xs 6 21 = some (.inl (lo_push 22 (.int 0))) := (P_6 L xs 21).trans rfl
theorem p_6_22 (L : Nat) (xs : Nat → Int32) : ll_P L xs 6 22 = some (.inl (lo_istore 24 6)) := (P_6 L xs 22).trans rfl
theorem p_6_24 (L : Nat) (xs : Nat → Int32) : ll_P L xs 6 24 = some (.inl (lo_iload 26 6)) := (P_6 L xs 24).trans rfl
theorem p_6_26 (L : Nat) (xs : Nat → Int32) : ll_P L xs 6 26 = some (.inl (lo_aload 27 0)) := (P_6 L xs 26).trans rfl
theorem p_6_27 (L : Nat) (xs : Nat → Int32) : ll_P L xs 6 27 = some (.inl (lo_getf 30 0 0)) := (P_6 L xs 27).trans rfl
theorem p_6_30 (L : Nat) (xs : Nat → Int32) : ll_P L xs 6 30 = some (.inl (lo_iload 31 2)) := (P_6 L xs 30).trans rfl
theorem p_6_31 (L : Nat) (xs : Nat → Int32) : ll_P L xs 6 31 = some (.inl (lo_iload 33 4)) := (P_6 L xs 31).trans rfl
theorem p_6_33 (L : Nat) (xs : Nat → Int32) : ll_P L xs 6 33 = some (.inr (.inl (52, 3, 36))) := (P_6 L xs 33).trans rfl
theorem p_6_36 (L : Nat) (xs : Nat → Int32) : ll_P L xs 6 36 = some (.inl (lo_cmp 87 39 (fun x y => decide (y ≤ x)))) := (P_6 L xs 36).trans rfl
theorem p_6_39 (L : Nat) (xs : Nat → Int32) : ll_P L xs 6 39 = some (.inl (lo_aload 40 0)) := (P_6 L xs 39).trans rfl
theorem p_6_40 (L : Nat) (xs : Nat → Int32) : ll_P L xs 6 40 = some (.inl (lo_getf 43 0 0)) := (P_6 L xs 40).trans rfl
theorem p_6_43 (L : Nat) (xs : Nat → Int32) : ll_P L xs 6 43 = some (.inl (lo_iload 44 2)) := (P_6 L xs 43).trans rfl
theorem p_6_44 (L : Nat) (xs : Nat → Int32) : ll_P L xs 6 44 = some (.inl (lo_iload 46 4)) := (P_6 L xs 44).trans rfl
theorem p_6_46 (L : Nat) (xs : Nat → Int32) : ll_P L xs 6 46 = some (.inl (lo_iload 48 6)) := (P_6 L xs 46).trans rfl
theorem p_6_48 (L : Nat) (xs : Nat → Int32) : ll_P L xs 6 48 = some (.inr (.inl (53, 4, 51))) := (P_6 L xs 48).trans rfl
theorem p_6_51 (L : Nat) (xs : Nat → Int32) : ll_P L xs 6 51 = some (.inl (lo_istore 53 7)) := (P_6 L xs 51).trans rfl
theorem p_6_53 (L : Nat) (xs : Nat → Int32) : ll_P L xs 6 53 = some (.inl (lo_aload 54 0)) := (P_6 L xs 53).trans rfl
theorem p_6_54 (L : Nat) (xs : Nat → Int32) : ll_P L xs 6 54 = some (.inl (lo_iload 55 1)) := (P_6 L xs 54).trans rfl
theorem p_6_55 (L : Nat) (xs : Nat → Int32) : ll_P L xs 6 55 = some (.inl (lo_iload 57 7)) := (P_6 L xs 55).trans rfl
theorem p_6_57 (L : Nat) (xs : Nat → Int32) : ll_P L xs 6 57 = some (.inl (lo_iload 59 5)) := (P_6 L xs 57).trans rfl
theorem p_6_59 (L : Nat) (xs : Nat → Int32) : ll_P L xs 6 59 = some (.inr (.inl (7, 4, 62))) := (P_6 L xs 59).trans rfl
theorem p_6_62 (L : Nat) (xs : Nat → Int32) : ll_P L xs 6 62 = some (.inl (lo_if 81 65 (fun x => decide (¬ x = 0)))) := (P_6 L xs 62).trans rfl
theorem p_6_65 (L : Nat) (xs : Nat → Int32) : ll_P L xs 6 65 = some (.inl (lo_aload 66 0)) := (P_6 L xs 65).trans rfl
theorem p_6_66 (L : Nat) (xs : Nat → Int32) : ll_P L xs 6 66 = some (.inl (lo_iload 68 4)) := (P_6 L xs 66).trans rfl
theorem p_6_68 (L : Nat) (xs : Nat → Int32) : ll_P L xs 6 68 = some (.inl (lo_push 69 (.int 1))) := (P_6 L xs 68).trans rfl
theorem p_6_69 (L : Nat) (xs : Nat → Int32) : ll_P L xs 6 69 = some (.inl (lo_bin 70 (fun x y => x + y))) := (P_6 L xs 69).trans rfl
theorem p_6_70 (L : Nat) (xs : Nat → Int32) : ll_P L xs 6 70 = some (.inl (lo_putf 73 0 5 0)) := (P_6 L xs 70).trans rfl
theorem p_6_73 (L : Nat) (xs : Nat → Int32) : ll_P L xs 6 73 = some (.inl (lo_aload 74 0)) := (P_6 L xs 73).trans rfl
theorem p_6_74 (L : Nat) (xs : Nat → Int32) : ll_P L xs 6 74 = some (.inl (lo_iload 76 7)) := (P_6 L xs 74).trans rfl
theorem p_6_76 (L : Nat) (xs : Nat → Int32) : ll_P L xs 6 76 = some (.inl (lo_putf 79 0 6 0)) := (P_6 L xs 76).trans rfl
theorem p_6_79 (L : Nat) (xs : Nat → Int32) : ll_P L xs 6 79 = some (.inl (lo_push 80 (.int 0))) := (P_6 L xs 79).trans rfl
theorem p_6_80 (L : Nat) (xs : Nat → Int32) : ll_P L xs 6 80 = some (.inr (.inr 2)) := (P_6 L xs 80).trans rfl
theorem p_6_81 (L : Nat) (xs : Nat → Int32) : ll_P L xs 6 81 = some (.inl (lo_iinc 84 6 1)) := (P_6 L xs 81).trans rfl
theorem p_6_84 (L : Nat) (xs : Nat → Int32) : ll_P L xs 6 84 = some (.inl (lo_goto 24)) := (P_6 L xs 84).trans rfl
theorem p_6_87 (L : Nat) (xs : Nat → Int32) : ll_P L xs 6 87 = some (.inl (lo_iinc 90 4 1)) := (P_6 L xs 87).trans rfl
theorem p_6_90 (L : Nat) (xs : Nat → Int32) : ll_P L xs 6 90 = some (.inl (lo_goto 3)) := (P_6 L xs 90).trans rfl
theorem p_6_93 (L : Nat) (xs : Nat → Int32) : ll_P L xs 6 93 = some (.inl (lo_push 94 (.int 1))) := (P_6 L xs 93).trans rfl
theorem p_6_94 (L : Nat) (xs : Nat → Int32) : ll_P L xs 6 94 = some (.inr (.inr 2)) := (P_6 L xs 94).trans rfl
theorem b_6_0 {Y : sY} {d : Nat} {s : sT} {K : Option Int32 → sT → Prop} {r0 : Nat} {x1 : Int32} {x2 : Int32} {x3 : Int32} (h : tT Y (d + 1) 6 3 [.ref r0, .int x1, .int x2, .int x3, .int (0 : Int32), .null, .null, .null] [] s K) : tT Y (d + 1) 6 0 [.ref r0, .int x1, .int x2, .int x3, .null, .null, .null, .null] [] s K :=
  (tt_push (p_6_0 _ _)).mpr ((tt_istore (p_6_1 _ _) (Nat.le_of_ble_eq_true rfl) rfl rfl).mpr (h))
theorem b_6_3 {Y : sY} {d : Nat} {s : sT} {K : Option Int32 → sT → Prop} {r0 : Nat} {x1 : Int32} {x2 : Int32} {x3 : Int32} {x4 : Int32} {u5 : Value} {u6 : Value} {u7 : Value} (h : (if (3 : Int32) ≤ x4 then K (some (1 : Int32)) s else (∃ a2, (isO Y r0 0 ∧ s.2 r0 1 = some a2) ∧ (isO Y a2 5 ∧ tT Y d 54 0 [.ref a2, .int x3, .int x4, .null, .null] [] s (fun r s1 => tT Y (d + 1) 6 19 [.ref r0, .int x1, .int x2, .int x3, .int x4, u5, u6, u7] ((r.map Value.int).toList ++ []) s1 K))))) : tT Y (d + 1) 6 3 [.ref r0, .int x1, .int x2, .int x3, .int x4, u5, u6, u7] [] s K :=
  (tt_iload (p_6_3 _ _) rfl).mpr ((tt_push (p_6_5 _ _)).mpr (t3_cmp (p := (3 : Int32) ≤ x4) (p_6_6 _ _) rfl (fun g1 => (tt_push (p_6_93 _ _)).mpr (tt_ret2 (p_6_94 _ _) (Or.inr rfl) (ifp h g1))) (fun g1 => (tt_aload (p_6_9 _ _) rfl).mpr (Exists.elim (ifn h g1) (fun a2 h3 => t3_getr (p_6_10 _ _) (isI_0_1) h3.1.1 h3.1.2 ((tt_iload (p_6_13 _ _) rfl).mpr ((tt_iload (p_6_14 _ _) rfl).mpr (t2_callv (z := 54) (k := 3) (i := a2) (as := [.int x3, .int x4]) (rest := []) (p_6_16 _ _) mK_54 mL_54 rfl rfl (Nat.le_of_ble_eq_true rfl) rfl (Nat.le_of_ble_eq_true rfl) h3.2.1 h3.2.2))))))))
theorem b_6_19 {Y : sY} {d : Nat} {s : sT} {K : Option Int32 → sT → Prop} {r0 : Nat} {x1 : Int32} {x2 : Int32} {x3 : Int32} {x4 : Int32} {u5 : Value} {u6 : Value} {u7 : Value} {t0 : Int32} (h : tT Y (d + 1) 6 24 [.ref r0, .int x1, .int x2, .int x3, .int x4, .int t0, .int (0 : Int32), u7] [] s K) : tT Y (d + 1) 6 19 [.ref r0, .int x1, .int x2, .int x3, .int x4, u5, u6, u7] [.int t0] s K :=
  (tt_istore (p_6_19 _ _) (Nat.le_of_ble_eq_true rfl) rfl rfl).mpr ((tt_push (p_6_21 _ _)).mpr ((tt_istore (p_6_22 _ _) (Nat.le_of_ble_eq_true rfl) rfl rfl).mpr (h)))
theorem b_6_24 {Y : sY} {d : Nat} {s : sT} {K : Option Int32 → sT → Prop} {r0 : Nat} {x1 : Int32} {x2 : Int32} {x3 : Int32} {x4 : Int32} {x5 : Int32} {x6 : Int32} {u7 : Value} (h : (∃ a1, (isO Y r0 0 ∧ s.2 r0 0 = some a1) ∧ (isO Y a1 5 ∧ tT Y d 52 0 [.ref a1, .int x2, .int x4, .null] [] s (fun r s1 => tT Y (d + 1) 6 36 [.ref r0, .int x1, .int x2, .int x3, .int x4, .int x5, .int x6, u7] ((r.map Value.int).toList ++ [.int x6]) s1 K)))) : tT Y (d + 1) 6 24 [.ref r0, .int x1, .int x2, .int x3, .int x4, .int x5, .int x6, u7] [] s K :=
  (tt_iload (p_6_24 _ _) rfl).mpr ((tt_aload (p_6_26 _ _) rfl).mpr (Exists.elim h (fun a1 h2 => t3_getr (p_6_27 _ _) (isI_0_0) h2.1.1 h2.1.2 ((tt_iload (p_6_30 _ _) rfl).mpr ((tt_iload (p_6_31 _ _) rfl).mpr (t2_callv (z := 52) (k := 3) (i := a1) (as := [.int x2, .int x4]) (rest := [.int x6]) (p_6_33 _ _) mK_52 mL_52 rfl rfl (Nat.le_of_ble_eq_true rfl) rfl (Nat.le_of_ble_eq_true rfl) h2.2.1 h2.2.2))))))
theorem b_6_36 {Y : sY} {d : Nat} {s : sT} {K : Option Int32 → sT → Prop} {r0 : Nat} {x1 : Int32} {x2 : Int32} {x3 : Int32} {x4 : Int32} {x5 : Int32} {x6 : Int32} {u7 : Value} {t0 : Int32} {t1 : Int32} (h : (if t1 ≤ t0 then tT Y (d + 1) 6 3 [.ref r0, .int x1, .int x2, .int x3, .int (x4 + 1), .int x5, .int x6, u7] [] s K else (∃ a2, (isO Y r0 0 ∧ s.2 r0 0 = some a2) ∧ (isO Y a2 5 ∧ tT Y d 53 0 [.ref a2, .int x2, .int x4, .int x6] [] s (fun r s1 => tT Y (d + 1) 6 51 [.ref r0, .int x1, .int x2, .int x3, .int x4, .int x5, .int x6, u7] ((r.map Value.int).toList ++ []) s1 K))))) : tT Y (d + 1) 6 36 [.ref r0, .int x1, .int x2, .int x3, .int x4, .int x5, .int x6, u7] [.int t1, .int t0] s K :=
  t3_cmp (p := t1 ≤ t0) (p_6_36 _ _) rfl (fun g1 => (tt_iinc (p_6_87 _ _) rfl rfl rfl).mpr ((tt_goto (p_6_90 _ _)).mpr ((ifp h g1)))) (fun g1 => (tt_aload (p_6_39 _ _) rfl).mpr (Exists.elim (ifn h g1) (fun a2 h3 => t3_getr (p_6_40 _ _) (isI_0_0) h3.1.1 h3.1.2 ((tt_iload (p_6_43 _ _) rfl).mpr ((tt_iload (p_6_44 _ _) rfl).mpr ((tt_iload (p_6_46 _ _) rfl).mpr (t2_callv (z := 53) (k := 4) (i := a2) (as := [.int x2, .int x4, .int x6]) (rest := []) (p_6_48 _ _) mK_53 mL_53 rfl rfl (Nat.le_of_ble_eq_true rfl) rfl (Nat.le_of_ble_eq_true rfl) h3.2.1 h3.2.2)))))))
theorem b_6_51 {Y : sY} {d : Nat} {s : sT} {K : Option Int32 → sT → Prop} {r0 : Nat} {x1 : Int32} {x2 : Int32} {x3 : Int32} {x4 : Int32} {x5 : Int32} {x6 : Int32} {u7 : Value} {t0 : Int32} (h : (isO Y r0 0 ∧ tT Y d 7 0 [.ref r0, .int x1, .int t0, .int x5, .null, .null] [] s (fun r s1 => tT Y (d + 1) 6 62 [.ref r0, .int x1, .int x2, .int x3, .int x4, .int x5, .int x6, .int t0] ((r.map Value.int).toList ++ []) s1 K))) : tT Y (d + 1) 6 51 [.ref r0, .int x1, .int x2, .int x3, .int x4, .int x5, .int x6, u7] [.int t0] s K :=
  (tt_istore (p_6_51 _ _) (Nat.le_of_ble_eq_true rfl) rfl rfl).mpr ((tt_aload (p_6_53 _ _) rfl).mpr ((tt_iload (p_6_54 _ _) rfl).mpr ((tt_iload (p_6_55 _ _) rfl).mpr ((tt_iload (p_6_57 _ _) rfl).mpr (t2_callv (z := 7) (k := 4) (i := r0) (as := [.int x1, .int t0, .int x5]) (rest := []) (p_6_59 _ _) mK_7 mL_7 rfl rfl (Nat.le_of_ble_eq_true rfl) rfl (Nat.le_of_ble_eq_true rfl) h.1 h.2)))))
theorem b_6_62 {Y : sY} {d : Nat} {s : sT} {K : Option Int32 → sT → Prop} {r0 : Nat} {x1 : Int32} {x2 : Int32} {x3 : Int32} {x4 : Int32} {x5 : Int32} {x6 : Int32} {x7 : Int32} {t0 : Int32} (h : (if ¬ t0 = 0 then tT Y (d + 1) 6 24 [.ref r0, .int x1, .int x2, .int x3, .int x4, .int x5, .int (x6 + 1), .int x7] [] s K else (isO Y r0 0 ∧ (isO Y r0 0 ∧ K (some (0 : Int32)) (pV (pV s r0 5 (x4 + (1 : Int32))) r0 6 x7))))) : tT Y (d + 1) 6 62 [.ref r0, .int x1, .int x2, .int x3, .int x4, .int x5, .int x6, .int x7] [.int t0] s K :=
  t3_if (p := ¬ t0 = 0) (p_6_62 _ _) rfl (fun g1 => (tt_iinc (p_6_81 _ _) rfl rfl rfl).mpr ((tt_goto (p_6_84 _ _)).mpr ((ifp h g1)))) (fun g1 => (tt_aload (p_6_65 _ _) rfl).mpr ((tt_iload (p_6_66 _ _) rfl).mpr ((tt_push (p_6_68 _ _)).mpr ((tt_bin (p_6_69 _ _)).mpr ((t2_puti (p_6_70 _ _) isI_0_5 (ifn h g1).1).mpr ((tt_aload (p_6_73 _ _) rfl).mpr ((tt_iload (p_6_74 _ _) rfl).mpr ((t2_puti (p_6_76 _ _) isI_0_6 (ifn h g1).2.1).mpr ((tt_push (p_6_79 _ _)).mpr (tt_ret2 (p_6_80 _ _) (Or.inl rfl) (ifn h g1).2.2))))))))))
/-! InclusionProver$Kernel.hasPremiseFor.(III)Z -/
theorem p_7_0 (L : Nat) (xs : Nat → Int32) : ll_P L xs 7 0 = some (.inl (lo_push 1 (.int 0))) := (P_7 L xs 0).trans rfl
theorem p_7_1 (L : Nat) (xs : Nat → Int32) : ll_P L xs 7 1 = some (.inl (lo_istore 3 4)) := (P_7 L xs 1).trans rfl
theorem p_7_3 (L : Nat) (xs : Nat → Int32) : ll_P L xs 7 3 = some (.inl (lo_iload 5 4)) := (P_7 L xs 3).trans rfl
theorem p_7_5 (L : Nat) (xs : Nat → Int32) : ll_P L xs 7 5 = some (.inl (lo_aload 6 0)) := (P_7 L xs 5).trans rfl
theorem p_7_6 (L : Nat) (xs : Nat → Int32) : ll_P L xs 7 6 = some (.inl (lo_getf 9 0 2)) := (P_7 L xs 6).trans rfl
theorem p_7_9 (L : Nat) (xs : Nat → Int32) : ll_P L xs 7 9 = some (.inl (lo_getf 12 1 4)) := (P_7 L xs 9).trans rfl
theorem p_7_12 (L : Nat) (xs : Nat → Int32) : ll_P L xs 7 12 = some (.inl (lo_iload 13 1)) := (P_7 L xs 12).trans rfl
theorem p_7_13 (L : Nat) (xs : Nat → Int32) : ll_P L xs 7 13 = some (.inl (lo_ald 14 0)) := (P_7 L xs 13).trans rfl
theorem p_7_14 (L : Nat) (xs : Nat → Int32) : ll_P L xs 7 14 = some (.inl (lo_cmp 80 17 (fun x y => decide (y ≤ x)))) := (P_7 L xs 14).trans rfl
theorem p_7_17 (L : Nat) (xs : Nat → Int32) : ll_P L xs 7 17 = some (.inl (lo_aload 18 0)) := (P_7 L xs 17).trans rfl
theorem p_7_18 (L : Nat) (xs : Nat → Int32) : ll_P L xs 7 18 = some (.inl (lo_getf 21 0 2)) := (P_7 L xs 18).trans rfl
theorem p_7_21 (L : Nat) (xs : Nat → Int32) : ll_P L xs 7 21 = some (.inl (lo_iload 22 1)) := (P_7 L xs 21).trans rfl
theorem p_7_22 (L : Nat) (xs : Nat → Int32) : ll_P L xs 7 22 = some (.inl (lo_iload 24 4)) := (P_7 L xs 22).trans rfl
theorem p_7_24 (L : Nat) (xs : Nat → Int32) : ll_P L xs 7 24 = some (.inr (.inl (12, 3, 27))) := (P_7 L xs 24).trans rfl
theorem p_7_27 (L : Nat) (xs : Nat → Int32) : ll_P L xs 7 27 = some (.inl (lo_istore 29 5)) := (P_7 L xs 27).trans rfl
theorem p_7_29 (L : Nat) (xs : Nat → Int32) : ll_P L xs 7 29 = some (.inl (lo_aload 30 0)) := (P_7 L xs 29).trans rfl
theorem p_7_30 (L : Nat) (xs : Nat → Int32) : ll_P L xs 7 30 = some (.inl (lo_getf 33 0 2)) := (P_7 L xs 30).trans rfl
theorem p_7_33 (L : Nat) (xs : Nat → Int32) : ll_P L xs 7 33 = some (.inl (lo_iload 35 5)) := (P_7 L xs 33).trans rfl
theorem p_7_35 (L : Nat) (xs : Nat → Int32) : ll_P L xs 7 35 = some (.inr (.inl (10, 2, 38))) := (P_7 L xs 35).trans rfl
theorem p_7_38 (L : Nat) (xs : Nat → Int32) : ll_P L xs 7 38 = some (.inl (lo_if 74 41 (fun x => decide (x = 0)))) := (P_7 L xs 38).trans rfl
theorem p_7_41 (L : Nat) (xs : Nat → Int32) : ll_P L xs 7 41 = some (.inl (lo_aload 42 0)) := (P_7 L xs 41).trans rfl
theorem p_7_42 (L : Nat) (xs : Nat → Int32) : ll_P L xs 7 42 = some (.inl (lo_getf 45 0 2)) := (P_7 L xs 42).trans rfl
theorem p_7_45 (L : Nat) (xs : Nat → Int32) : ll_P L xs 7 45 = some (.inl (lo_getf 48 1 0)) := (P_7 L xs 45).trans rfl
theorem p_7_48 (L : Nat) (xs : Nat → Int32) : ll_P L xs 7 48 = some (.inl (lo_iload 50 5)) := (P_7 L xs 48).trans rfl
theorem p_7_50 (L : Nat) (xs : Nat → Int32) : ll_P L xs 7 50 = some (.inl (lo_ald 51 0)) := (P_7 L xs 50).trans rfl
theorem p_7_51 (L : Nat) (xs : Nat → Int32) : ll_P L xs 7 51 = some (.inl (lo_iload 52 2)) := (P_7 L xs 51).trans rfl
theorem p_7_52 (L : Nat) (xs : Nat → Int32) : ll_P L xs 7 52 = some (.inl (lo_cmp 74 55 (fun x y => decide (¬ x = y)))) := (P_7 L xs 52).trans rfl
theorem p_7_55 (L : Nat) (xs : Nat → Int32) : ll_P L xs 7 55 = some (.inl (lo_aload 56 0)) := (P_7 L xs 55).trans rfl
theorem p_7_56 (L : Nat) (xs : Nat → Int32) : ll_P L xs 7 56 = some (.inl (lo_getf 59 0 2)) := (P_7 L xs 56).trans rfl
theorem p_7_59 (L : Nat) (xs : Nat → Int32) : ll_P L xs 7 59 = some (.inl (lo_getf 62 1 1)) := (P_7 L xs 59).trans rfl
theorem p_7_62 (L : Nat) (xs : Nat → Int32) : ll_P L xs 7 62 = some (.inl (lo_iload 64 5)) := (P_7 L xs 62).trans rfl
theorem p_7_64 (L : Nat) (xs : Nat → Int32) : ll_P L xs 7 64 = some (.inl (lo_ald 65 0)) := (P_7 L xs 64).trans rfl
theorem p_7_65 (L : Nat) (xs : Nat → Int32) : ll_P L xs 7 65 = some (.inl (lo_iload 66 3)) := (P_7 L xs 65).trans rfl
theorem p_7_66 (L : Nat) (xs : Nat → Int32) : ll_P L xs 7 66 = some (.inl (lo_push 67 (.int (-1)))) := (P_7 L xs 66).trans rfl
theorem p_7_67 (L : Nat) (xs : Nat → Int32) : ll_P L xs 7 67 = some (.inl (lo_bin 68 (fun x y => x ^^^ y))) := (P_7 L xs 67).trans rfl
theorem p_7_68 (L : Nat) (xs : Nat → Int32) : ll_P L xs 7 68 = some (.inl (lo_bin 69 (fun x y => x &&& y))) := (P_7 L xs 68).trans rfl
theorem p_7_69 (L : Nat) (xs : Nat → Int32) : ll_P L xs 7 69 = some (.inl (lo_if 74 72 (fun x => decide (¬ x = 0)))) := (P_7 L xs 69).trans rfl
theorem p_7_72 (L : Nat) (xs : Nat → Int32) : ll_P L xs 7 72 = some (.inl (lo_push 73 (.int 1))) := (P_7 L xs 72).trans rfl
theorem p_7_73 (L : Nat) (xs : Nat → Int32) : ll_P L xs 7 73 = some (.inr (.inr 2)) := (P_7 L xs 73).trans rfl
theorem p_7_74 (L : Nat) (xs : Nat → Int32) : ll_P L xs 7 74 = some (.inl (lo_iinc 77 4 1)) := (P_7 L xs 74).trans rfl
theorem p_7_77 (L : Nat) (xs : Nat → Int32) : ll_P L xs 7 77 = some (.inl (lo_goto 3)) := (P_7 L xs 77).trans rfl
theorem p_7_80 (L : Nat) (xs : Nat → Int32) : ll_P L xs 7 80 = some (.inl (lo_push 81 (.int 0))) := (P_7 L xs 80).trans rfl
theorem p_7_81 (L : Nat) (xs : Nat → Int32) : ll_P L xs 7 81 = some (.inr (.inr 2)) := (P_7 L xs 81).trans rfl
theorem b_7_0 {Y : sY} {d : Nat} {s : sT} {K : Option Int32 → sT → Prop} {r0 : Nat} {x1 : Int32} {x2 : Int32} {x3 : Int32} (h : tT Y (d + 1) 7 3 [.ref r0, .int x1, .int x2, .int x3, .int (0 : Int32), .null] [] s K) : tT Y (d + 1) 7 0 [.ref r0, .int x1, .int x2, .int x3, .null, .null] [] s K :=
  (tt_push (p_7_0 _ _)).mpr ((tt_istore (p_7_1 _ _) (Nat.le_of_ble_eq_true rfl) rfl rfl).mpr (h))
theorem b_7_3 {Y : sY} {d : Nat} {s : sT} {K : Option Int32 → sT → Prop} {r0 : Nat} {x1 : Int32} {x2 : Int32} {x3 : Int32} {x4 : Int32} {u5 : Value} (h : (∃ a1, (isO Y r0 0 ∧ s.2 r0 2 = some a1) ∧ (∃ a3, (isO Y a1 1 ∧ s.2 a1 4 = some a3) ∧ (∃ m5, (isA Y a3 0 m5 ∧ inR x1 m5) ∧ (if (s.1 a3 (x1).toNatClampNeg) ≤ x4 then K (some (0 : Int32)) s else (∃ a8, (isO Y r0 0 ∧ s.2 r0 2 = some a8) ∧ (isO Y a8 1 ∧ tT Y d 12 0 [.ref a8, .int x1, .int x4] [] s (fun r s1 => tT Y (d + 1) 7 27 [.ref r0, .int x1, .int x2, .int x3, .int x4, u5] ((r.map Value.int).toList ++ []) s1 K)))))))) : tT Y (d + 1) 7 3 [.ref r0, .int x1, .int x2, .int x3, .int x4, u5] [] s K :=
  (tt_iload (p_7_3 _ _) rfl).mpr ((tt_aload (p_7_5 _ _) rfl).mpr (Exists.elim h (fun a1 h2 => t3_getr (p_7_6 _ _) (isI_0_2) h2.1.1 h2.1.2 (Exists.elim h2.2 (fun a3 h4 => t3_getr (p_7_9 _ _) (isI_1_4) h4.1.1 h4.1.2 ((tt_iload (p_7_12 _ _) rfl).mpr (Exists.elim h4.2 (fun m5 h6 => t3_ald (p_7_13 _ _) h6.1.1 h6.1.2 (t3_cmp (p := (s.1 a3 (x1).toNatClampNeg) ≤ x4) (p_7_14 _ _) rfl (fun g7 => (tt_push (p_7_80 _ _)).mpr (tt_ret2 (p_7_81 _ _) (Or.inl rfl) (ifp h6.2 g7))) (fun g7 => (tt_aload (p_7_17 _ _) rfl).mpr (Exists.elim (ifn h6.2 g7) (fun a8 h9 => t3_getr (p_7_18 _ _) (isI_0_2) h9.1.1 h9.1.2 ((tt_iload (p_7_21 _ _) rfl).mpr ((tt_iload (p_7_22 _ _) rfl).mpr (t2_callv (z := 12) (k := 3) (i := a8) (as := [.int x1, .int x4]) (rest := []) (p_7_24 _ _) mK_12 mL_12 rfl rfl (Nat.le_of_ble_eq_true rfl) rfl (Nat.le_of_ble_eq_true rfl) h9.2.1 h9.2.2)))))))))))))))
theorem b_7_27 {Y : sY} {d : Nat} {s : sT} {K : Option Int32 → sT → Prop} {r0 : Nat} {x1 : Int32} {x2 : Int32} {x3 : Int32} {x4 : Int32} {u5 : Value} {t0 : Int32} (h : (∃ a1, (isO Y r0 0 ∧ s.2 r0 2 = some a1) ∧ (isO Y a1 1 ∧ tT Y d 10 0 [.ref a1, .int t0] [] s (fun r s1 => tT Y (d + 1) 7 38 [.ref r0, .int x1, .int x2, .int x3, .int x4, .int t0] ((r.map Value.int).toList ++ []) s1 K)))) : tT Y (d + 1) 7 27 [.ref r0, .int x1, .int x2, .int x3, .int x4, u5] [.int t0] s K :=
  (tt_istore (p_7_27 _ _) (Nat.le_of_ble_eq_true rfl) rfl rfl).mpr ((tt_aload (p_7_29 _ _) rfl).mpr (Exists.elim h (fun a1 h2 => t3_getr (p_7_30 _ _) (isI_0_2) h2.1.1 h2.1.2 ((tt_iload (p_7_33 _ _) rfl).mpr (t2_callv (z := 10) (k := 2) (i := a1) (as := [.int t0]) (rest := []) (p_7_35 _ _) mK_10 mL_10 rfl rfl (Nat.le_of_ble_eq_true rfl) rfl (Nat.le_of_ble_eq_true rfl) h2.2.1 h2.2.2)))))
theorem b_7_38 {Y : sY} {d : Nat} {s : sT} {K : Option Int32 → sT → Prop} {r0 : Nat} {x1 : Int32} {x2 : Int32} {x3 : Int32} {x4 : Int32} {x5 : Int32} {t0 : Int32} (h : (if t0 = 0 then tT Y (d + 1) 7 74 [.ref r0, .int x1, .int x2, .int x3, .int x4, .int x5] [] s K else (∃ a2, (isO Y r0 0 ∧ s.2 r0 2 = some a2) ∧ (∃ a4, (isO Y a2 1 ∧ s.2 a2 0 = some a4) ∧ (∃ m6, (isA Y a4 0 m6 ∧ inR x5 m6) ∧ (if ¬ (s.1 a4 (x5).toNatClampNeg) = x2 then tT Y (d + 1) 7 74 [.ref r0, .int x1, .int x2, .int x3, .int x4, .int x5] [] s K else (∃ a9, (isO Y r0 0 ∧ s.2 r0 2 = some a9) ∧ (∃ a11, (isO Y a9 1 ∧ s.2 a9 1 = some a11) ∧ (∃ m13, (isA Y a11 0 m13 ∧ inR x5 m13) ∧ (if ¬ ((s.1 a11 (x5).toNatClampNeg) &&& (x3 ^^^ (-1 : Int32))) = 0 then tT Y (d + 1) 7 74 [.ref r0, .int x1, .int x2, .int x3, .int x4, .int x5] [] s K else K (some (1 : Int32)) s)))))))))) : tT Y (d + 1) 7 38 [.ref r0, .int x1, .int x2, .int x3, .int x4, .int x5] [.int t0] s K :=
  t3_if (p := t0 = 0) (p_7_38 _ _) rfl (fun g1 => (ifp h g1)) (fun g1 => (tt_aload (p_7_41 _ _) rfl).mpr (Exists.elim (ifn h g1) (fun a2 h3 => t3_getr (p_7_42 _ _) (isI_0_2) h3.1.1 h3.1.2 (Exists.elim h3.2 (fun a4 h5 => t3_getr (p_7_45 _ _) (isI_1_0) h5.1.1 h5.1.2 ((tt_iload (p_7_48 _ _) rfl).mpr (Exists.elim h5.2 (fun m6 h7 => t3_ald (p_7_50 _ _) h7.1.1 h7.1.2 ((tt_iload (p_7_51 _ _) rfl).mpr (t3_cmp (p := ¬ (s.1 a4 (x5).toNatClampNeg) = x2) (p_7_52 _ _) rfl (fun g8 => (ifp h7.2 g8)) (fun g8 => (tt_aload (p_7_55 _ _) rfl).mpr (Exists.elim (ifn h7.2 g8) (fun a9 h10 => t3_getr (p_7_56 _ _) (isI_0_2) h10.1.1 h10.1.2 (Exists.elim h10.2 (fun a11 h12 => t3_getr (p_7_59 _ _) (isI_1_1) h12.1.1 h12.1.2 ((tt_iload (p_7_62 _ _) rfl).mpr (Exists.elim h12.2 (fun m13 h14 => t3_ald (p_7_64 _ _) h14.1.1 h14.1.2 ((tt_iload (p_7_65 _ _) rfl).mpr ((tt_push (p_7_66 _ _)).mpr ((tt_bin (p_7_67 _ _)).mpr ((tt_bin (p_7_68 _ _)).mpr (t3_if (p := ¬ ((s.1 a11 (x5).toNatClampNeg) &&& (x3 ^^^ (-1 : Int32))) = 0) (p_7_69 _ _) rfl (fun g15 => (ifp h14.2 g15)) (fun g15 => (tt_push (p_7_72 _ _)).mpr (tt_ret2 (p_7_73 _ _) (Or.inr rfl) (ifn h14.2 g15))))))))))))))))))))))))))
theorem b_7_74 {Y : sY} {d : Nat} {s : sT} {K : Option Int32 → sT → Prop} {r0 : Nat} {x1 : Int32} {x2 : Int32} {x3 : Int32} {x4 : Int32} {x5 : Int32} (h : tT Y (d + 1) 7 3 [.ref r0, .int x1, .int x2, .int x3, .int (x4 + 1), .int x5] [] s K) : tT Y (d + 1) 7 74 [.ref r0, .int x1, .int x2, .int x3, .int x4, .int x5] [] s K :=
  (tt_iinc (p_7_74 _ _) rfl rfl rfl).mpr ((tt_goto (p_7_77 _ _)).mpr (h))
/-! InclusionProver$Lines.<init>.()V -/
theorem p_8_0 (L : Nat) (xs : Nat → Int32) : ll_P L xs 8 0 = some (.inl (lo_aload 1 0)) := (P_8 L xs 0).trans rfl
theorem p_8_1 (L : Nat) (xs : Nat → Int32) : ll_P L xs 8 1 = some (.inl (lo_init 4)) := (P_8 L xs 1).trans rfl
theorem p_8_4 (L : Nat) (xs : Nat → Int32) : ll_P L xs 8 4 = some (.inl (lo_aload 5 0)) := (P_8 L xs 4).trans rfl
theorem p_8_5 (L : Nat) (xs : Nat → Int32) : ll_P L xs 8 5 = some (.inl (lo_push 8 (.int 300))) := (P_8 L xs 5).trans rfl
theorem p_8_8 (L : Nat) (xs : Nat → Int32) : ll_P L xs 8 8 = some (.inl (lo_newa 10 0)) := (P_8 L xs 8).trans rfl
theorem p_8_10 (L : Nat) (xs : Nat → Int32) : ll_P L xs 8 10 = some (.inl (lo_putf 13 1 0 2)) := (P_8 L xs 10).trans rfl
theorem p_8_13 (L : Nat) (xs : Nat → Int32) : ll_P L xs 8 13 = some (.inl (lo_aload 14 0)) := (P_8 L xs 13).trans rfl
theorem p_8_14 (L : Nat) (xs : Nat → Int32) : ll_P L xs 8 14 = some (.inl (lo_push 17 (.int 300))) := (P_8 L xs 14).trans rfl
theorem p_8_17 (L : Nat) (xs : Nat → Int32) : ll_P L xs 8 17 = some (.inl (lo_newa 19 0)) := (P_8 L xs 17).trans rfl
theorem p_8_19 (L : Nat) (xs : Nat → Int32) : ll_P L xs 8 19 = some (.inl (lo_putf 22 1 1 2)) := (P_8 L xs 19).trans rfl
theorem p_8_22 (L : Nat) (xs : Nat → Int32) : ll_P L xs 8 22 = some (.inl (lo_aload 23 0)) := (P_8 L xs 22).trans rfl
theorem p_8_23 (L : Nat) (xs : Nat → Int32) : ll_P L xs 8 23 = some (.inl (lo_push 26 (.int 300))) := (P_8 L xs 23).trans rfl
theorem p_8_26 (L : Nat) (xs : Nat → Int32) : ll_P L xs 8 26 = some (.inl (lo_newa 28 0)) := (P_8 L xs 26).trans rfl
theorem p_8_28 (L : Nat) (xs : Nat → Int32) : ll_P L xs 8 28 = some (.inl (lo_putf 31 1 2 2)) := (P_8 L xs 28).trans rfl
theorem p_8_31 (L : Nat) (xs : Nat → Int32) : ll_P L xs 8 31 = some (.inl (lo_aload 32 0)) := (P_8 L xs 31).trans rfl
theorem p_8_32 (L : Nat) (xs : Nat → Int32) : ll_P L xs 8 32 = some (.inl (lo_push 35 (.int 300))) := (P_8 L xs 32).trans rfl
theorem p_8_35 (L : Nat) (xs : Nat → Int32) : ll_P L xs 8 35 = some (.inl (lo_newa 37 0)) := (P_8 L xs 35).trans rfl
theorem p_8_37 (L : Nat) (xs : Nat → Int32) : ll_P L xs 8 37 = some (.inl (lo_putf 40 1 3 2)) := (P_8 L xs 37).trans rfl
theorem p_8_40 (L : Nat) (xs : Nat → Int32) : ll_P L xs 8 40 = some (.inl (lo_aload 41 0)) := (P_8 L xs 40).trans rfl
theorem p_8_41 (L : Nat) (xs : Nat → Int32) : ll_P L xs 8 41 = some (.inl (lo_push 44 (.int 300))) := (P_8 L xs 41).trans rfl
theorem p_8_44 (L : Nat) (xs : Nat → Int32) : ll_P L xs 8 44 = some (.inl (lo_newa 46 0)) := (P_8 L xs 44).trans rfl
theorem p_8_46 (L : Nat) (xs : Nat → Int32) : ll_P L xs 8 46 = some (.inl (lo_putf 49 1 4 2)) := (P_8 L xs 46).trans rfl
theorem p_8_49 (L : Nat) (xs : Nat → Int32) : ll_P L xs 8 49 = some (.inl (lo_aload 50 0)) := (P_8 L xs 49).trans rfl
theorem p_8_50 (L : Nat) (xs : Nat → Int32) : ll_P L xs 8 50 = some (.inl (lo_push 53 (.int 9300))) := (P_8 L xs 50).trans rfl
theorem p_8_53 (L : Nat) (xs : Nat → Int32) : ll_P L xs 8 53 = some (.inl (lo_newa 55 0)) := (P_8 L xs 53).trans rfl
theorem p_8_55 (L : Nat) (xs : Nat → Int32) : ll_P L xs 8 55 = some (.inl (lo_putf 58 1 5 2)) := (P_8 L xs 55).trans rfl
theorem p_8_58 (L : Nat) (xs : Nat → Int32) : ll_P L xs 8 58 = some (.inl (lo_aload 59 0)) := (P_8 L xs 58).trans rfl
theorem p_8_59 (L : Nat) (xs : Nat → Int32) : ll_P L xs 8 59 = some (.inl (lo_new 62 7 2 [.null, .int 0])) := (P_8 L xs 59).trans rfl
theorem p_8_62 (L : Nat) (xs : Nat → Int32) : ll_P L xs 8 62 = some (.inl (lo_dup 63)) := (P_8 L xs 62).trans rfl
theorem p_8_63 (L : Nat) (xs : Nat → Int32) : ll_P L xs 8 63 = some (.inl (lo_push 66 (.int 300))) := (P_8 L xs 63).trans rfl
theorem p_8_66 (L : Nat) (xs : Nat → Int32) : ll_P L xs 8 66 = some (.inr (.inl (70, 2, 69))) := (P_8 L xs 66).trans rfl
theorem p_8_69 (L : Nat) (xs : Nat → Int32) : ll_P L xs 8 69 = some (.inl (lo_putf 72 1 6 2)) := (P_8 L xs 69).trans rfl
theorem p_8_72 (L : Nat) (xs : Nat → Int32) : ll_P L xs 8 72 = some (.inl (lo_aload 73 0)) := (P_8 L xs 72).trans rfl
theorem p_8_73 (L : Nat) (xs : Nat → Int32) : ll_P L xs 8 73 = some (.inl (lo_push 76 (.int 300))) := (P_8 L xs 73).trans rfl
theorem p_8_76 (L : Nat) (xs : Nat → Int32) : ll_P L xs 8 76 = some (.inl (lo_newa 78 0)) := (P_8 L xs 76).trans rfl
theorem p_8_78 (L : Nat) (xs : Nat → Int32) : ll_P L xs 8 78 = some (.inl (lo_putf 81 1 7 2)) := (P_8 L xs 78).trans rfl
theorem p_8_81 (L : Nat) (xs : Nat → Int32) : ll_P L xs 8 81 = some (.inr (.inr 0)) := (P_8 L xs 81).trans rfl
/-! InclusionProver$Lines.clear.()V -/
theorem p_9_0 (L : Nat) (xs : Nat → Int32) : ll_P L xs 9 0 = some (.inl (lo_aload 1 0)) := (P_9 L xs 0).trans rfl
theorem p_9_1 (L : Nat) (xs : Nat → Int32) : ll_P L xs 9 1 = some (.inl (lo_push 2 (.int 0))) := (P_9 L xs 1).trans rfl
theorem p_9_2 (L : Nat) (xs : Nat → Int32) : ll_P L xs 9 2 = some (.inl (lo_putf 5 1 8 0)) := (P_9 L xs 2).trans rfl
theorem p_9_5 (L : Nat) (xs : Nat → Int32) : ll_P L xs 9 5 = some (.inl (lo_aload 6 0)) := (P_9 L xs 5).trans rfl
theorem p_9_6 (L : Nat) (xs : Nat → Int32) : ll_P L xs 9 6 = some (.inl (lo_push 7 (.int 0))) := (P_9 L xs 6).trans rfl
theorem p_9_7 (L : Nat) (xs : Nat → Int32) : ll_P L xs 9 7 = some (.inl (lo_putf 10 1 9 0)) := (P_9 L xs 7).trans rfl
theorem p_9_10 (L : Nat) (xs : Nat → Int32) : ll_P L xs 9 10 = some (.inl (lo_aload 11 0)) := (P_9 L xs 10).trans rfl
theorem p_9_11 (L : Nat) (xs : Nat → Int32) : ll_P L xs 9 11 = some (.inl (lo_push 12 (.int 0))) := (P_9 L xs 11).trans rfl
theorem p_9_12 (L : Nat) (xs : Nat → Int32) : ll_P L xs 9 12 = some (.inl (lo_putf 15 1 10 0)) := (P_9 L xs 12).trans rfl
theorem p_9_15 (L : Nat) (xs : Nat → Int32) : ll_P L xs 9 15 = some (.inl (lo_aload 16 0)) := (P_9 L xs 15).trans rfl
theorem p_9_16 (L : Nat) (xs : Nat → Int32) : ll_P L xs 9 16 = some (.inl (lo_push 17 (.int 0))) := (P_9 L xs 16).trans rfl
theorem p_9_17 (L : Nat) (xs : Nat → Int32) : ll_P L xs 9 17 = some (.inl (lo_putf 20 1 11 1)) := (P_9 L xs 17).trans rfl
theorem p_9_20 (L : Nat) (xs : Nat → Int32) : ll_P L xs 9 20 = some (.inl (lo_aload 21 0)) := (P_9 L xs 20).trans rfl
theorem p_9_21 (L : Nat) (xs : Nat → Int32) : ll_P L xs 9 21 = some (.inl (lo_getf 24 1 6)) := (P_9 L xs 21).trans rfl
theorem p_9_24 (L : Nat) (xs : Nat → Int32) : ll_P L xs 9 24 = some (.inr (.inl (71, 1, 27))) := (P_9 L xs 24).trans rfl
theorem p_9_27 (L : Nat) (xs : Nat → Int32) : ll_P L xs 9 27 = some (.inr (.inr 0)) := (P_9 L xs 27).trans rfl
theorem b_9_0 {Y : sY} {d : Nat} {s : sT} {K : Option Int32 → sT → Prop} {r0 : Nat} (h : (isO Y r0 1 ∧ (isO Y r0 1 ∧ (isO Y r0 1 ∧ (isO Y r0 1 ∧ ((0 : Int32) = 0 ∨ (0 : Int32) = 1) ∧ (∃ a1, (isO Y r0 1 ∧ (pV (pV (pV (pV s r0 8 (0 : Int32)) r0 9 (0 : Int32)) r0 10 (0 : Int32)) r0 11 (0 : Int32)).2 r0 6 = some a1) ∧ (isO Y a1 7 ∧ tT Y d 71 0 [.ref a1] [] (pV (pV (pV (pV s r0 8 (0 : Int32)) r0 9 (0 : Int32)) r0 10 (0 : Int32)) r0 11 (0 : Int32)) (fun r s1 => tT Y (d + 1) 9 27 [.ref r0] ((r.map Value.int).toList ++ []) s1 K)))))))) : tT Y (d + 1) 9 0 [.ref r0] [] s K :=
  (tt_aload (p_9_0 _ _) rfl).mpr ((tt_push (p_9_1 _ _)).mpr ((t2_puti (p_9_2 _ _) isI_1_8 h.1).mpr ((tt_aload (p_9_5 _ _) rfl).mpr ((tt_push (p_9_6 _ _)).mpr ((t2_puti (p_9_7 _ _) isI_1_9 h.2.1).mpr ((tt_aload (p_9_10 _ _) rfl).mpr ((tt_push (p_9_11 _ _)).mpr ((t2_puti (p_9_12 _ _) isI_1_10 h.2.2.1).mpr ((tt_aload (p_9_15 _ _) rfl).mpr ((tt_push (p_9_16 _ _)).mpr ((t2_putz (p_9_17 _ _) isI_1_11 h.2.2.2.1 h.2.2.2.2.1).mpr ((tt_aload (p_9_20 _ _) rfl).mpr (Exists.elim h.2.2.2.2.2 (fun a1 h2 => t3_getr (p_9_21 _ _) (isI_1_6) h2.1.1 h2.1.2 (t2_callv (z := 71) (k := 1) (i := a1) (as := []) (rest := []) (p_9_24 _ _) mK_71 mL_71 rfl rfl (Nat.le_of_ble_eq_true rfl) rfl (Nat.le_of_ble_eq_true rfl) h2.2.1 h2.2.2)))))))))))))))
theorem b_9_27 {Y : sY} {d : Nat} {s : sT} {K : Option Int32 → sT → Prop} {r0 : Nat} (h : K none s) : tT Y (d + 1) 9 27 [.ref r0] [] s K :=
  tt_ret0 (p_9_27 _ _) h
/-! InclusionProver$Lines.isLine.(I)Z -/
theorem p_10_0 (L : Nat) (xs : Nat → Int32) : ll_P L xs 10 0 = some (.inl (lo_iload 1 1)) := (P_10 L xs 0).trans rfl
theorem p_10_1 (L : Nat) (xs : Nat → Int32) : ll_P L xs 10 1 = some (.inl (lo_if 16 4 (fun x => decide (x < 0)))) := (P_10 L xs 1).trans rfl
theorem p_10_4 (L : Nat) (xs : Nat → Int32) : ll_P L xs 10 4 = some (.inl (lo_iload 5 1)) := (P_10 L xs 4).trans rfl
theorem p_10_5 (L : Nat) (xs : Nat → Int32) : ll_P L xs 10 5 = some (.inl (lo_aload 6 0)) := (P_10 L xs 5).trans rfl
theorem p_10_6 (L : Nat) (xs : Nat → Int32) : ll_P L xs 10 6 = some (.inl (lo_getf 9 1 8)) := (P_10 L xs 6).trans rfl
theorem p_10_9 (L : Nat) (xs : Nat → Int32) : ll_P L xs 10 9 = some (.inl (lo_cmp 16 12 (fun x y => decide (y ≤ x)))) := (P_10 L xs 9).trans rfl
theorem p_10_12 (L : Nat) (xs : Nat → Int32) : ll_P L xs 10 12 = some (.inl (lo_push 13 (.int 1))) := (P_10 L xs 12).trans rfl
theorem p_10_13 (L : Nat) (xs : Nat → Int32) : ll_P L xs 10 13 = some (.inl (lo_goto 17)) := (P_10 L xs 13).trans rfl
theorem p_10_16 (L : Nat) (xs : Nat → Int32) : ll_P L xs 10 16 = some (.inl (lo_push 17 (.int 0))) := (P_10 L xs 16).trans rfl
theorem p_10_17 (L : Nat) (xs : Nat → Int32) : ll_P L xs 10 17 = some (.inr (.inr 2)) := (P_10 L xs 17).trans rfl
theorem b_10_0 {Y : sY} {d : Nat} {s : sT} {K : Option Int32 → sT → Prop} {r0 : Nat} {x1 : Int32} (h : (if x1 < 0 then K (some (0 : Int32)) s else (isO Y r0 1 ∧ (if (s.1 r0 8) ≤ x1 then K (some (0 : Int32)) s else K (some (1 : Int32)) s)))) : tT Y d 10 0 [.ref r0, .int x1] [] s K :=
  (tt_iload (p_10_0 _ _) rfl).mpr (t3_if (p := x1 < 0) (p_10_1 _ _) rfl (fun g1 => (tt_push (p_10_16 _ _)).mpr (tt_ret2 (p_10_17 _ _) (Or.inl rfl) (ifp h g1))) (fun g1 => (tt_iload (p_10_4 _ _) rfl).mpr ((tt_aload (p_10_5 _ _) rfl).mpr (t3_geti (p_10_6 _ _) (isI_1_8) (ifn h g1).1 (t3_cmp (p := (s.1 r0 8) ≤ x1) (p_10_9 _ _) rfl (fun g2 => (tt_push (p_10_16 _ _)).mpr (tt_ret2 (p_10_17 _ _) (Or.inl rfl) (ifp (ifn h g1).2 g2))) (fun g2 => (tt_push (p_10_12 _ _)).mpr ((tt_goto (p_10_13 _ _)).mpr (tt_ret2 (p_10_17 _ _) (Or.inr rfl) (ifn (ifn h g1).2 g2)))))))))
/-! InclusionProver$Lines.isPremise.(II)Z -/
theorem p_11_0 (L : Nat) (xs : Nat → Int32) : ll_P L xs 11 0 = some (.inl (lo_aload 1 0)) := (P_11 L xs 0).trans rfl
theorem p_11_1 (L : Nat) (xs : Nat → Int32) : ll_P L xs 11 1 = some (.inl (lo_iload 2 1)) := (P_11 L xs 1).trans rfl
theorem p_11_2 (L : Nat) (xs : Nat → Int32) : ll_P L xs 11 2 = some (.inr (.inl (10, 2, 5))) := (P_11 L xs 2).trans rfl
theorem p_11_5 (L : Nat) (xs : Nat → Int32) : ll_P L xs 11 5 = some (.inl (lo_if 31 8 (fun x => decide (x = 0)))) := (P_11 L xs 5).trans rfl
theorem p_11_8 (L : Nat) (xs : Nat → Int32) : ll_P L xs 11 8 = some (.inl (lo_iload 9 2)) := (P_11 L xs 8).trans rfl
theorem p_11_9 (L : Nat) (xs : Nat → Int32) : ll_P L xs 11 9 = some (.inl (lo_push 11 (.int 10))) := (P_11 L xs 9).trans rfl
theorem p_11_11 (L : Nat) (xs : Nat → Int32) : ll_P L xs 11 11 = some (.inl (lo_cmp 31 14 (fun x y => decide (x < y)))) := (P_11 L xs 11).trans rfl
theorem p_11_14 (L : Nat) (xs : Nat → Int32) : ll_P L xs 11 14 = some (.inl (lo_iload 15 2)) := (P_11 L xs 14).trans rfl
theorem p_11_15 (L : Nat) (xs : Nat → Int32) : ll_P L xs 11 15 = some (.inl (lo_push 17 (.int 10))) := (P_11 L xs 15).trans rfl
theorem p_11_17 (L : Nat) (xs : Nat → Int32) : ll_P L xs 11 17 = some (.inl (lo_bin 18 (fun x y => x - y))) := (P_11 L xs 17).trans rfl
theorem p_11_18 (L : Nat) (xs : Nat → Int32) : ll_P L xs 11 18 = some (.inl (lo_aload 19 0)) := (P_11 L xs 18).trans rfl
theorem p_11_19 (L : Nat) (xs : Nat → Int32) : ll_P L xs 11 19 = some (.inl (lo_getf 22 1 4)) := (P_11 L xs 19).trans rfl
theorem p_11_22 (L : Nat) (xs : Nat → Int32) : ll_P L xs 11 22 = some (.inl (lo_iload 23 1)) := (P_11 L xs 22).trans rfl
theorem p_11_23 (L : Nat) (xs : Nat → Int32) : ll_P L xs 11 23 = some (.inl (lo_ald 24 0)) := (P_11 L xs 23).trans rfl
theorem p_11_24 (L : Nat) (xs : Nat → Int32) : ll_P L xs 11 24 = some (.inl (lo_cmp 31 27 (fun x y => decide (y ≤ x)))) := (P_11 L xs 24).trans rfl
theorem p_11_27 (L : Nat) (xs : Nat → Int32) : ll_P L xs 11 27 = some (.inl (lo_push 28 (.int 1))) := (P_11 L xs 27).trans rfl
theorem p_11_28 (L : Nat) (xs : Nat → Int32) : ll_P L xs 11 28 = some (.inl (lo_goto 32)) := (P_11 L xs 28).trans rfl
theorem p_11_31 (L : Nat) (xs : Nat → Int32) : ll_P L xs 11 31 = some (.inl (lo_push 32 (.int 0))) := (P_11 L xs 31).trans rfl
theorem p_11_32 (L : Nat) (xs : Nat → Int32) : ll_P L xs 11 32 = some (.inr (.inr 2)) := (P_11 L xs 32).trans rfl
theorem b_11_0 {Y : sY} {d : Nat} {s : sT} {K : Option Int32 → sT → Prop} {r0 : Nat} {x1 : Int32} {x2 : Int32} (h : (isO Y r0 1 ∧ tT Y d 10 0 [.ref r0, .int x1] [] s (fun r s1 => tT Y (d + 1) 11 5 [.ref r0, .int x1, .int x2] ((r.map Value.int).toList ++ []) s1 K))) : tT Y (d + 1) 11 0 [.ref r0, .int x1, .int x2] [] s K :=
  (tt_aload (p_11_0 _ _) rfl).mpr ((tt_iload (p_11_1 _ _) rfl).mpr (t2_callv (z := 10) (k := 2) (i := r0) (as := [.int x1]) (rest := []) (p_11_2 _ _) mK_10 mL_10 rfl rfl (Nat.le_of_ble_eq_true rfl) rfl (Nat.le_of_ble_eq_true rfl) h.1 h.2))
theorem b_11_5 {Y : sY} {d : Nat} {s : sT} {K : Option Int32 → sT → Prop} {r0 : Nat} {x1 : Int32} {x2 : Int32} {t0 : Int32} (h : (if t0 = 0 then K (some (0 : Int32)) s else (if x2 < (10 : Int32) then K (some (0 : Int32)) s else (∃ a3, (isO Y r0 1 ∧ s.2 r0 4 = some a3) ∧ (∃ m5, (isA Y a3 0 m5 ∧ inR x1 m5) ∧ (if (s.1 a3 (x1).toNatClampNeg) ≤ (x2 - (10 : Int32)) then K (some (0 : Int32)) s else K (some (1 : Int32)) s)))))) : tT Y (d + 1) 11 5 [.ref r0, .int x1, .int x2] [.int t0] s K :=
  t3_if (p := t0 = 0) (p_11_5 _ _) rfl (fun g1 => (tt_push (p_11_31 _ _)).mpr (tt_ret2 (p_11_32 _ _) (Or.inl rfl) (ifp h g1))) (fun g1 => (tt_iload (p_11_8 _ _) rfl).mpr ((tt_push (p_11_9 _ _)).mpr (t3_cmp (p := x2 < (10 : Int32)) (p_11_11 _ _) rfl (fun g2 => (tt_push (p_11_31 _ _)).mpr (tt_ret2 (p_11_32 _ _) (Or.inl rfl) (ifp (ifn h g1) g2))) (fun g2 => (tt_iload (p_11_14 _ _) rfl).mpr ((tt_push (p_11_15 _ _)).mpr ((tt_bin (p_11_17 _ _)).mpr ((tt_aload (p_11_18 _ _) rfl).mpr (Exists.elim (ifn (ifn h g1) g2) (fun a3 h4 => t3_getr (p_11_19 _ _) (isI_1_4) h4.1.1 h4.1.2 ((tt_iload (p_11_22 _ _) rfl).mpr (Exists.elim h4.2 (fun m5 h6 => t3_ald (p_11_23 _ _) h6.1.1 h6.1.2 (t3_cmp (p := (s.1 a3 (x1).toNatClampNeg) ≤ (x2 - (10 : Int32))) (p_11_24 _ _) rfl (fun g7 => (tt_push (p_11_31 _ _)).mpr (tt_ret2 (p_11_32 _ _) (Or.inl rfl) (ifp h6.2 g7))) (fun g7 => (tt_push (p_11_27 _ _)).mpr ((tt_goto (p_11_28 _ _)).mpr (tt_ret2 (p_11_32 _ _) (Or.inr rfl) (ifn h6.2 g7)))))))))))))))))
/-! InclusionProver$Lines.premiseOf.(II)I -/
theorem p_12_0 (L : Nat) (xs : Nat → Int32) : ll_P L xs 12 0 = some (.inl (lo_aload 1 0)) := (P_12 L xs 0).trans rfl
theorem p_12_1 (L : Nat) (xs : Nat → Int32) : ll_P L xs 12 1 = some (.inl (lo_iload 2 1)) := (P_12 L xs 1).trans rfl
theorem p_12_2 (L : Nat) (xs : Nat → Int32) : ll_P L xs 12 2 = some (.inr (.inl (10, 2, 5))) := (P_12 L xs 2).trans rfl
theorem p_12_5 (L : Nat) (xs : Nat → Int32) : ll_P L xs 12 5 = some (.inl (lo_if 38 8 (fun x => decide (x = 0)))) := (P_12 L xs 5).trans rfl
theorem p_12_8 (L : Nat) (xs : Nat → Int32) : ll_P L xs 12 8 = some (.inl (lo_iload 9 2)) := (P_12 L xs 8).trans rfl
theorem p_12_9 (L : Nat) (xs : Nat → Int32) : ll_P L xs 12 9 = some (.inl (lo_if 38 12 (fun x => decide (x < 0)))) := (P_12 L xs 9).trans rfl
theorem p_12_12 (L : Nat) (xs : Nat → Int32) : ll_P L xs 12 12 = some (.inl (lo_iload 13 2)) := (P_12 L xs 12).trans rfl
theorem p_12_13 (L : Nat) (xs : Nat → Int32) : ll_P L xs 12 13 = some (.inl (lo_aload 14 0)) := (P_12 L xs 13).trans rfl
theorem p_12_14 (L : Nat) (xs : Nat → Int32) : ll_P L xs 12 14 = some (.inl (lo_getf 17 1 4)) := (P_12 L xs 14).trans rfl
theorem p_12_17 (L : Nat) (xs : Nat → Int32) : ll_P L xs 12 17 = some (.inl (lo_iload 18 1)) := (P_12 L xs 17).trans rfl
theorem p_12_18 (L : Nat) (xs : Nat → Int32) : ll_P L xs 12 18 = some (.inl (lo_ald 19 0)) := (P_12 L xs 18).trans rfl
theorem p_12_19 (L : Nat) (xs : Nat → Int32) : ll_P L xs 12 19 = some (.inl (lo_cmp 38 22 (fun x y => decide (y ≤ x)))) := (P_12 L xs 19).trans rfl
theorem p_12_22 (L : Nat) (xs : Nat → Int32) : ll_P L xs 12 22 = some (.inl (lo_aload 23 0)) := (P_12 L xs 22).trans rfl
theorem p_12_23 (L : Nat) (xs : Nat → Int32) : ll_P L xs 12 23 = some (.inl (lo_getf 26 1 5)) := (P_12 L xs 23).trans rfl
theorem p_12_26 (L : Nat) (xs : Nat → Int32) : ll_P L xs 12 26 = some (.inl (lo_aload 27 0)) := (P_12 L xs 26).trans rfl
theorem p_12_27 (L : Nat) (xs : Nat → Int32) : ll_P L xs 12 27 = some (.inl (lo_getf 30 1 3)) := (P_12 L xs 27).trans rfl
theorem p_12_30 (L : Nat) (xs : Nat → Int32) : ll_P L xs 12 30 = some (.inl (lo_iload 31 1)) := (P_12 L xs 30).trans rfl
theorem p_12_31 (L : Nat) (xs : Nat → Int32) : ll_P L xs 12 31 = some (.inl (lo_ald 32 0)) := (P_12 L xs 31).trans rfl
theorem p_12_32 (L : Nat) (xs : Nat → Int32) : ll_P L xs 12 32 = some (.inl (lo_iload 33 2)) := (P_12 L xs 32).trans rfl
theorem p_12_33 (L : Nat) (xs : Nat → Int32) : ll_P L xs 12 33 = some (.inl (lo_bin 34 (fun x y => x + y))) := (P_12 L xs 33).trans rfl
theorem p_12_34 (L : Nat) (xs : Nat → Int32) : ll_P L xs 12 34 = some (.inl (lo_ald 35 0)) := (P_12 L xs 34).trans rfl
theorem p_12_35 (L : Nat) (xs : Nat → Int32) : ll_P L xs 12 35 = some (.inl (lo_goto 39)) := (P_12 L xs 35).trans rfl
theorem p_12_38 (L : Nat) (xs : Nat → Int32) : ll_P L xs 12 38 = some (.inl (lo_push 39 (.int (-1)))) := (P_12 L xs 38).trans rfl
theorem p_12_39 (L : Nat) (xs : Nat → Int32) : ll_P L xs 12 39 = some (.inr (.inr 1)) := (P_12 L xs 39).trans rfl
theorem b_12_0 {Y : sY} {d : Nat} {s : sT} {K : Option Int32 → sT → Prop} {r0 : Nat} {x1 : Int32} {x2 : Int32} (h : (isO Y r0 1 ∧ tT Y d 10 0 [.ref r0, .int x1] [] s (fun r s1 => tT Y (d + 1) 12 5 [.ref r0, .int x1, .int x2] ((r.map Value.int).toList ++ []) s1 K))) : tT Y (d + 1) 12 0 [.ref r0, .int x1, .int x2] [] s K :=
  (tt_aload (p_12_0 _ _) rfl).mpr ((tt_iload (p_12_1 _ _) rfl).mpr (t2_callv (z := 10) (k := 2) (i := r0) (as := [.int x1]) (rest := []) (p_12_2 _ _) mK_10 mL_10 rfl rfl (Nat.le_of_ble_eq_true rfl) rfl (Nat.le_of_ble_eq_true rfl) h.1 h.2))
theorem b_12_5 {Y : sY} {d : Nat} {s : sT} {K : Option Int32 → sT → Prop} {r0 : Nat} {x1 : Int32} {x2 : Int32} {t0 : Int32} (h : (if t0 = 0 then K (some (-1 : Int32)) s else (if x2 < 0 then K (some (-1 : Int32)) s else (∃ a3, (isO Y r0 1 ∧ s.2 r0 4 = some a3) ∧ (∃ m5, (isA Y a3 0 m5 ∧ inR x1 m5) ∧ (if (s.1 a3 (x1).toNatClampNeg) ≤ x2 then K (some (-1 : Int32)) s else (∃ a8, (isO Y r0 1 ∧ s.2 r0 5 = some a8) ∧ (∃ a10, (isO Y r0 1 ∧ s.2 r0 3 = some a10) ∧ (∃ m12, (isA Y a10 0 m12 ∧ inR x1 m12) ∧ (∃ m14, (isA Y a8 0 m14 ∧ inR ((s.1 a10 (x1).toNatClampNeg) + x2) m14) ∧ K (some (s.1 a8 (((s.1 a10 (x1).toNatClampNeg) + x2)).toNatClampNeg)) s)))))))))) : tT Y (d + 1) 12 5 [.ref r0, .int x1, .int x2] [.int t0] s K :=
  t3_if (p := t0 = 0) (p_12_5 _ _) rfl (fun g1 => (tt_push (p_12_38 _ _)).mpr (tt_ret1 (p_12_39 _ _) (ifp h g1))) (fun g1 => (tt_iload (p_12_8 _ _) rfl).mpr (t3_if (p := x2 < 0) (p_12_9 _ _) rfl (fun g2 => (tt_push (p_12_38 _ _)).mpr (tt_ret1 (p_12_39 _ _) (ifp (ifn h g1) g2))) (fun g2 => (tt_iload (p_12_12 _ _) rfl).mpr ((tt_aload (p_12_13 _ _) rfl).mpr (Exists.elim (ifn (ifn h g1) g2) (fun a3 h4 => t3_getr (p_12_14 _ _) (isI_1_4) h4.1.1 h4.1.2 ((tt_iload (p_12_17 _ _) rfl).mpr (Exists.elim h4.2 (fun m5 h6 => t3_ald (p_12_18 _ _) h6.1.1 h6.1.2 (t3_cmp (p := (s.1 a3 (x1).toNatClampNeg) ≤ x2) (p_12_19 _ _) rfl (fun g7 => (tt_push (p_12_38 _ _)).mpr (tt_ret1 (p_12_39 _ _) (ifp h6.2 g7))) (fun g7 => (tt_aload (p_12_22 _ _) rfl).mpr (Exists.elim (ifn h6.2 g7) (fun a8 h9 => t3_getr (p_12_23 _ _) (isI_1_5) h9.1.1 h9.1.2 ((tt_aload (p_12_26 _ _) rfl).mpr (Exists.elim h9.2 (fun a10 h11 => t3_getr (p_12_27 _ _) (isI_1_3) h11.1.1 h11.1.2 ((tt_iload (p_12_30 _ _) rfl).mpr (Exists.elim h11.2 (fun m12 h13 => t3_ald (p_12_31 _ _) h13.1.1 h13.1.2 ((tt_iload (p_12_32 _ _) rfl).mpr ((tt_bin (p_12_33 _ _)).mpr (Exists.elim h13.2 (fun m14 h15 => t3_ald (p_12_34 _ _) h15.1.1 h15.1.2 ((tt_goto (p_12_35 _ _)).mpr (tt_ret1 (p_12_39 _ _) h15.2)))))))))))))))))))))))))
/-! InclusionProver$Lines.addLine.(II)I -/
theorem p_13_0 (L : Nat) (xs : Nat → Int32) : ll_P L xs 13 0 = some (.inl (lo_aload 1 0)) := (P_13 L xs 0).trans rfl
theorem p_13_1 (L : Nat) (xs : Nat → Int32) : ll_P L xs 13 1 = some (.inl (lo_getf 4 1 8)) := (P_13 L xs 1).trans rfl
theorem p_13_4 (L : Nat) (xs : Nat → Int32) : ll_P L xs 13 4 = some (.inl (lo_push 7 (.int 300))) := (P_13 L xs 4).trans rfl
theorem p_13_7 (L : Nat) (xs : Nat → Int32) : ll_P L xs 13 7 = some (.inl (lo_cmp 12 10 (fun x y => decide (x < y)))) := (P_13 L xs 7).trans rfl
theorem p_13_10 (L : Nat) (xs : Nat → Int32) : ll_P L xs 13 10 = some (.inl (lo_push 11 (.int (-1)))) := (P_13 L xs 10).trans rfl
theorem p_13_11 (L : Nat) (xs : Nat → Int32) : ll_P L xs 13 11 = some (.inr (.inr 1)) := (P_13 L xs 11).trans rfl
theorem p_13_12 (L : Nat) (xs : Nat → Int32) : ll_P L xs 13 12 = some (.inl (lo_aload 13 0)) := (P_13 L xs 12).trans rfl
theorem p_13_13 (L : Nat) (xs : Nat → Int32) : ll_P L xs 13 13 = some (.inl (lo_getf 16 1 8)) := (P_13 L xs 13).trans rfl
theorem p_13_16 (L : Nat) (xs : Nat → Int32) : ll_P L xs 13 16 = some (.inl (lo_istore 17 3)) := (P_13 L xs 16).trans rfl
theorem p_13_17 (L : Nat) (xs : Nat → Int32) : ll_P L xs 13 17 = some (.inl (lo_aload 18 0)) := (P_13 L xs 17).trans rfl
theorem p_13_18 (L : Nat) (xs : Nat → Int32) : ll_P L xs 13 18 = some (.inl (lo_dup 19)) := (P_13 L xs 18).trans rfl
theorem p_13_19 (L : Nat) (xs : Nat → Int32) : ll_P L xs 13 19 = some (.inl (lo_getf 22 1 8)) := (P_13 L xs 19).trans rfl
theorem p_13_22 (L : Nat) (xs : Nat → Int32) : ll_P L xs 13 22 = some (.inl (lo_push 23 (.int 1))) := (P_13 L xs 22).trans rfl
theorem p_13_23 (L : Nat) (xs : Nat → Int32) : ll_P L xs 13 23 = some (.inl (lo_bin 24 (fun x y => x + y))) := (P_13 L xs 23).trans rfl
theorem p_13_24 (L : Nat) (xs : Nat → Int32) : ll_P L xs 13 24 = some (.inl (lo_putf 27 1 8 0)) := (P_13 L xs 24).trans rfl
theorem p_13_27 (L : Nat) (xs : Nat → Int32) : ll_P L xs 13 27 = some (.inl (lo_aload 28 0)) := (P_13 L xs 27).trans rfl
theorem p_13_28 (L : Nat) (xs : Nat → Int32) : ll_P L xs 13 28 = some (.inl (lo_getf 31 1 0)) := (P_13 L xs 28).trans rfl
theorem p_13_31 (L : Nat) (xs : Nat → Int32) : ll_P L xs 13 31 = some (.inl (lo_iload 32 3)) := (P_13 L xs 31).trans rfl
theorem p_13_32 (L : Nat) (xs : Nat → Int32) : ll_P L xs 13 32 = some (.inl (lo_iload 33 1)) := (P_13 L xs 32).trans rfl
theorem p_13_33 (L : Nat) (xs : Nat → Int32) : ll_P L xs 13 33 = some (.inl (lo_ast 34 0)) := (P_13 L xs 33).trans rfl
theorem p_13_34 (L : Nat) (xs : Nat → Int32) : ll_P L xs 13 34 = some (.inl (lo_aload 35 0)) := (P_13 L xs 34).trans rfl
theorem p_13_35 (L : Nat) (xs : Nat → Int32) : ll_P L xs 13 35 = some (.inl (lo_getf 38 1 1)) := (P_13 L xs 35).trans rfl
theorem p_13_38 (L : Nat) (xs : Nat → Int32) : ll_P L xs 13 38 = some (.inl (lo_iload 39 3)) := (P_13 L xs 38).trans rfl
theorem p_13_39 (L : Nat) (xs : Nat → Int32) : ll_P L xs 13 39 = some (.inl (lo_iload 40 2)) := (P_13 L xs 39).trans rfl
theorem p_13_40 (L : Nat) (xs : Nat → Int32) : ll_P L xs 13 40 = some (.inl (lo_ast 41 0)) := (P_13 L xs 40).trans rfl
theorem p_13_41 (L : Nat) (xs : Nat → Int32) : ll_P L xs 13 41 = some (.inl (lo_aload 42 0)) := (P_13 L xs 41).trans rfl
theorem p_13_42 (L : Nat) (xs : Nat → Int32) : ll_P L xs 13 42 = some (.inl (lo_getf 45 1 2)) := (P_13 L xs 42).trans rfl
theorem p_13_45 (L : Nat) (xs : Nat → Int32) : ll_P L xs 13 45 = some (.inl (lo_iload 46 3)) := (P_13 L xs 45).trans rfl
theorem p_13_46 (L : Nat) (xs : Nat → Int32) : ll_P L xs 13 46 = some (.inl (lo_push 47 (.int (-1)))) := (P_13 L xs 46).trans rfl
theorem p_13_47 (L : Nat) (xs : Nat → Int32) : ll_P L xs 13 47 = some (.inl (lo_ast 48 0)) := (P_13 L xs 47).trans rfl
theorem p_13_48 (L : Nat) (xs : Nat → Int32) : ll_P L xs 13 48 = some (.inl (lo_aload 49 0)) := (P_13 L xs 48).trans rfl
theorem p_13_49 (L : Nat) (xs : Nat → Int32) : ll_P L xs 13 49 = some (.inl (lo_getf 52 1 3)) := (P_13 L xs 49).trans rfl
theorem p_13_52 (L : Nat) (xs : Nat → Int32) : ll_P L xs 13 52 = some (.inl (lo_iload 53 3)) := (P_13 L xs 52).trans rfl
theorem p_13_53 (L : Nat) (xs : Nat → Int32) : ll_P L xs 13 53 = some (.inl (lo_push 54 (.int 0))) := (P_13 L xs 53).trans rfl
theorem p_13_54 (L : Nat) (xs : Nat → Int32) : ll_P L xs 13 54 = some (.inl (lo_ast 55 0)) := (P_13 L xs 54).trans rfl
theorem p_13_55 (L : Nat) (xs : Nat → Int32) : ll_P L xs 13 55 = some (.inl (lo_aload 56 0)) := (P_13 L xs 55).trans rfl
theorem p_13_56 (L : Nat) (xs : Nat → Int32) : ll_P L xs 13 56 = some (.inl (lo_getf 59 1 4)) := (P_13 L xs 56).trans rfl
theorem p_13_59 (L : Nat) (xs : Nat → Int32) : ll_P L xs 13 59 = some (.inl (lo_iload 60 3)) := (P_13 L xs 59).trans rfl
theorem p_13_60 (L : Nat) (xs : Nat → Int32) : ll_P L xs 13 60 = some (.inl (lo_push 61 (.int 0))) := (P_13 L xs 60).trans rfl
theorem p_13_61 (L : Nat) (xs : Nat → Int32) : ll_P L xs 13 61 = some (.inl (lo_ast 62 0)) := (P_13 L xs 61).trans rfl
theorem p_13_62 (L : Nat) (xs : Nat → Int32) : ll_P L xs 13 62 = some (.inl (lo_iload 63 3)) := (P_13 L xs 62).trans rfl
theorem p_13_63 (L : Nat) (xs : Nat → Int32) : ll_P L xs 13 63 = some (.inr (.inr 1)) := (P_13 L xs 63).trans rfl
theorem b_13_0 {Y : sY} {d : Nat} {s : sT} {K : Option Int32 → sT → Prop} {r0 : Nat} {x1 : Int32} {x2 : Int32} (h : (isO Y r0 1 ∧ (if (s.1 r0 8) < (300 : Int32) then (isO Y r0 1 ∧ (isO Y r0 1 ∧ (isO Y r0 1 ∧ (∃ a2, (isO Y r0 1 ∧ (pV s r0 8 ((s.1 r0 8) + (1 : Int32))).2 r0 0 = some a2) ∧ (∃ m4, (isA Y a2 0 m4 ∧ inR (s.1 r0 8) m4) ∧ (∃ a6, (isO Y r0 1 ∧ (pV (pV s r0 8 ((s.1 r0 8) + (1 : Int32))) a2 ((s.1 r0 8)).toNatClampNeg x1).2 r0 1 = some a6) ∧ (∃ m8, (isA Y a6 0 m8 ∧ inR (s.1 r0 8) m8) ∧ (∃ a10, (isO Y r0 1 ∧ (pV (pV (pV s r0 8 ((s.1 r0 8) + (1 : Int32))) a2 ((s.1 r0 8)).toNatClampNeg x1) a6 ((s.1 r0 8)).toNatClampNeg x2).2 r0 2 = some a10) ∧ (∃ m12, (isA Y a10 0 m12 ∧ inR (s.1 r0 8) m12) ∧ (∃ a14, (isO Y r0 1 ∧ (pV (pV (pV (pV s r0 8 ((s.1 r0 8) + (1 : Int32))) a2 ((s.1 r0 8)).toNatClampNeg x1) a6 ((s.1 r0 8)).toNatClampNeg x2) a10 ((s.1 r0 8)).toNatClampNeg (-1 : Int32)).2 r0 3 = some a14) ∧ (∃ m16, (isA Y a14 0 m16 ∧ inR (s.1 r0 8) m16) ∧ (∃ a18, (isO Y r0 1 ∧ (pV (pV (pV (pV (pV s r0 8 ((s.1 r0 8) + (1 : Int32))) a2 ((s.1 r0 8)).toNatClampNeg x1) a6 ((s.1 r0 8)).toNatClampNeg x2) a10 ((s.1 r0 8)).toNatClampNeg (-1 : Int32)) a14 ((s.1 r0 8)).toNatClampNeg (0 : Int32)).2 r0 4 = some a18) ∧ (∃ m20, (isA Y a18 0 m20 ∧ inR (s.1 r0 8) m20) ∧ K (some (s.1 r0 8)) (pV (pV (pV (pV (pV (pV s r0 8 ((s.1 r0 8) + (1 : Int32))) a2 ((s.1 r0 8)).toNatClampNeg x1) a6 ((s.1 r0 8)).toNatClampNeg x2) a10 ((s.1 r0 8)).toNatClampNeg (-1 : Int32)) a14 ((s.1 r0 8)).toNatClampNeg (0 : Int32)) a18 ((s.1 r0 8)).toNatClampNeg (0 : Int32))))))))))))))) else K (some (-1 : Int32)) s))) : tT Y d 13 0 [.ref r0, .int x1, .int x2, .null] [] s K :=
  (tt_aload (p_13_0 _ _) rfl).mpr (t3_geti (p_13_1 _ _) (isI_1_8) h.1 ((tt_push (p_13_4 _ _)).mpr (t3_cmp (p := (s.1 r0 8) < (300 : Int32)) (p_13_7 _ _) rfl (fun g1 => (tt_aload (p_13_12 _ _) rfl).mpr (t3_geti (p_13_13 _ _) (isI_1_8) (ifp h.2 g1).1 ((tt_istore (p_13_16 _ _) (Nat.le_of_ble_eq_true rfl) rfl rfl).mpr ((tt_aload (p_13_17 _ _) rfl).mpr ((tt_dupr (p_13_18 _ _)).mpr (t3_geti (p_13_19 _ _) (isI_1_8) (ifp h.2 g1).2.1 ((tt_push (p_13_22 _ _)).mpr ((tt_bin (p_13_23 _ _)).mpr ((t2_puti (p_13_24 _ _) isI_1_8 (ifp h.2 g1).2.2.1).mpr ((tt_aload (p_13_27 _ _) rfl).mpr (Exists.elim (ifp h.2 g1).2.2.2 (fun a2 h3 => t3_getr (p_13_28 _ _) (isI_1_0) h3.1.1 h3.1.2 ((tt_iload (p_13_31 _ _) rfl).mpr ((tt_iload (p_13_32 _ _) rfl).mpr (Exists.elim h3.2 (fun m4 h5 => t3_ast (p_13_33 _ _) h5.1.1 h5.1.2 ((tt_aload (p_13_34 _ _) rfl).mpr (Exists.elim h5.2 (fun a6 h7 => t3_getr (p_13_35 _ _) (isI_1_1) h7.1.1 h7.1.2 ((tt_iload (p_13_38 _ _) rfl).mpr ((tt_iload (p_13_39 _ _) rfl).mpr (Exists.elim h7.2 (fun m8 h9 => t3_ast (p_13_40 _ _) h9.1.1 h9.1.2 ((tt_aload (p_13_41 _ _) rfl).mpr (Exists.elim h9.2 (fun a10 h11 => t3_getr (p_13_42 _ _) (isI_1_2) h11.1.1 h11.1.2 ((tt_iload (p_13_45 _ _) rfl).mpr ((tt_push (p_13_46 _ _)).mpr (Exists.elim h11.2 (fun m12 h13 => t3_ast (p_13_47 _ _) h13.1.1 h13.1.2 ((tt_aload (p_13_48 _ _) rfl).mpr (Exists.elim h13.2 (fun a14 h15 => t3_getr (p_13_49 _ _) (isI_1_3) h15.1.1 h15.1.2 ((tt_iload (p_13_52 _ _) rfl).mpr ((tt_push (p_13_53 _ _)).mpr (Exists.elim h15.2 (fun m16 h17 => t3_ast (p_13_54 _ _) h17.1.1 h17.1.2 ((tt_aload (p_13_55 _ _) rfl).mpr (Exists.elim h17.2 (fun a18 h19 => t3_getr (p_13_56 _ _) (isI_1_4) h19.1.1 h19.1.2 ((tt_iload (p_13_59 _ _) rfl).mpr ((tt_push (p_13_60 _ _)).mpr (Exists.elim h19.2 (fun m20 h21 => t3_ast (p_13_61 _ _) h21.1.1 h21.1.2 ((tt_iload (p_13_62 _ _) rfl).mpr (tt_ret1 (p_13_63 _ _) h21.2)))))))))))))))))))))))))))))))))))))))))))))) (fun g1 => (tt_push (p_13_10 _ _)).mpr (tt_ret1 (p_13_11 _ _) (ifn h.2 g1))))))
/-! InclusionProver$Lines.openPremises.(I)V -/
theorem p_14_0 (L : Nat) (xs : Nat → Int32) : ll_P L xs 14 0 = some (.inl (lo_aload 1 0)) := (P_14 L xs 0).trans rfl
theorem p_14_1 (L : Nat) (xs : Nat → Int32) : ll_P L xs 14 1 = some (.inl (lo_getf 4 1 3)) := (P_14 L xs 1).trans rfl
theorem p_14_4 (L : Nat) (xs : Nat → Int32) : ll_P L xs 14 4 = some (.inl (lo_iload 5 1)) := (P_14 L xs 4).trans rfl
theorem p_14_5 (L : Nat) (xs : Nat → Int32) : ll_P L xs 14 5 = some (.inl (lo_aload 6 0)) := (P_14 L xs 5).trans rfl
theorem p_14_6 (L : Nat) (xs : Nat → Int32) : ll_P L xs 14 6 = some (.inl (lo_getf 9 1 9)) := (P_14 L xs 6).trans rfl
theorem p_14_9 (L : Nat) (xs : Nat → Int32) : ll_P L xs 14 9 = some (.inl (lo_ast 10 0)) := (P_14 L xs 9).trans rfl
theorem p_14_10 (L : Nat) (xs : Nat → Int32) : ll_P L xs 14 10 = some (.inl (lo_aload 11 0)) := (P_14 L xs 10).trans rfl
theorem p_14_11 (L : Nat) (xs : Nat → Int32) : ll_P L xs 14 11 = some (.inl (lo_getf 14 1 4)) := (P_14 L xs 11).trans rfl
theorem p_14_14 (L : Nat) (xs : Nat → Int32) : ll_P L xs 14 14 = some (.inl (lo_iload 15 1)) := (P_14 L xs 14).trans rfl
theorem p_14_15 (L : Nat) (xs : Nat → Int32) : ll_P L xs 14 15 = some (.inl (lo_push 16 (.int 0))) := (P_14 L xs 15).trans rfl
theorem p_14_16 (L : Nat) (xs : Nat → Int32) : ll_P L xs 14 16 = some (.inl (lo_ast 17 0)) := (P_14 L xs 16).trans rfl
theorem p_14_17 (L : Nat) (xs : Nat → Int32) : ll_P L xs 14 17 = some (.inr (.inr 0)) := (P_14 L xs 17).trans rfl
theorem b_14_0 {Y : sY} {d : Nat} {s : sT} {K : Option Int32 → sT → Prop} {r0 : Nat} {x1 : Int32} (h : (∃ a1, (isO Y r0 1 ∧ s.2 r0 3 = some a1) ∧ (isO Y r0 1 ∧ (∃ m3, (isA Y a1 0 m3 ∧ inR x1 m3) ∧ (∃ a5, (isO Y r0 1 ∧ (pV s a1 (x1).toNatClampNeg (s.1 r0 9)).2 r0 4 = some a5) ∧ (∃ m7, (isA Y a5 0 m7 ∧ inR x1 m7) ∧ K none (pV (pV s a1 (x1).toNatClampNeg (s.1 r0 9)) a5 (x1).toNatClampNeg (0 : Int32)))))))) : tT Y d 14 0 [.ref r0, .int x1] [] s K :=
  (tt_aload (p_14_0 _ _) rfl).mpr (Exists.elim h (fun a1 h2 => t3_getr (p_14_1 _ _) (isI_1_3) h2.1.1 h2.1.2 ((tt_iload (p_14_4 _ _) rfl).mpr ((tt_aload (p_14_5 _ _) rfl).mpr (t3_geti (p_14_6 _ _) (isI_1_9) h2.2.1 (Exists.elim h2.2.2 (fun m3 h4 => t3_ast (p_14_9 _ _) h4.1.1 h4.1.2 ((tt_aload (p_14_10 _ _) rfl).mpr (Exists.elim h4.2 (fun a5 h6 => t3_getr (p_14_11 _ _) (isI_1_4) h6.1.1 h6.1.2 ((tt_iload (p_14_14 _ _) rfl).mpr ((tt_push (p_14_15 _ _)).mpr (Exists.elim h6.2 (fun m7 h8 => t3_ast (p_14_16 _ _) h8.1.1 h8.1.2 (tt_ret0 (p_14_17 _ _) h8.2)))))))))))))))
/-! InclusionProver$Lines.addPremise.(II)V -/
theorem p_15_0 (L : Nat) (xs : Nat → Int32) : ll_P L xs 15 0 = some (.inl (lo_aload 1 0)) := (P_15 L xs 0).trans rfl
theorem p_15_1 (L : Nat) (xs : Nat → Int32) : ll_P L xs 15 1 = some (.inl (lo_getf 4 1 9)) := (P_15 L xs 1).trans rfl
theorem p_15_4 (L : Nat) (xs : Nat → Int32) : ll_P L xs 15 4 = some (.inl (lo_push 7 (.int 9300))) := (P_15 L xs 4).trans rfl
theorem p_15_7 (L : Nat) (xs : Nat → Int32) : ll_P L xs 15 7 = some (.inl (lo_cmp 40 10 (fun x y => decide (y ≤ x)))) := (P_15 L xs 7).trans rfl
theorem p_15_10 (L : Nat) (xs : Nat → Int32) : ll_P L xs 15 10 = some (.inl (lo_aload 11 0)) := (P_15 L xs 10).trans rfl
theorem p_15_11 (L : Nat) (xs : Nat → Int32) : ll_P L xs 15 11 = some (.inl (lo_getf 14 1 5)) := (P_15 L xs 11).trans rfl
theorem p_15_14 (L : Nat) (xs : Nat → Int32) : ll_P L xs 15 14 = some (.inl (lo_aload 15 0)) := (P_15 L xs 14).trans rfl
theorem p_15_15 (L : Nat) (xs : Nat → Int32) : ll_P L xs 15 15 = some (.inl (lo_getf 18 1 9)) := (P_15 L xs 15).trans rfl
theorem p_15_18 (L : Nat) (xs : Nat → Int32) : ll_P L xs 15 18 = some (.inl (lo_iload 19 2)) := (P_15 L xs 18).trans rfl
theorem p_15_19 (L : Nat) (xs : Nat → Int32) : ll_P L xs 15 19 = some (.inl (lo_ast 20 0)) := (P_15 L xs 19).trans rfl
theorem p_15_20 (L : Nat) (xs : Nat → Int32) : ll_P L xs 15 20 = some (.inl (lo_aload 21 0)) := (P_15 L xs 20).trans rfl
theorem p_15_21 (L : Nat) (xs : Nat → Int32) : ll_P L xs 15 21 = some (.inl (lo_dup 22)) := (P_15 L xs 21).trans rfl
theorem p_15_22 (L : Nat) (xs : Nat → Int32) : ll_P L xs 15 22 = some (.inl (lo_getf 25 1 9)) := (P_15 L xs 22).trans rfl
theorem p_15_25 (L : Nat) (xs : Nat → Int32) : ll_P L xs 15 25 = some (.inl (lo_push 26 (.int 1))) := (P_15 L xs 25).trans rfl
theorem p_15_26 (L : Nat) (xs : Nat → Int32) : ll_P L xs 15 26 = some (.inl (lo_bin 27 (fun x y => x + y))) := (P_15 L xs 26).trans rfl
theorem p_15_27 (L : Nat) (xs : Nat → Int32) : ll_P L xs 15 27 = some (.inl (lo_putf 30 1 9 0)) := (P_15 L xs 27).trans rfl
theorem p_15_30 (L : Nat) (xs : Nat → Int32) : ll_P L xs 15 30 = some (.inl (lo_aload 31 0)) := (P_15 L xs 30).trans rfl
theorem p_15_31 (L : Nat) (xs : Nat → Int32) : ll_P L xs 15 31 = some (.inl (lo_getf 34 1 4)) := (P_15 L xs 31).trans rfl
theorem p_15_34 (L : Nat) (xs : Nat → Int32) : ll_P L xs 15 34 = some (.inl (lo_iload 35 1)) := (P_15 L xs 34).trans rfl
theorem p_15_35 (L : Nat) (xs : Nat → Int32) : ll_P L xs 15 35 = some (.inl (lo_dup2 36)) := (P_15 L xs 35).trans rfl
theorem p_15_36 (L : Nat) (xs : Nat → Int32) : ll_P L xs 15 36 = some (.inl (lo_ald 37 0)) := (P_15 L xs 36).trans rfl
theorem p_15_37 (L : Nat) (xs : Nat → Int32) : ll_P L xs 15 37 = some (.inl (lo_push 38 (.int 1))) := (P_15 L xs 37).trans rfl
theorem p_15_38 (L : Nat) (xs : Nat → Int32) : ll_P L xs 15 38 = some (.inl (lo_bin 39 (fun x y => x + y))) := (P_15 L xs 38).trans rfl
theorem p_15_39 (L : Nat) (xs : Nat → Int32) : ll_P L xs 15 39 = some (.inl (lo_ast 40 0)) := (P_15 L xs 39).trans rfl
theorem p_15_40 (L : Nat) (xs : Nat → Int32) : ll_P L xs 15 40 = some (.inr (.inr 0)) := (P_15 L xs 40).trans rfl
theorem b_15_0 {Y : sY} {d : Nat} {s : sT} {K : Option Int32 → sT → Prop} {r0 : Nat} {x1 : Int32} {x2 : Int32} (h : (isO Y r0 1 ∧ (if (9300 : Int32) ≤ (s.1 r0 9) then K none s else (∃ a2, (isO Y r0 1 ∧ s.2 r0 5 = some a2) ∧ (isO Y r0 1 ∧ (∃ m4, (isA Y a2 0 m4 ∧ inR (s.1 r0 9) m4) ∧ (isO Y r0 1 ∧ (isO Y r0 1 ∧ (∃ a6, (isO Y r0 1 ∧ (pV (pV s a2 ((s.1 r0 9)).toNatClampNeg x2) r0 9 (((pV s a2 ((s.1 r0 9)).toNatClampNeg x2).1 r0 9) + (1 : Int32))).2 r0 4 = some a6) ∧ (∃ m8, (isA Y a6 0 m8 ∧ inR x1 m8) ∧ (∃ m10, (isA Y a6 0 m10 ∧ inR x1 m10) ∧ K none (pV (pV (pV s a2 ((s.1 r0 9)).toNatClampNeg x2) r0 9 (((pV s a2 ((s.1 r0 9)).toNatClampNeg x2).1 r0 9) + (1 : Int32))) a6 (x1).toNatClampNeg (((pV (pV s a2 ((s.1 r0 9)).toNatClampNeg x2) r0 9 (((pV s a2 ((s.1 r0 9)).toNatClampNeg x2).1 r0 9) + (1 : Int32))).1 a6 (x1).toNatClampNeg) + (1 : Int32)))))))))))))) : tT Y d 15 0 [.ref r0, .int x1, .int x2] [] s K :=
  (tt_aload (p_15_0 _ _) rfl).mpr (t3_geti (p_15_1 _ _) (isI_1_9) h.1 ((tt_push (p_15_4 _ _)).mpr (t3_cmp (p := (9300 : Int32) ≤ (s.1 r0 9)) (p_15_7 _ _) rfl (fun g1 => tt_ret0 (p_15_40 _ _) (ifp h.2 g1)) (fun g1 => (tt_aload (p_15_10 _ _) rfl).mpr (Exists.elim (ifn h.2 g1) (fun a2 h3 => t3_getr (p_15_11 _ _) (isI_1_5) h3.1.1 h3.1.2 ((tt_aload (p_15_14 _ _) rfl).mpr (t3_geti (p_15_15 _ _) (isI_1_9) h3.2.1 ((tt_iload (p_15_18 _ _) rfl).mpr (Exists.elim h3.2.2 (fun m4 h5 => t3_ast (p_15_19 _ _) h5.1.1 h5.1.2 ((tt_aload (p_15_20 _ _) rfl).mpr ((tt_dupr (p_15_21 _ _)).mpr (t3_geti (p_15_22 _ _) (isI_1_9) h5.2.1 ((tt_push (p_15_25 _ _)).mpr ((tt_bin (p_15_26 _ _)).mpr ((t2_puti (p_15_27 _ _) isI_1_9 h5.2.2.1).mpr ((tt_aload (p_15_30 _ _) rfl).mpr (Exists.elim h5.2.2.2 (fun a6 h7 => t3_getr (p_15_31 _ _) (isI_1_4) h7.1.1 h7.1.2 ((tt_iload (p_15_34 _ _) rfl).mpr ((tt_dup2 (p_15_35 _ _)).mpr (Exists.elim h7.2 (fun m8 h9 => t3_ald (p_15_36 _ _) h9.1.1 h9.1.2 ((tt_push (p_15_37 _ _)).mpr ((tt_bin (p_15_38 _ _)).mpr (Exists.elim h9.2 (fun m10 h11 => t3_ast (p_15_39 _ _) h11.1.1 h11.1.2 (tt_ret0 (p_15_40 _ _) h11.2)))))))))))))))))))))))))))))
/-! InclusionProver$Lines.dropPremises.(I)V -/
theorem p_16_0 (L : Nat) (xs : Nat → Int32) : ll_P L xs 16 0 = some (.inl (lo_aload 1 0)) := (P_16 L xs 0).trans rfl
theorem p_16_1 (L : Nat) (xs : Nat → Int32) : ll_P L xs 16 1 = some (.inl (lo_dup 2)) := (P_16 L xs 1).trans rfl
theorem p_16_2 (L : Nat) (xs : Nat → Int32) : ll_P L xs 16 2 = some (.inl (lo_getf 5 1 9)) := (P_16 L xs 2).trans rfl
theorem p_16_5 (L : Nat) (xs : Nat → Int32) : ll_P L xs 16 5 = some (.inl (lo_aload 6 0)) := (P_16 L xs 5).trans rfl
theorem p_16_6 (L : Nat) (xs : Nat → Int32) : ll_P L xs 16 6 = some (.inl (lo_getf 9 1 4)) := (P_16 L xs 6).trans rfl
theorem p_16_9 (L : Nat) (xs : Nat → Int32) : ll_P L xs 16 9 = some (.inl (lo_iload 10 1)) := (P_16 L xs 9).trans rfl
theorem p_16_10 (L : Nat) (xs : Nat → Int32) : ll_P L xs 16 10 = some (.inl (lo_ald 11 0)) := (P_16 L xs 10).trans rfl
theorem p_16_11 (L : Nat) (xs : Nat → Int32) : ll_P L xs 16 11 = some (.inl (lo_bin 12 (fun x y => x - y))) := (P_16 L xs 11).trans rfl
theorem p_16_12 (L : Nat) (xs : Nat → Int32) : ll_P L xs 16 12 = some (.inl (lo_putf 15 1 9 0)) := (P_16 L xs 12).trans rfl
theorem p_16_15 (L : Nat) (xs : Nat → Int32) : ll_P L xs 16 15 = some (.inl (lo_aload 16 0)) := (P_16 L xs 15).trans rfl
theorem p_16_16 (L : Nat) (xs : Nat → Int32) : ll_P L xs 16 16 = some (.inl (lo_getf 19 1 4)) := (P_16 L xs 16).trans rfl
theorem p_16_19 (L : Nat) (xs : Nat → Int32) : ll_P L xs 16 19 = some (.inl (lo_iload 20 1)) := (P_16 L xs 19).trans rfl
theorem p_16_20 (L : Nat) (xs : Nat → Int32) : ll_P L xs 16 20 = some (.inl (lo_push 21 (.int 0))) := (P_16 L xs 20).trans rfl
theorem p_16_21 (L : Nat) (xs : Nat → Int32) : ll_P L xs 16 21 = some (.inl (lo_ast 22 0)) := (P_16 L xs 21).trans rfl
theorem p_16_22 (L : Nat) (xs : Nat → Int32) : ll_P L xs 16 22 = some (.inr (.inr 0)) := (P_16 L xs 22).trans rfl
theorem b_16_0 {Y : sY} {d : Nat} {s : sT} {K : Option Int32 → sT → Prop} {r0 : Nat} {x1 : Int32} (h : (isO Y r0 1 ∧ (∃ a1, (isO Y r0 1 ∧ s.2 r0 4 = some a1) ∧ (∃ m3, (isA Y a1 0 m3 ∧ inR x1 m3) ∧ (isO Y r0 1 ∧ (∃ a5, (isO Y r0 1 ∧ (pV s r0 9 ((s.1 r0 9) - (s.1 a1 (x1).toNatClampNeg))).2 r0 4 = some a5) ∧ (∃ m7, (isA Y a5 0 m7 ∧ inR x1 m7) ∧ K none (pV (pV s r0 9 ((s.1 r0 9) - (s.1 a1 (x1).toNatClampNeg))) a5 (x1).toNatClampNeg (0 : Int32))))))))) : tT Y d 16 0 [.ref r0, .int x1] [] s K :=
  (tt_aload (p_16_0 _ _) rfl).mpr ((tt_dupr (p_16_1 _ _)).mpr (t3_geti (p_16_2 _ _) (isI_1_9) h.1 ((tt_aload (p_16_5 _ _) rfl).mpr (Exists.elim h.2 (fun a1 h2 => t3_getr (p_16_6 _ _) (isI_1_4) h2.1.1 h2.1.2 ((tt_iload (p_16_9 _ _) rfl).mpr (Exists.elim h2.2 (fun m3 h4 => t3_ald (p_16_10 _ _) h4.1.1 h4.1.2 ((tt_bin (p_16_11 _ _)).mpr ((t2_puti (p_16_12 _ _) isI_1_9 h4.2.1).mpr ((tt_aload (p_16_15 _ _) rfl).mpr (Exists.elim h4.2.2 (fun a5 h6 => t3_getr (p_16_16 _ _) (isI_1_4) h6.1.1 h6.1.2 ((tt_iload (p_16_19 _ _) rfl).mpr ((tt_push (p_16_20 _ _)).mpr (Exists.elim h6.2 (fun m7 h8 => t3_ast (p_16_21 _ _) h8.1.1 h8.1.2 (tt_ret0 (p_16_22 _ _) h8.2))))))))))))))))))
/-! InclusionProver$Lines.dropLast.()I -/
theorem p_17_0 (L : Nat) (xs : Nat → Int32) : ll_P L xs 17 0 = some (.inl (lo_aload 1 0)) := (P_17 L xs 0).trans rfl
theorem p_17_1 (L : Nat) (xs : Nat → Int32) : ll_P L xs 17 1 = some (.inl (lo_getf 4 1 8)) := (P_17 L xs 1).trans rfl
theorem p_17_4 (L : Nat) (xs : Nat → Int32) : ll_P L xs 17 4 = some (.inl (lo_if 9 7 (fun x => decide (¬ x = 0)))) := (P_17 L xs 4).trans rfl
theorem p_17_7 (L : Nat) (xs : Nat → Int32) : ll_P L xs 17 7 = some (.inl (lo_push 8 (.int (-1)))) := (P_17 L xs 7).trans rfl
theorem p_17_8 (L : Nat) (xs : Nat → Int32) : ll_P L xs 17 8 = some (.inr (.inr 1)) := (P_17 L xs 8).trans rfl
theorem p_17_9 (L : Nat) (xs : Nat → Int32) : ll_P L xs 17 9 = some (.inl (lo_aload 10 0)) := (P_17 L xs 9).trans rfl
theorem p_17_10 (L : Nat) (xs : Nat → Int32) : ll_P L xs 17 10 = some (.inl (lo_dup 11)) := (P_17 L xs 10).trans rfl
theorem p_17_11 (L : Nat) (xs : Nat → Int32) : ll_P L xs 17 11 = some (.inl (lo_getf 14 1 8)) := (P_17 L xs 11).trans rfl
theorem p_17_14 (L : Nat) (xs : Nat → Int32) : ll_P L xs 17 14 = some (.inl (lo_push 15 (.int 1))) := (P_17 L xs 14).trans rfl
theorem p_17_15 (L : Nat) (xs : Nat → Int32) : ll_P L xs 17 15 = some (.inl (lo_bin 16 (fun x y => x - y))) := (P_17 L xs 15).trans rfl
theorem p_17_16 (L : Nat) (xs : Nat → Int32) : ll_P L xs 17 16 = some (.inl (lo_putf 19 1 8 0)) := (P_17 L xs 16).trans rfl
theorem p_17_19 (L : Nat) (xs : Nat → Int32) : ll_P L xs 17 19 = some (.inl (lo_aload 20 0)) := (P_17 L xs 19).trans rfl
theorem p_17_20 (L : Nat) (xs : Nat → Int32) : ll_P L xs 17 20 = some (.inl (lo_aload 21 0)) := (P_17 L xs 20).trans rfl
theorem p_17_21 (L : Nat) (xs : Nat → Int32) : ll_P L xs 17 21 = some (.inl (lo_getf 24 1 8)) := (P_17 L xs 21).trans rfl
theorem p_17_24 (L : Nat) (xs : Nat → Int32) : ll_P L xs 17 24 = some (.inr (.inl (16, 2, 27))) := (P_17 L xs 24).trans rfl
theorem p_17_27 (L : Nat) (xs : Nat → Int32) : ll_P L xs 17 27 = some (.inl (lo_aload 28 0)) := (P_17 L xs 27).trans rfl
theorem p_17_28 (L : Nat) (xs : Nat → Int32) : ll_P L xs 17 28 = some (.inl (lo_getf 31 1 8)) := (P_17 L xs 28).trans rfl
theorem p_17_31 (L : Nat) (xs : Nat → Int32) : ll_P L xs 17 31 = some (.inr (.inr 1)) := (P_17 L xs 31).trans rfl
theorem b_17_0 {Y : sY} {d : Nat} {s : sT} {K : Option Int32 → sT → Prop} {r0 : Nat} (h : (isO Y r0 1 ∧ (if ¬ (s.1 r0 8) = 0 then (isO Y r0 1 ∧ (isO Y r0 1 ∧ (isO Y r0 1 ∧ (isO Y r0 1 ∧ tT Y d 16 0 [.ref r0, .int ((pV s r0 8 ((s.1 r0 8) - (1 : Int32))).1 r0 8)] [] (pV s r0 8 ((s.1 r0 8) - (1 : Int32))) (fun r s1 => tT Y (d + 1) 17 27 [.ref r0] ((r.map Value.int).toList ++ []) s1 K))))) else K (some (-1 : Int32)) s))) : tT Y (d + 1) 17 0 [.ref r0] [] s K :=
  (tt_aload (p_17_0 _ _) rfl).mpr (t3_geti (p_17_1 _ _) (isI_1_8) h.1 (t3_if (p := ¬ (s.1 r0 8) = 0) (p_17_4 _ _) rfl (fun g1 => (tt_aload (p_17_9 _ _) rfl).mpr ((tt_dupr (p_17_10 _ _)).mpr (t3_geti (p_17_11 _ _) (isI_1_8) (ifp h.2 g1).1 ((tt_push (p_17_14 _ _)).mpr ((tt_bin (p_17_15 _ _)).mpr ((t2_puti (p_17_16 _ _) isI_1_8 (ifp h.2 g1).2.1).mpr ((tt_aload (p_17_19 _ _) rfl).mpr ((tt_aload (p_17_20 _ _) rfl).mpr (t3_geti (p_17_21 _ _) (isI_1_8) (ifp h.2 g1).2.2.1 (t2_callv (z := 16) (k := 2) (i := r0) (as := [.int ((pV s r0 8 ((s.1 r0 8) - (1 : Int32))).1 r0 8)]) (rest := []) (p_17_24 _ _) mK_16 mL_16 rfl rfl (Nat.le_of_ble_eq_true rfl) rfl (Nat.le_of_ble_eq_true rfl) (ifp h.2 g1).2.2.2.1 (ifp h.2 g1).2.2.2.2)))))))))) (fun g1 => (tt_push (p_17_7 _ _)).mpr (tt_ret1 (p_17_8 _ _) (ifn h.2 g1)))))
theorem b_17_27 {Y : sY} {d : Nat} {s : sT} {K : Option Int32 → sT → Prop} {r0 : Nat} (h : (isO Y r0 1 ∧ K (some (s.1 r0 8)) s)) : tT Y (d + 1) 17 27 [.ref r0] [] s K :=
  (tt_aload (p_17_27 _ _) rfl).mpr (t3_geti (p_17_28 _ _) (isI_1_8) h.1 (tt_ret1 (p_17_31 _ _) h.2))
/-! InclusionProver$Lines.ofRule.(I)I -/
theorem p_18_0 (L : Nat) (xs : Nat → Int32) : ll_P L xs 18 0 = some (.inl (lo_push 1 (.int 0))) := (P_18 L xs 0).trans rfl
theorem p_18_1 (L : Nat) (xs : Nat → Int32) : ll_P L xs 18 1 = some (.inl (lo_istore 2 2)) := (P_18 L xs 1).trans rfl
theorem p_18_2 (L : Nat) (xs : Nat → Int32) : ll_P L xs 18 2 = some (.inl (lo_push 3 (.int 0))) := (P_18 L xs 2).trans rfl
theorem p_18_3 (L : Nat) (xs : Nat → Int32) : ll_P L xs 18 3 = some (.inl (lo_istore 4 3)) := (P_18 L xs 3).trans rfl
theorem p_18_4 (L : Nat) (xs : Nat → Int32) : ll_P L xs 18 4 = some (.inl (lo_iload 5 3)) := (P_18 L xs 4).trans rfl
theorem p_18_5 (L : Nat) (xs : Nat → Int32) : ll_P L xs 18 5 = some (.inl (lo_aload 6 0)) := (P_18 L xs 5).trans rfl
theorem p_18_6 (L : Nat) (xs : Nat → Int32) : ll_P L xs 18 6 = some (.inl (lo_getf 9 1 8)) := (P_18 L xs 6).trans rfl
theorem p_18_9 (L : Nat) (xs : Nat → Int32) : ll_P L xs 18 9 = some (.inl (lo_cmp 31 12 (fun x y => decide (y ≤ x)))) := (P_18 L xs 9).trans rfl
theorem p_18_12 (L : Nat) (xs : Nat → Int32) : ll_P L xs 18 12 = some (.inl (lo_aload 13 0)) := (P_18 L xs 12).trans rfl
theorem p_18_13 (L : Nat) (xs : Nat → Int32) : ll_P L xs 18 13 = some (.inl (lo_getf 16 1 2)) := (P_18 L xs 13).trans rfl
theorem p_18_16 (L : Nat) (xs : Nat → Int32) : ll_P L xs 18 16 = some (.inl (lo_iload 17 3)) := (P_18 L xs 16).trans rfl
theorem p_18_17 (L : Nat) (xs : Nat → Int32) : ll_P L xs 18 17 = some (.inl (lo_ald 18 0)) := (P_18 L xs 17).trans rfl
theorem p_18_18 (L : Nat) (xs : Nat → Int32) : ll_P L xs 18 18 = some (.inl (lo_iload 19 1)) := (P_18 L xs 18).trans rfl
theorem p_18_19 (L : Nat) (xs : Nat → Int32) : ll_P L xs 18 19 = some (.inl (lo_cmp 25 22 (fun x y => decide (¬ x = y)))) := (P_18 L xs 19).trans rfl
theorem p_18_22 (L : Nat) (xs : Nat → Int32) : ll_P L xs 18 22 = some (.inl (lo_iinc 25 2 1)) := (P_18 L xs 22).trans rfl
theorem p_18_25 (L : Nat) (xs : Nat → Int32) : ll_P L xs 18 25 = some (.inl (lo_iinc 28 3 1)) := (P_18 L xs 25).trans rfl
theorem p_18_28 (L : Nat) (xs : Nat → Int32) : ll_P L xs 18 28 = some (.inl (lo_goto 4)) := (P_18 L xs 28).trans rfl
theorem p_18_31 (L : Nat) (xs : Nat → Int32) : ll_P L xs 18 31 = some (.inl (lo_iload 32 2)) := (P_18 L xs 31).trans rfl
theorem p_18_32 (L : Nat) (xs : Nat → Int32) : ll_P L xs 18 32 = some (.inr (.inr 1)) := (P_18 L xs 32).trans rfl
theorem b_18_0 {Y : sY} {d : Nat} {s : sT} {K : Option Int32 → sT → Prop} {r0 : Nat} {x1 : Int32} (h : tT Y d 18 4 [.ref r0, .int x1, .int (0 : Int32), .int (0 : Int32)] [] s K) : tT Y d 18 0 [.ref r0, .int x1, .null, .null] [] s K :=
  (tt_push (p_18_0 _ _)).mpr ((tt_istore (p_18_1 _ _) (Nat.le_of_ble_eq_true rfl) rfl rfl).mpr ((tt_push (p_18_2 _ _)).mpr ((tt_istore (p_18_3 _ _) (Nat.le_of_ble_eq_true rfl) rfl rfl).mpr (h))))
theorem b_18_4 {Y : sY} {d : Nat} {s : sT} {K : Option Int32 → sT → Prop} {r0 : Nat} {x1 : Int32} {x2 : Int32} {x3 : Int32} (h : (isO Y r0 1 ∧ (if (s.1 r0 8) ≤ x3 then K (some x2) s else (∃ a2, (isO Y r0 1 ∧ s.2 r0 2 = some a2) ∧ (∃ m4, (isA Y a2 0 m4 ∧ inR x3 m4) ∧ (if ¬ (s.1 a2 (x3).toNatClampNeg) = x1 then tT Y d 18 25 [.ref r0, .int x1, .int x2, .int x3] [] s K else tT Y d 18 25 [.ref r0, .int x1, .int (x2 + 1), .int x3] [] s K)))))) : tT Y d 18 4 [.ref r0, .int x1, .int x2, .int x3] [] s K :=
  (tt_iload (p_18_4 _ _) rfl).mpr ((tt_aload (p_18_5 _ _) rfl).mpr (t3_geti (p_18_6 _ _) (isI_1_8) h.1 (t3_cmp (p := (s.1 r0 8) ≤ x3) (p_18_9 _ _) rfl (fun g1 => (tt_iload (p_18_31 _ _) rfl).mpr (tt_ret1 (p_18_32 _ _) (ifp h.2 g1))) (fun g1 => (tt_aload (p_18_12 _ _) rfl).mpr (Exists.elim (ifn h.2 g1) (fun a2 h3 => t3_getr (p_18_13 _ _) (isI_1_2) h3.1.1 h3.1.2 ((tt_iload (p_18_16 _ _) rfl).mpr (Exists.elim h3.2 (fun m4 h5 => t3_ald (p_18_17 _ _) h5.1.1 h5.1.2 ((tt_iload (p_18_18 _ _) rfl).mpr (t3_cmp (p := ¬ (s.1 a2 (x3).toNatClampNeg) = x1) (p_18_19 _ _) rfl (fun g6 => (ifp h5.2 g6)) (fun g6 => (tt_iinc (p_18_22 _ _) rfl rfl rfl).mpr ((ifn h5.2 g6))))))))))))))
theorem b_18_25 {Y : sY} {d : Nat} {s : sT} {K : Option Int32 → sT → Prop} {r0 : Nat} {x1 : Int32} {x2 : Int32} {x3 : Int32} (h : tT Y d 18 4 [.ref r0, .int x1, .int x2, .int (x3 + 1)] [] s K) : tT Y d 18 25 [.ref r0, .int x1, .int x2, .int x3] [] s K :=
  (tt_iinc (p_18_25 _ _) rfl rfl rfl).mpr ((tt_goto (p_18_28 _ _)).mpr (h))
/-! InclusionProver$Lines.premisesOfNone.()I -/
theorem p_19_0 (L : Nat) (xs : Nat → Int32) : ll_P L xs 19 0 = some (.inl (lo_aload 1 0)) := (P_19 L xs 0).trans rfl
theorem p_19_1 (L : Nat) (xs : Nat → Int32) : ll_P L xs 19 1 = some (.inl (lo_getf 4 1 7)) := (P_19 L xs 1).trans rfl
theorem p_19_4 (L : Nat) (xs : Nat → Int32) : ll_P L xs 19 4 = some (.inl (lo_push 5 (.int 0))) := (P_19 L xs 4).trans rfl
theorem p_19_5 (L : Nat) (xs : Nat → Int32) : ll_P L xs 19 5 = some (.inr (.inl (231, 2, 8))) := (P_19 L xs 5).trans rfl
theorem p_19_8 (L : Nat) (xs : Nat → Int32) : ll_P L xs 19 8 = some (.inl (lo_push 9 (.int 0))) := (P_19 L xs 8).trans rfl
theorem p_19_9 (L : Nat) (xs : Nat → Int32) : ll_P L xs 19 9 = some (.inl (lo_istore 10 1)) := (P_19 L xs 9).trans rfl
theorem p_19_10 (L : Nat) (xs : Nat → Int32) : ll_P L xs 19 10 = some (.inl (lo_iload 11 1)) := (P_19 L xs 10).trans rfl
theorem p_19_11 (L : Nat) (xs : Nat → Int32) : ll_P L xs 19 11 = some (.inl (lo_aload 12 0)) := (P_19 L xs 11).trans rfl
theorem p_19_12 (L : Nat) (xs : Nat → Int32) : ll_P L xs 19 12 = some (.inl (lo_getf 15 1 9)) := (P_19 L xs 12).trans rfl
theorem p_19_15 (L : Nat) (xs : Nat → Int32) : ll_P L xs 19 15 = some (.inl (lo_cmp 52 18 (fun x y => decide (y ≤ x)))) := (P_19 L xs 15).trans rfl
theorem p_19_18 (L : Nat) (xs : Nat → Int32) : ll_P L xs 19 18 = some (.inl (lo_aload 19 0)) := (P_19 L xs 18).trans rfl
theorem p_19_19 (L : Nat) (xs : Nat → Int32) : ll_P L xs 19 19 = some (.inl (lo_aload 20 0)) := (P_19 L xs 19).trans rfl
theorem p_19_20 (L : Nat) (xs : Nat → Int32) : ll_P L xs 19 20 = some (.inl (lo_getf 23 1 5)) := (P_19 L xs 20).trans rfl
theorem p_19_23 (L : Nat) (xs : Nat → Int32) : ll_P L xs 19 23 = some (.inl (lo_iload 24 1)) := (P_19 L xs 23).trans rfl
theorem p_19_24 (L : Nat) (xs : Nat → Int32) : ll_P L xs 19 24 = some (.inl (lo_ald 25 0)) := (P_19 L xs 24).trans rfl
theorem p_19_25 (L : Nat) (xs : Nat → Int32) : ll_P L xs 19 25 = some (.inr (.inl (10, 2, 28))) := (P_19 L xs 25).trans rfl
theorem p_19_28 (L : Nat) (xs : Nat → Int32) : ll_P L xs 19 28 = some (.inl (lo_if 46 31 (fun x => decide (x = 0)))) := (P_19 L xs 28).trans rfl
theorem p_19_31 (L : Nat) (xs : Nat → Int32) : ll_P L xs 19 31 = some (.inl (lo_aload 32 0)) := (P_19 L xs 31).trans rfl
theorem p_19_32 (L : Nat) (xs : Nat → Int32) : ll_P L xs 19 32 = some (.inl (lo_getf 35 1 7)) := (P_19 L xs 32).trans rfl
theorem p_19_35 (L : Nat) (xs : Nat → Int32) : ll_P L xs 19 35 = some (.inl (lo_aload 36 0)) := (P_19 L xs 35).trans rfl
theorem p_19_36 (L : Nat) (xs : Nat → Int32) : ll_P L xs 19 36 = some (.inl (lo_getf 39 1 5)) := (P_19 L xs 36).trans rfl
theorem p_19_39 (L : Nat) (xs : Nat → Int32) : ll_P L xs 19 39 = some (.inl (lo_iload 40 1)) := (P_19 L xs 39).trans rfl
theorem p_19_40 (L : Nat) (xs : Nat → Int32) : ll_P L xs 19 40 = some (.inl (lo_ald 41 0)) := (P_19 L xs 40).trans rfl
theorem p_19_41 (L : Nat) (xs : Nat → Int32) : ll_P L xs 19 41 = some (.inl (lo_dup2 42)) := (P_19 L xs 41).trans rfl
theorem p_19_42 (L : Nat) (xs : Nat → Int32) : ll_P L xs 19 42 = some (.inl (lo_ald 43 0)) := (P_19 L xs 42).trans rfl
theorem p_19_43 (L : Nat) (xs : Nat → Int32) : ll_P L xs 19 43 = some (.inl (lo_push 44 (.int 1))) := (P_19 L xs 43).trans rfl
theorem p_19_44 (L : Nat) (xs : Nat → Int32) : ll_P L xs 19 44 = some (.inl (lo_bin 45 (fun x y => x + y))) := (P_19 L xs 44).trans rfl
theorem p_19_45 (L : Nat) (xs : Nat → Int32) : ll_P L xs 19 45 = some (.inl (lo_ast 46 0)) := (P_19 L xs 45).trans rfl
theorem p_19_46 (L : Nat) (xs : Nat → Int32) : ll_P L xs 19 46 = some (.inl (lo_iinc 49 1 1)) := (P_19 L xs 46).trans rfl
theorem p_19_49 (L : Nat) (xs : Nat → Int32) : ll_P L xs 19 49 = some (.inl (lo_goto 10)) := (P_19 L xs 49).trans rfl
theorem p_19_52 (L : Nat) (xs : Nat → Int32) : ll_P L xs 19 52 = some (.inl (lo_push 53 (.int 0))) := (P_19 L xs 52).trans rfl
theorem p_19_53 (L : Nat) (xs : Nat → Int32) : ll_P L xs 19 53 = some (.inl (lo_istore 54 1)) := (P_19 L xs 53).trans rfl
theorem p_19_54 (L : Nat) (xs : Nat → Int32) : ll_P L xs 19 54 = some (.inl (lo_push 55 (.int 0))) := (P_19 L xs 54).trans rfl
theorem p_19_55 (L : Nat) (xs : Nat → Int32) : ll_P L xs 19 55 = some (.inl (lo_istore 56 2)) := (P_19 L xs 55).trans rfl
theorem p_19_56 (L : Nat) (xs : Nat → Int32) : ll_P L xs 19 56 = some (.inl (lo_iload 57 2)) := (P_19 L xs 56).trans rfl
theorem p_19_57 (L : Nat) (xs : Nat → Int32) : ll_P L xs 19 57 = some (.inl (lo_aload 58 0)) := (P_19 L xs 57).trans rfl
theorem p_19_58 (L : Nat) (xs : Nat → Int32) : ll_P L xs 19 58 = some (.inl (lo_getf 61 1 8)) := (P_19 L xs 58).trans rfl
theorem p_19_61 (L : Nat) (xs : Nat → Int32) : ll_P L xs 19 61 = some (.inl (lo_cmp 82 64 (fun x y => decide (y ≤ x)))) := (P_19 L xs 61).trans rfl
theorem p_19_64 (L : Nat) (xs : Nat → Int32) : ll_P L xs 19 64 = some (.inl (lo_aload 65 0)) := (P_19 L xs 64).trans rfl
theorem p_19_65 (L : Nat) (xs : Nat → Int32) : ll_P L xs 19 65 = some (.inl (lo_getf 68 1 7)) := (P_19 L xs 65).trans rfl
theorem p_19_68 (L : Nat) (xs : Nat → Int32) : ll_P L xs 19 68 = some (.inl (lo_iload 69 2)) := (P_19 L xs 68).trans rfl
theorem p_19_69 (L : Nat) (xs : Nat → Int32) : ll_P L xs 19 69 = some (.inl (lo_ald 70 0)) := (P_19 L xs 69).trans rfl
theorem p_19_70 (L : Nat) (xs : Nat → Int32) : ll_P L xs 19 70 = some (.inl (lo_if 76 73 (fun x => decide (¬ x = 0)))) := (P_19 L xs 70).trans rfl
theorem p_19_73 (L : Nat) (xs : Nat → Int32) : ll_P L xs 19 73 = some (.inl (lo_iinc 76 1 1)) := (P_19 L xs 73).trans rfl
theorem p_19_76 (L : Nat) (xs : Nat → Int32) : ll_P L xs 19 76 = some (.inl (lo_iinc 79 2 1)) := (P_19 L xs 76).trans rfl
theorem p_19_79 (L : Nat) (xs : Nat → Int32) : ll_P L xs 19 79 = some (.inl (lo_goto 56)) := (P_19 L xs 79).trans rfl
theorem p_19_82 (L : Nat) (xs : Nat → Int32) : ll_P L xs 19 82 = some (.inl (lo_iload 83 1)) := (P_19 L xs 82).trans rfl
theorem p_19_83 (L : Nat) (xs : Nat → Int32) : ll_P L xs 19 83 = some (.inr (.inr 1)) := (P_19 L xs 83).trans rfl
theorem b_19_0 {Y : sY} {d : Nat} {s : sT} {K : Option Int32 → sT → Prop} {r0 : Nat} (h : (∃ a1, (isO Y r0 1 ∧ s.2 r0 7 = some a1) ∧ tT Y d 231 0 [.ref a1, .int (0 : Int32), .null, .null] [] s (fun r s1 => tT Y (d + 1) 19 8 [.ref r0, .null, .null] ((r.map Value.int).toList ++ []) s1 K))) : tT Y (d + 1) 19 0 [.ref r0, .null, .null] [] s K :=
  (tt_aload (p_19_0 _ _) rfl).mpr (Exists.elim h (fun a1 h2 => t3_getr (p_19_1 _ _) (isI_1_7) h2.1.1 h2.1.2 ((tt_push (p_19_4 _ _)).mpr (t2_calls (z := 231) (k := 2) (as := [.ref a1, .int (0 : Int32)]) (rest := []) (p_19_5 _ _) mK_231 mL_231 rfl rfl (Nat.le_of_ble_eq_true rfl) rfl (Nat.le_of_ble_eq_true rfl) h2.2))))
theorem b_19_8 {Y : sY} {d : Nat} {s : sT} {K : Option Int32 → sT → Prop} {r0 : Nat} (h : tT Y (d + 1) 19 10 [.ref r0, .int (0 : Int32), .null] [] s K) : tT Y (d + 1) 19 8 [.ref r0, .null, .null] [] s K :=
  (tt_push (p_19_8 _ _)).mpr ((tt_istore (p_19_9 _ _) (Nat.le_of_ble_eq_true rfl) rfl rfl).mpr (h))
theorem b_19_10 {Y : sY} {d : Nat} {s : sT} {K : Option Int32 → sT → Prop} {r0 : Nat} {x1 : Int32} (h : (isO Y r0 1 ∧ (if (s.1 r0 9) ≤ x1 then tT Y (d + 1) 19 56 [.ref r0, .int (0 : Int32), .int (0 : Int32)] [] s K else (∃ a2, (isO Y r0 1 ∧ s.2 r0 5 = some a2) ∧ (∃ m4, (isA Y a2 0 m4 ∧ inR x1 m4) ∧ (isO Y r0 1 ∧ tT Y d 10 0 [.ref r0, .int (s.1 a2 (x1).toNatClampNeg)] [] s (fun r s1 => tT Y (d + 1) 19 28 [.ref r0, .int x1, .null] ((r.map Value.int).toList ++ []) s1 K))))))) : tT Y (d + 1) 19 10 [.ref r0, .int x1, .null] [] s K :=
  (tt_iload (p_19_10 _ _) rfl).mpr ((tt_aload (p_19_11 _ _) rfl).mpr (t3_geti (p_19_12 _ _) (isI_1_9) h.1 (t3_cmp (p := (s.1 r0 9) ≤ x1) (p_19_15 _ _) rfl (fun g1 => (tt_push (p_19_52 _ _)).mpr ((tt_istore (p_19_53 _ _) (Nat.le_of_ble_eq_true rfl) rfl rfl).mpr ((tt_push (p_19_54 _ _)).mpr ((tt_istore (p_19_55 _ _) (Nat.le_of_ble_eq_true rfl) rfl rfl).mpr ((ifp h.2 g1)))))) (fun g1 => (tt_aload (p_19_18 _ _) rfl).mpr ((tt_aload (p_19_19 _ _) rfl).mpr (Exists.elim (ifn h.2 g1) (fun a2 h3 => t3_getr (p_19_20 _ _) (isI_1_5) h3.1.1 h3.1.2 ((tt_iload (p_19_23 _ _) rfl).mpr (Exists.elim h3.2 (fun m4 h5 => t3_ald (p_19_24 _ _) h5.1.1 h5.1.2 (t2_callv (z := 10) (k := 2) (i := r0) (as := [.int (s.1 a2 (x1).toNatClampNeg)]) (rest := []) (p_19_25 _ _) mK_10 mL_10 rfl rfl (Nat.le_of_ble_eq_true rfl) rfl (Nat.le_of_ble_eq_true rfl) h5.2.1 h5.2.2)))))))))))
theorem b_19_28 {Y : sY} {d : Nat} {s : sT} {K : Option Int32 → sT → Prop} {r0 : Nat} {x1 : Int32} {t0 : Int32} (h : (if t0 = 0 then tT Y (d + 1) 19 46 [.ref r0, .int x1, .null] [] s K else (∃ a2, (isO Y r0 1 ∧ s.2 r0 7 = some a2) ∧ (∃ a4, (isO Y r0 1 ∧ s.2 r0 5 = some a4) ∧ (∃ m6, (isA Y a4 0 m6 ∧ inR x1 m6) ∧ (∃ m8, (isA Y a2 0 m8 ∧ inR (s.1 a4 (x1).toNatClampNeg) m8) ∧ (∃ m10, (isA Y a2 0 m10 ∧ inR (s.1 a4 (x1).toNatClampNeg) m10) ∧ tT Y (d + 1) 19 46 [.ref r0, .int x1, .null] [] (pV s a2 ((s.1 a4 (x1).toNatClampNeg)).toNatClampNeg ((s.1 a2 ((s.1 a4 (x1).toNatClampNeg)).toNatClampNeg) + (1 : Int32))) K))))))) : tT Y (d + 1) 19 28 [.ref r0, .int x1, .null] [.int t0] s K :=
  t3_if (p := t0 = 0) (p_19_28 _ _) rfl (fun g1 => (ifp h g1)) (fun g1 => (tt_aload (p_19_31 _ _) rfl).mpr (Exists.elim (ifn h g1) (fun a2 h3 => t3_getr (p_19_32 _ _) (isI_1_7) h3.1.1 h3.1.2 ((tt_aload (p_19_35 _ _) rfl).mpr (Exists.elim h3.2 (fun a4 h5 => t3_getr (p_19_36 _ _) (isI_1_5) h5.1.1 h5.1.2 ((tt_iload (p_19_39 _ _) rfl).mpr (Exists.elim h5.2 (fun m6 h7 => t3_ald (p_19_40 _ _) h7.1.1 h7.1.2 ((tt_dup2 (p_19_41 _ _)).mpr (Exists.elim h7.2 (fun m8 h9 => t3_ald (p_19_42 _ _) h9.1.1 h9.1.2 ((tt_push (p_19_43 _ _)).mpr ((tt_bin (p_19_44 _ _)).mpr (Exists.elim h9.2 (fun m10 h11 => t3_ast (p_19_45 _ _) h11.1.1 h11.1.2 (h11.2)))))))))))))))))
theorem b_19_46 {Y : sY} {d : Nat} {s : sT} {K : Option Int32 → sT → Prop} {r0 : Nat} {x1 : Int32} (h : tT Y (d + 1) 19 10 [.ref r0, .int (x1 + 1), .null] [] s K) : tT Y (d + 1) 19 46 [.ref r0, .int x1, .null] [] s K :=
  (tt_iinc (p_19_46 _ _) rfl rfl rfl).mpr ((tt_goto (p_19_49 _ _)).mpr (h))
theorem b_19_56 {Y : sY} {d : Nat} {s : sT} {K : Option Int32 → sT → Prop} {r0 : Nat} {x1 : Int32} {x2 : Int32} (h : (isO Y r0 1 ∧ (if (s.1 r0 8) ≤ x2 then K (some x1) s else (∃ a2, (isO Y r0 1 ∧ s.2 r0 7 = some a2) ∧ (∃ m4, (isA Y a2 0 m4 ∧ inR x2 m4) ∧ (if ¬ (s.1 a2 (x2).toNatClampNeg) = 0 then tT Y (d + 1) 19 76 [.ref r0, .int x1, .int x2] [] s K else tT Y (d + 1) 19 76 [.ref r0, .int (x1 + 1), .int x2] [] s K)))))) : tT Y (d + 1) 19 56 [.ref r0, .int x1, .int x2] [] s K :=
  (tt_iload (p_19_56 _ _) rfl).mpr ((tt_aload (p_19_57 _ _) rfl).mpr (t3_geti (p_19_58 _ _) (isI_1_8) h.1 (t3_cmp (p := (s.1 r0 8) ≤ x2) (p_19_61 _ _) rfl (fun g1 => (tt_iload (p_19_82 _ _) rfl).mpr (tt_ret1 (p_19_83 _ _) (ifp h.2 g1))) (fun g1 => (tt_aload (p_19_64 _ _) rfl).mpr (Exists.elim (ifn h.2 g1) (fun a2 h3 => t3_getr (p_19_65 _ _) (isI_1_7) h3.1.1 h3.1.2 ((tt_iload (p_19_68 _ _) rfl).mpr (Exists.elim h3.2 (fun m4 h5 => t3_ald (p_19_69 _ _) h5.1.1 h5.1.2 (t3_if (p := ¬ (s.1 a2 (x2).toNatClampNeg) = 0) (p_19_70 _ _) rfl (fun g6 => (ifp h5.2 g6)) (fun g6 => (tt_iinc (p_19_73 _ _) rfl rfl rfl).mpr ((ifn h5.2 g6)))))))))))))
theorem b_19_76 {Y : sY} {d : Nat} {s : sT} {K : Option Int32 → sT → Prop} {r0 : Nat} {x1 : Int32} {x2 : Int32} (h : tT Y (d + 1) 19 56 [.ref r0, .int x1, .int (x2 + 1)] [] s K) : tT Y (d + 1) 19 76 [.ref r0, .int x1, .int x2] [] s K :=
  (tt_iinc (p_19_76 _ _) rfl rfl rfl).mpr ((tt_goto (p_19_79 _ _)).mpr (h))
/-! InclusionProver$Lines.become.(LInclusionProver$Lines;)V -/
theorem p_20_0 (L : Nat) (xs : Nat → Int32) : ll_P L xs 20 0 = some (.inl (lo_aload 1 0)) := (P_20 L xs 0).trans rfl
theorem p_20_1 (L : Nat) (xs : Nat → Int32) : ll_P L xs 20 1 = some (.inl (lo_aload 2 1)) := (P_20 L xs 1).trans rfl
theorem p_20_2 (L : Nat) (xs : Nat → Int32) : ll_P L xs 20 2 = some (.inl (lo_getf 5 1 8)) := (P_20 L xs 2).trans rfl
theorem p_20_5 (L : Nat) (xs : Nat → Int32) : ll_P L xs 20 5 = some (.inl (lo_putf 8 1 8 0)) := (P_20 L xs 5).trans rfl
theorem p_20_8 (L : Nat) (xs : Nat → Int32) : ll_P L xs 20 8 = some (.inl (lo_aload 9 0)) := (P_20 L xs 8).trans rfl
theorem p_20_9 (L : Nat) (xs : Nat → Int32) : ll_P L xs 20 9 = some (.inl (lo_aload 10 1)) := (P_20 L xs 9).trans rfl
theorem p_20_10 (L : Nat) (xs : Nat → Int32) : ll_P L xs 20 10 = some (.inl (lo_getf 13 1 9)) := (P_20 L xs 10).trans rfl
theorem p_20_13 (L : Nat) (xs : Nat → Int32) : ll_P L xs 20 13 = some (.inl (lo_putf 16 1 9 0)) := (P_20 L xs 13).trans rfl
theorem p_20_16 (L : Nat) (xs : Nat → Int32) : ll_P L xs 20 16 = some (.inl (lo_aload 17 0)) := (P_20 L xs 16).trans rfl
theorem p_20_17 (L : Nat) (xs : Nat → Int32) : ll_P L xs 20 17 = some (.inl (lo_aload 18 1)) := (P_20 L xs 17).trans rfl
theorem p_20_18 (L : Nat) (xs : Nat → Int32) : ll_P L xs 20 18 = some (.inl (lo_getf 21 1 10)) := (P_20 L xs 18).trans rfl
theorem p_20_21 (L : Nat) (xs : Nat → Int32) : ll_P L xs 20 21 = some (.inl (lo_putf 24 1 10 0)) := (P_20 L xs 21).trans rfl
theorem p_20_24 (L : Nat) (xs : Nat → Int32) : ll_P L xs 20 24 = some (.inl (lo_aload 25 0)) := (P_20 L xs 24).trans rfl
theorem p_20_25 (L : Nat) (xs : Nat → Int32) : ll_P L xs 20 25 = some (.inl (lo_aload 26 1)) := (P_20 L xs 25).trans rfl
theorem p_20_26 (L : Nat) (xs : Nat → Int32) : ll_P L xs 20 26 = some (.inl (lo_getf 29 1 11)) := (P_20 L xs 26).trans rfl
theorem p_20_29 (L : Nat) (xs : Nat → Int32) : ll_P L xs 20 29 = some (.inl (lo_putf 32 1 11 1)) := (P_20 L xs 29).trans rfl
theorem p_20_32 (L : Nat) (xs : Nat → Int32) : ll_P L xs 20 32 = some (.inl (lo_aload 33 0)) := (P_20 L xs 32).trans rfl
theorem p_20_33 (L : Nat) (xs : Nat → Int32) : ll_P L xs 20 33 = some (.inl (lo_getf 36 1 6)) := (P_20 L xs 33).trans rfl
theorem p_20_36 (L : Nat) (xs : Nat → Int32) : ll_P L xs 20 36 = some (.inl (lo_aload 37 1)) := (P_20 L xs 36).trans rfl
theorem p_20_37 (L : Nat) (xs : Nat → Int32) : ll_P L xs 20 37 = some (.inl (lo_getf 40 1 6)) := (P_20 L xs 37).trans rfl
theorem p_20_40 (L : Nat) (xs : Nat → Int32) : ll_P L xs 20 40 = some (.inr (.inl (75, 2, 43))) := (P_20 L xs 40).trans rfl
theorem p_20_43 (L : Nat) (xs : Nat → Int32) : ll_P L xs 20 43 = some (.inl (lo_aload 44 1)) := (P_20 L xs 43).trans rfl
theorem p_20_44 (L : Nat) (xs : Nat → Int32) : ll_P L xs 20 44 = some (.inl (lo_getf 47 1 0)) := (P_20 L xs 44).trans rfl
theorem p_20_47 (L : Nat) (xs : Nat → Int32) : ll_P L xs 20 47 = some (.inl (lo_push 48 (.int 0))) := (P_20 L xs 47).trans rfl
theorem p_20_48 (L : Nat) (xs : Nat → Int32) : ll_P L xs 20 48 = some (.inl (lo_aload 49 0)) := (P_20 L xs 48).trans rfl
theorem p_20_49 (L : Nat) (xs : Nat → Int32) : ll_P L xs 20 49 = some (.inl (lo_getf 52 1 0)) := (P_20 L xs 49).trans rfl
theorem p_20_52 (L : Nat) (xs : Nat → Int32) : ll_P L xs 20 52 = some (.inl (lo_push 53 (.int 0))) := (P_20 L xs 52).trans rfl
theorem p_20_53 (L : Nat) (xs : Nat → Int32) : ll_P L xs 20 53 = some (.inl (lo_aload 54 0)) := (P_20 L xs 53).trans rfl
theorem p_20_54 (L : Nat) (xs : Nat → Int32) : ll_P L xs 20 54 = some (.inl (lo_getf 57 1 8)) := (P_20 L xs 54).trans rfl
theorem p_20_57 (L : Nat) (xs : Nat → Int32) : ll_P L xs 20 57 = some (.inl (lo_copy 60)) := (P_20 L xs 57).trans rfl
theorem p_20_60 (L : Nat) (xs : Nat → Int32) : ll_P L xs 20 60 = some (.inl (lo_aload 61 1)) := (P_20 L xs 60).trans rfl
theorem p_20_61 (L : Nat) (xs : Nat → Int32) : ll_P L xs 20 61 = some (.inl (lo_getf 64 1 1)) := (P_20 L xs 61).trans rfl
theorem p_20_64 (L : Nat) (xs : Nat → Int32) : ll_P L xs 20 64 = some (.inl (lo_push 65 (.int 0))) := (P_20 L xs 64).trans rfl
theorem p_20_65 (L : Nat) (xs : Nat → Int32) : ll_P L xs 20 65 = some (.inl (lo_aload 66 0)) := (P_20 L xs 65).trans rfl
theorem p_20_66 (L : Nat) (xs : Nat → Int32) : ll_P L xs 20 66 = some (.inl (lo_getf 69 1 1)) := (P_20 L xs 66).trans rfl
theorem p_20_69 (L : Nat) (xs : Nat → Int32) : ll_P L xs 20 69 = some (.inl (lo_push 70 (.int 0))) := (P_20 L xs 69).trans rfl
theorem p_20_70 (L : Nat) (xs : Nat → Int32) : ll_P L xs 20 70 = some (.inl (lo_aload 71 0)) := (P_20 L xs 70).trans rfl
theorem p_20_71 (L : Nat) (xs : Nat → Int32) : ll_P L xs 20 71 = some (.inl (lo_getf 74 1 8)) := (P_20 L xs 71).trans rfl
theorem p_20_74 (L : Nat) (xs : Nat → Int32) : ll_P L xs 20 74 = some (.inl (lo_copy 77)) := (P_20 L xs 74).trans rfl
theorem p_20_77 (L : Nat) (xs : Nat → Int32) : ll_P L xs 20 77 = some (.inl (lo_aload 78 1)) := (P_20 L xs 77).trans rfl
theorem p_20_78 (L : Nat) (xs : Nat → Int32) : ll_P L xs 20 78 = some (.inl (lo_getf 81 1 2)) := (P_20 L xs 78).trans rfl
theorem p_20_81 (L : Nat) (xs : Nat → Int32) : ll_P L xs 20 81 = some (.inl (lo_push 82 (.int 0))) := (P_20 L xs 81).trans rfl
theorem p_20_82 (L : Nat) (xs : Nat → Int32) : ll_P L xs 20 82 = some (.inl (lo_aload 83 0)) := (P_20 L xs 82).trans rfl
theorem p_20_83 (L : Nat) (xs : Nat → Int32) : ll_P L xs 20 83 = some (.inl (lo_getf 86 1 2)) := (P_20 L xs 83).trans rfl
theorem p_20_86 (L : Nat) (xs : Nat → Int32) : ll_P L xs 20 86 = some (.inl (lo_push 87 (.int 0))) := (P_20 L xs 86).trans rfl
theorem p_20_87 (L : Nat) (xs : Nat → Int32) : ll_P L xs 20 87 = some (.inl (lo_aload 88 0)) := (P_20 L xs 87).trans rfl
theorem p_20_88 (L : Nat) (xs : Nat → Int32) : ll_P L xs 20 88 = some (.inl (lo_getf 91 1 8)) := (P_20 L xs 88).trans rfl
theorem p_20_91 (L : Nat) (xs : Nat → Int32) : ll_P L xs 20 91 = some (.inl (lo_copy 94)) := (P_20 L xs 91).trans rfl
theorem p_20_94 (L : Nat) (xs : Nat → Int32) : ll_P L xs 20 94 = some (.inl (lo_aload 95 1)) := (P_20 L xs 94).trans rfl
theorem p_20_95 (L : Nat) (xs : Nat → Int32) : ll_P L xs 20 95 = some (.inl (lo_getf 98 1 3)) := (P_20 L xs 95).trans rfl
theorem p_20_98 (L : Nat) (xs : Nat → Int32) : ll_P L xs 20 98 = some (.inl (lo_push 99 (.int 0))) := (P_20 L xs 98).trans rfl
theorem p_20_99 (L : Nat) (xs : Nat → Int32) : ll_P L xs 20 99 = some (.inl (lo_aload 100 0)) := (P_20 L xs 99).trans rfl
theorem p_20_100 (L : Nat) (xs : Nat → Int32) : ll_P L xs 20 100 = some (.inl (lo_getf 103 1 3)) := (P_20 L xs 100).trans rfl
theorem p_20_103 (L : Nat) (xs : Nat → Int32) : ll_P L xs 20 103 = some (.inl (lo_push 104 (.int 0))) := (P_20 L xs 103).trans rfl
theorem p_20_104 (L : Nat) (xs : Nat → Int32) : ll_P L xs 20 104 = some (.inl (lo_aload 105 0)) := (P_20 L xs 104).trans rfl
theorem p_20_105 (L : Nat) (xs : Nat → Int32) : ll_P L xs 20 105 = some (.inl (lo_getf 108 1 8)) := (P_20 L xs 105).trans rfl
theorem p_20_108 (L : Nat) (xs : Nat → Int32) : ll_P L xs 20 108 = some (.inl (lo_copy 111)) := (P_20 L xs 108).trans rfl
theorem p_20_111 (L : Nat) (xs : Nat → Int32) : ll_P L xs 20 111 = some (.inl (lo_aload 112 1)) := (P_20 L xs 111).trans rfl
theorem p_20_112 (L : Nat) (xs : Nat → Int32) : ll_P L xs 20 112 = some (.inl (lo_getf 115 1 4)) := (P_20 L xs 112).trans rfl
theorem p_20_115 (L : Nat) (xs : Nat → Int32) : ll_P L xs 20 115 = some (.inl (lo_push 116 (.int 0))) := (P_20 L xs 115).trans rfl
theorem p_20_116 (L : Nat) (xs : Nat → Int32) : ll_P L xs 20 116 = some (.inl (lo_aload 117 0)) := (P_20 L xs 116).trans rfl
theorem p_20_117 (L : Nat) (xs : Nat → Int32) : ll_P L xs 20 117 = some (.inl (lo_getf 120 1 4)) := (P_20 L xs 117).trans rfl
theorem p_20_120 (L : Nat) (xs : Nat → Int32) : ll_P L xs 20 120 = some (.inl (lo_push 121 (.int 0))) := (P_20 L xs 120).trans rfl
theorem p_20_121 (L : Nat) (xs : Nat → Int32) : ll_P L xs 20 121 = some (.inl (lo_aload 122 0)) := (P_20 L xs 121).trans rfl
theorem p_20_122 (L : Nat) (xs : Nat → Int32) : ll_P L xs 20 122 = some (.inl (lo_getf 125 1 8)) := (P_20 L xs 122).trans rfl
theorem p_20_125 (L : Nat) (xs : Nat → Int32) : ll_P L xs 20 125 = some (.inl (lo_copy 128)) := (P_20 L xs 125).trans rfl
theorem p_20_128 (L : Nat) (xs : Nat → Int32) : ll_P L xs 20 128 = some (.inl (lo_aload 129 1)) := (P_20 L xs 128).trans rfl
theorem p_20_129 (L : Nat) (xs : Nat → Int32) : ll_P L xs 20 129 = some (.inl (lo_getf 132 1 5)) := (P_20 L xs 129).trans rfl
theorem p_20_132 (L : Nat) (xs : Nat → Int32) : ll_P L xs 20 132 = some (.inl (lo_push 133 (.int 0))) := (P_20 L xs 132).trans rfl
theorem p_20_133 (L : Nat) (xs : Nat → Int32) : ll_P L xs 20 133 = some (.inl (lo_aload 134 0)) := (P_20 L xs 133).trans rfl
theorem p_20_134 (L : Nat) (xs : Nat → Int32) : ll_P L xs 20 134 = some (.inl (lo_getf 137 1 5)) := (P_20 L xs 134).trans rfl
theorem p_20_137 (L : Nat) (xs : Nat → Int32) : ll_P L xs 20 137 = some (.inl (lo_push 138 (.int 0))) := (P_20 L xs 137).trans rfl
theorem p_20_138 (L : Nat) (xs : Nat → Int32) : ll_P L xs 20 138 = some (.inl (lo_aload 139 0)) := (P_20 L xs 138).trans rfl
theorem p_20_139 (L : Nat) (xs : Nat → Int32) : ll_P L xs 20 139 = some (.inl (lo_getf 142 1 9)) := (P_20 L xs 139).trans rfl
theorem p_20_142 (L : Nat) (xs : Nat → Int32) : ll_P L xs 20 142 = some (.inl (lo_copy 145)) := (P_20 L xs 142).trans rfl
theorem p_20_145 (L : Nat) (xs : Nat → Int32) : ll_P L xs 20 145 = some (.inr (.inr 0)) := (P_20 L xs 145).trans rfl
theorem b_20_0 {Y : sY} {d : Nat} {s : sT} {K : Option Int32 → sT → Prop} {r0 : Nat} {r1 : Nat} (h : (isO Y r1 1 ∧ (isO Y r0 1 ∧ tT Y (d + 1) 20 8 [.ref r0, .ref r1] [] (pV s r0 8 (s.1 r1 8)) K))) : tT Y (d + 1) 20 0 [.ref r0, .ref r1] [] s K :=
  (tt_aload (p_20_0 _ _) rfl).mpr ((tt_aload (p_20_1 _ _) rfl).mpr (t3_geti (p_20_2 _ _) (isI_1_8) h.1 ((t2_puti (p_20_5 _ _) isI_1_8 h.2.1).mpr (h.2.2))))
theorem b_20_8 {Y : sY} {d : Nat} {s : sT} {K : Option Int32 → sT → Prop} {r0 : Nat} {r1 : Nat} (h : (isO Y r1 1 ∧ (isO Y r0 1 ∧ tT Y (d + 1) 20 16 [.ref r0, .ref r1] [] (pV s r0 9 (s.1 r1 9)) K))) : tT Y (d + 1) 20 8 [.ref r0, .ref r1] [] s K :=
  (tt_aload (p_20_8 _ _) rfl).mpr ((tt_aload (p_20_9 _ _) rfl).mpr (t3_geti (p_20_10 _ _) (isI_1_9) h.1 ((t2_puti (p_20_13 _ _) isI_1_9 h.2.1).mpr (h.2.2))))
theorem b_20_16 {Y : sY} {d : Nat} {s : sT} {K : Option Int32 → sT → Prop} {r0 : Nat} {r1 : Nat} (h : (isO Y r1 1 ∧ (isO Y r0 1 ∧ tT Y (d + 1) 20 24 [.ref r0, .ref r1] [] (pV s r0 10 (s.1 r1 10)) K))) : tT Y (d + 1) 20 16 [.ref r0, .ref r1] [] s K :=
  (tt_aload (p_20_16 _ _) rfl).mpr ((tt_aload (p_20_17 _ _) rfl).mpr (t3_geti (p_20_18 _ _) (isI_1_10) h.1 ((t2_puti (p_20_21 _ _) isI_1_10 h.2.1).mpr (h.2.2))))
theorem b_20_24 {Y : sY} {d : Nat} {s : sT} {K : Option Int32 → sT → Prop} {r0 : Nat} {r1 : Nat} (h : (isO Y r1 1 ∧ (isO Y r0 1 ∧ ((s.1 r1 11) = 0 ∨ (s.1 r1 11) = 1) ∧ tT Y (d + 1) 20 32 [.ref r0, .ref r1] [] (pV s r0 11 (s.1 r1 11)) K))) : tT Y (d + 1) 20 24 [.ref r0, .ref r1] [] s K :=
  (tt_aload (p_20_24 _ _) rfl).mpr ((tt_aload (p_20_25 _ _) rfl).mpr (t3_geti (p_20_26 _ _) (isI_1_11) h.1 ((t2_putz (p_20_29 _ _) isI_1_11 h.2.1 h.2.2.1).mpr (h.2.2.2))))
theorem b_20_32 {Y : sY} {d : Nat} {s : sT} {K : Option Int32 → sT → Prop} {r0 : Nat} {r1 : Nat} (h : (∃ a1, (isO Y r0 1 ∧ s.2 r0 6 = some a1) ∧ (∃ a3, (isO Y r1 1 ∧ s.2 r1 6 = some a3) ∧ (isO Y a1 7 ∧ tT Y d 75 0 [.ref a1, .ref a3] [] s (fun r s1 => tT Y (d + 1) 20 43 [.ref r0, .ref r1] ((r.map Value.int).toList ++ []) s1 K))))) : tT Y (d + 1) 20 32 [.ref r0, .ref r1] [] s K :=
  (tt_aload (p_20_32 _ _) rfl).mpr (Exists.elim h (fun a1 h2 => t3_getr (p_20_33 _ _) (isI_1_6) h2.1.1 h2.1.2 ((tt_aload (p_20_36 _ _) rfl).mpr (Exists.elim h2.2 (fun a3 h4 => t3_getr (p_20_37 _ _) (isI_1_6) h4.1.1 h4.1.2 (t2_callv (z := 75) (k := 2) (i := a1) (as := [.ref a3]) (rest := []) (p_20_40 _ _) mK_75 mL_75 rfl rfl (Nat.le_of_ble_eq_true rfl) rfl (Nat.le_of_ble_eq_true rfl) h4.2.1 h4.2.2))))))
theorem b_20_43 {Y : sY} {d : Nat} {s : sT} {K : Option Int32 → sT → Prop} {r0 : Nat} {r1 : Nat} (h : (∃ a1, (isO Y r1 1 ∧ s.2 r1 0 = some a1) ∧ (∃ a3, (isO Y r0 1 ∧ s.2 r0 0 = some a3) ∧ (isO Y r0 1 ∧ (∃ m5 m6, (isA Y a1 0 m5 ∧ isA Y a3 0 m6 ∧ cpOK (0 : Int32) (0 : Int32) (s.1 r0 8) m5 m6) ∧ tT Y (d + 1) 20 60 [.ref r0, .ref r1] [] (pA s a3 (va_cpy (s.1 a1) (s.1 a3) ((0 : Int32)).toNatClampNeg ((0 : Int32)).toNatClampNeg ((s.1 r0 8)).toNatClampNeg)) K))))) : tT Y (d + 1) 20 43 [.ref r0, .ref r1] [] s K :=
  (tt_aload (p_20_43 _ _) rfl).mpr (Exists.elim h (fun a1 h2 => t3_getr (p_20_44 _ _) (isI_1_0) h2.1.1 h2.1.2 ((tt_push (p_20_47 _ _)).mpr ((tt_aload (p_20_48 _ _) rfl).mpr (Exists.elim h2.2 (fun a3 h4 => t3_getr (p_20_49 _ _) (isI_1_0) h4.1.1 h4.1.2 ((tt_push (p_20_52 _ _)).mpr ((tt_aload (p_20_53 _ _) rfl).mpr (t3_geti (p_20_54 _ _) (isI_1_8) h4.2.1 (Exists.elim h4.2.2 (fun m5 h7q0 => Exists.elim h7q0 (fun m6 h7 => t3_copy (p_20_57 _ _) h7.1.1 h7.1.2.1 h7.1.2.2 (Nat.le_of_ble_eq_true rfl) (h7.2)))))))))))))
theorem b_20_60 {Y : sY} {d : Nat} {s : sT} {K : Option Int32 → sT → Prop} {r0 : Nat} {r1 : Nat} (h : (∃ a1, (isO Y r1 1 ∧ s.2 r1 1 = some a1) ∧ (∃ a3, (isO Y r0 1 ∧ s.2 r0 1 = some a3) ∧ (isO Y r0 1 ∧ (∃ m5 m6, (isA Y a1 0 m5 ∧ isA Y a3 0 m6 ∧ cpOK (0 : Int32) (0 : Int32) (s.1 r0 8) m5 m6) ∧ tT Y (d + 1) 20 77 [.ref r0, .ref r1] [] (pA s a3 (va_cpy (s.1 a1) (s.1 a3) ((0 : Int32)).toNatClampNeg ((0 : Int32)).toNatClampNeg ((s.1 r0 8)).toNatClampNeg)) K))))) : tT Y (d + 1) 20 60 [.ref r0, .ref r1] [] s K :=
  (tt_aload (p_20_60 _ _) rfl).mpr (Exists.elim h (fun a1 h2 => t3_getr (p_20_61 _ _) (isI_1_1) h2.1.1 h2.1.2 ((tt_push (p_20_64 _ _)).mpr ((tt_aload (p_20_65 _ _) rfl).mpr (Exists.elim h2.2 (fun a3 h4 => t3_getr (p_20_66 _ _) (isI_1_1) h4.1.1 h4.1.2 ((tt_push (p_20_69 _ _)).mpr ((tt_aload (p_20_70 _ _) rfl).mpr (t3_geti (p_20_71 _ _) (isI_1_8) h4.2.1 (Exists.elim h4.2.2 (fun m5 h7q0 => Exists.elim h7q0 (fun m6 h7 => t3_copy (p_20_74 _ _) h7.1.1 h7.1.2.1 h7.1.2.2 (Nat.le_of_ble_eq_true rfl) (h7.2)))))))))))))
theorem b_20_77 {Y : sY} {d : Nat} {s : sT} {K : Option Int32 → sT → Prop} {r0 : Nat} {r1 : Nat} (h : (∃ a1, (isO Y r1 1 ∧ s.2 r1 2 = some a1) ∧ (∃ a3, (isO Y r0 1 ∧ s.2 r0 2 = some a3) ∧ (isO Y r0 1 ∧ (∃ m5 m6, (isA Y a1 0 m5 ∧ isA Y a3 0 m6 ∧ cpOK (0 : Int32) (0 : Int32) (s.1 r0 8) m5 m6) ∧ tT Y (d + 1) 20 94 [.ref r0, .ref r1] [] (pA s a3 (va_cpy (s.1 a1) (s.1 a3) ((0 : Int32)).toNatClampNeg ((0 : Int32)).toNatClampNeg ((s.1 r0 8)).toNatClampNeg)) K))))) : tT Y (d + 1) 20 77 [.ref r0, .ref r1] [] s K :=
  (tt_aload (p_20_77 _ _) rfl).mpr (Exists.elim h (fun a1 h2 => t3_getr (p_20_78 _ _) (isI_1_2) h2.1.1 h2.1.2 ((tt_push (p_20_81 _ _)).mpr ((tt_aload (p_20_82 _ _) rfl).mpr (Exists.elim h2.2 (fun a3 h4 => t3_getr (p_20_83 _ _) (isI_1_2) h4.1.1 h4.1.2 ((tt_push (p_20_86 _ _)).mpr ((tt_aload (p_20_87 _ _) rfl).mpr (t3_geti (p_20_88 _ _) (isI_1_8) h4.2.1 (Exists.elim h4.2.2 (fun m5 h7q0 => Exists.elim h7q0 (fun m6 h7 => t3_copy (p_20_91 _ _) h7.1.1 h7.1.2.1 h7.1.2.2 (Nat.le_of_ble_eq_true rfl) (h7.2)))))))))))))
theorem b_20_94 {Y : sY} {d : Nat} {s : sT} {K : Option Int32 → sT → Prop} {r0 : Nat} {r1 : Nat} (h : (∃ a1, (isO Y r1 1 ∧ s.2 r1 3 = some a1) ∧ (∃ a3, (isO Y r0 1 ∧ s.2 r0 3 = some a3) ∧ (isO Y r0 1 ∧ (∃ m5 m6, (isA Y a1 0 m5 ∧ isA Y a3 0 m6 ∧ cpOK (0 : Int32) (0 : Int32) (s.1 r0 8) m5 m6) ∧ tT Y (d + 1) 20 111 [.ref r0, .ref r1] [] (pA s a3 (va_cpy (s.1 a1) (s.1 a3) ((0 : Int32)).toNatClampNeg ((0 : Int32)).toNatClampNeg ((s.1 r0 8)).toNatClampNeg)) K))))) : tT Y (d + 1) 20 94 [.ref r0, .ref r1] [] s K :=
  (tt_aload (p_20_94 _ _) rfl).mpr (Exists.elim h (fun a1 h2 => t3_getr (p_20_95 _ _) (isI_1_3) h2.1.1 h2.1.2 ((tt_push (p_20_98 _ _)).mpr ((tt_aload (p_20_99 _ _) rfl).mpr (Exists.elim h2.2 (fun a3 h4 => t3_getr (p_20_100 _ _) (isI_1_3) h4.1.1 h4.1.2 ((tt_push (p_20_103 _ _)).mpr ((tt_aload (p_20_104 _ _) rfl).mpr (t3_geti (p_20_105 _ _) (isI_1_8) h4.2.1 (Exists.elim h4.2.2 (fun m5 h7q0 => Exists.elim h7q0 (fun m6 h7 => t3_copy (p_20_108 _ _) h7.1.1 h7.1.2.1 h7.1.2.2 (Nat.le_of_ble_eq_true rfl) (h7.2)))))))))))))
theorem b_20_111 {Y : sY} {d : Nat} {s : sT} {K : Option Int32 → sT → Prop} {r0 : Nat} {r1 : Nat} (h : (∃ a1, (isO Y r1 1 ∧ s.2 r1 4 = some a1) ∧ (∃ a3, (isO Y r0 1 ∧ s.2 r0 4 = some a3) ∧ (isO Y r0 1 ∧ (∃ m5 m6, (isA Y a1 0 m5 ∧ isA Y a3 0 m6 ∧ cpOK (0 : Int32) (0 : Int32) (s.1 r0 8) m5 m6) ∧ tT Y (d + 1) 20 128 [.ref r0, .ref r1] [] (pA s a3 (va_cpy (s.1 a1) (s.1 a3) ((0 : Int32)).toNatClampNeg ((0 : Int32)).toNatClampNeg ((s.1 r0 8)).toNatClampNeg)) K))))) : tT Y (d + 1) 20 111 [.ref r0, .ref r1] [] s K :=
  (tt_aload (p_20_111 _ _) rfl).mpr (Exists.elim h (fun a1 h2 => t3_getr (p_20_112 _ _) (isI_1_4) h2.1.1 h2.1.2 ((tt_push (p_20_115 _ _)).mpr ((tt_aload (p_20_116 _ _) rfl).mpr (Exists.elim h2.2 (fun a3 h4 => t3_getr (p_20_117 _ _) (isI_1_4) h4.1.1 h4.1.2 ((tt_push (p_20_120 _ _)).mpr ((tt_aload (p_20_121 _ _) rfl).mpr (t3_geti (p_20_122 _ _) (isI_1_8) h4.2.1 (Exists.elim h4.2.2 (fun m5 h7q0 => Exists.elim h7q0 (fun m6 h7 => t3_copy (p_20_125 _ _) h7.1.1 h7.1.2.1 h7.1.2.2 (Nat.le_of_ble_eq_true rfl) (h7.2)))))))))))))
theorem b_20_128 {Y : sY} {d : Nat} {s : sT} {K : Option Int32 → sT → Prop} {r0 : Nat} {r1 : Nat} (h : (∃ a1, (isO Y r1 1 ∧ s.2 r1 5 = some a1) ∧ (∃ a3, (isO Y r0 1 ∧ s.2 r0 5 = some a3) ∧ (isO Y r0 1 ∧ (∃ m5 m6, (isA Y a1 0 m5 ∧ isA Y a3 0 m6 ∧ cpOK (0 : Int32) (0 : Int32) (s.1 r0 9) m5 m6) ∧ tT Y (d + 1) 20 145 [.ref r0, .ref r1] [] (pA s a3 (va_cpy (s.1 a1) (s.1 a3) ((0 : Int32)).toNatClampNeg ((0 : Int32)).toNatClampNeg ((s.1 r0 9)).toNatClampNeg)) K))))) : tT Y (d + 1) 20 128 [.ref r0, .ref r1] [] s K :=
  (tt_aload (p_20_128 _ _) rfl).mpr (Exists.elim h (fun a1 h2 => t3_getr (p_20_129 _ _) (isI_1_5) h2.1.1 h2.1.2 ((tt_push (p_20_132 _ _)).mpr ((tt_aload (p_20_133 _ _) rfl).mpr (Exists.elim h2.2 (fun a3 h4 => t3_getr (p_20_134 _ _) (isI_1_5) h4.1.1 h4.1.2 ((tt_push (p_20_137 _ _)).mpr ((tt_aload (p_20_138 _ _) rfl).mpr (t3_geti (p_20_139 _ _) (isI_1_9) h4.2.1 (Exists.elim h4.2.2 (fun m5 h7q0 => Exists.elim h7q0 (fun m6 h7 => t3_copy (p_20_142 _ _) h7.1.1 h7.1.2.1 h7.1.2.2 (Nat.le_of_ble_eq_true rfl) (h7.2)))))))))))))
theorem b_20_145 {Y : sY} {d : Nat} {s : sT} {K : Option Int32 → sT → Prop} {r0 : Nat} {r1 : Nat} (h : K none s) : tT Y (d + 1) 20 145 [.ref r0, .ref r1] [] s K :=
  tt_ret0 (p_20_145 _ _) h
/-! InclusionProver$Reader.<init>.(LInclusionProver$Tree;LInclusionProver$Text;)V -/
theorem p_21_0 (L : Nat) (xs : Nat → Int32) : ll_P L xs 21 0 = some (.inl (lo_aload 1 0)) := (P_21 L xs 0).trans rfl
theorem p_21_1 (L : Nat) (xs : Nat → Int32) : ll_P L xs 21 1 = some (.inl (lo_init 4)) := (P_21 L xs 1).trans rfl
theorem p_21_4 (L : Nat) (xs : Nat → Int32) : ll_P L xs 21 4 = some (.inl (lo_aload 5 0)) := (P_21 L xs 4).trans rfl
theorem p_21_5 (L : Nat) (xs : Nat → Int32) : ll_P L xs 21 5 = some (.inl (lo_push 6 (.int (-1)))) := (P_21 L xs 5).trans rfl
theorem p_21_6 (L : Nat) (xs : Nat → Int32) : ll_P L xs 21 6 = some (.inl (lo_putf 9 2 4 0)) := (P_21 L xs 6).trans rfl
theorem p_21_9 (L : Nat) (xs : Nat → Int32) : ll_P L xs 21 9 = some (.inl (lo_aload 10 0)) := (P_21 L xs 9).trans rfl
theorem p_21_10 (L : Nat) (xs : Nat → Int32) : ll_P L xs 21 10 = some (.inl (lo_aload 11 1)) := (P_21 L xs 10).trans rfl
theorem p_21_11 (L : Nat) (xs : Nat → Int32) : ll_P L xs 21 11 = some (.inl (lo_putf 14 2 0 2)) := (P_21 L xs 11).trans rfl
theorem p_21_14 (L : Nat) (xs : Nat → Int32) : ll_P L xs 21 14 = some (.inl (lo_aload 15 0)) := (P_21 L xs 14).trans rfl
theorem p_21_15 (L : Nat) (xs : Nat → Int32) : ll_P L xs 21 15 = some (.inl (lo_aload 16 2)) := (P_21 L xs 15).trans rfl
theorem p_21_16 (L : Nat) (xs : Nat → Int32) : ll_P L xs 21 16 = some (.inl (lo_putf 19 2 1 2)) := (P_21 L xs 16).trans rfl
theorem p_21_19 (L : Nat) (xs : Nat → Int32) : ll_P L xs 21 19 = some (.inr (.inr 0)) := (P_21 L xs 19).trans rfl
/-! InclusionProver$Reader.read.(LInclusionProver$Text;I)I -/
theorem p_22_0 (L : Nat) (xs : Nat → Int32) : ll_P L xs 22 0 = some (.inl (lo_aload 1 0)) := (P_22 L xs 0).trans rfl
theorem p_22_1 (L : Nat) (xs : Nat → Int32) : ll_P L xs 22 1 = some (.inl (lo_aload 2 1)) := (P_22 L xs 1).trans rfl
theorem p_22_2 (L : Nat) (xs : Nat → Int32) : ll_P L xs 22 2 = some (.inl (lo_putf 5 2 1 2)) := (P_22 L xs 2).trans rfl
theorem p_22_5 (L : Nat) (xs : Nat → Int32) : ll_P L xs 22 5 = some (.inl (lo_aload 6 0)) := (P_22 L xs 5).trans rfl
theorem p_22_6 (L : Nat) (xs : Nat → Int32) : ll_P L xs 22 6 = some (.inl (lo_iload 7 2)) := (P_22 L xs 6).trans rfl
theorem p_22_7 (L : Nat) (xs : Nat → Int32) : ll_P L xs 22 7 = some (.inl (lo_putf 10 2 2 0)) := (P_22 L xs 7).trans rfl
theorem p_22_10 (L : Nat) (xs : Nat → Int32) : ll_P L xs 22 10 = some (.inl (lo_aload 11 0)) := (P_22 L xs 10).trans rfl
theorem p_22_11 (L : Nat) (xs : Nat → Int32) : ll_P L xs 22 11 = some (.inl (lo_push 12 (.int 0))) := (P_22 L xs 11).trans rfl
theorem p_22_12 (L : Nat) (xs : Nat → Int32) : ll_P L xs 22 12 = some (.inl (lo_putf 15 2 3 0)) := (P_22 L xs 12).trans rfl
theorem p_22_15 (L : Nat) (xs : Nat → Int32) : ll_P L xs 22 15 = some (.inl (lo_aload 16 0)) := (P_22 L xs 15).trans rfl
theorem p_22_16 (L : Nat) (xs : Nat → Int32) : ll_P L xs 22 16 = some (.inl (lo_push 17 (.int (-1)))) := (P_22 L xs 16).trans rfl
theorem p_22_17 (L : Nat) (xs : Nat → Int32) : ll_P L xs 22 17 = some (.inl (lo_putf 20 2 4 0)) := (P_22 L xs 17).trans rfl
theorem p_22_20 (L : Nat) (xs : Nat → Int32) : ll_P L xs 22 20 = some (.inl (lo_aload 21 0)) := (P_22 L xs 20).trans rfl
theorem p_22_21 (L : Nat) (xs : Nat → Int32) : ll_P L xs 22 21 = some (.inl (lo_getf 24 2 0)) := (P_22 L xs 21).trans rfl
theorem p_22_24 (L : Nat) (xs : Nat → Int32) : ll_P L xs 22 24 = some (.inr (.inl (80, 1, 27))) := (P_22 L xs 24).trans rfl
theorem p_22_27 (L : Nat) (xs : Nat → Int32) : ll_P L xs 22 27 = some (.inl (lo_aload 28 0)) := (P_22 L xs 27).trans rfl
theorem p_22_28 (L : Nat) (xs : Nat → Int32) : ll_P L xs 22 28 = some (.inl (lo_push 29 (.int 0))) := (P_22 L xs 28).trans rfl
theorem p_22_29 (L : Nat) (xs : Nat → Int32) : ll_P L xs 22 29 = some (.inr (.inl (23, 2, 32))) := (P_22 L xs 29).trans rfl
theorem p_22_32 (L : Nat) (xs : Nat → Int32) : ll_P L xs 22 32 = some (.inl (lo_istore 33 3)) := (P_22 L xs 32).trans rfl
theorem p_22_33 (L : Nat) (xs : Nat → Int32) : ll_P L xs 22 33 = some (.inl (lo_aload 34 0)) := (P_22 L xs 33).trans rfl
theorem p_22_34 (L : Nat) (xs : Nat → Int32) : ll_P L xs 22 34 = some (.inl (lo_getf 37 2 4)) := (P_22 L xs 34).trans rfl
theorem p_22_37 (L : Nat) (xs : Nat → Int32) : ll_P L xs 22 37 = some (.inl (lo_push 38 (.int (-1)))) := (P_22 L xs 37).trans rfl
theorem p_22_38 (L : Nat) (xs : Nat → Int32) : ll_P L xs 22 38 = some (.inl (lo_cmp 57 41 (fun x y => decide (¬ x = y)))) := (P_22 L xs 38).trans rfl
theorem p_22_41 (L : Nat) (xs : Nat → Int32) : ll_P L xs 22 41 = some (.inl (lo_aload 42 0)) := (P_22 L xs 41).trans rfl
theorem p_22_42 (L : Nat) (xs : Nat → Int32) : ll_P L xs 22 42 = some (.inr (.inl (27, 1, 45))) := (P_22 L xs 42).trans rfl
theorem p_22_45 (L : Nat) (xs : Nat → Int32) : ll_P L xs 22 45 = some (.inl (lo_push 46 (.int (-1)))) := (P_22 L xs 45).trans rfl
theorem p_22_46 (L : Nat) (xs : Nat → Int32) : ll_P L xs 22 46 = some (.inl (lo_cmp 57 49 (fun x y => decide (x = y)))) := (P_22 L xs 46).trans rfl
theorem p_22_49 (L : Nat) (xs : Nat → Int32) : ll_P L xs 22 49 = some (.inl (lo_aload 50 0)) := (P_22 L xs 49).trans rfl
theorem p_22_50 (L : Nat) (xs : Nat → Int32) : ll_P L xs 22 50 = some (.inl (lo_aload 51 0)) := (P_22 L xs 50).trans rfl
theorem p_22_51 (L : Nat) (xs : Nat → Int32) : ll_P L xs 22 51 = some (.inl (lo_getf 54 2 3)) := (P_22 L xs 51).trans rfl
theorem p_22_54 (L : Nat) (xs : Nat → Int32) : ll_P L xs 22 54 = some (.inl (lo_putf 57 2 4 0)) := (P_22 L xs 54).trans rfl
theorem p_22_57 (L : Nat) (xs : Nat → Int32) : ll_P L xs 22 57 = some (.inl (lo_aload 58 0)) := (P_22 L xs 57).trans rfl
theorem p_22_58 (L : Nat) (xs : Nat → Int32) : ll_P L xs 22 58 = some (.inl (lo_getf 61 2 4)) := (P_22 L xs 58).trans rfl
theorem p_22_61 (L : Nat) (xs : Nat → Int32) : ll_P L xs 22 61 = some (.inl (lo_push 62 (.int (-1)))) := (P_22 L xs 61).trans rfl
theorem p_22_62 (L : Nat) (xs : Nat → Int32) : ll_P L xs 22 62 = some (.inl (lo_cmp 69 65 (fun x y => decide (¬ x = y)))) := (P_22 L xs 62).trans rfl
theorem p_22_65 (L : Nat) (xs : Nat → Int32) : ll_P L xs 22 65 = some (.inl (lo_iload 66 3)) := (P_22 L xs 65).trans rfl
theorem p_22_66 (L : Nat) (xs : Nat → Int32) : ll_P L xs 22 66 = some (.inl (lo_goto 70)) := (P_22 L xs 66).trans rfl
theorem p_22_69 (L : Nat) (xs : Nat → Int32) : ll_P L xs 22 69 = some (.inl (lo_push 70 (.int (-1)))) := (P_22 L xs 69).trans rfl
theorem p_22_70 (L : Nat) (xs : Nat → Int32) : ll_P L xs 22 70 = some (.inr (.inr 1)) := (P_22 L xs 70).trans rfl
theorem b_22_0 {Y : sY} {d : Nat} {s : sT} {K : Option Int32 → sT → Prop} {r0 : Nat} {r1 : Nat} {x2 : Int32} (h : (isO Y r0 2 ∧ (isO Y r0 2 ∧ (isO Y r0 2 ∧ (isO Y r0 2 ∧ (∃ a1, (isO Y r0 2 ∧ (pV (pV (pV (pR s r0 1 (some r1)) r0 2 x2) r0 3 (0 : Int32)) r0 4 (-1 : Int32)).2 r0 0 = some a1) ∧ (isO Y a1 8 ∧ tT Y d 80 0 [.ref a1] [] (pV (pV (pV (pR s r0 1 (some r1)) r0 2 x2) r0 3 (0 : Int32)) r0 4 (-1 : Int32)) (fun r s1 => tT Y (d + 1) 22 27 [.ref r0, .ref r1, .int x2, .null] ((r.map Value.int).toList ++ []) s1 K)))))))) : tT Y (d + 1) 22 0 [.ref r0, .ref r1, .int x2, .null] [] s K :=
  (tt_aload (p_22_0 _ _) rfl).mpr ((tt_aload (p_22_1 _ _) rfl).mpr ((t2_putr (p_22_2 _ _) isI_2_1 h.1).mpr ((tt_aload (p_22_5 _ _) rfl).mpr ((tt_iload (p_22_6 _ _) rfl).mpr ((t2_puti (p_22_7 _ _) isI_2_2 h.2.1).mpr ((tt_aload (p_22_10 _ _) rfl).mpr ((tt_push (p_22_11 _ _)).mpr ((t2_puti (p_22_12 _ _) isI_2_3 h.2.2.1).mpr ((tt_aload (p_22_15 _ _) rfl).mpr ((tt_push (p_22_16 _ _)).mpr ((t2_puti (p_22_17 _ _) isI_2_4 h.2.2.2.1).mpr ((tt_aload (p_22_20 _ _) rfl).mpr (Exists.elim h.2.2.2.2 (fun a1 h2 => t3_getr (p_22_21 _ _) (isI_2_0) h2.1.1 h2.1.2 (t2_callv (z := 80) (k := 1) (i := a1) (as := []) (rest := []) (p_22_24 _ _) mK_80 mL_80 rfl rfl (Nat.le_of_ble_eq_true rfl) rfl (Nat.le_of_ble_eq_true rfl) h2.2.1 h2.2.2)))))))))))))))
theorem b_22_27 {Y : sY} {d : Nat} {s : sT} {K : Option Int32 → sT → Prop} {r0 : Nat} {r1 : Nat} {x2 : Int32} (h : (isO Y r0 2 ∧ tT Y d 23 0 [.ref r0, .int (0 : Int32), .null, .null, .null] [] s (fun r s1 => tT Y (d + 1) 22 32 [.ref r0, .ref r1, .int x2, .null] ((r.map Value.int).toList ++ []) s1 K))) : tT Y (d + 1) 22 27 [.ref r0, .ref r1, .int x2, .null] [] s K :=
  (tt_aload (p_22_27 _ _) rfl).mpr ((tt_push (p_22_28 _ _)).mpr (t2_callv (z := 23) (k := 2) (i := r0) (as := [.int (0 : Int32)]) (rest := []) (p_22_29 _ _) mK_23 mL_23 rfl rfl (Nat.le_of_ble_eq_true rfl) rfl (Nat.le_of_ble_eq_true rfl) h.1 h.2))
theorem b_22_32 {Y : sY} {d : Nat} {s : sT} {K : Option Int32 → sT → Prop} {r0 : Nat} {r1 : Nat} {x2 : Int32} {t0 : Int32} (h : (isO Y r0 2 ∧ (if ¬ (s.1 r0 4) = (-1 : Int32) then tT Y (d + 1) 22 57 [.ref r0, .ref r1, .int x2, .int t0] [] s K else (isO Y r0 2 ∧ tT Y d 27 0 [.ref r0] [] s (fun r s1 => tT Y (d + 1) 22 45 [.ref r0, .ref r1, .int x2, .int t0] ((r.map Value.int).toList ++ []) s1 K))))) : tT Y (d + 1) 22 32 [.ref r0, .ref r1, .int x2, .null] [.int t0] s K :=
  (tt_istore (p_22_32 _ _) (Nat.le_of_ble_eq_true rfl) rfl rfl).mpr ((tt_aload (p_22_33 _ _) rfl).mpr (t3_geti (p_22_34 _ _) (isI_2_4) h.1 ((tt_push (p_22_37 _ _)).mpr (t3_cmp (p := ¬ (s.1 r0 4) = (-1 : Int32)) (p_22_38 _ _) rfl (fun g1 => (ifp h.2 g1)) (fun g1 => (tt_aload (p_22_41 _ _) rfl).mpr (t2_callv (z := 27) (k := 1) (i := r0) (as := []) (rest := []) (p_22_42 _ _) mK_27 mL_27 rfl rfl (Nat.le_of_ble_eq_true rfl) rfl (Nat.le_of_ble_eq_true rfl) (ifn h.2 g1).1 (ifn h.2 g1).2))))))
theorem b_22_45 {Y : sY} {d : Nat} {s : sT} {K : Option Int32 → sT → Prop} {r0 : Nat} {r1 : Nat} {x2 : Int32} {x3 : Int32} {t0 : Int32} (h : (if t0 = (-1 : Int32) then tT Y (d + 1) 22 57 [.ref r0, .ref r1, .int x2, .int x3] [] s K else (isO Y r0 2 ∧ (isO Y r0 2 ∧ tT Y (d + 1) 22 57 [.ref r0, .ref r1, .int x2, .int x3] [] (pV s r0 4 (s.1 r0 3)) K)))) : tT Y (d + 1) 22 45 [.ref r0, .ref r1, .int x2, .int x3] [.int t0] s K :=
  (tt_push (p_22_45 _ _)).mpr (t3_cmp (p := t0 = (-1 : Int32)) (p_22_46 _ _) rfl (fun g1 => (ifp h g1)) (fun g1 => (tt_aload (p_22_49 _ _) rfl).mpr ((tt_aload (p_22_50 _ _) rfl).mpr (t3_geti (p_22_51 _ _) (isI_2_3) (ifn h g1).1 ((t2_puti (p_22_54 _ _) isI_2_4 (ifn h g1).2.1).mpr ((ifn h g1).2.2))))))
theorem b_22_57 {Y : sY} {d : Nat} {s : sT} {K : Option Int32 → sT → Prop} {r0 : Nat} {r1 : Nat} {x2 : Int32} {x3 : Int32} (h : (isO Y r0 2 ∧ (if ¬ (s.1 r0 4) = (-1 : Int32) then K (some (-1 : Int32)) s else K (some x3) s))) : tT Y (d + 1) 22 57 [.ref r0, .ref r1, .int x2, .int x3] [] s K :=
  (tt_aload (p_22_57 _ _) rfl).mpr (t3_geti (p_22_58 _ _) (isI_2_4) h.1 ((tt_push (p_22_61 _ _)).mpr (t3_cmp (p := ¬ (s.1 r0 4) = (-1 : Int32)) (p_22_62 _ _) rfl (fun g1 => (tt_push (p_22_69 _ _)).mpr (tt_ret1 (p_22_70 _ _) (ifp h.2 g1))) (fun g1 => (tt_iload (p_22_65 _ _) rfl).mpr ((tt_goto (p_22_66 _ _)).mpr (tt_ret1 (p_22_70 _ _) (ifn h.2 g1)))))))
/-! InclusionProver$Reader.readSum.(I)I -/
theorem p_23_0 (L : Nat) (xs : Nat → Int32) : ll_P L xs 23 0 = some (.inl (lo_aload 1 0)) := (P_23 L xs 0).trans rfl
theorem p_23_1 (L : Nat) (xs : Nat → Int32) : ll_P L xs 23 1 = some (.inl (lo_getf 4 2 0)) := (P_23 L xs 1).trans rfl
theorem p_23_4 (L : Nat) (xs : Nat → Int32) : ll_P L xs 23 4 = some (.inr (.inl (87, 1, 7))) := (P_23 L xs 4).trans rfl
theorem p_23_7 (L : Nat) (xs : Nat → Int32) : ll_P L xs 23 7 = some (.inl (lo_istore 8 2)) := (P_23 L xs 7).trans rfl
theorem p_23_8 (L : Nat) (xs : Nat → Int32) : ll_P L xs 23 8 = some (.inl (lo_push 9 (.int 1))) := (P_23 L xs 8).trans rfl
theorem p_23_9 (L : Nat) (xs : Nat → Int32) : ll_P L xs 23 9 = some (.inl (lo_istore 10 3)) := (P_23 L xs 9).trans rfl
theorem p_23_10 (L : Nat) (xs : Nat → Int32) : ll_P L xs 23 10 = some (.inl (lo_push 11 (.int 0))) := (P_23 L xs 10).trans rfl
theorem p_23_11 (L : Nat) (xs : Nat → Int32) : ll_P L xs 23 11 = some (.inl (lo_istore 13 4)) := (P_23 L xs 11).trans rfl
theorem p_23_13 (L : Nat) (xs : Nat → Int32) : ll_P L xs 23 13 = some (.inl (lo_iload 14 3)) := (P_23 L xs 13).trans rfl
theorem p_23_14 (L : Nat) (xs : Nat → Int32) : ll_P L xs 23 14 = some (.inl (lo_if 82 17 (fun x => decide (x = 0)))) := (P_23 L xs 14).trans rfl
theorem p_23_17 (L : Nat) (xs : Nat → Int32) : ll_P L xs 23 17 = some (.inl (lo_iload 19 4)) := (P_23 L xs 17).trans rfl
theorem p_23_19 (L : Nat) (xs : Nat → Int32) : ll_P L xs 23 19 = some (.inl (lo_aload 20 0)) := (P_23 L xs 19).trans rfl
theorem p_23_20 (L : Nat) (xs : Nat → Int32) : ll_P L xs 23 20 = some (.inl (lo_getf 23 2 2)) := (P_23 L xs 20).trans rfl
theorem p_23_23 (L : Nat) (xs : Nat → Int32) : ll_P L xs 23 23 = some (.inl (lo_cmp 82 26 (fun x y => decide (y < x)))) := (P_23 L xs 23).trans rfl
theorem p_23_26 (L : Nat) (xs : Nat → Int32) : ll_P L xs 23 26 = some (.inl (lo_aload 27 0)) := (P_23 L xs 26).trans rfl
theorem p_23_27 (L : Nat) (xs : Nat → Int32) : ll_P L xs 23 27 = some (.inl (lo_getf 30 2 0)) := (P_23 L xs 27).trans rfl
theorem p_23_30 (L : Nat) (xs : Nat → Int32) : ll_P L xs 23 30 = some (.inl (lo_iload 31 2)) := (P_23 L xs 30).trans rfl
theorem p_23_31 (L : Nat) (xs : Nat → Int32) : ll_P L xs 23 31 = some (.inl (lo_aload 32 0)) := (P_23 L xs 31).trans rfl
theorem p_23_32 (L : Nat) (xs : Nat → Int32) : ll_P L xs 23 32 = some (.inl (lo_iload 33 1)) := (P_23 L xs 32).trans rfl
theorem p_23_33 (L : Nat) (xs : Nat → Int32) : ll_P L xs 23 33 = some (.inr (.inl (24, 2, 36))) := (P_23 L xs 33).trans rfl
theorem p_23_36 (L : Nat) (xs : Nat → Int32) : ll_P L xs 23 36 = some (.inr (.inl (88, 3, 39))) := (P_23 L xs 36).trans rfl
theorem p_23_39 (L : Nat) (xs : Nat → Int32) : ll_P L xs 23 39 = some (.inl (lo_aload 40 0)) := (P_23 L xs 39).trans rfl
theorem p_23_40 (L : Nat) (xs : Nat → Int32) : ll_P L xs 23 40 = some (.inl (lo_getf 43 2 4)) := (P_23 L xs 40).trans rfl
theorem p_23_43 (L : Nat) (xs : Nat → Int32) : ll_P L xs 23 43 = some (.inl (lo_push 44 (.int (-1)))) := (P_23 L xs 43).trans rfl
theorem p_23_44 (L : Nat) (xs : Nat → Int32) : ll_P L xs 23 44 = some (.inl (lo_cmp 60 47 (fun x y => decide (¬ x = y)))) := (P_23 L xs 44).trans rfl
theorem p_23_47 (L : Nat) (xs : Nat → Int32) : ll_P L xs 23 47 = some (.inl (lo_aload 48 0)) := (P_23 L xs 47).trans rfl
theorem p_23_48 (L : Nat) (xs : Nat → Int32) : ll_P L xs 23 48 = some (.inr (.inl (27, 1, 51))) := (P_23 L xs 48).trans rfl
theorem p_23_51 (L : Nat) (xs : Nat → Int32) : ll_P L xs 23 51 = some (.inl (lo_push 53 (.int 43))) := (P_23 L xs 51).trans rfl
theorem p_23_53 (L : Nat) (xs : Nat → Int32) : ll_P L xs 23 53 = some (.inl (lo_cmp 60 56 (fun x y => decide (¬ x = y)))) := (P_23 L xs 53).trans rfl
theorem p_23_56 (L : Nat) (xs : Nat → Int32) : ll_P L xs 23 56 = some (.inl (lo_push 57 (.int 1))) := (P_23 L xs 56).trans rfl
theorem p_23_57 (L : Nat) (xs : Nat → Int32) : ll_P L xs 23 57 = some (.inl (lo_goto 61)) := (P_23 L xs 57).trans rfl
theorem p_23_60 (L : Nat) (xs : Nat → Int32) : ll_P L xs 23 60 = some (.inl (lo_push 61 (.int 0))) := (P_23 L xs 60).trans rfl
theorem p_23_61 (L : Nat) (xs : Nat → Int32) : ll_P L xs 23 61 = some (.inl (lo_istore 62 3)) := (P_23 L xs 61).trans rfl
theorem p_23_62 (L : Nat) (xs : Nat → Int32) : ll_P L xs 23 62 = some (.inl (lo_iload 63 3)) := (P_23 L xs 62).trans rfl
theorem p_23_63 (L : Nat) (xs : Nat → Int32) : ll_P L xs 23 63 = some (.inl (lo_if 76 66 (fun x => decide (x = 0)))) := (P_23 L xs 63).trans rfl
theorem p_23_66 (L : Nat) (xs : Nat → Int32) : ll_P L xs 23 66 = some (.inl (lo_aload 67 0)) := (P_23 L xs 66).trans rfl
theorem p_23_67 (L : Nat) (xs : Nat → Int32) : ll_P L xs 23 67 = some (.inl (lo_dup 68)) := (P_23 L xs 67).trans rfl
theorem p_23_68 (L : Nat) (xs : Nat → Int32) : ll_P L xs 23 68 = some (.inl (lo_getf 71 2 3)) := (P_23 L xs 68).trans rfl
theorem p_23_71 (L : Nat) (xs : Nat → Int32) : ll_P L xs 23 71 = some (.inl (lo_push 72 (.int 1))) := (P_23 L xs 71).trans rfl
theorem p_23_72 (L : Nat) (xs : Nat → Int32) : ll_P L xs 23 72 = some (.inl (lo_bin 73 (fun x y => x + y))) := (P_23 L xs 72).trans rfl
theorem p_23_73 (L : Nat) (xs : Nat → Int32) : ll_P L xs 23 73 = some (.inl (lo_putf 76 2 3 0)) := (P_23 L xs 73).trans rfl
theorem p_23_76 (L : Nat) (xs : Nat → Int32) : ll_P L xs 23 76 = some (.inl (lo_iinc 79 4 1)) := (P_23 L xs 76).trans rfl
theorem p_23_79 (L : Nat) (xs : Nat → Int32) : ll_P L xs 23 79 = some (.inl (lo_goto 13)) := (P_23 L xs 79).trans rfl
theorem p_23_82 (L : Nat) (xs : Nat → Int32) : ll_P L xs 23 82 = some (.inl (lo_aload 83 0)) := (P_23 L xs 82).trans rfl
theorem p_23_83 (L : Nat) (xs : Nat → Int32) : ll_P L xs 23 83 = some (.inl (lo_getf 86 2 0)) := (P_23 L xs 83).trans rfl
theorem p_23_86 (L : Nat) (xs : Nat → Int32) : ll_P L xs 23 86 = some (.inl (lo_iload 87 2)) := (P_23 L xs 86).trans rfl
theorem p_23_87 (L : Nat) (xs : Nat → Int32) : ll_P L xs 23 87 = some (.inr (.inl (90, 2, 90))) := (P_23 L xs 87).trans rfl
theorem p_23_90 (L : Nat) (xs : Nat → Int32) : ll_P L xs 23 90 = some (.inr (.inr 1)) := (P_23 L xs 90).trans rfl
theorem b_23_0 {Y : sY} {d : Nat} {s : sT} {K : Option Int32 → sT → Prop} {r0 : Nat} {x1 : Int32} (h : (∃ a1, (isO Y r0 2 ∧ s.2 r0 0 = some a1) ∧ (isO Y a1 8 ∧ tT Y d 87 0 [.ref a1] [] s (fun r s1 => tT Y (d + 1) 23 7 [.ref r0, .int x1, .null, .null, .null] ((r.map Value.int).toList ++ []) s1 K)))) : tT Y (d + 1) 23 0 [.ref r0, .int x1, .null, .null, .null] [] s K :=
  (tt_aload (p_23_0 _ _) rfl).mpr (Exists.elim h (fun a1 h2 => t3_getr (p_23_1 _ _) (isI_2_0) h2.1.1 h2.1.2 (t2_callv (z := 87) (k := 1) (i := a1) (as := []) (rest := []) (p_23_4 _ _) mK_87 mL_87 rfl rfl (Nat.le_of_ble_eq_true rfl) rfl (Nat.le_of_ble_eq_true rfl) h2.2.1 h2.2.2)))
theorem b_23_7 {Y : sY} {d : Nat} {s : sT} {K : Option Int32 → sT → Prop} {r0 : Nat} {x1 : Int32} {t0 : Int32} (h : tT Y (d + 1) 23 13 [.ref r0, .int x1, .int t0, .int (1 : Int32), .int (0 : Int32)] [] s K) : tT Y (d + 1) 23 7 [.ref r0, .int x1, .null, .null, .null] [.int t0] s K :=
  (tt_istore (p_23_7 _ _) (Nat.le_of_ble_eq_true rfl) rfl rfl).mpr ((tt_push (p_23_8 _ _)).mpr ((tt_istore (p_23_9 _ _) (Nat.le_of_ble_eq_true rfl) rfl rfl).mpr ((tt_push (p_23_10 _ _)).mpr ((tt_istore (p_23_11 _ _) (Nat.le_of_ble_eq_true rfl) rfl rfl).mpr (h)))))
theorem b_23_13 {Y : sY} {d : Nat} {s : sT} {K : Option Int32 → sT → Prop} {r0 : Nat} {x1 : Int32} {x2 : Int32} {x3 : Int32} {x4 : Int32} (h : (if x3 = 0 then tT Y (d + 1) 23 82 [.ref r0, .int x1, .int x2, .int x3, .int x4] [] s K else (isO Y r0 2 ∧ (if (s.1 r0 2) < x4 then tT Y (d + 1) 23 82 [.ref r0, .int x1, .int x2, .int x3, .int x4] [] s K else (∃ a3, (isO Y r0 2 ∧ s.2 r0 0 = some a3) ∧ (isO Y r0 2 ∧ tT Y d 24 0 [.ref r0, .int x1, .null, .null, .null] [] s (fun r s1 => tT Y (d + 1) 23 36 [.ref r0, .int x1, .int x2, .int x3, .int x4] ((r.map Value.int).toList ++ [.int x2, .ref a3]) s1 K))))))) : tT Y (d + 1) 23 13 [.ref r0, .int x1, .int x2, .int x3, .int x4] [] s K :=
  (tt_iload (p_23_13 _ _) rfl).mpr (t3_if (p := x3 = 0) (p_23_14 _ _) rfl (fun g1 => (ifp h g1)) (fun g1 => (tt_iload (p_23_17 _ _) rfl).mpr ((tt_aload (p_23_19 _ _) rfl).mpr (t3_geti (p_23_20 _ _) (isI_2_2) (ifn h g1).1 (t3_cmp (p := (s.1 r0 2) < x4) (p_23_23 _ _) rfl (fun g2 => (ifp (ifn h g1).2 g2)) (fun g2 => (tt_aload (p_23_26 _ _) rfl).mpr (Exists.elim (ifn (ifn h g1).2 g2) (fun a3 h4 => t3_getr (p_23_27 _ _) (isI_2_0) h4.1.1 h4.1.2 ((tt_iload (p_23_30 _ _) rfl).mpr ((tt_aload (p_23_31 _ _) rfl).mpr ((tt_iload (p_23_32 _ _) rfl).mpr (t2_callv (z := 24) (k := 2) (i := r0) (as := [.int x1]) (rest := [.int x2, .ref a3]) (p_23_33 _ _) mK_24 mL_24 rfl rfl (Nat.le_of_ble_eq_true rfl) rfl (Nat.le_of_ble_eq_true rfl) h4.2.1 h4.2.2))))))))))))
theorem b_23_36 {Y : sY} {d : Nat} {s : sT} {K : Option Int32 → sT → Prop} {r0 : Nat} {x1 : Int32} {x2 : Int32} {x3 : Int32} {x4 : Int32} {t0 : Nat} {t1 : Int32} {t2 : Int32} (h : (isO Y t0 8 ∧ tT Y d 88 0 [.ref t0, .int t1, .int t2, .null] [] s (fun r s1 => tT Y (d + 1) 23 39 [.ref r0, .int x1, .int x2, .int x3, .int x4] ((r.map Value.int).toList ++ []) s1 K))) : tT Y (d + 1) 23 36 [.ref r0, .int x1, .int x2, .int x3, .int x4] [.int t2, .int t1, .ref t0] s K :=
  t2_callv (z := 88) (k := 3) (i := t0) (as := [.int t1, .int t2]) (rest := []) (p_23_36 _ _) mK_88 mL_88 rfl rfl (Nat.le_of_ble_eq_true rfl) rfl (Nat.le_of_ble_eq_true rfl) h.1 h.2
theorem b_23_39 {Y : sY} {d : Nat} {s : sT} {K : Option Int32 → sT → Prop} {r0 : Nat} {x1 : Int32} {x2 : Int32} {x3 : Int32} {x4 : Int32} (h : (isO Y r0 2 ∧ (if ¬ (s.1 r0 4) = (-1 : Int32) then tT Y (d + 1) 23 60 [.ref r0, .int x1, .int x2, .int x3, .int x4] [] s K else (isO Y r0 2 ∧ tT Y d 27 0 [.ref r0] [] s (fun r s1 => tT Y (d + 1) 23 51 [.ref r0, .int x1, .int x2, .int x3, .int x4] ((r.map Value.int).toList ++ []) s1 K))))) : tT Y (d + 1) 23 39 [.ref r0, .int x1, .int x2, .int x3, .int x4] [] s K :=
  (tt_aload (p_23_39 _ _) rfl).mpr (t3_geti (p_23_40 _ _) (isI_2_4) h.1 ((tt_push (p_23_43 _ _)).mpr (t3_cmp (p := ¬ (s.1 r0 4) = (-1 : Int32)) (p_23_44 _ _) rfl (fun g1 => (ifp h.2 g1)) (fun g1 => (tt_aload (p_23_47 _ _) rfl).mpr (t2_callv (z := 27) (k := 1) (i := r0) (as := []) (rest := []) (p_23_48 _ _) mK_27 mL_27 rfl rfl (Nat.le_of_ble_eq_true rfl) rfl (Nat.le_of_ble_eq_true rfl) (ifn h.2 g1).1 (ifn h.2 g1).2)))))
theorem b_23_51 {Y : sY} {d : Nat} {s : sT} {K : Option Int32 → sT → Prop} {r0 : Nat} {x1 : Int32} {x2 : Int32} {x3 : Int32} {x4 : Int32} {t0 : Int32} (h : (if ¬ t0 = (43 : Int32) then tT Y (d + 1) 23 60 [.ref r0, .int x1, .int x2, .int x3, .int x4] [] s K else tT Y (d + 1) 23 61 [.ref r0, .int x1, .int x2, .int x3, .int x4] [.int (1 : Int32)] s K)) : tT Y (d + 1) 23 51 [.ref r0, .int x1, .int x2, .int x3, .int x4] [.int t0] s K :=
  (tt_push (p_23_51 _ _)).mpr (t3_cmp (p := ¬ t0 = (43 : Int32)) (p_23_53 _ _) rfl (fun g1 => (ifp h g1)) (fun g1 => (tt_push (p_23_56 _ _)).mpr ((tt_goto (p_23_57 _ _)).mpr ((ifn h g1)))))
theorem b_23_60 {Y : sY} {d : Nat} {s : sT} {K : Option Int32 → sT → Prop} {r0 : Nat} {x1 : Int32} {x2 : Int32} {x3 : Int32} {x4 : Int32} (h : tT Y (d + 1) 23 61 [.ref r0, .int x1, .int x2, .int x3, .int x4] [.int (0 : Int32)] s K) : tT Y (d + 1) 23 60 [.ref r0, .int x1, .int x2, .int x3, .int x4] [] s K :=
  (tt_push (p_23_60 _ _)).mpr (h)
theorem b_23_61 {Y : sY} {d : Nat} {s : sT} {K : Option Int32 → sT → Prop} {r0 : Nat} {x1 : Int32} {x2 : Int32} {x3 : Int32} {x4 : Int32} {t0 : Int32} (h : (if t0 = 0 then tT Y (d + 1) 23 76 [.ref r0, .int x1, .int x2, .int t0, .int x4] [] s K else (isO Y r0 2 ∧ (isO Y r0 2 ∧ tT Y (d + 1) 23 76 [.ref r0, .int x1, .int x2, .int t0, .int x4] [] (pV s r0 3 ((s.1 r0 3) + (1 : Int32))) K)))) : tT Y (d + 1) 23 61 [.ref r0, .int x1, .int x2, .int x3, .int x4] [.int t0] s K :=
  (tt_istore (p_23_61 _ _) (Nat.le_of_ble_eq_true rfl) rfl rfl).mpr ((tt_iload (p_23_62 _ _) rfl).mpr (t3_if (p := t0 = 0) (p_23_63 _ _) rfl (fun g1 => (ifp h g1)) (fun g1 => (tt_aload (p_23_66 _ _) rfl).mpr ((tt_dupr (p_23_67 _ _)).mpr (t3_geti (p_23_68 _ _) (isI_2_3) (ifn h g1).1 ((tt_push (p_23_71 _ _)).mpr ((tt_bin (p_23_72 _ _)).mpr ((t2_puti (p_23_73 _ _) isI_2_3 (ifn h g1).2.1).mpr ((ifn h g1).2.2)))))))))
theorem b_23_76 {Y : sY} {d : Nat} {s : sT} {K : Option Int32 → sT → Prop} {r0 : Nat} {x1 : Int32} {x2 : Int32} {x3 : Int32} {x4 : Int32} (h : tT Y (d + 1) 23 13 [.ref r0, .int x1, .int x2, .int x3, .int (x4 + 1)] [] s K) : tT Y (d + 1) 23 76 [.ref r0, .int x1, .int x2, .int x3, .int x4] [] s K :=
  (tt_iinc (p_23_76 _ _) rfl rfl rfl).mpr ((tt_goto (p_23_79 _ _)).mpr (h))
theorem b_23_82 {Y : sY} {d : Nat} {s : sT} {K : Option Int32 → sT → Prop} {r0 : Nat} {x1 : Int32} {x2 : Int32} {x3 : Int32} {x4 : Int32} (h : (∃ a1, (isO Y r0 2 ∧ s.2 r0 0 = some a1) ∧ (isO Y a1 8 ∧ tT Y d 90 0 [.ref a1, .int x2] [] s (fun r s1 => tT Y (d + 1) 23 90 [.ref r0, .int x1, .int x2, .int x3, .int x4] ((r.map Value.int).toList ++ []) s1 K)))) : tT Y (d + 1) 23 82 [.ref r0, .int x1, .int x2, .int x3, .int x4] [] s K :=
  (tt_aload (p_23_82 _ _) rfl).mpr (Exists.elim h (fun a1 h2 => t3_getr (p_23_83 _ _) (isI_2_0) h2.1.1 h2.1.2 ((tt_iload (p_23_86 _ _) rfl).mpr (t2_callv (z := 90) (k := 2) (i := a1) (as := [.int x2]) (rest := []) (p_23_87 _ _) mK_90 mL_90 rfl rfl (Nat.le_of_ble_eq_true rfl) rfl (Nat.le_of_ble_eq_true rfl) h2.2.1 h2.2.2))))
theorem b_23_90 {Y : sY} {d : Nat} {s : sT} {K : Option Int32 → sT → Prop} {r0 : Nat} {x1 : Int32} {x2 : Int32} {x3 : Int32} {x4 : Int32} {t0 : Int32} (h : K (some t0) s) : tT Y (d + 1) 23 90 [.ref r0, .int x1, .int x2, .int x3, .int x4] [.int t0] s K :=
  tt_ret1 (p_23_90 _ _) h
/-! InclusionProver$Reader.readProduct.(I)I -/
theorem p_24_0 (L : Nat) (xs : Nat → Int32) : ll_P L xs 24 0 = some (.inl (lo_aload 1 0)) := (P_24 L xs 0).trans rfl
theorem p_24_1 (L : Nat) (xs : Nat → Int32) : ll_P L xs 24 1 = some (.inl (lo_getf 4 2 0)) := (P_24 L xs 1).trans rfl
theorem p_24_4 (L : Nat) (xs : Nat → Int32) : ll_P L xs 24 4 = some (.inr (.inl (87, 1, 7))) := (P_24 L xs 4).trans rfl
theorem p_24_7 (L : Nat) (xs : Nat → Int32) : ll_P L xs 24 7 = some (.inl (lo_istore 8 2)) := (P_24 L xs 7).trans rfl
theorem p_24_8 (L : Nat) (xs : Nat → Int32) : ll_P L xs 24 8 = some (.inl (lo_push 9 (.int 1))) := (P_24 L xs 8).trans rfl
theorem p_24_9 (L : Nat) (xs : Nat → Int32) : ll_P L xs 24 9 = some (.inl (lo_istore 10 3)) := (P_24 L xs 9).trans rfl
theorem p_24_10 (L : Nat) (xs : Nat → Int32) : ll_P L xs 24 10 = some (.inl (lo_push 11 (.int 0))) := (P_24 L xs 10).trans rfl
theorem p_24_11 (L : Nat) (xs : Nat → Int32) : ll_P L xs 24 11 = some (.inl (lo_istore 13 4)) := (P_24 L xs 11).trans rfl
theorem p_24_13 (L : Nat) (xs : Nat → Int32) : ll_P L xs 24 13 = some (.inl (lo_iload 14 3)) := (P_24 L xs 13).trans rfl
theorem p_24_14 (L : Nat) (xs : Nat → Int32) : ll_P L xs 24 14 = some (.inl (lo_if 68 17 (fun x => decide (x = 0)))) := (P_24 L xs 14).trans rfl
theorem p_24_17 (L : Nat) (xs : Nat → Int32) : ll_P L xs 24 17 = some (.inl (lo_iload 19 4)) := (P_24 L xs 17).trans rfl
theorem p_24_19 (L : Nat) (xs : Nat → Int32) : ll_P L xs 24 19 = some (.inl (lo_aload 20 0)) := (P_24 L xs 19).trans rfl
theorem p_24_20 (L : Nat) (xs : Nat → Int32) : ll_P L xs 24 20 = some (.inl (lo_getf 23 2 2)) := (P_24 L xs 20).trans rfl
theorem p_24_23 (L : Nat) (xs : Nat → Int32) : ll_P L xs 24 23 = some (.inl (lo_cmp 68 26 (fun x y => decide (y < x)))) := (P_24 L xs 23).trans rfl
theorem p_24_26 (L : Nat) (xs : Nat → Int32) : ll_P L xs 24 26 = some (.inl (lo_aload 27 0)) := (P_24 L xs 26).trans rfl
theorem p_24_27 (L : Nat) (xs : Nat → Int32) : ll_P L xs 24 27 = some (.inl (lo_getf 30 2 0)) := (P_24 L xs 27).trans rfl
theorem p_24_30 (L : Nat) (xs : Nat → Int32) : ll_P L xs 24 30 = some (.inl (lo_aload 31 0)) := (P_24 L xs 30).trans rfl
theorem p_24_31 (L : Nat) (xs : Nat → Int32) : ll_P L xs 24 31 = some (.inl (lo_iload 32 1)) := (P_24 L xs 31).trans rfl
theorem p_24_32 (L : Nat) (xs : Nat → Int32) : ll_P L xs 24 32 = some (.inr (.inl (25, 2, 35))) := (P_24 L xs 32).trans rfl
theorem p_24_35 (L : Nat) (xs : Nat → Int32) : ll_P L xs 24 35 = some (.inr (.inl (89, 2, 38))) := (P_24 L xs 35).trans rfl
theorem p_24_38 (L : Nat) (xs : Nat → Int32) : ll_P L xs 24 38 = some (.inl (lo_aload 39 0)) := (P_24 L xs 38).trans rfl
theorem p_24_39 (L : Nat) (xs : Nat → Int32) : ll_P L xs 24 39 = some (.inl (lo_getf 42 2 4)) := (P_24 L xs 39).trans rfl
theorem p_24_42 (L : Nat) (xs : Nat → Int32) : ll_P L xs 24 42 = some (.inl (lo_push 43 (.int (-1)))) := (P_24 L xs 42).trans rfl
theorem p_24_43 (L : Nat) (xs : Nat → Int32) : ll_P L xs 24 43 = some (.inl (lo_cmp 60 46 (fun x y => decide (¬ x = y)))) := (P_24 L xs 43).trans rfl
theorem p_24_46 (L : Nat) (xs : Nat → Int32) : ll_P L xs 24 46 = some (.inl (lo_aload 47 0)) := (P_24 L xs 46).trans rfl
theorem p_24_47 (L : Nat) (xs : Nat → Int32) : ll_P L xs 24 47 = some (.inr (.inl (27, 1, 50))) := (P_24 L xs 47).trans rfl
theorem p_24_50 (L : Nat) (xs : Nat → Int32) : ll_P L xs 24 50 = some (.inr (.inl (28, 1, 53))) := (P_24 L xs 50).trans rfl
theorem p_24_53 (L : Nat) (xs : Nat → Int32) : ll_P L xs 24 53 = some (.inl (lo_if 60 56 (fun x => decide (x = 0)))) := (P_24 L xs 53).trans rfl
theorem p_24_56 (L : Nat) (xs : Nat → Int32) : ll_P L xs 24 56 = some (.inl (lo_push 57 (.int 1))) := (P_24 L xs 56).trans rfl
theorem p_24_57 (L : Nat) (xs : Nat → Int32) : ll_P L xs 24 57 = some (.inl (lo_goto 61)) := (P_24 L xs 57).trans rfl
theorem p_24_60 (L : Nat) (xs : Nat → Int32) : ll_P L xs 24 60 = some (.inl (lo_push 61 (.int 0))) := (P_24 L xs 60).trans rfl
theorem p_24_61 (L : Nat) (xs : Nat → Int32) : ll_P L xs 24 61 = some (.inl (lo_istore 62 3)) := (P_24 L xs 61).trans rfl
theorem p_24_62 (L : Nat) (xs : Nat → Int32) : ll_P L xs 24 62 = some (.inl (lo_iinc 65 4 1)) := (P_24 L xs 62).trans rfl
theorem p_24_65 (L : Nat) (xs : Nat → Int32) : ll_P L xs 24 65 = some (.inl (lo_goto 13)) := (P_24 L xs 65).trans rfl
theorem p_24_68 (L : Nat) (xs : Nat → Int32) : ll_P L xs 24 68 = some (.inl (lo_aload 69 0)) := (P_24 L xs 68).trans rfl
theorem p_24_69 (L : Nat) (xs : Nat → Int32) : ll_P L xs 24 69 = some (.inl (lo_getf 72 2 0)) := (P_24 L xs 69).trans rfl
theorem p_24_72 (L : Nat) (xs : Nat → Int32) : ll_P L xs 24 72 = some (.inl (lo_iload 73 2)) := (P_24 L xs 72).trans rfl
theorem p_24_73 (L : Nat) (xs : Nat → Int32) : ll_P L xs 24 73 = some (.inr (.inl (91, 2, 76))) := (P_24 L xs 73).trans rfl
theorem p_24_76 (L : Nat) (xs : Nat → Int32) : ll_P L xs 24 76 = some (.inr (.inr 1)) := (P_24 L xs 76).trans rfl
theorem b_24_0 {Y : sY} {d : Nat} {s : sT} {K : Option Int32 → sT → Prop} {r0 : Nat} {x1 : Int32} (h : (∃ a1, (isO Y r0 2 ∧ s.2 r0 0 = some a1) ∧ (isO Y a1 8 ∧ tT Y d 87 0 [.ref a1] [] s (fun r s1 => tT Y (d + 1) 24 7 [.ref r0, .int x1, .null, .null, .null] ((r.map Value.int).toList ++ []) s1 K)))) : tT Y (d + 1) 24 0 [.ref r0, .int x1, .null, .null, .null] [] s K :=
  (tt_aload (p_24_0 _ _) rfl).mpr (Exists.elim h (fun a1 h2 => t3_getr (p_24_1 _ _) (isI_2_0) h2.1.1 h2.1.2 (t2_callv (z := 87) (k := 1) (i := a1) (as := []) (rest := []) (p_24_4 _ _) mK_87 mL_87 rfl rfl (Nat.le_of_ble_eq_true rfl) rfl (Nat.le_of_ble_eq_true rfl) h2.2.1 h2.2.2)))
theorem b_24_7 {Y : sY} {d : Nat} {s : sT} {K : Option Int32 → sT → Prop} {r0 : Nat} {x1 : Int32} {t0 : Int32} (h : tT Y (d + 1) 24 13 [.ref r0, .int x1, .int t0, .int (1 : Int32), .int (0 : Int32)] [] s K) : tT Y (d + 1) 24 7 [.ref r0, .int x1, .null, .null, .null] [.int t0] s K :=
  (tt_istore (p_24_7 _ _) (Nat.le_of_ble_eq_true rfl) rfl rfl).mpr ((tt_push (p_24_8 _ _)).mpr ((tt_istore (p_24_9 _ _) (Nat.le_of_ble_eq_true rfl) rfl rfl).mpr ((tt_push (p_24_10 _ _)).mpr ((tt_istore (p_24_11 _ _) (Nat.le_of_ble_eq_true rfl) rfl rfl).mpr (h)))))
theorem b_24_13 {Y : sY} {d : Nat} {s : sT} {K : Option Int32 → sT → Prop} {r0 : Nat} {x1 : Int32} {x2 : Int32} {x3 : Int32} {x4 : Int32} (h : (if x3 = 0 then tT Y (d + 1) 24 68 [.ref r0, .int x1, .int x2, .int x3, .int x4] [] s K else (isO Y r0 2 ∧ (if (s.1 r0 2) < x4 then tT Y (d + 1) 24 68 [.ref r0, .int x1, .int x2, .int x3, .int x4] [] s K else (∃ a3, (isO Y r0 2 ∧ s.2 r0 0 = some a3) ∧ (isO Y r0 2 ∧ tT Y d 25 0 [.ref r0, .int x1, .null, .null] [] s (fun r s1 => tT Y (d + 1) 24 35 [.ref r0, .int x1, .int x2, .int x3, .int x4] ((r.map Value.int).toList ++ [.ref a3]) s1 K))))))) : tT Y (d + 1) 24 13 [.ref r0, .int x1, .int x2, .int x3, .int x4] [] s K :=
  (tt_iload (p_24_13 _ _) rfl).mpr (t3_if (p := x3 = 0) (p_24_14 _ _) rfl (fun g1 => (ifp h g1)) (fun g1 => (tt_iload (p_24_17 _ _) rfl).mpr ((tt_aload (p_24_19 _ _) rfl).mpr (t3_geti (p_24_20 _ _) (isI_2_2) (ifn h g1).1 (t3_cmp (p := (s.1 r0 2) < x4) (p_24_23 _ _) rfl (fun g2 => (ifp (ifn h g1).2 g2)) (fun g2 => (tt_aload (p_24_26 _ _) rfl).mpr (Exists.elim (ifn (ifn h g1).2 g2) (fun a3 h4 => t3_getr (p_24_27 _ _) (isI_2_0) h4.1.1 h4.1.2 ((tt_aload (p_24_30 _ _) rfl).mpr ((tt_iload (p_24_31 _ _) rfl).mpr (t2_callv (z := 25) (k := 2) (i := r0) (as := [.int x1]) (rest := [.ref a3]) (p_24_32 _ _) mK_25 mL_25 rfl rfl (Nat.le_of_ble_eq_true rfl) rfl (Nat.le_of_ble_eq_true rfl) h4.2.1 h4.2.2)))))))))))
theorem b_24_35 {Y : sY} {d : Nat} {s : sT} {K : Option Int32 → sT → Prop} {r0 : Nat} {x1 : Int32} {x2 : Int32} {x3 : Int32} {x4 : Int32} {t0 : Nat} {t1 : Int32} (h : (isO Y t0 8 ∧ tT Y d 89 0 [.ref t0, .int t1, .null] [] s (fun r s1 => tT Y (d + 1) 24 38 [.ref r0, .int x1, .int x2, .int x3, .int x4] ((r.map Value.int).toList ++ []) s1 K))) : tT Y (d + 1) 24 35 [.ref r0, .int x1, .int x2, .int x3, .int x4] [.int t1, .ref t0] s K :=
  t2_callv (z := 89) (k := 2) (i := t0) (as := [.int t1]) (rest := []) (p_24_35 _ _) mK_89 mL_89 rfl rfl (Nat.le_of_ble_eq_true rfl) rfl (Nat.le_of_ble_eq_true rfl) h.1 h.2
theorem b_24_38 {Y : sY} {d : Nat} {s : sT} {K : Option Int32 → sT → Prop} {r0 : Nat} {x1 : Int32} {x2 : Int32} {x3 : Int32} {x4 : Int32} (h : (isO Y r0 2 ∧ (if ¬ (s.1 r0 4) = (-1 : Int32) then tT Y (d + 1) 24 60 [.ref r0, .int x1, .int x2, .int x3, .int x4] [] s K else (isO Y r0 2 ∧ tT Y d 27 0 [.ref r0] [] s (fun r s1 => tT Y (d + 1) 24 50 [.ref r0, .int x1, .int x2, .int x3, .int x4] ((r.map Value.int).toList ++ []) s1 K))))) : tT Y (d + 1) 24 38 [.ref r0, .int x1, .int x2, .int x3, .int x4] [] s K :=
  (tt_aload (p_24_38 _ _) rfl).mpr (t3_geti (p_24_39 _ _) (isI_2_4) h.1 ((tt_push (p_24_42 _ _)).mpr (t3_cmp (p := ¬ (s.1 r0 4) = (-1 : Int32)) (p_24_43 _ _) rfl (fun g1 => (ifp h.2 g1)) (fun g1 => (tt_aload (p_24_46 _ _) rfl).mpr (t2_callv (z := 27) (k := 1) (i := r0) (as := []) (rest := []) (p_24_47 _ _) mK_27 mL_27 rfl rfl (Nat.le_of_ble_eq_true rfl) rfl (Nat.le_of_ble_eq_true rfl) (ifn h.2 g1).1 (ifn h.2 g1).2)))))
theorem b_24_50 {Y : sY} {d : Nat} {s : sT} {K : Option Int32 → sT → Prop} {r0 : Nat} {x1 : Int32} {x2 : Int32} {x3 : Int32} {x4 : Int32} {t0 : Int32} (h : tT Y d 28 0 [.int t0] [] s (fun r s1 => tT Y (d + 1) 24 53 [.ref r0, .int x1, .int x2, .int x3, .int x4] ((r.map Value.int).toList ++ []) s1 K)) : tT Y (d + 1) 24 50 [.ref r0, .int x1, .int x2, .int x3, .int x4] [.int t0] s K :=
  t2_calls (z := 28) (k := 1) (as := [.int t0]) (rest := []) (p_24_50 _ _) mK_28 mL_28 rfl rfl (Nat.le_of_ble_eq_true rfl) rfl (Nat.le_of_ble_eq_true rfl) h
theorem b_24_53 {Y : sY} {d : Nat} {s : sT} {K : Option Int32 → sT → Prop} {r0 : Nat} {x1 : Int32} {x2 : Int32} {x3 : Int32} {x4 : Int32} {t0 : Int32} (h : (if t0 = 0 then tT Y (d + 1) 24 60 [.ref r0, .int x1, .int x2, .int x3, .int x4] [] s K else tT Y (d + 1) 24 61 [.ref r0, .int x1, .int x2, .int x3, .int x4] [.int (1 : Int32)] s K)) : tT Y (d + 1) 24 53 [.ref r0, .int x1, .int x2, .int x3, .int x4] [.int t0] s K :=
  t3_if (p := t0 = 0) (p_24_53 _ _) rfl (fun g1 => (ifp h g1)) (fun g1 => (tt_push (p_24_56 _ _)).mpr ((tt_goto (p_24_57 _ _)).mpr ((ifn h g1))))
theorem b_24_60 {Y : sY} {d : Nat} {s : sT} {K : Option Int32 → sT → Prop} {r0 : Nat} {x1 : Int32} {x2 : Int32} {x3 : Int32} {x4 : Int32} (h : tT Y (d + 1) 24 61 [.ref r0, .int x1, .int x2, .int x3, .int x4] [.int (0 : Int32)] s K) : tT Y (d + 1) 24 60 [.ref r0, .int x1, .int x2, .int x3, .int x4] [] s K :=
  (tt_push (p_24_60 _ _)).mpr (h)
theorem b_24_61 {Y : sY} {d : Nat} {s : sT} {K : Option Int32 → sT → Prop} {r0 : Nat} {x1 : Int32} {x2 : Int32} {x3 : Int32} {x4 : Int32} {t0 : Int32} (h : tT Y (d + 1) 24 13 [.ref r0, .int x1, .int x2, .int t0, .int (x4 + 1)] [] s K) : tT Y (d + 1) 24 61 [.ref r0, .int x1, .int x2, .int x3, .int x4] [.int t0] s K :=
  (tt_istore (p_24_61 _ _) (Nat.le_of_ble_eq_true rfl) rfl rfl).mpr ((tt_iinc (p_24_62 _ _) rfl rfl rfl).mpr ((tt_goto (p_24_65 _ _)).mpr (h)))
theorem b_24_68 {Y : sY} {d : Nat} {s : sT} {K : Option Int32 → sT → Prop} {r0 : Nat} {x1 : Int32} {x2 : Int32} {x3 : Int32} {x4 : Int32} (h : (∃ a1, (isO Y r0 2 ∧ s.2 r0 0 = some a1) ∧ (isO Y a1 8 ∧ tT Y d 91 0 [.ref a1, .int x2, .null] [] s (fun r s1 => tT Y (d + 1) 24 76 [.ref r0, .int x1, .int x2, .int x3, .int x4] ((r.map Value.int).toList ++ []) s1 K)))) : tT Y (d + 1) 24 68 [.ref r0, .int x1, .int x2, .int x3, .int x4] [] s K :=
  (tt_aload (p_24_68 _ _) rfl).mpr (Exists.elim h (fun a1 h2 => t3_getr (p_24_69 _ _) (isI_2_0) h2.1.1 h2.1.2 ((tt_iload (p_24_72 _ _) rfl).mpr (t2_callv (z := 91) (k := 2) (i := a1) (as := [.int x2]) (rest := []) (p_24_73 _ _) mK_91 mL_91 rfl rfl (Nat.le_of_ble_eq_true rfl) rfl (Nat.le_of_ble_eq_true rfl) h2.2.1 h2.2.2))))
theorem b_24_76 {Y : sY} {d : Nat} {s : sT} {K : Option Int32 → sT → Prop} {r0 : Nat} {x1 : Int32} {x2 : Int32} {x3 : Int32} {x4 : Int32} {t0 : Int32} (h : K (some t0) s) : tT Y (d + 1) 24 76 [.ref r0, .int x1, .int x2, .int x3, .int x4] [.int t0] s K :=
  tt_ret1 (p_24_76 _ _) h
/-! InclusionProver$Reader.readFactor.(I)I -/
theorem p_25_0 (L : Nat) (xs : Nat → Int32) : ll_P L xs 25 0 = some (.inl (lo_aload 1 0)) := (P_25 L xs 0).trans rfl
theorem p_25_1 (L : Nat) (xs : Nat → Int32) : ll_P L xs 25 1 = some (.inl (lo_iload 2 1)) := (P_25 L xs 1).trans rfl
theorem p_25_2 (L : Nat) (xs : Nat → Int32) : ll_P L xs 25 2 = some (.inr (.inl (26, 2, 5))) := (P_25 L xs 2).trans rfl
theorem p_25_5 (L : Nat) (xs : Nat → Int32) : ll_P L xs 25 5 = some (.inl (lo_istore 6 2)) := (P_25 L xs 5).trans rfl
theorem p_25_6 (L : Nat) (xs : Nat → Int32) : ll_P L xs 25 6 = some (.inl (lo_push 7 (.int 0))) := (P_25 L xs 6).trans rfl
theorem p_25_7 (L : Nat) (xs : Nat → Int32) : ll_P L xs 25 7 = some (.inl (lo_istore 8 3)) := (P_25 L xs 7).trans rfl
theorem p_25_8 (L : Nat) (xs : Nat → Int32) : ll_P L xs 25 8 = some (.inl (lo_iload 9 3)) := (P_25 L xs 8).trans rfl
theorem p_25_9 (L : Nat) (xs : Nat → Int32) : ll_P L xs 25 9 = some (.inl (lo_aload 10 0)) := (P_25 L xs 9).trans rfl
theorem p_25_10 (L : Nat) (xs : Nat → Int32) : ll_P L xs 25 10 = some (.inl (lo_getf 13 2 2)) := (P_25 L xs 10).trans rfl
theorem p_25_13 (L : Nat) (xs : Nat → Int32) : ll_P L xs 25 13 = some (.inl (lo_cmp 58 16 (fun x y => decide (y < x)))) := (P_25 L xs 13).trans rfl
theorem p_25_16 (L : Nat) (xs : Nat → Int32) : ll_P L xs 25 16 = some (.inl (lo_aload 17 0)) := (P_25 L xs 16).trans rfl
theorem p_25_17 (L : Nat) (xs : Nat → Int32) : ll_P L xs 25 17 = some (.inl (lo_getf 20 2 4)) := (P_25 L xs 17).trans rfl
theorem p_25_20 (L : Nat) (xs : Nat → Int32) : ll_P L xs 25 20 = some (.inl (lo_push 21 (.int (-1)))) := (P_25 L xs 20).trans rfl
theorem p_25_21 (L : Nat) (xs : Nat → Int32) : ll_P L xs 25 21 = some (.inl (lo_cmp 58 24 (fun x y => decide (¬ x = y)))) := (P_25 L xs 21).trans rfl
theorem p_25_24 (L : Nat) (xs : Nat → Int32) : ll_P L xs 25 24 = some (.inl (lo_aload 25 0)) := (P_25 L xs 24).trans rfl
theorem p_25_25 (L : Nat) (xs : Nat → Int32) : ll_P L xs 25 25 = some (.inr (.inl (27, 1, 28))) := (P_25 L xs 25).trans rfl
theorem p_25_28 (L : Nat) (xs : Nat → Int32) : ll_P L xs 25 28 = some (.inl (lo_push 30 (.int 42))) := (P_25 L xs 28).trans rfl
theorem p_25_30 (L : Nat) (xs : Nat → Int32) : ll_P L xs 25 30 = some (.inl (lo_cmp 58 33 (fun x y => decide (¬ x = y)))) := (P_25 L xs 30).trans rfl
theorem p_25_33 (L : Nat) (xs : Nat → Int32) : ll_P L xs 25 33 = some (.inl (lo_aload 34 0)) := (P_25 L xs 33).trans rfl
theorem p_25_34 (L : Nat) (xs : Nat → Int32) : ll_P L xs 25 34 = some (.inl (lo_dup 35)) := (P_25 L xs 34).trans rfl
theorem p_25_35 (L : Nat) (xs : Nat → Int32) : ll_P L xs 25 35 = some (.inl (lo_getf 38 2 3)) := (P_25 L xs 35).trans rfl
theorem p_25_38 (L : Nat) (xs : Nat → Int32) : ll_P L xs 25 38 = some (.inl (lo_push 39 (.int 1))) := (P_25 L xs 38).trans rfl
theorem p_25_39 (L : Nat) (xs : Nat → Int32) : ll_P L xs 25 39 = some (.inl (lo_bin 40 (fun x y => x + y))) := (P_25 L xs 39).trans rfl
theorem p_25_40 (L : Nat) (xs : Nat → Int32) : ll_P L xs 25 40 = some (.inl (lo_putf 43 2 3 0)) := (P_25 L xs 40).trans rfl
theorem p_25_43 (L : Nat) (xs : Nat → Int32) : ll_P L xs 25 43 = some (.inl (lo_aload 44 0)) := (P_25 L xs 43).trans rfl
theorem p_25_44 (L : Nat) (xs : Nat → Int32) : ll_P L xs 25 44 = some (.inl (lo_getf 47 2 0)) := (P_25 L xs 44).trans rfl
theorem p_25_47 (L : Nat) (xs : Nat → Int32) : ll_P L xs 25 47 = some (.inl (lo_iload 48 2)) := (P_25 L xs 47).trans rfl
theorem p_25_48 (L : Nat) (xs : Nat → Int32) : ll_P L xs 25 48 = some (.inr (.inl (92, 2, 51))) := (P_25 L xs 48).trans rfl
theorem p_25_51 (L : Nat) (xs : Nat → Int32) : ll_P L xs 25 51 = some (.inl (lo_istore 52 2)) := (P_25 L xs 51).trans rfl
theorem p_25_52 (L : Nat) (xs : Nat → Int32) : ll_P L xs 25 52 = some (.inl (lo_iinc 55 3 1)) := (P_25 L xs 52).trans rfl
theorem p_25_55 (L : Nat) (xs : Nat → Int32) : ll_P L xs 25 55 = some (.inl (lo_goto 8)) := (P_25 L xs 55).trans rfl
theorem p_25_58 (L : Nat) (xs : Nat → Int32) : ll_P L xs 25 58 = some (.inl (lo_iload 59 2)) := (P_25 L xs 58).trans rfl
theorem p_25_59 (L : Nat) (xs : Nat → Int32) : ll_P L xs 25 59 = some (.inr (.inr 1)) := (P_25 L xs 59).trans rfl
theorem b_25_0 {Y : sY} {d : Nat} {s : sT} {K : Option Int32 → sT → Prop} {r0 : Nat} {x1 : Int32} (h : (isO Y r0 2 ∧ tT Y d 26 0 [.ref r0, .int x1, .null, .null] [] s (fun r s1 => tT Y (d + 1) 25 5 [.ref r0, .int x1, .null, .null] ((r.map Value.int).toList ++ []) s1 K))) : tT Y (d + 1) 25 0 [.ref r0, .int x1, .null, .null] [] s K :=
  (tt_aload (p_25_0 _ _) rfl).mpr ((tt_iload (p_25_1 _ _) rfl).mpr (t2_callv (z := 26) (k := 2) (i := r0) (as := [.int x1]) (rest := []) (p_25_2 _ _) mK_26 mL_26 rfl rfl (Nat.le_of_ble_eq_true rfl) rfl (Nat.le_of_ble_eq_true rfl) h.1 h.2))
theorem b_25_5 {Y : sY} {d : Nat} {s : sT} {K : Option Int32 → sT → Prop} {r0 : Nat} {x1 : Int32} {t0 : Int32} (h : tT Y (d + 1) 25 8 [.ref r0, .int x1, .int t0, .int (0 : Int32)] [] s K) : tT Y (d + 1) 25 5 [.ref r0, .int x1, .null, .null] [.int t0] s K :=
  (tt_istore (p_25_5 _ _) (Nat.le_of_ble_eq_true rfl) rfl rfl).mpr ((tt_push (p_25_6 _ _)).mpr ((tt_istore (p_25_7 _ _) (Nat.le_of_ble_eq_true rfl) rfl rfl).mpr (h)))
theorem b_25_8 {Y : sY} {d : Nat} {s : sT} {K : Option Int32 → sT → Prop} {r0 : Nat} {x1 : Int32} {x2 : Int32} {x3 : Int32} (h : (isO Y r0 2 ∧ (if (s.1 r0 2) < x3 then K (some x2) s else (isO Y r0 2 ∧ (if ¬ (s.1 r0 4) = (-1 : Int32) then K (some x2) s else (isO Y r0 2 ∧ tT Y d 27 0 [.ref r0] [] s (fun r s1 => tT Y (d + 1) 25 28 [.ref r0, .int x1, .int x2, .int x3] ((r.map Value.int).toList ++ []) s1 K))))))) : tT Y (d + 1) 25 8 [.ref r0, .int x1, .int x2, .int x3] [] s K :=
  (tt_iload (p_25_8 _ _) rfl).mpr ((tt_aload (p_25_9 _ _) rfl).mpr (t3_geti (p_25_10 _ _) (isI_2_2) h.1 (t3_cmp (p := (s.1 r0 2) < x3) (p_25_13 _ _) rfl (fun g1 => (tt_iload (p_25_58 _ _) rfl).mpr (tt_ret1 (p_25_59 _ _) (ifp h.2 g1))) (fun g1 => (tt_aload (p_25_16 _ _) rfl).mpr (t3_geti (p_25_17 _ _) (isI_2_4) (ifn h.2 g1).1 ((tt_push (p_25_20 _ _)).mpr (t3_cmp (p := ¬ (s.1 r0 4) = (-1 : Int32)) (p_25_21 _ _) rfl (fun g2 => (tt_iload (p_25_58 _ _) rfl).mpr (tt_ret1 (p_25_59 _ _) (ifp (ifn h.2 g1).2 g2))) (fun g2 => (tt_aload (p_25_24 _ _) rfl).mpr (t2_callv (z := 27) (k := 1) (i := r0) (as := []) (rest := []) (p_25_25 _ _) mK_27 mL_27 rfl rfl (Nat.le_of_ble_eq_true rfl) rfl (Nat.le_of_ble_eq_true rfl) (ifn (ifn h.2 g1).2 g2).1 (ifn (ifn h.2 g1).2 g2).2)))))))))
theorem b_25_28 {Y : sY} {d : Nat} {s : sT} {K : Option Int32 → sT → Prop} {r0 : Nat} {x1 : Int32} {x2 : Int32} {x3 : Int32} {t0 : Int32} (h : (if ¬ t0 = (42 : Int32) then K (some x2) s else (isO Y r0 2 ∧ (isO Y r0 2 ∧ (∃ a2, (isO Y r0 2 ∧ (pV s r0 3 ((s.1 r0 3) + (1 : Int32))).2 r0 0 = some a2) ∧ (isO Y a2 8 ∧ tT Y d 92 0 [.ref a2, .int x2, .null, .null] [] (pV s r0 3 ((s.1 r0 3) + (1 : Int32))) (fun r s1 => tT Y (d + 1) 25 51 [.ref r0, .int x1, .int x2, .int x3] ((r.map Value.int).toList ++ []) s1 K))))))) : tT Y (d + 1) 25 28 [.ref r0, .int x1, .int x2, .int x3] [.int t0] s K :=
  (tt_push (p_25_28 _ _)).mpr (t3_cmp (p := ¬ t0 = (42 : Int32)) (p_25_30 _ _) rfl (fun g1 => (tt_iload (p_25_58 _ _) rfl).mpr (tt_ret1 (p_25_59 _ _) (ifp h g1))) (fun g1 => (tt_aload (p_25_33 _ _) rfl).mpr ((tt_dupr (p_25_34 _ _)).mpr (t3_geti (p_25_35 _ _) (isI_2_3) (ifn h g1).1 ((tt_push (p_25_38 _ _)).mpr ((tt_bin (p_25_39 _ _)).mpr ((t2_puti (p_25_40 _ _) isI_2_3 (ifn h g1).2.1).mpr ((tt_aload (p_25_43 _ _) rfl).mpr (Exists.elim (ifn h g1).2.2 (fun a2 h3 => t3_getr (p_25_44 _ _) (isI_2_0) h3.1.1 h3.1.2 ((tt_iload (p_25_47 _ _) rfl).mpr (t2_callv (z := 92) (k := 2) (i := a2) (as := [.int x2]) (rest := []) (p_25_48 _ _) mK_92 mL_92 rfl rfl (Nat.le_of_ble_eq_true rfl) rfl (Nat.le_of_ble_eq_true rfl) h3.2.1 h3.2.2))))))))))))
theorem b_25_51 {Y : sY} {d : Nat} {s : sT} {K : Option Int32 → sT → Prop} {r0 : Nat} {x1 : Int32} {x2 : Int32} {x3 : Int32} {t0 : Int32} (h : tT Y (d + 1) 25 8 [.ref r0, .int x1, .int t0, .int (x3 + 1)] [] s K) : tT Y (d + 1) 25 51 [.ref r0, .int x1, .int x2, .int x3] [.int t0] s K :=
  (tt_istore (p_25_51 _ _) (Nat.le_of_ble_eq_true rfl) rfl rfl).mpr ((tt_iinc (p_25_52 _ _) rfl rfl rfl).mpr ((tt_goto (p_25_55 _ _)).mpr (h)))
/-! InclusionProver$Reader.readAtom.(I)I -/
theorem p_26_0 (L : Nat) (xs : Nat → Int32) : ll_P L xs 26 0 = some (.inl (lo_aload 1 0)) := (P_26 L xs 0).trans rfl
theorem p_26_1 (L : Nat) (xs : Nat → Int32) : ll_P L xs 26 1 = some (.inr (.inl (27, 1, 4))) := (P_26 L xs 1).trans rfl
theorem p_26_4 (L : Nat) (xs : Nat → Int32) : ll_P L xs 26 4 = some (.inl (lo_istore 5 2)) := (P_26 L xs 4).trans rfl
theorem p_26_5 (L : Nat) (xs : Nat → Int32) : ll_P L xs 26 5 = some (.inl (lo_iload 6 2)) := (P_26 L xs 5).trans rfl
theorem p_26_6 (L : Nat) (xs : Nat → Int32) : ll_P L xs 26 6 = some (.inr (.inl (28, 1, 9))) := (P_26 L xs 6).trans rfl
theorem p_26_9 (L : Nat) (xs : Nat → Int32) : ll_P L xs 26 9 = some (.inl (lo_if 18 12 (fun x => decide (x = 0)))) := (P_26 L xs 9).trans rfl
theorem p_26_12 (L : Nat) (xs : Nat → Int32) : ll_P L xs 26 12 = some (.inl (lo_iload 13 1)) := (P_26 L xs 12).trans rfl
theorem p_26_13 (L : Nat) (xs : Nat → Int32) : ll_P L xs 26 13 = some (.inl (lo_push 15 (.int 40))) := (P_26 L xs 13).trans rfl
theorem p_26_15 (L : Nat) (xs : Nat → Int32) : ll_P L xs 26 15 = some (.inl (lo_cmp 28 18 (fun x y => decide (x ≤ y)))) := (P_26 L xs 15).trans rfl
theorem p_26_18 (L : Nat) (xs : Nat → Int32) : ll_P L xs 26 18 = some (.inl (lo_aload 19 0)) := (P_26 L xs 18).trans rfl
theorem p_26_19 (L : Nat) (xs : Nat → Int32) : ll_P L xs 26 19 = some (.inl (lo_aload 20 0)) := (P_26 L xs 19).trans rfl
theorem p_26_20 (L : Nat) (xs : Nat → Int32) : ll_P L xs 26 20 = some (.inl (lo_getf 23 2 3)) := (P_26 L xs 20).trans rfl
theorem p_26_23 (L : Nat) (xs : Nat → Int32) : ll_P L xs 26 23 = some (.inl (lo_putf 26 2 4 0)) := (P_26 L xs 23).trans rfl
theorem p_26_26 (L : Nat) (xs : Nat → Int32) : ll_P L xs 26 26 = some (.inl (lo_push 27 (.int 0))) := (P_26 L xs 26).trans rfl
theorem p_26_27 (L : Nat) (xs : Nat → Int32) : ll_P L xs 26 27 = some (.inr (.inr 1)) := (P_26 L xs 27).trans rfl
theorem p_26_28 (L : Nat) (xs : Nat → Int32) : ll_P L xs 26 28 = some (.inl (lo_aload 29 0)) := (P_26 L xs 28).trans rfl
theorem p_26_29 (L : Nat) (xs : Nat → Int32) : ll_P L xs 26 29 = some (.inl (lo_dup 30)) := (P_26 L xs 29).trans rfl
theorem p_26_30 (L : Nat) (xs : Nat → Int32) : ll_P L xs 26 30 = some (.inl (lo_getf 33 2 3)) := (P_26 L xs 30).trans rfl
theorem p_26_33 (L : Nat) (xs : Nat → Int32) : ll_P L xs 26 33 = some (.inl (lo_push 34 (.int 1))) := (P_26 L xs 33).trans rfl
theorem p_26_34 (L : Nat) (xs : Nat → Int32) : ll_P L xs 26 34 = some (.inl (lo_bin 35 (fun x y => x + y))) := (P_26 L xs 34).trans rfl
theorem p_26_35 (L : Nat) (xs : Nat → Int32) : ll_P L xs 26 35 = some (.inl (lo_putf 38 2 3 0)) := (P_26 L xs 35).trans rfl
theorem p_26_38 (L : Nat) (xs : Nat → Int32) : ll_P L xs 26 38 = some (.inl (lo_iload 39 2)) := (P_26 L xs 38).trans rfl
theorem p_26_39 (L : Nat) (xs : Nat → Int32) : ll_P L xs 26 39 = some (.inl (lo_push 41 (.int 40))) := (P_26 L xs 39).trans rfl
theorem p_26_41 (L : Nat) (xs : Nat → Int32) : ll_P L xs 26 41 = some (.inl (lo_cmp 66 44 (fun x y => decide (x = y)))) := (P_26 L xs 41).trans rfl
theorem p_26_44 (L : Nat) (xs : Nat → Int32) : ll_P L xs 26 44 = some (.inl (lo_iload 45 2)) := (P_26 L xs 44).trans rfl
theorem p_26_45 (L : Nat) (xs : Nat → Int32) : ll_P L xs 26 45 = some (.inl (lo_push 47 (.int 97))) := (P_26 L xs 45).trans rfl
theorem p_26_47 (L : Nat) (xs : Nat → Int32) : ll_P L xs 26 47 = some (.inl (lo_cmp 59 50 (fun x y => decide (y ≤ x)))) := (P_26 L xs 47).trans rfl
theorem p_26_50 (L : Nat) (xs : Nat → Int32) : ll_P L xs 26 50 = some (.inl (lo_push 51 (.int 0))) := (P_26 L xs 50).trans rfl
theorem p_26_51 (L : Nat) (xs : Nat → Int32) : ll_P L xs 26 51 = some (.inl (lo_iload 52 2)) := (P_26 L xs 51).trans rfl
theorem p_26_52 (L : Nat) (xs : Nat → Int32) : ll_P L xs 26 52 = some (.inl (lo_bin 53 (fun x y => x + y))) := (P_26 L xs 52).trans rfl
theorem p_26_53 (L : Nat) (xs : Nat → Int32) : ll_P L xs 26 53 = some (.inl (lo_push 55 (.int 48))) := (P_26 L xs 53).trans rfl
theorem p_26_55 (L : Nat) (xs : Nat → Int32) : ll_P L xs 26 55 = some (.inl (lo_bin 56 (fun x y => x - y))) := (P_26 L xs 55).trans rfl
theorem p_26_56 (L : Nat) (xs : Nat → Int32) : ll_P L xs 26 56 = some (.inl (lo_goto 65)) := (P_26 L xs 56).trans rfl
theorem p_26_59 (L : Nat) (xs : Nat → Int32) : ll_P L xs 26 59 = some (.inl (lo_push 60 (.int 2))) := (P_26 L xs 59).trans rfl
theorem p_26_60 (L : Nat) (xs : Nat → Int32) : ll_P L xs 26 60 = some (.inl (lo_iload 61 2)) := (P_26 L xs 60).trans rfl
theorem p_26_61 (L : Nat) (xs : Nat → Int32) : ll_P L xs 26 61 = some (.inl (lo_bin 62 (fun x y => x + y))) := (P_26 L xs 61).trans rfl
theorem p_26_62 (L : Nat) (xs : Nat → Int32) : ll_P L xs 26 62 = some (.inl (lo_push 64 (.int 97))) := (P_26 L xs 62).trans rfl
theorem p_26_64 (L : Nat) (xs : Nat → Int32) : ll_P L xs 26 64 = some (.inl (lo_bin 65 (fun x y => x - y))) := (P_26 L xs 64).trans rfl
theorem p_26_65 (L : Nat) (xs : Nat → Int32) : ll_P L xs 26 65 = some (.inr (.inr 1)) := (P_26 L xs 65).trans rfl
theorem p_26_66 (L : Nat) (xs : Nat → Int32) : ll_P L xs 26 66 = some (.inl (lo_aload 67 0)) := (P_26 L xs 66).trans rfl
theorem p_26_67 (L : Nat) (xs : Nat → Int32) : ll_P L xs 26 67 = some (.inl (lo_iload 68 1)) := (P_26 L xs 67).trans rfl
theorem p_26_68 (L : Nat) (xs : Nat → Int32) : ll_P L xs 26 68 = some (.inl (lo_push 69 (.int 1))) := (P_26 L xs 68).trans rfl
theorem p_26_69 (L : Nat) (xs : Nat → Int32) : ll_P L xs 26 69 = some (.inl (lo_bin 70 (fun x y => x + y))) := (P_26 L xs 69).trans rfl
theorem p_26_70 (L : Nat) (xs : Nat → Int32) : ll_P L xs 26 70 = some (.inr (.inl (23, 2, 73))) := (P_26 L xs 70).trans rfl
theorem p_26_73 (L : Nat) (xs : Nat → Int32) : ll_P L xs 26 73 = some (.inl (lo_istore 74 3)) := (P_26 L xs 73).trans rfl
theorem p_26_74 (L : Nat) (xs : Nat → Int32) : ll_P L xs 26 74 = some (.inl (lo_aload 75 0)) := (P_26 L xs 74).trans rfl
theorem p_26_75 (L : Nat) (xs : Nat → Int32) : ll_P L xs 26 75 = some (.inl (lo_getf 78 2 4)) := (P_26 L xs 75).trans rfl
theorem p_26_78 (L : Nat) (xs : Nat → Int32) : ll_P L xs 26 78 = some (.inl (lo_push 79 (.int (-1)))) := (P_26 L xs 78).trans rfl
theorem p_26_79 (L : Nat) (xs : Nat → Int32) : ll_P L xs 26 79 = some (.inl (lo_cmp 112 82 (fun x y => decide (¬ x = y)))) := (P_26 L xs 79).trans rfl
theorem p_26_82 (L : Nat) (xs : Nat → Int32) : ll_P L xs 26 82 = some (.inl (lo_aload 83 0)) := (P_26 L xs 82).trans rfl
theorem p_26_83 (L : Nat) (xs : Nat → Int32) : ll_P L xs 26 83 = some (.inr (.inl (27, 1, 86))) := (P_26 L xs 83).trans rfl
theorem p_26_86 (L : Nat) (xs : Nat → Int32) : ll_P L xs 26 86 = some (.inl (lo_push 88 (.int 41))) := (P_26 L xs 86).trans rfl
theorem p_26_88 (L : Nat) (xs : Nat → Int32) : ll_P L xs 26 88 = some (.inl (lo_cmp 104 91 (fun x y => decide (¬ x = y)))) := (P_26 L xs 88).trans rfl
theorem p_26_91 (L : Nat) (xs : Nat → Int32) : ll_P L xs 26 91 = some (.inl (lo_aload 92 0)) := (P_26 L xs 91).trans rfl
theorem p_26_92 (L : Nat) (xs : Nat → Int32) : ll_P L xs 26 92 = some (.inl (lo_dup 93)) := (P_26 L xs 92).trans rfl
theorem p_26_93 (L : Nat) (xs : Nat → Int32) : ll_P L xs 26 93 = some (.inl (lo_getf 96 2 3)) := (P_26 L xs 93).trans rfl
theorem p_26_96 (L : Nat) (xs : Nat → Int32) : ll_P L xs 26 96 = some (.inl (lo_push 97 (.int 1))) := (P_26 L xs 96).trans rfl
theorem p_26_97 (L : Nat) (xs : Nat → Int32) : ll_P L xs 26 97 = some (.inl (lo_bin 98 (fun x y => x + y))) := (P_26 L xs 97).trans rfl
theorem p_26_98 (L : Nat) (xs : Nat → Int32) : ll_P L xs 26 98 = some (.inl (lo_putf 101 2 3 0)) := (P_26 L xs 98).trans rfl
theorem p_26_101 (L : Nat) (xs : Nat → Int32) : ll_P L xs 26 101 = some (.inl (lo_goto 112)) := (P_26 L xs 101).trans rfl
theorem p_26_104 (L : Nat) (xs : Nat → Int32) : ll_P L xs 26 104 = some (.inl (lo_aload 105 0)) := (P_26 L xs 104).trans rfl
theorem p_26_105 (L : Nat) (xs : Nat → Int32) : ll_P L xs 26 105 = some (.inl (lo_aload 106 0)) := (P_26 L xs 105).trans rfl
theorem p_26_106 (L : Nat) (xs : Nat → Int32) : ll_P L xs 26 106 = some (.inl (lo_getf 109 2 3)) := (P_26 L xs 106).trans rfl
theorem p_26_109 (L : Nat) (xs : Nat → Int32) : ll_P L xs 26 109 = some (.inl (lo_putf 112 2 4 0)) := (P_26 L xs 109).trans rfl
theorem p_26_112 (L : Nat) (xs : Nat → Int32) : ll_P L xs 26 112 = some (.inl (lo_iload 113 3)) := (P_26 L xs 112).trans rfl
theorem p_26_113 (L : Nat) (xs : Nat → Int32) : ll_P L xs 26 113 = some (.inr (.inr 1)) := (P_26 L xs 113).trans rfl
theorem b_26_0 {Y : sY} {d : Nat} {s : sT} {K : Option Int32 → sT → Prop} {r0 : Nat} {x1 : Int32} (h : (isO Y r0 2 ∧ tT Y d 27 0 [.ref r0] [] s (fun r s1 => tT Y (d + 1) 26 4 [.ref r0, .int x1, .null, .null] ((r.map Value.int).toList ++ []) s1 K))) : tT Y (d + 1) 26 0 [.ref r0, .int x1, .null, .null] [] s K :=
  (tt_aload (p_26_0 _ _) rfl).mpr (t2_callv (z := 27) (k := 1) (i := r0) (as := []) (rest := []) (p_26_1 _ _) mK_27 mL_27 rfl rfl (Nat.le_of_ble_eq_true rfl) rfl (Nat.le_of_ble_eq_true rfl) h.1 h.2)
theorem b_26_4 {Y : sY} {d : Nat} {s : sT} {K : Option Int32 → sT → Prop} {r0 : Nat} {x1 : Int32} {t0 : Int32} (h : tT Y d 28 0 [.int t0] [] s (fun r s1 => tT Y (d + 1) 26 9 [.ref r0, .int x1, .int t0, .null] ((r.map Value.int).toList ++ []) s1 K)) : tT Y (d + 1) 26 4 [.ref r0, .int x1, .null, .null] [.int t0] s K :=
  (tt_istore (p_26_4 _ _) (Nat.le_of_ble_eq_true rfl) rfl rfl).mpr ((tt_iload (p_26_5 _ _) rfl).mpr (t2_calls (z := 28) (k := 1) (as := [.int t0]) (rest := []) (p_26_6 _ _) mK_28 mL_28 rfl rfl (Nat.le_of_ble_eq_true rfl) rfl (Nat.le_of_ble_eq_true rfl) h))
theorem b_26_9 {Y : sY} {d : Nat} {s : sT} {K : Option Int32 → sT → Prop} {r0 : Nat} {x1 : Int32} {x2 : Int32} {t0 : Int32} (h : (if t0 = 0 then tT Y (d + 1) 26 18 [.ref r0, .int x1, .int x2, .null] [] s K else (if x1 ≤ (40 : Int32) then (isO Y r0 2 ∧ (isO Y r0 2 ∧ (if x2 = (40 : Int32) then (isO Y r0 2 ∧ tT Y d 23 0 [.ref r0, .int (x1 + (1 : Int32)), .null, .null, .null] [] (pV s r0 3 ((s.1 r0 3) + (1 : Int32))) (fun r s1 => tT Y (d + 1) 26 73 [.ref r0, .int x1, .int x2, .null] ((r.map Value.int).toList ++ []) s1 K)) else (if (97 : Int32) ≤ x2 then K (some (((2 : Int32) + x2) - (97 : Int32))) (pV s r0 3 ((s.1 r0 3) + (1 : Int32))) else K (some (((0 : Int32) + x2) - (48 : Int32))) (pV s r0 3 ((s.1 r0 3) + (1 : Int32))))))) else tT Y (d + 1) 26 18 [.ref r0, .int x1, .int x2, .null] [] s K))) : tT Y (d + 1) 26 9 [.ref r0, .int x1, .int x2, .null] [.int t0] s K :=
  t3_if (p := t0 = 0) (p_26_9 _ _) rfl (fun g1 => (ifp h g1)) (fun g1 => (tt_iload (p_26_12 _ _) rfl).mpr ((tt_push (p_26_13 _ _)).mpr (t3_cmp (p := x1 ≤ (40 : Int32)) (p_26_15 _ _) rfl (fun g2 => (tt_aload (p_26_28 _ _) rfl).mpr ((tt_dupr (p_26_29 _ _)).mpr (t3_geti (p_26_30 _ _) (isI_2_3) (ifp (ifn h g1) g2).1 ((tt_push (p_26_33 _ _)).mpr ((tt_bin (p_26_34 _ _)).mpr ((t2_puti (p_26_35 _ _) isI_2_3 (ifp (ifn h g1) g2).2.1).mpr ((tt_iload (p_26_38 _ _) rfl).mpr ((tt_push (p_26_39 _ _)).mpr (t3_cmp (p := x2 = (40 : Int32)) (p_26_41 _ _) rfl (fun g3 => (tt_aload (p_26_66 _ _) rfl).mpr ((tt_iload (p_26_67 _ _) rfl).mpr ((tt_push (p_26_68 _ _)).mpr ((tt_bin (p_26_69 _ _)).mpr (t2_callv (z := 23) (k := 2) (i := r0) (as := [.int (x1 + (1 : Int32))]) (rest := []) (p_26_70 _ _) mK_23 mL_23 rfl rfl (Nat.le_of_ble_eq_true rfl) rfl (Nat.le_of_ble_eq_true rfl) (ifp (ifp (ifn h g1) g2).2.2 g3).1 (ifp (ifp (ifn h g1) g2).2.2 g3).2))))) (fun g3 => (tt_iload (p_26_44 _ _) rfl).mpr ((tt_push (p_26_45 _ _)).mpr (t3_cmp (p := (97 : Int32) ≤ x2) (p_26_47 _ _) rfl (fun g4 => (tt_push (p_26_59 _ _)).mpr ((tt_iload (p_26_60 _ _) rfl).mpr ((tt_bin (p_26_61 _ _)).mpr ((tt_push (p_26_62 _ _)).mpr ((tt_bin (p_26_64 _ _)).mpr (tt_ret1 (p_26_65 _ _) (ifp (ifn (ifp (ifn h g1) g2).2.2 g3) g4))))))) (fun g4 => (tt_push (p_26_50 _ _)).mpr ((tt_iload (p_26_51 _ _) rfl).mpr ((tt_bin (p_26_52 _ _)).mpr ((tt_push (p_26_53 _ _)).mpr ((tt_bin (p_26_55 _ _)).mpr ((tt_goto (p_26_56 _ _)).mpr (tt_ret1 (p_26_65 _ _) (ifn (ifn (ifp (ifn h g1) g2).2.2 g3) g4)))))))))))))))))))) (fun g2 => (ifn (ifn h g1) g2)))))
theorem b_26_18 {Y : sY} {d : Nat} {s : sT} {K : Option Int32 → sT → Prop} {r0 : Nat} {x1 : Int32} {x2 : Int32} (h : (isO Y r0 2 ∧ (isO Y r0 2 ∧ K (some (0 : Int32)) (pV s r0 4 (s.1 r0 3))))) : tT Y (d + 1) 26 18 [.ref r0, .int x1, .int x2, .null] [] s K :=
  (tt_aload (p_26_18 _ _) rfl).mpr ((tt_aload (p_26_19 _ _) rfl).mpr (t3_geti (p_26_20 _ _) (isI_2_3) h.1 ((t2_puti (p_26_23 _ _) isI_2_4 h.2.1).mpr ((tt_push (p_26_26 _ _)).mpr (tt_ret1 (p_26_27 _ _) h.2.2)))))
theorem b_26_73 {Y : sY} {d : Nat} {s : sT} {K : Option Int32 → sT → Prop} {r0 : Nat} {x1 : Int32} {x2 : Int32} {t0 : Int32} (h : (isO Y r0 2 ∧ (if ¬ (s.1 r0 4) = (-1 : Int32) then K (some t0) s else (isO Y r0 2 ∧ tT Y d 27 0 [.ref r0] [] s (fun r s1 => tT Y (d + 1) 26 86 [.ref r0, .int x1, .int x2, .int t0] ((r.map Value.int).toList ++ []) s1 K))))) : tT Y (d + 1) 26 73 [.ref r0, .int x1, .int x2, .null] [.int t0] s K :=
  (tt_istore (p_26_73 _ _) (Nat.le_of_ble_eq_true rfl) rfl rfl).mpr ((tt_aload (p_26_74 _ _) rfl).mpr (t3_geti (p_26_75 _ _) (isI_2_4) h.1 ((tt_push (p_26_78 _ _)).mpr (t3_cmp (p := ¬ (s.1 r0 4) = (-1 : Int32)) (p_26_79 _ _) rfl (fun g1 => (tt_iload (p_26_112 _ _) rfl).mpr (tt_ret1 (p_26_113 _ _) (ifp h.2 g1))) (fun g1 => (tt_aload (p_26_82 _ _) rfl).mpr (t2_callv (z := 27) (k := 1) (i := r0) (as := []) (rest := []) (p_26_83 _ _) mK_27 mL_27 rfl rfl (Nat.le_of_ble_eq_true rfl) rfl (Nat.le_of_ble_eq_true rfl) (ifn h.2 g1).1 (ifn h.2 g1).2))))))
theorem b_26_86 {Y : sY} {d : Nat} {s : sT} {K : Option Int32 → sT → Prop} {r0 : Nat} {x1 : Int32} {x2 : Int32} {x3 : Int32} {t0 : Int32} (h : (if ¬ t0 = (41 : Int32) then (isO Y r0 2 ∧ (isO Y r0 2 ∧ K (some x3) (pV s r0 4 (s.1 r0 3)))) else (isO Y r0 2 ∧ (isO Y r0 2 ∧ K (some x3) (pV s r0 3 ((s.1 r0 3) + (1 : Int32))))))) : tT Y (d + 1) 26 86 [.ref r0, .int x1, .int x2, .int x3] [.int t0] s K :=
  (tt_push (p_26_86 _ _)).mpr (t3_cmp (p := ¬ t0 = (41 : Int32)) (p_26_88 _ _) rfl (fun g1 => (tt_aload (p_26_104 _ _) rfl).mpr ((tt_aload (p_26_105 _ _) rfl).mpr (t3_geti (p_26_106 _ _) (isI_2_3) (ifp h g1).1 ((t2_puti (p_26_109 _ _) isI_2_4 (ifp h g1).2.1).mpr ((tt_iload (p_26_112 _ _) rfl).mpr (tt_ret1 (p_26_113 _ _) (ifp h g1).2.2)))))) (fun g1 => (tt_aload (p_26_91 _ _) rfl).mpr ((tt_dupr (p_26_92 _ _)).mpr (t3_geti (p_26_93 _ _) (isI_2_3) (ifn h g1).1 ((tt_push (p_26_96 _ _)).mpr ((tt_bin (p_26_97 _ _)).mpr ((t2_puti (p_26_98 _ _) isI_2_3 (ifn h g1).2.1).mpr ((tt_goto (p_26_101 _ _)).mpr ((tt_iload (p_26_112 _ _) rfl).mpr (tt_ret1 (p_26_113 _ _) (ifn h g1).2.2))))))))))
/-! InclusionProver$Reader.next.()I -/
theorem p_27_0 (L : Nat) (xs : Nat → Int32) : ll_P L xs 27 0 = some (.inl (lo_aload 1 0)) := (P_27 L xs 0).trans rfl
theorem p_27_1 (L : Nat) (xs : Nat → Int32) : ll_P L xs 27 1 = some (.inl (lo_getf 4 2 3)) := (P_27 L xs 1).trans rfl
theorem p_27_4 (L : Nat) (xs : Nat → Int32) : ll_P L xs 27 4 = some (.inl (lo_aload 5 0)) := (P_27 L xs 4).trans rfl
theorem p_27_5 (L : Nat) (xs : Nat → Int32) : ll_P L xs 27 5 = some (.inl (lo_getf 8 2 2)) := (P_27 L xs 5).trans rfl
theorem p_27_8 (L : Nat) (xs : Nat → Int32) : ll_P L xs 27 8 = some (.inl (lo_cmp 40 11 (fun x y => decide (y ≤ x)))) := (P_27 L xs 8).trans rfl
theorem p_27_11 (L : Nat) (xs : Nat → Int32) : ll_P L xs 27 11 = some (.inl (lo_aload 12 0)) := (P_27 L xs 11).trans rfl
theorem p_27_12 (L : Nat) (xs : Nat → Int32) : ll_P L xs 27 12 = some (.inl (lo_getf 15 2 1)) := (P_27 L xs 12).trans rfl
theorem p_27_15 (L : Nat) (xs : Nat → Int32) : ll_P L xs 27 15 = some (.inl (lo_aload 16 0)) := (P_27 L xs 15).trans rfl
theorem p_27_16 (L : Nat) (xs : Nat → Int32) : ll_P L xs 27 16 = some (.inl (lo_getf 19 2 3)) := (P_27 L xs 16).trans rfl
theorem p_27_19 (L : Nat) (xs : Nat → Int32) : ll_P L xs 27 19 = some (.inr (.inl (77, 2, 22))) := (P_27 L xs 19).trans rfl
theorem p_27_22 (L : Nat) (xs : Nat → Int32) : ll_P L xs 27 22 = some (.inl (lo_push 24 (.int 32))) := (P_27 L xs 22).trans rfl
theorem p_27_24 (L : Nat) (xs : Nat → Int32) : ll_P L xs 27 24 = some (.inl (lo_cmp 40 27 (fun x y => decide (¬ x = y)))) := (P_27 L xs 24).trans rfl
theorem p_27_27 (L : Nat) (xs : Nat → Int32) : ll_P L xs 27 27 = some (.inl (lo_aload 28 0)) := (P_27 L xs 27).trans rfl
theorem p_27_28 (L : Nat) (xs : Nat → Int32) : ll_P L xs 27 28 = some (.inl (lo_dup 29)) := (P_27 L xs 28).trans rfl
theorem p_27_29 (L : Nat) (xs : Nat → Int32) : ll_P L xs 27 29 = some (.inl (lo_getf 32 2 3)) := (P_27 L xs 29).trans rfl
theorem p_27_32 (L : Nat) (xs : Nat → Int32) : ll_P L xs 27 32 = some (.inl (lo_push 33 (.int 1))) := (P_27 L xs 32).trans rfl
theorem p_27_33 (L : Nat) (xs : Nat → Int32) : ll_P L xs 27 33 = some (.inl (lo_bin 34 (fun x y => x + y))) := (P_27 L xs 33).trans rfl
theorem p_27_34 (L : Nat) (xs : Nat → Int32) : ll_P L xs 27 34 = some (.inl (lo_putf 37 2 3 0)) := (P_27 L xs 34).trans rfl
theorem p_27_37 (L : Nat) (xs : Nat → Int32) : ll_P L xs 27 37 = some (.inl (lo_goto 0)) := (P_27 L xs 37).trans rfl
theorem p_27_40 (L : Nat) (xs : Nat → Int32) : ll_P L xs 27 40 = some (.inl (lo_aload 41 0)) := (P_27 L xs 40).trans rfl
theorem p_27_41 (L : Nat) (xs : Nat → Int32) : ll_P L xs 27 41 = some (.inl (lo_getf 44 2 3)) := (P_27 L xs 41).trans rfl
theorem p_27_44 (L : Nat) (xs : Nat → Int32) : ll_P L xs 27 44 = some (.inl (lo_aload 45 0)) := (P_27 L xs 44).trans rfl
theorem p_27_45 (L : Nat) (xs : Nat → Int32) : ll_P L xs 27 45 = some (.inl (lo_getf 48 2 2)) := (P_27 L xs 45).trans rfl
theorem p_27_48 (L : Nat) (xs : Nat → Int32) : ll_P L xs 27 48 = some (.inl (lo_cmp 65 51 (fun x y => decide (y ≤ x)))) := (P_27 L xs 48).trans rfl
theorem p_27_51 (L : Nat) (xs : Nat → Int32) : ll_P L xs 27 51 = some (.inl (lo_aload 52 0)) := (P_27 L xs 51).trans rfl
theorem p_27_52 (L : Nat) (xs : Nat → Int32) : ll_P L xs 27 52 = some (.inl (lo_getf 55 2 1)) := (P_27 L xs 52).trans rfl
theorem p_27_55 (L : Nat) (xs : Nat → Int32) : ll_P L xs 27 55 = some (.inl (lo_aload 56 0)) := (P_27 L xs 55).trans rfl
theorem p_27_56 (L : Nat) (xs : Nat → Int32) : ll_P L xs 27 56 = some (.inl (lo_getf 59 2 3)) := (P_27 L xs 56).trans rfl
theorem p_27_59 (L : Nat) (xs : Nat → Int32) : ll_P L xs 27 59 = some (.inr (.inl (77, 2, 62))) := (P_27 L xs 59).trans rfl
theorem p_27_62 (L : Nat) (xs : Nat → Int32) : ll_P L xs 27 62 = some (.inl (lo_goto 66)) := (P_27 L xs 62).trans rfl
theorem p_27_65 (L : Nat) (xs : Nat → Int32) : ll_P L xs 27 65 = some (.inl (lo_push 66 (.int (-1)))) := (P_27 L xs 65).trans rfl
theorem p_27_66 (L : Nat) (xs : Nat → Int32) : ll_P L xs 27 66 = some (.inr (.inr 1)) := (P_27 L xs 66).trans rfl
theorem b_27_0 {Y : sY} {d : Nat} {s : sT} {K : Option Int32 → sT → Prop} {r0 : Nat} (h : (isO Y r0 2 ∧ (isO Y r0 2 ∧ (if (s.1 r0 2) ≤ (s.1 r0 3) then tT Y (d + 1) 27 40 [.ref r0] [] s K else (∃ a2, (isO Y r0 2 ∧ s.2 r0 1 = some a2) ∧ (isO Y r0 2 ∧ (isO Y a2 7 ∧ tT Y d 77 0 [.ref a2, .int (s.1 r0 3)] [] s (fun r s1 => tT Y (d + 1) 27 22 [.ref r0] ((r.map Value.int).toList ++ []) s1 K)))))))) : tT Y (d + 1) 27 0 [.ref r0] [] s K :=
  (tt_aload (p_27_0 _ _) rfl).mpr (t3_geti (p_27_1 _ _) (isI_2_3) h.1 ((tt_aload (p_27_4 _ _) rfl).mpr (t3_geti (p_27_5 _ _) (isI_2_2) h.2.1 (t3_cmp (p := (s.1 r0 2) ≤ (s.1 r0 3)) (p_27_8 _ _) rfl (fun g1 => (ifp h.2.2 g1)) (fun g1 => (tt_aload (p_27_11 _ _) rfl).mpr (Exists.elim (ifn h.2.2 g1) (fun a2 h3 => t3_getr (p_27_12 _ _) (isI_2_1) h3.1.1 h3.1.2 ((tt_aload (p_27_15 _ _) rfl).mpr (t3_geti (p_27_16 _ _) (isI_2_3) h3.2.1 (t2_callv (z := 77) (k := 2) (i := a2) (as := [.int (s.1 r0 3)]) (rest := []) (p_27_19 _ _) mK_77 mL_77 rfl rfl (Nat.le_of_ble_eq_true rfl) rfl (Nat.le_of_ble_eq_true rfl) h3.2.2.1 h3.2.2.2))))))))))
theorem b_27_22 {Y : sY} {d : Nat} {s : sT} {K : Option Int32 → sT → Prop} {r0 : Nat} {t0 : Int32} (h : (if ¬ t0 = (32 : Int32) then tT Y (d + 1) 27 40 [.ref r0] [] s K else (isO Y r0 2 ∧ (isO Y r0 2 ∧ tT Y (d + 1) 27 0 [.ref r0] [] (pV s r0 3 ((s.1 r0 3) + (1 : Int32))) K)))) : tT Y (d + 1) 27 22 [.ref r0] [.int t0] s K :=
  (tt_push (p_27_22 _ _)).mpr (t3_cmp (p := ¬ t0 = (32 : Int32)) (p_27_24 _ _) rfl (fun g1 => (ifp h g1)) (fun g1 => (tt_aload (p_27_27 _ _) rfl).mpr ((tt_dupr (p_27_28 _ _)).mpr (t3_geti (p_27_29 _ _) (isI_2_3) (ifn h g1).1 ((tt_push (p_27_32 _ _)).mpr ((tt_bin (p_27_33 _ _)).mpr ((t2_puti (p_27_34 _ _) isI_2_3 (ifn h g1).2.1).mpr ((tt_goto (p_27_37 _ _)).mpr ((ifn h g1).2.2)))))))))
theorem b_27_40 {Y : sY} {d : Nat} {s : sT} {K : Option Int32 → sT → Prop} {r0 : Nat} (h : (isO Y r0 2 ∧ (isO Y r0 2 ∧ (if (s.1 r0 2) ≤ (s.1 r0 3) then K (some (-1 : Int32)) s else (∃ a2, (isO Y r0 2 ∧ s.2 r0 1 = some a2) ∧ (isO Y r0 2 ∧ (isO Y a2 7 ∧ tT Y d 77 0 [.ref a2, .int (s.1 r0 3)] [] s (fun r s1 => tT Y (d + 1) 27 62 [.ref r0] ((r.map Value.int).toList ++ []) s1 K)))))))) : tT Y (d + 1) 27 40 [.ref r0] [] s K :=
  (tt_aload (p_27_40 _ _) rfl).mpr (t3_geti (p_27_41 _ _) (isI_2_3) h.1 ((tt_aload (p_27_44 _ _) rfl).mpr (t3_geti (p_27_45 _ _) (isI_2_2) h.2.1 (t3_cmp (p := (s.1 r0 2) ≤ (s.1 r0 3)) (p_27_48 _ _) rfl (fun g1 => (tt_push (p_27_65 _ _)).mpr (tt_ret1 (p_27_66 _ _) (ifp h.2.2 g1))) (fun g1 => (tt_aload (p_27_51 _ _) rfl).mpr (Exists.elim (ifn h.2.2 g1) (fun a2 h3 => t3_getr (p_27_52 _ _) (isI_2_1) h3.1.1 h3.1.2 ((tt_aload (p_27_55 _ _) rfl).mpr (t3_geti (p_27_56 _ _) (isI_2_3) h3.2.1 (t2_callv (z := 77) (k := 2) (i := a2) (as := [.int (s.1 r0 3)]) (rest := []) (p_27_59 _ _) mK_77 mL_77 rfl rfl (Nat.le_of_ble_eq_true rfl) rfl (Nat.le_of_ble_eq_true rfl) h3.2.2.1 h3.2.2.2))))))))))
theorem b_27_62 {Y : sY} {d : Nat} {s : sT} {K : Option Int32 → sT → Prop} {r0 : Nat} {t0 : Int32} (h : K (some t0) s) : tT Y (d + 1) 27 62 [.ref r0] [.int t0] s K :=
  (tt_goto (p_27_62 _ _)).mpr (tt_ret1 (p_27_66 _ _) h)
/-! InclusionProver$Reader.beginsAtom.(I)Z -/
theorem p_28_0 (L : Nat) (xs : Nat → Int32) : ll_P L xs 28 0 = some (.inl (lo_iload 1 0)) := (P_28 L xs 0).trans rfl
theorem p_28_1 (L : Nat) (xs : Nat → Int32) : ll_P L xs 28 1 = some (.inl (lo_push 3 (.int 48))) := (P_28 L xs 1).trans rfl
theorem p_28_3 (L : Nat) (xs : Nat → Int32) : ll_P L xs 28 3 = some (.inl (lo_cmp 30 6 (fun x y => decide (x = y)))) := (P_28 L xs 3).trans rfl
theorem p_28_6 (L : Nat) (xs : Nat → Int32) : ll_P L xs 28 6 = some (.inl (lo_iload 7 0)) := (P_28 L xs 6).trans rfl
theorem p_28_7 (L : Nat) (xs : Nat → Int32) : ll_P L xs 28 7 = some (.inl (lo_push 9 (.int 49))) := (P_28 L xs 7).trans rfl
theorem p_28_9 (L : Nat) (xs : Nat → Int32) : ll_P L xs 28 9 = some (.inl (lo_cmp 30 12 (fun x y => decide (x = y)))) := (P_28 L xs 9).trans rfl
theorem p_28_12 (L : Nat) (xs : Nat → Int32) : ll_P L xs 28 12 = some (.inl (lo_iload 13 0)) := (P_28 L xs 12).trans rfl
theorem p_28_13 (L : Nat) (xs : Nat → Int32) : ll_P L xs 28 13 = some (.inl (lo_push 15 (.int 40))) := (P_28 L xs 13).trans rfl
theorem p_28_15 (L : Nat) (xs : Nat → Int32) : ll_P L xs 28 15 = some (.inl (lo_cmp 30 18 (fun x y => decide (x = y)))) := (P_28 L xs 15).trans rfl
theorem p_28_18 (L : Nat) (xs : Nat → Int32) : ll_P L xs 28 18 = some (.inl (lo_iload 19 0)) := (P_28 L xs 18).trans rfl
theorem p_28_19 (L : Nat) (xs : Nat → Int32) : ll_P L xs 28 19 = some (.inl (lo_push 21 (.int 97))) := (P_28 L xs 19).trans rfl
theorem p_28_21 (L : Nat) (xs : Nat → Int32) : ll_P L xs 28 21 = some (.inl (lo_cmp 34 24 (fun x y => decide (x < y)))) := (P_28 L xs 21).trans rfl
theorem p_28_24 (L : Nat) (xs : Nat → Int32) : ll_P L xs 28 24 = some (.inl (lo_iload 25 0)) := (P_28 L xs 24).trans rfl
theorem p_28_25 (L : Nat) (xs : Nat → Int32) : ll_P L xs 28 25 = some (.inl (lo_push 27 (.int 99))) := (P_28 L xs 25).trans rfl
theorem p_28_27 (L : Nat) (xs : Nat → Int32) : ll_P L xs 28 27 = some (.inl (lo_cmp 34 30 (fun x y => decide (y < x)))) := (P_28 L xs 27).trans rfl
theorem p_28_30 (L : Nat) (xs : Nat → Int32) : ll_P L xs 28 30 = some (.inl (lo_push 31 (.int 1))) := (P_28 L xs 30).trans rfl
theorem p_28_31 (L : Nat) (xs : Nat → Int32) : ll_P L xs 28 31 = some (.inl (lo_goto 35)) := (P_28 L xs 31).trans rfl
theorem p_28_34 (L : Nat) (xs : Nat → Int32) : ll_P L xs 28 34 = some (.inl (lo_push 35 (.int 0))) := (P_28 L xs 34).trans rfl
theorem p_28_35 (L : Nat) (xs : Nat → Int32) : ll_P L xs 28 35 = some (.inr (.inr 2)) := (P_28 L xs 35).trans rfl
theorem b_28_0 {Y : sY} {d : Nat} {s : sT} {K : Option Int32 → sT → Prop} {x0 : Int32} (h : (if x0 = (48 : Int32) then K (some (1 : Int32)) s else (if x0 = (49 : Int32) then K (some (1 : Int32)) s else (if x0 = (40 : Int32) then K (some (1 : Int32)) s else (if x0 < (97 : Int32) then K (some (0 : Int32)) s else (if (99 : Int32) < x0 then K (some (0 : Int32)) s else K (some (1 : Int32)) s)))))) : tT Y d 28 0 [.int x0] [] s K :=
  (tt_iload (p_28_0 _ _) rfl).mpr ((tt_push (p_28_1 _ _)).mpr (t3_cmp (p := x0 = (48 : Int32)) (p_28_3 _ _) rfl (fun g1 => (tt_push (p_28_30 _ _)).mpr ((tt_goto (p_28_31 _ _)).mpr (tt_ret2 (p_28_35 _ _) (Or.inr rfl) (ifp h g1)))) (fun g1 => (tt_iload (p_28_6 _ _) rfl).mpr ((tt_push (p_28_7 _ _)).mpr (t3_cmp (p := x0 = (49 : Int32)) (p_28_9 _ _) rfl (fun g2 => (tt_push (p_28_30 _ _)).mpr ((tt_goto (p_28_31 _ _)).mpr (tt_ret2 (p_28_35 _ _) (Or.inr rfl) (ifp (ifn h g1) g2)))) (fun g2 => (tt_iload (p_28_12 _ _) rfl).mpr ((tt_push (p_28_13 _ _)).mpr (t3_cmp (p := x0 = (40 : Int32)) (p_28_15 _ _) rfl (fun g3 => (tt_push (p_28_30 _ _)).mpr ((tt_goto (p_28_31 _ _)).mpr (tt_ret2 (p_28_35 _ _) (Or.inr rfl) (ifp (ifn (ifn h g1) g2) g3)))) (fun g3 => (tt_iload (p_28_18 _ _) rfl).mpr ((tt_push (p_28_19 _ _)).mpr (t3_cmp (p := x0 < (97 : Int32)) (p_28_21 _ _) rfl (fun g4 => (tt_push (p_28_34 _ _)).mpr (tt_ret2 (p_28_35 _ _) (Or.inl rfl) (ifp (ifn (ifn (ifn h g1) g2) g3) g4))) (fun g4 => (tt_iload (p_28_24 _ _) rfl).mpr ((tt_push (p_28_25 _ _)).mpr (t3_cmp (p := (99 : Int32) < x0) (p_28_27 _ _) rfl (fun g5 => (tt_push (p_28_34 _ _)).mpr (tt_ret2 (p_28_35 _ _) (Or.inl rfl) (ifp (ifn (ifn (ifn (ifn h g1) g2) g3) g4) g5))) (fun g5 => (tt_push (p_28_30 _ _)).mpr ((tt_goto (p_28_31 _ _)).mpr (tt_ret2 (p_28_35 _ _) (Or.inr rfl) (ifn (ifn (ifn (ifn (ifn h g1) g2) g3) g4) g5))))))))))))))))))
/-! InclusionProver$Room.<init>.()V -/
theorem p_29_0 (L : Nat) (xs : Nat → Int32) : ll_P L xs 29 0 = some (.inl (lo_aload 1 0)) := (P_29 L xs 0).trans rfl
theorem p_29_1 (L : Nat) (xs : Nat → Int32) : ll_P L xs 29 1 = some (.inl (lo_init 4)) := (P_29 L xs 1).trans rfl
theorem p_29_4 (L : Nat) (xs : Nat → Int32) : ll_P L xs 29 4 = some (.inl (lo_aload 5 0)) := (P_29 L xs 4).trans rfl
theorem p_29_5 (L : Nat) (xs : Nat → Int32) : ll_P L xs 29 5 = some (.inl (lo_new 8 7 2 [.null, .int 0])) := (P_29 L xs 5).trans rfl
theorem p_29_8 (L : Nat) (xs : Nat → Int32) : ll_P L xs 29 8 = some (.inl (lo_dup 9)) := (P_29 L xs 8).trans rfl
theorem p_29_9 (L : Nat) (xs : Nat → Int32) : ll_P L xs 29 9 = some (.inl (lo_push 11 (.int 60))) := (P_29 L xs 9).trans rfl
theorem p_29_11 (L : Nat) (xs : Nat → Int32) : ll_P L xs 29 11 = some (.inr (.inl (70, 2, 14))) := (P_29 L xs 11).trans rfl
theorem p_29_14 (L : Nat) (xs : Nat → Int32) : ll_P L xs 29 14 = some (.inl (lo_putf 17 3 0 2)) := (P_29 L xs 14).trans rfl
theorem p_29_17 (L : Nat) (xs : Nat → Int32) : ll_P L xs 29 17 = some (.inl (lo_aload 18 0)) := (P_29 L xs 17).trans rfl
theorem p_29_18 (L : Nat) (xs : Nat → Int32) : ll_P L xs 29 18 = some (.inl (lo_push 19 (.int 2))) := (P_29 L xs 18).trans rfl
theorem p_29_19 (L : Nat) (xs : Nat → Int32) : ll_P L xs 29 19 = some (.inl (lo_anew 22 5)) := (P_29 L xs 19).trans rfl
theorem p_29_22 (L : Nat) (xs : Nat → Int32) : ll_P L xs 29 22 = some (.inl (lo_dup 23)) := (P_29 L xs 22).trans rfl
theorem p_29_23 (L : Nat) (xs : Nat → Int32) : ll_P L xs 29 23 = some (.inl (lo_push 24 (.int 0))) := (P_29 L xs 23).trans rfl
theorem p_29_24 (L : Nat) (xs : Nat → Int32) : ll_P L xs 29 24 = some (.inl (lo_new 27 5 11 [.null, .null, .null, .null, .null, .null, .int 0, .int 0, .int 0, .int 0, .int 0])) := (P_29 L xs 24).trans rfl
theorem p_29_27 (L : Nat) (xs : Nat → Int32) : ll_P L xs 29 27 = some (.inl (lo_dup 28)) := (P_29 L xs 27).trans rfl
theorem p_29_28 (L : Nat) (xs : Nat → Int32) : ll_P L xs 29 28 = some (.inr (.inl (38, 1, 31))) := (P_29 L xs 28).trans rfl
theorem p_29_31 (L : Nat) (xs : Nat → Int32) : ll_P L xs 29 31 = some (.inl (lo_aast 32)) := (P_29 L xs 31).trans rfl
theorem p_29_32 (L : Nat) (xs : Nat → Int32) : ll_P L xs 29 32 = some (.inl (lo_dup 33)) := (P_29 L xs 32).trans rfl
theorem p_29_33 (L : Nat) (xs : Nat → Int32) : ll_P L xs 29 33 = some (.inl (lo_push 34 (.int 1))) := (P_29 L xs 33).trans rfl
theorem p_29_34 (L : Nat) (xs : Nat → Int32) : ll_P L xs 29 34 = some (.inl (lo_new 37 5 11 [.null, .null, .null, .null, .null, .null, .int 0, .int 0, .int 0, .int 0, .int 0])) := (P_29 L xs 34).trans rfl
theorem p_29_37 (L : Nat) (xs : Nat → Int32) : ll_P L xs 29 37 = some (.inl (lo_dup 38)) := (P_29 L xs 37).trans rfl
theorem p_29_38 (L : Nat) (xs : Nat → Int32) : ll_P L xs 29 38 = some (.inr (.inl (38, 1, 41))) := (P_29 L xs 38).trans rfl
theorem p_29_41 (L : Nat) (xs : Nat → Int32) : ll_P L xs 29 41 = some (.inl (lo_aast 42)) := (P_29 L xs 41).trans rfl
theorem p_29_42 (L : Nat) (xs : Nat → Int32) : ll_P L xs 29 42 = some (.inl (lo_putf 45 3 1 2)) := (P_29 L xs 42).trans rfl
theorem p_29_45 (L : Nat) (xs : Nat → Int32) : ll_P L xs 29 45 = some (.inl (lo_aload 46 0)) := (P_29 L xs 45).trans rfl
theorem p_29_46 (L : Nat) (xs : Nat → Int32) : ll_P L xs 29 46 = some (.inl (lo_push 47 (.int 4))) := (P_29 L xs 46).trans rfl
theorem p_29_47 (L : Nat) (xs : Nat → Int32) : ll_P L xs 29 47 = some (.inl (lo_anew 50 7)) := (P_29 L xs 47).trans rfl
theorem p_29_50 (L : Nat) (xs : Nat → Int32) : ll_P L xs 29 50 = some (.inl (lo_putf 53 3 2 2)) := (P_29 L xs 50).trans rfl
theorem p_29_53 (L : Nat) (xs : Nat → Int32) : ll_P L xs 29 53 = some (.inl (lo_aload 54 0)) := (P_29 L xs 53).trans rfl
theorem p_29_54 (L : Nat) (xs : Nat → Int32) : ll_P L xs 29 54 = some (.inl (lo_new 57 1 12 [.null, .null, .null, .null, .null, .null, .null, .null, .int 0, .int 0, .int 0, .int 0])) := (P_29 L xs 54).trans rfl
theorem p_29_57 (L : Nat) (xs : Nat → Int32) : ll_P L xs 29 57 = some (.inl (lo_dup 58)) := (P_29 L xs 57).trans rfl
theorem p_29_58 (L : Nat) (xs : Nat → Int32) : ll_P L xs 29 58 = some (.inr (.inl (8, 1, 61))) := (P_29 L xs 58).trans rfl
theorem p_29_61 (L : Nat) (xs : Nat → Int32) : ll_P L xs 29 61 = some (.inl (lo_putf 64 3 3 2)) := (P_29 L xs 61).trans rfl
theorem p_29_64 (L : Nat) (xs : Nat → Int32) : ll_P L xs 29 64 = some (.inl (lo_aload 65 0)) := (P_29 L xs 64).trans rfl
theorem p_29_65 (L : Nat) (xs : Nat → Int32) : ll_P L xs 29 65 = some (.inl (lo_push 66 (.int (-1)))) := (P_29 L xs 65).trans rfl
theorem p_29_66 (L : Nat) (xs : Nat → Int32) : ll_P L xs 29 66 = some (.inl (lo_putf 69 3 4 0)) := (P_29 L xs 66).trans rfl
theorem p_29_69 (L : Nat) (xs : Nat → Int32) : ll_P L xs 29 69 = some (.inl (lo_push 70 (.int 0))) := (P_29 L xs 69).trans rfl
theorem p_29_70 (L : Nat) (xs : Nat → Int32) : ll_P L xs 29 70 = some (.inl (lo_istore 71 1)) := (P_29 L xs 70).trans rfl
theorem p_29_71 (L : Nat) (xs : Nat → Int32) : ll_P L xs 29 71 = some (.inl (lo_iload 72 1)) := (P_29 L xs 71).trans rfl
theorem p_29_72 (L : Nat) (xs : Nat → Int32) : ll_P L xs 29 72 = some (.inl (lo_push 73 (.int 4))) := (P_29 L xs 72).trans rfl
theorem p_29_73 (L : Nat) (xs : Nat → Int32) : ll_P L xs 29 73 = some (.inl (lo_cmp 97 76 (fun x y => decide (y ≤ x)))) := (P_29 L xs 73).trans rfl
theorem p_29_76 (L : Nat) (xs : Nat → Int32) : ll_P L xs 29 76 = some (.inl (lo_aload 77 0)) := (P_29 L xs 76).trans rfl
theorem p_29_77 (L : Nat) (xs : Nat → Int32) : ll_P L xs 29 77 = some (.inl (lo_getf 80 3 2)) := (P_29 L xs 77).trans rfl
theorem p_29_80 (L : Nat) (xs : Nat → Int32) : ll_P L xs 29 80 = some (.inl (lo_iload 81 1)) := (P_29 L xs 80).trans rfl
theorem p_29_81 (L : Nat) (xs : Nat → Int32) : ll_P L xs 29 81 = some (.inl (lo_new 84 7 2 [.null, .int 0])) := (P_29 L xs 81).trans rfl
theorem p_29_84 (L : Nat) (xs : Nat → Int32) : ll_P L xs 29 84 = some (.inl (lo_dup 85)) := (P_29 L xs 84).trans rfl
theorem p_29_85 (L : Nat) (xs : Nat → Int32) : ll_P L xs 29 85 = some (.inl (lo_push 87 (.int 30))) := (P_29 L xs 85).trans rfl
theorem p_29_87 (L : Nat) (xs : Nat → Int32) : ll_P L xs 29 87 = some (.inr (.inl (70, 2, 90))) := (P_29 L xs 87).trans rfl
theorem p_29_90 (L : Nat) (xs : Nat → Int32) : ll_P L xs 29 90 = some (.inl (lo_aast 91)) := (P_29 L xs 90).trans rfl
theorem p_29_91 (L : Nat) (xs : Nat → Int32) : ll_P L xs 29 91 = some (.inl (lo_iinc 94 1 1)) := (P_29 L xs 91).trans rfl
theorem p_29_94 (L : Nat) (xs : Nat → Int32) : ll_P L xs 29 94 = some (.inl (lo_goto 71)) := (P_29 L xs 94).trans rfl
theorem p_29_97 (L : Nat) (xs : Nat → Int32) : ll_P L xs 29 97 = some (.inr (.inr 0)) := (P_29 L xs 97).trans rfl
/-! InclusionProver$Room.become.(LInclusionProver$Room;)V -/
theorem p_30_0 (L : Nat) (xs : Nat → Int32) : ll_P L xs 30 0 = some (.inl (lo_aload 1 0)) := (P_30 L xs 0).trans rfl
theorem p_30_1 (L : Nat) (xs : Nat → Int32) : ll_P L xs 30 1 = some (.inl (lo_getf 4 3 0)) := (P_30 L xs 1).trans rfl
theorem p_30_4 (L : Nat) (xs : Nat → Int32) : ll_P L xs 30 4 = some (.inl (lo_aload 5 1)) := (P_30 L xs 4).trans rfl
theorem p_30_5 (L : Nat) (xs : Nat → Int32) : ll_P L xs 30 5 = some (.inl (lo_getf 8 3 0)) := (P_30 L xs 5).trans rfl
theorem p_30_8 (L : Nat) (xs : Nat → Int32) : ll_P L xs 30 8 = some (.inr (.inl (75, 2, 11))) := (P_30 L xs 8).trans rfl
theorem p_30_11 (L : Nat) (xs : Nat → Int32) : ll_P L xs 30 11 = some (.inl (lo_aload 12 0)) := (P_30 L xs 11).trans rfl
theorem p_30_12 (L : Nat) (xs : Nat → Int32) : ll_P L xs 30 12 = some (.inl (lo_aload 13 1)) := (P_30 L xs 12).trans rfl
theorem p_30_13 (L : Nat) (xs : Nat → Int32) : ll_P L xs 30 13 = some (.inl (lo_getf 16 3 4)) := (P_30 L xs 13).trans rfl
theorem p_30_16 (L : Nat) (xs : Nat → Int32) : ll_P L xs 30 16 = some (.inl (lo_putf 19 3 4 0)) := (P_30 L xs 16).trans rfl
theorem p_30_19 (L : Nat) (xs : Nat → Int32) : ll_P L xs 30 19 = some (.inl (lo_aload 20 0)) := (P_30 L xs 19).trans rfl
theorem p_30_20 (L : Nat) (xs : Nat → Int32) : ll_P L xs 30 20 = some (.inl (lo_getf 23 3 3)) := (P_30 L xs 20).trans rfl
theorem p_30_23 (L : Nat) (xs : Nat → Int32) : ll_P L xs 30 23 = some (.inl (lo_aload 24 1)) := (P_30 L xs 23).trans rfl
theorem p_30_24 (L : Nat) (xs : Nat → Int32) : ll_P L xs 30 24 = some (.inl (lo_getf 27 3 3)) := (P_30 L xs 24).trans rfl
theorem p_30_27 (L : Nat) (xs : Nat → Int32) : ll_P L xs 30 27 = some (.inr (.inl (20, 2, 30))) := (P_30 L xs 27).trans rfl
theorem p_30_30 (L : Nat) (xs : Nat → Int32) : ll_P L xs 30 30 = some (.inl (lo_push 31 (.int 0))) := (P_30 L xs 30).trans rfl
theorem p_30_31 (L : Nat) (xs : Nat → Int32) : ll_P L xs 30 31 = some (.inl (lo_istore 32 2)) := (P_30 L xs 31).trans rfl
theorem p_30_32 (L : Nat) (xs : Nat → Int32) : ll_P L xs 30 32 = some (.inl (lo_iload 33 2)) := (P_30 L xs 32).trans rfl
theorem p_30_33 (L : Nat) (xs : Nat → Int32) : ll_P L xs 30 33 = some (.inl (lo_push 34 (.int 2))) := (P_30 L xs 33).trans rfl
theorem p_30_34 (L : Nat) (xs : Nat → Int32) : ll_P L xs 30 34 = some (.inl (lo_cmp 58 37 (fun x y => decide (y ≤ x)))) := (P_30 L xs 34).trans rfl
theorem p_30_37 (L : Nat) (xs : Nat → Int32) : ll_P L xs 30 37 = some (.inl (lo_aload 38 0)) := (P_30 L xs 37).trans rfl
theorem p_30_38 (L : Nat) (xs : Nat → Int32) : ll_P L xs 30 38 = some (.inl (lo_getf 41 3 1)) := (P_30 L xs 38).trans rfl
theorem p_30_41 (L : Nat) (xs : Nat → Int32) : ll_P L xs 30 41 = some (.inl (lo_iload 42 2)) := (P_30 L xs 41).trans rfl
theorem p_30_42 (L : Nat) (xs : Nat → Int32) : ll_P L xs 30 42 = some (.inl (lo_aald 43)) := (P_30 L xs 42).trans rfl
theorem p_30_43 (L : Nat) (xs : Nat → Int32) : ll_P L xs 30 43 = some (.inl (lo_aload 44 1)) := (P_30 L xs 43).trans rfl
theorem p_30_44 (L : Nat) (xs : Nat → Int32) : ll_P L xs 30 44 = some (.inl (lo_getf 47 3 1)) := (P_30 L xs 44).trans rfl
theorem p_30_47 (L : Nat) (xs : Nat → Int32) : ll_P L xs 30 47 = some (.inl (lo_iload 48 2)) := (P_30 L xs 47).trans rfl
theorem p_30_48 (L : Nat) (xs : Nat → Int32) : ll_P L xs 30 48 = some (.inl (lo_aald 49)) := (P_30 L xs 48).trans rfl
theorem p_30_49 (L : Nat) (xs : Nat → Int32) : ll_P L xs 30 49 = some (.inr (.inl (44, 2, 52))) := (P_30 L xs 49).trans rfl
theorem p_30_52 (L : Nat) (xs : Nat → Int32) : ll_P L xs 30 52 = some (.inl (lo_iinc 55 2 1)) := (P_30 L xs 52).trans rfl
theorem p_30_55 (L : Nat) (xs : Nat → Int32) : ll_P L xs 30 55 = some (.inl (lo_goto 32)) := (P_30 L xs 55).trans rfl
theorem p_30_58 (L : Nat) (xs : Nat → Int32) : ll_P L xs 30 58 = some (.inl (lo_push 59 (.int 0))) := (P_30 L xs 58).trans rfl
theorem p_30_59 (L : Nat) (xs : Nat → Int32) : ll_P L xs 30 59 = some (.inl (lo_istore 60 2)) := (P_30 L xs 59).trans rfl
theorem p_30_60 (L : Nat) (xs : Nat → Int32) : ll_P L xs 30 60 = some (.inl (lo_iload 61 2)) := (P_30 L xs 60).trans rfl
theorem p_30_61 (L : Nat) (xs : Nat → Int32) : ll_P L xs 30 61 = some (.inl (lo_push 62 (.int 4))) := (P_30 L xs 61).trans rfl
theorem p_30_62 (L : Nat) (xs : Nat → Int32) : ll_P L xs 30 62 = some (.inl (lo_cmp 86 65 (fun x y => decide (y ≤ x)))) := (P_30 L xs 62).trans rfl
theorem p_30_65 (L : Nat) (xs : Nat → Int32) : ll_P L xs 30 65 = some (.inl (lo_aload 66 0)) := (P_30 L xs 65).trans rfl
theorem p_30_66 (L : Nat) (xs : Nat → Int32) : ll_P L xs 30 66 = some (.inl (lo_getf 69 3 2)) := (P_30 L xs 66).trans rfl
theorem p_30_69 (L : Nat) (xs : Nat → Int32) : ll_P L xs 30 69 = some (.inl (lo_iload 70 2)) := (P_30 L xs 69).trans rfl
theorem p_30_70 (L : Nat) (xs : Nat → Int32) : ll_P L xs 30 70 = some (.inl (lo_aald 71)) := (P_30 L xs 70).trans rfl
theorem p_30_71 (L : Nat) (xs : Nat → Int32) : ll_P L xs 30 71 = some (.inl (lo_aload 72 1)) := (P_30 L xs 71).trans rfl
theorem p_30_72 (L : Nat) (xs : Nat → Int32) : ll_P L xs 30 72 = some (.inl (lo_getf 75 3 2)) := (P_30 L xs 72).trans rfl
theorem p_30_75 (L : Nat) (xs : Nat → Int32) : ll_P L xs 30 75 = some (.inl (lo_iload 76 2)) := (P_30 L xs 75).trans rfl
theorem p_30_76 (L : Nat) (xs : Nat → Int32) : ll_P L xs 30 76 = some (.inl (lo_aald 77)) := (P_30 L xs 76).trans rfl
theorem p_30_77 (L : Nat) (xs : Nat → Int32) : ll_P L xs 30 77 = some (.inr (.inl (75, 2, 80))) := (P_30 L xs 77).trans rfl
theorem p_30_80 (L : Nat) (xs : Nat → Int32) : ll_P L xs 30 80 = some (.inl (lo_iinc 83 2 1)) := (P_30 L xs 80).trans rfl
theorem p_30_83 (L : Nat) (xs : Nat → Int32) : ll_P L xs 30 83 = some (.inl (lo_goto 60)) := (P_30 L xs 83).trans rfl
theorem p_30_86 (L : Nat) (xs : Nat → Int32) : ll_P L xs 30 86 = some (.inr (.inr 0)) := (P_30 L xs 86).trans rfl
theorem b_30_0 {Y : sY} {d : Nat} {s : sT} {K : Option Int32 → sT → Prop} {r0 : Nat} {r1 : Nat} (h : (∃ a1, (isO Y r0 3 ∧ s.2 r0 0 = some a1) ∧ (∃ a3, (isO Y r1 3 ∧ s.2 r1 0 = some a3) ∧ (isO Y a1 7 ∧ tT Y d 75 0 [.ref a1, .ref a3] [] s (fun r s1 => tT Y (d + 1) 30 11 [.ref r0, .ref r1, .null] ((r.map Value.int).toList ++ []) s1 K))))) : tT Y (d + 1) 30 0 [.ref r0, .ref r1, .null] [] s K :=
  (tt_aload (p_30_0 _ _) rfl).mpr (Exists.elim h (fun a1 h2 => t3_getr (p_30_1 _ _) (isI_3_0) h2.1.1 h2.1.2 ((tt_aload (p_30_4 _ _) rfl).mpr (Exists.elim h2.2 (fun a3 h4 => t3_getr (p_30_5 _ _) (isI_3_0) h4.1.1 h4.1.2 (t2_callv (z := 75) (k := 2) (i := a1) (as := [.ref a3]) (rest := []) (p_30_8 _ _) mK_75 mL_75 rfl rfl (Nat.le_of_ble_eq_true rfl) rfl (Nat.le_of_ble_eq_true rfl) h4.2.1 h4.2.2))))))
theorem b_30_11 {Y : sY} {d : Nat} {s : sT} {K : Option Int32 → sT → Prop} {r0 : Nat} {r1 : Nat} (h : (isO Y r1 3 ∧ (isO Y r0 3 ∧ (∃ a1, (isO Y r0 3 ∧ (pV s r0 4 (s.1 r1 4)).2 r0 3 = some a1) ∧ (∃ a3, (isO Y r1 3 ∧ (pV s r0 4 (s.1 r1 4)).2 r1 3 = some a3) ∧ (isO Y a1 1 ∧ tT Y d 20 0 [.ref a1, .ref a3] [] (pV s r0 4 (s.1 r1 4)) (fun r s1 => tT Y (d + 1) 30 30 [.ref r0, .ref r1, .null] ((r.map Value.int).toList ++ []) s1 K))))))) : tT Y (d + 1) 30 11 [.ref r0, .ref r1, .null] [] s K :=
  (tt_aload (p_30_11 _ _) rfl).mpr ((tt_aload (p_30_12 _ _) rfl).mpr (t3_geti (p_30_13 _ _) (isI_3_4) h.1 ((t2_puti (p_30_16 _ _) isI_3_4 h.2.1).mpr ((tt_aload (p_30_19 _ _) rfl).mpr (Exists.elim h.2.2 (fun a1 h2 => t3_getr (p_30_20 _ _) (isI_3_3) h2.1.1 h2.1.2 ((tt_aload (p_30_23 _ _) rfl).mpr (Exists.elim h2.2 (fun a3 h4 => t3_getr (p_30_24 _ _) (isI_3_3) h4.1.1 h4.1.2 (t2_callv (z := 20) (k := 2) (i := a1) (as := [.ref a3]) (rest := []) (p_30_27 _ _) mK_20 mL_20 rfl rfl (Nat.le_of_ble_eq_true rfl) rfl (Nat.le_of_ble_eq_true rfl) h4.2.1 h4.2.2))))))))))
theorem b_30_30 {Y : sY} {d : Nat} {s : sT} {K : Option Int32 → sT → Prop} {r0 : Nat} {r1 : Nat} (h : tT Y (d + 1) 30 32 [.ref r0, .ref r1, .int (0 : Int32)] [] s K) : tT Y (d + 1) 30 30 [.ref r0, .ref r1, .null] [] s K :=
  (tt_push (p_30_30 _ _)).mpr ((tt_istore (p_30_31 _ _) (Nat.le_of_ble_eq_true rfl) rfl rfl).mpr (h))
theorem b_30_32 {Y : sY} {d : Nat} {s : sT} {K : Option Int32 → sT → Prop} {r0 : Nat} {r1 : Nat} {x2 : Int32} (h : (if (2 : Int32) ≤ x2 then tT Y (d + 1) 30 60 [.ref r0, .ref r1, .int (0 : Int32)] [] s K else (∃ a2, (isO Y r0 3 ∧ s.2 r0 1 = some a2) ∧ (∃ c6 m4 a5, (isQ Y a2 c6 m4 ∧ inR x2 m4 ∧ s.2 a2 (x2).toNatClampNeg = some a5) ∧ (∃ a8, (isO Y r1 3 ∧ s.2 r1 1 = some a8) ∧ (∃ c12 m10 a11, (isQ Y a8 c12 m10 ∧ inR x2 m10 ∧ s.2 a8 (x2).toNatClampNeg = some a11) ∧ (isO Y a5 5 ∧ tT Y d 44 0 [.ref a5, .ref a11, .null] [] s (fun r s1 => tT Y (d + 1) 30 52 [.ref r0, .ref r1, .int x2] ((r.map Value.int).toList ++ []) s1 K)))))))) : tT Y (d + 1) 30 32 [.ref r0, .ref r1, .int x2] [] s K :=
  (tt_iload (p_30_32 _ _) rfl).mpr ((tt_push (p_30_33 _ _)).mpr (t3_cmp (p := (2 : Int32) ≤ x2) (p_30_34 _ _) rfl (fun g1 => (tt_push (p_30_58 _ _)).mpr ((tt_istore (p_30_59 _ _) (Nat.le_of_ble_eq_true rfl) rfl rfl).mpr ((ifp h g1)))) (fun g1 => (tt_aload (p_30_37 _ _) rfl).mpr (Exists.elim (ifn h g1) (fun a2 h3 => t3_getr (p_30_38 _ _) (isI_3_1) h3.1.1 h3.1.2 ((tt_iload (p_30_41 _ _) rfl).mpr (Exists.elim h3.2 (fun c6 h7q0 => Exists.elim h7q0 (fun m4 h7q1 => Exists.elim h7q1 (fun a5 h7 => t3_aald (p_30_42 _ _) h7.1.1 h7.1.2.1 h7.1.2.2 ((tt_aload (p_30_43 _ _) rfl).mpr (Exists.elim h7.2 (fun a8 h9 => t3_getr (p_30_44 _ _) (isI_3_1) h9.1.1 h9.1.2 ((tt_iload (p_30_47 _ _) rfl).mpr (Exists.elim h9.2 (fun c12 h13q0 => Exists.elim h13q0 (fun m10 h13q1 => Exists.elim h13q1 (fun a11 h13 => t3_aald (p_30_48 _ _) h13.1.1 h13.1.2.1 h13.1.2.2 (t2_callv (z := 44) (k := 2) (i := a5) (as := [.ref a11]) (rest := []) (p_30_49 _ _) mK_44 mL_44 rfl rfl (Nat.le_of_ble_eq_true rfl) rfl (Nat.le_of_ble_eq_true rfl) h13.2.1 h13.2.2)))))))))))))))))))
theorem b_30_52 {Y : sY} {d : Nat} {s : sT} {K : Option Int32 → sT → Prop} {r0 : Nat} {r1 : Nat} {x2 : Int32} (h : tT Y (d + 1) 30 32 [.ref r0, .ref r1, .int (x2 + 1)] [] s K) : tT Y (d + 1) 30 52 [.ref r0, .ref r1, .int x2] [] s K :=
  (tt_iinc (p_30_52 _ _) rfl rfl rfl).mpr ((tt_goto (p_30_55 _ _)).mpr (h))
theorem b_30_60 {Y : sY} {d : Nat} {s : sT} {K : Option Int32 → sT → Prop} {r0 : Nat} {r1 : Nat} {x2 : Int32} (h : (if (4 : Int32) ≤ x2 then K none s else (∃ a2, (isO Y r0 3 ∧ s.2 r0 2 = some a2) ∧ (∃ c6 m4 a5, (isQ Y a2 c6 m4 ∧ inR x2 m4 ∧ s.2 a2 (x2).toNatClampNeg = some a5) ∧ (∃ a8, (isO Y r1 3 ∧ s.2 r1 2 = some a8) ∧ (∃ c12 m10 a11, (isQ Y a8 c12 m10 ∧ inR x2 m10 ∧ s.2 a8 (x2).toNatClampNeg = some a11) ∧ (isO Y a5 7 ∧ tT Y d 75 0 [.ref a5, .ref a11] [] s (fun r s1 => tT Y (d + 1) 30 80 [.ref r0, .ref r1, .int x2] ((r.map Value.int).toList ++ []) s1 K)))))))) : tT Y (d + 1) 30 60 [.ref r0, .ref r1, .int x2] [] s K :=
  (tt_iload (p_30_60 _ _) rfl).mpr ((tt_push (p_30_61 _ _)).mpr (t3_cmp (p := (4 : Int32) ≤ x2) (p_30_62 _ _) rfl (fun g1 => tt_ret0 (p_30_86 _ _) (ifp h g1)) (fun g1 => (tt_aload (p_30_65 _ _) rfl).mpr (Exists.elim (ifn h g1) (fun a2 h3 => t3_getr (p_30_66 _ _) (isI_3_2) h3.1.1 h3.1.2 ((tt_iload (p_30_69 _ _) rfl).mpr (Exists.elim h3.2 (fun c6 h7q0 => Exists.elim h7q0 (fun m4 h7q1 => Exists.elim h7q1 (fun a5 h7 => t3_aald (p_30_70 _ _) h7.1.1 h7.1.2.1 h7.1.2.2 ((tt_aload (p_30_71 _ _) rfl).mpr (Exists.elim h7.2 (fun a8 h9 => t3_getr (p_30_72 _ _) (isI_3_2) h9.1.1 h9.1.2 ((tt_iload (p_30_75 _ _) rfl).mpr (Exists.elim h9.2 (fun c12 h13q0 => Exists.elim h13q0 (fun m10 h13q1 => Exists.elim h13q1 (fun a11 h13 => t3_aald (p_30_76 _ _) h13.1.1 h13.1.2.1 h13.1.2.2 (t2_callv (z := 75) (k := 2) (i := a5) (as := [.ref a11]) (rest := []) (p_30_77 _ _) mK_75 mL_75 rfl rfl (Nat.le_of_ble_eq_true rfl) rfl (Nat.le_of_ble_eq_true rfl) h13.2.1 h13.2.2)))))))))))))))))))
theorem b_30_80 {Y : sY} {d : Nat} {s : sT} {K : Option Int32 → sT → Prop} {r0 : Nat} {r1 : Nat} {x2 : Int32} (h : tT Y (d + 1) 30 60 [.ref r0, .ref r1, .int (x2 + 1)] [] s K) : tT Y (d + 1) 30 80 [.ref r0, .ref r1, .int x2] [] s K :=
  (tt_iinc (p_30_80 _ _) rfl rfl rfl).mpr ((tt_goto (p_30_83 _ _)).mpr (h))
/-! InclusionProver$Search.<init>.(LInclusionProver$Side;LInclusionProver$Side;LInclusionProver$Lines;)V -/
theorem p_31_0 (L : Nat) (xs : Nat → Int32) : ll_P L xs 31 0 = some (.inl (lo_aload 1 0)) := (P_31 L xs 0).trans rfl
theorem p_31_1 (L : Nat) (xs : Nat → Int32) : ll_P L xs 31 1 = some (.inl (lo_init 4)) := (P_31 L xs 1).trans rfl
theorem p_31_4 (L : Nat) (xs : Nat → Int32) : ll_P L xs 31 4 = some (.inl (lo_aload 5 0)) := (P_31 L xs 4).trans rfl
theorem p_31_5 (L : Nat) (xs : Nat → Int32) : ll_P L xs 31 5 = some (.inl (lo_push 8 (.int 300))) := (P_31 L xs 5).trans rfl
theorem p_31_8 (L : Nat) (xs : Nat → Int32) : ll_P L xs 31 8 = some (.inl (lo_newa 10 0)) := (P_31 L xs 8).trans rfl
theorem p_31_10 (L : Nat) (xs : Nat → Int32) : ll_P L xs 31 10 = some (.inl (lo_putf 13 4 0 2)) := (P_31 L xs 10).trans rfl
theorem p_31_13 (L : Nat) (xs : Nat → Int32) : ll_P L xs 31 13 = some (.inl (lo_aload 14 0)) := (P_31 L xs 13).trans rfl
theorem p_31_14 (L : Nat) (xs : Nat → Int32) : ll_P L xs 31 14 = some (.inl (lo_push 17 (.int 300))) := (P_31 L xs 14).trans rfl
theorem p_31_17 (L : Nat) (xs : Nat → Int32) : ll_P L xs 31 17 = some (.inl (lo_newa 19 0)) := (P_31 L xs 17).trans rfl
theorem p_31_19 (L : Nat) (xs : Nat → Int32) : ll_P L xs 31 19 = some (.inl (lo_putf 22 4 1 2)) := (P_31 L xs 19).trans rfl
theorem p_31_22 (L : Nat) (xs : Nat → Int32) : ll_P L xs 31 22 = some (.inl (lo_aload 23 0)) := (P_31 L xs 22).trans rfl
theorem p_31_23 (L : Nat) (xs : Nat → Int32) : ll_P L xs 31 23 = some (.inl (lo_push 26 (.int 300))) := (P_31 L xs 23).trans rfl
theorem p_31_26 (L : Nat) (xs : Nat → Int32) : ll_P L xs 31 26 = some (.inl (lo_newa 28 0)) := (P_31 L xs 26).trans rfl
theorem p_31_28 (L : Nat) (xs : Nat → Int32) : ll_P L xs 31 28 = some (.inl (lo_putf 31 4 2 2)) := (P_31 L xs 28).trans rfl
theorem p_31_31 (L : Nat) (xs : Nat → Int32) : ll_P L xs 31 31 = some (.inl (lo_aload 32 0)) := (P_31 L xs 31).trans rfl
theorem p_31_32 (L : Nat) (xs : Nat → Int32) : ll_P L xs 31 32 = some (.inl (lo_push 34 (.int 31))) := (P_31 L xs 32).trans rfl
theorem p_31_34 (L : Nat) (xs : Nat → Int32) : ll_P L xs 31 34 = some (.inl (lo_newa 36 0)) := (P_31 L xs 34).trans rfl
theorem p_31_36 (L : Nat) (xs : Nat → Int32) : ll_P L xs 31 36 = some (.inl (lo_putf 39 4 3 2)) := (P_31 L xs 36).trans rfl
theorem p_31_39 (L : Nat) (xs : Nat → Int32) : ll_P L xs 31 39 = some (.inl (lo_aload 40 0)) := (P_31 L xs 39).trans rfl
theorem p_31_40 (L : Nat) (xs : Nat → Int32) : ll_P L xs 31 40 = some (.inl (lo_push 42 (.int 31))) := (P_31 L xs 40).trans rfl
theorem p_31_42 (L : Nat) (xs : Nat → Int32) : ll_P L xs 31 42 = some (.inl (lo_newa 44 0)) := (P_31 L xs 42).trans rfl
theorem p_31_44 (L : Nat) (xs : Nat → Int32) : ll_P L xs 31 44 = some (.inl (lo_putf 47 4 4 2)) := (P_31 L xs 44).trans rfl
theorem p_31_47 (L : Nat) (xs : Nat → Int32) : ll_P L xs 31 47 = some (.inl (lo_aload 48 0)) := (P_31 L xs 47).trans rfl
theorem p_31_48 (L : Nat) (xs : Nat → Int32) : ll_P L xs 31 48 = some (.inl (lo_push 51 (.int 300))) := (P_31 L xs 48).trans rfl
theorem p_31_51 (L : Nat) (xs : Nat → Int32) : ll_P L xs 31 51 = some (.inl (lo_newa 53 0)) := (P_31 L xs 51).trans rfl
theorem p_31_53 (L : Nat) (xs : Nat → Int32) : ll_P L xs 31 53 = some (.inl (lo_putf 56 4 5 2)) := (P_31 L xs 53).trans rfl
theorem p_31_56 (L : Nat) (xs : Nat → Int32) : ll_P L xs 31 56 = some (.inl (lo_aload 57 0)) := (P_31 L xs 56).trans rfl
theorem p_31_57 (L : Nat) (xs : Nat → Int32) : ll_P L xs 31 57 = some (.inl (lo_push 59 (.int 31))) := (P_31 L xs 57).trans rfl
theorem p_31_59 (L : Nat) (xs : Nat → Int32) : ll_P L xs 31 59 = some (.inl (lo_newa 61 0)) := (P_31 L xs 59).trans rfl
theorem p_31_61 (L : Nat) (xs : Nat → Int32) : ll_P L xs 31 61 = some (.inl (lo_putf 64 4 6 2)) := (P_31 L xs 61).trans rfl
theorem p_31_64 (L : Nat) (xs : Nat → Int32) : ll_P L xs 31 64 = some (.inl (lo_aload 65 0)) := (P_31 L xs 64).trans rfl
theorem p_31_65 (L : Nat) (xs : Nat → Int32) : ll_P L xs 31 65 = some (.inl (lo_aload 66 1)) := (P_31 L xs 65).trans rfl
theorem p_31_66 (L : Nat) (xs : Nat → Int32) : ll_P L xs 31 66 = some (.inl (lo_putf 69 4 7 2)) := (P_31 L xs 66).trans rfl
theorem p_31_69 (L : Nat) (xs : Nat → Int32) : ll_P L xs 31 69 = some (.inl (lo_aload 70 0)) := (P_31 L xs 69).trans rfl
theorem p_31_70 (L : Nat) (xs : Nat → Int32) : ll_P L xs 31 70 = some (.inl (lo_aload 71 2)) := (P_31 L xs 70).trans rfl
theorem p_31_71 (L : Nat) (xs : Nat → Int32) : ll_P L xs 31 71 = some (.inl (lo_putf 74 4 8 2)) := (P_31 L xs 71).trans rfl
theorem p_31_74 (L : Nat) (xs : Nat → Int32) : ll_P L xs 31 74 = some (.inl (lo_aload 75 0)) := (P_31 L xs 74).trans rfl
theorem p_31_75 (L : Nat) (xs : Nat → Int32) : ll_P L xs 31 75 = some (.inl (lo_aload 76 3)) := (P_31 L xs 75).trans rfl
theorem p_31_76 (L : Nat) (xs : Nat → Int32) : ll_P L xs 31 76 = some (.inl (lo_putf 79 4 9 2)) := (P_31 L xs 76).trans rfl
theorem p_31_79 (L : Nat) (xs : Nat → Int32) : ll_P L xs 31 79 = some (.inr (.inr 0)) := (P_31 L xs 79).trans rfl
