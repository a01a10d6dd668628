/-! BLOCKS (written by wip/whole/blocks.py) -/
/-! InclusionProver$TermFinder.gatherNode.(ILInclusionProver$Side;I)V -/
theorem p_65_0 (L : Nat) (xs : Nat → Int32) : ll_P L xs 65 0 = some (.inl (lo_iload 1 3)) := (P_65 L xs 0).trans rfl
theorem p_65_1 (L : Nat) (xs : Nat → Int32) : ll_P L xs 65 1 = some (.inl (lo_push 3 (.int 40))) := (P_65 L xs 1).trans rfl
theorem p_65_3 (L : Nat) (xs : Nat → Int32) : ll_P L xs 65 3 = some (.inl (lo_cmp 7 6 (fun x y => decide (x ≤ y)))) := (P_65 L xs 3).trans rfl
theorem p_65_6 (L : Nat) (xs : Nat → Int32) : ll_P L xs 65 6 = some (.inr (.inr 0)) := (P_65 L xs 6).trans rfl
theorem p_65_7 (L : Nat) (xs : Nat → Int32) : ll_P L xs 65 7 = some (.inl (lo_aload 8 0)) := (P_65 L xs 7).trans rfl
theorem p_65_8 (L : Nat) (xs : Nat → Int32) : ll_P L xs 65 8 = some (.inl (lo_getf 11 6 5)) := (P_65 L xs 8).trans rfl
theorem p_65_11 (L : Nat) (xs : Nat → Int32) : ll_P L xs 65 11 = some (.inl (lo_istore 13 4)) := (P_65 L xs 11).trans rfl
theorem p_65_13 (L : Nat) (xs : Nat → Int32) : ll_P L xs 65 13 = some (.inl (lo_aload 14 0)) := (P_65 L xs 13).trans rfl
theorem p_65_14 (L : Nat) (xs : Nat → Int32) : ll_P L xs 65 14 = some (.inl (lo_getf 17 6 0)) := (P_65 L xs 14).trans rfl
theorem p_65_17 (L : Nat) (xs : Nat → Int32) : ll_P L xs 65 17 = some (.inl (lo_iload 18 1)) := (P_65 L xs 17).trans rfl
theorem p_65_18 (L : Nat) (xs : Nat → Int32) : ll_P L xs 65 18 = some (.inr (.inl (81, 2, 21))) := (P_65 L xs 18).trans rfl
theorem p_65_21 (L : Nat) (xs : Nat → Int32) : ll_P L xs 65 21 = some (.inl (lo_tab 1 [48, 91, 109] 140)) := (P_65 L xs 21).trans rfl
theorem p_65_48 (L : Nat) (xs : Nat → Int32) : ll_P L xs 65 48 = some (.inl (lo_push 49 (.int 0))) := (P_65 L xs 48).trans rfl
theorem p_65_49 (L : Nat) (xs : Nat → Int32) : ll_P L xs 65 49 = some (.inl (lo_istore 51 5)) := (P_65 L xs 49).trans rfl
theorem p_65_51 (L : Nat) (xs : Nat → Int32) : ll_P L xs 65 51 = some (.inl (lo_iload 53 5)) := (P_65 L xs 51).trans rfl
theorem p_65_53 (L : Nat) (xs : Nat → Int32) : ll_P L xs 65 53 = some (.inl (lo_aload 54 0)) := (P_65 L xs 53).trans rfl
theorem p_65_54 (L : Nat) (xs : Nat → Int32) : ll_P L xs 65 54 = some (.inl (lo_getf 57 6 0)) := (P_65 L xs 54).trans rfl
theorem p_65_57 (L : Nat) (xs : Nat → Int32) : ll_P L xs 65 57 = some (.inl (lo_iload 58 1)) := (P_65 L xs 57).trans rfl
theorem p_65_58 (L : Nat) (xs : Nat → Int32) : ll_P L xs 65 58 = some (.inr (.inl (82, 2, 61))) := (P_65 L xs 58).trans rfl
theorem p_65_61 (L : Nat) (xs : Nat → Int32) : ll_P L xs 65 61 = some (.inl (lo_cmp 88 64 (fun x y => decide (y ≤ x)))) := (P_65 L xs 61).trans rfl
theorem p_65_64 (L : Nat) (xs : Nat → Int32) : ll_P L xs 65 64 = some (.inl (lo_aload 65 0)) := (P_65 L xs 64).trans rfl
theorem p_65_65 (L : Nat) (xs : Nat → Int32) : ll_P L xs 65 65 = some (.inl (lo_aload 66 0)) := (P_65 L xs 65).trans rfl
theorem p_65_66 (L : Nat) (xs : Nat → Int32) : ll_P L xs 65 66 = some (.inl (lo_getf 69 6 0)) := (P_65 L xs 66).trans rfl
theorem p_65_69 (L : Nat) (xs : Nat → Int32) : ll_P L xs 65 69 = some (.inl (lo_iload 70 1)) := (P_65 L xs 69).trans rfl
theorem p_65_70 (L : Nat) (xs : Nat → Int32) : ll_P L xs 65 70 = some (.inl (lo_iload 72 5)) := (P_65 L xs 70).trans rfl
theorem p_65_72 (L : Nat) (xs : Nat → Int32) : ll_P L xs 65 72 = some (.inr (.inl (83, 3, 75))) := (P_65 L xs 72).trans rfl
theorem p_65_75 (L : Nat) (xs : Nat → Int32) : ll_P L xs 65 75 = some (.inl (lo_aload 76 2)) := (P_65 L xs 75).trans rfl
theorem p_65_76 (L : Nat) (xs : Nat → Int32) : ll_P L xs 65 76 = some (.inl (lo_iload 77 3)) := (P_65 L xs 76).trans rfl
theorem p_65_77 (L : Nat) (xs : Nat → Int32) : ll_P L xs 65 77 = some (.inl (lo_push 78 (.int 1))) := (P_65 L xs 77).trans rfl
theorem p_65_78 (L : Nat) (xs : Nat → Int32) : ll_P L xs 65 78 = some (.inl (lo_bin 79 (fun x y => x + y))) := (P_65 L xs 78).trans rfl
theorem p_65_79 (L : Nat) (xs : Nat → Int32) : ll_P L xs 65 79 = some (.inr (.inl (65, 4, 82))) := (P_65 L xs 79).trans rfl
theorem p_65_82 (L : Nat) (xs : Nat → Int32) : ll_P L xs 65 82 = some (.inl (lo_iinc 85 5 1)) := (P_65 L xs 82).trans rfl
theorem p_65_85 (L : Nat) (xs : Nat → Int32) : ll_P L xs 65 85 = some (.inl (lo_goto 51)) := (P_65 L xs 85).trans rfl
theorem p_65_88 (L : Nat) (xs : Nat → Int32) : ll_P L xs 65 88 = some (.inl (lo_goto 156)) := (P_65 L xs 88).trans rfl
theorem p_65_91 (L : Nat) (xs : Nat → Int32) : ll_P L xs 65 91 = some (.inl (lo_aload 92 0)) := (P_65 L xs 91).trans rfl
theorem p_65_92 (L : Nat) (xs : Nat → Int32) : ll_P L xs 65 92 = some (.inl (lo_iload 93 1)) := (P_65 L xs 92).trans rfl
theorem p_65_93 (L : Nat) (xs : Nat → Int32) : ll_P L xs 65 93 = some (.inr (.inl (66, 2, 96))) := (P_65 L xs 93).trans rfl
theorem p_65_96 (L : Nat) (xs : Nat → Int32) : ll_P L xs 65 96 = some (.inl (lo_aload 97 0)) := (P_65 L xs 96).trans rfl
theorem p_65_97 (L : Nat) (xs : Nat → Int32) : ll_P L xs 65 97 = some (.inl (lo_iload 99 4)) := (P_65 L xs 97).trans rfl
theorem p_65_99 (L : Nat) (xs : Nat → Int32) : ll_P L xs 65 99 = some (.inl (lo_aload 100 2)) := (P_65 L xs 99).trans rfl
theorem p_65_100 (L : Nat) (xs : Nat → Int32) : ll_P L xs 65 100 = some (.inl (lo_iload 101 3)) := (P_65 L xs 100).trans rfl
theorem p_65_101 (L : Nat) (xs : Nat → Int32) : ll_P L xs 65 101 = some (.inl (lo_push 102 (.int 1))) := (P_65 L xs 101).trans rfl
theorem p_65_102 (L : Nat) (xs : Nat → Int32) : ll_P L xs 65 102 = some (.inl (lo_bin 103 (fun x y => x + y))) := (P_65 L xs 102).trans rfl
theorem p_65_103 (L : Nat) (xs : Nat → Int32) : ll_P L xs 65 103 = some (.inr (.inl (64, 4, 106))) := (P_65 L xs 103).trans rfl
theorem p_65_106 (L : Nat) (xs : Nat → Int32) : ll_P L xs 65 106 = some (.inl (lo_goto 156)) := (P_65 L xs 106).trans rfl
theorem p_65_109 (L : Nat) (xs : Nat → Int32) : ll_P L xs 65 109 = some (.inl (lo_aload 110 0)) := (P_65 L xs 109).trans rfl
theorem p_65_110 (L : Nat) (xs : Nat → Int32) : ll_P L xs 65 110 = some (.inl (lo_iload 111 1)) := (P_65 L xs 110).trans rfl
theorem p_65_111 (L : Nat) (xs : Nat → Int32) : ll_P L xs 65 111 = some (.inr (.inl (67, 2, 114))) := (P_65 L xs 111).trans rfl
theorem p_65_114 (L : Nat) (xs : Nat → Int32) : ll_P L xs 65 114 = some (.inl (lo_aload 115 0)) := (P_65 L xs 114).trans rfl
theorem p_65_115 (L : Nat) (xs : Nat → Int32) : ll_P L xs 65 115 = some (.inl (lo_aload 116 0)) := (P_65 L xs 115).trans rfl
theorem p_65_116 (L : Nat) (xs : Nat → Int32) : ll_P L xs 65 116 = some (.inl (lo_getf 119 6 0)) := (P_65 L xs 116).trans rfl
theorem p_65_119 (L : Nat) (xs : Nat → Int32) : ll_P L xs 65 119 = some (.inl (lo_iload 120 1)) := (P_65 L xs 119).trans rfl
theorem p_65_120 (L : Nat) (xs : Nat → Int32) : ll_P L xs 65 120 = some (.inl (lo_push 121 (.int 0))) := (P_65 L xs 120).trans rfl
theorem p_65_121 (L : Nat) (xs : Nat → Int32) : ll_P L xs 65 121 = some (.inr (.inl (83, 3, 124))) := (P_65 L xs 121).trans rfl
theorem p_65_124 (L : Nat) (xs : Nat → Int32) : ll_P L xs 65 124 = some (.inl (lo_aload 125 2)) := (P_65 L xs 124).trans rfl
theorem p_65_125 (L : Nat) (xs : Nat → Int32) : ll_P L xs 65 125 = some (.inl (lo_iload 126 3)) := (P_65 L xs 125).trans rfl
theorem p_65_126 (L : Nat) (xs : Nat → Int32) : ll_P L xs 65 126 = some (.inl (lo_push 127 (.int 1))) := (P_65 L xs 126).trans rfl
theorem p_65_127 (L : Nat) (xs : Nat → Int32) : ll_P L xs 65 127 = some (.inl (lo_bin 128 (fun x y => x + y))) := (P_65 L xs 127).trans rfl
theorem p_65_128 (L : Nat) (xs : Nat → Int32) : ll_P L xs 65 128 = some (.inr (.inl (65, 4, 131))) := (P_65 L xs 128).trans rfl
theorem p_65_131 (L : Nat) (xs : Nat → Int32) : ll_P L xs 65 131 = some (.inl (lo_aload 132 0)) := (P_65 L xs 131).trans rfl
theorem p_65_132 (L : Nat) (xs : Nat → Int32) : ll_P L xs 65 132 = some (.inl (lo_iload 134 4)) := (P_65 L xs 132).trans rfl
theorem p_65_134 (L : Nat) (xs : Nat → Int32) : ll_P L xs 65 134 = some (.inl (lo_putf 137 6 5 0)) := (P_65 L xs 134).trans rfl
theorem p_65_137 (L : Nat) (xs : Nat → Int32) : ll_P L xs 65 137 = some (.inl (lo_goto 156)) := (P_65 L xs 137).trans rfl
theorem p_65_140 (L : Nat) (xs : Nat → Int32) : ll_P L xs 65 140 = some (.inl (lo_iload 141 1)) := (P_65 L xs 140).trans rfl
theorem p_65_141 (L : Nat) (xs : Nat → Int32) : ll_P L xs 65 141 = some (.inl (lo_aload 142 0)) := (P_65 L xs 141).trans rfl
theorem p_65_142 (L : Nat) (xs : Nat → Int32) : ll_P L xs 65 142 = some (.inl (lo_getf 145 6 7)) := (P_65 L xs 142).trans rfl
theorem p_65_145 (L : Nat) (xs : Nat → Int32) : ll_P L xs 65 145 = some (.inl (lo_cmp 156 148 (fun x y => decide (¬ x = y)))) := (P_65 L xs 145).trans rfl
theorem p_65_148 (L : Nat) (xs : Nat → Int32) : ll_P L xs 65 148 = some (.inl (lo_aload 149 2)) := (P_65 L xs 148).trans rfl
theorem p_65_149 (L : Nat) (xs : Nat → Int32) : ll_P L xs 65 149 = some (.inl (lo_aload 150 0)) := (P_65 L xs 149).trans rfl
theorem p_65_150 (L : Nat) (xs : Nat → Int32) : ll_P L xs 65 150 = some (.inr (.inl (68, 1, 153))) := (P_65 L xs 150).trans rfl
theorem p_65_153 (L : Nat) (xs : Nat → Int32) : ll_P L xs 65 153 = some (.inr (.inl (42, 2, 156))) := (P_65 L xs 153).trans rfl
theorem p_65_156 (L : Nat) (xs : Nat → Int32) : ll_P L xs 65 156 = some (.inr (.inr 0)) := (P_65 L xs 156).trans rfl
theorem b_65_0 {Y : sY} {d : Nat} {s : sT} {K : Option Int32 → sT → Prop} {r0 : Nat} {x1 : Int32} {r2 : Nat} {x3 : Int32} (h : (if x3 ≤ (40 : Int32) then (isO Y r0 6 ∧ (∃ a2, (isO Y r0 6 ∧ s.2 r0 0 = some a2) ∧ (isO Y a2 8 ∧ tT Y d 81 0 [.ref a2, .int x1] [] s (fun r s1 => tT Y (d + 1) 65 21 [.ref r0, .int x1, .ref r2, .int x3, .int (s.1 r0 5), .null] ((r.map Value.int).toList ++ []) s1 K)))) else K none s)) : tT Y (d + 1) 65 0 [.ref r0, .int x1, .ref r2, .int x3, .null, .null] [] s K :=
  (tt_iload (p_65_0 _ _) rfl).mpr ((tt_push (p_65_1 _ _)).mpr (t3_cmp (p := x3 ≤ (40 : Int32)) (p_65_3 _ _) rfl (fun g1 => (tt_aload (p_65_7 _ _) rfl).mpr (t3_geti (p_65_8 _ _) (isI_6_5) (ifp h g1).1 ((tt_istore (p_65_11 _ _) (Nat.le_of_ble_eq_true rfl) rfl rfl).mpr ((tt_aload (p_65_13 _ _) rfl).mpr (Exists.elim (ifp h g1).2 (fun a2 h3 => t3_getr (p_65_14 _ _) (isI_6_0) h3.1.1 h3.1.2 ((tt_iload (p_65_17 _ _) rfl).mpr (t2_callv (z := 81) (k := 2) (i := a2) (as := [.int x1]) (rest := []) (p_65_18 _ _) mK_81 mL_81 rfl rfl (Nat.le_of_ble_eq_true rfl) rfl (Nat.le_of_ble_eq_true rfl) h3.2.1 h3.2.2)))))))) (fun g1 => tt_ret0 (p_65_6 _ _) (ifn h g1))))
theorem b_65_21 {Y : sY} {d : Nat} {s : sT} {K : Option Int32 → sT → Prop} {r0 : Nat} {x1 : Int32} {r2 : Nat} {x3 : Int32} {x4 : Int32} {t0 : Int32} (h : ((t0 = 1 → tT Y (d + 1) 65 51 [.ref r0, .int x1, .ref r2, .int x3, .int x4, .int (0 : Int32)] [] s K) ∧ (t0 = 2 → (isO Y r0 6 ∧ tT Y d 66 0 [.ref r0, .int x1, .null] [] s (fun r s1 => tT Y (d + 1) 65 96 [.ref r0, .int x1, .ref r2, .int x3, .int x4, .null] ((r.map Value.int).toList ++ []) s1 K))) ∧ (t0 = 3 → (isO Y r0 6 ∧ tT Y d 67 0 [.ref r0, .int x1] [] s (fun r s1 => tT Y (d + 1) 65 114 [.ref r0, .int x1, .ref r2, .int x3, .int x4, .null] ((r.map Value.int).toList ++ []) s1 K))) ∧ (¬ t0 = 1 ∧ ¬ t0 = 2 ∧ ¬ t0 = 3 → (isO Y r0 6 ∧ (if ¬ x1 = (s.1 r0 7) then tT Y (d + 1) 65 156 [.ref r0, .int x1, .ref r2, .int x3, .int x4, .null] [] s K else (isO Y r0 6 ∧ tT Y d 68 0 [.ref r0, .null, .null] [] s (fun r s1 => tT Y (d + 1) 65 153 [.ref r0, .int x1, .ref r2, .int x3, .int x4, .null] ((r.map Value.int).toList ++ [.ref r2]) s1 K))))))) : tT Y (d + 1) 65 21 [.ref r0, .int x1, .ref r2, .int x3, .int x4, .null] [.int t0] s K :=
  Decidable.byCases (p := t0 = 1) (fun g1 => t3_tab (t := 48) (p_65_21 _ _) (by rw [g1]; rfl) ((tt_push (p_65_48 _ _)).mpr ((tt_istore (p_65_49 _ _) (Nat.le_of_ble_eq_true rfl) rfl rfl).mpr ((h.1 g1))))) (fun g1n => Decidable.byCases (p := t0 = 2) (fun g2 => t3_tab (t := 91) (p_65_21 _ _) (by rw [g2]; rfl) ((tt_aload (p_65_91 _ _) rfl).mpr ((tt_iload (p_65_92 _ _) rfl).mpr (t2_callv (z := 66) (k := 2) (i := r0) (as := [.int x1]) (rest := []) (p_65_93 _ _) mK_66 mL_66 rfl rfl (Nat.le_of_ble_eq_true rfl) rfl (Nat.le_of_ble_eq_true rfl) (h.2.1 g2).1 (h.2.1 g2).2)))) (fun g2n => Decidable.byCases (p := t0 = 3) (fun g3 => t3_tab (t := 109) (p_65_21 _ _) (by rw [g3]; rfl) ((tt_aload (p_65_109 _ _) rfl).mpr ((tt_iload (p_65_110 _ _) rfl).mpr (t2_callv (z := 67) (k := 2) (i := r0) (as := [.int x1]) (rest := []) (p_65_111 _ _) mK_67 mL_67 rfl rfl (Nat.le_of_ble_eq_true rfl) rfl (Nat.le_of_ble_eq_true rfl) (h.2.2.1 g3).1 (h.2.2.1 g3).2)))) (fun g3n => t3_tab (t := 140) (p_65_21 _ _) (t3_tabd (fun k hk => t3_tabk (lo := 1) (n := 3) (fun j (hj : j < 3) => by rcases (show j = 0 ∨ j = 1 ∨ j = 2 by omega) with rfl | rfl | rfl <;> assumption) k hk)) ((tt_iload (p_65_140 _ _) rfl).mpr ((tt_aload (p_65_141 _ _) rfl).mpr (t3_geti (p_65_142 _ _) (isI_6_7) (h.2.2.2 ⟨g1n, g2n, g3n⟩).1 (t3_cmp (p := ¬ x1 = (s.1 r0 7)) (p_65_145 _ _) rfl (fun g4 => (ifp (h.2.2.2 ⟨g1n, g2n, g3n⟩).2 g4)) (fun g4 => (tt_aload (p_65_148 _ _) rfl).mpr ((tt_aload (p_65_149 _ _) rfl).mpr (t2_callv (z := 68) (k := 1) (i := r0) (as := []) (rest := [.ref r2]) (p_65_150 _ _) mK_68 mL_68 rfl rfl (Nat.le_of_ble_eq_true rfl) rfl (Nat.le_of_ble_eq_true rfl) (ifn (h.2.2.2 ⟨g1n, g2n, g3n⟩).2 g4).1 (ifn (h.2.2.2 ⟨g1n, g2n, g3n⟩).2 g4).2))))))))))
theorem b_65_51 {Y : sY} {d : Nat} {s : sT} {K : Option Int32 → sT → Prop} {r0 : Nat} {x1 : Int32} {r2 : Nat} {x3 : Int32} {x4 : Int32} {x5 : Int32} (h : (∃ a1, (isO Y r0 6 ∧ s.2 r0 0 = some a1) ∧ (isO Y a1 8 ∧ tT Y d 82 0 [.ref a1, .int x1] [] s (fun r s1 => tT Y (d + 1) 65 61 [.ref r0, .int x1, .ref r2, .int x3, .int x4, .int x5] ((r.map Value.int).toList ++ [.int x5]) s1 K)))) : tT Y (d + 1) 65 51 [.ref r0, .int x1, .ref r2, .int x3, .int x4, .int x5] [] s K :=
  (tt_iload (p_65_51 _ _) rfl).mpr ((tt_aload (p_65_53 _ _) rfl).mpr (Exists.elim h (fun a1 h2 => t3_getr (p_65_54 _ _) (isI_6_0) h2.1.1 h2.1.2 ((tt_iload (p_65_57 _ _) rfl).mpr (t2_callv (z := 82) (k := 2) (i := a1) (as := [.int x1]) (rest := [.int x5]) (p_65_58 _ _) mK_82 mL_82 rfl rfl (Nat.le_of_ble_eq_true rfl) rfl (Nat.le_of_ble_eq_true rfl) h2.2.1 h2.2.2)))))
theorem b_65_61 {Y : sY} {d : Nat} {s : sT} {K : Option Int32 → sT → Prop} {r0 : Nat} {x1 : Int32} {r2 : Nat} {x3 : Int32} {x4 : Int32} {x5 : Int32} {t0 : Int32} {t1 : Int32} (h : (if t1 ≤ t0 then tT Y (d + 1) 65 156 [.ref r0, .int x1, .ref r2, .int x3, .int x4, .int x5] [] s K else (∃ a2, (isO Y r0 6 ∧ s.2 r0 0 = some a2) ∧ (isO Y a2 8 ∧ tT Y d 83 0 [.ref a2, .int x1, .int x5, .null] [] s (fun r s1 => tT Y (d + 1) 65 75 [.ref r0, .int x1, .ref r2, .int x3, .int x4, .int x5] ((r.map Value.int).toList ++ [.ref r0]) s1 K))))) : tT Y (d + 1) 65 61 [.ref r0, .int x1, .ref r2, .int x3, .int x4, .int x5] [.int t1, .int t0] s K :=
  t3_cmp (p := t1 ≤ t0) (p_65_61 _ _) rfl (fun g1 => (tt_goto (p_65_88 _ _)).mpr ((ifp h g1))) (fun g1 => (tt_aload (p_65_64 _ _) rfl).mpr ((tt_aload (p_65_65 _ _) rfl).mpr (Exists.elim (ifn h g1) (fun a2 h3 => t3_getr (p_65_66 _ _) (isI_6_0) h3.1.1 h3.1.2 ((tt_iload (p_65_69 _ _) rfl).mpr ((tt_iload (p_65_70 _ _) rfl).mpr (t2_callv (z := 83) (k := 3) (i := a2) (as := [.int x1, .int x5]) (rest := [.ref r0]) (p_65_72 _ _) mK_83 mL_83 rfl rfl (Nat.le_of_ble_eq_true rfl) rfl (Nat.le_of_ble_eq_true rfl) h3.2.1 h3.2.2)))))))
theorem b_65_75 {Y : sY} {d : Nat} {s : sT} {K : Option Int32 → sT → Prop} {r0 : Nat} {x1 : Int32} {r2 : Nat} {x3 : Int32} {x4 : Int32} {x5 : Int32} {t0 : Nat} {t1 : Int32} (h : (isO Y t0 6 ∧ tT Y d 65 0 [.ref t0, .int t1, .ref r2, .int (x3 + (1 : Int32)), .null, .null] [] s (fun r s1 => tT Y (d + 1) 65 82 [.ref r0, .int x1, .ref r2, .int x3, .int x4, .int x5] ((r.map Value.int).toList ++ []) s1 K))) : tT Y (d + 1) 65 75 [.ref r0, .int x1, .ref r2, .int x3, .int x4, .int x5] [.int t1, .ref t0] s K :=
  (tt_aload (p_65_75 _ _) rfl).mpr ((tt_iload (p_65_76 _ _) rfl).mpr ((tt_push (p_65_77 _ _)).mpr ((tt_bin (p_65_78 _ _)).mpr (t2_callv (z := 65) (k := 4) (i := t0) (as := [.int t1, .ref r2, .int (x3 + (1 : Int32))]) (rest := []) (p_65_79 _ _) mK_65 mL_65 rfl rfl (Nat.le_of_ble_eq_true rfl) rfl (Nat.le_of_ble_eq_true rfl) h.1 h.2))))
theorem b_65_82 {Y : sY} {d : Nat} {s : sT} {K : Option Int32 → sT → Prop} {r0 : Nat} {x1 : Int32} {r2 : Nat} {x3 : Int32} {x4 : Int32} {x5 : Int32} (h : tT Y (d + 1) 65 51 [.ref r0, .int x1, .ref r2, .int x3, .int x4, .int (x5 + 1)] [] s K) : tT Y (d + 1) 65 82 [.ref r0, .int x1, .ref r2, .int x3, .int x4, .int x5] [] s K :=
  (tt_iinc (p_65_82 _ _) rfl rfl rfl).mpr ((tt_goto (p_65_85 _ _)).mpr (h))
theorem b_65_96 {Y : sY} {d : Nat} {s : sT} {K : Option Int32 → sT → Prop} {r0 : Nat} {x1 : Int32} {r2 : Nat} {x3 : Int32} {x4 : Int32} (h : (isO Y r0 6 ∧ tT Y d 64 0 [.ref r0, .int x4, .ref r2, .int (x3 + (1 : Int32)), .null, .null, .null] [] s (fun r s1 => tT Y (d + 1) 65 106 [.ref r0, .int x1, .ref r2, .int x3, .int x4, .null] ((r.map Value.int).toList ++ []) s1 K))) : tT Y (d + 1) 65 96 [.ref r0, .int x1, .ref r2, .int x3, .int x4, .null] [] s K :=
  (tt_aload (p_65_96 _ _) rfl).mpr ((tt_iload (p_65_97 _ _) rfl).mpr ((tt_aload (p_65_99 _ _) rfl).mpr ((tt_iload (p_65_100 _ _) rfl).mpr ((tt_push (p_65_101 _ _)).mpr ((tt_bin (p_65_102 _ _)).mpr (t2_callv (z := 64) (k := 4) (i := r0) (as := [.int x4, .ref r2, .int (x3 + (1 : Int32))]) (rest := []) (p_65_103 _ _) mK_64 mL_64 rfl rfl (Nat.le_of_ble_eq_true rfl) rfl (Nat.le_of_ble_eq_true rfl) h.1 h.2))))))
theorem b_65_106 {Y : sY} {d : Nat} {s : sT} {K : Option Int32 → sT → Prop} {r0 : Nat} {x1 : Int32} {r2 : Nat} {x3 : Int32} {x4 : Int32} (h : tT Y (d + 1) 65 156 [.ref r0, .int x1, .ref r2, .int x3, .int x4, .null] [] s K) : tT Y (d + 1) 65 106 [.ref r0, .int x1, .ref r2, .int x3, .int x4, .null] [] s K :=
  (tt_goto (p_65_106 _ _)).mpr (h)
theorem b_65_114 {Y : sY} {d : Nat} {s : sT} {K : Option Int32 → sT → Prop} {r0 : Nat} {x1 : Int32} {r2 : Nat} {x3 : Int32} {x4 : Int32} (h : (∃ a1, (isO Y r0 6 ∧ s.2 r0 0 = some a1) ∧ (isO Y a1 8 ∧ tT Y d 83 0 [.ref a1, .int x1, .int (0 : Int32), .null] [] s (fun r s1 => tT Y (d + 1) 65 124 [.ref r0, .int x1, .ref r2, .int x3, .int x4, .null] ((r.map Value.int).toList ++ [.ref r0]) s1 K)))) : tT Y (d + 1) 65 114 [.ref r0, .int x1, .ref r2, .int x3, .int x4, .null] [] s K :=
  (tt_aload (p_65_114 _ _) rfl).mpr ((tt_aload (p_65_115 _ _) rfl).mpr (Exists.elim h (fun a1 h2 => t3_getr (p_65_116 _ _) (isI_6_0) h2.1.1 h2.1.2 ((tt_iload (p_65_119 _ _) rfl).mpr ((tt_push (p_65_120 _ _)).mpr (t2_callv (z := 83) (k := 3) (i := a1) (as := [.int x1, .int (0 : Int32)]) (rest := [.ref r0]) (p_65_121 _ _) mK_83 mL_83 rfl rfl (Nat.le_of_ble_eq_true rfl) rfl (Nat.le_of_ble_eq_true rfl) h2.2.1 h2.2.2))))))
theorem b_65_124 {Y : sY} {d : Nat} {s : sT} {K : Option Int32 → sT → Prop} {r0 : Nat} {x1 : Int32} {r2 : Nat} {x3 : Int32} {x4 : Int32} {t0 : Nat} {t1 : Int32} (h : (isO Y t0 6 ∧ tT Y d 65 0 [.ref t0, .int t1, .ref r2, .int (x3 + (1 : Int32)), .null, .null] [] s (fun r s1 => tT Y (d + 1) 65 131 [.ref r0, .int x1, .ref r2, .int x3, .int x4, .null] ((r.map Value.int).toList ++ []) s1 K))) : tT Y (d + 1) 65 124 [.ref r0, .int x1, .ref r2, .int x3, .int x4, .null] [.int t1, .ref t0] s K :=
  (tt_aload (p_65_124 _ _) rfl).mpr ((tt_iload (p_65_125 _ _) rfl).mpr ((tt_push (p_65_126 _ _)).mpr ((tt_bin (p_65_127 _ _)).mpr (t2_callv (z := 65) (k := 4) (i := t0) (as := [.int t1, .ref r2, .int (x3 + (1 : Int32))]) (rest := []) (p_65_128 _ _) mK_65 mL_65 rfl rfl (Nat.le_of_ble_eq_true rfl) rfl (Nat.le_of_ble_eq_true rfl) h.1 h.2))))
theorem b_65_131 {Y : sY} {d : Nat} {s : sT} {K : Option Int32 → sT → Prop} {r0 : Nat} {x1 : Int32} {r2 : Nat} {x3 : Int32} {x4 : Int32} (h : (isO Y r0 6 ∧ tT Y (d + 1) 65 156 [.ref r0, .int x1, .ref r2, .int x3, .int x4, .null] [] (pV s r0 5 x4) K)) : tT Y (d + 1) 65 131 [.ref r0, .int x1, .ref r2, .int x3, .int x4, .null] [] s K :=
  (tt_aload (p_65_131 _ _) rfl).mpr ((tt_iload (p_65_132 _ _) rfl).mpr ((t2_puti (p_65_134 _ _) isI_6_5 h.1).mpr ((tt_goto (p_65_137 _ _)).mpr (h.2))))
theorem b_65_153 {Y : sY} {d : Nat} {s : sT} {K : Option Int32 → sT → Prop} {r0 : Nat} {x1 : Int32} {r2 : Nat} {x3 : Int32} {x4 : Int32} {t0 : Nat} {t1 : Int32} (h : (isO Y t0 5 ∧ tT Y d 42 0 [.ref t0, .int t1, .null] [] s (fun r s1 => tT Y (d + 1) 65 156 [.ref r0, .int x1, .ref r2, .int x3, .int x4, .null] ((r.map Value.int).toList ++ []) s1 K))) : tT Y (d + 1) 65 153 [.ref r0, .int x1, .ref r2, .int x3, .int x4, .null] [.int t1, .ref t0] s K :=
  t2_callv (z := 42) (k := 2) (i := t0) (as := [.int t1]) (rest := []) (p_65_153 _ _) mK_42 mL_42 rfl rfl (Nat.le_of_ble_eq_true rfl) rfl (Nat.le_of_ble_eq_true rfl) h.1 h.2
theorem b_65_156 {Y : sY} {d : Nat} {s : sT} {K : Option Int32 → sT → Prop} {r0 : Nat} {x1 : Int32} {r2 : Nat} {x3 : Int32} {x4 : Int32} {u5 : Value} (h : K none s) : tT Y (d + 1) 65 156 [.ref r0, .int x1, .ref r2, .int x3, .int x4, u5] [] s K :=
  tt_ret0 (p_65_156 _ _) h
/-! InclusionProver$TermFinder.pushFactors.(I)V -/
theorem p_66_0 (L : Nat) (xs : Nat → Int32) : ll_P L xs 66 0 = some (.inl (lo_aload 1 0)) := (P_66 L xs 0).trans rfl
theorem p_66_1 (L : Nat) (xs : Nat → Int32) : ll_P L xs 66 1 = some (.inl (lo_getf 4 6 0)) := (P_66 L xs 1).trans rfl
theorem p_66_4 (L : Nat) (xs : Nat → Int32) : ll_P L xs 66 4 = some (.inl (lo_iload 5 1)) := (P_66 L xs 4).trans rfl
theorem p_66_5 (L : Nat) (xs : Nat → Int32) : ll_P L xs 66 5 = some (.inr (.inl (81, 2, 8))) := (P_66 L xs 5).trans rfl
theorem p_66_8 (L : Nat) (xs : Nat → Int32) : ll_P L xs 66 8 = some (.inl (lo_push 9 (.int 2))) := (P_66 L xs 8).trans rfl
theorem p_66_9 (L : Nat) (xs : Nat → Int32) : ll_P L xs 66 9 = some (.inl (lo_cmp 49 12 (fun x y => decide (¬ x = y)))) := (P_66 L xs 9).trans rfl
theorem p_66_12 (L : Nat) (xs : Nat → Int32) : ll_P L xs 66 12 = some (.inl (lo_aload 13 0)) := (P_66 L xs 12).trans rfl
theorem p_66_13 (L : Nat) (xs : Nat → Int32) : ll_P L xs 66 13 = some (.inl (lo_getf 16 6 0)) := (P_66 L xs 13).trans rfl
theorem p_66_16 (L : Nat) (xs : Nat → Int32) : ll_P L xs 66 16 = some (.inl (lo_iload 17 1)) := (P_66 L xs 16).trans rfl
theorem p_66_17 (L : Nat) (xs : Nat → Int32) : ll_P L xs 66 17 = some (.inr (.inl (82, 2, 20))) := (P_66 L xs 17).trans rfl
theorem p_66_20 (L : Nat) (xs : Nat → Int32) : ll_P L xs 66 20 = some (.inl (lo_push 21 (.int 1))) := (P_66 L xs 20).trans rfl
theorem p_66_21 (L : Nat) (xs : Nat → Int32) : ll_P L xs 66 21 = some (.inl (lo_bin 22 (fun x y => x - y))) := (P_66 L xs 21).trans rfl
theorem p_66_22 (L : Nat) (xs : Nat → Int32) : ll_P L xs 66 22 = some (.inl (lo_istore 23 2)) := (P_66 L xs 22).trans rfl
theorem p_66_23 (L : Nat) (xs : Nat → Int32) : ll_P L xs 66 23 = some (.inl (lo_iload 24 2)) := (P_66 L xs 23).trans rfl
theorem p_66_24 (L : Nat) (xs : Nat → Int32) : ll_P L xs 66 24 = some (.inl (lo_if 46 27 (fun x => decide (x < 0)))) := (P_66 L xs 24).trans rfl
theorem p_66_27 (L : Nat) (xs : Nat → Int32) : ll_P L xs 66 27 = some (.inl (lo_aload 28 0)) := (P_66 L xs 27).trans rfl
theorem p_66_28 (L : Nat) (xs : Nat → Int32) : ll_P L xs 66 28 = some (.inl (lo_aload 29 0)) := (P_66 L xs 28).trans rfl
theorem p_66_29 (L : Nat) (xs : Nat → Int32) : ll_P L xs 66 29 = some (.inl (lo_getf 32 6 0)) := (P_66 L xs 29).trans rfl
theorem p_66_32 (L : Nat) (xs : Nat → Int32) : ll_P L xs 66 32 = some (.inl (lo_iload 33 1)) := (P_66 L xs 32).trans rfl
theorem p_66_33 (L : Nat) (xs : Nat → Int32) : ll_P L xs 66 33 = some (.inl (lo_iload 34 2)) := (P_66 L xs 33).trans rfl
theorem p_66_34 (L : Nat) (xs : Nat → Int32) : ll_P L xs 66 34 = some (.inr (.inl (83, 3, 37))) := (P_66 L xs 34).trans rfl
theorem p_66_37 (L : Nat) (xs : Nat → Int32) : ll_P L xs 66 37 = some (.inr (.inl (67, 2, 40))) := (P_66 L xs 37).trans rfl
theorem p_66_40 (L : Nat) (xs : Nat → Int32) : ll_P L xs 66 40 = some (.inl (lo_iinc 43 2 (-1))) := (P_66 L xs 40).trans rfl
theorem p_66_43 (L : Nat) (xs : Nat → Int32) : ll_P L xs 66 43 = some (.inl (lo_goto 23)) := (P_66 L xs 43).trans rfl
theorem p_66_46 (L : Nat) (xs : Nat → Int32) : ll_P L xs 66 46 = some (.inl (lo_goto 59)) := (P_66 L xs 46).trans rfl
theorem p_66_49 (L : Nat) (xs : Nat → Int32) : ll_P L xs 66 49 = some (.inl (lo_iload 50 1)) := (P_66 L xs 49).trans rfl
theorem p_66_50 (L : Nat) (xs : Nat → Int32) : ll_P L xs 66 50 = some (.inl (lo_push 51 (.int 1))) := (P_66 L xs 50).trans rfl
theorem p_66_51 (L : Nat) (xs : Nat → Int32) : ll_P L xs 66 51 = some (.inl (lo_cmp 59 54 (fun x y => decide (x = y)))) := (P_66 L xs 51).trans rfl
theorem p_66_54 (L : Nat) (xs : Nat → Int32) : ll_P L xs 66 54 = some (.inl (lo_aload 55 0)) := (P_66 L xs 54).trans rfl
theorem p_66_55 (L : Nat) (xs : Nat → Int32) : ll_P L xs 66 55 = some (.inl (lo_iload 56 1)) := (P_66 L xs 55).trans rfl
theorem p_66_56 (L : Nat) (xs : Nat → Int32) : ll_P L xs 66 56 = some (.inr (.inl (67, 2, 59))) := (P_66 L xs 56).trans rfl
theorem p_66_59 (L : Nat) (xs : Nat → Int32) : ll_P L xs 66 59 = some (.inr (.inr 0)) := (P_66 L xs 59).trans rfl
theorem b_66_0 {Y : sY} {d : Nat} {s : sT} {K : Option Int32 → sT → Prop} {r0 : Nat} {x1 : Int32} (h : (∃ a1, (isO Y r0 6 ∧ s.2 r0 0 = some a1) ∧ (isO Y a1 8 ∧ tT Y d 81 0 [.ref a1, .int x1] [] s (fun r s1 => tT Y (d + 1) 66 8 [.ref r0, .int x1, .null] ((r.map Value.int).toList ++ []) s1 K)))) : tT Y (d + 1) 66 0 [.ref r0, .int x1, .null] [] s K :=
  (tt_aload (p_66_0 _ _) rfl).mpr (Exists.elim h (fun a1 h2 => t3_getr (p_66_1 _ _) (isI_6_0) h2.1.1 h2.1.2 ((tt_iload (p_66_4 _ _) rfl).mpr (t2_callv (z := 81) (k := 2) (i := a1) (as := [.int x1]) (rest := []) (p_66_5 _ _) mK_81 mL_81 rfl rfl (Nat.le_of_ble_eq_true rfl) rfl (Nat.le_of_ble_eq_true rfl) h2.2.1 h2.2.2))))
theorem b_66_8 {Y : sY} {d : Nat} {s : sT} {K : Option Int32 → sT → Prop} {r0 : Nat} {x1 : Int32} {t0 : Int32} (h : (if ¬ t0 = (2 : Int32) then (if x1 = (1 : Int32) then tT Y (d + 1) 66 59 [.ref r0, .int x1, .null] [] s K else (isO Y r0 6 ∧ tT Y d 67 0 [.ref r0, .int x1] [] s (fun r s1 => tT Y (d + 1) 66 59 [.ref r0, .int x1, .null] ((r.map Value.int).toList ++ []) s1 K))) else (∃ a3, (isO Y r0 6 ∧ s.2 r0 0 = some a3) ∧ (isO Y a3 8 ∧ tT Y d 82 0 [.ref a3, .int x1] [] s (fun r s1 => tT Y (d + 1) 66 20 [.ref r0, .int x1, .null] ((r.map Value.int).toList ++ []) s1 K))))) : tT Y (d + 1) 66 8 [.ref r0, .int x1, .null] [.int t0] s K :=
  (tt_push (p_66_8 _ _)).mpr (t3_cmp (p := ¬ t0 = (2 : Int32)) (p_66_9 _ _) rfl (fun g1 => (tt_iload (p_66_49 _ _) rfl).mpr ((tt_push (p_66_50 _ _)).mpr (t3_cmp (p := x1 = (1 : Int32)) (p_66_51 _ _) rfl (fun g2 => (ifp (ifp h g1) g2)) (fun g2 => (tt_aload (p_66_54 _ _) rfl).mpr ((tt_iload (p_66_55 _ _) rfl).mpr (t2_callv (z := 67) (k := 2) (i := r0) (as := [.int x1]) (rest := []) (p_66_56 _ _) mK_67 mL_67 rfl rfl (Nat.le_of_ble_eq_true rfl) rfl (Nat.le_of_ble_eq_true rfl) (ifn (ifp h g1) g2).1 (ifn (ifp h g1) g2).2)))))) (fun g1 => (tt_aload (p_66_12 _ _) rfl).mpr (Exists.elim (ifn h g1) (fun a3 h4 => t3_getr (p_66_13 _ _) (isI_6_0) h4.1.1 h4.1.2 ((tt_iload (p_66_16 _ _) rfl).mpr (t2_callv (z := 82) (k := 2) (i := a3) (as := [.int x1]) (rest := []) (p_66_17 _ _) mK_82 mL_82 rfl rfl (Nat.le_of_ble_eq_true rfl) rfl (Nat.le_of_ble_eq_true rfl) h4.2.1 h4.2.2))))))
theorem b_66_20 {Y : sY} {d : Nat} {s : sT} {K : Option Int32 → sT → Prop} {r0 : Nat} {x1 : Int32} {t0 : Int32} (h : tT Y (d + 1) 66 23 [.ref r0, .int x1, .int (t0 - (1 : Int32))] [] s K) : tT Y (d + 1) 66 20 [.ref r0, .int x1, .null] [.int t0] s K :=
  (tt_push (p_66_20 _ _)).mpr ((tt_bin (p_66_21 _ _)).mpr ((tt_istore (p_66_22 _ _) (Nat.le_of_ble_eq_true rfl) rfl rfl).mpr (h)))
theorem b_66_23 {Y : sY} {d : Nat} {s : sT} {K : Option Int32 → sT → Prop} {r0 : Nat} {x1 : Int32} {x2 : Int32} (h : (if x2 < 0 then tT Y (d + 1) 66 59 [.ref r0, .int x1, .int x2] [] s K else (∃ a2, (isO Y r0 6 ∧ s.2 r0 0 = some a2) ∧ (isO Y a2 8 ∧ tT Y d 83 0 [.ref a2, .int x1, .int x2, .null] [] s (fun r s1 => tT Y (d + 1) 66 37 [.ref r0, .int x1, .int x2] ((r.map Value.int).toList ++ [.ref r0]) s1 K))))) : tT Y (d + 1) 66 23 [.ref r0, .int x1, .int x2] [] s K :=
  (tt_iload (p_66_23 _ _) rfl).mpr (t3_if (p := x2 < 0) (p_66_24 _ _) rfl (fun g1 => (tt_goto (p_66_46 _ _)).mpr ((ifp h g1))) (fun g1 => (tt_aload (p_66_27 _ _) rfl).mpr ((tt_aload (p_66_28 _ _) rfl).mpr (Exists.elim (ifn h g1) (fun a2 h3 => t3_getr (p_66_29 _ _) (isI_6_0) h3.1.1 h3.1.2 ((tt_iload (p_66_32 _ _) rfl).mpr ((tt_iload (p_66_33 _ _) rfl).mpr (t2_callv (z := 83) (k := 3) (i := a2) (as := [.int x1, .int x2]) (rest := [.ref r0]) (p_66_34 _ _) mK_83 mL_83 rfl rfl (Nat.le_of_ble_eq_true rfl) rfl (Nat.le_of_ble_eq_true rfl) h3.2.1 h3.2.2))))))))
theorem b_66_37 {Y : sY} {d : Nat} {s : sT} {K : Option Int32 → sT → Prop} {r0 : Nat} {x1 : Int32} {x2 : Int32} {t0 : Nat} {t1 : Int32} (h : (isO Y t0 6 ∧ tT Y d 67 0 [.ref t0, .int t1] [] s (fun r s1 => tT Y (d + 1) 66 40 [.ref r0, .int x1, .int x2] ((r.map Value.int).toList ++ []) s1 K))) : tT Y (d + 1) 66 37 [.ref r0, .int x1, .int x2] [.int t1, .ref t0] s K :=
  t2_callv (z := 67) (k := 2) (i := t0) (as := [.int t1]) (rest := []) (p_66_37 _ _) mK_67 mL_67 rfl rfl (Nat.le_of_ble_eq_true rfl) rfl (Nat.le_of_ble_eq_true rfl) h.1 h.2
theorem b_66_40 {Y : sY} {d : Nat} {s : sT} {K : Option Int32 → sT → Prop} {r0 : Nat} {x1 : Int32} {x2 : Int32} (h : tT Y (d + 1) 66 23 [.ref r0, .int x1, .int (x2 + (-1))] [] s K) : tT Y (d + 1) 66 40 [.ref r0, .int x1, .int x2] [] s K :=
  (tt_iinc (p_66_40 _ _) rfl rfl rfl).mpr ((tt_goto (p_66_43 _ _)).mpr (h))
theorem b_66_59 {Y : sY} {d : Nat} {s : sT} {K : Option Int32 → sT → Prop} {r0 : Nat} {x1 : Int32} {u2 : Value} (h : K none s) : tT Y (d + 1) 66 59 [.ref r0, .int x1, u2] [] s K :=
  tt_ret0 (p_66_59 _ _) h
/-! InclusionProver$TermFinder.push.(I)V -/
theorem p_67_0 (L : Nat) (xs : Nat → Int32) : ll_P L xs 67 0 = some (.inl (lo_aload 1 0)) := (P_67 L xs 0).trans rfl
theorem p_67_1 (L : Nat) (xs : Nat → Int32) : ll_P L xs 67 1 = some (.inl (lo_getf 4 6 5)) := (P_67 L xs 1).trans rfl
theorem p_67_4 (L : Nat) (xs : Nat → Int32) : ll_P L xs 67 4 = some (.inl (lo_push 7 (.int 192))) := (P_67 L xs 4).trans rfl
theorem p_67_7 (L : Nat) (xs : Nat → Int32) : ll_P L xs 67 7 = some (.inl (lo_cmp 30 10 (fun x y => decide (y ≤ x)))) := (P_67 L xs 7).trans rfl
theorem p_67_10 (L : Nat) (xs : Nat → Int32) : ll_P L xs 67 10 = some (.inl (lo_aload 11 0)) := (P_67 L xs 10).trans rfl
theorem p_67_11 (L : Nat) (xs : Nat → Int32) : ll_P L xs 67 11 = some (.inl (lo_getf 14 6 3)) := (P_67 L xs 11).trans rfl
theorem p_67_14 (L : Nat) (xs : Nat → Int32) : ll_P L xs 67 14 = some (.inl (lo_aload 15 0)) := (P_67 L xs 14).trans rfl
theorem p_67_15 (L : Nat) (xs : Nat → Int32) : ll_P L xs 67 15 = some (.inl (lo_getf 18 6 5)) := (P_67 L xs 15).trans rfl
theorem p_67_18 (L : Nat) (xs : Nat → Int32) : ll_P L xs 67 18 = some (.inl (lo_iload 19 1)) := (P_67 L xs 18).trans rfl
theorem p_67_19 (L : Nat) (xs : Nat → Int32) : ll_P L xs 67 19 = some (.inl (lo_ast 20 0)) := (P_67 L xs 19).trans rfl
theorem p_67_20 (L : Nat) (xs : Nat → Int32) : ll_P L xs 67 20 = some (.inl (lo_aload 21 0)) := (P_67 L xs 20).trans rfl
theorem p_67_21 (L : Nat) (xs : Nat → Int32) : ll_P L xs 67 21 = some (.inl (lo_dup 22)) := (P_67 L xs 21).trans rfl
theorem p_67_22 (L : Nat) (xs : Nat → Int32) : ll_P L xs 67 22 = some (.inl (lo_getf 25 6 5)) := (P_67 L xs 22).trans rfl
theorem p_67_25 (L : Nat) (xs : Nat → Int32) : ll_P L xs 67 25 = some (.inl (lo_push 26 (.int 1))) := (P_67 L xs 25).trans rfl
theorem p_67_26 (L : Nat) (xs : Nat → Int32) : ll_P L xs 67 26 = some (.inl (lo_bin 27 (fun x y => x + y))) := (P_67 L xs 26).trans rfl
theorem p_67_27 (L : Nat) (xs : Nat → Int32) : ll_P L xs 67 27 = some (.inl (lo_putf 30 6 5 0)) := (P_67 L xs 27).trans rfl
theorem p_67_30 (L : Nat) (xs : Nat → Int32) : ll_P L xs 67 30 = some (.inr (.inr 0)) := (P_67 L xs 30).trans rfl
theorem b_67_0 {Y : sY} {d : Nat} {s : sT} {K : Option Int32 → sT → Prop} {r0 : Nat} {x1 : Int32} (h : (isO Y r0 6 ∧ (if (192 : Int32) ≤ (s.1 r0 5) then K none s else (∃ a2, (isO Y r0 6 ∧ s.2 r0 3 = some a2) ∧ (isO Y r0 6 ∧ (∃ m4, (isA Y a2 0 m4 ∧ inR (s.1 r0 5) m4) ∧ (isO Y r0 6 ∧ (isO Y r0 6 ∧ K none (pV (pV s a2 ((s.1 r0 5)).toNatClampNeg x1) r0 5 (((pV s a2 ((s.1 r0 5)).toNatClampNeg x1).1 r0 5) + (1 : Int32))))))))))) : tT Y d 67 0 [.ref r0, .int x1] [] s K :=
  (tt_aload (p_67_0 _ _) rfl).mpr (t3_geti (p_67_1 _ _) (isI_6_5) h.1 ((tt_push (p_67_4 _ _)).mpr (t3_cmp (p := (192 : Int32) ≤ (s.1 r0 5)) (p_67_7 _ _) rfl (fun g1 => tt_ret0 (p_67_30 _ _) (ifp h.2 g1)) (fun g1 => (tt_aload (p_67_10 _ _) rfl).mpr (Exists.elim (ifn h.2 g1) (fun a2 h3 => t3_getr (p_67_11 _ _) (isI_6_3) h3.1.1 h3.1.2 ((tt_aload (p_67_14 _ _) rfl).mpr (t3_geti (p_67_15 _ _) (isI_6_5) h3.2.1 ((tt_iload (p_67_18 _ _) rfl).mpr (Exists.elim h3.2.2 (fun m4 h5 => t3_ast (p_67_19 _ _) h5.1.1 h5.1.2 ((tt_aload (p_67_20 _ _) rfl).mpr ((tt_dupr (p_67_21 _ _)).mpr (t3_geti (p_67_22 _ _) (isI_6_5) h5.2.1 ((tt_push (p_67_25 _ _)).mpr ((tt_bin (p_67_26 _ _)).mpr ((t2_puti (p_67_27 _ _) isI_6_5 h5.2.2.1).mpr (tt_ret0 (p_67_30 _ _) h5.2.2.2))))))))))))))))))
/-! InclusionProver$TermFinder.numberOfTerm.()I -/
theorem p_68_0 (L : Nat) (xs : Nat → Int32) : ll_P L xs 68 0 = some (.inl (lo_push 1 (.int 0))) := (P_68 L xs 0).trans rfl
theorem p_68_1 (L : Nat) (xs : Nat → Int32) : ll_P L xs 68 1 = some (.inl (lo_istore 2 1)) := (P_68 L xs 1).trans rfl
theorem p_68_2 (L : Nat) (xs : Nat → Int32) : ll_P L xs 68 2 = some (.inl (lo_iload 3 1)) := (P_68 L xs 2).trans rfl
theorem p_68_3 (L : Nat) (xs : Nat → Int32) : ll_P L xs 68 3 = some (.inl (lo_aload 4 0)) := (P_68 L xs 3).trans rfl
theorem p_68_4 (L : Nat) (xs : Nat → Int32) : ll_P L xs 68 4 = some (.inl (lo_getf 7 6 6)) := (P_68 L xs 4).trans rfl
theorem p_68_7 (L : Nat) (xs : Nat → Int32) : ll_P L xs 68 7 = some (.inl (lo_cmp 26 10 (fun x y => decide (y ≤ x)))) := (P_68 L xs 7).trans rfl
theorem p_68_10 (L : Nat) (xs : Nat → Int32) : ll_P L xs 68 10 = some (.inl (lo_aload 11 0)) := (P_68 L xs 10).trans rfl
theorem p_68_11 (L : Nat) (xs : Nat → Int32) : ll_P L xs 68 11 = some (.inl (lo_iload 12 1)) := (P_68 L xs 11).trans rfl
theorem p_68_12 (L : Nat) (xs : Nat → Int32) : ll_P L xs 68 12 = some (.inr (.inl (69, 2, 15))) := (P_68 L xs 12).trans rfl
theorem p_68_15 (L : Nat) (xs : Nat → Int32) : ll_P L xs 68 15 = some (.inl (lo_if 20 18 (fun x => decide (x = 0)))) := (P_68 L xs 15).trans rfl
theorem p_68_18 (L : Nat) (xs : Nat → Int32) : ll_P L xs 68 18 = some (.inl (lo_iload 19 1)) := (P_68 L xs 18).trans rfl
theorem p_68_19 (L : Nat) (xs : Nat → Int32) : ll_P L xs 68 19 = some (.inr (.inr 1)) := (P_68 L xs 19).trans rfl
theorem p_68_20 (L : Nat) (xs : Nat → Int32) : ll_P L xs 68 20 = some (.inl (lo_iinc 23 1 1)) := (P_68 L xs 20).trans rfl
theorem p_68_23 (L : Nat) (xs : Nat → Int32) : ll_P L xs 68 23 = some (.inl (lo_goto 2)) := (P_68 L xs 23).trans rfl
theorem p_68_26 (L : Nat) (xs : Nat → Int32) : ll_P L xs 68 26 = some (.inl (lo_aload 27 0)) := (P_68 L xs 26).trans rfl
theorem p_68_27 (L : Nat) (xs : Nat → Int32) : ll_P L xs 68 27 = some (.inl (lo_getf 30 6 6)) := (P_68 L xs 27).trans rfl
theorem p_68_30 (L : Nat) (xs : Nat → Int32) : ll_P L xs 68 30 = some (.inl (lo_push 32 (.int 31))) := (P_68 L xs 30).trans rfl
theorem p_68_32 (L : Nat) (xs : Nat → Int32) : ll_P L xs 68 32 = some (.inl (lo_cmp 44 35 (fun x y => decide (y ≤ x)))) := (P_68 L xs 32).trans rfl
theorem p_68_35 (L : Nat) (xs : Nat → Int32) : ll_P L xs 68 35 = some (.inl (lo_aload 36 0)) := (P_68 L xs 35).trans rfl
theorem p_68_36 (L : Nat) (xs : Nat → Int32) : ll_P L xs 68 36 = some (.inl (lo_getf 39 6 5)) := (P_68 L xs 36).trans rfl
theorem p_68_39 (L : Nat) (xs : Nat → Int32) : ll_P L xs 68 39 = some (.inl (lo_push 41 (.int 64))) := (P_68 L xs 39).trans rfl
theorem p_68_41 (L : Nat) (xs : Nat → Int32) : ll_P L xs 68 41 = some (.inl (lo_cmp 46 44 (fun x y => decide (x ≤ y)))) := (P_68 L xs 41).trans rfl
theorem p_68_44 (L : Nat) (xs : Nat → Int32) : ll_P L xs 68 44 = some (.inl (lo_push 45 (.int (-1)))) := (P_68 L xs 44).trans rfl
theorem p_68_45 (L : Nat) (xs : Nat → Int32) : ll_P L xs 68 45 = some (.inr (.inr 1)) := (P_68 L xs 45).trans rfl
theorem p_68_46 (L : Nat) (xs : Nat → Int32) : ll_P L xs 68 46 = some (.inl (lo_aload 47 0)) := (P_68 L xs 46).trans rfl
theorem p_68_47 (L : Nat) (xs : Nat → Int32) : ll_P L xs 68 47 = some (.inl (lo_getf 50 6 6)) := (P_68 L xs 47).trans rfl
theorem p_68_50 (L : Nat) (xs : Nat → Int32) : ll_P L xs 68 50 = some (.inl (lo_istore 51 1)) := (P_68 L xs 50).trans rfl
theorem p_68_51 (L : Nat) (xs : Nat → Int32) : ll_P L xs 68 51 = some (.inl (lo_aload 52 0)) := (P_68 L xs 51).trans rfl
theorem p_68_52 (L : Nat) (xs : Nat → Int32) : ll_P L xs 68 52 = some (.inl (lo_dup 53)) := (P_68 L xs 52).trans rfl
theorem p_68_53 (L : Nat) (xs : Nat → Int32) : ll_P L xs 68 53 = some (.inl (lo_getf 56 6 6)) := (P_68 L xs 53).trans rfl
theorem p_68_56 (L : Nat) (xs : Nat → Int32) : ll_P L xs 68 56 = some (.inl (lo_push 57 (.int 1))) := (P_68 L xs 56).trans rfl
theorem p_68_57 (L : Nat) (xs : Nat → Int32) : ll_P L xs 68 57 = some (.inl (lo_bin 58 (fun x y => x + y))) := (P_68 L xs 57).trans rfl
theorem p_68_58 (L : Nat) (xs : Nat → Int32) : ll_P L xs 68 58 = some (.inl (lo_putf 61 6 6 0)) := (P_68 L xs 58).trans rfl
theorem p_68_61 (L : Nat) (xs : Nat → Int32) : ll_P L xs 68 61 = some (.inl (lo_aload 62 0)) := (P_68 L xs 61).trans rfl
theorem p_68_62 (L : Nat) (xs : Nat → Int32) : ll_P L xs 68 62 = some (.inl (lo_getf 65 6 2)) := (P_68 L xs 62).trans rfl
theorem p_68_65 (L : Nat) (xs : Nat → Int32) : ll_P L xs 68 65 = some (.inl (lo_iload 66 1)) := (P_68 L xs 65).trans rfl
theorem p_68_66 (L : Nat) (xs : Nat → Int32) : ll_P L xs 68 66 = some (.inl (lo_aload 67 0)) := (P_68 L xs 66).trans rfl
theorem p_68_67 (L : Nat) (xs : Nat → Int32) : ll_P L xs 68 67 = some (.inl (lo_getf 70 6 5)) := (P_68 L xs 67).trans rfl
theorem p_68_70 (L : Nat) (xs : Nat → Int32) : ll_P L xs 68 70 = some (.inl (lo_ast 71 0)) := (P_68 L xs 70).trans rfl
theorem p_68_71 (L : Nat) (xs : Nat → Int32) : ll_P L xs 68 71 = some (.inl (lo_push 72 (.int 0))) := (P_68 L xs 71).trans rfl
theorem p_68_72 (L : Nat) (xs : Nat → Int32) : ll_P L xs 68 72 = some (.inl (lo_istore 73 2)) := (P_68 L xs 72).trans rfl
theorem p_68_73 (L : Nat) (xs : Nat → Int32) : ll_P L xs 68 73 = some (.inl (lo_iload 74 2)) := (P_68 L xs 73).trans rfl
theorem p_68_74 (L : Nat) (xs : Nat → Int32) : ll_P L xs 68 74 = some (.inl (lo_aload 75 0)) := (P_68 L xs 74).trans rfl
theorem p_68_75 (L : Nat) (xs : Nat → Int32) : ll_P L xs 68 75 = some (.inl (lo_getf 78 6 5)) := (P_68 L xs 75).trans rfl
theorem p_68_78 (L : Nat) (xs : Nat → Int32) : ll_P L xs 68 78 = some (.inl (lo_cmp 111 81 (fun x y => decide (y ≤ x)))) := (P_68 L xs 78).trans rfl
theorem p_68_81 (L : Nat) (xs : Nat → Int32) : ll_P L xs 68 81 = some (.inl (lo_aload 82 0)) := (P_68 L xs 81).trans rfl
theorem p_68_82 (L : Nat) (xs : Nat → Int32) : ll_P L xs 68 82 = some (.inl (lo_getf 85 6 1)) := (P_68 L xs 82).trans rfl
theorem p_68_85 (L : Nat) (xs : Nat → Int32) : ll_P L xs 68 85 = some (.inl (lo_iload 86 1)) := (P_68 L xs 85).trans rfl
theorem p_68_86 (L : Nat) (xs : Nat → Int32) : ll_P L xs 68 86 = some (.inl (lo_push 88 (.int 64))) := (P_68 L xs 86).trans rfl
theorem p_68_88 (L : Nat) (xs : Nat → Int32) : ll_P L xs 68 88 = some (.inl (lo_bin 89 (fun x y => x * y))) := (P_68 L xs 88).trans rfl
theorem p_68_89 (L : Nat) (xs : Nat → Int32) : ll_P L xs 68 89 = some (.inl (lo_iload 90 2)) := (P_68 L xs 89).trans rfl
theorem p_68_90 (L : Nat) (xs : Nat → Int32) : ll_P L xs 68 90 = some (.inl (lo_bin 91 (fun x y => x + y))) := (P_68 L xs 90).trans rfl
theorem p_68_91 (L : Nat) (xs : Nat → Int32) : ll_P L xs 68 91 = some (.inl (lo_aload 92 0)) := (P_68 L xs 91).trans rfl
theorem p_68_92 (L : Nat) (xs : Nat → Int32) : ll_P L xs 68 92 = some (.inl (lo_getf 95 6 3)) := (P_68 L xs 92).trans rfl
theorem p_68_95 (L : Nat) (xs : Nat → Int32) : ll_P L xs 68 95 = some (.inl (lo_aload 96 0)) := (P_68 L xs 95).trans rfl
theorem p_68_96 (L : Nat) (xs : Nat → Int32) : ll_P L xs 68 96 = some (.inl (lo_getf 99 6 5)) := (P_68 L xs 96).trans rfl
theorem p_68_99 (L : Nat) (xs : Nat → Int32) : ll_P L xs 68 99 = some (.inl (lo_push 100 (.int 1))) := (P_68 L xs 99).trans rfl
theorem p_68_100 (L : Nat) (xs : Nat → Int32) : ll_P L xs 68 100 = some (.inl (lo_bin 101 (fun x y => x - y))) := (P_68 L xs 100).trans rfl
theorem p_68_101 (L : Nat) (xs : Nat → Int32) : ll_P L xs 68 101 = some (.inl (lo_iload 102 2)) := (P_68 L xs 101).trans rfl
theorem p_68_102 (L : Nat) (xs : Nat → Int32) : ll_P L xs 68 102 = some (.inl (lo_bin 103 (fun x y => x - y))) := (P_68 L xs 102).trans rfl
theorem p_68_103 (L : Nat) (xs : Nat → Int32) : ll_P L xs 68 103 = some (.inl (lo_ald 104 0)) := (P_68 L xs 103).trans rfl
theorem p_68_104 (L : Nat) (xs : Nat → Int32) : ll_P L xs 68 104 = some (.inl (lo_ast 105 0)) := (P_68 L xs 104).trans rfl
theorem p_68_105 (L : Nat) (xs : Nat → Int32) : ll_P L xs 68 105 = some (.inl (lo_iinc 108 2 1)) := (P_68 L xs 105).trans rfl
theorem p_68_108 (L : Nat) (xs : Nat → Int32) : ll_P L xs 68 108 = some (.inl (lo_goto 73)) := (P_68 L xs 108).trans rfl
theorem p_68_111 (L : Nat) (xs : Nat → Int32) : ll_P L xs 68 111 = some (.inl (lo_iload 112 1)) := (P_68 L xs 111).trans rfl
theorem p_68_112 (L : Nat) (xs : Nat → Int32) : ll_P L xs 68 112 = some (.inr (.inr 1)) := (P_68 L xs 112).trans rfl
theorem b_68_0 {Y : sY} {d : Nat} {s : sT} {K : Option Int32 → sT → Prop} {r0 : Nat} (h : tT Y (d + 1) 68 2 [.ref r0, .int (0 : Int32), .null] [] s K) : tT Y (d + 1) 68 0 [.ref r0, .null, .null] [] s K :=
  (tt_push (p_68_0 _ _)).mpr ((tt_istore (p_68_1 _ _) (Nat.le_of_ble_eq_true rfl) rfl rfl).mpr (h))
theorem b_68_2 {Y : sY} {d : Nat} {s : sT} {K : Option Int32 → sT → Prop} {r0 : Nat} {x1 : Int32} (h : (isO Y r0 6 ∧ (if (s.1 r0 6) ≤ x1 then (isO Y r0 6 ∧ (if (31 : Int32) ≤ (s.1 r0 6) then K (some (-1 : Int32)) s else (isO Y r0 6 ∧ (if (s.1 r0 5) ≤ (64 : Int32) then (isO Y r0 6 ∧ (isO Y r0 6 ∧ (isO Y r0 6 ∧ (∃ a4, (isO Y r0 6 ∧ (pV s r0 6 ((s.1 r0 6) + (1 : Int32))).2 r0 2 = some a4) ∧ (isO Y r0 6 ∧ (∃ m6, (isA Y a4 0 m6 ∧ inR (s.1 r0 6) m6) ∧ tT Y (d + 1) 68 73 [.ref r0, .int (s.1 r0 6), .int (0 : Int32)] [] (pV (pV s r0 6 ((s.1 r0 6) + (1 : Int32))) a4 ((s.1 r0 6)).toNatClampNeg ((pV s r0 6 ((s.1 r0 6) + (1 : Int32))).1 r0 5)) K)))))) else K (some (-1 : Int32)) s)))) else (isO Y r0 6 ∧ tT Y d 69 0 [.ref r0, .int x1, .null] [] s (fun r s1 => tT Y (d + 1) 68 15 [.ref r0, .int x1, .null] ((r.map Value.int).toList ++ []) s1 K))))) : tT Y (d + 1) 68 2 [.ref r0, .int x1, .null] [] s K :=
  (tt_iload (p_68_2 _ _) rfl).mpr ((tt_aload (p_68_3 _ _) rfl).mpr (t3_geti (p_68_4 _ _) (isI_6_6) h.1 (t3_cmp (p := (s.1 r0 6) ≤ x1) (p_68_7 _ _) rfl (fun g1 => (tt_aload (p_68_26 _ _) rfl).mpr (t3_geti (p_68_27 _ _) (isI_6_6) (ifp h.2 g1).1 ((tt_push (p_68_30 _ _)).mpr (t3_cmp (p := (31 : Int32) ≤ (s.1 r0 6)) (p_68_32 _ _) rfl (fun g2 => (tt_push (p_68_44 _ _)).mpr (tt_ret1 (p_68_45 _ _) (ifp (ifp h.2 g1).2 g2))) (fun g2 => (tt_aload (p_68_35 _ _) rfl).mpr (t3_geti (p_68_36 _ _) (isI_6_5) (ifn (ifp h.2 g1).2 g2).1 ((tt_push (p_68_39 _ _)).mpr (t3_cmp (p := (s.1 r0 5) ≤ (64 : Int32)) (p_68_41 _ _) rfl (fun g3 => (tt_aload (p_68_46 _ _) rfl).mpr (t3_geti (p_68_47 _ _) (isI_6_6) (ifp (ifn (ifp h.2 g1).2 g2).2 g3).1 ((tt_istore (p_68_50 _ _) (Nat.le_of_ble_eq_true rfl) rfl rfl).mpr ((tt_aload (p_68_51 _ _) rfl).mpr ((tt_dupr (p_68_52 _ _)).mpr (t3_geti (p_68_53 _ _) (isI_6_6) (ifp (ifn (ifp h.2 g1).2 g2).2 g3).2.1 ((tt_push (p_68_56 _ _)).mpr ((tt_bin (p_68_57 _ _)).mpr ((t2_puti (p_68_58 _ _) isI_6_6 (ifp (ifn (ifp h.2 g1).2 g2).2 g3).2.2.1).mpr ((tt_aload (p_68_61 _ _) rfl).mpr (Exists.elim (ifp (ifn (ifp h.2 g1).2 g2).2 g3).2.2.2 (fun a4 h5 => t3_getr (p_68_62 _ _) (isI_6_2) h5.1.1 h5.1.2 ((tt_iload (p_68_65 _ _) rfl).mpr ((tt_aload (p_68_66 _ _) rfl).mpr (t3_geti (p_68_67 _ _) (isI_6_5) h5.2.1 (Exists.elim h5.2.2 (fun m6 h7 => t3_ast (p_68_70 _ _) h7.1.1 h7.1.2 ((tt_push (p_68_71 _ _)).mpr ((tt_istore (p_68_72 _ _) (Nat.le_of_ble_eq_true rfl) rfl rfl).mpr (h7.2)))))))))))))))))))) (fun g3 => (tt_push (p_68_44 _ _)).mpr (tt_ret1 (p_68_45 _ _) (ifn (ifn (ifp h.2 g1).2 g2).2 g3))))))))))) (fun g1 => (tt_aload (p_68_10 _ _) rfl).mpr ((tt_iload (p_68_11 _ _) rfl).mpr (t2_callv (z := 69) (k := 2) (i := r0) (as := [.int x1]) (rest := []) (p_68_12 _ _) mK_69 mL_69 rfl rfl (Nat.le_of_ble_eq_true rfl) rfl (Nat.le_of_ble_eq_true rfl) (ifn h.2 g1).1 (ifn h.2 g1).2))))))
theorem b_68_15 {Y : sY} {d : Nat} {s : sT} {K : Option Int32 → sT → Prop} {r0 : Nat} {x1 : Int32} {t0 : Int32} (h : (if t0 = 0 then tT Y (d + 1) 68 2 [.ref r0, .int (x1 + 1), .null] [] s K else K (some x1) s)) : tT Y (d + 1) 68 15 [.ref r0, .int x1, .null] [.int t0] s K :=
  t3_if (p := t0 = 0) (p_68_15 _ _) rfl (fun g1 => (tt_iinc (p_68_20 _ _) rfl rfl rfl).mpr ((tt_goto (p_68_23 _ _)).mpr ((ifp h g1)))) (fun g1 => (tt_iload (p_68_18 _ _) rfl).mpr (tt_ret1 (p_68_19 _ _) (ifn h g1)))
theorem b_68_73 {Y : sY} {d : Nat} {s : sT} {K : Option Int32 → sT → Prop} {r0 : Nat} {x1 : Int32} {x2 : Int32} (h : (isO Y r0 6 ∧ (if (s.1 r0 5) ≤ x2 then K (some x1) s else (∃ a2, (isO Y r0 6 ∧ s.2 r0 1 = some a2) ∧ (∃ a4, (isO Y r0 6 ∧ s.2 r0 3 = some a4) ∧ (isO Y r0 6 ∧ (∃ m6, (isA Y a4 0 m6 ∧ inR (((s.1 r0 5) - (1 : Int32)) - x2) m6) ∧ (∃ m8, (isA Y a2 0 m8 ∧ inR ((x1 * (64 : Int32)) + x2) m8) ∧ tT Y (d + 1) 68 73 [.ref r0, .int x1, .int (x2 + 1)] [] (pV s a2 (((x1 * (64 : Int32)) + x2)).toNatClampNeg (s.1 a4 ((((s.1 r0 5) - (1 : Int32)) - x2)).toNatClampNeg)) K)))))))) : tT Y (d + 1) 68 73 [.ref r0, .int x1, .int x2] [] s K :=
  (tt_iload (p_68_73 _ _) rfl).mpr ((tt_aload (p_68_74 _ _) rfl).mpr (t3_geti (p_68_75 _ _) (isI_6_5) h.1 (t3_cmp (p := (s.1 r0 5) ≤ x2) (p_68_78 _ _) rfl (fun g1 => (tt_iload (p_68_111 _ _) rfl).mpr (tt_ret1 (p_68_112 _ _) (ifp h.2 g1))) (fun g1 => (tt_aload (p_68_81 _ _) rfl).mpr (Exists.elim (ifn h.2 g1) (fun a2 h3 => t3_getr (p_68_82 _ _) (isI_6_1) h3.1.1 h3.1.2 ((tt_iload (p_68_85 _ _) rfl).mpr ((tt_push (p_68_86 _ _)).mpr ((tt_bin (p_68_88 _ _)).mpr ((tt_iload (p_68_89 _ _) rfl).mpr ((tt_bin (p_68_90 _ _)).mpr ((tt_aload (p_68_91 _ _) rfl).mpr (Exists.elim h3.2 (fun a4 h5 => t3_getr (p_68_92 _ _) (isI_6_3) h5.1.1 h5.1.2 ((tt_aload (p_68_95 _ _) rfl).mpr (t3_geti (p_68_96 _ _) (isI_6_5) h5.2.1 ((tt_push (p_68_99 _ _)).mpr ((tt_bin (p_68_100 _ _)).mpr ((tt_iload (p_68_101 _ _) rfl).mpr ((tt_bin (p_68_102 _ _)).mpr (Exists.elim h5.2.2 (fun m6 h7 => t3_ald (p_68_103 _ _) h7.1.1 h7.1.2 (Exists.elim h7.2 (fun m8 h9 => t3_ast (p_68_104 _ _) h9.1.1 h9.1.2 ((tt_iinc (p_68_105 _ _) rfl rfl rfl).mpr ((tt_goto (p_68_108 _ _)).mpr (h9.2)))))))))))))))))))))))))))
/-! InclusionProver$TermFinder.isBehind.(I)Z -/
theorem p_69_0 (L : Nat) (xs : Nat → Int32) : ll_P L xs 69 0 = some (.inl (lo_aload 1 0)) := (P_69 L xs 0).trans rfl
theorem p_69_1 (L : Nat) (xs : Nat → Int32) : ll_P L xs 69 1 = some (.inl (lo_getf 4 6 2)) := (P_69 L xs 1).trans rfl
theorem p_69_4 (L : Nat) (xs : Nat → Int32) : ll_P L xs 69 4 = some (.inl (lo_iload 5 1)) := (P_69 L xs 4).trans rfl
theorem p_69_5 (L : Nat) (xs : Nat → Int32) : ll_P L xs 69 5 = some (.inl (lo_ald 6 0)) := (P_69 L xs 5).trans rfl
theorem p_69_6 (L : Nat) (xs : Nat → Int32) : ll_P L xs 69 6 = some (.inl (lo_aload 7 0)) := (P_69 L xs 6).trans rfl
theorem p_69_7 (L : Nat) (xs : Nat → Int32) : ll_P L xs 69 7 = some (.inl (lo_getf 10 6 5)) := (P_69 L xs 7).trans rfl
theorem p_69_10 (L : Nat) (xs : Nat → Int32) : ll_P L xs 69 10 = some (.inl (lo_cmp 15 13 (fun x y => decide (x = y)))) := (P_69 L xs 10).trans rfl
theorem p_69_13 (L : Nat) (xs : Nat → Int32) : ll_P L xs 69 13 = some (.inl (lo_push 14 (.int 0))) := (P_69 L xs 13).trans rfl
theorem p_69_14 (L : Nat) (xs : Nat → Int32) : ll_P L xs 69 14 = some (.inr (.inr 2)) := (P_69 L xs 14).trans rfl
theorem p_69_15 (L : Nat) (xs : Nat → Int32) : ll_P L xs 69 15 = some (.inl (lo_push 16 (.int 0))) := (P_69 L xs 15).trans rfl
theorem p_69_16 (L : Nat) (xs : Nat → Int32) : ll_P L xs 69 16 = some (.inl (lo_istore 17 2)) := (P_69 L xs 16).trans rfl
theorem p_69_17 (L : Nat) (xs : Nat → Int32) : ll_P L xs 69 17 = some (.inl (lo_iload 18 2)) := (P_69 L xs 17).trans rfl
theorem p_69_18 (L : Nat) (xs : Nat → Int32) : ll_P L xs 69 18 = some (.inl (lo_aload 19 0)) := (P_69 L xs 18).trans rfl
theorem p_69_19 (L : Nat) (xs : Nat → Int32) : ll_P L xs 69 19 = some (.inl (lo_getf 22 6 5)) := (P_69 L xs 19).trans rfl
theorem p_69_22 (L : Nat) (xs : Nat → Int32) : ll_P L xs 69 22 = some (.inl (lo_cmp 60 25 (fun x y => decide (y ≤ x)))) := (P_69 L xs 22).trans rfl
theorem p_69_25 (L : Nat) (xs : Nat → Int32) : ll_P L xs 69 25 = some (.inl (lo_aload 26 0)) := (P_69 L xs 25).trans rfl
theorem p_69_26 (L : Nat) (xs : Nat → Int32) : ll_P L xs 69 26 = some (.inl (lo_getf 29 6 1)) := (P_69 L xs 26).trans rfl
theorem p_69_29 (L : Nat) (xs : Nat → Int32) : ll_P L xs 69 29 = some (.inl (lo_iload 30 1)) := (P_69 L xs 29).trans rfl
theorem p_69_30 (L : Nat) (xs : Nat → Int32) : ll_P L xs 69 30 = some (.inl (lo_push 32 (.int 64))) := (P_69 L xs 30).trans rfl
theorem p_69_32 (L : Nat) (xs : Nat → Int32) : ll_P L xs 69 32 = some (.inl (lo_bin 33 (fun x y => x * y))) := (P_69 L xs 32).trans rfl
theorem p_69_33 (L : Nat) (xs : Nat → Int32) : ll_P L xs 69 33 = some (.inl (lo_iload 34 2)) := (P_69 L xs 33).trans rfl
theorem p_69_34 (L : Nat) (xs : Nat → Int32) : ll_P L xs 69 34 = some (.inl (lo_bin 35 (fun x y => x + y))) := (P_69 L xs 34).trans rfl
theorem p_69_35 (L : Nat) (xs : Nat → Int32) : ll_P L xs 69 35 = some (.inl (lo_ald 36 0)) := (P_69 L xs 35).trans rfl
theorem p_69_36 (L : Nat) (xs : Nat → Int32) : ll_P L xs 69 36 = some (.inl (lo_aload 37 0)) := (P_69 L xs 36).trans rfl
theorem p_69_37 (L : Nat) (xs : Nat → Int32) : ll_P L xs 69 37 = some (.inl (lo_getf 40 6 3)) := (P_69 L xs 37).trans rfl
theorem p_69_40 (L : Nat) (xs : Nat → Int32) : ll_P L xs 69 40 = some (.inl (lo_aload 41 0)) := (P_69 L xs 40).trans rfl
theorem p_69_41 (L : Nat) (xs : Nat → Int32) : ll_P L xs 69 41 = some (.inl (lo_getf 44 6 5)) := (P_69 L xs 41).trans rfl
theorem p_69_44 (L : Nat) (xs : Nat → Int32) : ll_P L xs 69 44 = some (.inl (lo_push 45 (.int 1))) := (P_69 L xs 44).trans rfl
theorem p_69_45 (L : Nat) (xs : Nat → Int32) : ll_P L xs 69 45 = some (.inl (lo_bin 46 (fun x y => x - y))) := (P_69 L xs 45).trans rfl
theorem p_69_46 (L : Nat) (xs : Nat → Int32) : ll_P L xs 69 46 = some (.inl (lo_iload 47 2)) := (P_69 L xs 46).trans rfl
theorem p_69_47 (L : Nat) (xs : Nat → Int32) : ll_P L xs 69 47 = some (.inl (lo_bin 48 (fun x y => x - y))) := (P_69 L xs 47).trans rfl
theorem p_69_48 (L : Nat) (xs : Nat → Int32) : ll_P L xs 69 48 = some (.inl (lo_ald 49 0)) := (P_69 L xs 48).trans rfl
theorem p_69_49 (L : Nat) (xs : Nat → Int32) : ll_P L xs 69 49 = some (.inl (lo_cmp 54 52 (fun x y => decide (x = y)))) := (P_69 L xs 49).trans rfl
theorem p_69_52 (L : Nat) (xs : Nat → Int32) : ll_P L xs 69 52 = some (.inl (lo_push 53 (.int 0))) := (P_69 L xs 52).trans rfl
theorem p_69_53 (L : Nat) (xs : Nat → Int32) : ll_P L xs 69 53 = some (.inr (.inr 2)) := (P_69 L xs 53).trans rfl
theorem p_69_54 (L : Nat) (xs : Nat → Int32) : ll_P L xs 69 54 = some (.inl (lo_iinc 57 2 1)) := (P_69 L xs 54).trans rfl
theorem p_69_57 (L : Nat) (xs : Nat → Int32) : ll_P L xs 69 57 = some (.inl (lo_goto 17)) := (P_69 L xs 57).trans rfl
theorem p_69_60 (L : Nat) (xs : Nat → Int32) : ll_P L xs 69 60 = some (.inl (lo_push 61 (.int 1))) := (P_69 L xs 60).trans rfl
theorem p_69_61 (L : Nat) (xs : Nat → Int32) : ll_P L xs 69 61 = some (.inr (.inr 2)) := (P_69 L xs 61).trans rfl
theorem b_69_0 {Y : sY} {d : Nat} {s : sT} {K : Option Int32 → sT → Prop} {r0 : Nat} {x1 : Int32} (h : (∃ a1, (isO Y r0 6 ∧ s.2 r0 2 = some a1) ∧ (∃ m3, (isA Y a1 0 m3 ∧ inR x1 m3) ∧ (isO Y r0 6 ∧ (if (s.1 a1 (x1).toNatClampNeg) = (s.1 r0 5) then tT Y d 69 17 [.ref r0, .int x1, .int (0 : Int32)] [] s K else K (some (0 : Int32)) s))))) : tT Y d 69 0 [.ref r0, .int x1, .null] [] s K :=
  (tt_aload (p_69_0 _ _) rfl).mpr (Exists.elim h (fun a1 h2 => t3_getr (p_69_1 _ _) (isI_6_2) h2.1.1 h2.1.2 ((tt_iload (p_69_4 _ _) rfl).mpr (Exists.elim h2.2 (fun m3 h4 => t3_ald (p_69_5 _ _) h4.1.1 h4.1.2 ((tt_aload (p_69_6 _ _) rfl).mpr (t3_geti (p_69_7 _ _) (isI_6_5) h4.2.1 (t3_cmp (p := (s.1 a1 (x1).toNatClampNeg) = (s.1 r0 5)) (p_69_10 _ _) rfl (fun g5 => (tt_push (p_69_15 _ _)).mpr ((tt_istore (p_69_16 _ _) (Nat.le_of_ble_eq_true rfl) rfl rfl).mpr ((ifp h4.2.2 g5)))) (fun g5 => (tt_push (p_69_13 _ _)).mpr (tt_ret2 (p_69_14 _ _) (Or.inl rfl) (ifn h4.2.2 g5)))))))))))
theorem b_69_17 {Y : sY} {d : Nat} {s : sT} {K : Option Int32 → sT → Prop} {r0 : Nat} {x1 : Int32} {x2 : Int32} (h : (isO Y r0 6 ∧ (if (s.1 r0 5) ≤ x2 then K (some (1 : Int32)) s else (∃ a2, (isO Y r0 6 ∧ s.2 r0 1 = some a2) ∧ (∃ m4, (isA Y a2 0 m4 ∧ inR ((x1 * (64 : Int32)) + x2) m4) ∧ (∃ a6, (isO Y r0 6 ∧ s.2 r0 3 = some a6) ∧ (isO Y r0 6 ∧ (∃ m8, (isA Y a6 0 m8 ∧ inR (((s.1 r0 5) - (1 : Int32)) - x2) m8) ∧ (if (s.1 a2 (((x1 * (64 : Int32)) + x2)).toNatClampNeg) = (s.1 a6 ((((s.1 r0 5) - (1 : Int32)) - x2)).toNatClampNeg) then tT Y d 69 17 [.ref r0, .int x1, .int (x2 + 1)] [] s K else K (some (0 : Int32)) s))))))))) : tT Y d 69 17 [.ref r0, .int x1, .int x2] [] s K :=
  (tt_iload (p_69_17 _ _) rfl).mpr ((tt_aload (p_69_18 _ _) rfl).mpr (t3_geti (p_69_19 _ _) (isI_6_5) h.1 (t3_cmp (p := (s.1 r0 5) ≤ x2) (p_69_22 _ _) rfl (fun g1 => (tt_push (p_69_60 _ _)).mpr (tt_ret2 (p_69_61 _ _) (Or.inr rfl) (ifp h.2 g1))) (fun g1 => (tt_aload (p_69_25 _ _) rfl).mpr (Exists.elim (ifn h.2 g1) (fun a2 h3 => t3_getr (p_69_26 _ _) (isI_6_1) h3.1.1 h3.1.2 ((tt_iload (p_69_29 _ _) rfl).mpr ((tt_push (p_69_30 _ _)).mpr ((tt_bin (p_69_32 _ _)).mpr ((tt_iload (p_69_33 _ _) rfl).mpr ((tt_bin (p_69_34 _ _)).mpr (Exists.elim h3.2 (fun m4 h5 => t3_ald (p_69_35 _ _) h5.1.1 h5.1.2 ((tt_aload (p_69_36 _ _) rfl).mpr (Exists.elim h5.2 (fun a6 h7 => t3_getr (p_69_37 _ _) (isI_6_3) h7.1.1 h7.1.2 ((tt_aload (p_69_40 _ _) rfl).mpr (t3_geti (p_69_41 _ _) (isI_6_5) h7.2.1 ((tt_push (p_69_44 _ _)).mpr ((tt_bin (p_69_45 _ _)).mpr ((tt_iload (p_69_46 _ _) rfl).mpr ((tt_bin (p_69_47 _ _)).mpr (Exists.elim h7.2.2 (fun m8 h9 => t3_ald (p_69_48 _ _) h9.1.1 h9.1.2 (t3_cmp (p := (s.1 a2 (((x1 * (64 : Int32)) + x2)).toNatClampNeg) = (s.1 a6 ((((s.1 r0 5) - (1 : Int32)) - x2)).toNatClampNeg)) (p_69_49 _ _) rfl (fun g10 => (tt_iinc (p_69_54 _ _) rfl rfl rfl).mpr ((tt_goto (p_69_57 _ _)).mpr ((ifp h9.2 g10)))) (fun g10 => (tt_push (p_69_52 _ _)).mpr (tt_ret2 (p_69_53 _ _) (Or.inl rfl) (ifn h9.2 g10))))))))))))))))))))))))))))
/-! InclusionProver$Text.<init>.(I)V -/
theorem p_70_0 (L : Nat) (xs : Nat → Int32) : ll_P L xs 70 0 = some (.inl (lo_aload 1 0)) := (P_70 L xs 0).trans rfl
theorem p_70_1 (L : Nat) (xs : Nat → Int32) : ll_P L xs 70 1 = some (.inl (lo_init 4)) := (P_70 L xs 1).trans rfl
theorem p_70_4 (L : Nat) (xs : Nat → Int32) : ll_P L xs 70 4 = some (.inl (lo_aload 5 0)) := (P_70 L xs 4).trans rfl
theorem p_70_5 (L : Nat) (xs : Nat → Int32) : ll_P L xs 70 5 = some (.inl (lo_iload 6 1)) := (P_70 L xs 5).trans rfl
theorem p_70_6 (L : Nat) (xs : Nat → Int32) : ll_P L xs 70 6 = some (.inl (lo_push 7 (.int 0))) := (P_70 L xs 6).trans rfl
theorem p_70_7 (L : Nat) (xs : Nat → Int32) : ll_P L xs 70 7 = some (.inl (lo_mm 10 (fun x y => if x < y then y else x))) := (P_70 L xs 7).trans rfl
theorem p_70_10 (L : Nat) (xs : Nat → Int32) : ll_P L xs 70 10 = some (.inl (lo_newa 12 0)) := (P_70 L xs 10).trans rfl
theorem p_70_12 (L : Nat) (xs : Nat → Int32) : ll_P L xs 70 12 = some (.inl (lo_putf 15 7 0 2)) := (P_70 L xs 12).trans rfl
theorem p_70_15 (L : Nat) (xs : Nat → Int32) : ll_P L xs 70 15 = some (.inr (.inr 0)) := (P_70 L xs 15).trans rfl
/-! InclusionProver$Text.clear.()V -/
theorem p_71_0 (L : Nat) (xs : Nat → Int32) : ll_P L xs 71 0 = some (.inl (lo_aload 1 0)) := (P_71 L xs 0).trans rfl
theorem p_71_1 (L : Nat) (xs : Nat → Int32) : ll_P L xs 71 1 = some (.inl (lo_push 2 (.int 0))) := (P_71 L xs 1).trans rfl
theorem p_71_2 (L : Nat) (xs : Nat → Int32) : ll_P L xs 71 2 = some (.inl (lo_putf 5 7 1 0)) := (P_71 L xs 2).trans rfl
theorem p_71_5 (L : Nat) (xs : Nat → Int32) : ll_P L xs 71 5 = some (.inr (.inr 0)) := (P_71 L xs 5).trans rfl
theorem b_71_0 {Y : sY} {d : Nat} {s : sT} {K : Option Int32 → sT → Prop} {r0 : Nat} (h : (isO Y r0 7 ∧ K none (pV s r0 1 (0 : Int32)))) : tT Y d 71 0 [.ref r0] [] s K :=
  (tt_aload (p_71_0 _ _) rfl).mpr ((tt_push (p_71_1 _ _)).mpr ((t2_puti (p_71_2 _ _) isI_7_1 h.1).mpr (tt_ret0 (p_71_5 _ _) h.2)))
/-! InclusionProver$Text.add.(I)V -/
theorem p_72_0 (L : Nat) (xs : Nat → Int32) : ll_P L xs 72 0 = some (.inl (lo_aload 1 0)) := (P_72 L xs 0).trans rfl
theorem p_72_1 (L : Nat) (xs : Nat → Int32) : ll_P L xs 72 1 = some (.inl (lo_getf 4 7 1)) := (P_72 L xs 1).trans rfl
theorem p_72_4 (L : Nat) (xs : Nat → Int32) : ll_P L xs 72 4 = some (.inl (lo_aload 5 0)) := (P_72 L xs 4).trans rfl
theorem p_72_5 (L : Nat) (xs : Nat → Int32) : ll_P L xs 72 5 = some (.inl (lo_getf 8 7 0)) := (P_72 L xs 5).trans rfl
theorem p_72_8 (L : Nat) (xs : Nat → Int32) : ll_P L xs 72 8 = some (.inl (lo_alen 9)) := (P_72 L xs 8).trans rfl
theorem p_72_9 (L : Nat) (xs : Nat → Int32) : ll_P L xs 72 9 = some (.inl (lo_cmp 32 12 (fun x y => decide (y ≤ x)))) := (P_72 L xs 9).trans rfl
theorem p_72_12 (L : Nat) (xs : Nat → Int32) : ll_P L xs 72 12 = some (.inl (lo_aload 13 0)) := (P_72 L xs 12).trans rfl
theorem p_72_13 (L : Nat) (xs : Nat → Int32) : ll_P L xs 72 13 = some (.inl (lo_getf 16 7 0)) := (P_72 L xs 13).trans rfl
theorem p_72_16 (L : Nat) (xs : Nat → Int32) : ll_P L xs 72 16 = some (.inl (lo_aload 17 0)) := (P_72 L xs 16).trans rfl
theorem p_72_17 (L : Nat) (xs : Nat → Int32) : ll_P L xs 72 17 = some (.inl (lo_getf 20 7 1)) := (P_72 L xs 17).trans rfl
theorem p_72_20 (L : Nat) (xs : Nat → Int32) : ll_P L xs 72 20 = some (.inl (lo_iload 21 1)) := (P_72 L xs 20).trans rfl
theorem p_72_21 (L : Nat) (xs : Nat → Int32) : ll_P L xs 72 21 = some (.inl (lo_ast 22 0)) := (P_72 L xs 21).trans rfl
theorem p_72_22 (L : Nat) (xs : Nat → Int32) : ll_P L xs 72 22 = some (.inl (lo_aload 23 0)) := (P_72 L xs 22).trans rfl
theorem p_72_23 (L : Nat) (xs : Nat → Int32) : ll_P L xs 72 23 = some (.inl (lo_dup 24)) := (P_72 L xs 23).trans rfl
theorem p_72_24 (L : Nat) (xs : Nat → Int32) : ll_P L xs 72 24 = some (.inl (lo_getf 27 7 1)) := (P_72 L xs 24).trans rfl
theorem p_72_27 (L : Nat) (xs : Nat → Int32) : ll_P L xs 72 27 = some (.inl (lo_push 28 (.int 1))) := (P_72 L xs 27).trans rfl
theorem p_72_28 (L : Nat) (xs : Nat → Int32) : ll_P L xs 72 28 = some (.inl (lo_bin 29 (fun x y => x + y))) := (P_72 L xs 28).trans rfl
theorem p_72_29 (L : Nat) (xs : Nat → Int32) : ll_P L xs 72 29 = some (.inl (lo_putf 32 7 1 0)) := (P_72 L xs 29).trans rfl
theorem p_72_32 (L : Nat) (xs : Nat → Int32) : ll_P L xs 72 32 = some (.inr (.inr 0)) := (P_72 L xs 32).trans rfl
theorem b_72_0 {Y : sY} {d : Nat} {s : sT} {K : Option Int32 → sT → Prop} {r0 : Nat} {x1 : Int32} (h : (isO Y r0 7 ∧ (∃ a1, (isO Y r0 7 ∧ s.2 r0 0 = some a1) ∧ (∃ c4 m3, isA Y a1 c4 m3 ∧ (if (Int32.ofNat m3) ≤ (s.1 r0 1) then K none s else (∃ a7, (isO Y r0 7 ∧ s.2 r0 0 = some a7) ∧ (isO Y r0 7 ∧ (∃ m9, (isA Y a7 0 m9 ∧ inR (s.1 r0 1) m9) ∧ (isO Y r0 7 ∧ (isO Y r0 7 ∧ K none (pV (pV s a7 ((s.1 r0 1)).toNatClampNeg x1) r0 1 (((pV s a7 ((s.1 r0 1)).toNatClampNeg x1).1 r0 1) + (1 : Int32))))))))))))) : tT Y d 72 0 [.ref r0, .int x1] [] s K :=
  (tt_aload (p_72_0 _ _) rfl).mpr (t3_geti (p_72_1 _ _) (isI_7_1) h.1 ((tt_aload (p_72_4 _ _) rfl).mpr (Exists.elim h.2 (fun a1 h2 => t3_getr (p_72_5 _ _) (isI_7_0) h2.1.1 h2.1.2 (Exists.elim h2.2 (fun c4 h5q0 => Exists.elim h5q0 (fun m3 h5 => t3_alen (p_72_8 _ _) h5.1 (t3_cmp (p := (Int32.ofNat m3) ≤ (s.1 r0 1)) (p_72_9 _ _) rfl (fun g6 => tt_ret0 (p_72_32 _ _) (ifp h5.2 g6)) (fun g6 => (tt_aload (p_72_12 _ _) rfl).mpr (Exists.elim (ifn h5.2 g6) (fun a7 h8 => t3_getr (p_72_13 _ _) (isI_7_0) h8.1.1 h8.1.2 ((tt_aload (p_72_16 _ _) rfl).mpr (t3_geti (p_72_17 _ _) (isI_7_1) h8.2.1 ((tt_iload (p_72_20 _ _) rfl).mpr (Exists.elim h8.2.2 (fun m9 h10 => t3_ast (p_72_21 _ _) h10.1.1 h10.1.2 ((tt_aload (p_72_22 _ _) rfl).mpr ((tt_dupr (p_72_23 _ _)).mpr (t3_geti (p_72_24 _ _) (isI_7_1) h10.2.1 ((tt_push (p_72_27 _ _)).mpr ((tt_bin (p_72_28 _ _)).mpr ((t2_puti (p_72_29 _ _) isI_7_1 h10.2.2.1).mpr (tt_ret0 (p_72_32 _ _) h10.2.2.2)))))))))))))))))))))))
/-! InclusionProver$Text.addAll.(LInclusionProver$Text;)V -/
theorem p_73_0 (L : Nat) (xs : Nat → Int32) : ll_P L xs 73 0 = some (.inl (lo_aload 1 1)) := (P_73 L xs 0).trans rfl
theorem p_73_1 (L : Nat) (xs : Nat → Int32) : ll_P L xs 73 1 = some (.inl (lo_getf 4 7 1)) := (P_73 L xs 1).trans rfl
theorem p_73_4 (L : Nat) (xs : Nat → Int32) : ll_P L xs 73 4 = some (.inl (lo_aload 5 0)) := (P_73 L xs 4).trans rfl
theorem p_73_5 (L : Nat) (xs : Nat → Int32) : ll_P L xs 73 5 = some (.inl (lo_getf 8 7 0)) := (P_73 L xs 5).trans rfl
theorem p_73_8 (L : Nat) (xs : Nat → Int32) : ll_P L xs 73 8 = some (.inl (lo_alen 9)) := (P_73 L xs 8).trans rfl
theorem p_73_9 (L : Nat) (xs : Nat → Int32) : ll_P L xs 73 9 = some (.inl (lo_aload 10 0)) := (P_73 L xs 9).trans rfl
theorem p_73_10 (L : Nat) (xs : Nat → Int32) : ll_P L xs 73 10 = some (.inl (lo_getf 13 7 1)) := (P_73 L xs 10).trans rfl
theorem p_73_13 (L : Nat) (xs : Nat → Int32) : ll_P L xs 73 13 = some (.inl (lo_bin 14 (fun x y => x - y))) := (P_73 L xs 13).trans rfl
theorem p_73_14 (L : Nat) (xs : Nat → Int32) : ll_P L xs 73 14 = some (.inl (lo_mm 17 (fun x y => if y < x then y else x))) := (P_73 L xs 14).trans rfl
theorem p_73_17 (L : Nat) (xs : Nat → Int32) : ll_P L xs 73 17 = some (.inl (lo_istore 18 2)) := (P_73 L xs 17).trans rfl
theorem p_73_18 (L : Nat) (xs : Nat → Int32) : ll_P L xs 73 18 = some (.inl (lo_aload 19 1)) := (P_73 L xs 18).trans rfl
theorem p_73_19 (L : Nat) (xs : Nat → Int32) : ll_P L xs 73 19 = some (.inl (lo_getf 22 7 0)) := (P_73 L xs 19).trans rfl
theorem p_73_22 (L : Nat) (xs : Nat → Int32) : ll_P L xs 73 22 = some (.inl (lo_push 23 (.int 0))) := (P_73 L xs 22).trans rfl
theorem p_73_23 (L : Nat) (xs : Nat → Int32) : ll_P L xs 73 23 = some (.inl (lo_aload 24 0)) := (P_73 L xs 23).trans rfl
theorem p_73_24 (L : Nat) (xs : Nat → Int32) : ll_P L xs 73 24 = some (.inl (lo_getf 27 7 0)) := (P_73 L xs 24).trans rfl
theorem p_73_27 (L : Nat) (xs : Nat → Int32) : ll_P L xs 73 27 = some (.inl (lo_aload 28 0)) := (P_73 L xs 27).trans rfl
theorem p_73_28 (L : Nat) (xs : Nat → Int32) : ll_P L xs 73 28 = some (.inl (lo_getf 31 7 1)) := (P_73 L xs 28).trans rfl
theorem p_73_31 (L : Nat) (xs : Nat → Int32) : ll_P L xs 73 31 = some (.inl (lo_iload 32 2)) := (P_73 L xs 31).trans rfl
theorem p_73_32 (L : Nat) (xs : Nat → Int32) : ll_P L xs 73 32 = some (.inl (lo_copy 35)) := (P_73 L xs 32).trans rfl
theorem p_73_35 (L : Nat) (xs : Nat → Int32) : ll_P L xs 73 35 = some (.inl (lo_aload 36 0)) := (P_73 L xs 35).trans rfl
theorem p_73_36 (L : Nat) (xs : Nat → Int32) : ll_P L xs 73 36 = some (.inl (lo_dup 37)) := (P_73 L xs 36).trans rfl
theorem p_73_37 (L : Nat) (xs : Nat → Int32) : ll_P L xs 73 37 = some (.inl (lo_getf 40 7 1)) := (P_73 L xs 37).trans rfl
theorem p_73_40 (L : Nat) (xs : Nat → Int32) : ll_P L xs 73 40 = some (.inl (lo_iload 41 2)) := (P_73 L xs 40).trans rfl
theorem p_73_41 (L : Nat) (xs : Nat → Int32) : ll_P L xs 73 41 = some (.inl (lo_bin 42 (fun x y => x + y))) := (P_73 L xs 41).trans rfl
theorem p_73_42 (L : Nat) (xs : Nat → Int32) : ll_P L xs 73 42 = some (.inl (lo_putf 45 7 1 0)) := (P_73 L xs 42).trans rfl
theorem p_73_45 (L : Nat) (xs : Nat → Int32) : ll_P L xs 73 45 = some (.inr (.inr 0)) := (P_73 L xs 45).trans rfl
theorem b_73_0 {Y : sY} {d : Nat} {s : sT} {K : Option Int32 → sT → Prop} {r0 : Nat} {r1 : Nat} (h : (isO Y r1 7 ∧ (∃ a1, (isO Y r0 7 ∧ s.2 r0 0 = some a1) ∧ (∃ c4 m3, isA Y a1 c4 m3 ∧ (isO Y r0 7 ∧ (∃ a6, (isO Y r1 7 ∧ s.2 r1 0 = some a6) ∧ (∃ a8, (isO Y r0 7 ∧ s.2 r0 0 = some a8) ∧ (isO Y r0 7 ∧ (∃ m10 m11, (isA Y a6 0 m10 ∧ isA Y a8 0 m11 ∧ cpOK (0 : Int32) (s.1 r0 1) (if ((Int32.ofNat m3) - (s.1 r0 1)) < (s.1 r1 1) then ((Int32.ofNat m3) - (s.1 r0 1)) else (s.1 r1 1)) m10 m11) ∧ tT Y d 73 35 [.ref r0, .ref r1, .int (if ((Int32.ofNat m3) - (s.1 r0 1)) < (s.1 r1 1) then ((Int32.ofNat m3) - (s.1 r0 1)) else (s.1 r1 1))] [] (pA s a8 (va_cpy (s.1 a6) (s.1 a8) ((0 : Int32)).toNatClampNeg ((s.1 r0 1)).toNatClampNeg ((if ((Int32.ofNat m3) - (s.1 r0 1)) < (s.1 r1 1) then ((Int32.ofNat m3) - (s.1 r0 1)) else (s.1 r1 1))).toNatClampNeg)) K))))))))) : tT Y d 73 0 [.ref r0, .ref r1, .null] [] s K :=
  (tt_aload (p_73_0 _ _) rfl).mpr (t3_geti (p_73_1 _ _) (isI_7_1) h.1 ((tt_aload (p_73_4 _ _) rfl).mpr (Exists.elim h.2 (fun a1 h2 => t3_getr (p_73_5 _ _) (isI_7_0) h2.1.1 h2.1.2 (Exists.elim h2.2 (fun c4 h5q0 => Exists.elim h5q0 (fun m3 h5 => t3_alen (p_73_8 _ _) h5.1 ((tt_aload (p_73_9 _ _) rfl).mpr (t3_geti (p_73_10 _ _) (isI_7_1) h5.2.1 ((tt_bin (p_73_13 _ _)).mpr ((tt_mm (p_73_14 _ _) (Nat.le_of_ble_eq_true rfl)).mpr ((tt_istore (p_73_17 _ _) (Nat.le_of_ble_eq_true rfl) rfl rfl).mpr ((tt_aload (p_73_18 _ _) rfl).mpr (Exists.elim h5.2.2 (fun a6 h7 => t3_getr (p_73_19 _ _) (isI_7_0) h7.1.1 h7.1.2 ((tt_push (p_73_22 _ _)).mpr ((tt_aload (p_73_23 _ _) rfl).mpr (Exists.elim h7.2 (fun a8 h9 => t3_getr (p_73_24 _ _) (isI_7_0) h9.1.1 h9.1.2 ((tt_aload (p_73_27 _ _) rfl).mpr (t3_geti (p_73_28 _ _) (isI_7_1) h9.2.1 ((tt_iload (p_73_31 _ _) rfl).mpr (Exists.elim h9.2.2 (fun m10 h12q0 => Exists.elim h12q0 (fun m11 h12 => t3_copy (p_73_32 _ _) h12.1.1 h12.1.2.1 h12.1.2.2 (Nat.le_of_ble_eq_true rfl) (h12.2))))))))))))))))))))))))))
theorem b_73_35 {Y : sY} {d : Nat} {s : sT} {K : Option Int32 → sT → Prop} {r0 : Nat} {r1 : Nat} {x2 : Int32} (h : (isO Y r0 7 ∧ (isO Y r0 7 ∧ K none (pV s r0 1 ((s.1 r0 1) + x2))))) : tT Y d 73 35 [.ref r0, .ref r1, .int x2] [] s K :=
  (tt_aload (p_73_35 _ _) rfl).mpr ((tt_dupr (p_73_36 _ _)).mpr (t3_geti (p_73_37 _ _) (isI_7_1) h.1 ((tt_iload (p_73_40 _ _) rfl).mpr ((tt_bin (p_73_41 _ _)).mpr ((t2_puti (p_73_42 _ _) isI_7_1 h.2.1).mpr (tt_ret0 (p_73_45 _ _) h.2.2))))))
/-! InclusionProver$Text.addBracketed.(LInclusionProver$Text;)V -/
theorem p_74_0 (L : Nat) (xs : Nat → Int32) : ll_P L xs 74 0 = some (.inl (lo_aload 1 0)) := (P_74 L xs 0).trans rfl
theorem p_74_1 (L : Nat) (xs : Nat → Int32) : ll_P L xs 74 1 = some (.inl (lo_push 3 (.int 40))) := (P_74 L xs 1).trans rfl
theorem p_74_3 (L : Nat) (xs : Nat → Int32) : ll_P L xs 74 3 = some (.inr (.inl (72, 2, 6))) := (P_74 L xs 3).trans rfl
theorem p_74_6 (L : Nat) (xs : Nat → Int32) : ll_P L xs 74 6 = some (.inl (lo_aload 7 0)) := (P_74 L xs 6).trans rfl
theorem p_74_7 (L : Nat) (xs : Nat → Int32) : ll_P L xs 74 7 = some (.inl (lo_aload 8 1)) := (P_74 L xs 7).trans rfl
theorem p_74_8 (L : Nat) (xs : Nat → Int32) : ll_P L xs 74 8 = some (.inr (.inl (73, 2, 11))) := (P_74 L xs 8).trans rfl
theorem p_74_11 (L : Nat) (xs : Nat → Int32) : ll_P L xs 74 11 = some (.inl (lo_aload 12 0)) := (P_74 L xs 11).trans rfl
theorem p_74_12 (L : Nat) (xs : Nat → Int32) : ll_P L xs 74 12 = some (.inl (lo_push 14 (.int 41))) := (P_74 L xs 12).trans rfl
theorem p_74_14 (L : Nat) (xs : Nat → Int32) : ll_P L xs 74 14 = some (.inr (.inl (72, 2, 17))) := (P_74 L xs 14).trans rfl
theorem p_74_17 (L : Nat) (xs : Nat → Int32) : ll_P L xs 74 17 = some (.inr (.inr 0)) := (P_74 L xs 17).trans rfl
theorem b_74_0 {Y : sY} {d : Nat} {s : sT} {K : Option Int32 → sT → Prop} {r0 : Nat} {r1 : Nat} (h : (isO Y r0 7 ∧ tT Y d 72 0 [.ref r0, .int (40 : Int32)] [] s (fun r s1 => tT Y (d + 1) 74 6 [.ref r0, .ref r1] ((r.map Value.int).toList ++ []) s1 K))) : tT Y (d + 1) 74 0 [.ref r0, .ref r1] [] s K :=
  (tt_aload (p_74_0 _ _) rfl).mpr ((tt_push (p_74_1 _ _)).mpr (t2_callv (z := 72) (k := 2) (i := r0) (as := [.int (40 : Int32)]) (rest := []) (p_74_3 _ _) mK_72 mL_72 rfl rfl (Nat.le_of_ble_eq_true rfl) rfl (Nat.le_of_ble_eq_true rfl) h.1 h.2))
theorem b_74_6 {Y : sY} {d : Nat} {s : sT} {K : Option Int32 → sT → Prop} {r0 : Nat} {r1 : Nat} (h : (isO Y r0 7 ∧ tT Y d 73 0 [.ref r0, .ref r1, .null] [] s (fun r s1 => tT Y (d + 1) 74 11 [.ref r0, .ref r1] ((r.map Value.int).toList ++ []) s1 K))) : tT Y (d + 1) 74 6 [.ref r0, .ref r1] [] s K :=
  (tt_aload (p_74_6 _ _) rfl).mpr ((tt_aload (p_74_7 _ _) rfl).mpr (t2_callv (z := 73) (k := 2) (i := r0) (as := [.ref r1]) (rest := []) (p_74_8 _ _) mK_73 mL_73 rfl rfl (Nat.le_of_ble_eq_true rfl) rfl (Nat.le_of_ble_eq_true rfl) h.1 h.2))
theorem b_74_11 {Y : sY} {d : Nat} {s : sT} {K : Option Int32 → sT → Prop} {r0 : Nat} {r1 : Nat} (h : (isO Y r0 7 ∧ tT Y d 72 0 [.ref r0, .int (41 : Int32)] [] s (fun r s1 => tT Y (d + 1) 74 17 [.ref r0, .ref r1] ((r.map Value.int).toList ++ []) s1 K))) : tT Y (d + 1) 74 11 [.ref r0, .ref r1] [] s K :=
  (tt_aload (p_74_11 _ _) rfl).mpr ((tt_push (p_74_12 _ _)).mpr (t2_callv (z := 72) (k := 2) (i := r0) (as := [.int (41 : Int32)]) (rest := []) (p_74_14 _ _) mK_72 mL_72 rfl rfl (Nat.le_of_ble_eq_true rfl) rfl (Nat.le_of_ble_eq_true rfl) h.1 h.2))
theorem b_74_17 {Y : sY} {d : Nat} {s : sT} {K : Option Int32 → sT → Prop} {r0 : Nat} {r1 : Nat} (h : K none s) : tT Y (d + 1) 74 17 [.ref r0, .ref r1] [] s K :=
  tt_ret0 (p_74_17 _ _) h
/-! InclusionProver$Text.become.(LInclusionProver$Text;)V -/
theorem p_75_0 (L : Nat) (xs : Nat → Int32) : ll_P L xs 75 0 = some (.inl (lo_aload 1 0)) := (P_75 L xs 0).trans rfl
theorem p_75_1 (L : Nat) (xs : Nat → Int32) : ll_P L xs 75 1 = some (.inr (.inl (71, 1, 4))) := (P_75 L xs 1).trans rfl
theorem p_75_4 (L : Nat) (xs : Nat → Int32) : ll_P L xs 75 4 = some (.inl (lo_aload 5 0)) := (P_75 L xs 4).trans rfl
theorem p_75_5 (L : Nat) (xs : Nat → Int32) : ll_P L xs 75 5 = some (.inl (lo_aload 6 1)) := (P_75 L xs 5).trans rfl
theorem p_75_6 (L : Nat) (xs : Nat → Int32) : ll_P L xs 75 6 = some (.inr (.inl (73, 2, 9))) := (P_75 L xs 6).trans rfl
theorem p_75_9 (L : Nat) (xs : Nat → Int32) : ll_P L xs 75 9 = some (.inr (.inr 0)) := (P_75 L xs 9).trans rfl
theorem b_75_0 {Y : sY} {d : Nat} {s : sT} {K : Option Int32 → sT → Prop} {r0 : Nat} {r1 : Nat} (h : (isO Y r0 7 ∧ tT Y d 71 0 [.ref r0] [] s (fun r s1 => tT Y (d + 1) 75 4 [.ref r0, .ref r1] ((r.map Value.int).toList ++ []) s1 K))) : tT Y (d + 1) 75 0 [.ref r0, .ref r1] [] s K :=
  (tt_aload (p_75_0 _ _) rfl).mpr (t2_callv (z := 71) (k := 1) (i := r0) (as := []) (rest := []) (p_75_1 _ _) mK_71 mL_71 rfl rfl (Nat.le_of_ble_eq_true rfl) rfl (Nat.le_of_ble_eq_true rfl) h.1 h.2)
theorem b_75_4 {Y : sY} {d : Nat} {s : sT} {K : Option Int32 → sT → Prop} {r0 : Nat} {r1 : Nat} (h : (isO Y r0 7 ∧ tT Y d 73 0 [.ref r0, .ref r1, .null] [] s (fun r s1 => tT Y (d + 1) 75 9 [.ref r0, .ref r1] ((r.map Value.int).toList ++ []) s1 K))) : tT Y (d + 1) 75 4 [.ref r0, .ref r1] [] s K :=
  (tt_aload (p_75_4 _ _) rfl).mpr ((tt_aload (p_75_5 _ _) rfl).mpr (t2_callv (z := 73) (k := 2) (i := r0) (as := [.ref r1]) (rest := []) (p_75_6 _ _) mK_73 mL_73 rfl rfl (Nat.le_of_ble_eq_true rfl) rfl (Nat.le_of_ble_eq_true rfl) h.1 h.2))
theorem b_75_9 {Y : sY} {d : Nat} {s : sT} {K : Option Int32 → sT → Prop} {r0 : Nat} {r1 : Nat} (h : K none s) : tT Y (d + 1) 75 9 [.ref r0, .ref r1] [] s K :=
  tt_ret0 (p_75_9 _ _) h
/-! InclusionProver$Text.setAt.(II)V -/
theorem p_76_0 (L : Nat) (xs : Nat → Int32) : ll_P L xs 76 0 = some (.inl (lo_iload 1 1)) := (P_76 L xs 0).trans rfl
theorem p_76_1 (L : Nat) (xs : Nat → Int32) : ll_P L xs 76 1 = some (.inl (lo_if 19 4 (fun x => decide (x < 0)))) := (P_76 L xs 1).trans rfl
theorem p_76_4 (L : Nat) (xs : Nat → Int32) : ll_P L xs 76 4 = some (.inl (lo_iload 5 1)) := (P_76 L xs 4).trans rfl
theorem p_76_5 (L : Nat) (xs : Nat → Int32) : ll_P L xs 76 5 = some (.inl (lo_aload 6 0)) := (P_76 L xs 5).trans rfl
theorem p_76_6 (L : Nat) (xs : Nat → Int32) : ll_P L xs 76 6 = some (.inl (lo_getf 9 7 1)) := (P_76 L xs 6).trans rfl
theorem p_76_9 (L : Nat) (xs : Nat → Int32) : ll_P L xs 76 9 = some (.inl (lo_cmp 19 12 (fun x y => decide (y ≤ x)))) := (P_76 L xs 9).trans rfl
theorem p_76_12 (L : Nat) (xs : Nat → Int32) : ll_P L xs 76 12 = some (.inl (lo_aload 13 0)) := (P_76 L xs 12).trans rfl
theorem p_76_13 (L : Nat) (xs : Nat → Int32) : ll_P L xs 76 13 = some (.inl (lo_getf 16 7 0)) := (P_76 L xs 13).trans rfl
theorem p_76_16 (L : Nat) (xs : Nat → Int32) : ll_P L xs 76 16 = some (.inl (lo_iload 17 1)) := (P_76 L xs 16).trans rfl
theorem p_76_17 (L : Nat) (xs : Nat → Int32) : ll_P L xs 76 17 = some (.inl (lo_iload 18 2)) := (P_76 L xs 17).trans rfl
theorem p_76_18 (L : Nat) (xs : Nat → Int32) : ll_P L xs 76 18 = some (.inl (lo_ast 19 0)) := (P_76 L xs 18).trans rfl
theorem p_76_19 (L : Nat) (xs : Nat → Int32) : ll_P L xs 76 19 = some (.inr (.inr 0)) := (P_76 L xs 19).trans rfl
theorem b_76_0 {Y : sY} {d : Nat} {s : sT} {K : Option Int32 → sT → Prop} {r0 : Nat} {x1 : Int32} {x2 : Int32} (h : (if x1 < 0 then K none s else (isO Y r0 7 ∧ (if (s.1 r0 1) ≤ x1 then K none s else (∃ a3, (isO Y r0 7 ∧ s.2 r0 0 = some a3) ∧ (∃ m5, (isA Y a3 0 m5 ∧ inR x1 m5) ∧ K none (pV s a3 (x1).toNatClampNeg x2))))))) : tT Y d 76 0 [.ref r0, .int x1, .int x2] [] s K :=
  (tt_iload (p_76_0 _ _) rfl).mpr (t3_if (p := x1 < 0) (p_76_1 _ _) rfl (fun g1 => tt_ret0 (p_76_19 _ _) (ifp h g1)) (fun g1 => (tt_iload (p_76_4 _ _) rfl).mpr ((tt_aload (p_76_5 _ _) rfl).mpr (t3_geti (p_76_6 _ _) (isI_7_1) (ifn h g1).1 (t3_cmp (p := (s.1 r0 1) ≤ x1) (p_76_9 _ _) rfl (fun g2 => tt_ret0 (p_76_19 _ _) (ifp (ifn h g1).2 g2)) (fun g2 => (tt_aload (p_76_12 _ _) rfl).mpr (Exists.elim (ifn (ifn h g1).2 g2) (fun a3 h4 => t3_getr (p_76_13 _ _) (isI_7_0) h4.1.1 h4.1.2 ((tt_iload (p_76_16 _ _) rfl).mpr ((tt_iload (p_76_17 _ _) rfl).mpr (Exists.elim h4.2 (fun m5 h6 => t3_ast (p_76_18 _ _) h6.1.1 h6.1.2 (tt_ret0 (p_76_19 _ _) h6.2)))))))))))))
/-! InclusionProver$Text.at.(I)I -/
theorem p_77_0 (L : Nat) (xs : Nat → Int32) : ll_P L xs 77 0 = some (.inl (lo_iload 1 1)) := (P_77 L xs 0).trans rfl
theorem p_77_1 (L : Nat) (xs : Nat → Int32) : ll_P L xs 77 1 = some (.inl (lo_if 21 4 (fun x => decide (x < 0)))) := (P_77 L xs 1).trans rfl
theorem p_77_4 (L : Nat) (xs : Nat → Int32) : ll_P L xs 77 4 = some (.inl (lo_iload 5 1)) := (P_77 L xs 4).trans rfl
theorem p_77_5 (L : Nat) (xs : Nat → Int32) : ll_P L xs 77 5 = some (.inl (lo_aload 6 0)) := (P_77 L xs 5).trans rfl
theorem p_77_6 (L : Nat) (xs : Nat → Int32) : ll_P L xs 77 6 = some (.inl (lo_getf 9 7 1)) := (P_77 L xs 6).trans rfl
theorem p_77_9 (L : Nat) (xs : Nat → Int32) : ll_P L xs 77 9 = some (.inl (lo_cmp 21 12 (fun x y => decide (y ≤ x)))) := (P_77 L xs 9).trans rfl
theorem p_77_12 (L : Nat) (xs : Nat → Int32) : ll_P L xs 77 12 = some (.inl (lo_aload 13 0)) := (P_77 L xs 12).trans rfl
theorem p_77_13 (L : Nat) (xs : Nat → Int32) : ll_P L xs 77 13 = some (.inl (lo_getf 16 7 0)) := (P_77 L xs 13).trans rfl
theorem p_77_16 (L : Nat) (xs : Nat → Int32) : ll_P L xs 77 16 = some (.inl (lo_iload 17 1)) := (P_77 L xs 16).trans rfl
theorem p_77_17 (L : Nat) (xs : Nat → Int32) : ll_P L xs 77 17 = some (.inl (lo_ald 18 0)) := (P_77 L xs 17).trans rfl
theorem p_77_18 (L : Nat) (xs : Nat → Int32) : ll_P L xs 77 18 = some (.inl (lo_goto 22)) := (P_77 L xs 18).trans rfl
theorem p_77_21 (L : Nat) (xs : Nat → Int32) : ll_P L xs 77 21 = some (.inl (lo_push 22 (.int (-1)))) := (P_77 L xs 21).trans rfl
theorem p_77_22 (L : Nat) (xs : Nat → Int32) : ll_P L xs 77 22 = some (.inr (.inr 1)) := (P_77 L xs 22).trans rfl
theorem b_77_0 {Y : sY} {d : Nat} {s : sT} {K : Option Int32 → sT → Prop} {r0 : Nat} {x1 : Int32} (h : (if x1 < 0 then K (some (-1 : Int32)) s else (isO Y r0 7 ∧ (if (s.1 r0 1) ≤ x1 then K (some (-1 : Int32)) s else (∃ a3, (isO Y r0 7 ∧ s.2 r0 0 = some a3) ∧ (∃ m5, (isA Y a3 0 m5 ∧ inR x1 m5) ∧ K (some (s.1 a3 (x1).toNatClampNeg)) s)))))) : tT Y d 77 0 [.ref r0, .int x1] [] s K :=
  (tt_iload (p_77_0 _ _) rfl).mpr (t3_if (p := x1 < 0) (p_77_1 _ _) rfl (fun g1 => (tt_push (p_77_21 _ _)).mpr (tt_ret1 (p_77_22 _ _) (ifp h g1))) (fun g1 => (tt_iload (p_77_4 _ _) rfl).mpr ((tt_aload (p_77_5 _ _) rfl).mpr (t3_geti (p_77_6 _ _) (isI_7_1) (ifn h g1).1 (t3_cmp (p := (s.1 r0 1) ≤ x1) (p_77_9 _ _) rfl (fun g2 => (tt_push (p_77_21 _ _)).mpr (tt_ret1 (p_77_22 _ _) (ifp (ifn h g1).2 g2))) (fun g2 => (tt_aload (p_77_12 _ _) rfl).mpr (Exists.elim (ifn (ifn h g1).2 g2) (fun a3 h4 => t3_getr (p_77_13 _ _) (isI_7_0) h4.1.1 h4.1.2 ((tt_iload (p_77_16 _ _) rfl).mpr (Exists.elim h4.2 (fun m5 h6 => t3_ald (p_77_17 _ _) h6.1.1 h6.1.2 ((tt_goto (p_77_18 _ _)).mpr (tt_ret1 (p_77_22 _ _) h6.2)))))))))))))
/-! InclusionProver$Text.countOf.(I)I -/
theorem p_78_0 (L : Nat) (xs : Nat → Int32) : ll_P L xs 78 0 = some (.inl (lo_push 1 (.int 0))) := (P_78 L xs 0).trans rfl
theorem p_78_1 (L : Nat) (xs : Nat → Int32) : ll_P L xs 78 1 = some (.inl (lo_istore 2 2)) := (P_78 L xs 1).trans rfl
theorem p_78_2 (L : Nat) (xs : Nat → Int32) : ll_P L xs 78 2 = some (.inl (lo_push 3 (.int 0))) := (P_78 L xs 2).trans rfl
theorem p_78_3 (L : Nat) (xs : Nat → Int32) : ll_P L xs 78 3 = some (.inl (lo_istore 4 3)) := (P_78 L xs 3).trans rfl
theorem p_78_4 (L : Nat) (xs : Nat → Int32) : ll_P L xs 78 4 = some (.inl (lo_iload 5 3)) := (P_78 L xs 4).trans rfl
theorem p_78_5 (L : Nat) (xs : Nat → Int32) : ll_P L xs 78 5 = some (.inl (lo_aload 6 0)) := (P_78 L xs 5).trans rfl
theorem p_78_6 (L : Nat) (xs : Nat → Int32) : ll_P L xs 78 6 = some (.inl (lo_getf 9 7 1)) := (P_78 L xs 6).trans rfl
theorem p_78_9 (L : Nat) (xs : Nat → Int32) : ll_P L xs 78 9 = some (.inl (lo_cmp 31 12 (fun x y => decide (y ≤ x)))) := (P_78 L xs 9).trans rfl
theorem p_78_12 (L : Nat) (xs : Nat → Int32) : ll_P L xs 78 12 = some (.inl (lo_aload 13 0)) := (P_78 L xs 12).trans rfl
theorem p_78_13 (L : Nat) (xs : Nat → Int32) : ll_P L xs 78 13 = some (.inl (lo_getf 16 7 0)) := (P_78 L xs 13).trans rfl
theorem p_78_16 (L : Nat) (xs : Nat → Int32) : ll_P L xs 78 16 = some (.inl (lo_iload 17 3)) := (P_78 L xs 16).trans rfl
theorem p_78_17 (L : Nat) (xs : Nat → Int32) : ll_P L xs 78 17 = some (.inl (lo_ald 18 0)) := (P_78 L xs 17).trans rfl
theorem p_78_18 (L : Nat) (xs : Nat → Int32) : ll_P L xs 78 18 = some (.inl (lo_iload 19 1)) := (P_78 L xs 18).trans rfl
theorem p_78_19 (L : Nat) (xs : Nat → Int32) : ll_P L xs 78 19 = some (.inl (lo_cmp 25 22 (fun x y => decide (¬ x = y)))) := (P_78 L xs 19).trans rfl
theorem p_78_22 (L : Nat) (xs : Nat → Int32) : ll_P L xs 78 22 = some (.inl (lo_iinc 25 2 1)) := (P_78 L xs 22).trans rfl
theorem p_78_25 (L : Nat) (xs : Nat → Int32) : ll_P L xs 78 25 = some (.inl (lo_iinc 28 3 1)) := (P_78 L xs 25).trans rfl
theorem p_78_28 (L : Nat) (xs : Nat → Int32) : ll_P L xs 78 28 = some (.inl (lo_goto 4)) := (P_78 L xs 28).trans rfl
theorem p_78_31 (L : Nat) (xs : Nat → Int32) : ll_P L xs 78 31 = some (.inl (lo_iload 32 2)) := (P_78 L xs 31).trans rfl
theorem p_78_32 (L : Nat) (xs : Nat → Int32) : ll_P L xs 78 32 = some (.inr (.inr 1)) := (P_78 L xs 32).trans rfl
theorem b_78_0 {Y : sY} {d : Nat} {s : sT} {K : Option Int32 → sT → Prop} {r0 : Nat} {x1 : Int32} (h : tT Y d 78 4 [.ref r0, .int x1, .int (0 : Int32), .int (0 : Int32)] [] s K) : tT Y d 78 0 [.ref r0, .int x1, .null, .null] [] s K :=
  (tt_push (p_78_0 _ _)).mpr ((tt_istore (p_78_1 _ _) (Nat.le_of_ble_eq_true rfl) rfl rfl).mpr ((tt_push (p_78_2 _ _)).mpr ((tt_istore (p_78_3 _ _) (Nat.le_of_ble_eq_true rfl) rfl rfl).mpr (h))))
theorem b_78_4 {Y : sY} {d : Nat} {s : sT} {K : Option Int32 → sT → Prop} {r0 : Nat} {x1 : Int32} {x2 : Int32} {x3 : Int32} (h : (isO Y r0 7 ∧ (if (s.1 r0 1) ≤ x3 then K (some x2) s else (∃ a2, (isO Y r0 7 ∧ s.2 r0 0 = some a2) ∧ (∃ m4, (isA Y a2 0 m4 ∧ inR x3 m4) ∧ (if ¬ (s.1 a2 (x3).toNatClampNeg) = x1 then tT Y d 78 25 [.ref r0, .int x1, .int x2, .int x3] [] s K else tT Y d 78 25 [.ref r0, .int x1, .int (x2 + 1), .int x3] [] s K)))))) : tT Y d 78 4 [.ref r0, .int x1, .int x2, .int x3] [] s K :=
  (tt_iload (p_78_4 _ _) rfl).mpr ((tt_aload (p_78_5 _ _) rfl).mpr (t3_geti (p_78_6 _ _) (isI_7_1) h.1 (t3_cmp (p := (s.1 r0 1) ≤ x3) (p_78_9 _ _) rfl (fun g1 => (tt_iload (p_78_31 _ _) rfl).mpr (tt_ret1 (p_78_32 _ _) (ifp h.2 g1))) (fun g1 => (tt_aload (p_78_12 _ _) rfl).mpr (Exists.elim (ifn h.2 g1) (fun a2 h3 => t3_getr (p_78_13 _ _) (isI_7_0) h3.1.1 h3.1.2 ((tt_iload (p_78_16 _ _) rfl).mpr (Exists.elim h3.2 (fun m4 h5 => t3_ald (p_78_17 _ _) h5.1.1 h5.1.2 ((tt_iload (p_78_18 _ _) rfl).mpr (t3_cmp (p := ¬ (s.1 a2 (x3).toNatClampNeg) = x1) (p_78_19 _ _) rfl (fun g6 => (ifp h5.2 g6)) (fun g6 => (tt_iinc (p_78_22 _ _) rfl rfl rfl).mpr ((ifn h5.2 g6))))))))))))))
theorem b_78_25 {Y : sY} {d : Nat} {s : sT} {K : Option Int32 → sT → Prop} {r0 : Nat} {x1 : Int32} {x2 : Int32} {x3 : Int32} (h : tT Y d 78 4 [.ref r0, .int x1, .int x2, .int (x3 + 1)] [] s K) : tT Y d 78 25 [.ref r0, .int x1, .int x2, .int x3] [] s K :=
  (tt_iinc (p_78_25 _ _) rfl rfl rfl).mpr ((tt_goto (p_78_28 _ _)).mpr (h))
/-! InclusionProver$Tree.<init>.()V -/
theorem p_79_0 (L : Nat) (xs : Nat → Int32) : ll_P L xs 79 0 = some (.inl (lo_aload 1 0)) := (P_79 L xs 0).trans rfl
theorem p_79_1 (L : Nat) (xs : Nat → Int32) : ll_P L xs 79 1 = some (.inl (lo_init 4)) := (P_79 L xs 1).trans rfl
theorem p_79_4 (L : Nat) (xs : Nat → Int32) : ll_P L xs 79 4 = some (.inl (lo_aload 5 0)) := (P_79 L xs 4).trans rfl
theorem p_79_5 (L : Nat) (xs : Nat → Int32) : ll_P L xs 79 5 = some (.inl (lo_push 8 (.int 160))) := (P_79 L xs 5).trans rfl
theorem p_79_8 (L : Nat) (xs : Nat → Int32) : ll_P L xs 79 8 = some (.inl (lo_newa 10 0)) := (P_79 L xs 8).trans rfl
theorem p_79_10 (L : Nat) (xs : Nat → Int32) : ll_P L xs 79 10 = some (.inl (lo_putf 13 8 0 2)) := (P_79 L xs 10).trans rfl
theorem p_79_13 (L : Nat) (xs : Nat → Int32) : ll_P L xs 79 13 = some (.inl (lo_aload 14 0)) := (P_79 L xs 13).trans rfl
theorem p_79_14 (L : Nat) (xs : Nat → Int32) : ll_P L xs 79 14 = some (.inl (lo_push 17 (.int 160))) := (P_79 L xs 14).trans rfl
theorem p_79_17 (L : Nat) (xs : Nat → Int32) : ll_P L xs 79 17 = some (.inl (lo_newa 19 0)) := (P_79 L xs 17).trans rfl
theorem p_79_19 (L : Nat) (xs : Nat → Int32) : ll_P L xs 79 19 = some (.inl (lo_putf 22 8 1 2)) := (P_79 L xs 19).trans rfl
theorem p_79_22 (L : Nat) (xs : Nat → Int32) : ll_P L xs 79 22 = some (.inl (lo_aload 23 0)) := (P_79 L xs 22).trans rfl
theorem p_79_23 (L : Nat) (xs : Nat → Int32) : ll_P L xs 79 23 = some (.inl (lo_push 26 (.int 160))) := (P_79 L xs 23).trans rfl
theorem p_79_26 (L : Nat) (xs : Nat → Int32) : ll_P L xs 79 26 = some (.inl (lo_newa 28 0)) := (P_79 L xs 26).trans rfl
theorem p_79_28 (L : Nat) (xs : Nat → Int32) : ll_P L xs 79 28 = some (.inl (lo_putf 31 8 2 2)) := (P_79 L xs 28).trans rfl
theorem p_79_31 (L : Nat) (xs : Nat → Int32) : ll_P L xs 79 31 = some (.inl (lo_aload 32 0)) := (P_79 L xs 31).trans rfl
theorem p_79_32 (L : Nat) (xs : Nat → Int32) : ll_P L xs 79 32 = some (.inl (lo_push 35 (.int 160))) := (P_79 L xs 32).trans rfl
theorem p_79_35 (L : Nat) (xs : Nat → Int32) : ll_P L xs 79 35 = some (.inl (lo_newa 37 0)) := (P_79 L xs 35).trans rfl
theorem p_79_37 (L : Nat) (xs : Nat → Int32) : ll_P L xs 79 37 = some (.inl (lo_putf 40 8 3 2)) := (P_79 L xs 37).trans rfl
theorem p_79_40 (L : Nat) (xs : Nat → Int32) : ll_P L xs 79 40 = some (.inl (lo_aload 41 0)) := (P_79 L xs 40).trans rfl
theorem p_79_41 (L : Nat) (xs : Nat → Int32) : ll_P L xs 79 41 = some (.inl (lo_push 44 (.int 160))) := (P_79 L xs 41).trans rfl
theorem p_79_44 (L : Nat) (xs : Nat → Int32) : ll_P L xs 79 44 = some (.inl (lo_newa 46 0)) := (P_79 L xs 44).trans rfl
theorem p_79_46 (L : Nat) (xs : Nat → Int32) : ll_P L xs 79 46 = some (.inl (lo_putf 49 8 4 2)) := (P_79 L xs 46).trans rfl
theorem p_79_49 (L : Nat) (xs : Nat → Int32) : ll_P L xs 79 49 = some (.inl (lo_aload 50 0)) := (P_79 L xs 49).trans rfl
theorem p_79_50 (L : Nat) (xs : Nat → Int32) : ll_P L xs 79 50 = some (.inl (lo_push 53 (.int 2048))) := (P_79 L xs 50).trans rfl
theorem p_79_53 (L : Nat) (xs : Nat → Int32) : ll_P L xs 79 53 = some (.inl (lo_newa 55 0)) := (P_79 L xs 53).trans rfl
theorem p_79_55 (L : Nat) (xs : Nat → Int32) : ll_P L xs 79 55 = some (.inl (lo_putf 58 8 5 2)) := (P_79 L xs 55).trans rfl
theorem p_79_58 (L : Nat) (xs : Nat → Int32) : ll_P L xs 79 58 = some (.inl (lo_aload 59 0)) := (P_79 L xs 58).trans rfl
theorem p_79_59 (L : Nat) (xs : Nat → Int32) : ll_P L xs 79 59 = some (.inl (lo_push 62 (.int 136))) := (P_79 L xs 59).trans rfl
theorem p_79_62 (L : Nat) (xs : Nat → Int32) : ll_P L xs 79 62 = some (.inl (lo_newa 64 0)) := (P_79 L xs 62).trans rfl
theorem p_79_64 (L : Nat) (xs : Nat → Int32) : ll_P L xs 79 64 = some (.inl (lo_putf 67 8 6 2)) := (P_79 L xs 64).trans rfl
theorem p_79_67 (L : Nat) (xs : Nat → Int32) : ll_P L xs 79 67 = some (.inl (lo_aload 68 0)) := (P_79 L xs 67).trans rfl
theorem p_79_68 (L : Nat) (xs : Nat → Int32) : ll_P L xs 79 68 = some (.inl (lo_getf 71 8 3)) := (P_79 L xs 68).trans rfl
theorem p_79_71 (L : Nat) (xs : Nat → Int32) : ll_P L xs 79 71 = some (.inl (lo_push 72 (.int 0))) := (P_79 L xs 71).trans rfl
theorem p_79_72 (L : Nat) (xs : Nat → Int32) : ll_P L xs 79 72 = some (.inl (lo_push 73 (.int (-1)))) := (P_79 L xs 72).trans rfl
theorem p_79_73 (L : Nat) (xs : Nat → Int32) : ll_P L xs 79 73 = some (.inl (lo_ast 74 0)) := (P_79 L xs 73).trans rfl
theorem p_79_74 (L : Nat) (xs : Nat → Int32) : ll_P L xs 79 74 = some (.inl (lo_aload 75 0)) := (P_79 L xs 74).trans rfl
theorem p_79_75 (L : Nat) (xs : Nat → Int32) : ll_P L xs 79 75 = some (.inl (lo_getf 78 8 3)) := (P_79 L xs 75).trans rfl
theorem p_79_78 (L : Nat) (xs : Nat → Int32) : ll_P L xs 79 78 = some (.inl (lo_push 79 (.int 1))) := (P_79 L xs 78).trans rfl
theorem p_79_79 (L : Nat) (xs : Nat → Int32) : ll_P L xs 79 79 = some (.inl (lo_push 80 (.int 0))) := (P_79 L xs 79).trans rfl
theorem p_79_80 (L : Nat) (xs : Nat → Int32) : ll_P L xs 79 80 = some (.inl (lo_ast 81 0)) := (P_79 L xs 80).trans rfl
theorem p_79_81 (L : Nat) (xs : Nat → Int32) : ll_P L xs 79 81 = some (.inl (lo_push 82 (.int 2))) := (P_79 L xs 81).trans rfl
theorem p_79_82 (L : Nat) (xs : Nat → Int32) : ll_P L xs 79 82 = some (.inl (lo_istore 83 1)) := (P_79 L xs 82).trans rfl
theorem p_79_83 (L : Nat) (xs : Nat → Int32) : ll_P L xs 79 83 = some (.inl (lo_iload 84 1)) := (P_79 L xs 83).trans rfl
theorem p_79_84 (L : Nat) (xs : Nat → Int32) : ll_P L xs 79 84 = some (.inl (lo_push 85 (.int 5))) := (P_79 L xs 84).trans rfl
theorem p_79_85 (L : Nat) (xs : Nat → Int32) : ll_P L xs 79 85 = some (.inl (lo_cmp 101 88 (fun x y => decide (y ≤ x)))) := (P_79 L xs 85).trans rfl
theorem p_79_88 (L : Nat) (xs : Nat → Int32) : ll_P L xs 79 88 = some (.inl (lo_aload 89 0)) := (P_79 L xs 88).trans rfl
theorem p_79_89 (L : Nat) (xs : Nat → Int32) : ll_P L xs 79 89 = some (.inl (lo_getf 92 8 3)) := (P_79 L xs 89).trans rfl
theorem p_79_92 (L : Nat) (xs : Nat → Int32) : ll_P L xs 79 92 = some (.inl (lo_iload 93 1)) := (P_79 L xs 92).trans rfl
theorem p_79_93 (L : Nat) (xs : Nat → Int32) : ll_P L xs 79 93 = some (.inl (lo_push 94 (.int 1))) := (P_79 L xs 93).trans rfl
theorem p_79_94 (L : Nat) (xs : Nat → Int32) : ll_P L xs 79 94 = some (.inl (lo_ast 95 0)) := (P_79 L xs 94).trans rfl
theorem p_79_95 (L : Nat) (xs : Nat → Int32) : ll_P L xs 79 95 = some (.inl (lo_iinc 98 1 1)) := (P_79 L xs 95).trans rfl
theorem p_79_98 (L : Nat) (xs : Nat → Int32) : ll_P L xs 79 98 = some (.inl (lo_goto 83)) := (P_79 L xs 98).trans rfl
theorem p_79_101 (L : Nat) (xs : Nat → Int32) : ll_P L xs 79 101 = some (.inl (lo_aload 102 0)) := (P_79 L xs 101).trans rfl
theorem p_79_102 (L : Nat) (xs : Nat → Int32) : ll_P L xs 79 102 = some (.inl (lo_push 103 (.int 5))) := (P_79 L xs 102).trans rfl
theorem p_79_103 (L : Nat) (xs : Nat → Int32) : ll_P L xs 79 103 = some (.inl (lo_putf 106 8 7 0)) := (P_79 L xs 103).trans rfl
theorem p_79_106 (L : Nat) (xs : Nat → Int32) : ll_P L xs 79 106 = some (.inr (.inr 0)) := (P_79 L xs 106).trans rfl
/-! InclusionProver$Tree.clear.()V -/
theorem p_80_0 (L : Nat) (xs : Nat → Int32) : ll_P L xs 80 0 = some (.inl (lo_aload 1 0)) := (P_80 L xs 0).trans rfl
theorem p_80_1 (L : Nat) (xs : Nat → Int32) : ll_P L xs 80 1 = some (.inl (lo_push 2 (.int 5))) := (P_80 L xs 1).trans rfl
theorem p_80_2 (L : Nat) (xs : Nat → Int32) : ll_P L xs 80 2 = some (.inl (lo_putf 5 8 7 0)) := (P_80 L xs 2).trans rfl
theorem p_80_5 (L : Nat) (xs : Nat → Int32) : ll_P L xs 80 5 = some (.inl (lo_aload 6 0)) := (P_80 L xs 5).trans rfl
theorem p_80_6 (L : Nat) (xs : Nat → Int32) : ll_P L xs 80 6 = some (.inl (lo_push 7 (.int 0))) := (P_80 L xs 6).trans rfl
theorem p_80_7 (L : Nat) (xs : Nat → Int32) : ll_P L xs 80 7 = some (.inl (lo_putf 10 8 8 0)) := (P_80 L xs 7).trans rfl
theorem p_80_10 (L : Nat) (xs : Nat → Int32) : ll_P L xs 80 10 = some (.inl (lo_aload 11 0)) := (P_80 L xs 10).trans rfl
theorem p_80_11 (L : Nat) (xs : Nat → Int32) : ll_P L xs 80 11 = some (.inl (lo_push 12 (.int 0))) := (P_80 L xs 11).trans rfl
theorem p_80_12 (L : Nat) (xs : Nat → Int32) : ll_P L xs 80 12 = some (.inl (lo_putf 15 8 9 0)) := (P_80 L xs 12).trans rfl
theorem p_80_15 (L : Nat) (xs : Nat → Int32) : ll_P L xs 80 15 = some (.inr (.inr 0)) := (P_80 L xs 15).trans rfl
theorem b_80_0 {Y : sY} {d : Nat} {s : sT} {K : Option Int32 → sT → Prop} {r0 : Nat} (h : (isO Y r0 8 ∧ (isO Y r0 8 ∧ (isO Y r0 8 ∧ K none (pV (pV (pV s r0 7 (5 : Int32)) r0 8 (0 : Int32)) r0 9 (0 : Int32)))))) : tT Y d 80 0 [.ref r0] [] s K :=
  (tt_aload (p_80_0 _ _) rfl).mpr ((tt_push (p_80_1 _ _)).mpr ((t2_puti (p_80_2 _ _) isI_8_7 h.1).mpr ((tt_aload (p_80_5 _ _) rfl).mpr ((tt_push (p_80_6 _ _)).mpr ((t2_puti (p_80_7 _ _) isI_8_8 h.2.1).mpr ((tt_aload (p_80_10 _ _) rfl).mpr ((tt_push (p_80_11 _ _)).mpr ((t2_puti (p_80_12 _ _) isI_8_9 h.2.2.1).mpr (tt_ret0 (p_80_15 _ _) h.2.2.2)))))))))
/-! InclusionProver$Tree.kindOf.(I)I -/
theorem p_81_0 (L : Nat) (xs : Nat → Int32) : ll_P L xs 81 0 = some (.inl (lo_iload 1 1)) := (P_81 L xs 0).trans rfl
theorem p_81_1 (L : Nat) (xs : Nat → Int32) : ll_P L xs 81 1 = some (.inl (lo_if 21 4 (fun x => decide (x < 0)))) := (P_81 L xs 1).trans rfl
theorem p_81_4 (L : Nat) (xs : Nat → Int32) : ll_P L xs 81 4 = some (.inl (lo_iload 5 1)) := (P_81 L xs 4).trans rfl
theorem p_81_5 (L : Nat) (xs : Nat → Int32) : ll_P L xs 81 5 = some (.inl (lo_aload 6 0)) := (P_81 L xs 5).trans rfl
theorem p_81_6 (L : Nat) (xs : Nat → Int32) : ll_P L xs 81 6 = some (.inl (lo_getf 9 8 7)) := (P_81 L xs 6).trans rfl
theorem p_81_9 (L : Nat) (xs : Nat → Int32) : ll_P L xs 81 9 = some (.inl (lo_cmp 21 12 (fun x y => decide (y ≤ x)))) := (P_81 L xs 9).trans rfl
theorem p_81_12 (L : Nat) (xs : Nat → Int32) : ll_P L xs 81 12 = some (.inl (lo_aload 13 0)) := (P_81 L xs 12).trans rfl
theorem p_81_13 (L : Nat) (xs : Nat → Int32) : ll_P L xs 81 13 = some (.inl (lo_getf 16 8 0)) := (P_81 L xs 13).trans rfl
theorem p_81_16 (L : Nat) (xs : Nat → Int32) : ll_P L xs 81 16 = some (.inl (lo_iload 17 1)) := (P_81 L xs 16).trans rfl
theorem p_81_17 (L : Nat) (xs : Nat → Int32) : ll_P L xs 81 17 = some (.inl (lo_ald 18 0)) := (P_81 L xs 17).trans rfl
theorem p_81_18 (L : Nat) (xs : Nat → Int32) : ll_P L xs 81 18 = some (.inl (lo_goto 22)) := (P_81 L xs 18).trans rfl
theorem p_81_21 (L : Nat) (xs : Nat → Int32) : ll_P L xs 81 21 = some (.inl (lo_push 22 (.int 0))) := (P_81 L xs 21).trans rfl
theorem p_81_22 (L : Nat) (xs : Nat → Int32) : ll_P L xs 81 22 = some (.inr (.inr 1)) := (P_81 L xs 22).trans rfl
theorem b_81_0 {Y : sY} {d : Nat} {s : sT} {K : Option Int32 → sT → Prop} {r0 : Nat} {x1 : Int32} (h : (if x1 < 0 then K (some (0 : Int32)) s else (isO Y r0 8 ∧ (if (s.1 r0 7) ≤ x1 then K (some (0 : Int32)) s else (∃ a3, (isO Y r0 8 ∧ s.2 r0 0 = some a3) ∧ (∃ m5, (isA Y a3 0 m5 ∧ inR x1 m5) ∧ K (some (s.1 a3 (x1).toNatClampNeg)) s)))))) : tT Y d 81 0 [.ref r0, .int x1] [] s K :=
  (tt_iload (p_81_0 _ _) rfl).mpr (t3_if (p := x1 < 0) (p_81_1 _ _) rfl (fun g1 => (tt_push (p_81_21 _ _)).mpr (tt_ret1 (p_81_22 _ _) (ifp h g1))) (fun g1 => (tt_iload (p_81_4 _ _) rfl).mpr ((tt_aload (p_81_5 _ _) rfl).mpr (t3_geti (p_81_6 _ _) (isI_8_7) (ifn h g1).1 (t3_cmp (p := (s.1 r0 7) ≤ x1) (p_81_9 _ _) rfl (fun g2 => (tt_push (p_81_21 _ _)).mpr (tt_ret1 (p_81_22 _ _) (ifp (ifn h g1).2 g2))) (fun g2 => (tt_aload (p_81_12 _ _) rfl).mpr (Exists.elim (ifn (ifn h g1).2 g2) (fun a3 h4 => t3_getr (p_81_13 _ _) (isI_8_0) h4.1.1 h4.1.2 ((tt_iload (p_81_16 _ _) rfl).mpr (Exists.elim h4.2 (fun m5 h6 => t3_ald (p_81_17 _ _) h6.1.1 h6.1.2 ((tt_goto (p_81_18 _ _)).mpr (tt_ret1 (p_81_22 _ _) h6.2)))))))))))))
/-! InclusionProver$Tree.childrenOf.(I)I -/
theorem p_82_0 (L : Nat) (xs : Nat → Int32) : ll_P L xs 82 0 = some (.inl (lo_iload 1 1)) := (P_82 L xs 0).trans rfl
theorem p_82_1 (L : Nat) (xs : Nat → Int32) : ll_P L xs 82 1 = some (.inl (lo_if 21 4 (fun x => decide (x < 0)))) := (P_82 L xs 1).trans rfl
theorem p_82_4 (L : Nat) (xs : Nat → Int32) : ll_P L xs 82 4 = some (.inl (lo_iload 5 1)) := (P_82 L xs 4).trans rfl
theorem p_82_5 (L : Nat) (xs : Nat → Int32) : ll_P L xs 82 5 = some (.inl (lo_aload 6 0)) := (P_82 L xs 5).trans rfl
theorem p_82_6 (L : Nat) (xs : Nat → Int32) : ll_P L xs 82 6 = some (.inl (lo_getf 9 8 7)) := (P_82 L xs 6).trans rfl
theorem p_82_9 (L : Nat) (xs : Nat → Int32) : ll_P L xs 82 9 = some (.inl (lo_cmp 21 12 (fun x y => decide (y ≤ x)))) := (P_82 L xs 9).trans rfl
theorem p_82_12 (L : Nat) (xs : Nat → Int32) : ll_P L xs 82 12 = some (.inl (lo_aload 13 0)) := (P_82 L xs 12).trans rfl
theorem p_82_13 (L : Nat) (xs : Nat → Int32) : ll_P L xs 82 13 = some (.inl (lo_getf 16 8 2)) := (P_82 L xs 13).trans rfl
theorem p_82_16 (L : Nat) (xs : Nat → Int32) : ll_P L xs 82 16 = some (.inl (lo_iload 17 1)) := (P_82 L xs 16).trans rfl
theorem p_82_17 (L : Nat) (xs : Nat → Int32) : ll_P L xs 82 17 = some (.inl (lo_ald 18 0)) := (P_82 L xs 17).trans rfl
theorem p_82_18 (L : Nat) (xs : Nat → Int32) : ll_P L xs 82 18 = some (.inl (lo_goto 22)) := (P_82 L xs 18).trans rfl
theorem p_82_21 (L : Nat) (xs : Nat → Int32) : ll_P L xs 82 21 = some (.inl (lo_push 22 (.int 0))) := (P_82 L xs 21).trans rfl
theorem p_82_22 (L : Nat) (xs : Nat → Int32) : ll_P L xs 82 22 = some (.inr (.inr 1)) := (P_82 L xs 22).trans rfl
theorem b_82_0 {Y : sY} {d : Nat} {s : sT} {K : Option Int32 → sT → Prop} {r0 : Nat} {x1 : Int32} (h : (if x1 < 0 then K (some (0 : Int32)) s else (isO Y r0 8 ∧ (if (s.1 r0 7) ≤ x1 then K (some (0 : Int32)) s else (∃ a3, (isO Y r0 8 ∧ s.2 r0 2 = some a3) ∧ (∃ m5, (isA Y a3 0 m5 ∧ inR x1 m5) ∧ K (some (s.1 a3 (x1).toNatClampNeg)) s)))))) : tT Y d 82 0 [.ref r0, .int x1] [] s K :=
  (tt_iload (p_82_0 _ _) rfl).mpr (t3_if (p := x1 < 0) (p_82_1 _ _) rfl (fun g1 => (tt_push (p_82_21 _ _)).mpr (tt_ret1 (p_82_22 _ _) (ifp h g1))) (fun g1 => (tt_iload (p_82_4 _ _) rfl).mpr ((tt_aload (p_82_5 _ _) rfl).mpr (t3_geti (p_82_6 _ _) (isI_8_7) (ifn h g1).1 (t3_cmp (p := (s.1 r0 7) ≤ x1) (p_82_9 _ _) rfl (fun g2 => (tt_push (p_82_21 _ _)).mpr (tt_ret1 (p_82_22 _ _) (ifp (ifn h g1).2 g2))) (fun g2 => (tt_aload (p_82_12 _ _) rfl).mpr (Exists.elim (ifn (ifn h g1).2 g2) (fun a3 h4 => t3_getr (p_82_13 _ _) (isI_8_2) h4.1.1 h4.1.2 ((tt_iload (p_82_16 _ _) rfl).mpr (Exists.elim h4.2 (fun m5 h6 => t3_ald (p_82_17 _ _) h6.1.1 h6.1.2 ((tt_goto (p_82_18 _ _)).mpr (tt_ret1 (p_82_22 _ _) h6.2)))))))))))))
/-! InclusionProver$Tree.childOf.(II)I -/
theorem p_83_0 (L : Nat) (xs : Nat → Int32) : ll_P L xs 83 0 = some (.inl (lo_iload 1 1)) := (P_83 L xs 0).trans rfl
theorem p_83_1 (L : Nat) (xs : Nat → Int32) : ll_P L xs 83 1 = some (.inl (lo_if 30 4 (fun x => decide (x < 0)))) := (P_83 L xs 1).trans rfl
theorem p_83_4 (L : Nat) (xs : Nat → Int32) : ll_P L xs 83 4 = some (.inl (lo_iload 5 1)) := (P_83 L xs 4).trans rfl
theorem p_83_5 (L : Nat) (xs : Nat → Int32) : ll_P L xs 83 5 = some (.inl (lo_aload 6 0)) := (P_83 L xs 5).trans rfl
theorem p_83_6 (L : Nat) (xs : Nat → Int32) : ll_P L xs 83 6 = some (.inl (lo_getf 9 8 7)) := (P_83 L xs 6).trans rfl
theorem p_83_9 (L : Nat) (xs : Nat → Int32) : ll_P L xs 83 9 = some (.inl (lo_cmp 30 12 (fun x y => decide (y ≤ x)))) := (P_83 L xs 9).trans rfl
theorem p_83_12 (L : Nat) (xs : Nat → Int32) : ll_P L xs 83 12 = some (.inl (lo_iload 13 2)) := (P_83 L xs 12).trans rfl
theorem p_83_13 (L : Nat) (xs : Nat → Int32) : ll_P L xs 83 13 = some (.inl (lo_if 30 16 (fun x => decide (x < 0)))) := (P_83 L xs 13).trans rfl
theorem p_83_16 (L : Nat) (xs : Nat → Int32) : ll_P L xs 83 16 = some (.inl (lo_iload 17 2)) := (P_83 L xs 16).trans rfl
theorem p_83_17 (L : Nat) (xs : Nat → Int32) : ll_P L xs 83 17 = some (.inl (lo_aload 18 0)) := (P_83 L xs 17).trans rfl
theorem p_83_18 (L : Nat) (xs : Nat → Int32) : ll_P L xs 83 18 = some (.inl (lo_getf 21 8 2)) := (P_83 L xs 18).trans rfl
theorem p_83_21 (L : Nat) (xs : Nat → Int32) : ll_P L xs 83 21 = some (.inl (lo_iload 22 1)) := (P_83 L xs 21).trans rfl
theorem p_83_22 (L : Nat) (xs : Nat → Int32) : ll_P L xs 83 22 = some (.inl (lo_ald 23 0)) := (P_83 L xs 22).trans rfl
theorem p_83_23 (L : Nat) (xs : Nat → Int32) : ll_P L xs 83 23 = some (.inl (lo_cmp 30 26 (fun x y => decide (y ≤ x)))) := (P_83 L xs 23).trans rfl
theorem p_83_26 (L : Nat) (xs : Nat → Int32) : ll_P L xs 83 26 = some (.inl (lo_push 27 (.int 1))) := (P_83 L xs 26).trans rfl
theorem p_83_27 (L : Nat) (xs : Nat → Int32) : ll_P L xs 83 27 = some (.inl (lo_goto 31)) := (P_83 L xs 27).trans rfl
theorem p_83_30 (L : Nat) (xs : Nat → Int32) : ll_P L xs 83 30 = some (.inl (lo_push 31 (.int 0))) := (P_83 L xs 30).trans rfl
theorem p_83_31 (L : Nat) (xs : Nat → Int32) : ll_P L xs 83 31 = some (.inl (lo_istore 32 3)) := (P_83 L xs 31).trans rfl
theorem p_83_32 (L : Nat) (xs : Nat → Int32) : ll_P L xs 83 32 = some (.inl (lo_iload 33 3)) := (P_83 L xs 32).trans rfl
theorem p_83_33 (L : Nat) (xs : Nat → Int32) : ll_P L xs 83 33 = some (.inl (lo_if 52 36 (fun x => decide (x = 0)))) := (P_83 L xs 33).trans rfl
theorem p_83_36 (L : Nat) (xs : Nat → Int32) : ll_P L xs 83 36 = some (.inl (lo_aload 37 0)) := (P_83 L xs 36).trans rfl
theorem p_83_37 (L : Nat) (xs : Nat → Int32) : ll_P L xs 83 37 = some (.inl (lo_getf 40 8 5)) := (P_83 L xs 37).trans rfl
theorem p_83_40 (L : Nat) (xs : Nat → Int32) : ll_P L xs 83 40 = some (.inl (lo_aload 41 0)) := (P_83 L xs 40).trans rfl
theorem p_83_41 (L : Nat) (xs : Nat → Int32) : ll_P L xs 83 41 = some (.inl (lo_getf 44 8 1)) := (P_83 L xs 41).trans rfl
theorem p_83_44 (L : Nat) (xs : Nat → Int32) : ll_P L xs 83 44 = some (.inl (lo_iload 45 1)) := (P_83 L xs 44).trans rfl
theorem p_83_45 (L : Nat) (xs : Nat → Int32) : ll_P L xs 83 45 = some (.inl (lo_ald 46 0)) := (P_83 L xs 45).trans rfl
theorem p_83_46 (L : Nat) (xs : Nat → Int32) : ll_P L xs 83 46 = some (.inl (lo_iload 47 2)) := (P_83 L xs 46).trans rfl
theorem p_83_47 (L : Nat) (xs : Nat → Int32) : ll_P L xs 83 47 = some (.inl (lo_bin 48 (fun x y => x + y))) := (P_83 L xs 47).trans rfl
theorem p_83_48 (L : Nat) (xs : Nat → Int32) : ll_P L xs 83 48 = some (.inl (lo_ald 49 0)) := (P_83 L xs 48).trans rfl
theorem p_83_49 (L : Nat) (xs : Nat → Int32) : ll_P L xs 83 49 = some (.inl (lo_goto 53)) := (P_83 L xs 49).trans rfl
theorem p_83_52 (L : Nat) (xs : Nat → Int32) : ll_P L xs 83 52 = some (.inl (lo_push 53 (.int 0))) := (P_83 L xs 52).trans rfl
theorem p_83_53 (L : Nat) (xs : Nat → Int32) : ll_P L xs 83 53 = some (.inr (.inr 1)) := (P_83 L xs 53).trans rfl
theorem b_83_0 {Y : sY} {d : Nat} {s : sT} {K : Option Int32 → sT → Prop} {r0 : Nat} {x1 : Int32} {x2 : Int32} (h : (if x1 < 0 then tT Y d 83 30 [.ref r0, .int x1, .int x2, .null] [] s K else (isO Y r0 8 ∧ (if (s.1 r0 7) ≤ x1 then tT Y d 83 30 [.ref r0, .int x1, .int x2, .null] [] s K else (if x2 < 0 then tT Y d 83 30 [.ref r0, .int x1, .int x2, .null] [] s K else (∃ a4, (isO Y r0 8 ∧ s.2 r0 2 = some a4) ∧ (∃ m6, (isA Y a4 0 m6 ∧ inR x1 m6) ∧ (if (s.1 a4 (x1).toNatClampNeg) ≤ x2 then tT Y d 83 30 [.ref r0, .int x1, .int x2, .null] [] s K else tT Y d 83 31 [.ref r0, .int x1, .int x2, .null] [.int (1 : Int32)] s K)))))))) : tT Y d 83 0 [.ref r0, .int x1, .int x2, .null] [] s K :=
  (tt_iload (p_83_0 _ _) rfl).mpr (t3_if (p := x1 < 0) (p_83_1 _ _) rfl (fun g1 => (ifp h g1)) (fun g1 => (tt_iload (p_83_4 _ _) rfl).mpr ((tt_aload (p_83_5 _ _) rfl).mpr (t3_geti (p_83_6 _ _) (isI_8_7) (ifn h g1).1 (t3_cmp (p := (s.1 r0 7) ≤ x1) (p_83_9 _ _) rfl (fun g2 => (ifp (ifn h g1).2 g2)) (fun g2 => (tt_iload (p_83_12 _ _) rfl).mpr (t3_if (p := x2 < 0) (p_83_13 _ _) rfl (fun g3 => (ifp (ifn (ifn h g1).2 g2) g3)) (fun g3 => (tt_iload (p_83_16 _ _) rfl).mpr ((tt_aload (p_83_17 _ _) rfl).mpr (Exists.elim (ifn (ifn (ifn h g1).2 g2) g3) (fun a4 h5 => t3_getr (p_83_18 _ _) (isI_8_2) h5.1.1 h5.1.2 ((tt_iload (p_83_21 _ _) rfl).mpr (Exists.elim h5.2 (fun m6 h7 => t3_ald (p_83_22 _ _) h7.1.1 h7.1.2 (t3_cmp (p := (s.1 a4 (x1).toNatClampNeg) ≤ x2) (p_83_23 _ _) rfl (fun g8 => (ifp h7.2 g8)) (fun g8 => (tt_push (p_83_26 _ _)).mpr ((tt_goto (p_83_27 _ _)).mpr ((ifn h7.2 g8)))))))))))))))))))
theorem b_83_30 {Y : sY} {d : Nat} {s : sT} {K : Option Int32 → sT → Prop} {r0 : Nat} {x1 : Int32} {x2 : Int32} (h : tT Y d 83 31 [.ref r0, .int x1, .int x2, .null] [.int (0 : Int32)] s K) : tT Y d 83 30 [.ref r0, .int x1, .int x2, .null] [] s K :=
  (tt_push (p_83_30 _ _)).mpr (h)
theorem b_83_31 {Y : sY} {d : Nat} {s : sT} {K : Option Int32 → sT → Prop} {r0 : Nat} {x1 : Int32} {x2 : Int32} {t0 : Int32} (h : (if t0 = 0 then K (some (0 : Int32)) s else (∃ a2, (isO Y r0 8 ∧ s.2 r0 5 = some a2) ∧ (∃ a4, (isO Y r0 8 ∧ s.2 r0 1 = some a4) ∧ (∃ m6, (isA Y a4 0 m6 ∧ inR x1 m6) ∧ (∃ m8, (isA Y a2 0 m8 ∧ inR ((s.1 a4 (x1).toNatClampNeg) + x2) m8) ∧ K (some (s.1 a2 (((s.1 a4 (x1).toNatClampNeg) + x2)).toNatClampNeg)) s)))))) : tT Y d 83 31 [.ref r0, .int x1, .int x2, .null] [.int t0] s K :=
  (tt_istore (p_83_31 _ _) (Nat.le_of_ble_eq_true rfl) rfl rfl).mpr ((tt_iload (p_83_32 _ _) rfl).mpr (t3_if (p := t0 = 0) (p_83_33 _ _) rfl (fun g1 => (tt_push (p_83_52 _ _)).mpr (tt_ret1 (p_83_53 _ _) (ifp h g1))) (fun g1 => (tt_aload (p_83_36 _ _) rfl).mpr (Exists.elim (ifn h g1) (fun a2 h3 => t3_getr (p_83_37 _ _) (isI_8_5) h3.1.1 h3.1.2 ((tt_aload (p_83_40 _ _) rfl).mpr (Exists.elim h3.2 (fun a4 h5 => t3_getr (p_83_41 _ _) (isI_8_1) h5.1.1 h5.1.2 ((tt_iload (p_83_44 _ _) rfl).mpr (Exists.elim h5.2 (fun m6 h7 => t3_ald (p_83_45 _ _) h7.1.1 h7.1.2 ((tt_iload (p_83_46 _ _) rfl).mpr ((tt_bin (p_83_47 _ _)).mpr (Exists.elim h7.2 (fun m8 h9 => t3_ald (p_83_48 _ _) h9.1.1 h9.1.2 ((tt_goto (p_83_49 _ _)).mpr (tt_ret1 (p_83_53 _ _) h9.2)))))))))))))))))
/-! InclusionProver$Tree.shortestOf.(I)I -/
theorem p_84_0 (L : Nat) (xs : Nat → Int32) : ll_P L xs 84 0 = some (.inl (lo_iload 1 1)) := (P_84 L xs 0).trans rfl
theorem p_84_1 (L : Nat) (xs : Nat → Int32) : ll_P L xs 84 1 = some (.inl (lo_if 21 4 (fun x => decide (x < 0)))) := (P_84 L xs 1).trans rfl
theorem p_84_4 (L : Nat) (xs : Nat → Int32) : ll_P L xs 84 4 = some (.inl (lo_iload 5 1)) := (P_84 L xs 4).trans rfl
theorem p_84_5 (L : Nat) (xs : Nat → Int32) : ll_P L xs 84 5 = some (.inl (lo_aload 6 0)) := (P_84 L xs 5).trans rfl
theorem p_84_6 (L : Nat) (xs : Nat → Int32) : ll_P L xs 84 6 = some (.inl (lo_getf 9 8 7)) := (P_84 L xs 6).trans rfl
theorem p_84_9 (L : Nat) (xs : Nat → Int32) : ll_P L xs 84 9 = some (.inl (lo_cmp 21 12 (fun x y => decide (y ≤ x)))) := (P_84 L xs 9).trans rfl
theorem p_84_12 (L : Nat) (xs : Nat → Int32) : ll_P L xs 84 12 = some (.inl (lo_aload 13 0)) := (P_84 L xs 12).trans rfl
theorem p_84_13 (L : Nat) (xs : Nat → Int32) : ll_P L xs 84 13 = some (.inl (lo_getf 16 8 3)) := (P_84 L xs 13).trans rfl
theorem p_84_16 (L : Nat) (xs : Nat → Int32) : ll_P L xs 84 16 = some (.inl (lo_iload 17 1)) := (P_84 L xs 16).trans rfl
theorem p_84_17 (L : Nat) (xs : Nat → Int32) : ll_P L xs 84 17 = some (.inl (lo_ald 18 0)) := (P_84 L xs 17).trans rfl
theorem p_84_18 (L : Nat) (xs : Nat → Int32) : ll_P L xs 84 18 = some (.inl (lo_goto 22)) := (P_84 L xs 18).trans rfl
theorem p_84_21 (L : Nat) (xs : Nat → Int32) : ll_P L xs 84 21 = some (.inl (lo_push 22 (.int (-1)))) := (P_84 L xs 21).trans rfl
theorem p_84_22 (L : Nat) (xs : Nat → Int32) : ll_P L xs 84 22 = some (.inr (.inr 1)) := (P_84 L xs 22).trans rfl
theorem b_84_0 {Y : sY} {d : Nat} {s : sT} {K : Option Int32 → sT → Prop} {r0 : Nat} {x1 : Int32} (h : (if x1 < 0 then K (some (-1 : Int32)) s else (isO Y r0 8 ∧ (if (s.1 r0 7) ≤ x1 then K (some (-1 : Int32)) s else (∃ a3, (isO Y r0 8 ∧ s.2 r0 3 = some a3) ∧ (∃ m5, (isA Y a3 0 m5 ∧ inR x1 m5) ∧ K (some (s.1 a3 (x1).toNatClampNeg)) s)))))) : tT Y d 84 0 [.ref r0, .int x1] [] s K :=
  (tt_iload (p_84_0 _ _) rfl).mpr (t3_if (p := x1 < 0) (p_84_1 _ _) rfl (fun g1 => (tt_push (p_84_21 _ _)).mpr (tt_ret1 (p_84_22 _ _) (ifp h g1))) (fun g1 => (tt_iload (p_84_4 _ _) rfl).mpr ((tt_aload (p_84_5 _ _) rfl).mpr (t3_geti (p_84_6 _ _) (isI_8_7) (ifn h g1).1 (t3_cmp (p := (s.1 r0 7) ≤ x1) (p_84_9 _ _) rfl (fun g2 => (tt_push (p_84_21 _ _)).mpr (tt_ret1 (p_84_22 _ _) (ifp (ifn h g1).2 g2))) (fun g2 => (tt_aload (p_84_12 _ _) rfl).mpr (Exists.elim (ifn (ifn h g1).2 g2) (fun a3 h4 => t3_getr (p_84_13 _ _) (isI_8_3) h4.1.1 h4.1.2 ((tt_iload (p_84_16 _ _) rfl).mpr (Exists.elim h4.2 (fun m5 h6 => t3_ald (p_84_17 _ _) h6.1.1 h6.1.2 ((tt_goto (p_84_18 _ _)).mpr (tt_ret1 (p_84_22 _ _) h6.2)))))))))))))
/-! InclusionProver$Tree.nestOf.(I)I -/
theorem p_85_0 (L : Nat) (xs : Nat → Int32) : ll_P L xs 85 0 = some (.inl (lo_iload 1 1)) := (P_85 L xs 0).trans rfl
theorem p_85_1 (L : Nat) (xs : Nat → Int32) : ll_P L xs 85 1 = some (.inl (lo_if 21 4 (fun x => decide (x < 0)))) := (P_85 L xs 1).trans rfl
theorem p_85_4 (L : Nat) (xs : Nat → Int32) : ll_P L xs 85 4 = some (.inl (lo_iload 5 1)) := (P_85 L xs 4).trans rfl
theorem p_85_5 (L : Nat) (xs : Nat → Int32) : ll_P L xs 85 5 = some (.inl (lo_aload 6 0)) := (P_85 L xs 5).trans rfl
theorem p_85_6 (L : Nat) (xs : Nat → Int32) : ll_P L xs 85 6 = some (.inl (lo_getf 9 8 7)) := (P_85 L xs 6).trans rfl
theorem p_85_9 (L : Nat) (xs : Nat → Int32) : ll_P L xs 85 9 = some (.inl (lo_cmp 21 12 (fun x y => decide (y ≤ x)))) := (P_85 L xs 9).trans rfl
theorem p_85_12 (L : Nat) (xs : Nat → Int32) : ll_P L xs 85 12 = some (.inl (lo_aload 13 0)) := (P_85 L xs 12).trans rfl
theorem p_85_13 (L : Nat) (xs : Nat → Int32) : ll_P L xs 85 13 = some (.inl (lo_getf 16 8 4)) := (P_85 L xs 13).trans rfl
theorem p_85_16 (L : Nat) (xs : Nat → Int32) : ll_P L xs 85 16 = some (.inl (lo_iload 17 1)) := (P_85 L xs 16).trans rfl
theorem p_85_17 (L : Nat) (xs : Nat → Int32) : ll_P L xs 85 17 = some (.inl (lo_ald 18 0)) := (P_85 L xs 17).trans rfl
theorem p_85_18 (L : Nat) (xs : Nat → Int32) : ll_P L xs 85 18 = some (.inl (lo_goto 22)) := (P_85 L xs 18).trans rfl
theorem p_85_21 (L : Nat) (xs : Nat → Int32) : ll_P L xs 85 21 = some (.inl (lo_push 22 (.int 0))) := (P_85 L xs 21).trans rfl
theorem p_85_22 (L : Nat) (xs : Nat → Int32) : ll_P L xs 85 22 = some (.inr (.inr 1)) := (P_85 L xs 22).trans rfl
theorem b_85_0 {Y : sY} {d : Nat} {s : sT} {K : Option Int32 → sT → Prop} {r0 : Nat} {x1 : Int32} (h : (if x1 < 0 then K (some (0 : Int32)) s else (isO Y r0 8 ∧ (if (s.1 r0 7) ≤ x1 then K (some (0 : Int32)) s else (∃ a3, (isO Y r0 8 ∧ s.2 r0 4 = some a3) ∧ (∃ m5, (isA Y a3 0 m5 ∧ inR x1 m5) ∧ K (some (s.1 a3 (x1).toNatClampNeg)) s)))))) : tT Y d 85 0 [.ref r0, .int x1] [] s K :=
  (tt_iload (p_85_0 _ _) rfl).mpr (t3_if (p := x1 < 0) (p_85_1 _ _) rfl (fun g1 => (tt_push (p_85_21 _ _)).mpr (tt_ret1 (p_85_22 _ _) (ifp h g1))) (fun g1 => (tt_iload (p_85_4 _ _) rfl).mpr ((tt_aload (p_85_5 _ _) rfl).mpr (t3_geti (p_85_6 _ _) (isI_8_7) (ifn h g1).1 (t3_cmp (p := (s.1 r0 7) ≤ x1) (p_85_9 _ _) rfl (fun g2 => (tt_push (p_85_21 _ _)).mpr (tt_ret1 (p_85_22 _ _) (ifp (ifn h g1).2 g2))) (fun g2 => (tt_aload (p_85_12 _ _) rfl).mpr (Exists.elim (ifn (ifn h g1).2 g2) (fun a3 h4 => t3_getr (p_85_13 _ _) (isI_8_4) h4.1.1 h4.1.2 ((tt_iload (p_85_16 _ _) rfl).mpr (Exists.elim h4.2 (fun m5 h6 => t3_ald (p_85_17 _ _) h6.1.1 h6.1.2 ((tt_goto (p_85_18 _ _)).mpr (tt_ret1 (p_85_22 _ _) h6.2)))))))))))))
/-! InclusionProver$Tree.isFull.(I)Z -/
theorem p_86_0 (L : Nat) (xs : Nat → Int32) : ll_P L xs 86 0 = some (.inl (lo_aload 1 0)) := (P_86 L xs 0).trans rfl
theorem p_86_1 (L : Nat) (xs : Nat → Int32) : ll_P L xs 86 1 = some (.inl (lo_iload 2 1)) := (P_86 L xs 1).trans rfl
theorem p_86_2 (L : Nat) (xs : Nat → Int32) : ll_P L xs 86 2 = some (.inr (.inl (84, 2, 5))) := (P_86 L xs 2).trans rfl
theorem p_86_5 (L : Nat) (xs : Nat → Int32) : ll_P L xs 86 5 = some (.inl (lo_if 12 8 (fun x => decide (¬ x = 0)))) := (P_86 L xs 5).trans rfl
theorem p_86_8 (L : Nat) (xs : Nat → Int32) : ll_P L xs 86 8 = some (.inl (lo_push 9 (.int 1))) := (P_86 L xs 8).trans rfl
theorem p_86_9 (L : Nat) (xs : Nat → Int32) : ll_P L xs 86 9 = some (.inl (lo_goto 13)) := (P_86 L xs 9).trans rfl
theorem p_86_12 (L : Nat) (xs : Nat → Int32) : ll_P L xs 86 12 = some (.inl (lo_push 13 (.int 0))) := (P_86 L xs 12).trans rfl
theorem p_86_13 (L : Nat) (xs : Nat → Int32) : ll_P L xs 86 13 = some (.inr (.inr 2)) := (P_86 L xs 13).trans rfl
theorem b_86_0 {Y : sY} {d : Nat} {s : sT} {K : Option Int32 → sT → Prop} {r0 : Nat} {x1 : Int32} (h : (isO Y r0 8 ∧ tT Y d 84 0 [.ref r0, .int x1] [] s (fun r s1 => tT Y (d + 1) 86 5 [.ref r0, .int x1] ((r.map Value.int).toList ++ []) s1 K))) : tT Y (d + 1) 86 0 [.ref r0, .int x1] [] s K :=
  (tt_aload (p_86_0 _ _) rfl).mpr ((tt_iload (p_86_1 _ _) rfl).mpr (t2_callv (z := 84) (k := 2) (i := r0) (as := [.int x1]) (rest := []) (p_86_2 _ _) mK_84 mL_84 rfl rfl (Nat.le_of_ble_eq_true rfl) rfl (Nat.le_of_ble_eq_true rfl) h.1 h.2))
theorem b_86_5 {Y : sY} {d : Nat} {s : sT} {K : Option Int32 → sT → Prop} {r0 : Nat} {x1 : Int32} {t0 : Int32} (h : (if ¬ t0 = 0 then K (some (0 : Int32)) s else K (some (1 : Int32)) s)) : tT Y (d + 1) 86 5 [.ref r0, .int x1] [.int t0] s K :=
  t3_if (p := ¬ t0 = 0) (p_86_5 _ _) rfl (fun g1 => (tt_push (p_86_12 _ _)).mpr (tt_ret2 (p_86_13 _ _) (Or.inl rfl) (ifp h g1))) (fun g1 => (tt_push (p_86_8 _ _)).mpr ((tt_goto (p_86_9 _ _)).mpr (tt_ret2 (p_86_13 _ _) (Or.inr rfl) (ifn h g1))))
/-! InclusionProver$Tree.mark.()I -/
theorem p_87_0 (L : Nat) (xs : Nat → Int32) : ll_P L xs 87 0 = some (.inl (lo_aload 1 0)) := (P_87 L xs 0).trans rfl
theorem p_87_1 (L : Nat) (xs : Nat → Int32) : ll_P L xs 87 1 = some (.inl (lo_getf 4 8 9)) := (P_87 L xs 1).trans rfl
theorem p_87_4 (L : Nat) (xs : Nat → Int32) : ll_P L xs 87 4 = some (.inr (.inr 1)) := (P_87 L xs 4).trans rfl
theorem b_87_0 {Y : sY} {d : Nat} {s : sT} {K : Option Int32 → sT → Prop} {r0 : Nat} (h : (isO Y r0 8 ∧ K (some (s.1 r0 9)) s)) : tT Y d 87 0 [.ref r0] [] s K :=
  (tt_aload (p_87_0 _ _) rfl).mpr (t3_geti (p_87_1 _ _) (isI_8_9) h.1 (tt_ret1 (p_87_4 _ _) h.2))
/-! InclusionProver$Tree.addSummand.(II)V -/
theorem p_88_0 (L : Nat) (xs : Nat → Int32) : ll_P L xs 88 0 = some (.inl (lo_aload 1 0)) := (P_88 L xs 0).trans rfl
theorem p_88_1 (L : Nat) (xs : Nat → Int32) : ll_P L xs 88 1 = some (.inl (lo_iload 2 2)) := (P_88 L xs 1).trans rfl
theorem p_88_2 (L : Nat) (xs : Nat → Int32) : ll_P L xs 88 2 = some (.inr (.inl (81, 2, 5))) := (P_88 L xs 2).trans rfl
theorem p_88_5 (L : Nat) (xs : Nat → Int32) : ll_P L xs 88 5 = some (.inl (lo_push 6 (.int 1))) := (P_88 L xs 5).trans rfl
theorem p_88_6 (L : Nat) (xs : Nat → Int32) : ll_P L xs 88 6 = some (.inl (lo_cmp 40 9 (fun x y => decide (¬ x = y)))) := (P_88 L xs 6).trans rfl
theorem p_88_9 (L : Nat) (xs : Nat → Int32) : ll_P L xs 88 9 = some (.inl (lo_push 10 (.int 0))) := (P_88 L xs 9).trans rfl
theorem p_88_10 (L : Nat) (xs : Nat → Int32) : ll_P L xs 88 10 = some (.inl (lo_istore 11 3)) := (P_88 L xs 10).trans rfl
theorem p_88_11 (L : Nat) (xs : Nat → Int32) : ll_P L xs 88 11 = some (.inl (lo_iload 12 3)) := (P_88 L xs 11).trans rfl
theorem p_88_12 (L : Nat) (xs : Nat → Int32) : ll_P L xs 88 12 = some (.inl (lo_aload 13 0)) := (P_88 L xs 12).trans rfl
theorem p_88_13 (L : Nat) (xs : Nat → Int32) : ll_P L xs 88 13 = some (.inl (lo_iload 14 2)) := (P_88 L xs 13).trans rfl
theorem p_88_14 (L : Nat) (xs : Nat → Int32) : ll_P L xs 88 14 = some (.inr (.inl (82, 2, 17))) := (P_88 L xs 14).trans rfl
theorem p_88_17 (L : Nat) (xs : Nat → Int32) : ll_P L xs 88 17 = some (.inl (lo_cmp 37 20 (fun x y => decide (y ≤ x)))) := (P_88 L xs 17).trans rfl
theorem p_88_20 (L : Nat) (xs : Nat → Int32) : ll_P L xs 88 20 = some (.inl (lo_aload 21 0)) := (P_88 L xs 20).trans rfl
theorem p_88_21 (L : Nat) (xs : Nat → Int32) : ll_P L xs 88 21 = some (.inl (lo_iload 22 1)) := (P_88 L xs 21).trans rfl
theorem p_88_22 (L : Nat) (xs : Nat → Int32) : ll_P L xs 88 22 = some (.inl (lo_aload 23 0)) := (P_88 L xs 22).trans rfl
theorem p_88_23 (L : Nat) (xs : Nat → Int32) : ll_P L xs 88 23 = some (.inl (lo_iload 24 2)) := (P_88 L xs 23).trans rfl
theorem p_88_24 (L : Nat) (xs : Nat → Int32) : ll_P L xs 88 24 = some (.inl (lo_iload 25 3)) := (P_88 L xs 24).trans rfl
theorem p_88_25 (L : Nat) (xs : Nat → Int32) : ll_P L xs 88 25 = some (.inr (.inl (83, 3, 28))) := (P_88 L xs 25).trans rfl
theorem p_88_28 (L : Nat) (xs : Nat → Int32) : ll_P L xs 88 28 = some (.inr (.inl (97, 3, 31))) := (P_88 L xs 28).trans rfl
theorem p_88_31 (L : Nat) (xs : Nat → Int32) : ll_P L xs 88 31 = some (.inl (lo_iinc 34 3 1)) := (P_88 L xs 31).trans rfl
theorem p_88_34 (L : Nat) (xs : Nat → Int32) : ll_P L xs 88 34 = some (.inl (lo_goto 11)) := (P_88 L xs 34).trans rfl
theorem p_88_37 (L : Nat) (xs : Nat → Int32) : ll_P L xs 88 37 = some (.inl (lo_goto 50)) := (P_88 L xs 37).trans rfl
theorem p_88_40 (L : Nat) (xs : Nat → Int32) : ll_P L xs 88 40 = some (.inl (lo_iload 41 2)) := (P_88 L xs 40).trans rfl
theorem p_88_41 (L : Nat) (xs : Nat → Int32) : ll_P L xs 88 41 = some (.inl (lo_if 50 44 (fun x => decide (x = 0)))) := (P_88 L xs 41).trans rfl
theorem p_88_44 (L : Nat) (xs : Nat → Int32) : ll_P L xs 88 44 = some (.inl (lo_aload 45 0)) := (P_88 L xs 44).trans rfl
theorem p_88_45 (L : Nat) (xs : Nat → Int32) : ll_P L xs 88 45 = some (.inl (lo_iload 46 1)) := (P_88 L xs 45).trans rfl
theorem p_88_46 (L : Nat) (xs : Nat → Int32) : ll_P L xs 88 46 = some (.inl (lo_iload 47 2)) := (P_88 L xs 46).trans rfl
theorem p_88_47 (L : Nat) (xs : Nat → Int32) : ll_P L xs 88 47 = some (.inr (.inl (97, 3, 50))) := (P_88 L xs 47).trans rfl
theorem p_88_50 (L : Nat) (xs : Nat → Int32) : ll_P L xs 88 50 = some (.inr (.inr 0)) := (P_88 L xs 50).trans rfl
theorem b_88_0 {Y : sY} {d : Nat} {s : sT} {K : Option Int32 → sT → Prop} {r0 : Nat} {x1 : Int32} {x2 : Int32} (h : (isO Y r0 8 ∧ tT Y d 81 0 [.ref r0, .int x2] [] s (fun r s1 => tT Y (d + 1) 88 5 [.ref r0, .int x1, .int x2, .null] ((r.map Value.int).toList ++ []) s1 K))) : tT Y (d + 1) 88 0 [.ref r0, .int x1, .int x2, .null] [] s K :=
  (tt_aload (p_88_0 _ _) rfl).mpr ((tt_iload (p_88_1 _ _) rfl).mpr (t2_callv (z := 81) (k := 2) (i := r0) (as := [.int x2]) (rest := []) (p_88_2 _ _) mK_81 mL_81 rfl rfl (Nat.le_of_ble_eq_true rfl) rfl (Nat.le_of_ble_eq_true rfl) h.1 h.2))
theorem b_88_5 {Y : sY} {d : Nat} {s : sT} {K : Option Int32 → sT → Prop} {r0 : Nat} {x1 : Int32} {x2 : Int32} {t0 : Int32} (h : (if ¬ t0 = (1 : Int32) then (if x2 = 0 then tT Y (d + 1) 88 50 [.ref r0, .int x1, .int x2, .null] [] s K else (isO Y r0 8 ∧ tT Y d 97 0 [.ref r0, .int x1, .int x2, .null] [] s (fun r s1 => tT Y (d + 1) 88 50 [.ref r0, .int x1, .int x2, .null] ((r.map Value.int).toList ++ []) s1 K))) else tT Y (d + 1) 88 11 [.ref r0, .int x1, .int x2, .int (0 : Int32)] [] s K)) : tT Y (d + 1) 88 5 [.ref r0, .int x1, .int x2, .null] [.int t0] s K :=
  (tt_push (p_88_5 _ _)).mpr (t3_cmp (p := ¬ t0 = (1 : Int32)) (p_88_6 _ _) rfl (fun g1 => (tt_iload (p_88_40 _ _) rfl).mpr (t3_if (p := x2 = 0) (p_88_41 _ _) rfl (fun g2 => (ifp (ifp h g1) g2)) (fun g2 => (tt_aload (p_88_44 _ _) rfl).mpr ((tt_iload (p_88_45 _ _) rfl).mpr ((tt_iload (p_88_46 _ _) rfl).mpr (t2_callv (z := 97) (k := 3) (i := r0) (as := [.int x1, .int x2]) (rest := []) (p_88_47 _ _) mK_97 mL_97 rfl rfl (Nat.le_of_ble_eq_true rfl) rfl (Nat.le_of_ble_eq_true rfl) (ifn (ifp h g1) g2).1 (ifn (ifp h g1) g2).2)))))) (fun g1 => (tt_push (p_88_9 _ _)).mpr ((tt_istore (p_88_10 _ _) (Nat.le_of_ble_eq_true rfl) rfl rfl).mpr ((ifn h g1)))))
theorem b_88_11 {Y : sY} {d : Nat} {s : sT} {K : Option Int32 → sT → Prop} {r0 : Nat} {x1 : Int32} {x2 : Int32} {x3 : Int32} (h : (isO Y r0 8 ∧ tT Y d 82 0 [.ref r0, .int x2] [] s (fun r s1 => tT Y (d + 1) 88 17 [.ref r0, .int x1, .int x2, .int x3] ((r.map Value.int).toList ++ [.int x3]) s1 K))) : tT Y (d + 1) 88 11 [.ref r0, .int x1, .int x2, .int x3] [] s K :=
  (tt_iload (p_88_11 _ _) rfl).mpr ((tt_aload (p_88_12 _ _) rfl).mpr ((tt_iload (p_88_13 _ _) rfl).mpr (t2_callv (z := 82) (k := 2) (i := r0) (as := [.int x2]) (rest := [.int x3]) (p_88_14 _ _) mK_82 mL_82 rfl rfl (Nat.le_of_ble_eq_true rfl) rfl (Nat.le_of_ble_eq_true rfl) h.1 h.2)))
theorem b_88_17 {Y : sY} {d : Nat} {s : sT} {K : Option Int32 → sT → Prop} {r0 : Nat} {x1 : Int32} {x2 : Int32} {x3 : Int32} {t0 : Int32} {t1 : Int32} (h : (if t1 ≤ t0 then tT Y (d + 1) 88 50 [.ref r0, .int x1, .int x2, .int x3] [] s K else (isO Y r0 8 ∧ tT Y d 83 0 [.ref r0, .int x2, .int x3, .null] [] s (fun r s1 => tT Y (d + 1) 88 28 [.ref r0, .int x1, .int x2, .int x3] ((r.map Value.int).toList ++ [.int x1, .ref r0]) s1 K)))) : tT Y (d + 1) 88 17 [.ref r0, .int x1, .int x2, .int x3] [.int t1, .int t0] s K :=
  t3_cmp (p := t1 ≤ t0) (p_88_17 _ _) rfl (fun g1 => (tt_goto (p_88_37 _ _)).mpr ((ifp h g1))) (fun g1 => (tt_aload (p_88_20 _ _) rfl).mpr ((tt_iload (p_88_21 _ _) rfl).mpr ((tt_aload (p_88_22 _ _) rfl).mpr ((tt_iload (p_88_23 _ _) rfl).mpr ((tt_iload (p_88_24 _ _) rfl).mpr (t2_callv (z := 83) (k := 3) (i := r0) (as := [.int x2, .int x3]) (rest := [.int x1, .ref r0]) (p_88_25 _ _) mK_83 mL_83 rfl rfl (Nat.le_of_ble_eq_true rfl) rfl (Nat.le_of_ble_eq_true rfl) (ifn h g1).1 (ifn h g1).2))))))
theorem b_88_28 {Y : sY} {d : Nat} {s : sT} {K : Option Int32 → sT → Prop} {r0 : Nat} {x1 : Int32} {x2 : Int32} {x3 : Int32} {t0 : Nat} {t1 : Int32} {t2 : Int32} (h : (isO Y t0 8 ∧ tT Y d 97 0 [.ref t0, .int t1, .int t2, .null] [] s (fun r s1 => tT Y (d + 1) 88 31 [.ref r0, .int x1, .int x2, .int x3] ((r.map Value.int).toList ++ []) s1 K))) : tT Y (d + 1) 88 28 [.ref r0, .int x1, .int x2, .int x3] [.int t2, .int t1, .ref t0] s K :=
  t2_callv (z := 97) (k := 3) (i := t0) (as := [.int t1, .int t2]) (rest := []) (p_88_28 _ _) mK_97 mL_97 rfl rfl (Nat.le_of_ble_eq_true rfl) rfl (Nat.le_of_ble_eq_true rfl) h.1 h.2
theorem b_88_31 {Y : sY} {d : Nat} {s : sT} {K : Option Int32 → sT → Prop} {r0 : Nat} {x1 : Int32} {x2 : Int32} {x3 : Int32} (h : tT Y (d + 1) 88 11 [.ref r0, .int x1, .int x2, .int (x3 + 1)] [] s K) : tT Y (d + 1) 88 31 [.ref r0, .int x1, .int x2, .int x3] [] s K :=
  (tt_iinc (p_88_31 _ _) rfl rfl rfl).mpr ((tt_goto (p_88_34 _ _)).mpr (h))
theorem b_88_50 {Y : sY} {d : Nat} {s : sT} {K : Option Int32 → sT → Prop} {r0 : Nat} {x1 : Int32} {x2 : Int32} {u3 : Value} (h : K none s) : tT Y (d + 1) 88 50 [.ref r0, .int x1, .int x2, u3] [] s K :=
  tt_ret0 (p_88_50 _ _) h
/-! InclusionProver$Tree.addFactor.(I)V -/
theorem p_89_0 (L : Nat) (xs : Nat → Int32) : ll_P L xs 89 0 = some (.inl (lo_aload 1 0)) := (P_89 L xs 0).trans rfl
theorem p_89_1 (L : Nat) (xs : Nat → Int32) : ll_P L xs 89 1 = some (.inl (lo_iload 2 1)) := (P_89 L xs 1).trans rfl
theorem p_89_2 (L : Nat) (xs : Nat → Int32) : ll_P L xs 89 2 = some (.inr (.inl (81, 2, 5))) := (P_89 L xs 2).trans rfl
theorem p_89_5 (L : Nat) (xs : Nat → Int32) : ll_P L xs 89 5 = some (.inl (lo_push 6 (.int 2))) := (P_89 L xs 5).trans rfl
theorem p_89_6 (L : Nat) (xs : Nat → Int32) : ll_P L xs 89 6 = some (.inl (lo_cmp 39 9 (fun x y => decide (¬ x = y)))) := (P_89 L xs 6).trans rfl
theorem p_89_9 (L : Nat) (xs : Nat → Int32) : ll_P L xs 89 9 = some (.inl (lo_push 10 (.int 0))) := (P_89 L xs 9).trans rfl
theorem p_89_10 (L : Nat) (xs : Nat → Int32) : ll_P L xs 89 10 = some (.inl (lo_istore 11 2)) := (P_89 L xs 10).trans rfl
theorem p_89_11 (L : Nat) (xs : Nat → Int32) : ll_P L xs 89 11 = some (.inl (lo_iload 12 2)) := (P_89 L xs 11).trans rfl
theorem p_89_12 (L : Nat) (xs : Nat → Int32) : ll_P L xs 89 12 = some (.inl (lo_aload 13 0)) := (P_89 L xs 12).trans rfl
theorem p_89_13 (L : Nat) (xs : Nat → Int32) : ll_P L xs 89 13 = some (.inl (lo_iload 14 1)) := (P_89 L xs 13).trans rfl
theorem p_89_14 (L : Nat) (xs : Nat → Int32) : ll_P L xs 89 14 = some (.inr (.inl (82, 2, 17))) := (P_89 L xs 14).trans rfl
theorem p_89_17 (L : Nat) (xs : Nat → Int32) : ll_P L xs 89 17 = some (.inl (lo_cmp 36 20 (fun x y => decide (y ≤ x)))) := (P_89 L xs 17).trans rfl
theorem p_89_20 (L : Nat) (xs : Nat → Int32) : ll_P L xs 89 20 = some (.inl (lo_aload 21 0)) := (P_89 L xs 20).trans rfl
theorem p_89_21 (L : Nat) (xs : Nat → Int32) : ll_P L xs 89 21 = some (.inl (lo_aload 22 0)) := (P_89 L xs 21).trans rfl
theorem p_89_22 (L : Nat) (xs : Nat → Int32) : ll_P L xs 89 22 = some (.inl (lo_iload 23 1)) := (P_89 L xs 22).trans rfl
theorem p_89_23 (L : Nat) (xs : Nat → Int32) : ll_P L xs 89 23 = some (.inl (lo_iload 24 2)) := (P_89 L xs 23).trans rfl
theorem p_89_24 (L : Nat) (xs : Nat → Int32) : ll_P L xs 89 24 = some (.inr (.inl (83, 3, 27))) := (P_89 L xs 24).trans rfl
theorem p_89_27 (L : Nat) (xs : Nat → Int32) : ll_P L xs 89 27 = some (.inr (.inl (96, 2, 30))) := (P_89 L xs 27).trans rfl
theorem p_89_30 (L : Nat) (xs : Nat → Int32) : ll_P L xs 89 30 = some (.inl (lo_iinc 33 2 1)) := (P_89 L xs 30).trans rfl
theorem p_89_33 (L : Nat) (xs : Nat → Int32) : ll_P L xs 89 33 = some (.inl (lo_goto 11)) := (P_89 L xs 33).trans rfl
theorem p_89_36 (L : Nat) (xs : Nat → Int32) : ll_P L xs 89 36 = some (.inl (lo_goto 49)) := (P_89 L xs 36).trans rfl
theorem p_89_39 (L : Nat) (xs : Nat → Int32) : ll_P L xs 89 39 = some (.inl (lo_iload 40 1)) := (P_89 L xs 39).trans rfl
theorem p_89_40 (L : Nat) (xs : Nat → Int32) : ll_P L xs 89 40 = some (.inl (lo_push 41 (.int 1))) := (P_89 L xs 40).trans rfl
theorem p_89_41 (L : Nat) (xs : Nat → Int32) : ll_P L xs 89 41 = some (.inl (lo_cmp 49 44 (fun x y => decide (x = y)))) := (P_89 L xs 41).trans rfl
theorem p_89_44 (L : Nat) (xs : Nat → Int32) : ll_P L xs 89 44 = some (.inl (lo_aload 45 0)) := (P_89 L xs 44).trans rfl
theorem p_89_45 (L : Nat) (xs : Nat → Int32) : ll_P L xs 89 45 = some (.inl (lo_iload 46 1)) := (P_89 L xs 45).trans rfl
theorem p_89_46 (L : Nat) (xs : Nat → Int32) : ll_P L xs 89 46 = some (.inr (.inl (96, 2, 49))) := (P_89 L xs 46).trans rfl
theorem p_89_49 (L : Nat) (xs : Nat → Int32) : ll_P L xs 89 49 = some (.inr (.inr 0)) := (P_89 L xs 49).trans rfl
theorem b_89_0 {Y : sY} {d : Nat} {s : sT} {K : Option Int32 → sT → Prop} {r0 : Nat} {x1 : Int32} (h : (isO Y r0 8 ∧ tT Y d 81 0 [.ref r0, .int x1] [] s (fun r s1 => tT Y (d + 1) 89 5 [.ref r0, .int x1, .null] ((r.map Value.int).toList ++ []) s1 K))) : tT Y (d + 1) 89 0 [.ref r0, .int x1, .null] [] s K :=
  (tt_aload (p_89_0 _ _) rfl).mpr ((tt_iload (p_89_1 _ _) rfl).mpr (t2_callv (z := 81) (k := 2) (i := r0) (as := [.int x1]) (rest := []) (p_89_2 _ _) mK_81 mL_81 rfl rfl (Nat.le_of_ble_eq_true rfl) rfl (Nat.le_of_ble_eq_true rfl) h.1 h.2))
theorem b_89_5 {Y : sY} {d : Nat} {s : sT} {K : Option Int32 → sT → Prop} {r0 : Nat} {x1 : Int32} {t0 : Int32} (h : (if ¬ t0 = (2 : Int32) then (if x1 = (1 : Int32) then tT Y (d + 1) 89 49 [.ref r0, .int x1, .null] [] s K else (isO Y r0 8 ∧ tT Y d 96 0 [.ref r0, .int x1] [] s (fun r s1 => tT Y (d + 1) 89 49 [.ref r0, .int x1, .null] ((r.map Value.int).toList ++ []) s1 K))) else tT Y (d + 1) 89 11 [.ref r0, .int x1, .int (0 : Int32)] [] s K)) : tT Y (d + 1) 89 5 [.ref r0, .int x1, .null] [.int t0] s K :=
  (tt_push (p_89_5 _ _)).mpr (t3_cmp (p := ¬ t0 = (2 : Int32)) (p_89_6 _ _) rfl (fun g1 => (tt_iload (p_89_39 _ _) rfl).mpr ((tt_push (p_89_40 _ _)).mpr (t3_cmp (p := x1 = (1 : Int32)) (p_89_41 _ _) rfl (fun g2 => (ifp (ifp h g1) g2)) (fun g2 => (tt_aload (p_89_44 _ _) rfl).mpr ((tt_iload (p_89_45 _ _) rfl).mpr (t2_callv (z := 96) (k := 2) (i := r0) (as := [.int x1]) (rest := []) (p_89_46 _ _) mK_96 mL_96 rfl rfl (Nat.le_of_ble_eq_true rfl) rfl (Nat.le_of_ble_eq_true rfl) (ifn (ifp h g1) g2).1 (ifn (ifp h g1) g2).2)))))) (fun g1 => (tt_push (p_89_9 _ _)).mpr ((tt_istore (p_89_10 _ _) (Nat.le_of_ble_eq_true rfl) rfl rfl).mpr ((ifn h g1)))))
theorem b_89_11 {Y : sY} {d : Nat} {s : sT} {K : Option Int32 → sT → Prop} {r0 : Nat} {x1 : Int32} {x2 : Int32} (h : (isO Y r0 8 ∧ tT Y d 82 0 [.ref r0, .int x1] [] s (fun r s1 => tT Y (d + 1) 89 17 [.ref r0, .int x1, .int x2] ((r.map Value.int).toList ++ [.int x2]) s1 K))) : tT Y (d + 1) 89 11 [.ref r0, .int x1, .int x2] [] s K :=
  (tt_iload (p_89_11 _ _) rfl).mpr ((tt_aload (p_89_12 _ _) rfl).mpr ((tt_iload (p_89_13 _ _) rfl).mpr (t2_callv (z := 82) (k := 2) (i := r0) (as := [.int x1]) (rest := [.int x2]) (p_89_14 _ _) mK_82 mL_82 rfl rfl (Nat.le_of_ble_eq_true rfl) rfl (Nat.le_of_ble_eq_true rfl) h.1 h.2)))
theorem b_89_17 {Y : sY} {d : Nat} {s : sT} {K : Option Int32 → sT → Prop} {r0 : Nat} {x1 : Int32} {x2 : Int32} {t0 : Int32} {t1 : Int32} (h : (if t1 ≤ t0 then tT Y (d + 1) 89 49 [.ref r0, .int x1, .int x2] [] s K else (isO Y r0 8 ∧ tT Y d 83 0 [.ref r0, .int x1, .int x2, .null] [] s (fun r s1 => tT Y (d + 1) 89 27 [.ref r0, .int x1, .int x2] ((r.map Value.int).toList ++ [.ref r0]) s1 K)))) : tT Y (d + 1) 89 17 [.ref r0, .int x1, .int x2] [.int t1, .int t0] s K :=
  t3_cmp (p := t1 ≤ t0) (p_89_17 _ _) rfl (fun g1 => (tt_goto (p_89_36 _ _)).mpr ((ifp h g1))) (fun g1 => (tt_aload (p_89_20 _ _) rfl).mpr ((tt_aload (p_89_21 _ _) rfl).mpr ((tt_iload (p_89_22 _ _) rfl).mpr ((tt_iload (p_89_23 _ _) rfl).mpr (t2_callv (z := 83) (k := 3) (i := r0) (as := [.int x1, .int x2]) (rest := [.ref r0]) (p_89_24 _ _) mK_83 mL_83 rfl rfl (Nat.le_of_ble_eq_true rfl) rfl (Nat.le_of_ble_eq_true rfl) (ifn h g1).1 (ifn h g1).2)))))
theorem b_89_27 {Y : sY} {d : Nat} {s : sT} {K : Option Int32 → sT → Prop} {r0 : Nat} {x1 : Int32} {x2 : Int32} {t0 : Nat} {t1 : Int32} (h : (isO Y t0 8 ∧ tT Y d 96 0 [.ref t0, .int t1] [] s (fun r s1 => tT Y (d + 1) 89 30 [.ref r0, .int x1, .int x2] ((r.map Value.int).toList ++ []) s1 K))) : tT Y (d + 1) 89 27 [.ref r0, .int x1, .int x2] [.int t1, .ref t0] s K :=
  t2_callv (z := 96) (k := 2) (i := t0) (as := [.int t1]) (rest := []) (p_89_27 _ _) mK_96 mL_96 rfl rfl (Nat.le_of_ble_eq_true rfl) rfl (Nat.le_of_ble_eq_true rfl) h.1 h.2
theorem b_89_30 {Y : sY} {d : Nat} {s : sT} {K : Option Int32 → sT → Prop} {r0 : Nat} {x1 : Int32} {x2 : Int32} (h : tT Y (d + 1) 89 11 [.ref r0, .int x1, .int (x2 + 1)] [] s K) : tT Y (d + 1) 89 30 [.ref r0, .int x1, .int x2] [] s K :=
  (tt_iinc (p_89_30 _ _) rfl rfl rfl).mpr ((tt_goto (p_89_33 _ _)).mpr (h))
theorem b_89_49 {Y : sY} {d : Nat} {s : sT} {K : Option Int32 → sT → Prop} {r0 : Nat} {x1 : Int32} {u2 : Value} (h : K none s) : tT Y (d + 1) 89 49 [.ref r0, .int x1, u2] [] s K :=
  tt_ret0 (p_89_49 _ _) h
/-! InclusionProver$Tree.closeSum.(I)I -/
theorem p_90_0 (L : Nat) (xs : Nat → Int32) : ll_P L xs 90 0 = some (.inl (lo_aload 1 0)) := (P_90 L xs 0).trans rfl
theorem p_90_1 (L : Nat) (xs : Nat → Int32) : ll_P L xs 90 1 = some (.inl (lo_push 2 (.int 1))) := (P_90 L xs 1).trans rfl
theorem p_90_2 (L : Nat) (xs : Nat → Int32) : ll_P L xs 90 2 = some (.inl (lo_iload 3 1)) := (P_90 L xs 2).trans rfl
theorem p_90_3 (L : Nat) (xs : Nat → Int32) : ll_P L xs 90 3 = some (.inl (lo_push 4 (.int 0))) := (P_90 L xs 3).trans rfl
theorem p_90_4 (L : Nat) (xs : Nat → Int32) : ll_P L xs 90 4 = some (.inr (.inl (98, 4, 7))) := (P_90 L xs 4).trans rfl
theorem p_90_7 (L : Nat) (xs : Nat → Int32) : ll_P L xs 90 7 = some (.inr (.inr 1)) := (P_90 L xs 7).trans rfl
theorem b_90_0 {Y : sY} {d : Nat} {s : sT} {K : Option Int32 → sT → Prop} {r0 : Nat} {x1 : Int32} (h : (isO Y r0 8 ∧ tT Y d 98 0 [.ref r0, .int (1 : Int32), .int x1, .int (0 : Int32), .null, .null] [] s (fun r s1 => tT Y (d + 1) 90 7 [.ref r0, .int x1] ((r.map Value.int).toList ++ []) s1 K))) : tT Y (d + 1) 90 0 [.ref r0, .int x1] [] s K :=
  (tt_aload (p_90_0 _ _) rfl).mpr ((tt_push (p_90_1 _ _)).mpr ((tt_iload (p_90_2 _ _) rfl).mpr ((tt_push (p_90_3 _ _)).mpr (t2_callv (z := 98) (k := 4) (i := r0) (as := [.int (1 : Int32), .int x1, .int (0 : Int32)]) (rest := []) (p_90_4 _ _) mK_98 mL_98 rfl rfl (Nat.le_of_ble_eq_true rfl) rfl (Nat.le_of_ble_eq_true rfl) h.1 h.2))))
theorem b_90_7 {Y : sY} {d : Nat} {s : sT} {K : Option Int32 → sT → Prop} {r0 : Nat} {x1 : Int32} {t0 : Int32} (h : K (some t0) s) : tT Y (d + 1) 90 7 [.ref r0, .int x1] [.int t0] s K :=
  tt_ret1 (p_90_7 _ _) h
/-! InclusionProver$Tree.closeProduct.(I)I -/
theorem p_91_0 (L : Nat) (xs : Nat → Int32) : ll_P L xs 91 0 = some (.inl (lo_iload 1 1)) := (P_91 L xs 0).trans rfl
theorem p_91_1 (L : Nat) (xs : Nat → Int32) : ll_P L xs 91 1 = some (.inl (lo_istore 2 2)) := (P_91 L xs 1).trans rfl
theorem p_91_2 (L : Nat) (xs : Nat → Int32) : ll_P L xs 91 2 = some (.inl (lo_iload 3 2)) := (P_91 L xs 2).trans rfl
theorem p_91_3 (L : Nat) (xs : Nat → Int32) : ll_P L xs 91 3 = some (.inl (lo_aload 4 0)) := (P_91 L xs 3).trans rfl
theorem p_91_4 (L : Nat) (xs : Nat → Int32) : ll_P L xs 91 4 = some (.inl (lo_getf 7 8 9)) := (P_91 L xs 4).trans rfl
theorem p_91_7 (L : Nat) (xs : Nat → Int32) : ll_P L xs 91 7 = some (.inl (lo_cmp 32 10 (fun x y => decide (y ≤ x)))) := (P_91 L xs 7).trans rfl
theorem p_91_10 (L : Nat) (xs : Nat → Int32) : ll_P L xs 91 10 = some (.inl (lo_aload 11 0)) := (P_91 L xs 10).trans rfl
theorem p_91_11 (L : Nat) (xs : Nat → Int32) : ll_P L xs 91 11 = some (.inl (lo_getf 14 8 6)) := (P_91 L xs 11).trans rfl
theorem p_91_14 (L : Nat) (xs : Nat → Int32) : ll_P L xs 91 14 = some (.inl (lo_iload 15 2)) := (P_91 L xs 14).trans rfl
theorem p_91_15 (L : Nat) (xs : Nat → Int32) : ll_P L xs 91 15 = some (.inl (lo_ald 16 0)) := (P_91 L xs 15).trans rfl
theorem p_91_16 (L : Nat) (xs : Nat → Int32) : ll_P L xs 91 16 = some (.inl (lo_if 26 19 (fun x => decide (¬ x = 0)))) := (P_91 L xs 16).trans rfl
theorem p_91_19 (L : Nat) (xs : Nat → Int32) : ll_P L xs 91 19 = some (.inl (lo_aload 20 0)) := (P_91 L xs 19).trans rfl
theorem p_91_20 (L : Nat) (xs : Nat → Int32) : ll_P L xs 91 20 = some (.inl (lo_iload 21 1)) := (P_91 L xs 20).trans rfl
theorem p_91_21 (L : Nat) (xs : Nat → Int32) : ll_P L xs 91 21 = some (.inl (lo_putf 24 8 9 0)) := (P_91 L xs 21).trans rfl
theorem p_91_24 (L : Nat) (xs : Nat → Int32) : ll_P L xs 91 24 = some (.inl (lo_push 25 (.int 0))) := (P_91 L xs 24).trans rfl
theorem p_91_25 (L : Nat) (xs : Nat → Int32) : ll_P L xs 91 25 = some (.inr (.inr 1)) := (P_91 L xs 25).trans rfl
theorem p_91_26 (L : Nat) (xs : Nat → Int32) : ll_P L xs 91 26 = some (.inl (lo_iinc 29 2 1)) := (P_91 L xs 26).trans rfl
theorem p_91_29 (L : Nat) (xs : Nat → Int32) : ll_P L xs 91 29 = some (.inl (lo_goto 2)) := (P_91 L xs 29).trans rfl
theorem p_91_32 (L : Nat) (xs : Nat → Int32) : ll_P L xs 91 32 = some (.inl (lo_aload 33 0)) := (P_91 L xs 32).trans rfl
theorem p_91_33 (L : Nat) (xs : Nat → Int32) : ll_P L xs 91 33 = some (.inl (lo_push 34 (.int 2))) := (P_91 L xs 33).trans rfl
theorem p_91_34 (L : Nat) (xs : Nat → Int32) : ll_P L xs 91 34 = some (.inl (lo_iload 35 1)) := (P_91 L xs 34).trans rfl
theorem p_91_35 (L : Nat) (xs : Nat → Int32) : ll_P L xs 91 35 = some (.inl (lo_push 36 (.int 1))) := (P_91 L xs 35).trans rfl
theorem p_91_36 (L : Nat) (xs : Nat → Int32) : ll_P L xs 91 36 = some (.inr (.inl (98, 4, 39))) := (P_91 L xs 36).trans rfl
theorem p_91_39 (L : Nat) (xs : Nat → Int32) : ll_P L xs 91 39 = some (.inr (.inr 1)) := (P_91 L xs 39).trans rfl
theorem b_91_0 {Y : sY} {d : Nat} {s : sT} {K : Option Int32 → sT → Prop} {r0 : Nat} {x1 : Int32} (h : tT Y (d + 1) 91 2 [.ref r0, .int x1, .int x1] [] s K) : tT Y (d + 1) 91 0 [.ref r0, .int x1, .null] [] s K :=
  (tt_iload (p_91_0 _ _) rfl).mpr ((tt_istore (p_91_1 _ _) (Nat.le_of_ble_eq_true rfl) rfl rfl).mpr (h))
theorem b_91_2 {Y : sY} {d : Nat} {s : sT} {K : Option Int32 → sT → Prop} {r0 : Nat} {x1 : Int32} {x2 : Int32} (h : (isO Y r0 8 ∧ (if (s.1 r0 9) ≤ x2 then (isO Y r0 8 ∧ tT Y d 98 0 [.ref r0, .int (2 : Int32), .int x1, .int (1 : Int32), .null, .null] [] s (fun r s1 => tT Y (d + 1) 91 39 [.ref r0, .int x1, .int x2] ((r.map Value.int).toList ++ []) s1 K)) else (∃ a2, (isO Y r0 8 ∧ s.2 r0 6 = some a2) ∧ (∃ m4, (isA Y a2 0 m4 ∧ inR x2 m4) ∧ (if ¬ (s.1 a2 (x2).toNatClampNeg) = 0 then tT Y (d + 1) 91 2 [.ref r0, .int x1, .int (x2 + 1)] [] s K else (isO Y r0 8 ∧ K (some (0 : Int32)) (pV s r0 9 x1)))))))) : tT Y (d + 1) 91 2 [.ref r0, .int x1, .int x2] [] s K :=
  (tt_iload (p_91_2 _ _) rfl).mpr ((tt_aload (p_91_3 _ _) rfl).mpr (t3_geti (p_91_4 _ _) (isI_8_9) h.1 (t3_cmp (p := (s.1 r0 9) ≤ x2) (p_91_7 _ _) rfl (fun g1 => (tt_aload (p_91_32 _ _) rfl).mpr ((tt_push (p_91_33 _ _)).mpr ((tt_iload (p_91_34 _ _) rfl).mpr ((tt_push (p_91_35 _ _)).mpr (t2_callv (z := 98) (k := 4) (i := r0) (as := [.int (2 : Int32), .int x1, .int (1 : Int32)]) (rest := []) (p_91_36 _ _) mK_98 mL_98 rfl rfl (Nat.le_of_ble_eq_true rfl) rfl (Nat.le_of_ble_eq_true rfl) (ifp h.2 g1).1 (ifp h.2 g1).2))))) (fun g1 => (tt_aload (p_91_10 _ _) rfl).mpr (Exists.elim (ifn h.2 g1) (fun a2 h3 => t3_getr (p_91_11 _ _) (isI_8_6) h3.1.1 h3.1.2 ((tt_iload (p_91_14 _ _) rfl).mpr (Exists.elim h3.2 (fun m4 h5 => t3_ald (p_91_15 _ _) h5.1.1 h5.1.2 (t3_if (p := ¬ (s.1 a2 (x2).toNatClampNeg) = 0) (p_91_16 _ _) rfl (fun g6 => (tt_iinc (p_91_26 _ _) rfl rfl rfl).mpr ((tt_goto (p_91_29 _ _)).mpr ((ifp h5.2 g6)))) (fun g6 => (tt_aload (p_91_19 _ _) rfl).mpr ((tt_iload (p_91_20 _ _) rfl).mpr ((t2_puti (p_91_21 _ _) isI_8_9 (ifn h5.2 g6).1).mpr ((tt_push (p_91_24 _ _)).mpr (tt_ret1 (p_91_25 _ _) (ifn h5.2 g6).2)))))))))))))))
theorem b_91_39 {Y : sY} {d : Nat} {s : sT} {K : Option Int32 → sT → Prop} {r0 : Nat} {x1 : Int32} {x2 : Int32} {t0 : Int32} (h : K (some t0) s) : tT Y (d + 1) 91 39 [.ref r0, .int x1, .int x2] [.int t0] s K :=
  tt_ret1 (p_91_39 _ _) h
/-! InclusionProver$Tree.starOf.(I)I -/
theorem p_92_0 (L : Nat) (xs : Nat → Int32) : ll_P L xs 92 0 = some (.inl (lo_iload 1 1)) := (P_92 L xs 0).trans rfl
theorem p_92_1 (L : Nat) (xs : Nat → Int32) : ll_P L xs 92 1 = some (.inl (lo_if 9 4 (fun x => decide (x = 0)))) := (P_92 L xs 1).trans rfl
theorem p_92_4 (L : Nat) (xs : Nat → Int32) : ll_P L xs 92 4 = some (.inl (lo_iload 5 1)) := (P_92 L xs 4).trans rfl
theorem p_92_5 (L : Nat) (xs : Nat → Int32) : ll_P L xs 92 5 = some (.inl (lo_push 6 (.int 1))) := (P_92 L xs 5).trans rfl
theorem p_92_6 (L : Nat) (xs : Nat → Int32) : ll_P L xs 92 6 = some (.inl (lo_cmp 11 9 (fun x y => decide (¬ x = y)))) := (P_92 L xs 6).trans rfl
theorem p_92_9 (L : Nat) (xs : Nat → Int32) : ll_P L xs 92 9 = some (.inl (lo_push 10 (.int 1))) := (P_92 L xs 9).trans rfl
theorem p_92_10 (L : Nat) (xs : Nat → Int32) : ll_P L xs 92 10 = some (.inr (.inr 1)) := (P_92 L xs 10).trans rfl
theorem p_92_11 (L : Nat) (xs : Nat → Int32) : ll_P L xs 92 11 = some (.inl (lo_aload 12 0)) := (P_92 L xs 11).trans rfl
theorem p_92_12 (L : Nat) (xs : Nat → Int32) : ll_P L xs 92 12 = some (.inl (lo_iload 13 1)) := (P_92 L xs 12).trans rfl
theorem p_92_13 (L : Nat) (xs : Nat → Int32) : ll_P L xs 92 13 = some (.inr (.inl (81, 2, 16))) := (P_92 L xs 13).trans rfl
theorem p_92_16 (L : Nat) (xs : Nat → Int32) : ll_P L xs 92 16 = some (.inl (lo_push 17 (.int 3))) := (P_92 L xs 16).trans rfl
theorem p_92_17 (L : Nat) (xs : Nat → Int32) : ll_P L xs 92 17 = some (.inl (lo_cmp 22 20 (fun x y => decide (¬ x = y)))) := (P_92 L xs 17).trans rfl
theorem p_92_20 (L : Nat) (xs : Nat → Int32) : ll_P L xs 92 20 = some (.inl (lo_iload 21 1)) := (P_92 L xs 20).trans rfl
theorem p_92_21 (L : Nat) (xs : Nat → Int32) : ll_P L xs 92 21 = some (.inr (.inr 1)) := (P_92 L xs 21).trans rfl
theorem p_92_22 (L : Nat) (xs : Nat → Int32) : ll_P L xs 92 22 = some (.inl (lo_aload 23 0)) := (P_92 L xs 22).trans rfl
theorem p_92_23 (L : Nat) (xs : Nat → Int32) : ll_P L xs 92 23 = some (.inl (lo_getf 26 8 9)) := (P_92 L xs 23).trans rfl
theorem p_92_26 (L : Nat) (xs : Nat → Int32) : ll_P L xs 92 26 = some (.inl (lo_istore 27 2)) := (P_92 L xs 26).trans rfl
theorem p_92_27 (L : Nat) (xs : Nat → Int32) : ll_P L xs 92 27 = some (.inl (lo_aload 28 0)) := (P_92 L xs 27).trans rfl
theorem p_92_28 (L : Nat) (xs : Nat → Int32) : ll_P L xs 92 28 = some (.inl (lo_iload 29 1)) := (P_92 L xs 28).trans rfl
theorem p_92_29 (L : Nat) (xs : Nat → Int32) : ll_P L xs 92 29 = some (.inr (.inl (96, 2, 32))) := (P_92 L xs 29).trans rfl
theorem p_92_32 (L : Nat) (xs : Nat → Int32) : ll_P L xs 92 32 = some (.inl (lo_aload 33 0)) := (P_92 L xs 32).trans rfl
theorem p_92_33 (L : Nat) (xs : Nat → Int32) : ll_P L xs 92 33 = some (.inl (lo_push 34 (.int 3))) := (P_92 L xs 33).trans rfl
theorem p_92_34 (L : Nat) (xs : Nat → Int32) : ll_P L xs 92 34 = some (.inl (lo_iload 35 2)) := (P_92 L xs 34).trans rfl
theorem p_92_35 (L : Nat) (xs : Nat → Int32) : ll_P L xs 92 35 = some (.inr (.inl (99, 3, 38))) := (P_92 L xs 35).trans rfl
theorem p_92_38 (L : Nat) (xs : Nat → Int32) : ll_P L xs 92 38 = some (.inl (lo_istore 39 3)) := (P_92 L xs 38).trans rfl
theorem p_92_39 (L : Nat) (xs : Nat → Int32) : ll_P L xs 92 39 = some (.inl (lo_aload 40 0)) := (P_92 L xs 39).trans rfl
theorem p_92_40 (L : Nat) (xs : Nat → Int32) : ll_P L xs 92 40 = some (.inl (lo_iload 41 2)) := (P_92 L xs 40).trans rfl
theorem p_92_41 (L : Nat) (xs : Nat → Int32) : ll_P L xs 92 41 = some (.inl (lo_putf 44 8 9 0)) := (P_92 L xs 41).trans rfl
theorem p_92_44 (L : Nat) (xs : Nat → Int32) : ll_P L xs 92 44 = some (.inl (lo_iload 45 3)) := (P_92 L xs 44).trans rfl
theorem p_92_45 (L : Nat) (xs : Nat → Int32) : ll_P L xs 92 45 = some (.inr (.inr 1)) := (P_92 L xs 45).trans rfl
theorem b_92_0 {Y : sY} {d : Nat} {s : sT} {K : Option Int32 → sT → Prop} {r0 : Nat} {x1 : Int32} (h : (if x1 = 0 then K (some (1 : Int32)) s else (if ¬ x1 = (1 : Int32) then (isO Y r0 8 ∧ tT Y d 81 0 [.ref r0, .int x1] [] s (fun r s1 => tT Y (d + 1) 92 16 [.ref r0, .int x1, .null, .null] ((r.map Value.int).toList ++ []) s1 K)) else K (some (1 : Int32)) s))) : tT Y (d + 1) 92 0 [.ref r0, .int x1, .null, .null] [] s K :=
  (tt_iload (p_92_0 _ _) rfl).mpr (t3_if (p := x1 = 0) (p_92_1 _ _) rfl (fun g1 => (tt_push (p_92_9 _ _)).mpr (tt_ret1 (p_92_10 _ _) (ifp h g1))) (fun g1 => (tt_iload (p_92_4 _ _) rfl).mpr ((tt_push (p_92_5 _ _)).mpr (t3_cmp (p := ¬ x1 = (1 : Int32)) (p_92_6 _ _) rfl (fun g2 => (tt_aload (p_92_11 _ _) rfl).mpr ((tt_iload (p_92_12 _ _) rfl).mpr (t2_callv (z := 81) (k := 2) (i := r0) (as := [.int x1]) (rest := []) (p_92_13 _ _) mK_81 mL_81 rfl rfl (Nat.le_of_ble_eq_true rfl) rfl (Nat.le_of_ble_eq_true rfl) (ifp (ifn h g1) g2).1 (ifp (ifn h g1) g2).2))) (fun g2 => (tt_push (p_92_9 _ _)).mpr (tt_ret1 (p_92_10 _ _) (ifn (ifn h g1) g2)))))))
theorem b_92_16 {Y : sY} {d : Nat} {s : sT} {K : Option Int32 → sT → Prop} {r0 : Nat} {x1 : Int32} {t0 : Int32} (h : (if ¬ t0 = (3 : Int32) then (isO Y r0 8 ∧ (isO Y r0 8 ∧ tT Y d 96 0 [.ref r0, .int x1] [] s (fun r s1 => tT Y (d + 1) 92 32 [.ref r0, .int x1, .int (s.1 r0 9), .null] ((r.map Value.int).toList ++ []) s1 K))) else K (some x1) s)) : tT Y (d + 1) 92 16 [.ref r0, .int x1, .null, .null] [.int t0] s K :=
  (tt_push (p_92_16 _ _)).mpr (t3_cmp (p := ¬ t0 = (3 : Int32)) (p_92_17 _ _) rfl (fun g1 => (tt_aload (p_92_22 _ _) rfl).mpr (t3_geti (p_92_23 _ _) (isI_8_9) (ifp h g1).1 ((tt_istore (p_92_26 _ _) (Nat.le_of_ble_eq_true rfl) rfl rfl).mpr ((tt_aload (p_92_27 _ _) rfl).mpr ((tt_iload (p_92_28 _ _) rfl).mpr (t2_callv (z := 96) (k := 2) (i := r0) (as := [.int x1]) (rest := []) (p_92_29 _ _) mK_96 mL_96 rfl rfl (Nat.le_of_ble_eq_true rfl) rfl (Nat.le_of_ble_eq_true rfl) (ifp h g1).2.1 (ifp h g1).2.2)))))) (fun g1 => (tt_iload (p_92_20 _ _) rfl).mpr (tt_ret1 (p_92_21 _ _) (ifn h g1))))
theorem b_92_32 {Y : sY} {d : Nat} {s : sT} {K : Option Int32 → sT → Prop} {r0 : Nat} {x1 : Int32} {x2 : Int32} (h : (isO Y r0 8 ∧ tT Y d 99 0 [.ref r0, .int (3 : Int32), .int x2, .null] [] s (fun r s1 => tT Y (d + 1) 92 38 [.ref r0, .int x1, .int x2, .null] ((r.map Value.int).toList ++ []) s1 K))) : tT Y (d + 1) 92 32 [.ref r0, .int x1, .int x2, .null] [] s K :=
  (tt_aload (p_92_32 _ _) rfl).mpr ((tt_push (p_92_33 _ _)).mpr ((tt_iload (p_92_34 _ _) rfl).mpr (t2_callv (z := 99) (k := 3) (i := r0) (as := [.int (3 : Int32), .int x2]) (rest := []) (p_92_35 _ _) mK_99 mL_99 rfl rfl (Nat.le_of_ble_eq_true rfl) rfl (Nat.le_of_ble_eq_true rfl) h.1 h.2)))
theorem b_92_38 {Y : sY} {d : Nat} {s : sT} {K : Option Int32 → sT → Prop} {r0 : Nat} {x1 : Int32} {x2 : Int32} {t0 : Int32} (h : (isO Y r0 8 ∧ K (some t0) (pV s r0 9 x2))) : tT Y (d + 1) 92 38 [.ref r0, .int x1, .int x2, .null] [.int t0] s K :=
  (tt_istore (p_92_38 _ _) (Nat.le_of_ble_eq_true rfl) rfl rfl).mpr ((tt_aload (p_92_39 _ _) rfl).mpr ((tt_iload (p_92_40 _ _) rfl).mpr ((t2_puti (p_92_41 _ _) isI_8_9 h.1).mpr ((tt_iload (p_92_44 _ _) rfl).mpr (tt_ret1 (p_92_45 _ _) h.2)))))
/-! InclusionProver$Tree.spell.(IILInclusionProver$Text;)V -/
theorem p_93_0 (L : Nat) (xs : Nat → Int32) : ll_P L xs 93 0 = some (.inl (lo_aload 1 0)) := (P_93 L xs 0).trans rfl
theorem p_93_1 (L : Nat) (xs : Nat → Int32) : ll_P L xs 93 1 = some (.inl (lo_iload 2 1)) := (P_93 L xs 1).trans rfl
theorem p_93_2 (L : Nat) (xs : Nat → Int32) : ll_P L xs 93 2 = some (.inl (lo_iload 3 2)) := (P_93 L xs 2).trans rfl
theorem p_93_3 (L : Nat) (xs : Nat → Int32) : ll_P L xs 93 3 = some (.inl (lo_aload 4 3)) := (P_93 L xs 3).trans rfl
theorem p_93_4 (L : Nat) (xs : Nat → Int32) : ll_P L xs 93 4 = some (.inl (lo_push 5 (.int 0))) := (P_93 L xs 4).trans rfl
theorem p_93_5 (L : Nat) (xs : Nat → Int32) : ll_P L xs 93 5 = some (.inr (.inl (94, 5, 8))) := (P_93 L xs 5).trans rfl
theorem p_93_8 (L : Nat) (xs : Nat → Int32) : ll_P L xs 93 8 = some (.inr (.inr 0)) := (P_93 L xs 8).trans rfl
theorem b_93_0 {Y : sY} {d : Nat} {s : sT} {K : Option Int32 → sT → Prop} {r0 : Nat} {x1 : Int32} {x2 : Int32} {r3 : Nat} (h : (isO Y r0 8 ∧ tT Y d 94 0 [.ref r0, .int x1, .int x2, .ref r3, .int (0 : Int32), .null, .null] [] s (fun r s1 => tT Y (d + 1) 93 8 [.ref r0, .int x1, .int x2, .ref r3] ((r.map Value.int).toList ++ []) s1 K))) : tT Y (d + 1) 93 0 [.ref r0, .int x1, .int x2, .ref r3] [] s K :=
  (tt_aload (p_93_0 _ _) rfl).mpr ((tt_iload (p_93_1 _ _) rfl).mpr ((tt_iload (p_93_2 _ _) rfl).mpr ((tt_aload (p_93_3 _ _) rfl).mpr ((tt_push (p_93_4 _ _)).mpr (t2_callv (z := 94) (k := 5) (i := r0) (as := [.int x1, .int x2, .ref r3, .int (0 : Int32)]) (rest := []) (p_93_5 _ _) mK_94 mL_94 rfl rfl (Nat.le_of_ble_eq_true rfl) rfl (Nat.le_of_ble_eq_true rfl) h.1 h.2)))))
theorem b_93_8 {Y : sY} {d : Nat} {s : sT} {K : Option Int32 → sT → Prop} {r0 : Nat} {x1 : Int32} {x2 : Int32} {r3 : Nat} (h : K none s) : tT Y (d + 1) 93 8 [.ref r0, .int x1, .int x2, .ref r3] [] s K :=
  tt_ret0 (p_93_8 _ _) h
/-! InclusionProver$Tree.spellNode.(IILInclusionProver$Text;I)V -/
theorem p_94_0 (L : Nat) (xs : Nat → Int32) : ll_P L xs 94 0 = some (.inl (lo_iload 2 4)) := (P_94 L xs 0).trans rfl
theorem p_94_2 (L : Nat) (xs : Nat → Int32) : ll_P L xs 94 2 = some (.inl (lo_push 4 (.int 40))) := (P_94 L xs 2).trans rfl
theorem p_94_4 (L : Nat) (xs : Nat → Int32) : ll_P L xs 94 4 = some (.inl (lo_cmp 8 7 (fun x y => decide (x ≤ y)))) := (P_94 L xs 4).trans rfl
theorem p_94_7 (L : Nat) (xs : Nat → Int32) : ll_P L xs 94 7 = some (.inr (.inr 0)) := (P_94 L xs 7).trans rfl
theorem p_94_8 (L : Nat) (xs : Nat → Int32) : ll_P L xs 94 8 = some (.inl (lo_aload 9 0)) := (P_94 L xs 8).trans rfl
theorem p_94_9 (L : Nat) (xs : Nat → Int32) : ll_P L xs 94 9 = some (.inl (lo_iload 10 1)) := (P_94 L xs 9).trans rfl
theorem p_94_10 (L : Nat) (xs : Nat → Int32) : ll_P L xs 94 10 = some (.inr (.inl (81, 2, 13))) := (P_94 L xs 10).trans rfl
theorem p_94_13 (L : Nat) (xs : Nat → Int32) : ll_P L xs 94 13 = some (.inl (lo_istore 15 5)) := (P_94 L xs 13).trans rfl
theorem p_94_15 (L : Nat) (xs : Nat → Int32) : ll_P L xs 94 15 = some (.inl (lo_iload 17 5)) := (P_94 L xs 15).trans rfl
theorem p_94_17 (L : Nat) (xs : Nat → Int32) : ll_P L xs 94 17 = some (.inl (lo_if 45 20 (fun x => decide (¬ x = 0)))) := (P_94 L xs 17).trans rfl
theorem p_94_20 (L : Nat) (xs : Nat → Int32) : ll_P L xs 94 20 = some (.inl (lo_aload 21 3)) := (P_94 L xs 20).trans rfl
theorem p_94_21 (L : Nat) (xs : Nat → Int32) : ll_P L xs 94 21 = some (.inl (lo_iload 22 1)) := (P_94 L xs 21).trans rfl
theorem p_94_22 (L : Nat) (xs : Nat → Int32) : ll_P L xs 94 22 = some (.inl (lo_push 23 (.int 2))) := (P_94 L xs 22).trans rfl
theorem p_94_23 (L : Nat) (xs : Nat → Int32) : ll_P L xs 94 23 = some (.inl (lo_cmp 33 26 (fun x y => decide (y ≤ x)))) := (P_94 L xs 23).trans rfl
theorem p_94_26 (L : Nat) (xs : Nat → Int32) : ll_P L xs 94 26 = some (.inl (lo_push 28 (.int 48))) := (P_94 L xs 26).trans rfl
theorem p_94_28 (L : Nat) (xs : Nat → Int32) : ll_P L xs 94 28 = some (.inl (lo_iload 29 1)) := (P_94 L xs 28).trans rfl
theorem p_94_29 (L : Nat) (xs : Nat → Int32) : ll_P L xs 94 29 = some (.inl (lo_bin 30 (fun x y => x + y))) := (P_94 L xs 29).trans rfl
theorem p_94_30 (L : Nat) (xs : Nat → Int32) : ll_P L xs 94 30 = some (.inl (lo_goto 39)) := (P_94 L xs 30).trans rfl
theorem p_94_33 (L : Nat) (xs : Nat → Int32) : ll_P L xs 94 33 = some (.inl (lo_push 35 (.int 97))) := (P_94 L xs 33).trans rfl
theorem p_94_35 (L : Nat) (xs : Nat → Int32) : ll_P L xs 94 35 = some (.inl (lo_iload 36 1)) := (P_94 L xs 35).trans rfl
theorem p_94_36 (L : Nat) (xs : Nat → Int32) : ll_P L xs 94 36 = some (.inl (lo_bin 37 (fun x y => x + y))) := (P_94 L xs 36).trans rfl
theorem p_94_37 (L : Nat) (xs : Nat → Int32) : ll_P L xs 94 37 = some (.inl (lo_push 38 (.int 2))) := (P_94 L xs 37).trans rfl
theorem p_94_38 (L : Nat) (xs : Nat → Int32) : ll_P L xs 94 38 = some (.inl (lo_bin 39 (fun x y => x - y))) := (P_94 L xs 38).trans rfl
theorem p_94_39 (L : Nat) (xs : Nat → Int32) : ll_P L xs 94 39 = some (.inr (.inl (72, 2, 42))) := (P_94 L xs 39).trans rfl
theorem p_94_42 (L : Nat) (xs : Nat → Int32) : ll_P L xs 94 42 = some (.inl (lo_goto 131)) := (P_94 L xs 42).trans rfl
theorem p_94_45 (L : Nat) (xs : Nat → Int32) : ll_P L xs 94 45 = some (.inl (lo_iload 47 5)) := (P_94 L xs 45).trans rfl
theorem p_94_47 (L : Nat) (xs : Nat → Int32) : ll_P L xs 94 47 = some (.inl (lo_push 48 (.int 3))) := (P_94 L xs 47).trans rfl
theorem p_94_48 (L : Nat) (xs : Nat → Int32) : ll_P L xs 94 48 = some (.inl (lo_cmp 76 51 (fun x y => decide (¬ x = y)))) := (P_94 L xs 48).trans rfl
theorem p_94_51 (L : Nat) (xs : Nat → Int32) : ll_P L xs 94 51 = some (.inl (lo_aload 52 0)) := (P_94 L xs 51).trans rfl
theorem p_94_52 (L : Nat) (xs : Nat → Int32) : ll_P L xs 94 52 = some (.inl (lo_aload 53 0)) := (P_94 L xs 52).trans rfl
theorem p_94_53 (L : Nat) (xs : Nat → Int32) : ll_P L xs 94 53 = some (.inl (lo_iload 54 1)) := (P_94 L xs 53).trans rfl
theorem p_94_54 (L : Nat) (xs : Nat → Int32) : ll_P L xs 94 54 = some (.inl (lo_push 55 (.int 0))) := (P_94 L xs 54).trans rfl
theorem p_94_55 (L : Nat) (xs : Nat → Int32) : ll_P L xs 94 55 = some (.inr (.inl (83, 3, 58))) := (P_94 L xs 55).trans rfl
theorem p_94_58 (L : Nat) (xs : Nat → Int32) : ll_P L xs 94 58 = some (.inl (lo_push 59 (.int 2))) := (P_94 L xs 58).trans rfl
theorem p_94_59 (L : Nat) (xs : Nat → Int32) : ll_P L xs 94 59 = some (.inl (lo_aload 60 3)) := (P_94 L xs 59).trans rfl
theorem p_94_60 (L : Nat) (xs : Nat → Int32) : ll_P L xs 94 60 = some (.inl (lo_iload 62 4)) := (P_94 L xs 60).trans rfl
theorem p_94_62 (L : Nat) (xs : Nat → Int32) : ll_P L xs 94 62 = some (.inl (lo_push 63 (.int 1))) := (P_94 L xs 62).trans rfl
theorem p_94_63 (L : Nat) (xs : Nat → Int32) : ll_P L xs 94 63 = some (.inl (lo_bin 64 (fun x y => x + y))) := (P_94 L xs 63).trans rfl
theorem p_94_64 (L : Nat) (xs : Nat → Int32) : ll_P L xs 94 64 = some (.inr (.inl (94, 5, 67))) := (P_94 L xs 64).trans rfl
theorem p_94_67 (L : Nat) (xs : Nat → Int32) : ll_P L xs 94 67 = some (.inl (lo_aload 68 3)) := (P_94 L xs 67).trans rfl
theorem p_94_68 (L : Nat) (xs : Nat → Int32) : ll_P L xs 94 68 = some (.inl (lo_push 70 (.int 42))) := (P_94 L xs 68).trans rfl
theorem p_94_70 (L : Nat) (xs : Nat → Int32) : ll_P L xs 94 70 = some (.inr (.inl (72, 2, 73))) := (P_94 L xs 70).trans rfl
theorem p_94_73 (L : Nat) (xs : Nat → Int32) : ll_P L xs 94 73 = some (.inl (lo_goto 131)) := (P_94 L xs 73).trans rfl
theorem p_94_76 (L : Nat) (xs : Nat → Int32) : ll_P L xs 94 76 = some (.inl (lo_iload 77 2)) := (P_94 L xs 76).trans rfl
theorem p_94_77 (L : Nat) (xs : Nat → Int32) : ll_P L xs 94 77 = some (.inl (lo_push 78 (.int 2))) := (P_94 L xs 77).trans rfl
theorem p_94_78 (L : Nat) (xs : Nat → Int32) : ll_P L xs 94 78 = some (.inl (lo_cmp 92 81 (fun x y => decide (x = y)))) := (P_94 L xs 78).trans rfl
theorem p_94_81 (L : Nat) (xs : Nat → Int32) : ll_P L xs 94 81 = some (.inl (lo_iload 83 5)) := (P_94 L xs 81).trans rfl
theorem p_94_83 (L : Nat) (xs : Nat → Int32) : ll_P L xs 94 83 = some (.inl (lo_push 84 (.int 1))) := (P_94 L xs 83).trans rfl
theorem p_94_84 (L : Nat) (xs : Nat → Int32) : ll_P L xs 94 84 = some (.inl (lo_cmp 96 87 (fun x y => decide (¬ x = y)))) := (P_94 L xs 84).trans rfl
theorem p_94_87 (L : Nat) (xs : Nat → Int32) : ll_P L xs 94 87 = some (.inl (lo_iload 88 2)) := (P_94 L xs 87).trans rfl
theorem p_94_88 (L : Nat) (xs : Nat → Int32) : ll_P L xs 94 88 = some (.inl (lo_push 89 (.int 1))) := (P_94 L xs 88).trans rfl
theorem p_94_89 (L : Nat) (xs : Nat → Int32) : ll_P L xs 94 89 = some (.inl (lo_cmp 96 92 (fun x y => decide (¬ x = y)))) := (P_94 L xs 89).trans rfl
theorem p_94_92 (L : Nat) (xs : Nat → Int32) : ll_P L xs 94 92 = some (.inl (lo_push 93 (.int 1))) := (P_94 L xs 92).trans rfl
theorem p_94_93 (L : Nat) (xs : Nat → Int32) : ll_P L xs 94 93 = some (.inl (lo_goto 97)) := (P_94 L xs 93).trans rfl
theorem p_94_96 (L : Nat) (xs : Nat → Int32) : ll_P L xs 94 96 = some (.inl (lo_push 97 (.int 0))) := (P_94 L xs 96).trans rfl
theorem p_94_97 (L : Nat) (xs : Nat → Int32) : ll_P L xs 94 97 = some (.inl (lo_istore 99 6)) := (P_94 L xs 97).trans rfl
theorem p_94_99 (L : Nat) (xs : Nat → Int32) : ll_P L xs 94 99 = some (.inl (lo_iload 101 6)) := (P_94 L xs 99).trans rfl
theorem p_94_101 (L : Nat) (xs : Nat → Int32) : ll_P L xs 94 101 = some (.inl (lo_if 110 104 (fun x => decide (x = 0)))) := (P_94 L xs 101).trans rfl
theorem p_94_104 (L : Nat) (xs : Nat → Int32) : ll_P L xs 94 104 = some (.inl (lo_aload 105 3)) := (P_94 L xs 104).trans rfl
theorem p_94_105 (L : Nat) (xs : Nat → Int32) : ll_P L xs 94 105 = some (.inl (lo_push 107 (.int 40))) := (P_94 L xs 105).trans rfl
theorem p_94_107 (L : Nat) (xs : Nat → Int32) : ll_P L xs 94 107 = some (.inr (.inl (72, 2, 110))) := (P_94 L xs 107).trans rfl
theorem p_94_110 (L : Nat) (xs : Nat → Int32) : ll_P L xs 94 110 = some (.inl (lo_aload 111 0)) := (P_94 L xs 110).trans rfl
theorem p_94_111 (L : Nat) (xs : Nat → Int32) : ll_P L xs 94 111 = some (.inl (lo_iload 112 1)) := (P_94 L xs 111).trans rfl
theorem p_94_112 (L : Nat) (xs : Nat → Int32) : ll_P L xs 94 112 = some (.inl (lo_iload 114 5)) := (P_94 L xs 112).trans rfl
theorem p_94_114 (L : Nat) (xs : Nat → Int32) : ll_P L xs 94 114 = some (.inl (lo_aload 115 3)) := (P_94 L xs 114).trans rfl
theorem p_94_115 (L : Nat) (xs : Nat → Int32) : ll_P L xs 94 115 = some (.inl (lo_iload 117 4)) := (P_94 L xs 115).trans rfl
theorem p_94_117 (L : Nat) (xs : Nat → Int32) : ll_P L xs 94 117 = some (.inr (.inl (95, 5, 120))) := (P_94 L xs 117).trans rfl
theorem p_94_120 (L : Nat) (xs : Nat → Int32) : ll_P L xs 94 120 = some (.inl (lo_iload 122 6)) := (P_94 L xs 120).trans rfl
theorem p_94_122 (L : Nat) (xs : Nat → Int32) : ll_P L xs 94 122 = some (.inl (lo_if 131 125 (fun x => decide (x = 0)))) := (P_94 L xs 122).trans rfl
theorem p_94_125 (L : Nat) (xs : Nat → Int32) : ll_P L xs 94 125 = some (.inl (lo_aload 126 3)) := (P_94 L xs 125).trans rfl
theorem p_94_126 (L : Nat) (xs : Nat → Int32) : ll_P L xs 94 126 = some (.inl (lo_push 128 (.int 41))) := (P_94 L xs 126).trans rfl
theorem p_94_128 (L : Nat) (xs : Nat → Int32) : ll_P L xs 94 128 = some (.inr (.inl (72, 2, 131))) := (P_94 L xs 128).trans rfl
theorem p_94_131 (L : Nat) (xs : Nat → Int32) : ll_P L xs 94 131 = some (.inr (.inr 0)) := (P_94 L xs 131).trans rfl
theorem b_94_0 {Y : sY} {d : Nat} {s : sT} {K : Option Int32 → sT → Prop} {r0 : Nat} {x1 : Int32} {x2 : Int32} {r3 : Nat} {x4 : Int32} (h : (if x4 ≤ (40 : Int32) then (isO Y r0 8 ∧ tT Y d 81 0 [.ref r0, .int x1] [] s (fun r s1 => tT Y (d + 1) 94 13 [.ref r0, .int x1, .int x2, .ref r3, .int x4, .null, .null] ((r.map Value.int).toList ++ []) s1 K)) else K none s)) : tT Y (d + 1) 94 0 [.ref r0, .int x1, .int x2, .ref r3, .int x4, .null, .null] [] s K :=
  (tt_iload (p_94_0 _ _) rfl).mpr ((tt_push (p_94_2 _ _)).mpr (t3_cmp (p := x4 ≤ (40 : Int32)) (p_94_4 _ _) rfl (fun g1 => (tt_aload (p_94_8 _ _) rfl).mpr ((tt_iload (p_94_9 _ _) rfl).mpr (t2_callv (z := 81) (k := 2) (i := r0) (as := [.int x1]) (rest := []) (p_94_10 _ _) mK_81 mL_81 rfl rfl (Nat.le_of_ble_eq_true rfl) rfl (Nat.le_of_ble_eq_true rfl) (ifp h g1).1 (ifp h g1).2))) (fun g1 => tt_ret0 (p_94_7 _ _) (ifn h g1))))
theorem b_94_13 {Y : sY} {d : Nat} {s : sT} {K : Option Int32 → sT → Prop} {r0 : Nat} {x1 : Int32} {x2 : Int32} {r3 : Nat} {x4 : Int32} {t0 : Int32} (h : (if ¬ t0 = 0 then (if ¬ t0 = (3 : Int32) then (if x2 = (2 : Int32) then tT Y (d + 1) 94 92 [.ref r0, .int x1, .int x2, .ref r3, .int x4, .int t0, .null] [] s K else (if ¬ t0 = (1 : Int32) then tT Y (d + 1) 94 96 [.ref r0, .int x1, .int x2, .ref r3, .int x4, .int t0, .null] [] s K else (if ¬ x2 = (1 : Int32) then tT Y (d + 1) 94 96 [.ref r0, .int x1, .int x2, .ref r3, .int x4, .int t0, .null] [] s K else tT Y (d + 1) 94 92 [.ref r0, .int x1, .int x2, .ref r3, .int x4, .int t0, .null] [] s K))) else (isO Y r0 8 ∧ tT Y d 83 0 [.ref r0, .int x1, .int (0 : Int32), .null] [] s (fun r s1 => tT Y (d + 1) 94 58 [.ref r0, .int x1, .int x2, .ref r3, .int x4, .int t0, .null] ((r.map Value.int).toList ++ [.ref r0]) s1 K))) else (if (2 : Int32) ≤ x1 then tT Y (d + 1) 94 39 [.ref r0, .int x1, .int x2, .ref r3, .int x4, .int t0, .null] [.int (((97 : Int32) + x1) - (2 : Int32)), .ref r3] s K else tT Y (d + 1) 94 39 [.ref r0, .int x1, .int x2, .ref r3, .int x4, .int t0, .null] [.int ((48 : Int32) + x1), .ref r3] s K))) : tT Y (d + 1) 94 13 [.ref r0, .int x1, .int x2, .ref r3, .int x4, .null, .null] [.int t0] s K :=
  (tt_istore (p_94_13 _ _) (Nat.le_of_ble_eq_true rfl) rfl rfl).mpr ((tt_iload (p_94_15 _ _) rfl).mpr (t3_if (p := ¬ t0 = 0) (p_94_17 _ _) rfl (fun g1 => (tt_iload (p_94_45 _ _) rfl).mpr ((tt_push (p_94_47 _ _)).mpr (t3_cmp (p := ¬ t0 = (3 : Int32)) (p_94_48 _ _) rfl (fun g2 => (tt_iload (p_94_76 _ _) rfl).mpr ((tt_push (p_94_77 _ _)).mpr (t3_cmp (p := x2 = (2 : Int32)) (p_94_78 _ _) rfl (fun g3 => (ifp (ifp (ifp h g1) g2) g3)) (fun g3 => (tt_iload (p_94_81 _ _) rfl).mpr ((tt_push (p_94_83 _ _)).mpr (t3_cmp (p := ¬ t0 = (1 : Int32)) (p_94_84 _ _) rfl (fun g4 => (ifp (ifn (ifp (ifp h g1) g2) g3) g4)) (fun g4 => (tt_iload (p_94_87 _ _) rfl).mpr ((tt_push (p_94_88 _ _)).mpr (t3_cmp (p := ¬ x2 = (1 : Int32)) (p_94_89 _ _) rfl (fun g5 => (ifp (ifn (ifn (ifp (ifp h g1) g2) g3) g4) g5)) (fun g5 => (ifn (ifn (ifn (ifp (ifp h g1) g2) g3) g4) g5))))))))))) (fun g2 => (tt_aload (p_94_51 _ _) rfl).mpr ((tt_aload (p_94_52 _ _) rfl).mpr ((tt_iload (p_94_53 _ _) rfl).mpr ((tt_push (p_94_54 _ _)).mpr (t2_callv (z := 83) (k := 3) (i := r0) (as := [.int x1, .int (0 : Int32)]) (rest := [.ref r0]) (p_94_55 _ _) mK_83 mL_83 rfl rfl (Nat.le_of_ble_eq_true rfl) rfl (Nat.le_of_ble_eq_true rfl) (ifn (ifp h g1) g2).1 (ifn (ifp h g1) g2).2)))))))) (fun g1 => (tt_aload (p_94_20 _ _) rfl).mpr ((tt_iload (p_94_21 _ _) rfl).mpr ((tt_push (p_94_22 _ _)).mpr (t3_cmp (p := (2 : Int32) ≤ x1) (p_94_23 _ _) rfl (fun g6 => (tt_push (p_94_33 _ _)).mpr ((tt_iload (p_94_35 _ _) rfl).mpr ((tt_bin (p_94_36 _ _)).mpr ((tt_push (p_94_37 _ _)).mpr ((tt_bin (p_94_38 _ _)).mpr ((ifp (ifn h g1) g6))))))) (fun g6 => (tt_push (p_94_26 _ _)).mpr ((tt_iload (p_94_28 _ _) rfl).mpr ((tt_bin (p_94_29 _ _)).mpr ((tt_goto (p_94_30 _ _)).mpr ((ifn (ifn h g1) g6))))))))))))
theorem b_94_39 {Y : sY} {d : Nat} {s : sT} {K : Option Int32 → sT → Prop} {r0 : Nat} {x1 : Int32} {x2 : Int32} {r3 : Nat} {x4 : Int32} {x5 : Int32} {t0 : Nat} {t1 : Int32} (h : (isO Y t0 7 ∧ tT Y d 72 0 [.ref t0, .int t1] [] s (fun r s1 => tT Y (d + 1) 94 42 [.ref r0, .int x1, .int x2, .ref r3, .int x4, .int x5, .null] ((r.map Value.int).toList ++ []) s1 K))) : tT Y (d + 1) 94 39 [.ref r0, .int x1, .int x2, .ref r3, .int x4, .int x5, .null] [.int t1, .ref t0] s K :=
  t2_callv (z := 72) (k := 2) (i := t0) (as := [.int t1]) (rest := []) (p_94_39 _ _) mK_72 mL_72 rfl rfl (Nat.le_of_ble_eq_true rfl) rfl (Nat.le_of_ble_eq_true rfl) h.1 h.2
theorem b_94_42 {Y : sY} {d : Nat} {s : sT} {K : Option Int32 → sT → Prop} {r0 : Nat} {x1 : Int32} {x2 : Int32} {r3 : Nat} {x4 : Int32} {x5 : Int32} (h : tT Y (d + 1) 94 131 [.ref r0, .int x1, .int x2, .ref r3, .int x4, .int x5, .null] [] s K) : tT Y (d + 1) 94 42 [.ref r0, .int x1, .int x2, .ref r3, .int x4, .int x5, .null] [] s K :=
  (tt_goto (p_94_42 _ _)).mpr (h)
theorem b_94_58 {Y : sY} {d : Nat} {s : sT} {K : Option Int32 → sT → Prop} {r0 : Nat} {x1 : Int32} {x2 : Int32} {r3 : Nat} {x4 : Int32} {x5 : Int32} {t0 : Nat} {t1 : Int32} (h : (isO Y t0 8 ∧ tT Y d 94 0 [.ref t0, .int t1, .int (2 : Int32), .ref r3, .int (x4 + (1 : Int32)), .null, .null] [] s (fun r s1 => tT Y (d + 1) 94 67 [.ref r0, .int x1, .int x2, .ref r3, .int x4, .int x5, .null] ((r.map Value.int).toList ++ []) s1 K))) : tT Y (d + 1) 94 58 [.ref r0, .int x1, .int x2, .ref r3, .int x4, .int x5, .null] [.int t1, .ref t0] s K :=
  (tt_push (p_94_58 _ _)).mpr ((tt_aload (p_94_59 _ _) rfl).mpr ((tt_iload (p_94_60 _ _) rfl).mpr ((tt_push (p_94_62 _ _)).mpr ((tt_bin (p_94_63 _ _)).mpr (t2_callv (z := 94) (k := 5) (i := t0) (as := [.int t1, .int (2 : Int32), .ref r3, .int (x4 + (1 : Int32))]) (rest := []) (p_94_64 _ _) mK_94 mL_94 rfl rfl (Nat.le_of_ble_eq_true rfl) rfl (Nat.le_of_ble_eq_true rfl) h.1 h.2)))))
theorem b_94_67 {Y : sY} {d : Nat} {s : sT} {K : Option Int32 → sT → Prop} {r0 : Nat} {x1 : Int32} {x2 : Int32} {r3 : Nat} {x4 : Int32} {x5 : Int32} (h : (isO Y r3 7 ∧ tT Y d 72 0 [.ref r3, .int (42 : Int32)] [] s (fun r s1 => tT Y (d + 1) 94 73 [.ref r0, .int x1, .int x2, .ref r3, .int x4, .int x5, .null] ((r.map Value.int).toList ++ []) s1 K))) : tT Y (d + 1) 94 67 [.ref r0, .int x1, .int x2, .ref r3, .int x4, .int x5, .null] [] s K :=
  (tt_aload (p_94_67 _ _) rfl).mpr ((tt_push (p_94_68 _ _)).mpr (t2_callv (z := 72) (k := 2) (i := r3) (as := [.int (42 : Int32)]) (rest := []) (p_94_70 _ _) mK_72 mL_72 rfl rfl (Nat.le_of_ble_eq_true rfl) rfl (Nat.le_of_ble_eq_true rfl) h.1 h.2))
theorem b_94_73 {Y : sY} {d : Nat} {s : sT} {K : Option Int32 → sT → Prop} {r0 : Nat} {x1 : Int32} {x2 : Int32} {r3 : Nat} {x4 : Int32} {x5 : Int32} (h : tT Y (d + 1) 94 131 [.ref r0, .int x1, .int x2, .ref r3, .int x4, .int x5, .null] [] s K) : tT Y (d + 1) 94 73 [.ref r0, .int x1, .int x2, .ref r3, .int x4, .int x5, .null] [] s K :=
  (tt_goto (p_94_73 _ _)).mpr (h)
theorem b_94_92 {Y : sY} {d : Nat} {s : sT} {K : Option Int32 → sT → Prop} {r0 : Nat} {x1 : Int32} {x2 : Int32} {r3 : Nat} {x4 : Int32} {x5 : Int32} (h : tT Y (d + 1) 94 97 [.ref r0, .int x1, .int x2, .ref r3, .int x4, .int x5, .null] [.int (1 : Int32)] s K) : tT Y (d + 1) 94 92 [.ref r0, .int x1, .int x2, .ref r3, .int x4, .int x5, .null] [] s K :=
  (tt_push (p_94_92 _ _)).mpr ((tt_goto (p_94_93 _ _)).mpr (h))
theorem b_94_96 {Y : sY} {d : Nat} {s : sT} {K : Option Int32 → sT → Prop} {r0 : Nat} {x1 : Int32} {x2 : Int32} {r3 : Nat} {x4 : Int32} {x5 : Int32} (h : tT Y (d + 1) 94 97 [.ref r0, .int x1, .int x2, .ref r3, .int x4, .int x5, .null] [.int (0 : Int32)] s K) : tT Y (d + 1) 94 96 [.ref r0, .int x1, .int x2, .ref r3, .int x4, .int x5, .null] [] s K :=
  (tt_push (p_94_96 _ _)).mpr (h)
theorem b_94_97 {Y : sY} {d : Nat} {s : sT} {K : Option Int32 → sT → Prop} {r0 : Nat} {x1 : Int32} {x2 : Int32} {r3 : Nat} {x4 : Int32} {x5 : Int32} {t0 : Int32} (h : (if t0 = 0 then tT Y (d + 1) 94 110 [.ref r0, .int x1, .int x2, .ref r3, .int x4, .int x5, .int t0] [] s K else (isO Y r3 7 ∧ tT Y d 72 0 [.ref r3, .int (40 : Int32)] [] s (fun r s1 => tT Y (d + 1) 94 110 [.ref r0, .int x1, .int x2, .ref r3, .int x4, .int x5, .int t0] ((r.map Value.int).toList ++ []) s1 K)))) : tT Y (d + 1) 94 97 [.ref r0, .int x1, .int x2, .ref r3, .int x4, .int x5, .null] [.int t0] s K :=
  (tt_istore (p_94_97 _ _) (Nat.le_of_ble_eq_true rfl) rfl rfl).mpr ((tt_iload (p_94_99 _ _) rfl).mpr (t3_if (p := t0 = 0) (p_94_101 _ _) rfl (fun g1 => (ifp h g1)) (fun g1 => (tt_aload (p_94_104 _ _) rfl).mpr ((tt_push (p_94_105 _ _)).mpr (t2_callv (z := 72) (k := 2) (i := r3) (as := [.int (40 : Int32)]) (rest := []) (p_94_107 _ _) mK_72 mL_72 rfl rfl (Nat.le_of_ble_eq_true rfl) rfl (Nat.le_of_ble_eq_true rfl) (ifn h g1).1 (ifn h g1).2)))))
theorem b_94_110 {Y : sY} {d : Nat} {s : sT} {K : Option Int32 → sT → Prop} {r0 : Nat} {x1 : Int32} {x2 : Int32} {r3 : Nat} {x4 : Int32} {x5 : Int32} {x6 : Int32} (h : (isO Y r0 8 ∧ tT Y d 95 0 [.ref r0, .int x1, .int x5, .ref r3, .int x4, .null] [] s (fun r s1 => tT Y (d + 1) 94 120 [.ref r0, .int x1, .int x2, .ref r3, .int x4, .int x5, .int x6] ((r.map Value.int).toList ++ []) s1 K))) : tT Y (d + 1) 94 110 [.ref r0, .int x1, .int x2, .ref r3, .int x4, .int x5, .int x6] [] s K :=
  (tt_aload (p_94_110 _ _) rfl).mpr ((tt_iload (p_94_111 _ _) rfl).mpr ((tt_iload (p_94_112 _ _) rfl).mpr ((tt_aload (p_94_114 _ _) rfl).mpr ((tt_iload (p_94_115 _ _) rfl).mpr (t2_callv (z := 95) (k := 5) (i := r0) (as := [.int x1, .int x5, .ref r3, .int x4]) (rest := []) (p_94_117 _ _) mK_95 mL_95 rfl rfl (Nat.le_of_ble_eq_true rfl) rfl (Nat.le_of_ble_eq_true rfl) h.1 h.2)))))
theorem b_94_120 {Y : sY} {d : Nat} {s : sT} {K : Option Int32 → sT → Prop} {r0 : Nat} {x1 : Int32} {x2 : Int32} {r3 : Nat} {x4 : Int32} {x5 : Int32} {x6 : Int32} (h : (if x6 = 0 then tT Y (d + 1) 94 131 [.ref r0, .int x1, .int x2, .ref r3, .int x4, .int x5, .int x6] [] s K else (isO Y r3 7 ∧ tT Y d 72 0 [.ref r3, .int (41 : Int32)] [] s (fun r s1 => tT Y (d + 1) 94 131 [.ref r0, .int x1, .int x2, .ref r3, .int x4, .int x5, .int x6] ((r.map Value.int).toList ++ []) s1 K)))) : tT Y (d + 1) 94 120 [.ref r0, .int x1, .int x2, .ref r3, .int x4, .int x5, .int x6] [] s K :=
  (tt_iload (p_94_120 _ _) rfl).mpr (t3_if (p := x6 = 0) (p_94_122 _ _) rfl (fun g1 => (ifp h g1)) (fun g1 => (tt_aload (p_94_125 _ _) rfl).mpr ((tt_push (p_94_126 _ _)).mpr (t2_callv (z := 72) (k := 2) (i := r3) (as := [.int (41 : Int32)]) (rest := []) (p_94_128 _ _) mK_72 mL_72 rfl rfl (Nat.le_of_ble_eq_true rfl) rfl (Nat.le_of_ble_eq_true rfl) (ifn h g1).1 (ifn h g1).2))))
theorem b_94_131 {Y : sY} {d : Nat} {s : sT} {K : Option Int32 → sT → Prop} {r0 : Nat} {x1 : Int32} {x2 : Int32} {r3 : Nat} {x4 : Int32} {x5 : Int32} {u6 : Value} (h : K none s) : tT Y (d + 1) 94 131 [.ref r0, .int x1, .int x2, .ref r3, .int x4, .int x5, u6] [] s K :=
  tt_ret0 (p_94_131 _ _) h
/-! InclusionProver$Tree.spellChildren.(IILInclusionProver$Text;I)V -/
theorem p_95_0 (L : Nat) (xs : Nat → Int32) : ll_P L xs 95 0 = some (.inl (lo_push 1 (.int 0))) := (P_95 L xs 0).trans rfl
theorem p_95_1 (L : Nat) (xs : Nat → Int32) : ll_P L xs 95 1 = some (.inl (lo_istore 3 5)) := (P_95 L xs 1).trans rfl
theorem p_95_3 (L : Nat) (xs : Nat → Int32) : ll_P L xs 95 3 = some (.inl (lo_iload 5 5)) := (P_95 L xs 3).trans rfl
theorem p_95_5 (L : Nat) (xs : Nat → Int32) : ll_P L xs 95 5 = some (.inl (lo_aload 6 0)) := (P_95 L xs 5).trans rfl
theorem p_95_6 (L : Nat) (xs : Nat → Int32) : ll_P L xs 95 6 = some (.inl (lo_iload 7 1)) := (P_95 L xs 6).trans rfl
theorem p_95_7 (L : Nat) (xs : Nat → Int32) : ll_P L xs 95 7 = some (.inr (.inl (82, 2, 10))) := (P_95 L xs 7).trans rfl
theorem p_95_10 (L : Nat) (xs : Nat → Int32) : ll_P L xs 95 10 = some (.inl (lo_cmp 61 13 (fun x y => decide (y ≤ x)))) := (P_95 L xs 10).trans rfl
theorem p_95_13 (L : Nat) (xs : Nat → Int32) : ll_P L xs 95 13 = some (.inl (lo_iload 14 2)) := (P_95 L xs 13).trans rfl
theorem p_95_14 (L : Nat) (xs : Nat → Int32) : ll_P L xs 95 14 = some (.inl (lo_push 15 (.int 1))) := (P_95 L xs 14).trans rfl
theorem p_95_15 (L : Nat) (xs : Nat → Int32) : ll_P L xs 95 15 = some (.inl (lo_cmp 29 18 (fun x y => decide (¬ x = y)))) := (P_95 L xs 15).trans rfl
theorem p_95_18 (L : Nat) (xs : Nat → Int32) : ll_P L xs 95 18 = some (.inl (lo_iload 20 5)) := (P_95 L xs 18).trans rfl
theorem p_95_20 (L : Nat) (xs : Nat → Int32) : ll_P L xs 95 20 = some (.inl (lo_if 29 23 (fun x => decide (x ≤ 0)))) := (P_95 L xs 20).trans rfl
theorem p_95_23 (L : Nat) (xs : Nat → Int32) : ll_P L xs 95 23 = some (.inl (lo_aload 24 3)) := (P_95 L xs 23).trans rfl
theorem p_95_24 (L : Nat) (xs : Nat → Int32) : ll_P L xs 95 24 = some (.inl (lo_push 26 (.int 43))) := (P_95 L xs 24).trans rfl
theorem p_95_26 (L : Nat) (xs : Nat → Int32) : ll_P L xs 95 26 = some (.inr (.inl (72, 2, 29))) := (P_95 L xs 26).trans rfl
theorem p_95_29 (L : Nat) (xs : Nat → Int32) : ll_P L xs 95 29 = some (.inl (lo_aload 30 0)) := (P_95 L xs 29).trans rfl
theorem p_95_30 (L : Nat) (xs : Nat → Int32) : ll_P L xs 95 30 = some (.inl (lo_aload 31 0)) := (P_95 L xs 30).trans rfl
theorem p_95_31 (L : Nat) (xs : Nat → Int32) : ll_P L xs 95 31 = some (.inl (lo_iload 32 1)) := (P_95 L xs 31).trans rfl
theorem p_95_32 (L : Nat) (xs : Nat → Int32) : ll_P L xs 95 32 = some (.inl (lo_iload 34 5)) := (P_95 L xs 32).trans rfl
theorem p_95_34 (L : Nat) (xs : Nat → Int32) : ll_P L xs 95 34 = some (.inr (.inl (83, 3, 37))) := (P_95 L xs 34).trans rfl
theorem p_95_37 (L : Nat) (xs : Nat → Int32) : ll_P L xs 95 37 = some (.inl (lo_iload 38 2)) := (P_95 L xs 37).trans rfl
theorem p_95_38 (L : Nat) (xs : Nat → Int32) : ll_P L xs 95 38 = some (.inl (lo_push 39 (.int 1))) := (P_95 L xs 38).trans rfl
theorem p_95_39 (L : Nat) (xs : Nat → Int32) : ll_P L xs 95 39 = some (.inl (lo_cmp 46 42 (fun x y => decide (¬ x = y)))) := (P_95 L xs 39).trans rfl
theorem p_95_42 (L : Nat) (xs : Nat → Int32) : ll_P L xs 95 42 = some (.inl (lo_push 43 (.int 0))) := (P_95 L xs 42).trans rfl
theorem p_95_43 (L : Nat) (xs : Nat → Int32) : ll_P L xs 95 43 = some (.inl (lo_goto 47)) := (P_95 L xs 43).trans rfl
theorem p_95_46 (L : Nat) (xs : Nat → Int32) : ll_P L xs 95 46 = some (.inl (lo_push 47 (.int 1))) := (P_95 L xs 46).trans rfl
theorem p_95_47 (L : Nat) (xs : Nat → Int32) : ll_P L xs 95 47 = some (.inl (lo_aload 48 3)) := (P_95 L xs 47).trans rfl
theorem p_95_48 (L : Nat) (xs : Nat → Int32) : ll_P L xs 95 48 = some (.inl (lo_iload 50 4)) := (P_95 L xs 48).trans rfl
theorem p_95_50 (L : Nat) (xs : Nat → Int32) : ll_P L xs 95 50 = some (.inl (lo_push 51 (.int 1))) := (P_95 L xs 50).trans rfl
theorem p_95_51 (L : Nat) (xs : Nat → Int32) : ll_P L xs 95 51 = some (.inl (lo_bin 52 (fun x y => x + y))) := (P_95 L xs 51).trans rfl
theorem p_95_52 (L : Nat) (xs : Nat → Int32) : ll_P L xs 95 52 = some (.inr (.inl (94, 5, 55))) := (P_95 L xs 52).trans rfl
theorem p_95_55 (L : Nat) (xs : Nat → Int32) : ll_P L xs 95 55 = some (.inl (lo_iinc 58 5 1)) := (P_95 L xs 55).trans rfl
theorem p_95_58 (L : Nat) (xs : Nat → Int32) : ll_P L xs 95 58 = some (.inl (lo_goto 3)) := (P_95 L xs 58).trans rfl
theorem p_95_61 (L : Nat) (xs : Nat → Int32) : ll_P L xs 95 61 = some (.inr (.inr 0)) := (P_95 L xs 61).trans rfl
theorem b_95_0 {Y : sY} {d : Nat} {s : sT} {K : Option Int32 → sT → Prop} {r0 : Nat} {x1 : Int32} {x2 : Int32} {r3 : Nat} {x4 : Int32} (h : tT Y (d + 1) 95 3 [.ref r0, .int x1, .int x2, .ref r3, .int x4, .int (0 : Int32)] [] s K) : tT Y (d + 1) 95 0 [.ref r0, .int x1, .int x2, .ref r3, .int x4, .null] [] s K :=
  (tt_push (p_95_0 _ _)).mpr ((tt_istore (p_95_1 _ _) (Nat.le_of_ble_eq_true rfl) rfl rfl).mpr (h))
theorem b_95_3 {Y : sY} {d : Nat} {s : sT} {K : Option Int32 → sT → Prop} {r0 : Nat} {x1 : Int32} {x2 : Int32} {r3 : Nat} {x4 : Int32} {x5 : Int32} (h : (isO Y r0 8 ∧ tT Y d 82 0 [.ref r0, .int x1] [] s (fun r s1 => tT Y (d + 1) 95 10 [.ref r0, .int x1, .int x2, .ref r3, .int x4, .int x5] ((r.map Value.int).toList ++ [.int x5]) s1 K))) : tT Y (d + 1) 95 3 [.ref r0, .int x1, .int x2, .ref r3, .int x4, .int x5] [] s K :=
  (tt_iload (p_95_3 _ _) rfl).mpr ((tt_aload (p_95_5 _ _) rfl).mpr ((tt_iload (p_95_6 _ _) rfl).mpr (t2_callv (z := 82) (k := 2) (i := r0) (as := [.int x1]) (rest := [.int x5]) (p_95_7 _ _) mK_82 mL_82 rfl rfl (Nat.le_of_ble_eq_true rfl) rfl (Nat.le_of_ble_eq_true rfl) h.1 h.2)))
theorem b_95_10 {Y : sY} {d : Nat} {s : sT} {K : Option Int32 → sT → Prop} {r0 : Nat} {x1 : Int32} {x2 : Int32} {r3 : Nat} {x4 : Int32} {x5 : Int32} {t0 : Int32} {t1 : Int32} (h : (if t1 ≤ t0 then K none s else (if ¬ x2 = (1 : Int32) then tT Y (d + 1) 95 29 [.ref r0, .int x1, .int x2, .ref r3, .int x4, .int x5] [] s K else (if x5 ≤ 0 then tT Y (d + 1) 95 29 [.ref r0, .int x1, .int x2, .ref r3, .int x4, .int x5] [] s K else (isO Y r3 7 ∧ tT Y d 72 0 [.ref r3, .int (43 : Int32)] [] s (fun r s1 => tT Y (d + 1) 95 29 [.ref r0, .int x1, .int x2, .ref r3, .int x4, .int x5] ((r.map Value.int).toList ++ []) s1 K)))))) : tT Y (d + 1) 95 10 [.ref r0, .int x1, .int x2, .ref r3, .int x4, .int x5] [.int t1, .int t0] s K :=
  t3_cmp (p := t1 ≤ t0) (p_95_10 _ _) rfl (fun g1 => tt_ret0 (p_95_61 _ _) (ifp h g1)) (fun g1 => (tt_iload (p_95_13 _ _) rfl).mpr ((tt_push (p_95_14 _ _)).mpr (t3_cmp (p := ¬ x2 = (1 : Int32)) (p_95_15 _ _) rfl (fun g2 => (ifp (ifn h g1) g2)) (fun g2 => (tt_iload (p_95_18 _ _) rfl).mpr (t3_if (p := x5 ≤ 0) (p_95_20 _ _) rfl (fun g3 => (ifp (ifn (ifn h g1) g2) g3)) (fun g3 => (tt_aload (p_95_23 _ _) rfl).mpr ((tt_push (p_95_24 _ _)).mpr (t2_callv (z := 72) (k := 2) (i := r3) (as := [.int (43 : Int32)]) (rest := []) (p_95_26 _ _) mK_72 mL_72 rfl rfl (Nat.le_of_ble_eq_true rfl) rfl (Nat.le_of_ble_eq_true rfl) (ifn (ifn (ifn h g1) g2) g3).1 (ifn (ifn (ifn h g1) g2) g3).2))))))))
theorem b_95_29 {Y : sY} {d : Nat} {s : sT} {K : Option Int32 → sT → Prop} {r0 : Nat} {x1 : Int32} {x2 : Int32} {r3 : Nat} {x4 : Int32} {x5 : Int32} (h : (isO Y r0 8 ∧ tT Y d 83 0 [.ref r0, .int x1, .int x5, .null] [] s (fun r s1 => tT Y (d + 1) 95 37 [.ref r0, .int x1, .int x2, .ref r3, .int x4, .int x5] ((r.map Value.int).toList ++ [.ref r0]) s1 K))) : tT Y (d + 1) 95 29 [.ref r0, .int x1, .int x2, .ref r3, .int x4, .int x5] [] s K :=
  (tt_aload (p_95_29 _ _) rfl).mpr ((tt_aload (p_95_30 _ _) rfl).mpr ((tt_iload (p_95_31 _ _) rfl).mpr ((tt_iload (p_95_32 _ _) rfl).mpr (t2_callv (z := 83) (k := 3) (i := r0) (as := [.int x1, .int x5]) (rest := [.ref r0]) (p_95_34 _ _) mK_83 mL_83 rfl rfl (Nat.le_of_ble_eq_true rfl) rfl (Nat.le_of_ble_eq_true rfl) h.1 h.2))))
theorem b_95_37 {Y : sY} {d : Nat} {s : sT} {K : Option Int32 → sT → Prop} {r0 : Nat} {x1 : Int32} {x2 : Int32} {r3 : Nat} {x4 : Int32} {x5 : Int32} {t0 : Nat} {t1 : Int32} (h : (if ¬ x2 = (1 : Int32) then tT Y (d + 1) 95 47 [.ref r0, .int x1, .int x2, .ref r3, .int x4, .int x5] [.int (1 : Int32), .int t1, .ref t0] s K else tT Y (d + 1) 95 47 [.ref r0, .int x1, .int x2, .ref r3, .int x4, .int x5] [.int (0 : Int32), .int t1, .ref t0] s K)) : tT Y (d + 1) 95 37 [.ref r0, .int x1, .int x2, .ref r3, .int x4, .int x5] [.int t1, .ref t0] s K :=
  (tt_iload (p_95_37 _ _) rfl).mpr ((tt_push (p_95_38 _ _)).mpr (t3_cmp (p := ¬ x2 = (1 : Int32)) (p_95_39 _ _) rfl (fun g1 => (tt_push (p_95_46 _ _)).mpr ((ifp h g1))) (fun g1 => (tt_push (p_95_42 _ _)).mpr ((tt_goto (p_95_43 _ _)).mpr ((ifn h g1))))))
theorem b_95_47 {Y : sY} {d : Nat} {s : sT} {K : Option Int32 → sT → Prop} {r0 : Nat} {x1 : Int32} {x2 : Int32} {r3 : Nat} {x4 : Int32} {x5 : Int32} {t0 : Nat} {t1 : Int32} {t2 : Int32} (h : (isO Y t0 8 ∧ tT Y d 94 0 [.ref t0, .int t1, .int t2, .ref r3, .int (x4 + (1 : Int32)), .null, .null] [] s (fun r s1 => tT Y (d + 1) 95 55 [.ref r0, .int x1, .int x2, .ref r3, .int x4, .int x5] ((r.map Value.int).toList ++ []) s1 K))) : tT Y (d + 1) 95 47 [.ref r0, .int x1, .int x2, .ref r3, .int x4, .int x5] [.int t2, .int t1, .ref t0] s K :=
  (tt_aload (p_95_47 _ _) rfl).mpr ((tt_iload (p_95_48 _ _) rfl).mpr ((tt_push (p_95_50 _ _)).mpr ((tt_bin (p_95_51 _ _)).mpr (t2_callv (z := 94) (k := 5) (i := t0) (as := [.int t1, .int t2, .ref r3, .int (x4 + (1 : Int32))]) (rest := []) (p_95_52 _ _) mK_94 mL_94 rfl rfl (Nat.le_of_ble_eq_true rfl) rfl (Nat.le_of_ble_eq_true rfl) h.1 h.2))))
theorem b_95_55 {Y : sY} {d : Nat} {s : sT} {K : Option Int32 → sT → Prop} {r0 : Nat} {x1 : Int32} {x2 : Int32} {r3 : Nat} {x4 : Int32} {x5 : Int32} (h : tT Y (d + 1) 95 3 [.ref r0, .int x1, .int x2, .ref r3, .int x4, .int (x5 + 1)] [] s K) : tT Y (d + 1) 95 55 [.ref r0, .int x1, .int x2, .ref r3, .int x4, .int x5] [] s K :=
  (tt_iinc (p_95_55 _ _) rfl rfl rfl).mpr ((tt_goto (p_95_58 _ _)).mpr (h))
/-! InclusionProver$Tree.push.(I)V -/
theorem p_96_0 (L : Nat) (xs : Nat → Int32) : ll_P L xs 96 0 = some (.inl (lo_aload 1 0)) := (P_96 L xs 0).trans rfl
theorem p_96_1 (L : Nat) (xs : Nat → Int32) : ll_P L xs 96 1 = some (.inl (lo_getf 4 8 9)) := (P_96 L xs 1).trans rfl
theorem p_96_4 (L : Nat) (xs : Nat → Int32) : ll_P L xs 96 4 = some (.inl (lo_aload 5 0)) := (P_96 L xs 4).trans rfl
theorem p_96_5 (L : Nat) (xs : Nat → Int32) : ll_P L xs 96 5 = some (.inl (lo_getf 8 8 6)) := (P_96 L xs 5).trans rfl
theorem p_96_8 (L : Nat) (xs : Nat → Int32) : ll_P L xs 96 8 = some (.inl (lo_alen 9)) := (P_96 L xs 8).trans rfl
theorem p_96_9 (L : Nat) (xs : Nat → Int32) : ll_P L xs 96 9 = some (.inl (lo_cmp 32 12 (fun x y => decide (y ≤ x)))) := (P_96 L xs 9).trans rfl
theorem p_96_12 (L : Nat) (xs : Nat → Int32) : ll_P L xs 96 12 = some (.inl (lo_aload 13 0)) := (P_96 L xs 12).trans rfl
theorem p_96_13 (L : Nat) (xs : Nat → Int32) : ll_P L xs 96 13 = some (.inl (lo_getf 16 8 6)) := (P_96 L xs 13).trans rfl
theorem p_96_16 (L : Nat) (xs : Nat → Int32) : ll_P L xs 96 16 = some (.inl (lo_aload 17 0)) := (P_96 L xs 16).trans rfl
theorem p_96_17 (L : Nat) (xs : Nat → Int32) : ll_P L xs 96 17 = some (.inl (lo_getf 20 8 9)) := (P_96 L xs 17).trans rfl
theorem p_96_20 (L : Nat) (xs : Nat → Int32) : ll_P L xs 96 20 = some (.inl (lo_iload 21 1)) := (P_96 L xs 20).trans rfl
theorem p_96_21 (L : Nat) (xs : Nat → Int32) : ll_P L xs 96 21 = some (.inl (lo_ast 22 0)) := (P_96 L xs 21).trans rfl
theorem p_96_22 (L : Nat) (xs : Nat → Int32) : ll_P L xs 96 22 = some (.inl (lo_aload 23 0)) := (P_96 L xs 22).trans rfl
theorem p_96_23 (L : Nat) (xs : Nat → Int32) : ll_P L xs 96 23 = some (.inl (lo_dup 24)) := (P_96 L xs 23).trans rfl
theorem p_96_24 (L : Nat) (xs : Nat → Int32) : ll_P L xs 96 24 = some (.inl (lo_getf 27 8 9)) := (P_96 L xs 24).trans rfl
theorem p_96_27 (L : Nat) (xs : Nat → Int32) : ll_P L xs 96 27 = some (.inl (lo_push 28 (.int 1))) := (P_96 L xs 27).trans rfl
theorem p_96_28 (L : Nat) (xs : Nat → Int32) : ll_P L xs 96 28 = some (.inl (lo_bin 29 (fun x y => x + y))) := (P_96 L xs 28).trans rfl
theorem p_96_29 (L : Nat) (xs : Nat → Int32) : ll_P L xs 96 29 = some (.inl (lo_putf 32 8 9 0)) := (P_96 L xs 29).trans rfl
theorem p_96_32 (L : Nat) (xs : Nat → Int32) : ll_P L xs 96 32 = some (.inr (.inr 0)) := (P_96 L xs 32).trans rfl
theorem b_96_0 {Y : sY} {d : Nat} {s : sT} {K : Option Int32 → sT → Prop} {r0 : Nat} {x1 : Int32} (h : (isO Y r0 8 ∧ (∃ a1, (isO Y r0 8 ∧ s.2 r0 6 = some a1) ∧ (∃ c4 m3, isA Y a1 c4 m3 ∧ (if (Int32.ofNat m3) ≤ (s.1 r0 9) then K none s else (∃ a7, (isO Y r0 8 ∧ s.2 r0 6 = some a7) ∧ (isO Y r0 8 ∧ (∃ m9, (isA Y a7 0 m9 ∧ inR (s.1 r0 9) m9) ∧ (isO Y r0 8 ∧ (isO Y r0 8 ∧ K none (pV (pV s a7 ((s.1 r0 9)).toNatClampNeg x1) r0 9 (((pV s a7 ((s.1 r0 9)).toNatClampNeg x1).1 r0 9) + (1 : Int32))))))))))))) : tT Y d 96 0 [.ref r0, .int x1] [] s K :=
  (tt_aload (p_96_0 _ _) rfl).mpr (t3_geti (p_96_1 _ _) (isI_8_9) h.1 ((tt_aload (p_96_4 _ _) rfl).mpr (Exists.elim h.2 (fun a1 h2 => t3_getr (p_96_5 _ _) (isI_8_6) h2.1.1 h2.1.2 (Exists.elim h2.2 (fun c4 h5q0 => Exists.elim h5q0 (fun m3 h5 => t3_alen (p_96_8 _ _) h5.1 (t3_cmp (p := (Int32.ofNat m3) ≤ (s.1 r0 9)) (p_96_9 _ _) rfl (fun g6 => tt_ret0 (p_96_32 _ _) (ifp h5.2 g6)) (fun g6 => (tt_aload (p_96_12 _ _) rfl).mpr (Exists.elim (ifn h5.2 g6) (fun a7 h8 => t3_getr (p_96_13 _ _) (isI_8_6) h8.1.1 h8.1.2 ((tt_aload (p_96_16 _ _) rfl).mpr (t3_geti (p_96_17 _ _) (isI_8_9) h8.2.1 ((tt_iload (p_96_20 _ _) rfl).mpr (Exists.elim h8.2.2 (fun m9 h10 => t3_ast (p_96_21 _ _) h10.1.1 h10.1.2 ((tt_aload (p_96_22 _ _) rfl).mpr ((tt_dupr (p_96_23 _ _)).mpr (t3_geti (p_96_24 _ _) (isI_8_9) h10.2.1 ((tt_push (p_96_27 _ _)).mpr ((tt_bin (p_96_28 _ _)).mpr ((t2_puti (p_96_29 _ _) isI_8_9 h10.2.2.1).mpr (tt_ret0 (p_96_32 _ _) h10.2.2.2)))))))))))))))))))))))
/-! InclusionProver$Tree.addOnce.(II)V -/
theorem p_97_0 (L : Nat) (xs : Nat → Int32) : ll_P L xs 97 0 = some (.inl (lo_iload 1 1)) := (P_97 L xs 0).trans rfl
theorem p_97_1 (L : Nat) (xs : Nat → Int32) : ll_P L xs 97 1 = some (.inl (lo_istore 2 3)) := (P_97 L xs 1).trans rfl
theorem p_97_2 (L : Nat) (xs : Nat → Int32) : ll_P L xs 97 2 = some (.inl (lo_iload 3 3)) := (P_97 L xs 2).trans rfl
theorem p_97_3 (L : Nat) (xs : Nat → Int32) : ll_P L xs 97 3 = some (.inl (lo_aload 4 0)) := (P_97 L xs 3).trans rfl
theorem p_97_4 (L : Nat) (xs : Nat → Int32) : ll_P L xs 97 4 = some (.inl (lo_getf 7 8 9)) := (P_97 L xs 4).trans rfl
theorem p_97_7 (L : Nat) (xs : Nat → Int32) : ll_P L xs 97 7 = some (.inl (lo_cmp 27 10 (fun x y => decide (y ≤ x)))) := (P_97 L xs 7).trans rfl
theorem p_97_10 (L : Nat) (xs : Nat → Int32) : ll_P L xs 97 10 = some (.inl (lo_aload 11 0)) := (P_97 L xs 10).trans rfl
theorem p_97_11 (L : Nat) (xs : Nat → Int32) : ll_P L xs 97 11 = some (.inl (lo_getf 14 8 6)) := (P_97 L xs 11).trans rfl
theorem p_97_14 (L : Nat) (xs : Nat → Int32) : ll_P L xs 97 14 = some (.inl (lo_iload 15 3)) := (P_97 L xs 14).trans rfl
theorem p_97_15 (L : Nat) (xs : Nat → Int32) : ll_P L xs 97 15 = some (.inl (lo_ald 16 0)) := (P_97 L xs 15).trans rfl
theorem p_97_16 (L : Nat) (xs : Nat → Int32) : ll_P L xs 97 16 = some (.inl (lo_iload 17 2)) := (P_97 L xs 16).trans rfl
theorem p_97_17 (L : Nat) (xs : Nat → Int32) : ll_P L xs 97 17 = some (.inl (lo_cmp 21 20 (fun x y => decide (¬ x = y)))) := (P_97 L xs 17).trans rfl
theorem p_97_20 (L : Nat) (xs : Nat → Int32) : ll_P L xs 97 20 = some (.inr (.inr 0)) := (P_97 L xs 20).trans rfl
theorem p_97_21 (L : Nat) (xs : Nat → Int32) : ll_P L xs 97 21 = some (.inl (lo_iinc 24 3 1)) := (P_97 L xs 21).trans rfl
theorem p_97_24 (L : Nat) (xs : Nat → Int32) : ll_P L xs 97 24 = some (.inl (lo_goto 2)) := (P_97 L xs 24).trans rfl
theorem p_97_27 (L : Nat) (xs : Nat → Int32) : ll_P L xs 97 27 = some (.inl (lo_aload 28 0)) := (P_97 L xs 27).trans rfl
theorem p_97_28 (L : Nat) (xs : Nat → Int32) : ll_P L xs 97 28 = some (.inl (lo_iload 29 2)) := (P_97 L xs 28).trans rfl
theorem p_97_29 (L : Nat) (xs : Nat → Int32) : ll_P L xs 97 29 = some (.inr (.inl (96, 2, 32))) := (P_97 L xs 29).trans rfl
theorem p_97_32 (L : Nat) (xs : Nat → Int32) : ll_P L xs 97 32 = some (.inr (.inr 0)) := (P_97 L xs 32).trans rfl
theorem b_97_0 {Y : sY} {d : Nat} {s : sT} {K : Option Int32 → sT → Prop} {r0 : Nat} {x1 : Int32} {x2 : Int32} (h : tT Y (d + 1) 97 2 [.ref r0, .int x1, .int x2, .int x1] [] s K) : tT Y (d + 1) 97 0 [.ref r0, .int x1, .int x2, .null] [] s K :=
  (tt_iload (p_97_0 _ _) rfl).mpr ((tt_istore (p_97_1 _ _) (Nat.le_of_ble_eq_true rfl) rfl rfl).mpr (h))
theorem b_97_2 {Y : sY} {d : Nat} {s : sT} {K : Option Int32 → sT → Prop} {r0 : Nat} {x1 : Int32} {x2 : Int32} {x3 : Int32} (h : (isO Y r0 8 ∧ (if (s.1 r0 9) ≤ x3 then (isO Y r0 8 ∧ tT Y d 96 0 [.ref r0, .int x2] [] s (fun r s1 => tT Y (d + 1) 97 32 [.ref r0, .int x1, .int x2, .int x3] ((r.map Value.int).toList ++ []) s1 K)) else (∃ a2, (isO Y r0 8 ∧ s.2 r0 6 = some a2) ∧ (∃ m4, (isA Y a2 0 m4 ∧ inR x3 m4) ∧ (if ¬ (s.1 a2 (x3).toNatClampNeg) = x2 then tT Y (d + 1) 97 2 [.ref r0, .int x1, .int x2, .int (x3 + 1)] [] s K else K none s)))))) : tT Y (d + 1) 97 2 [.ref r0, .int x1, .int x2, .int x3] [] s K :=
  (tt_iload (p_97_2 _ _) rfl).mpr ((tt_aload (p_97_3 _ _) rfl).mpr (t3_geti (p_97_4 _ _) (isI_8_9) h.1 (t3_cmp (p := (s.1 r0 9) ≤ x3) (p_97_7 _ _) rfl (fun g1 => (tt_aload (p_97_27 _ _) rfl).mpr ((tt_iload (p_97_28 _ _) rfl).mpr (t2_callv (z := 96) (k := 2) (i := r0) (as := [.int x2]) (rest := []) (p_97_29 _ _) mK_96 mL_96 rfl rfl (Nat.le_of_ble_eq_true rfl) rfl (Nat.le_of_ble_eq_true rfl) (ifp h.2 g1).1 (ifp h.2 g1).2))) (fun g1 => (tt_aload (p_97_10 _ _) rfl).mpr (Exists.elim (ifn h.2 g1) (fun a2 h3 => t3_getr (p_97_11 _ _) (isI_8_6) h3.1.1 h3.1.2 ((tt_iload (p_97_14 _ _) rfl).mpr (Exists.elim h3.2 (fun m4 h5 => t3_ald (p_97_15 _ _) h5.1.1 h5.1.2 ((tt_iload (p_97_16 _ _) rfl).mpr (t3_cmp (p := ¬ (s.1 a2 (x3).toNatClampNeg) = x2) (p_97_17 _ _) rfl (fun g6 => (tt_iinc (p_97_21 _ _) rfl rfl rfl).mpr ((tt_goto (p_97_24 _ _)).mpr ((ifp h5.2 g6)))) (fun g6 => tt_ret0 (p_97_20 _ _) (ifn h5.2 g6)))))))))))))
theorem b_97_32 {Y : sY} {d : Nat} {s : sT} {K : Option Int32 → sT → Prop} {r0 : Nat} {x1 : Int32} {x2 : Int32} {x3 : Int32} (h : K none s) : tT Y (d + 1) 97 32 [.ref r0, .int x1, .int x2, .int x3] [] s K :=
  tt_ret0 (p_97_32 _ _) h
/-! InclusionProver$Tree.close.(III)I -/
theorem p_98_0 (L : Nat) (xs : Nat → Int32) : ll_P L xs 98 0 = some (.inl (lo_aload 1 0)) := (P_98 L xs 0).trans rfl
theorem p_98_1 (L : Nat) (xs : Nat → Int32) : ll_P L xs 98 1 = some (.inl (lo_getf 4 8 9)) := (P_98 L xs 1).trans rfl
theorem p_98_4 (L : Nat) (xs : Nat → Int32) : ll_P L xs 98 4 = some (.inl (lo_iload 5 2)) := (P_98 L xs 4).trans rfl
theorem p_98_5 (L : Nat) (xs : Nat → Int32) : ll_P L xs 98 5 = some (.inl (lo_bin 6 (fun x y => x - y))) := (P_98 L xs 5).trans rfl
theorem p_98_6 (L : Nat) (xs : Nat → Int32) : ll_P L xs 98 6 = some (.inl (lo_istore 8 4)) := (P_98 L xs 6).trans rfl
theorem p_98_8 (L : Nat) (xs : Nat → Int32) : ll_P L xs 98 8 = some (.inl (lo_iload 10 4)) := (P_98 L xs 8).trans rfl
theorem p_98_10 (L : Nat) (xs : Nat → Int32) : ll_P L xs 98 10 = some (.inl (lo_if 17 13 (fun x => decide (¬ x = 0)))) := (P_98 L xs 10).trans rfl
theorem p_98_13 (L : Nat) (xs : Nat → Int32) : ll_P L xs 98 13 = some (.inl (lo_iload 14 3)) := (P_98 L xs 13).trans rfl
theorem p_98_14 (L : Nat) (xs : Nat → Int32) : ll_P L xs 98 14 = some (.inl (lo_goto 38)) := (P_98 L xs 14).trans rfl
theorem p_98_17 (L : Nat) (xs : Nat → Int32) : ll_P L xs 98 17 = some (.inl (lo_iload 19 4)) := (P_98 L xs 17).trans rfl
theorem p_98_19 (L : Nat) (xs : Nat → Int32) : ll_P L xs 98 19 = some (.inl (lo_push 20 (.int 1))) := (P_98 L xs 19).trans rfl
theorem p_98_20 (L : Nat) (xs : Nat → Int32) : ll_P L xs 98 20 = some (.inl (lo_cmp 32 23 (fun x y => decide (¬ x = y)))) := (P_98 L xs 20).trans rfl
theorem p_98_23 (L : Nat) (xs : Nat → Int32) : ll_P L xs 98 23 = some (.inl (lo_aload 24 0)) := (P_98 L xs 23).trans rfl
theorem p_98_24 (L : Nat) (xs : Nat → Int32) : ll_P L xs 98 24 = some (.inl (lo_getf 27 8 6)) := (P_98 L xs 24).trans rfl
theorem p_98_27 (L : Nat) (xs : Nat → Int32) : ll_P L xs 98 27 = some (.inl (lo_iload 28 2)) := (P_98 L xs 27).trans rfl
theorem p_98_28 (L : Nat) (xs : Nat → Int32) : ll_P L xs 98 28 = some (.inl (lo_ald 29 0)) := (P_98 L xs 28).trans rfl
theorem p_98_29 (L : Nat) (xs : Nat → Int32) : ll_P L xs 98 29 = some (.inl (lo_goto 38)) := (P_98 L xs 29).trans rfl
theorem p_98_32 (L : Nat) (xs : Nat → Int32) : ll_P L xs 98 32 = some (.inl (lo_aload 33 0)) := (P_98 L xs 32).trans rfl
theorem p_98_33 (L : Nat) (xs : Nat → Int32) : ll_P L xs 98 33 = some (.inl (lo_iload 34 1)) := (P_98 L xs 33).trans rfl
theorem p_98_34 (L : Nat) (xs : Nat → Int32) : ll_P L xs 98 34 = some (.inl (lo_iload 35 2)) := (P_98 L xs 34).trans rfl
theorem p_98_35 (L : Nat) (xs : Nat → Int32) : ll_P L xs 98 35 = some (.inr (.inl (99, 3, 38))) := (P_98 L xs 35).trans rfl
theorem p_98_38 (L : Nat) (xs : Nat → Int32) : ll_P L xs 98 38 = some (.inl (lo_istore 40 5)) := (P_98 L xs 38).trans rfl
theorem p_98_40 (L : Nat) (xs : Nat → Int32) : ll_P L xs 98 40 = some (.inl (lo_aload 41 0)) := (P_98 L xs 40).trans rfl
theorem p_98_41 (L : Nat) (xs : Nat → Int32) : ll_P L xs 98 41 = some (.inl (lo_iload 42 2)) := (P_98 L xs 41).trans rfl
theorem p_98_42 (L : Nat) (xs : Nat → Int32) : ll_P L xs 98 42 = some (.inl (lo_putf 45 8 9 0)) := (P_98 L xs 42).trans rfl
theorem p_98_45 (L : Nat) (xs : Nat → Int32) : ll_P L xs 98 45 = some (.inl (lo_iload 47 5)) := (P_98 L xs 45).trans rfl
theorem p_98_47 (L : Nat) (xs : Nat → Int32) : ll_P L xs 98 47 = some (.inr (.inr 1)) := (P_98 L xs 47).trans rfl
theorem b_98_0 {Y : sY} {d : Nat} {s : sT} {K : Option Int32 → sT → Prop} {r0 : Nat} {x1 : Int32} {x2 : Int32} {x3 : Int32} (h : (isO Y r0 8 ∧ (if ¬ ((s.1 r0 9) - x2) = 0 then (if ¬ ((s.1 r0 9) - x2) = (1 : Int32) then (isO Y r0 8 ∧ tT Y d 99 0 [.ref r0, .int x1, .int x2, .null] [] s (fun r s1 => tT Y (d + 1) 98 38 [.ref r0, .int x1, .int x2, .int x3, .int ((s.1 r0 9) - x2), .null] ((r.map Value.int).toList ++ []) s1 K)) else (∃ a3, (isO Y r0 8 ∧ s.2 r0 6 = some a3) ∧ (∃ m5, (isA Y a3 0 m5 ∧ inR x2 m5) ∧ tT Y (d + 1) 98 38 [.ref r0, .int x1, .int x2, .int x3, .int ((s.1 r0 9) - x2), .null] [.int (s.1 a3 (x2).toNatClampNeg)] s K))) else tT Y (d + 1) 98 38 [.ref r0, .int x1, .int x2, .int x3, .int ((s.1 r0 9) - x2), .null] [.int x3] s K))) : tT Y (d + 1) 98 0 [.ref r0, .int x1, .int x2, .int x3, .null, .null] [] s K :=
  (tt_aload (p_98_0 _ _) rfl).mpr (t3_geti (p_98_1 _ _) (isI_8_9) h.1 ((tt_iload (p_98_4 _ _) rfl).mpr ((tt_bin (p_98_5 _ _)).mpr ((tt_istore (p_98_6 _ _) (Nat.le_of_ble_eq_true rfl) rfl rfl).mpr ((tt_iload (p_98_8 _ _) rfl).mpr (t3_if (p := ¬ ((s.1 r0 9) - x2) = 0) (p_98_10 _ _) rfl (fun g1 => (tt_iload (p_98_17 _ _) rfl).mpr ((tt_push (p_98_19 _ _)).mpr (t3_cmp (p := ¬ ((s.1 r0 9) - x2) = (1 : Int32)) (p_98_20 _ _) rfl (fun g2 => (tt_aload (p_98_32 _ _) rfl).mpr ((tt_iload (p_98_33 _ _) rfl).mpr ((tt_iload (p_98_34 _ _) rfl).mpr (t2_callv (z := 99) (k := 3) (i := r0) (as := [.int x1, .int x2]) (rest := []) (p_98_35 _ _) mK_99 mL_99 rfl rfl (Nat.le_of_ble_eq_true rfl) rfl (Nat.le_of_ble_eq_true rfl) (ifp (ifp h.2 g1) g2).1 (ifp (ifp h.2 g1) g2).2)))) (fun g2 => (tt_aload (p_98_23 _ _) rfl).mpr (Exists.elim (ifn (ifp h.2 g1) g2) (fun a3 h4 => t3_getr (p_98_24 _ _) (isI_8_6) h4.1.1 h4.1.2 ((tt_iload (p_98_27 _ _) rfl).mpr (Exists.elim h4.2 (fun m5 h6 => t3_ald (p_98_28 _ _) h6.1.1 h6.1.2 ((tt_goto (p_98_29 _ _)).mpr (h6.2))))))))))) (fun g1 => (tt_iload (p_98_13 _ _) rfl).mpr ((tt_goto (p_98_14 _ _)).mpr ((ifn h.2 g1))))))))))
theorem b_98_38 {Y : sY} {d : Nat} {s : sT} {K : Option Int32 → sT → Prop} {r0 : Nat} {x1 : Int32} {x2 : Int32} {x3 : Int32} {x4 : Int32} {t0 : Int32} (h : (isO Y r0 8 ∧ K (some t0) (pV s r0 9 x2))) : tT Y (d + 1) 98 38 [.ref r0, .int x1, .int x2, .int x3, .int x4, .null] [.int t0] s K :=
  (tt_istore (p_98_38 _ _) (Nat.le_of_ble_eq_true rfl) rfl rfl).mpr ((tt_aload (p_98_40 _ _) rfl).mpr ((tt_iload (p_98_41 _ _) rfl).mpr ((t2_puti (p_98_42 _ _) isI_8_9 h.1).mpr ((tt_iload (p_98_45 _ _) rfl).mpr (tt_ret1 (p_98_47 _ _) h.2)))))
/-! InclusionProver$Tree.nodeOf.(II)I -/
theorem p_99_0 (L : Nat) (xs : Nat → Int32) : ll_P L xs 99 0 = some (.inl (lo_push 1 (.int 5))) := (P_99 L xs 0).trans rfl
theorem p_99_1 (L : Nat) (xs : Nat → Int32) : ll_P L xs 99 1 = some (.inl (lo_istore 2 3)) := (P_99 L xs 1).trans rfl
theorem p_99_2 (L : Nat) (xs : Nat → Int32) : ll_P L xs 99 2 = some (.inl (lo_iload 3 3)) := (P_99 L xs 2).trans rfl
theorem p_99_3 (L : Nat) (xs : Nat → Int32) : ll_P L xs 99 3 = some (.inl (lo_aload 4 0)) := (P_99 L xs 3).trans rfl
theorem p_99_4 (L : Nat) (xs : Nat → Int32) : ll_P L xs 99 4 = some (.inl (lo_getf 7 8 7)) := (P_99 L xs 4).trans rfl
theorem p_99_7 (L : Nat) (xs : Nat → Int32) : ll_P L xs 99 7 = some (.inl (lo_cmp 37 10 (fun x y => decide (y ≤ x)))) := (P_99 L xs 7).trans rfl
theorem p_99_10 (L : Nat) (xs : Nat → Int32) : ll_P L xs 99 10 = some (.inl (lo_aload 11 0)) := (P_99 L xs 10).trans rfl
theorem p_99_11 (L : Nat) (xs : Nat → Int32) : ll_P L xs 99 11 = some (.inl (lo_getf 14 8 0)) := (P_99 L xs 11).trans rfl
theorem p_99_14 (L : Nat) (xs : Nat → Int32) : ll_P L xs 99 14 = some (.inl (lo_iload 15 3)) := (P_99 L xs 14).trans rfl
theorem p_99_15 (L : Nat) (xs : Nat → Int32) : ll_P L xs 99 15 = some (.inl (lo_ald 16 0)) := (P_99 L xs 15).trans rfl
theorem p_99_16 (L : Nat) (xs : Nat → Int32) : ll_P L xs 99 16 = some (.inl (lo_iload 17 1)) := (P_99 L xs 16).trans rfl
theorem p_99_17 (L : Nat) (xs : Nat → Int32) : ll_P L xs 99 17 = some (.inl (lo_cmp 31 20 (fun x y => decide (¬ x = y)))) := (P_99 L xs 17).trans rfl
theorem p_99_20 (L : Nat) (xs : Nat → Int32) : ll_P L xs 99 20 = some (.inl (lo_aload 21 0)) := (P_99 L xs 20).trans rfl
theorem p_99_21 (L : Nat) (xs : Nat → Int32) : ll_P L xs 99 21 = some (.inl (lo_iload 22 3)) := (P_99 L xs 21).trans rfl
theorem p_99_22 (L : Nat) (xs : Nat → Int32) : ll_P L xs 99 22 = some (.inl (lo_iload 23 2)) := (P_99 L xs 22).trans rfl
theorem p_99_23 (L : Nat) (xs : Nat → Int32) : ll_P L xs 99 23 = some (.inr (.inl (100, 3, 26))) := (P_99 L xs 23).trans rfl
theorem p_99_26 (L : Nat) (xs : Nat → Int32) : ll_P L xs 99 26 = some (.inl (lo_if 31 29 (fun x => decide (x = 0)))) := (P_99 L xs 26).trans rfl
theorem p_99_29 (L : Nat) (xs : Nat → Int32) : ll_P L xs 99 29 = some (.inl (lo_iload 30 3)) := (P_99 L xs 29).trans rfl
theorem p_99_30 (L : Nat) (xs : Nat → Int32) : ll_P L xs 99 30 = some (.inr (.inr 1)) := (P_99 L xs 30).trans rfl
theorem p_99_31 (L : Nat) (xs : Nat → Int32) : ll_P L xs 99 31 = some (.inl (lo_iinc 34 3 1)) := (P_99 L xs 31).trans rfl
theorem p_99_34 (L : Nat) (xs : Nat → Int32) : ll_P L xs 99 34 = some (.inl (lo_goto 2)) := (P_99 L xs 34).trans rfl
theorem p_99_37 (L : Nat) (xs : Nat → Int32) : ll_P L xs 99 37 = some (.inl (lo_aload 38 0)) := (P_99 L xs 37).trans rfl
theorem p_99_38 (L : Nat) (xs : Nat → Int32) : ll_P L xs 99 38 = some (.inl (lo_iload 39 1)) := (P_99 L xs 38).trans rfl
theorem p_99_39 (L : Nat) (xs : Nat → Int32) : ll_P L xs 99 39 = some (.inl (lo_iload 40 2)) := (P_99 L xs 39).trans rfl
theorem p_99_40 (L : Nat) (xs : Nat → Int32) : ll_P L xs 99 40 = some (.inr (.inl (101, 3, 43))) := (P_99 L xs 40).trans rfl
theorem p_99_43 (L : Nat) (xs : Nat → Int32) : ll_P L xs 99 43 = some (.inr (.inr 1)) := (P_99 L xs 43).trans rfl
theorem b_99_0 {Y : sY} {d : Nat} {s : sT} {K : Option Int32 → sT → Prop} {r0 : Nat} {x1 : Int32} {x2 : Int32} (h : tT Y (d + 1) 99 2 [.ref r0, .int x1, .int x2, .int (5 : Int32)] [] s K) : tT Y (d + 1) 99 0 [.ref r0, .int x1, .int x2, .null] [] s K :=
  (tt_push (p_99_0 _ _)).mpr ((tt_istore (p_99_1 _ _) (Nat.le_of_ble_eq_true rfl) rfl rfl).mpr (h))
theorem b_99_2 {Y : sY} {d : Nat} {s : sT} {K : Option Int32 → sT → Prop} {r0 : Nat} {x1 : Int32} {x2 : Int32} {x3 : Int32} (h : (isO Y r0 8 ∧ (if (s.1 r0 7) ≤ x3 then (isO Y r0 8 ∧ tT Y d 101 0 [.ref r0, .int x1, .int x2, .null, .null, .null, .null, .null, .null] [] s (fun r s1 => tT Y (d + 1) 99 43 [.ref r0, .int x1, .int x2, .int x3] ((r.map Value.int).toList ++ []) s1 K)) else (∃ a2, (isO Y r0 8 ∧ s.2 r0 0 = some a2) ∧ (∃ m4, (isA Y a2 0 m4 ∧ inR x3 m4) ∧ (if ¬ (s.1 a2 (x3).toNatClampNeg) = x1 then tT Y (d + 1) 99 31 [.ref r0, .int x1, .int x2, .int x3] [] s K else (isO Y r0 8 ∧ tT Y d 100 0 [.ref r0, .int x3, .int x2, .null] [] s (fun r s1 => tT Y (d + 1) 99 26 [.ref r0, .int x1, .int x2, .int x3] ((r.map Value.int).toList ++ []) s1 K)))))))) : tT Y (d + 1) 99 2 [.ref r0, .int x1, .int x2, .int x3] [] s K :=
  (tt_iload (p_99_2 _ _) rfl).mpr ((tt_aload (p_99_3 _ _) rfl).mpr (t3_geti (p_99_4 _ _) (isI_8_7) h.1 (t3_cmp (p := (s.1 r0 7) ≤ x3) (p_99_7 _ _) rfl (fun g1 => (tt_aload (p_99_37 _ _) rfl).mpr ((tt_iload (p_99_38 _ _) rfl).mpr ((tt_iload (p_99_39 _ _) rfl).mpr (t2_callv (z := 101) (k := 3) (i := r0) (as := [.int x1, .int x2]) (rest := []) (p_99_40 _ _) mK_101 mL_101 rfl rfl (Nat.le_of_ble_eq_true rfl) rfl (Nat.le_of_ble_eq_true rfl) (ifp h.2 g1).1 (ifp h.2 g1).2)))) (fun g1 => (tt_aload (p_99_10 _ _) rfl).mpr (Exists.elim (ifn h.2 g1) (fun a2 h3 => t3_getr (p_99_11 _ _) (isI_8_0) h3.1.1 h3.1.2 ((tt_iload (p_99_14 _ _) rfl).mpr (Exists.elim h3.2 (fun m4 h5 => t3_ald (p_99_15 _ _) h5.1.1 h5.1.2 ((tt_iload (p_99_16 _ _) rfl).mpr (t3_cmp (p := ¬ (s.1 a2 (x3).toNatClampNeg) = x1) (p_99_17 _ _) rfl (fun g6 => (ifp h5.2 g6)) (fun g6 => (tt_aload (p_99_20 _ _) rfl).mpr ((tt_iload (p_99_21 _ _) rfl).mpr ((tt_iload (p_99_22 _ _) rfl).mpr (t2_callv (z := 100) (k := 3) (i := r0) (as := [.int x3, .int x2]) (rest := []) (p_99_23 _ _) mK_100 mL_100 rfl rfl (Nat.le_of_ble_eq_true rfl) rfl (Nat.le_of_ble_eq_true rfl) (ifn h5.2 g6).1 (ifn h5.2 g6).2)))))))))))))))
theorem b_99_26 {Y : sY} {d : Nat} {s : sT} {K : Option Int32 → sT → Prop} {r0 : Nat} {x1 : Int32} {x2 : Int32} {x3 : Int32} {t0 : Int32} (h : (if t0 = 0 then tT Y (d + 1) 99 31 [.ref r0, .int x1, .int x2, .int x3] [] s K else K (some x3) s)) : tT Y (d + 1) 99 26 [.ref r0, .int x1, .int x2, .int x3] [.int t0] s K :=
  t3_if (p := t0 = 0) (p_99_26 _ _) rfl (fun g1 => (ifp h g1)) (fun g1 => (tt_iload (p_99_29 _ _) rfl).mpr (tt_ret1 (p_99_30 _ _) (ifn h g1)))
theorem b_99_31 {Y : sY} {d : Nat} {s : sT} {K : Option Int32 → sT → Prop} {r0 : Nat} {x1 : Int32} {x2 : Int32} {x3 : Int32} (h : tT Y (d + 1) 99 2 [.ref r0, .int x1, .int x2, .int (x3 + 1)] [] s K) : tT Y (d + 1) 99 31 [.ref r0, .int x1, .int x2, .int x3] [] s K :=
  (tt_iinc (p_99_31 _ _) rfl rfl rfl).mpr ((tt_goto (p_99_34 _ _)).mpr (h))
theorem b_99_43 {Y : sY} {d : Nat} {s : sT} {K : Option Int32 → sT → Prop} {r0 : Nat} {x1 : Int32} {x2 : Int32} {x3 : Int32} {t0 : Int32} (h : K (some t0) s) : tT Y (d + 1) 99 43 [.ref r0, .int x1, .int x2, .int x3] [.int t0] s K :=
  tt_ret1 (p_99_43 _ _) h
/-! InclusionProver$Tree.hasChildren.(II)Z -/
theorem p_100_0 (L : Nat) (xs : Nat → Int32) : ll_P L xs 100 0 = some (.inl (lo_aload 1 0)) := (P_100 L xs 0).trans rfl
theorem p_100_1 (L : Nat) (xs : Nat → Int32) : ll_P L xs 100 1 = some (.inl (lo_getf 4 8 2)) := (P_100 L xs 1).trans rfl
theorem p_100_4 (L : Nat) (xs : Nat → Int32) : ll_P L xs 100 4 = some (.inl (lo_iload 5 1)) := (P_100 L xs 4).trans rfl
theorem p_100_5 (L : Nat) (xs : Nat → Int32) : ll_P L xs 100 5 = some (.inl (lo_ald 6 0)) := (P_100 L xs 5).trans rfl
theorem p_100_6 (L : Nat) (xs : Nat → Int32) : ll_P L xs 100 6 = some (.inl (lo_aload 7 0)) := (P_100 L xs 6).trans rfl
theorem p_100_7 (L : Nat) (xs : Nat → Int32) : ll_P L xs 100 7 = some (.inl (lo_getf 10 8 9)) := (P_100 L xs 7).trans rfl
theorem p_100_10 (L : Nat) (xs : Nat → Int32) : ll_P L xs 100 10 = some (.inl (lo_iload 11 2)) := (P_100 L xs 10).trans rfl
theorem p_100_11 (L : Nat) (xs : Nat → Int32) : ll_P L xs 100 11 = some (.inl (lo_bin 12 (fun x y => x - y))) := (P_100 L xs 11).trans rfl
theorem p_100_12 (L : Nat) (xs : Nat → Int32) : ll_P L xs 100 12 = some (.inl (lo_cmp 17 15 (fun x y => decide (x = y)))) := (P_100 L xs 12).trans rfl
theorem p_100_15 (L : Nat) (xs : Nat → Int32) : ll_P L xs 100 15 = some (.inl (lo_push 16 (.int 0))) := (P_100 L xs 15).trans rfl
theorem p_100_16 (L : Nat) (xs : Nat → Int32) : ll_P L xs 100 16 = some (.inr (.inr 2)) := (P_100 L xs 16).trans rfl
theorem p_100_17 (L : Nat) (xs : Nat → Int32) : ll_P L xs 100 17 = some (.inl (lo_push 18 (.int 0))) := (P_100 L xs 17).trans rfl
theorem p_100_18 (L : Nat) (xs : Nat → Int32) : ll_P L xs 100 18 = some (.inl (lo_istore 19 3)) := (P_100 L xs 18).trans rfl
theorem p_100_19 (L : Nat) (xs : Nat → Int32) : ll_P L xs 100 19 = some (.inl (lo_iload 20 3)) := (P_100 L xs 19).trans rfl
theorem p_100_20 (L : Nat) (xs : Nat → Int32) : ll_P L xs 100 20 = some (.inl (lo_aload 21 0)) := (P_100 L xs 20).trans rfl
theorem p_100_21 (L : Nat) (xs : Nat → Int32) : ll_P L xs 100 21 = some (.inl (lo_getf 24 8 2)) := (P_100 L xs 21).trans rfl
theorem p_100_24 (L : Nat) (xs : Nat → Int32) : ll_P L xs 100 24 = some (.inl (lo_iload 25 1)) := (P_100 L xs 24).trans rfl
theorem p_100_25 (L : Nat) (xs : Nat → Int32) : ll_P L xs 100 25 = some (.inl (lo_ald 26 0)) := (P_100 L xs 25).trans rfl
theorem p_100_26 (L : Nat) (xs : Nat → Int32) : ll_P L xs 100 26 = some (.inl (lo_cmp 61 29 (fun x y => decide (y ≤ x)))) := (P_100 L xs 26).trans rfl
theorem p_100_29 (L : Nat) (xs : Nat → Int32) : ll_P L xs 100 29 = some (.inl (lo_aload 30 0)) := (P_100 L xs 29).trans rfl
theorem p_100_30 (L : Nat) (xs : Nat → Int32) : ll_P L xs 100 30 = some (.inl (lo_getf 33 8 5)) := (P_100 L xs 30).trans rfl
theorem p_100_33 (L : Nat) (xs : Nat → Int32) : ll_P L xs 100 33 = some (.inl (lo_aload 34 0)) := (P_100 L xs 33).trans rfl
theorem p_100_34 (L : Nat) (xs : Nat → Int32) : ll_P L xs 100 34 = some (.inl (lo_getf 37 8 1)) := (P_100 L xs 34).trans rfl
theorem p_100_37 (L : Nat) (xs : Nat → Int32) : ll_P L xs 100 37 = some (.inl (lo_iload 38 1)) := (P_100 L xs 37).trans rfl
theorem p_100_38 (L : Nat) (xs : Nat → Int32) : ll_P L xs 100 38 = some (.inl (lo_ald 39 0)) := (P_100 L xs 38).trans rfl
theorem p_100_39 (L : Nat) (xs : Nat → Int32) : ll_P L xs 100 39 = some (.inl (lo_iload 40 3)) := (P_100 L xs 39).trans rfl
theorem p_100_40 (L : Nat) (xs : Nat → Int32) : ll_P L xs 100 40 = some (.inl (lo_bin 41 (fun x y => x + y))) := (P_100 L xs 40).trans rfl
theorem p_100_41 (L : Nat) (xs : Nat → Int32) : ll_P L xs 100 41 = some (.inl (lo_ald 42 0)) := (P_100 L xs 41).trans rfl
theorem p_100_42 (L : Nat) (xs : Nat → Int32) : ll_P L xs 100 42 = some (.inl (lo_aload 43 0)) := (P_100 L xs 42).trans rfl
theorem p_100_43 (L : Nat) (xs : Nat → Int32) : ll_P L xs 100 43 = some (.inl (lo_getf 46 8 6)) := (P_100 L xs 43).trans rfl
theorem p_100_46 (L : Nat) (xs : Nat → Int32) : ll_P L xs 100 46 = some (.inl (lo_iload 47 2)) := (P_100 L xs 46).trans rfl
theorem p_100_47 (L : Nat) (xs : Nat → Int32) : ll_P L xs 100 47 = some (.inl (lo_iload 48 3)) := (P_100 L xs 47).trans rfl
theorem p_100_48 (L : Nat) (xs : Nat → Int32) : ll_P L xs 100 48 = some (.inl (lo_bin 49 (fun x y => x + y))) := (P_100 L xs 48).trans rfl
theorem p_100_49 (L : Nat) (xs : Nat → Int32) : ll_P L xs 100 49 = some (.inl (lo_ald 50 0)) := (P_100 L xs 49).trans rfl
theorem p_100_50 (L : Nat) (xs : Nat → Int32) : ll_P L xs 100 50 = some (.inl (lo_cmp 55 53 (fun x y => decide (x = y)))) := (P_100 L xs 50).trans rfl
theorem p_100_53 (L : Nat) (xs : Nat → Int32) : ll_P L xs 100 53 = some (.inl (lo_push 54 (.int 0))) := (P_100 L xs 53).trans rfl
theorem p_100_54 (L : Nat) (xs : Nat → Int32) : ll_P L xs 100 54 = some (.inr (.inr 2)) := (P_100 L xs 54).trans rfl
theorem p_100_55 (L : Nat) (xs : Nat → Int32) : ll_P L xs 100 55 = some (.inl (lo_iinc 58 3 1)) := (P_100 L xs 55).trans rfl
theorem p_100_58 (L : Nat) (xs : Nat → Int32) : ll_P L xs 100 58 = some (.inl (lo_goto 19)) := (P_100 L xs 58).trans rfl
theorem p_100_61 (L : Nat) (xs : Nat → Int32) : ll_P L xs 100 61 = some (.inl (lo_push 62 (.int 1))) := (P_100 L xs 61).trans rfl
theorem p_100_62 (L : Nat) (xs : Nat → Int32) : ll_P L xs 100 62 = some (.inr (.inr 2)) := (P_100 L xs 62).trans rfl
theorem b_100_0 {Y : sY} {d : Nat} {s : sT} {K : Option Int32 → sT → Prop} {r0 : Nat} {x1 : Int32} {x2 : Int32} (h : (∃ a1, (isO Y r0 8 ∧ s.2 r0 2 = some a1) ∧ (∃ m3, (isA Y a1 0 m3 ∧ inR x1 m3) ∧ (isO Y r0 8 ∧ (if (s.1 a1 (x1).toNatClampNeg) = ((s.1 r0 9) - x2) then tT Y d 100 19 [.ref r0, .int x1, .int x2, .int (0 : Int32)] [] s K else K (some (0 : Int32)) s))))) : tT Y d 100 0 [.ref r0, .int x1, .int x2, .null] [] s K :=
  (tt_aload (p_100_0 _ _) rfl).mpr (Exists.elim h (fun a1 h2 => t3_getr (p_100_1 _ _) (isI_8_2) h2.1.1 h2.1.2 ((tt_iload (p_100_4 _ _) rfl).mpr (Exists.elim h2.2 (fun m3 h4 => t3_ald (p_100_5 _ _) h4.1.1 h4.1.2 ((tt_aload (p_100_6 _ _) rfl).mpr (t3_geti (p_100_7 _ _) (isI_8_9) h4.2.1 ((tt_iload (p_100_10 _ _) rfl).mpr ((tt_bin (p_100_11 _ _)).mpr (t3_cmp (p := (s.1 a1 (x1).toNatClampNeg) = ((s.1 r0 9) - x2)) (p_100_12 _ _) rfl (fun g5 => (tt_push (p_100_17 _ _)).mpr ((tt_istore (p_100_18 _ _) (Nat.le_of_ble_eq_true rfl) rfl rfl).mpr ((ifp h4.2.2 g5)))) (fun g5 => (tt_push (p_100_15 _ _)).mpr (tt_ret2 (p_100_16 _ _) (Or.inl rfl) (ifn h4.2.2 g5)))))))))))))
theorem b_100_19 {Y : sY} {d : Nat} {s : sT} {K : Option Int32 → sT → Prop} {r0 : Nat} {x1 : Int32} {x2 : Int32} {x3 : Int32} (h : (∃ a1, (isO Y r0 8 ∧ s.2 r0 2 = some a1) ∧ (∃ m3, (isA Y a1 0 m3 ∧ inR x1 m3) ∧ (if (s.1 a1 (x1).toNatClampNeg) ≤ x3 then K (some (1 : Int32)) s else (∃ a6, (isO Y r0 8 ∧ s.2 r0 5 = some a6) ∧ (∃ a8, (isO Y r0 8 ∧ s.2 r0 1 = some a8) ∧ (∃ m10, (isA Y a8 0 m10 ∧ inR x1 m10) ∧ (∃ m12, (isA Y a6 0 m12 ∧ inR ((s.1 a8 (x1).toNatClampNeg) + x3) m12) ∧ (∃ a14, (isO Y r0 8 ∧ s.2 r0 6 = some a14) ∧ (∃ m16, (isA Y a14 0 m16 ∧ inR (x2 + x3) m16) ∧ (if (s.1 a6 (((s.1 a8 (x1).toNatClampNeg) + x3)).toNatClampNeg) = (s.1 a14 ((x2 + x3)).toNatClampNeg) then tT Y d 100 19 [.ref r0, .int x1, .int x2, .int (x3 + 1)] [] s K else K (some (0 : Int32)) s))))))))))) : tT Y d 100 19 [.ref r0, .int x1, .int x2, .int x3] [] s K :=
  (tt_iload (p_100_19 _ _) rfl).mpr ((tt_aload (p_100_20 _ _) rfl).mpr (Exists.elim h (fun a1 h2 => t3_getr (p_100_21 _ _) (isI_8_2) h2.1.1 h2.1.2 ((tt_iload (p_100_24 _ _) rfl).mpr (Exists.elim h2.2 (fun m3 h4 => t3_ald (p_100_25 _ _) h4.1.1 h4.1.2 (t3_cmp (p := (s.1 a1 (x1).toNatClampNeg) ≤ x3) (p_100_26 _ _) rfl (fun g5 => (tt_push (p_100_61 _ _)).mpr (tt_ret2 (p_100_62 _ _) (Or.inr rfl) (ifp h4.2 g5))) (fun g5 => (tt_aload (p_100_29 _ _) rfl).mpr (Exists.elim (ifn h4.2 g5) (fun a6 h7 => t3_getr (p_100_30 _ _) (isI_8_5) h7.1.1 h7.1.2 ((tt_aload (p_100_33 _ _) rfl).mpr (Exists.elim h7.2 (fun a8 h9 => t3_getr (p_100_34 _ _) (isI_8_1) h9.1.1 h9.1.2 ((tt_iload (p_100_37 _ _) rfl).mpr (Exists.elim h9.2 (fun m10 h11 => t3_ald (p_100_38 _ _) h11.1.1 h11.1.2 ((tt_iload (p_100_39 _ _) rfl).mpr ((tt_bin (p_100_40 _ _)).mpr (Exists.elim h11.2 (fun m12 h13 => t3_ald (p_100_41 _ _) h13.1.1 h13.1.2 ((tt_aload (p_100_42 _ _) rfl).mpr (Exists.elim h13.2 (fun a14 h15 => t3_getr (p_100_43 _ _) (isI_8_6) h15.1.1 h15.1.2 ((tt_iload (p_100_46 _ _) rfl).mpr ((tt_iload (p_100_47 _ _) rfl).mpr ((tt_bin (p_100_48 _ _)).mpr (Exists.elim h15.2 (fun m16 h17 => t3_ald (p_100_49 _ _) h17.1.1 h17.1.2 (t3_cmp (p := (s.1 a6 (((s.1 a8 (x1).toNatClampNeg) + x3)).toNatClampNeg) = (s.1 a14 ((x2 + x3)).toNatClampNeg)) (p_100_50 _ _) rfl (fun g18 => (tt_iinc (p_100_55 _ _) rfl rfl rfl).mpr ((tt_goto (p_100_58 _ _)).mpr ((ifp h17.2 g18)))) (fun g18 => (tt_push (p_100_53 _ _)).mpr (tt_ret2 (p_100_54 _ _) (Or.inl rfl) (ifn h17.2 g18))))))))))))))))))))))))))))))))
/-! InclusionProver$Tree.newNode.(II)I -/
theorem p_101_0 (L : Nat) (xs : Nat → Int32) : ll_P L xs 101 0 = some (.inl (lo_aload 1 0)) := (P_101 L xs 0).trans rfl
theorem p_101_1 (L : Nat) (xs : Nat → Int32) : ll_P L xs 101 1 = some (.inl (lo_getf 4 8 9)) := (P_101 L xs 1).trans rfl
theorem p_101_4 (L : Nat) (xs : Nat → Int32) : ll_P L xs 101 4 = some (.inl (lo_iload 5 2)) := (P_101 L xs 4).trans rfl
theorem p_101_5 (L : Nat) (xs : Nat → Int32) : ll_P L xs 101 5 = some (.inl (lo_bin 6 (fun x y => x - y))) := (P_101 L xs 5).trans rfl
theorem p_101_6 (L : Nat) (xs : Nat → Int32) : ll_P L xs 101 6 = some (.inl (lo_istore 7 3)) := (P_101 L xs 6).trans rfl
theorem p_101_7 (L : Nat) (xs : Nat → Int32) : ll_P L xs 101 7 = some (.inl (lo_aload 8 0)) := (P_101 L xs 7).trans rfl
theorem p_101_8 (L : Nat) (xs : Nat → Int32) : ll_P L xs 101 8 = some (.inl (lo_getf 11 8 7)) := (P_101 L xs 8).trans rfl
theorem p_101_11 (L : Nat) (xs : Nat → Int32) : ll_P L xs 101 11 = some (.inl (lo_push 14 (.int 160))) := (P_101 L xs 11).trans rfl
theorem p_101_14 (L : Nat) (xs : Nat → Int32) : ll_P L xs 101 14 = some (.inl (lo_cmp 29 17 (fun x y => decide (y ≤ x)))) := (P_101 L xs 14).trans rfl
theorem p_101_17 (L : Nat) (xs : Nat → Int32) : ll_P L xs 101 17 = some (.inl (lo_aload 18 0)) := (P_101 L xs 17).trans rfl
theorem p_101_18 (L : Nat) (xs : Nat → Int32) : ll_P L xs 101 18 = some (.inl (lo_getf 21 8 8)) := (P_101 L xs 18).trans rfl
theorem p_101_21 (L : Nat) (xs : Nat → Int32) : ll_P L xs 101 21 = some (.inl (lo_iload 22 3)) := (P_101 L xs 21).trans rfl
theorem p_101_22 (L : Nat) (xs : Nat → Int32) : ll_P L xs 101 22 = some (.inl (lo_bin 23 (fun x y => x + y))) := (P_101 L xs 22).trans rfl
theorem p_101_23 (L : Nat) (xs : Nat → Int32) : ll_P L xs 101 23 = some (.inl (lo_push 26 (.int 2048))) := (P_101 L xs 23).trans rfl
theorem p_101_26 (L : Nat) (xs : Nat → Int32) : ll_P L xs 101 26 = some (.inl (lo_cmp 31 29 (fun x y => decide (x ≤ y)))) := (P_101 L xs 26).trans rfl
theorem p_101_29 (L : Nat) (xs : Nat → Int32) : ll_P L xs 101 29 = some (.inl (lo_push 30 (.int 0))) := (P_101 L xs 29).trans rfl
theorem p_101_30 (L : Nat) (xs : Nat → Int32) : ll_P L xs 101 30 = some (.inr (.inr 1)) := (P_101 L xs 30).trans rfl
theorem p_101_31 (L : Nat) (xs : Nat → Int32) : ll_P L xs 101 31 = some (.inl (lo_push 33 (.int 68))) := (P_101 L xs 31).trans rfl
theorem p_101_33 (L : Nat) (xs : Nat → Int32) : ll_P L xs 101 33 = some (.inl (lo_istore 35 4)) := (P_101 L xs 33).trans rfl
theorem p_101_35 (L : Nat) (xs : Nat → Int32) : ll_P L xs 101 35 = some (.inl (lo_push 36 (.int 0))) := (P_101 L xs 35).trans rfl
theorem p_101_36 (L : Nat) (xs : Nat → Int32) : ll_P L xs 101 36 = some (.inl (lo_istore 38 5)) := (P_101 L xs 36).trans rfl
theorem p_101_38 (L : Nat) (xs : Nat → Int32) : ll_P L xs 101 38 = some (.inl (lo_push 39 (.int 0))) := (P_101 L xs 38).trans rfl
theorem p_101_39 (L : Nat) (xs : Nat → Int32) : ll_P L xs 101 39 = some (.inl (lo_istore 41 6)) := (P_101 L xs 39).trans rfl
theorem p_101_41 (L : Nat) (xs : Nat → Int32) : ll_P L xs 101 41 = some (.inl (lo_iload 42 2)) := (P_101 L xs 41).trans rfl
theorem p_101_42 (L : Nat) (xs : Nat → Int32) : ll_P L xs 101 42 = some (.inl (lo_istore 44 7)) := (P_101 L xs 42).trans rfl
theorem p_101_44 (L : Nat) (xs : Nat → Int32) : ll_P L xs 101 44 = some (.inl (lo_iload 46 7)) := (P_101 L xs 44).trans rfl
theorem p_101_46 (L : Nat) (xs : Nat → Int32) : ll_P L xs 101 46 = some (.inl (lo_aload 47 0)) := (P_101 L xs 46).trans rfl
theorem p_101_47 (L : Nat) (xs : Nat → Int32) : ll_P L xs 101 47 = some (.inl (lo_getf 50 8 9)) := (P_101 L xs 47).trans rfl
theorem p_101_50 (L : Nat) (xs : Nat → Int32) : ll_P L xs 101 50 = some (.inl (lo_cmp 124 53 (fun x y => decide (y ≤ x)))) := (P_101 L xs 50).trans rfl
theorem p_101_53 (L : Nat) (xs : Nat → Int32) : ll_P L xs 101 53 = some (.inl (lo_aload 54 0)) := (P_101 L xs 53).trans rfl
theorem p_101_54 (L : Nat) (xs : Nat → Int32) : ll_P L xs 101 54 = some (.inl (lo_getf 57 8 6)) := (P_101 L xs 54).trans rfl
theorem p_101_57 (L : Nat) (xs : Nat → Int32) : ll_P L xs 101 57 = some (.inl (lo_iload 59 7)) := (P_101 L xs 57).trans rfl
theorem p_101_59 (L : Nat) (xs : Nat → Int32) : ll_P L xs 101 59 = some (.inl (lo_ald 60 0)) := (P_101 L xs 59).trans rfl
theorem p_101_60 (L : Nat) (xs : Nat → Int32) : ll_P L xs 101 60 = some (.inl (lo_istore 62 8)) := (P_101 L xs 60).trans rfl
theorem p_101_62 (L : Nat) (xs : Nat → Int32) : ll_P L xs 101 62 = some (.inl (lo_aload 63 0)) := (P_101 L xs 62).trans rfl
theorem p_101_63 (L : Nat) (xs : Nat → Int32) : ll_P L xs 101 63 = some (.inl (lo_getf 66 8 5)) := (P_101 L xs 63).trans rfl
theorem p_101_66 (L : Nat) (xs : Nat → Int32) : ll_P L xs 101 66 = some (.inl (lo_aload 67 0)) := (P_101 L xs 66).trans rfl
theorem p_101_67 (L : Nat) (xs : Nat → Int32) : ll_P L xs 101 67 = some (.inl (lo_getf 70 8 8)) := (P_101 L xs 67).trans rfl
theorem p_101_70 (L : Nat) (xs : Nat → Int32) : ll_P L xs 101 70 = some (.inl (lo_iload 72 7)) := (P_101 L xs 70).trans rfl
theorem p_101_72 (L : Nat) (xs : Nat → Int32) : ll_P L xs 101 72 = some (.inl (lo_bin 73 (fun x y => x + y))) := (P_101 L xs 72).trans rfl
theorem p_101_73 (L : Nat) (xs : Nat → Int32) : ll_P L xs 101 73 = some (.inl (lo_iload 74 2)) := (P_101 L xs 73).trans rfl
theorem p_101_74 (L : Nat) (xs : Nat → Int32) : ll_P L xs 101 74 = some (.inl (lo_bin 75 (fun x y => x - y))) := (P_101 L xs 74).trans rfl
theorem p_101_75 (L : Nat) (xs : Nat → Int32) : ll_P L xs 101 75 = some (.inl (lo_iload 77 8)) := (P_101 L xs 75).trans rfl
theorem p_101_77 (L : Nat) (xs : Nat → Int32) : ll_P L xs 101 77 = some (.inl (lo_ast 78 0)) := (P_101 L xs 77).trans rfl
theorem p_101_78 (L : Nat) (xs : Nat → Int32) : ll_P L xs 101 78 = some (.inl (lo_iload 80 4)) := (P_101 L xs 78).trans rfl
theorem p_101_80 (L : Nat) (xs : Nat → Int32) : ll_P L xs 101 80 = some (.inl (lo_aload 81 0)) := (P_101 L xs 80).trans rfl
theorem p_101_81 (L : Nat) (xs : Nat → Int32) : ll_P L xs 101 81 = some (.inl (lo_getf 84 8 3)) := (P_101 L xs 81).trans rfl
theorem p_101_84 (L : Nat) (xs : Nat → Int32) : ll_P L xs 101 84 = some (.inl (lo_iload 86 8)) := (P_101 L xs 84).trans rfl
theorem p_101_86 (L : Nat) (xs : Nat → Int32) : ll_P L xs 101 86 = some (.inl (lo_ald 87 0)) := (P_101 L xs 86).trans rfl
theorem p_101_87 (L : Nat) (xs : Nat → Int32) : ll_P L xs 101 87 = some (.inl (lo_mm 90 (fun x y => if y < x then y else x))) := (P_101 L xs 87).trans rfl
theorem p_101_90 (L : Nat) (xs : Nat → Int32) : ll_P L xs 101 90 = some (.inl (lo_istore 92 4)) := (P_101 L xs 90).trans rfl
theorem p_101_92 (L : Nat) (xs : Nat → Int32) : ll_P L xs 101 92 = some (.inl (lo_iload 94 5)) := (P_101 L xs 92).trans rfl
theorem p_101_94 (L : Nat) (xs : Nat → Int32) : ll_P L xs 101 94 = some (.inl (lo_aload 95 0)) := (P_101 L xs 94).trans rfl
theorem p_101_95 (L : Nat) (xs : Nat → Int32) : ll_P L xs 101 95 = some (.inl (lo_getf 98 8 3)) := (P_101 L xs 95).trans rfl
theorem p_101_98 (L : Nat) (xs : Nat → Int32) : ll_P L xs 101 98 = some (.inl (lo_iload 100 8)) := (P_101 L xs 98).trans rfl
theorem p_101_100 (L : Nat) (xs : Nat → Int32) : ll_P L xs 101 100 = some (.inl (lo_ald 101 0)) := (P_101 L xs 100).trans rfl
theorem p_101_101 (L : Nat) (xs : Nat → Int32) : ll_P L xs 101 101 = some (.inl (lo_bin 102 (fun x y => x + y))) := (P_101 L xs 101).trans rfl
theorem p_101_102 (L : Nat) (xs : Nat → Int32) : ll_P L xs 101 102 = some (.inl (lo_istore 104 5)) := (P_101 L xs 102).trans rfl
theorem p_101_104 (L : Nat) (xs : Nat → Int32) : ll_P L xs 101 104 = some (.inl (lo_iload 106 6)) := (P_101 L xs 104).trans rfl
theorem p_101_106 (L : Nat) (xs : Nat → Int32) : ll_P L xs 101 106 = some (.inl (lo_aload 107 0)) := (P_101 L xs 106).trans rfl
theorem p_101_107 (L : Nat) (xs : Nat → Int32) : ll_P L xs 101 107 = some (.inl (lo_getf 110 8 4)) := (P_101 L xs 107).trans rfl
theorem p_101_110 (L : Nat) (xs : Nat → Int32) : ll_P L xs 101 110 = some (.inl (lo_iload 112 8)) := (P_101 L xs 110).trans rfl
theorem p_101_112 (L : Nat) (xs : Nat → Int32) : ll_P L xs 101 112 = some (.inl (lo_ald 113 0)) := (P_101 L xs 112).trans rfl
theorem p_101_113 (L : Nat) (xs : Nat → Int32) : ll_P L xs 101 113 = some (.inl (lo_mm 116 (fun x y => if x < y then y else x))) := (P_101 L xs 113).trans rfl
theorem p_101_116 (L : Nat) (xs : Nat → Int32) : ll_P L xs 101 116 = some (.inl (lo_istore 118 6)) := (P_101 L xs 116).trans rfl
theorem p_101_118 (L : Nat) (xs : Nat → Int32) : ll_P L xs 101 118 = some (.inl (lo_iinc 121 7 1)) := (P_101 L xs 118).trans rfl
theorem p_101_121 (L : Nat) (xs : Nat → Int32) : ll_P L xs 101 121 = some (.inl (lo_goto 44)) := (P_101 L xs 121).trans rfl
theorem p_101_124 (L : Nat) (xs : Nat → Int32) : ll_P L xs 101 124 = some (.inl (lo_aload 125 0)) := (P_101 L xs 124).trans rfl
theorem p_101_125 (L : Nat) (xs : Nat → Int32) : ll_P L xs 101 125 = some (.inl (lo_getf 128 8 7)) := (P_101 L xs 125).trans rfl
theorem p_101_128 (L : Nat) (xs : Nat → Int32) : ll_P L xs 101 128 = some (.inl (lo_istore 130 7)) := (P_101 L xs 128).trans rfl
theorem p_101_130 (L : Nat) (xs : Nat → Int32) : ll_P L xs 101 130 = some (.inl (lo_aload 131 0)) := (P_101 L xs 130).trans rfl
theorem p_101_131 (L : Nat) (xs : Nat → Int32) : ll_P L xs 101 131 = some (.inl (lo_getf 134 8 0)) := (P_101 L xs 131).trans rfl
theorem p_101_134 (L : Nat) (xs : Nat → Int32) : ll_P L xs 101 134 = some (.inl (lo_iload 136 7)) := (P_101 L xs 134).trans rfl
theorem p_101_136 (L : Nat) (xs : Nat → Int32) : ll_P L xs 101 136 = some (.inl (lo_iload 137 1)) := (P_101 L xs 136).trans rfl
theorem p_101_137 (L : Nat) (xs : Nat → Int32) : ll_P L xs 101 137 = some (.inl (lo_ast 138 0)) := (P_101 L xs 137).trans rfl
theorem p_101_138 (L : Nat) (xs : Nat → Int32) : ll_P L xs 101 138 = some (.inl (lo_aload 139 0)) := (P_101 L xs 138).trans rfl
theorem p_101_139 (L : Nat) (xs : Nat → Int32) : ll_P L xs 101 139 = some (.inl (lo_getf 142 8 1)) := (P_101 L xs 139).trans rfl
theorem p_101_142 (L : Nat) (xs : Nat → Int32) : ll_P L xs 101 142 = some (.inl (lo_iload 144 7)) := (P_101 L xs 142).trans rfl
theorem p_101_144 (L : Nat) (xs : Nat → Int32) : ll_P L xs 101 144 = some (.inl (lo_aload 145 0)) := (P_101 L xs 144).trans rfl
theorem p_101_145 (L : Nat) (xs : Nat → Int32) : ll_P L xs 101 145 = some (.inl (lo_getf 148 8 8)) := (P_101 L xs 145).trans rfl
theorem p_101_148 (L : Nat) (xs : Nat → Int32) : ll_P L xs 101 148 = some (.inl (lo_ast 149 0)) := (P_101 L xs 148).trans rfl
theorem p_101_149 (L : Nat) (xs : Nat → Int32) : ll_P L xs 101 149 = some (.inl (lo_aload 150 0)) := (P_101 L xs 149).trans rfl
theorem p_101_150 (L : Nat) (xs : Nat → Int32) : ll_P L xs 101 150 = some (.inl (lo_getf 153 8 2)) := (P_101 L xs 150).trans rfl
theorem p_101_153 (L : Nat) (xs : Nat → Int32) : ll_P L xs 101 153 = some (.inl (lo_iload 155 7)) := (P_101 L xs 153).trans rfl
theorem p_101_155 (L : Nat) (xs : Nat → Int32) : ll_P L xs 101 155 = some (.inl (lo_iload 156 3)) := (P_101 L xs 155).trans rfl
theorem p_101_156 (L : Nat) (xs : Nat → Int32) : ll_P L xs 101 156 = some (.inl (lo_ast 157 0)) := (P_101 L xs 156).trans rfl
theorem p_101_157 (L : Nat) (xs : Nat → Int32) : ll_P L xs 101 157 = some (.inl (lo_aload 158 0)) := (P_101 L xs 157).trans rfl
theorem p_101_158 (L : Nat) (xs : Nat → Int32) : ll_P L xs 101 158 = some (.inl (lo_getf 161 8 3)) := (P_101 L xs 158).trans rfl
theorem p_101_161 (L : Nat) (xs : Nat → Int32) : ll_P L xs 101 161 = some (.inl (lo_iload 163 7)) := (P_101 L xs 161).trans rfl
theorem p_101_163 (L : Nat) (xs : Nat → Int32) : ll_P L xs 101 163 = some (.inl (lo_iload 164 1)) := (P_101 L xs 163).trans rfl
theorem p_101_164 (L : Nat) (xs : Nat → Int32) : ll_P L xs 101 164 = some (.inl (lo_push 165 (.int 3))) := (P_101 L xs 164).trans rfl
theorem p_101_165 (L : Nat) (xs : Nat → Int32) : ll_P L xs 101 165 = some (.inl (lo_cmp 172 168 (fun x y => decide (¬ x = y)))) := (P_101 L xs 165).trans rfl
theorem p_101_168 (L : Nat) (xs : Nat → Int32) : ll_P L xs 101 168 = some (.inl (lo_push 169 (.int 0))) := (P_101 L xs 168).trans rfl
theorem p_101_169 (L : Nat) (xs : Nat → Int32) : ll_P L xs 101 169 = some (.inl (lo_goto 184)) := (P_101 L xs 169).trans rfl
theorem p_101_172 (L : Nat) (xs : Nat → Int32) : ll_P L xs 101 172 = some (.inl (lo_iload 173 1)) := (P_101 L xs 172).trans rfl
theorem p_101_173 (L : Nat) (xs : Nat → Int32) : ll_P L xs 101 173 = some (.inl (lo_push 174 (.int 1))) := (P_101 L xs 173).trans rfl
theorem p_101_174 (L : Nat) (xs : Nat → Int32) : ll_P L xs 101 174 = some (.inl (lo_cmp 182 177 (fun x y => decide (¬ x = y)))) := (P_101 L xs 174).trans rfl
theorem p_101_177 (L : Nat) (xs : Nat → Int32) : ll_P L xs 101 177 = some (.inl (lo_iload 179 4)) := (P_101 L xs 177).trans rfl
theorem p_101_179 (L : Nat) (xs : Nat → Int32) : ll_P L xs 101 179 = some (.inl (lo_goto 184)) := (P_101 L xs 179).trans rfl
theorem p_101_182 (L : Nat) (xs : Nat → Int32) : ll_P L xs 101 182 = some (.inl (lo_iload 184 5)) := (P_101 L xs 182).trans rfl
theorem p_101_184 (L : Nat) (xs : Nat → Int32) : ll_P L xs 101 184 = some (.inl (lo_ast 185 0)) := (P_101 L xs 184).trans rfl
theorem p_101_185 (L : Nat) (xs : Nat → Int32) : ll_P L xs 101 185 = some (.inl (lo_aload 186 0)) := (P_101 L xs 185).trans rfl
theorem p_101_186 (L : Nat) (xs : Nat → Int32) : ll_P L xs 101 186 = some (.inl (lo_getf 189 8 4)) := (P_101 L xs 186).trans rfl
theorem p_101_189 (L : Nat) (xs : Nat → Int32) : ll_P L xs 101 189 = some (.inl (lo_iload 191 7)) := (P_101 L xs 189).trans rfl
theorem p_101_191 (L : Nat) (xs : Nat → Int32) : ll_P L xs 101 191 = some (.inl (lo_iload 192 1)) := (P_101 L xs 191).trans rfl
theorem p_101_192 (L : Nat) (xs : Nat → Int32) : ll_P L xs 101 192 = some (.inl (lo_push 193 (.int 3))) := (P_101 L xs 192).trans rfl
theorem p_101_193 (L : Nat) (xs : Nat → Int32) : ll_P L xs 101 193 = some (.inl (lo_cmp 203 196 (fun x y => decide (¬ x = y)))) := (P_101 L xs 193).trans rfl
theorem p_101_196 (L : Nat) (xs : Nat → Int32) : ll_P L xs 101 196 = some (.inl (lo_iload 198 6)) := (P_101 L xs 196).trans rfl
theorem p_101_198 (L : Nat) (xs : Nat → Int32) : ll_P L xs 101 198 = some (.inl (lo_push 199 (.int 1))) := (P_101 L xs 198).trans rfl
theorem p_101_199 (L : Nat) (xs : Nat → Int32) : ll_P L xs 101 199 = some (.inl (lo_bin 200 (fun x y => x + y))) := (P_101 L xs 199).trans rfl
theorem p_101_200 (L : Nat) (xs : Nat → Int32) : ll_P L xs 101 200 = some (.inl (lo_goto 205)) := (P_101 L xs 200).trans rfl
theorem p_101_203 (L : Nat) (xs : Nat → Int32) : ll_P L xs 101 203 = some (.inl (lo_iload 205 6)) := (P_101 L xs 203).trans rfl
theorem p_101_205 (L : Nat) (xs : Nat → Int32) : ll_P L xs 101 205 = some (.inl (lo_ast 206 0)) := (P_101 L xs 205).trans rfl
theorem p_101_206 (L : Nat) (xs : Nat → Int32) : ll_P L xs 101 206 = some (.inl (lo_aload 207 0)) := (P_101 L xs 206).trans rfl
theorem p_101_207 (L : Nat) (xs : Nat → Int32) : ll_P L xs 101 207 = some (.inl (lo_dup 208)) := (P_101 L xs 207).trans rfl
theorem p_101_208 (L : Nat) (xs : Nat → Int32) : ll_P L xs 101 208 = some (.inl (lo_getf 211 8 8)) := (P_101 L xs 208).trans rfl
theorem p_101_211 (L : Nat) (xs : Nat → Int32) : ll_P L xs 101 211 = some (.inl (lo_iload 212 3)) := (P_101 L xs 211).trans rfl
theorem p_101_212 (L : Nat) (xs : Nat → Int32) : ll_P L xs 101 212 = some (.inl (lo_bin 213 (fun x y => x + y))) := (P_101 L xs 212).trans rfl
theorem p_101_213 (L : Nat) (xs : Nat → Int32) : ll_P L xs 101 213 = some (.inl (lo_putf 216 8 8 0)) := (P_101 L xs 213).trans rfl
theorem p_101_216 (L : Nat) (xs : Nat → Int32) : ll_P L xs 101 216 = some (.inl (lo_aload 217 0)) := (P_101 L xs 216).trans rfl
theorem p_101_217 (L : Nat) (xs : Nat → Int32) : ll_P L xs 101 217 = some (.inl (lo_dup 218)) := (P_101 L xs 217).trans rfl
theorem p_101_218 (L : Nat) (xs : Nat → Int32) : ll_P L xs 101 218 = some (.inl (lo_getf 221 8 7)) := (P_101 L xs 218).trans rfl
theorem p_101_221 (L : Nat) (xs : Nat → Int32) : ll_P L xs 101 221 = some (.inl (lo_push 222 (.int 1))) := (P_101 L xs 221).trans rfl
theorem p_101_222 (L : Nat) (xs : Nat → Int32) : ll_P L xs 101 222 = some (.inl (lo_bin 223 (fun x y => x + y))) := (P_101 L xs 222).trans rfl
theorem p_101_223 (L : Nat) (xs : Nat → Int32) : ll_P L xs 101 223 = some (.inl (lo_putf 226 8 7 0)) := (P_101 L xs 223).trans rfl
theorem p_101_226 (L : Nat) (xs : Nat → Int32) : ll_P L xs 101 226 = some (.inl (lo_iload 228 7)) := (P_101 L xs 226).trans rfl
theorem p_101_228 (L : Nat) (xs : Nat → Int32) : ll_P L xs 101 228 = some (.inr (.inr 1)) := (P_101 L xs 228).trans rfl
theorem b_101_0 {Y : sY} {d : Nat} {s : sT} {K : Option Int32 → sT → Prop} {r0 : Nat} {x1 : Int32} {x2 : Int32} (h : (isO Y r0 8 ∧ (isO Y r0 8 ∧ (if (160 : Int32) ≤ (s.1 r0 7) then K (some (0 : Int32)) s else (isO Y r0 8 ∧ (if ((s.1 r0 8) + ((s.1 r0 9) - x2)) ≤ (2048 : Int32) then tT Y d 101 44 [.ref r0, .int x1, .int x2, .int ((s.1 r0 9) - x2), .int (68 : Int32), .int (0 : Int32), .int (0 : Int32), .int x2, .null] [] s K else K (some (0 : Int32)) s)))))) : tT Y d 101 0 [.ref r0, .int x1, .int x2, .null, .null, .null, .null, .null, .null] [] s K :=
  (tt_aload (p_101_0 _ _) rfl).mpr (t3_geti (p_101_1 _ _) (isI_8_9) h.1 ((tt_iload (p_101_4 _ _) rfl).mpr ((tt_bin (p_101_5 _ _)).mpr ((tt_istore (p_101_6 _ _) (Nat.le_of_ble_eq_true rfl) rfl rfl).mpr ((tt_aload (p_101_7 _ _) rfl).mpr (t3_geti (p_101_8 _ _) (isI_8_7) h.2.1 ((tt_push (p_101_11 _ _)).mpr (t3_cmp (p := (160 : Int32) ≤ (s.1 r0 7)) (p_101_14 _ _) rfl (fun g1 => (tt_push (p_101_29 _ _)).mpr (tt_ret1 (p_101_30 _ _) (ifp h.2.2 g1))) (fun g1 => (tt_aload (p_101_17 _ _) rfl).mpr (t3_geti (p_101_18 _ _) (isI_8_8) (ifn h.2.2 g1).1 ((tt_iload (p_101_21 _ _) rfl).mpr ((tt_bin (p_101_22 _ _)).mpr ((tt_push (p_101_23 _ _)).mpr (t3_cmp (p := ((s.1 r0 8) + ((s.1 r0 9) - x2)) ≤ (2048 : Int32)) (p_101_26 _ _) rfl (fun g2 => (tt_push (p_101_31 _ _)).mpr ((tt_istore (p_101_33 _ _) (Nat.le_of_ble_eq_true rfl) rfl rfl).mpr ((tt_push (p_101_35 _ _)).mpr ((tt_istore (p_101_36 _ _) (Nat.le_of_ble_eq_true rfl) rfl rfl).mpr ((tt_push (p_101_38 _ _)).mpr ((tt_istore (p_101_39 _ _) (Nat.le_of_ble_eq_true rfl) rfl rfl).mpr ((tt_iload (p_101_41 _ _) rfl).mpr ((tt_istore (p_101_42 _ _) (Nat.le_of_ble_eq_true rfl) rfl rfl).mpr ((ifp (ifn h.2.2 g1).2 g2)))))))))) (fun g2 => (tt_push (p_101_29 _ _)).mpr (tt_ret1 (p_101_30 _ _) (ifn (ifn h.2.2 g1).2 g2)))))))))))))))))
theorem b_101_44 {Y : sY} {d : Nat} {s : sT} {K : Option Int32 → sT → Prop} {r0 : Nat} {x1 : Int32} {x2 : Int32} {x3 : Int32} {x4 : Int32} {x5 : Int32} {x6 : Int32} {x7 : Int32} {u8 : Value} (h : (isO Y r0 8 ∧ (if (s.1 r0 9) ≤ x7 then (isO Y r0 8 ∧ (∃ a2, (isO Y r0 8 ∧ s.2 r0 0 = some a2) ∧ (∃ m4, (isA Y a2 0 m4 ∧ inR (s.1 r0 7) m4) ∧ (∃ a6, (isO Y r0 8 ∧ (pV s a2 ((s.1 r0 7)).toNatClampNeg x1).2 r0 1 = some a6) ∧ (isO Y r0 8 ∧ (∃ m8, (isA Y a6 0 m8 ∧ inR (s.1 r0 7) m8) ∧ (∃ a10, (isO Y r0 8 ∧ (pV (pV s a2 ((s.1 r0 7)).toNatClampNeg x1) a6 ((s.1 r0 7)).toNatClampNeg ((pV s a2 ((s.1 r0 7)).toNatClampNeg x1).1 r0 8)).2 r0 2 = some a10) ∧ (∃ m12, (isA Y a10 0 m12 ∧ inR (s.1 r0 7) m12) ∧ (∃ a14, (isO Y r0 8 ∧ (pV (pV (pV s a2 ((s.1 r0 7)).toNatClampNeg x1) a6 ((s.1 r0 7)).toNatClampNeg ((pV s a2 ((s.1 r0 7)).toNatClampNeg x1).1 r0 8)) a10 ((s.1 r0 7)).toNatClampNeg x3).2 r0 3 = some a14) ∧ (if ¬ x1 = (3 : Int32) then (if ¬ x1 = (1 : Int32) then tT Y d 101 184 [.ref r0, .int x1, .int x2, .int x3, .int x4, .int x5, .int x6, .int (s.1 r0 7), u8] [.int x5, .int (s.1 r0 7), .ref a14] (pV (pV (pV s a2 ((s.1 r0 7)).toNatClampNeg x1) a6 ((s.1 r0 7)).toNatClampNeg ((pV s a2 ((s.1 r0 7)).toNatClampNeg x1).1 r0 8)) a10 ((s.1 r0 7)).toNatClampNeg x3) K else tT Y d 101 184 [.ref r0, .int x1, .int x2, .int x3, .int x4, .int x5, .int x6, .int (s.1 r0 7), u8] [.int x4, .int (s.1 r0 7), .ref a14] (pV (pV (pV s a2 ((s.1 r0 7)).toNatClampNeg x1) a6 ((s.1 r0 7)).toNatClampNeg ((pV s a2 ((s.1 r0 7)).toNatClampNeg x1).1 r0 8)) a10 ((s.1 r0 7)).toNatClampNeg x3) K) else tT Y d 101 184 [.ref r0, .int x1, .int x2, .int x3, .int x4, .int x5, .int x6, .int (s.1 r0 7), u8] [.int (0 : Int32), .int (s.1 r0 7), .ref a14] (pV (pV (pV s a2 ((s.1 r0 7)).toNatClampNeg x1) a6 ((s.1 r0 7)).toNatClampNeg ((pV s a2 ((s.1 r0 7)).toNatClampNeg x1).1 r0 8)) a10 ((s.1 r0 7)).toNatClampNeg x3) K)))))))))) else (∃ a18, (isO Y r0 8 ∧ s.2 r0 6 = some a18) ∧ (∃ m20, (isA Y a18 0 m20 ∧ inR x7 m20) ∧ (∃ a22, (isO Y r0 8 ∧ s.2 r0 5 = some a22) ∧ (isO Y r0 8 ∧ (∃ m24, (isA Y a22 0 m24 ∧ inR (((s.1 r0 8) + x7) - x2) m24) ∧ (∃ a26, (isO Y r0 8 ∧ (pV s a22 ((((s.1 r0 8) + x7) - x2)).toNatClampNeg (s.1 a18 (x7).toNatClampNeg)).2 r0 3 = some a26) ∧ (∃ m28, (isA Y a26 0 m28 ∧ inR (s.1 a18 (x7).toNatClampNeg) m28) ∧ (∃ a30, (isO Y r0 8 ∧ (pV s a22 ((((s.1 r0 8) + x7) - x2)).toNatClampNeg (s.1 a18 (x7).toNatClampNeg)).2 r0 3 = some a30) ∧ (∃ m32, (isA Y a30 0 m32 ∧ inR (s.1 a18 (x7).toNatClampNeg) m32) ∧ (∃ a34, (isO Y r0 8 ∧ (pV s a22 ((((s.1 r0 8) + x7) - x2)).toNatClampNeg (s.1 a18 (x7).toNatClampNeg)).2 r0 4 = some a34) ∧ (∃ m36, (isA Y a34 0 m36 ∧ inR (s.1 a18 (x7).toNatClampNeg) m36) ∧ tT Y d 101 44 [.ref r0, .int x1, .int x2, .int x3, .int (if ((pV s a22 ((((s.1 r0 8) + x7) - x2)).toNatClampNeg (s.1 a18 (x7).toNatClampNeg)).1 a26 ((s.1 a18 (x7).toNatClampNeg)).toNatClampNeg) < x4 then ((pV s a22 ((((s.1 r0 8) + x7) - x2)).toNatClampNeg (s.1 a18 (x7).toNatClampNeg)).1 a26 ((s.1 a18 (x7).toNatClampNeg)).toNatClampNeg) else x4), .int (x5 + ((pV s a22 ((((s.1 r0 8) + x7) - x2)).toNatClampNeg (s.1 a18 (x7).toNatClampNeg)).1 a30 ((s.1 a18 (x7).toNatClampNeg)).toNatClampNeg)), .int (if x6 < ((pV s a22 ((((s.1 r0 8) + x7) - x2)).toNatClampNeg (s.1 a18 (x7).toNatClampNeg)).1 a34 ((s.1 a18 (x7).toNatClampNeg)).toNatClampNeg) then ((pV s a22 ((((s.1 r0 8) + x7) - x2)).toNatClampNeg (s.1 a18 (x7).toNatClampNeg)).1 a34 ((s.1 a18 (x7).toNatClampNeg)).toNatClampNeg) else x6), .int (x7 + 1), .int (s.1 a18 (x7).toNatClampNeg)] [] (pV s a22 ((((s.1 r0 8) + x7) - x2)).toNatClampNeg (s.1 a18 (x7).toNatClampNeg)) K)))))))))))))) : tT Y d 101 44 [.ref r0, .int x1, .int x2, .int x3, .int x4, .int x5, .int x6, .int x7, u8] [] s K :=
  (tt_iload (p_101_44 _ _) rfl).mpr ((tt_aload (p_101_46 _ _) rfl).mpr (t3_geti (p_101_47 _ _) (isI_8_9) h.1 (t3_cmp (p := (s.1 r0 9) ≤ x7) (p_101_50 _ _) rfl (fun g1 => (tt_aload (p_101_124 _ _) rfl).mpr (t3_geti (p_101_125 _ _) (isI_8_7) (ifp h.2 g1).1 ((tt_istore (p_101_128 _ _) (Nat.le_of_ble_eq_true rfl) rfl rfl).mpr ((tt_aload (p_101_130 _ _) rfl).mpr (Exists.elim (ifp h.2 g1).2 (fun a2 h3 => t3_getr (p_101_131 _ _) (isI_8_0) h3.1.1 h3.1.2 ((tt_iload (p_101_134 _ _) rfl).mpr ((tt_iload (p_101_136 _ _) rfl).mpr (Exists.elim h3.2 (fun m4 h5 => t3_ast (p_101_137 _ _) h5.1.1 h5.1.2 ((tt_aload (p_101_138 _ _) rfl).mpr (Exists.elim h5.2 (fun a6 h7 => t3_getr (p_101_139 _ _) (isI_8_1) h7.1.1 h7.1.2 ((tt_iload (p_101_142 _ _) rfl).mpr ((tt_aload (p_101_144 _ _) rfl).mpr (t3_geti (p_101_145 _ _) (isI_8_8) h7.2.1 (Exists.elim h7.2.2 (fun m8 h9 => t3_ast (p_101_148 _ _) h9.1.1 h9.1.2 ((tt_aload (p_101_149 _ _) rfl).mpr (Exists.elim h9.2 (fun a10 h11 => t3_getr (p_101_150 _ _) (isI_8_2) h11.1.1 h11.1.2 ((tt_iload (p_101_153 _ _) rfl).mpr ((tt_iload (p_101_155 _ _) rfl).mpr (Exists.elim h11.2 (fun m12 h13 => t3_ast (p_101_156 _ _) h13.1.1 h13.1.2 ((tt_aload (p_101_157 _ _) rfl).mpr (Exists.elim h13.2 (fun a14 h15 => t3_getr (p_101_158 _ _) (isI_8_3) h15.1.1 h15.1.2 ((tt_iload (p_101_161 _ _) rfl).mpr ((tt_iload (p_101_163 _ _) rfl).mpr ((tt_push (p_101_164 _ _)).mpr (t3_cmp (p := ¬ x1 = (3 : Int32)) (p_101_165 _ _) rfl (fun g16 => (tt_iload (p_101_172 _ _) rfl).mpr ((tt_push (p_101_173 _ _)).mpr (t3_cmp (p := ¬ x1 = (1 : Int32)) (p_101_174 _ _) rfl (fun g17 => (tt_iload (p_101_182 _ _) rfl).mpr ((ifp (ifp h15.2 g16) g17))) (fun g17 => (tt_iload (p_101_177 _ _) rfl).mpr ((tt_goto (p_101_179 _ _)).mpr ((ifn (ifp h15.2 g16) g17))))))) (fun g16 => (tt_push (p_101_168 _ _)).mpr ((tt_goto (p_101_169 _ _)).mpr ((ifn h15.2 g16)))))))))))))))))))))))))))))))))))) (fun g1 => (tt_aload (p_101_53 _ _) rfl).mpr (Exists.elim (ifn h.2 g1) (fun a18 h19 => t3_getr (p_101_54 _ _) (isI_8_6) h19.1.1 h19.1.2 ((tt_iload (p_101_57 _ _) rfl).mpr (Exists.elim h19.2 (fun m20 h21 => t3_ald (p_101_59 _ _) h21.1.1 h21.1.2 ((tt_istore (p_101_60 _ _) (Nat.le_of_ble_eq_true rfl) rfl rfl).mpr ((tt_aload (p_101_62 _ _) rfl).mpr (Exists.elim h21.2 (fun a22 h23 => t3_getr (p_101_63 _ _) (isI_8_5) h23.1.1 h23.1.2 ((tt_aload (p_101_66 _ _) rfl).mpr (t3_geti (p_101_67 _ _) (isI_8_8) h23.2.1 ((tt_iload (p_101_70 _ _) rfl).mpr ((tt_bin (p_101_72 _ _)).mpr ((tt_iload (p_101_73 _ _) rfl).mpr ((tt_bin (p_101_74 _ _)).mpr ((tt_iload (p_101_75 _ _) rfl).mpr (Exists.elim h23.2.2 (fun m24 h25 => t3_ast (p_101_77 _ _) h25.1.1 h25.1.2 ((tt_iload (p_101_78 _ _) rfl).mpr ((tt_aload (p_101_80 _ _) rfl).mpr (Exists.elim h25.2 (fun a26 h27 => t3_getr (p_101_81 _ _) (isI_8_3) h27.1.1 h27.1.2 ((tt_iload (p_101_84 _ _) rfl).mpr (Exists.elim h27.2 (fun m28 h29 => t3_ald (p_101_86 _ _) h29.1.1 h29.1.2 ((tt_mm (p_101_87 _ _) (Nat.le_of_ble_eq_true rfl)).mpr ((tt_istore (p_101_90 _ _) (Nat.le_of_ble_eq_true rfl) rfl rfl).mpr ((tt_iload (p_101_92 _ _) rfl).mpr ((tt_aload (p_101_94 _ _) rfl).mpr (Exists.elim h29.2 (fun a30 h31 => t3_getr (p_101_95 _ _) (isI_8_3) h31.1.1 h31.1.2 ((tt_iload (p_101_98 _ _) rfl).mpr (Exists.elim h31.2 (fun m32 h33 => t3_ald (p_101_100 _ _) h33.1.1 h33.1.2 ((tt_bin (p_101_101 _ _)).mpr ((tt_istore (p_101_102 _ _) (Nat.le_of_ble_eq_true rfl) rfl rfl).mpr ((tt_iload (p_101_104 _ _) rfl).mpr ((tt_aload (p_101_106 _ _) rfl).mpr (Exists.elim h33.2 (fun a34 h35 => t3_getr (p_101_107 _ _) (isI_8_4) h35.1.1 h35.1.2 ((tt_iload (p_101_110 _ _) rfl).mpr (Exists.elim h35.2 (fun m36 h37 => t3_ald (p_101_112 _ _) h37.1.1 h37.1.2 ((tt_mm (p_101_113 _ _) (Nat.le_of_ble_eq_true rfl)).mpr ((tt_istore (p_101_116 _ _) (Nat.le_of_ble_eq_true rfl) rfl rfl).mpr ((tt_iinc (p_101_118 _ _) rfl rfl rfl).mpr ((tt_goto (p_101_121 _ _)).mpr (h37.2))))))))))))))))))))))))))))))))))))))))))))))))))))
theorem b_101_184 {Y : sY} {d : Nat} {s : sT} {K : Option Int32 → sT → Prop} {r0 : Nat} {x1 : Int32} {x2 : Int32} {x3 : Int32} {x4 : Int32} {x5 : Int32} {x6 : Int32} {x7 : Int32} {u8 : Value} {t0 : Nat} {t1 : Int32} {t2 : Int32} (h : (∃ m1, (isA Y t0 0 m1 ∧ inR t1 m1) ∧ (∃ a3, (isO Y r0 8 ∧ (pV s t0 (t1).toNatClampNeg t2).2 r0 4 = some a3) ∧ (if ¬ x1 = (3 : Int32) then tT Y d 101 205 [.ref r0, .int x1, .int x2, .int x3, .int x4, .int x5, .int x6, .int x7, u8] [.int x6, .int x7, .ref a3] (pV s t0 (t1).toNatClampNeg t2) K else tT Y d 101 205 [.ref r0, .int x1, .int x2, .int x3, .int x4, .int x5, .int x6, .int x7, u8] [.int (x6 + (1 : Int32)), .int x7, .ref a3] (pV s t0 (t1).toNatClampNeg t2) K)))) : tT Y d 101 184 [.ref r0, .int x1, .int x2, .int x3, .int x4, .int x5, .int x6, .int x7, u8] [.int t2, .int t1, .ref t0] s K :=
  Exists.elim h (fun m1 h2 => t3_ast (p_101_184 _ _) h2.1.1 h2.1.2 ((tt_aload (p_101_185 _ _) rfl).mpr (Exists.elim h2.2 (fun a3 h4 => t3_getr (p_101_186 _ _) (isI_8_4) h4.1.1 h4.1.2 ((tt_iload (p_101_189 _ _) rfl).mpr ((tt_iload (p_101_191 _ _) rfl).mpr ((tt_push (p_101_192 _ _)).mpr (t3_cmp (p := ¬ x1 = (3 : Int32)) (p_101_193 _ _) rfl (fun g5 => (tt_iload (p_101_203 _ _) rfl).mpr ((ifp h4.2 g5))) (fun g5 => (tt_iload (p_101_196 _ _) rfl).mpr ((tt_push (p_101_198 _ _)).mpr ((tt_bin (p_101_199 _ _)).mpr ((tt_goto (p_101_200 _ _)).mpr ((ifn h4.2 g5))))))))))))))
theorem b_101_205 {Y : sY} {d : Nat} {s : sT} {K : Option Int32 → sT → Prop} {r0 : Nat} {x1 : Int32} {x2 : Int32} {x3 : Int32} {x4 : Int32} {x5 : Int32} {x6 : Int32} {x7 : Int32} {u8 : Value} {t0 : Nat} {t1 : Int32} {t2 : Int32} (h : (∃ m1, (isA Y t0 0 m1 ∧ inR t1 m1) ∧ (isO Y r0 8 ∧ (isO Y r0 8 ∧ (isO Y r0 8 ∧ (isO Y r0 8 ∧ K (some x7) (pV (pV (pV s t0 (t1).toNatClampNeg t2) r0 8 (((pV s t0 (t1).toNatClampNeg t2).1 r0 8) + x3)) r0 7 (((pV (pV s t0 (t1).toNatClampNeg t2) r0 8 (((pV s t0 (t1).toNatClampNeg t2).1 r0 8) + x3)).1 r0 7) + (1 : Int32))))))))) : tT Y d 101 205 [.ref r0, .int x1, .int x2, .int x3, .int x4, .int x5, .int x6, .int x7, u8] [.int t2, .int t1, .ref t0] s K :=
  Exists.elim h (fun m1 h2 => t3_ast (p_101_205 _ _) h2.1.1 h2.1.2 ((tt_aload (p_101_206 _ _) rfl).mpr ((tt_dupr (p_101_207 _ _)).mpr (t3_geti (p_101_208 _ _) (isI_8_8) h2.2.1 ((tt_iload (p_101_211 _ _) rfl).mpr ((tt_bin (p_101_212 _ _)).mpr ((t2_puti (p_101_213 _ _) isI_8_8 h2.2.2.1).mpr ((tt_aload (p_101_216 _ _) rfl).mpr ((tt_dupr (p_101_217 _ _)).mpr (t3_geti (p_101_218 _ _) (isI_8_7) h2.2.2.2.1 ((tt_push (p_101_221 _ _)).mpr ((tt_bin (p_101_222 _ _)).mpr ((t2_puti (p_101_223 _ _) isI_8_7 h2.2.2.2.2.1).mpr ((tt_iload (p_101_226 _ _) rfl).mpr (tt_ret1 (p_101_228 _ _) h2.2.2.2.2.2)))))))))))))))
/-! InclusionProver$WordCounter.<init>.(LInclusionProver$Side;LInclusionProver$Side;)V -/
theorem p_102_0 (L : Nat) (xs : Nat → Int32) : ll_P L xs 102 0 = some (.inl (lo_aload 1 0)) := (P_102 L xs 0).trans rfl
theorem p_102_1 (L : Nat) (xs : Nat → Int32) : ll_P L xs 102 1 = some (.inl (lo_init 4)) := (P_102 L xs 1).trans rfl
theorem p_102_4 (L : Nat) (xs : Nat → Int32) : ll_P L xs 102 4 = some (.inl (lo_aload 5 0)) := (P_102 L xs 4).trans rfl
theorem p_102_5 (L : Nat) (xs : Nat → Int32) : ll_P L xs 102 5 = some (.inl (lo_push 8 (.int 512))) := (P_102 L xs 5).trans rfl
theorem p_102_8 (L : Nat) (xs : Nat → Int32) : ll_P L xs 102 8 = some (.inl (lo_newa 10 0)) := (P_102 L xs 8).trans rfl
theorem p_102_10 (L : Nat) (xs : Nat → Int32) : ll_P L xs 102 10 = some (.inl (lo_putf 13 9 0 2)) := (P_102 L xs 10).trans rfl
theorem p_102_13 (L : Nat) (xs : Nat → Int32) : ll_P L xs 102 13 = some (.inl (lo_aload 14 0)) := (P_102 L xs 13).trans rfl
theorem p_102_14 (L : Nat) (xs : Nat → Int32) : ll_P L xs 102 14 = some (.inl (lo_push 17 (.int 512))) := (P_102 L xs 14).trans rfl
theorem p_102_17 (L : Nat) (xs : Nat → Int32) : ll_P L xs 102 17 = some (.inl (lo_newa 19 0)) := (P_102 L xs 17).trans rfl
theorem p_102_19 (L : Nat) (xs : Nat → Int32) : ll_P L xs 102 19 = some (.inl (lo_putf 22 9 1 2)) := (P_102 L xs 19).trans rfl
theorem p_102_22 (L : Nat) (xs : Nat → Int32) : ll_P L xs 102 22 = some (.inl (lo_aload 23 0)) := (P_102 L xs 22).trans rfl
theorem p_102_23 (L : Nat) (xs : Nat → Int32) : ll_P L xs 102 23 = some (.inl (lo_push 26 (.int 512))) := (P_102 L xs 23).trans rfl
theorem p_102_26 (L : Nat) (xs : Nat → Int32) : ll_P L xs 102 26 = some (.inl (lo_newa 28 0)) := (P_102 L xs 26).trans rfl
theorem p_102_28 (L : Nat) (xs : Nat → Int32) : ll_P L xs 102 28 = some (.inl (lo_putf 31 9 2 2)) := (P_102 L xs 28).trans rfl
theorem p_102_31 (L : Nat) (xs : Nat → Int32) : ll_P L xs 102 31 = some (.inl (lo_aload 32 0)) := (P_102 L xs 31).trans rfl
theorem p_102_32 (L : Nat) (xs : Nat → Int32) : ll_P L xs 102 32 = some (.inl (lo_push 35 (.int 512))) := (P_102 L xs 32).trans rfl
theorem p_102_35 (L : Nat) (xs : Nat → Int32) : ll_P L xs 102 35 = some (.inl (lo_newa 37 0)) := (P_102 L xs 35).trans rfl
theorem p_102_37 (L : Nat) (xs : Nat → Int32) : ll_P L xs 102 37 = some (.inl (lo_putf 40 9 3 2)) := (P_102 L xs 37).trans rfl
theorem p_102_40 (L : Nat) (xs : Nat → Int32) : ll_P L xs 102 40 = some (.inl (lo_aload 41 0)) := (P_102 L xs 40).trans rfl
theorem p_102_41 (L : Nat) (xs : Nat → Int32) : ll_P L xs 102 41 = some (.inl (lo_aload 42 1)) := (P_102 L xs 41).trans rfl
theorem p_102_42 (L : Nat) (xs : Nat → Int32) : ll_P L xs 102 42 = some (.inl (lo_putf 45 9 4 2)) := (P_102 L xs 42).trans rfl
theorem p_102_45 (L : Nat) (xs : Nat → Int32) : ll_P L xs 102 45 = some (.inl (lo_aload 46 0)) := (P_102 L xs 45).trans rfl
theorem p_102_46 (L : Nat) (xs : Nat → Int32) : ll_P L xs 102 46 = some (.inl (lo_aload 47 2)) := (P_102 L xs 46).trans rfl
theorem p_102_47 (L : Nat) (xs : Nat → Int32) : ll_P L xs 102 47 = some (.inl (lo_putf 50 9 5 2)) := (P_102 L xs 47).trans rfl
theorem p_102_50 (L : Nat) (xs : Nat → Int32) : ll_P L xs 102 50 = some (.inr (.inr 0)) := (P_102 L xs 50).trans rfl
/-! InclusionProver$WordCounter.howMany.(LInclusionProver$Side;LInclusionProver$Side;II)I -/
theorem p_103_0 (L : Nat) (xs : Nat → Int32) : ll_P L xs 103 0 = some (.inl (lo_aload 1 0)) := (P_103 L xs 0).trans rfl
theorem p_103_1 (L : Nat) (xs : Nat → Int32) : ll_P L xs 103 1 = some (.inl (lo_aload 2 1)) := (P_103 L xs 1).trans rfl
theorem p_103_2 (L : Nat) (xs : Nat → Int32) : ll_P L xs 103 2 = some (.inl (lo_aload 3 2)) := (P_103 L xs 2).trans rfl
theorem p_103_3 (L : Nat) (xs : Nat → Int32) : ll_P L xs 103 3 = some (.inl (lo_iload 4 3)) := (P_103 L xs 3).trans rfl
theorem p_103_4 (L : Nat) (xs : Nat → Int32) : ll_P L xs 103 4 = some (.inr (.inl (105, 4, 7))) := (P_103 L xs 4).trans rfl
theorem p_103_7 (L : Nat) (xs : Nat → Int32) : ll_P L xs 103 7 = some (.inl (lo_aload 8 0)) := (P_103 L xs 7).trans rfl
theorem p_103_8 (L : Nat) (xs : Nat → Int32) : ll_P L xs 103 8 = some (.inl (lo_aload 9 0)) := (P_103 L xs 8).trans rfl
theorem p_103_9 (L : Nat) (xs : Nat → Int32) : ll_P L xs 103 9 = some (.inr (.inl (106, 1, 12))) := (P_103 L xs 9).trans rfl
theorem p_103_12 (L : Nat) (xs : Nat → Int32) : ll_P L xs 103 12 = some (.inl (lo_aload 13 0)) := (P_103 L xs 12).trans rfl
theorem p_103_13 (L : Nat) (xs : Nat → Int32) : ll_P L xs 103 13 = some (.inr (.inl (107, 1, 16))) := (P_103 L xs 13).trans rfl
theorem p_103_16 (L : Nat) (xs : Nat → Int32) : ll_P L xs 103 16 = some (.inl (lo_iload 18 4)) := (P_103 L xs 16).trans rfl
theorem p_103_18 (L : Nat) (xs : Nat → Int32) : ll_P L xs 103 18 = some (.inr (.inl (109, 4, 21))) := (P_103 L xs 18).trans rfl
theorem p_103_21 (L : Nat) (xs : Nat → Int32) : ll_P L xs 103 21 = some (.inr (.inr 1)) := (P_103 L xs 21).trans rfl
theorem b_103_0 {Y : sY} {d : Nat} {s : sT} {K : Option Int32 → sT → Prop} {r0 : Nat} {r1 : Nat} {r2 : Nat} {x3 : Int32} {x4 : Int32} (h : (isO Y r0 9 ∧ tT Y d 105 0 [.ref r0, .ref r1, .ref r2, .int x3] [] s (fun r s1 => tT Y (d + 1) 103 7 [.ref r0, .ref r1, .ref r2, .int x3, .int x4] ((r.map Value.int).toList ++ []) s1 K))) : tT Y (d + 1) 103 0 [.ref r0, .ref r1, .ref r2, .int x3, .int x4] [] s K :=
  (tt_aload (p_103_0 _ _) rfl).mpr ((tt_aload (p_103_1 _ _) rfl).mpr ((tt_aload (p_103_2 _ _) rfl).mpr ((tt_iload (p_103_3 _ _) rfl).mpr (t2_callv (z := 105) (k := 4) (i := r0) (as := [.ref r1, .ref r2, .int x3]) (rest := []) (p_103_4 _ _) mK_105 mL_105 rfl rfl (Nat.le_of_ble_eq_true rfl) rfl (Nat.le_of_ble_eq_true rfl) h.1 h.2))))
theorem b_103_7 {Y : sY} {d : Nat} {s : sT} {K : Option Int32 → sT → Prop} {r0 : Nat} {r1 : Nat} {r2 : Nat} {x3 : Int32} {x4 : Int32} (h : (isO Y r0 9 ∧ tT Y d 106 0 [.ref r0] [] s (fun r s1 => tT Y (d + 1) 103 12 [.ref r0, .ref r1, .ref r2, .int x3, .int x4] ((r.map Value.int).toList ++ [.ref r0]) s1 K))) : tT Y (d + 1) 103 7 [.ref r0, .ref r1, .ref r2, .int x3, .int x4] [] s K :=
  (tt_aload (p_103_7 _ _) rfl).mpr ((tt_aload (p_103_8 _ _) rfl).mpr (t2_callv (z := 106) (k := 1) (i := r0) (as := []) (rest := [.ref r0]) (p_103_9 _ _) mK_106 mL_106 rfl rfl (Nat.le_of_ble_eq_true rfl) rfl (Nat.le_of_ble_eq_true rfl) h.1 h.2))
theorem b_103_12 {Y : sY} {d : Nat} {s : sT} {K : Option Int32 → sT → Prop} {r0 : Nat} {r1 : Nat} {r2 : Nat} {x3 : Int32} {x4 : Int32} {t0 : Nat} {t1 : Int32} (h : (isO Y r0 9 ∧ tT Y d 107 0 [.ref r0] [] s (fun r s1 => tT Y (d + 1) 103 16 [.ref r0, .ref r1, .ref r2, .int x3, .int x4] ((r.map Value.int).toList ++ [.int t1, .ref t0]) s1 K))) : tT Y (d + 1) 103 12 [.ref r0, .ref r1, .ref r2, .int x3, .int x4] [.int t1, .ref t0] s K :=
  (tt_aload (p_103_12 _ _) rfl).mpr (t2_callv (z := 107) (k := 1) (i := r0) (as := []) (rest := [.int t1, .ref t0]) (p_103_13 _ _) mK_107 mL_107 rfl rfl (Nat.le_of_ble_eq_true rfl) rfl (Nat.le_of_ble_eq_true rfl) h.1 h.2)
theorem b_103_16 {Y : sY} {d : Nat} {s : sT} {K : Option Int32 → sT → Prop} {r0 : Nat} {r1 : Nat} {r2 : Nat} {x3 : Int32} {x4 : Int32} {t0 : Nat} {t1 : Int32} {t2 : Int32} (h : (isO Y t0 9 ∧ tT Y d 109 0 [.ref t0, .int t1, .int t2, .int x4, .null, .null, .null] [] s (fun r s1 => tT Y (d + 1) 103 21 [.ref r0, .ref r1, .ref r2, .int x3, .int x4] ((r.map Value.int).toList ++ []) s1 K))) : tT Y (d + 1) 103 16 [.ref r0, .ref r1, .ref r2, .int x3, .int x4] [.int t2, .int t1, .ref t0] s K :=
  (tt_iload (p_103_16 _ _) rfl).mpr (t2_callv (z := 109) (k := 4) (i := t0) (as := [.int t1, .int t2, .int x4]) (rest := []) (p_103_18 _ _) mK_109 mL_109 rfl rfl (Nat.le_of_ble_eq_true rfl) rfl (Nat.le_of_ble_eq_true rfl) h.1 h.2)
theorem b_103_21 {Y : sY} {d : Nat} {s : sT} {K : Option Int32 → sT → Prop} {r0 : Nat} {r1 : Nat} {r2 : Nat} {x3 : Int32} {x4 : Int32} {t0 : Int32} (h : K (some t0) s) : tT Y (d + 1) 103 21 [.ref r0, .ref r1, .ref r2, .int x3, .int x4] [.int t0] s K :=
  tt_ret1 (p_103_21 _ _) h
/-! InclusionProver$WordCounter.nth.(LInclusionProver$Side;LInclusionProver$Side;III)I -/
theorem p_104_0 (L : Nat) (xs : Nat → Int32) : ll_P L xs 104 0 = some (.inl (lo_iload 2 5)) := (P_104 L xs 0).trans rfl
theorem p_104_2 (L : Nat) (xs : Nat → Int32) : ll_P L xs 104 2 = some (.inl (lo_aload 3 0)) := (P_104 L xs 2).trans rfl
theorem p_104_3 (L : Nat) (xs : Nat → Int32) : ll_P L xs 104 3 = some (.inl (lo_aload 4 1)) := (P_104 L xs 3).trans rfl
theorem p_104_4 (L : Nat) (xs : Nat → Int32) : ll_P L xs 104 4 = some (.inl (lo_aload 5 2)) := (P_104 L xs 4).trans rfl
theorem p_104_5 (L : Nat) (xs : Nat → Int32) : ll_P L xs 104 5 = some (.inl (lo_iload 6 3)) := (P_104 L xs 5).trans rfl
theorem p_104_6 (L : Nat) (xs : Nat → Int32) : ll_P L xs 104 6 = some (.inl (lo_iload 8 4)) := (P_104 L xs 6).trans rfl
theorem p_104_8 (L : Nat) (xs : Nat → Int32) : ll_P L xs 104 8 = some (.inr (.inl (103, 5, 11))) := (P_104 L xs 8).trans rfl
theorem p_104_11 (L : Nat) (xs : Nat → Int32) : ll_P L xs 104 11 = some (.inl (lo_cmp 16 14 (fun x y => decide (x < y)))) := (P_104 L xs 11).trans rfl
theorem p_104_14 (L : Nat) (xs : Nat → Int32) : ll_P L xs 104 14 = some (.inl (lo_push 15 (.int (-1)))) := (P_104 L xs 14).trans rfl
theorem p_104_15 (L : Nat) (xs : Nat → Int32) : ll_P L xs 104 15 = some (.inr (.inr 1)) := (P_104 L xs 15).trans rfl
theorem p_104_16 (L : Nat) (xs : Nat → Int32) : ll_P L xs 104 16 = some (.inl (lo_aload 17 0)) := (P_104 L xs 16).trans rfl
theorem p_104_17 (L : Nat) (xs : Nat → Int32) : ll_P L xs 104 17 = some (.inr (.inl (106, 1, 20))) := (P_104 L xs 17).trans rfl
theorem p_104_20 (L : Nat) (xs : Nat → Int32) : ll_P L xs 104 20 = some (.inl (lo_istore 22 6)) := (P_104 L xs 20).trans rfl
theorem p_104_22 (L : Nat) (xs : Nat → Int32) : ll_P L xs 104 22 = some (.inl (lo_aload 23 0)) := (P_104 L xs 22).trans rfl
theorem p_104_23 (L : Nat) (xs : Nat → Int32) : ll_P L xs 104 23 = some (.inr (.inl (107, 1, 26))) := (P_104 L xs 23).trans rfl
theorem p_104_26 (L : Nat) (xs : Nat → Int32) : ll_P L xs 104 26 = some (.inl (lo_istore 28 7)) := (P_104 L xs 26).trans rfl
theorem p_104_28 (L : Nat) (xs : Nat → Int32) : ll_P L xs 104 28 = some (.inl (lo_iload 30 5)) := (P_104 L xs 28).trans rfl
theorem p_104_30 (L : Nat) (xs : Nat → Int32) : ll_P L xs 104 30 = some (.inl (lo_istore 32 8)) := (P_104 L xs 30).trans rfl
theorem p_104_32 (L : Nat) (xs : Nat → Int32) : ll_P L xs 104 32 = some (.inl (lo_push 33 (.int 0))) := (P_104 L xs 32).trans rfl
theorem p_104_33 (L : Nat) (xs : Nat → Int32) : ll_P L xs 104 33 = some (.inl (lo_istore 35 9)) := (P_104 L xs 33).trans rfl
theorem p_104_35 (L : Nat) (xs : Nat → Int32) : ll_P L xs 104 35 = some (.inl (lo_iload 37 4)) := (P_104 L xs 35).trans rfl
theorem p_104_37 (L : Nat) (xs : Nat → Int32) : ll_P L xs 104 37 = some (.inl (lo_push 38 (.int 1))) := (P_104 L xs 37).trans rfl
theorem p_104_38 (L : Nat) (xs : Nat → Int32) : ll_P L xs 104 38 = some (.inl (lo_bin 39 (fun x y => x - y))) := (P_104 L xs 38).trans rfl
theorem p_104_39 (L : Nat) (xs : Nat → Int32) : ll_P L xs 104 39 = some (.inl (lo_istore 41 10)) := (P_104 L xs 39).trans rfl
theorem p_104_41 (L : Nat) (xs : Nat → Int32) : ll_P L xs 104 41 = some (.inl (lo_iload 43 10)) := (P_104 L xs 41).trans rfl
theorem p_104_43 (L : Nat) (xs : Nat → Int32) : ll_P L xs 104 43 = some (.inl (lo_if 146 46 (fun x => decide (x < 0)))) := (P_104 L xs 43).trans rfl
theorem p_104_46 (L : Nat) (xs : Nat → Int32) : ll_P L xs 104 46 = some (.inl (lo_push 47 (.int 0))) := (P_104 L xs 46).trans rfl
theorem p_104_47 (L : Nat) (xs : Nat → Int32) : ll_P L xs 104 47 = some (.inl (lo_istore 49 11)) := (P_104 L xs 47).trans rfl
theorem p_104_49 (L : Nat) (xs : Nat → Int32) : ll_P L xs 104 49 = some (.inl (lo_aload 50 0)) := (P_104 L xs 49).trans rfl
theorem p_104_50 (L : Nat) (xs : Nat → Int32) : ll_P L xs 104 50 = some (.inl (lo_iload 52 6)) := (P_104 L xs 50).trans rfl
theorem p_104_52 (L : Nat) (xs : Nat → Int32) : ll_P L xs 104 52 = some (.inl (lo_iload 54 7)) := (P_104 L xs 52).trans rfl
theorem p_104_54 (L : Nat) (xs : Nat → Int32) : ll_P L xs 104 54 = some (.inl (lo_iload 56 11)) := (P_104 L xs 54).trans rfl
theorem p_104_56 (L : Nat) (xs : Nat → Int32) : ll_P L xs 104 56 = some (.inl (lo_iload 58 10)) := (P_104 L xs 56).trans rfl
theorem p_104_58 (L : Nat) (xs : Nat → Int32) : ll_P L xs 104 58 = some (.inr (.inl (108, 5, 61))) := (P_104 L xs 58).trans rfl
theorem p_104_61 (L : Nat) (xs : Nat → Int32) : ll_P L xs 104 61 = some (.inl (lo_istore 63 12)) := (P_104 L xs 61).trans rfl
theorem p_104_63 (L : Nat) (xs : Nat → Int32) : ll_P L xs 104 63 = some (.inl (lo_iload 65 11)) := (P_104 L xs 63).trans rfl
theorem p_104_65 (L : Nat) (xs : Nat → Int32) : ll_P L xs 104 65 = some (.inl (lo_push 66 (.int 2))) := (P_104 L xs 65).trans rfl
theorem p_104_66 (L : Nat) (xs : Nat → Int32) : ll_P L xs 104 66 = some (.inl (lo_cmp 103 69 (fun x y => decide (y ≤ x)))) := (P_104 L xs 66).trans rfl
theorem p_104_69 (L : Nat) (xs : Nat → Int32) : ll_P L xs 104 69 = some (.inl (lo_iload 71 8)) := (P_104 L xs 69).trans rfl
theorem p_104_71 (L : Nat) (xs : Nat → Int32) : ll_P L xs 104 71 = some (.inl (lo_iload 73 12)) := (P_104 L xs 71).trans rfl
theorem p_104_73 (L : Nat) (xs : Nat → Int32) : ll_P L xs 104 73 = some (.inl (lo_cmp 103 76 (fun x y => decide (x < y)))) := (P_104 L xs 73).trans rfl
theorem p_104_76 (L : Nat) (xs : Nat → Int32) : ll_P L xs 104 76 = some (.inl (lo_iload 78 8)) := (P_104 L xs 76).trans rfl
theorem p_104_78 (L : Nat) (xs : Nat → Int32) : ll_P L xs 104 78 = some (.inl (lo_iload 80 12)) := (P_104 L xs 78).trans rfl
theorem p_104_80 (L : Nat) (xs : Nat → Int32) : ll_P L xs 104 80 = some (.inl (lo_bin 81 (fun x y => x - y))) := (P_104 L xs 80).trans rfl
theorem p_104_81 (L : Nat) (xs : Nat → Int32) : ll_P L xs 104 81 = some (.inl (lo_istore 83 8)) := (P_104 L xs 81).trans rfl
theorem p_104_83 (L : Nat) (xs : Nat → Int32) : ll_P L xs 104 83 = some (.inl (lo_iinc 86 11 1)) := (P_104 L xs 83).trans rfl
theorem p_104_86 (L : Nat) (xs : Nat → Int32) : ll_P L xs 104 86 = some (.inl (lo_aload 87 0)) := (P_104 L xs 86).trans rfl
theorem p_104_87 (L : Nat) (xs : Nat → Int32) : ll_P L xs 104 87 = some (.inl (lo_iload 89 6)) := (P_104 L xs 87).trans rfl
theorem p_104_89 (L : Nat) (xs : Nat → Int32) : ll_P L xs 104 89 = some (.inl (lo_iload 91 7)) := (P_104 L xs 89).trans rfl
theorem p_104_91 (L : Nat) (xs : Nat → Int32) : ll_P L xs 104 91 = some (.inl (lo_iload 93 11)) := (P_104 L xs 91).trans rfl
theorem p_104_93 (L : Nat) (xs : Nat → Int32) : ll_P L xs 104 93 = some (.inl (lo_iload 95 10)) := (P_104 L xs 93).trans rfl
theorem p_104_95 (L : Nat) (xs : Nat → Int32) : ll_P L xs 104 95 = some (.inr (.inl (108, 5, 98))) := (P_104 L xs 95).trans rfl
theorem p_104_98 (L : Nat) (xs : Nat → Int32) : ll_P L xs 104 98 = some (.inl (lo_istore 100 12)) := (P_104 L xs 98).trans rfl
theorem p_104_100 (L : Nat) (xs : Nat → Int32) : ll_P L xs 104 100 = some (.inl (lo_goto 63)) := (P_104 L xs 100).trans rfl
theorem p_104_103 (L : Nat) (xs : Nat → Int32) : ll_P L xs 104 103 = some (.inl (lo_iload 105 9)) := (P_104 L xs 103).trans rfl
theorem p_104_105 (L : Nat) (xs : Nat → Int32) : ll_P L xs 104 105 = some (.inl (lo_push 106 (.int 4))) := (P_104 L xs 105).trans rfl
theorem p_104_106 (L : Nat) (xs : Nat → Int32) : ll_P L xs 104 106 = some (.inl (lo_bin 107 (fun x y => x * y))) := (P_104 L xs 106).trans rfl
theorem p_104_107 (L : Nat) (xs : Nat → Int32) : ll_P L xs 104 107 = some (.inl (lo_iload 109 11)) := (P_104 L xs 107).trans rfl
theorem p_104_109 (L : Nat) (xs : Nat → Int32) : ll_P L xs 104 109 = some (.inl (lo_bin 110 (fun x y => x + y))) := (P_104 L xs 109).trans rfl
theorem p_104_110 (L : Nat) (xs : Nat → Int32) : ll_P L xs 104 110 = some (.inl (lo_push 111 (.int 1))) := (P_104 L xs 110).trans rfl
theorem p_104_111 (L : Nat) (xs : Nat → Int32) : ll_P L xs 104 111 = some (.inl (lo_bin 112 (fun x y => x + y))) := (P_104 L xs 111).trans rfl
theorem p_104_112 (L : Nat) (xs : Nat → Int32) : ll_P L xs 104 112 = some (.inl (lo_istore 114 9)) := (P_104 L xs 112).trans rfl
theorem p_104_114 (L : Nat) (xs : Nat → Int32) : ll_P L xs 104 114 = some (.inl (lo_aload 115 0)) := (P_104 L xs 114).trans rfl
theorem p_104_115 (L : Nat) (xs : Nat → Int32) : ll_P L xs 104 115 = some (.inl (lo_getf 118 9 4)) := (P_104 L xs 115).trans rfl
theorem p_104_118 (L : Nat) (xs : Nat → Int32) : ll_P L xs 104 118 = some (.inl (lo_iload 120 6)) := (P_104 L xs 118).trans rfl
theorem p_104_120 (L : Nat) (xs : Nat → Int32) : ll_P L xs 104 120 = some (.inl (lo_iload 122 11)) := (P_104 L xs 120).trans rfl
theorem p_104_122 (L : Nat) (xs : Nat → Int32) : ll_P L xs 104 122 = some (.inr (.inl (54, 3, 125))) := (P_104 L xs 122).trans rfl
theorem p_104_125 (L : Nat) (xs : Nat → Int32) : ll_P L xs 104 125 = some (.inl (lo_istore 127 6)) := (P_104 L xs 125).trans rfl
theorem p_104_127 (L : Nat) (xs : Nat → Int32) : ll_P L xs 104 127 = some (.inl (lo_aload 128 0)) := (P_104 L xs 127).trans rfl
theorem p_104_128 (L : Nat) (xs : Nat → Int32) : ll_P L xs 104 128 = some (.inl (lo_getf 131 9 5)) := (P_104 L xs 128).trans rfl
theorem p_104_131 (L : Nat) (xs : Nat → Int32) : ll_P L xs 104 131 = some (.inl (lo_iload 133 7)) := (P_104 L xs 131).trans rfl
theorem p_104_133 (L : Nat) (xs : Nat → Int32) : ll_P L xs 104 133 = some (.inl (lo_iload 135 11)) := (P_104 L xs 133).trans rfl
theorem p_104_135 (L : Nat) (xs : Nat → Int32) : ll_P L xs 104 135 = some (.inr (.inl (54, 3, 138))) := (P_104 L xs 135).trans rfl
theorem p_104_138 (L : Nat) (xs : Nat → Int32) : ll_P L xs 104 138 = some (.inl (lo_istore 140 7)) := (P_104 L xs 138).trans rfl
theorem p_104_140 (L : Nat) (xs : Nat → Int32) : ll_P L xs 104 140 = some (.inl (lo_iinc 143 10 (-1))) := (P_104 L xs 140).trans rfl
theorem p_104_143 (L : Nat) (xs : Nat → Int32) : ll_P L xs 104 143 = some (.inl (lo_goto 41)) := (P_104 L xs 143).trans rfl
theorem p_104_146 (L : Nat) (xs : Nat → Int32) : ll_P L xs 104 146 = some (.inl (lo_iload 148 9)) := (P_104 L xs 146).trans rfl
theorem p_104_148 (L : Nat) (xs : Nat → Int32) : ll_P L xs 104 148 = some (.inr (.inr 1)) := (P_104 L xs 148).trans rfl
theorem b_104_0 {Y : sY} {d : Nat} {s : sT} {K : Option Int32 → sT → Prop} {r0 : Nat} {r1 : Nat} {r2 : Nat} {x3 : Int32} {x4 : Int32} {x5 : Int32} (h : (isO Y r0 9 ∧ tT Y d 103 0 [.ref r0, .ref r1, .ref r2, .int x3, .int x4] [] s (fun r s1 => tT Y (d + 1) 104 11 [.ref r0, .ref r1, .ref r2, .int x3, .int x4, .int x5, .null, .null, .null, .null, .null, .null, .null] ((r.map Value.int).toList ++ [.int x5]) s1 K))) : tT Y (d + 1) 104 0 [.ref r0, .ref r1, .ref r2, .int x3, .int x4, .int x5, .null, .null, .null, .null, .null, .null, .null] [] s K :=
  (tt_iload (p_104_0 _ _) rfl).mpr ((tt_aload (p_104_2 _ _) rfl).mpr ((tt_aload (p_104_3 _ _) rfl).mpr ((tt_aload (p_104_4 _ _) rfl).mpr ((tt_iload (p_104_5 _ _) rfl).mpr ((tt_iload (p_104_6 _ _) rfl).mpr (t2_callv (z := 103) (k := 5) (i := r0) (as := [.ref r1, .ref r2, .int x3, .int x4]) (rest := [.int x5]) (p_104_8 _ _) mK_103 mL_103 rfl rfl (Nat.le_of_ble_eq_true rfl) rfl (Nat.le_of_ble_eq_true rfl) h.1 h.2))))))
theorem b_104_11 {Y : sY} {d : Nat} {s : sT} {K : Option Int32 → sT → Prop} {r0 : Nat} {r1 : Nat} {r2 : Nat} {x3 : Int32} {x4 : Int32} {x5 : Int32} {t0 : Int32} {t1 : Int32} (h : (if t0 < t1 then (isO Y r0 9 ∧ tT Y d 106 0 [.ref r0] [] s (fun r s1 => tT Y (d + 1) 104 20 [.ref r0, .ref r1, .ref r2, .int x3, .int x4, .int x5, .null, .null, .null, .null, .null, .null, .null] ((r.map Value.int).toList ++ []) s1 K)) else K (some (-1 : Int32)) s)) : tT Y (d + 1) 104 11 [.ref r0, .ref r1, .ref r2, .int x3, .int x4, .int x5, .null, .null, .null, .null, .null, .null, .null] [.int t1, .int t0] s K :=
  t3_cmp (p := t0 < t1) (p_104_11 _ _) rfl (fun g1 => (tt_aload (p_104_16 _ _) rfl).mpr (t2_callv (z := 106) (k := 1) (i := r0) (as := []) (rest := []) (p_104_17 _ _) mK_106 mL_106 rfl rfl (Nat.le_of_ble_eq_true rfl) rfl (Nat.le_of_ble_eq_true rfl) (ifp h g1).1 (ifp h g1).2)) (fun g1 => (tt_push (p_104_14 _ _)).mpr (tt_ret1 (p_104_15 _ _) (ifn h g1)))
theorem b_104_20 {Y : sY} {d : Nat} {s : sT} {K : Option Int32 → sT → Prop} {r0 : Nat} {r1 : Nat} {r2 : Nat} {x3 : Int32} {x4 : Int32} {x5 : Int32} {t0 : Int32} (h : (isO Y r0 9 ∧ tT Y d 107 0 [.ref r0] [] s (fun r s1 => tT Y (d + 1) 104 26 [.ref r0, .ref r1, .ref r2, .int x3, .int x4, .int x5, .int t0, .null, .null, .null, .null, .null, .null] ((r.map Value.int).toList ++ []) s1 K))) : tT Y (d + 1) 104 20 [.ref r0, .ref r1, .ref r2, .int x3, .int x4, .int x5, .null, .null, .null, .null, .null, .null, .null] [.int t0] s K :=
  (tt_istore (p_104_20 _ _) (Nat.le_of_ble_eq_true rfl) rfl rfl).mpr ((tt_aload (p_104_22 _ _) rfl).mpr (t2_callv (z := 107) (k := 1) (i := r0) (as := []) (rest := []) (p_104_23 _ _) mK_107 mL_107 rfl rfl (Nat.le_of_ble_eq_true rfl) rfl (Nat.le_of_ble_eq_true rfl) h.1 h.2))
theorem b_104_26 {Y : sY} {d : Nat} {s : sT} {K : Option Int32 → sT → Prop} {r0 : Nat} {r1 : Nat} {r2 : Nat} {x3 : Int32} {x4 : Int32} {x5 : Int32} {x6 : Int32} {t0 : Int32} (h : tT Y (d + 1) 104 41 [.ref r0, .ref r1, .ref r2, .int x3, .int x4, .int x5, .int x6, .int t0, .int x5, .int (0 : Int32), .int (x4 - (1 : Int32)), .null, .null] [] s K) : tT Y (d + 1) 104 26 [.ref r0, .ref r1, .ref r2, .int x3, .int x4, .int x5, .int x6, .null, .null, .null, .null, .null, .null] [.int t0] s K :=
  (tt_istore (p_104_26 _ _) (Nat.le_of_ble_eq_true rfl) rfl rfl).mpr ((tt_iload (p_104_28 _ _) rfl).mpr ((tt_istore (p_104_30 _ _) (Nat.le_of_ble_eq_true rfl) rfl rfl).mpr ((tt_push (p_104_32 _ _)).mpr ((tt_istore (p_104_33 _ _) (Nat.le_of_ble_eq_true rfl) rfl rfl).mpr ((tt_iload (p_104_35 _ _) rfl).mpr ((tt_push (p_104_37 _ _)).mpr ((tt_bin (p_104_38 _ _)).mpr ((tt_istore (p_104_39 _ _) (Nat.le_of_ble_eq_true rfl) rfl rfl).mpr (h)))))))))
theorem b_104_41 {Y : sY} {d : Nat} {s : sT} {K : Option Int32 → sT → Prop} {r0 : Nat} {r1 : Nat} {r2 : Nat} {x3 : Int32} {x4 : Int32} {x5 : Int32} {x6 : Int32} {x7 : Int32} {x8 : Int32} {x9 : Int32} {x10 : Int32} {u11 : Value} {u12 : Value} (h : (if x10 < 0 then K (some x9) s else (isO Y r0 9 ∧ tT Y d 108 0 [.ref r0, .int x6, .int x7, .int (0 : Int32), .int x10] [] s (fun r s1 => tT Y (d + 1) 104 61 [.ref r0, .ref r1, .ref r2, .int x3, .int x4, .int x5, .int x6, .int x7, .int x8, .int x9, .int x10, .int (0 : Int32), u12] ((r.map Value.int).toList ++ []) s1 K)))) : tT Y (d + 1) 104 41 [.ref r0, .ref r1, .ref r2, .int x3, .int x4, .int x5, .int x6, .int x7, .int x8, .int x9, .int x10, u11, u12] [] s K :=
  (tt_iload (p_104_41 _ _) rfl).mpr (t3_if (p := x10 < 0) (p_104_43 _ _) rfl (fun g1 => (tt_iload (p_104_146 _ _) rfl).mpr (tt_ret1 (p_104_148 _ _) (ifp h g1))) (fun g1 => (tt_push (p_104_46 _ _)).mpr ((tt_istore (p_104_47 _ _) (Nat.le_of_ble_eq_true rfl) rfl rfl).mpr ((tt_aload (p_104_49 _ _) rfl).mpr ((tt_iload (p_104_50 _ _) rfl).mpr ((tt_iload (p_104_52 _ _) rfl).mpr ((tt_iload (p_104_54 _ _) rfl).mpr ((tt_iload (p_104_56 _ _) rfl).mpr (t2_callv (z := 108) (k := 5) (i := r0) (as := [.int x6, .int x7, .int (0 : Int32), .int x10]) (rest := []) (p_104_58 _ _) mK_108 mL_108 rfl rfl (Nat.le_of_ble_eq_true rfl) rfl (Nat.le_of_ble_eq_true rfl) (ifn h g1).1 (ifn h g1).2)))))))))
theorem b_104_61 {Y : sY} {d : Nat} {s : sT} {K : Option Int32 → sT → Prop} {r0 : Nat} {r1 : Nat} {r2 : Nat} {x3 : Int32} {x4 : Int32} {x5 : Int32} {x6 : Int32} {x7 : Int32} {x8 : Int32} {x9 : Int32} {x10 : Int32} {x11 : Int32} {u12 : Value} {t0 : Int32} (h : tT Y (d + 1) 104 63 [.ref r0, .ref r1, .ref r2, .int x3, .int x4, .int x5, .int x6, .int x7, .int x8, .int x9, .int x10, .int x11, .int t0] [] s K) : tT Y (d + 1) 104 61 [.ref r0, .ref r1, .ref r2, .int x3, .int x4, .int x5, .int x6, .int x7, .int x8, .int x9, .int x10, .int x11, u12] [.int t0] s K :=
  (tt_istore (p_104_61 _ _) (Nat.le_of_ble_eq_true rfl) rfl rfl).mpr (h)
theorem b_104_63 {Y : sY} {d : Nat} {s : sT} {K : Option Int32 → sT → Prop} {r0 : Nat} {r1 : Nat} {r2 : Nat} {x3 : Int32} {x4 : Int32} {x5 : Int32} {x6 : Int32} {x7 : Int32} {x8 : Int32} {x9 : Int32} {x10 : Int32} {x11 : Int32} {x12 : Int32} (h : (if (2 : Int32) ≤ x11 then tT Y (d + 1) 104 103 [.ref r0, .ref r1, .ref r2, .int x3, .int x4, .int x5, .int x6, .int x7, .int x8, .int x9, .int x10, .int x11, .int x12] [] s K else (if x8 < x12 then tT Y (d + 1) 104 103 [.ref r0, .ref r1, .ref r2, .int x3, .int x4, .int x5, .int x6, .int x7, .int x8, .int x9, .int x10, .int x11, .int x12] [] s K else (isO Y r0 9 ∧ tT Y d 108 0 [.ref r0, .int x6, .int x7, .int (x11 + 1), .int x10] [] s (fun r s1 => tT Y (d + 1) 104 98 [.ref r0, .ref r1, .ref r2, .int x3, .int x4, .int x5, .int x6, .int x7, .int (x8 - x12), .int x9, .int x10, .int (x11 + 1), .int x12] ((r.map Value.int).toList ++ []) s1 K))))) : tT Y (d + 1) 104 63 [.ref r0, .ref r1, .ref r2, .int x3, .int x4, .int x5, .int x6, .int x7, .int x8, .int x9, .int x10, .int x11, .int x12] [] s K :=
  (tt_iload (p_104_63 _ _) rfl).mpr ((tt_push (p_104_65 _ _)).mpr (t3_cmp (p := (2 : Int32) ≤ x11) (p_104_66 _ _) rfl (fun g1 => (ifp h g1)) (fun g1 => (tt_iload (p_104_69 _ _) rfl).mpr ((tt_iload (p_104_71 _ _) rfl).mpr (t3_cmp (p := x8 < x12) (p_104_73 _ _) rfl (fun g2 => (ifp (ifn h g1) g2)) (fun g2 => (tt_iload (p_104_76 _ _) rfl).mpr ((tt_iload (p_104_78 _ _) rfl).mpr ((tt_bin (p_104_80 _ _)).mpr ((tt_istore (p_104_81 _ _) (Nat.le_of_ble_eq_true rfl) rfl rfl).mpr ((tt_iinc (p_104_83 _ _) rfl rfl rfl).mpr ((tt_aload (p_104_86 _ _) rfl).mpr ((tt_iload (p_104_87 _ _) rfl).mpr ((tt_iload (p_104_89 _ _) rfl).mpr ((tt_iload (p_104_91 _ _) rfl).mpr ((tt_iload (p_104_93 _ _) rfl).mpr (t2_callv (z := 108) (k := 5) (i := r0) (as := [.int x6, .int x7, .int (x11 + 1), .int x10]) (rest := []) (p_104_95 _ _) mK_108 mL_108 rfl rfl (Nat.le_of_ble_eq_true rfl) rfl (Nat.le_of_ble_eq_true rfl) (ifn (ifn h g1) g2).1 (ifn (ifn h g1) g2).2))))))))))))))))
theorem b_104_98 {Y : sY} {d : Nat} {s : sT} {K : Option Int32 → sT → Prop} {r0 : Nat} {r1 : Nat} {r2 : Nat} {x3 : Int32} {x4 : Int32} {x5 : Int32} {x6 : Int32} {x7 : Int32} {x8 : Int32} {x9 : Int32} {x10 : Int32} {x11 : Int32} {x12 : Int32} {t0 : Int32} (h : tT Y (d + 1) 104 63 [.ref r0, .ref r1, .ref r2, .int x3, .int x4, .int x5, .int x6, .int x7, .int x8, .int x9, .int x10, .int x11, .int t0] [] s K) : tT Y (d + 1) 104 98 [.ref r0, .ref r1, .ref r2, .int x3, .int x4, .int x5, .int x6, .int x7, .int x8, .int x9, .int x10, .int x11, .int x12] [.int t0] s K :=
  (tt_istore (p_104_98 _ _) (Nat.le_of_ble_eq_true rfl) rfl rfl).mpr ((tt_goto (p_104_100 _ _)).mpr (h))
theorem b_104_103 {Y : sY} {d : Nat} {s : sT} {K : Option Int32 → sT → Prop} {r0 : Nat} {r1 : Nat} {r2 : Nat} {x3 : Int32} {x4 : Int32} {x5 : Int32} {x6 : Int32} {x7 : Int32} {x8 : Int32} {x9 : Int32} {x10 : Int32} {x11 : Int32} {x12 : Int32} (h : (∃ a1, (isO Y r0 9 ∧ s.2 r0 4 = some a1) ∧ (isO Y a1 5 ∧ tT Y d 54 0 [.ref a1, .int x6, .int x11, .null, .null] [] s (fun r s1 => tT Y (d + 1) 104 125 [.ref r0, .ref r1, .ref r2, .int x3, .int x4, .int x5, .int x6, .int x7, .int x8, .int (((x9 * (4 : Int32)) + x11) + (1 : Int32)), .int x10, .int x11, .int x12] ((r.map Value.int).toList ++ []) s1 K)))) : tT Y (d + 1) 104 103 [.ref r0, .ref r1, .ref r2, .int x3, .int x4, .int x5, .int x6, .int x7, .int x8, .int x9, .int x10, .int x11, .int x12] [] s K :=
  (tt_iload (p_104_103 _ _) rfl).mpr ((tt_push (p_104_105 _ _)).mpr ((tt_bin (p_104_106 _ _)).mpr ((tt_iload (p_104_107 _ _) rfl).mpr ((tt_bin (p_104_109 _ _)).mpr ((tt_push (p_104_110 _ _)).mpr ((tt_bin (p_104_111 _ _)).mpr ((tt_istore (p_104_112 _ _) (Nat.le_of_ble_eq_true rfl) rfl rfl).mpr ((tt_aload (p_104_114 _ _) rfl).mpr (Exists.elim h (fun a1 h2 => t3_getr (p_104_115 _ _) (isI_9_4) h2.1.1 h2.1.2 ((tt_iload (p_104_118 _ _) rfl).mpr ((tt_iload (p_104_120 _ _) rfl).mpr (t2_callv (z := 54) (k := 3) (i := a1) (as := [.int x6, .int x11]) (rest := []) (p_104_122 _ _) mK_54 mL_54 rfl rfl (Nat.le_of_ble_eq_true rfl) rfl (Nat.le_of_ble_eq_true rfl) h2.2.1 h2.2.2)))))))))))))
theorem b_104_125 {Y : sY} {d : Nat} {s : sT} {K : Option Int32 → sT → Prop} {r0 : Nat} {r1 : Nat} {r2 : Nat} {x3 : Int32} {x4 : Int32} {x5 : Int32} {x6 : Int32} {x7 : Int32} {x8 : Int32} {x9 : Int32} {x10 : Int32} {x11 : Int32} {x12 : Int32} {t0 : Int32} (h : (∃ a1, (isO Y r0 9 ∧ s.2 r0 5 = some a1) ∧ (isO Y a1 5 ∧ tT Y d 54 0 [.ref a1, .int x7, .int x11, .null, .null] [] s (fun r s1 => tT Y (d + 1) 104 138 [.ref r0, .ref r1, .ref r2, .int x3, .int x4, .int x5, .int t0, .int x7, .int x8, .int x9, .int x10, .int x11, .int x12] ((r.map Value.int).toList ++ []) s1 K)))) : tT Y (d + 1) 104 125 [.ref r0, .ref r1, .ref r2, .int x3, .int x4, .int x5, .int x6, .int x7, .int x8, .int x9, .int x10, .int x11, .int x12] [.int t0] s K :=
  (tt_istore (p_104_125 _ _) (Nat.le_of_ble_eq_true rfl) rfl rfl).mpr ((tt_aload (p_104_127 _ _) rfl).mpr (Exists.elim h (fun a1 h2 => t3_getr (p_104_128 _ _) (isI_9_5) h2.1.1 h2.1.2 ((tt_iload (p_104_131 _ _) rfl).mpr ((tt_iload (p_104_133 _ _) rfl).mpr (t2_callv (z := 54) (k := 3) (i := a1) (as := [.int x7, .int x11]) (rest := []) (p_104_135 _ _) mK_54 mL_54 rfl rfl (Nat.le_of_ble_eq_true rfl) rfl (Nat.le_of_ble_eq_true rfl) h2.2.1 h2.2.2))))))
theorem b_104_138 {Y : sY} {d : Nat} {s : sT} {K : Option Int32 → sT → Prop} {r0 : Nat} {r1 : Nat} {r2 : Nat} {x3 : Int32} {x4 : Int32} {x5 : Int32} {x6 : Int32} {x7 : Int32} {x8 : Int32} {x9 : Int32} {x10 : Int32} {x11 : Int32} {x12 : Int32} {t0 : Int32} (h : tT Y (d + 1) 104 41 [.ref r0, .ref r1, .ref r2, .int x3, .int x4, .int x5, .int x6, .int t0, .int x8, .int x9, .int (x10 + (-1)), .int x11, .int x12] [] s K) : tT Y (d + 1) 104 138 [.ref r0, .ref r1, .ref r2, .int x3, .int x4, .int x5, .int x6, .int x7, .int x8, .int x9, .int x10, .int x11, .int x12] [.int t0] s K :=
  (tt_istore (p_104_138 _ _) (Nat.le_of_ble_eq_true rfl) rfl rfl).mpr ((tt_iinc (p_104_140 _ _) rfl rfl rfl).mpr ((tt_goto (p_104_143 _ _)).mpr (h)))
