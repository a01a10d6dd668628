/-! BLOCKS (written by wip/whole/blocks.py) -/
/-! InclusionProverModel.endsSum.()I -/
theorem p_165_0 (L : Nat) (xs : Nat → Int32) : ll_P L xs 165 0 = some (.inl (lo_aload 1 0)) := (P_165 L xs 0).trans rfl
theorem p_165_1 (L : Nat) (xs : Nat → Int32) : ll_P L xs 165 1 = some (.inr (.inl (164, 1, 4))) := (P_165 L xs 1).trans rfl
theorem p_165_4 (L : Nat) (xs : Nat → Int32) : ll_P L xs 165 4 = some (.inl (lo_aload 5 0)) := (P_165 L xs 4).trans rfl
theorem p_165_5 (L : Nat) (xs : Nat → Int32) : ll_P L xs 165 5 = some (.inl (lo_aload 6 0)) := (P_165 L xs 5).trans rfl
theorem p_165_6 (L : Nat) (xs : Nat → Int32) : ll_P L xs 165 6 = some (.inl (lo_getf 9 11 21)) := (P_165 L xs 6).trans rfl
theorem p_165_9 (L : Nat) (xs : Nat → Int32) : ll_P L xs 165 9 = some (.inl (lo_push 11 (.int 30))) := (P_165 L xs 9).trans rfl
theorem p_165_11 (L : Nat) (xs : Nat → Int32) : ll_P L xs 165 11 = some (.inl (lo_aload 12 0)) := (P_165 L xs 11).trans rfl
theorem p_165_12 (L : Nat) (xs : Nat → Int32) : ll_P L xs 165 12 = some (.inl (lo_getf 15 11 25)) := (P_165 L xs 12).trans rfl
theorem p_165_15 (L : Nat) (xs : Nat → Int32) : ll_P L xs 165 15 = some (.inl (lo_bin 16 (fun x y => x * y))) := (P_165 L xs 15).trans rfl
theorem p_165_16 (L : Nat) (xs : Nat → Int32) : ll_P L xs 165 16 = some (.inl (lo_aload 17 0)) := (P_165 L xs 16).trans rfl
theorem p_165_17 (L : Nat) (xs : Nat → Int32) : ll_P L xs 165 17 = some (.inl (lo_getf 20 11 23)) := (P_165 L xs 17).trans rfl
theorem p_165_20 (L : Nat) (xs : Nat → Int32) : ll_P L xs 165 20 = some (.inl (lo_aload 21 0)) := (P_165 L xs 20).trans rfl
theorem p_165_21 (L : Nat) (xs : Nat → Int32) : ll_P L xs 165 21 = some (.inl (lo_getf 24 11 25)) := (P_165 L xs 21).trans rfl
theorem p_165_24 (L : Nat) (xs : Nat → Int32) : ll_P L xs 165 24 = some (.inl (lo_ald 25 0)) := (P_165 L xs 24).trans rfl
theorem p_165_25 (L : Nat) (xs : Nat → Int32) : ll_P L xs 165 25 = some (.inr (.inl (158, 4, 28))) := (P_165 L xs 25).trans rfl
theorem p_165_28 (L : Nat) (xs : Nat → Int32) : ll_P L xs 165 28 = some (.inr (.inr 1)) := (P_165 L xs 28).trans rfl
theorem b_165_0 {Y : sY} {d : Nat} {s : sT} {K : Option Int32 → sT → Prop} {r0 : Nat} (h : (isO Y r0 11 ∧ tT Y d 164 0 [.ref r0] [] s (fun r s1 => tT Y (d + 1) 165 4 [.ref r0] ((r.map Value.int).toList ++ []) s1 K))) : tT Y (d + 1) 165 0 [.ref r0] [] s K :=
  (tt_aload (p_165_0 _ _) rfl).mpr (t2_callv (z := 164) (k := 1) (i := r0) (as := []) (rest := []) (p_165_1 _ _) mK_164 mL_164 rfl rfl (Nat.le_of_ble_eq_true rfl) rfl (Nat.le_of_ble_eq_true rfl) h.1 h.2)
theorem b_165_4 {Y : sY} {d : Nat} {s : sT} {K : Option Int32 → sT → Prop} {r0 : Nat} (h : (∃ a1, (isO Y r0 11 ∧ s.2 r0 21 = some a1) ∧ (isO Y r0 11 ∧ (∃ a3, (isO Y r0 11 ∧ s.2 r0 23 = some a3) ∧ (isO Y r0 11 ∧ (∃ m5, (isA Y a3 0 m5 ∧ inR (s.1 r0 25) m5) ∧ (isO Y r0 11 ∧ tT Y d 158 0 [.ref r0, .ref a1, .int ((30 : Int32) * (s.1 r0 25)), .int (s.1 a3 ((s.1 r0 25)).toNatClampNeg), .null, .null, .null] [] s (fun r s1 => tT Y (d + 1) 165 28 [.ref r0] ((r.map Value.int).toList ++ []) s1 K)))))))) : tT Y (d + 1) 165 4 [.ref r0] [] s K :=
  (tt_aload (p_165_4 _ _) rfl).mpr ((tt_aload (p_165_5 _ _) rfl).mpr (Exists.elim h (fun a1 h2 => t3_getr (p_165_6 _ _) (isI_11_21) h2.1.1 h2.1.2 ((tt_push (p_165_9 _ _)).mpr ((tt_aload (p_165_11 _ _) rfl).mpr (t3_geti (p_165_12 _ _) (isI_11_25) h2.2.1 ((tt_bin (p_165_15 _ _)).mpr ((tt_aload (p_165_16 _ _) rfl).mpr (Exists.elim h2.2.2 (fun a3 h4 => t3_getr (p_165_17 _ _) (isI_11_23) h4.1.1 h4.1.2 ((tt_aload (p_165_20 _ _) rfl).mpr (t3_geti (p_165_21 _ _) (isI_11_25) h4.2.1 (Exists.elim h4.2.2 (fun m5 h6 => t3_ald (p_165_24 _ _) h6.1.1 h6.1.2 (t2_callv (z := 158) (k := 4) (i := r0) (as := [.ref a1, .int ((30 : Int32) * (s.1 r0 25)), .int (s.1 a3 ((s.1 r0 25)).toNatClampNeg)]) (rest := []) (p_165_25 _ _) mK_158 mL_158 rfl rfl (Nat.le_of_ble_eq_true rfl) rfl (Nat.le_of_ble_eq_true rfl) h6.2.1 h6.2.2)))))))))))))))
theorem b_165_28 {Y : sY} {d : Nat} {s : sT} {K : Option Int32 → sT → Prop} {r0 : Nat} {t0 : Int32} (h : K (some t0) s) : tT Y (d + 1) 165 28 [.ref r0] [.int t0] s K :=
  tt_ret1 (p_165_28 _ _) h
/-! InclusionProverModel.told.([III)I -/
theorem p_166_0 (L : Nat) (xs : Nat → Int32) : ll_P L xs 166 0 = some (.inl (lo_aload 1 0)) := (P_166 L xs 0).trans rfl
theorem p_166_1 (L : Nat) (xs : Nat → Int32) : ll_P L xs 166 1 = some (.inl (lo_push 2 (.int 0))) := (P_166 L xs 1).trans rfl
theorem p_166_2 (L : Nat) (xs : Nat → Int32) : ll_P L xs 166 2 = some (.inl (lo_putf 5 11 25 0)) := (P_166 L xs 2).trans rfl
theorem p_166_5 (L : Nat) (xs : Nat → Int32) : ll_P L xs 166 5 = some (.inl (lo_aload 6 0)) := (P_166 L xs 5).trans rfl
theorem p_166_6 (L : Nat) (xs : Nat → Int32) : ll_P L xs 166 6 = some (.inl (lo_push 7 (.int (-1)))) := (P_166 L xs 6).trans rfl
theorem p_166_7 (L : Nat) (xs : Nat → Int32) : ll_P L xs 166 7 = some (.inl (lo_putf 10 11 26 0)) := (P_166 L xs 7).trans rfl
theorem p_166_10 (L : Nat) (xs : Nat → Int32) : ll_P L xs 166 10 = some (.inl (lo_aload 11 0)) := (P_166 L xs 10).trans rfl
theorem p_166_11 (L : Nat) (xs : Nat → Int32) : ll_P L xs 166 11 = some (.inr (.inl (162, 1, 14))) := (P_166 L xs 11).trans rfl
theorem p_166_14 (L : Nat) (xs : Nat → Int32) : ll_P L xs 166 14 = some (.inl (lo_push 15 (.int 1))) := (P_166 L xs 14).trans rfl
theorem p_166_15 (L : Nat) (xs : Nat → Int32) : ll_P L xs 166 15 = some (.inl (lo_istore 17 4)) := (P_166 L xs 15).trans rfl
theorem p_166_17 (L : Nat) (xs : Nat → Int32) : ll_P L xs 166 17 = some (.inl (lo_push 18 (.int 0))) := (P_166 L xs 17).trans rfl
theorem p_166_18 (L : Nat) (xs : Nat → Int32) : ll_P L xs 166 18 = some (.inl (lo_istore 20 5)) := (P_166 L xs 18).trans rfl
theorem p_166_20 (L : Nat) (xs : Nat → Int32) : ll_P L xs 166 20 = some (.inl (lo_iload 22 5)) := (P_166 L xs 20).trans rfl
theorem p_166_22 (L : Nat) (xs : Nat → Int32) : ll_P L xs 166 22 = some (.inl (lo_iload 23 3)) := (P_166 L xs 22).trans rfl
theorem p_166_23 (L : Nat) (xs : Nat → Int32) : ll_P L xs 166 23 = some (.inl (lo_cmp 280 26 (fun x y => decide (y ≤ x)))) := (P_166 L xs 23).trans rfl
theorem p_166_26 (L : Nat) (xs : Nat → Int32) : ll_P L xs 166 26 = some (.inl (lo_aload 27 1)) := (P_166 L xs 26).trans rfl
theorem p_166_27 (L : Nat) (xs : Nat → Int32) : ll_P L xs 166 27 = some (.inl (lo_iload 28 2)) := (P_166 L xs 27).trans rfl
theorem p_166_28 (L : Nat) (xs : Nat → Int32) : ll_P L xs 166 28 = some (.inl (lo_iload 30 5)) := (P_166 L xs 28).trans rfl
theorem p_166_30 (L : Nat) (xs : Nat → Int32) : ll_P L xs 166 30 = some (.inl (lo_bin 31 (fun x y => x + y))) := (P_166 L xs 30).trans rfl
theorem p_166_31 (L : Nat) (xs : Nat → Int32) : ll_P L xs 166 31 = some (.inl (lo_ald 32 0)) := (P_166 L xs 31).trans rfl
theorem p_166_32 (L : Nat) (xs : Nat → Int32) : ll_P L xs 166 32 = some (.inl (lo_istore 34 6)) := (P_166 L xs 32).trans rfl
theorem p_166_34 (L : Nat) (xs : Nat → Int32) : ll_P L xs 166 34 = some (.inl (lo_iload 36 6)) := (P_166 L xs 34).trans rfl
theorem p_166_36 (L : Nat) (xs : Nat → Int32) : ll_P L xs 166 36 = some (.inl (lo_push 38 (.int 32))) := (P_166 L xs 36).trans rfl
theorem p_166_38 (L : Nat) (xs : Nat → Int32) : ll_P L xs 166 38 = some (.inl (lo_cmp 44 41 (fun x y => decide (¬ x = y)))) := (P_166 L xs 38).trans rfl
theorem p_166_41 (L : Nat) (xs : Nat → Int32) : ll_P L xs 166 41 = some (.inl (lo_goto 274)) := (P_166 L xs 41).trans rfl
theorem p_166_44 (L : Nat) (xs : Nat → Int32) : ll_P L xs 166 44 = some (.inl (lo_iload 46 6)) := (P_166 L xs 44).trans rfl
theorem p_166_46 (L : Nat) (xs : Nat → Int32) : ll_P L xs 166 46 = some (.inl (lo_push 48 (.int 48))) := (P_166 L xs 46).trans rfl
theorem p_166_48 (L : Nat) (xs : Nat → Int32) : ll_P L xs 166 48 = some (.inl (lo_cmp 70 51 (fun x y => decide (x = y)))) := (P_166 L xs 48).trans rfl
theorem p_166_51 (L : Nat) (xs : Nat → Int32) : ll_P L xs 166 51 = some (.inl (lo_iload 53 6)) := (P_166 L xs 51).trans rfl
theorem p_166_53 (L : Nat) (xs : Nat → Int32) : ll_P L xs 166 53 = some (.inl (lo_push 55 (.int 49))) := (P_166 L xs 53).trans rfl
theorem p_166_55 (L : Nat) (xs : Nat → Int32) : ll_P L xs 166 55 = some (.inl (lo_cmp 70 58 (fun x y => decide (x = y)))) := (P_166 L xs 55).trans rfl
theorem p_166_58 (L : Nat) (xs : Nat → Int32) : ll_P L xs 166 58 = some (.inl (lo_iload 60 6)) := (P_166 L xs 58).trans rfl
theorem p_166_60 (L : Nat) (xs : Nat → Int32) : ll_P L xs 166 60 = some (.inl (lo_push 62 (.int 97))) := (P_166 L xs 60).trans rfl
theorem p_166_62 (L : Nat) (xs : Nat → Int32) : ll_P L xs 166 62 = some (.inl (lo_push 64 (.int 99))) := (P_166 L xs 62).trans rfl
theorem p_166_64 (L : Nat) (xs : Nat → Int32) : ll_P L xs 166 64 = some (.inr (.inl (151, 3, 67))) := (P_166 L xs 64).trans rfl
theorem p_166_67 (L : Nat) (xs : Nat → Int32) : ll_P L xs 166 67 = some (.inl (lo_if 74 70 (fun x => decide (x = 0)))) := (P_166 L xs 67).trans rfl
theorem p_166_70 (L : Nat) (xs : Nat → Int32) : ll_P L xs 166 70 = some (.inl (lo_push 71 (.int 1))) := (P_166 L xs 70).trans rfl
theorem p_166_71 (L : Nat) (xs : Nat → Int32) : ll_P L xs 166 71 = some (.inl (lo_goto 75)) := (P_166 L xs 71).trans rfl
theorem p_166_74 (L : Nat) (xs : Nat → Int32) : ll_P L xs 166 74 = some (.inl (lo_push 75 (.int 0))) := (P_166 L xs 74).trans rfl
theorem p_166_75 (L : Nat) (xs : Nat → Int32) : ll_P L xs 166 75 = some (.inl (lo_istore 77 7)) := (P_166 L xs 75).trans rfl
theorem p_166_77 (L : Nat) (xs : Nat → Int32) : ll_P L xs 166 77 = some (.inl (lo_iload 79 7)) := (P_166 L xs 77).trans rfl
theorem p_166_79 (L : Nat) (xs : Nat → Int32) : ll_P L xs 166 79 = some (.inl (lo_if 121 82 (fun x => decide (x = 0)))) := (P_166 L xs 79).trans rfl
theorem p_166_82 (L : Nat) (xs : Nat → Int32) : ll_P L xs 166 82 = some (.inl (lo_aload 83 0)) := (P_166 L xs 82).trans rfl
theorem p_166_83 (L : Nat) (xs : Nat → Int32) : ll_P L xs 166 83 = some (.inl (lo_iload 85 6)) := (P_166 L xs 83).trans rfl
theorem p_166_85 (L : Nat) (xs : Nat → Int32) : ll_P L xs 166 85 = some (.inl (lo_push 87 (.int 48))) := (P_166 L xs 85).trans rfl
theorem p_166_87 (L : Nat) (xs : Nat → Int32) : ll_P L xs 166 87 = some (.inl (lo_cmp 94 90 (fun x y => decide (¬ x = y)))) := (P_166 L xs 87).trans rfl
theorem p_166_90 (L : Nat) (xs : Nat → Int32) : ll_P L xs 166 90 = some (.inl (lo_push 91 (.int 0))) := (P_166 L xs 90).trans rfl
theorem p_166_91 (L : Nat) (xs : Nat → Int32) : ll_P L xs 166 91 = some (.inl (lo_goto 112)) := (P_166 L xs 91).trans rfl
theorem p_166_94 (L : Nat) (xs : Nat → Int32) : ll_P L xs 166 94 = some (.inl (lo_iload 96 6)) := (P_166 L xs 94).trans rfl
theorem p_166_96 (L : Nat) (xs : Nat → Int32) : ll_P L xs 166 96 = some (.inl (lo_push 98 (.int 49))) := (P_166 L xs 96).trans rfl
theorem p_166_98 (L : Nat) (xs : Nat → Int32) : ll_P L xs 166 98 = some (.inl (lo_cmp 105 101 (fun x y => decide (¬ x = y)))) := (P_166 L xs 98).trans rfl
theorem p_166_101 (L : Nat) (xs : Nat → Int32) : ll_P L xs 166 101 = some (.inl (lo_push 102 (.int 1))) := (P_166 L xs 101).trans rfl
theorem p_166_102 (L : Nat) (xs : Nat → Int32) : ll_P L xs 166 102 = some (.inl (lo_goto 112)) := (P_166 L xs 102).trans rfl
theorem p_166_105 (L : Nat) (xs : Nat → Int32) : ll_P L xs 166 105 = some (.inl (lo_push 106 (.int 2))) := (P_166 L xs 105).trans rfl
theorem p_166_106 (L : Nat) (xs : Nat → Int32) : ll_P L xs 166 106 = some (.inl (lo_iload 108 6)) := (P_166 L xs 106).trans rfl
theorem p_166_108 (L : Nat) (xs : Nat → Int32) : ll_P L xs 166 108 = some (.inl (lo_bin 109 (fun x y => x + y))) := (P_166 L xs 108).trans rfl
theorem p_166_109 (L : Nat) (xs : Nat → Int32) : ll_P L xs 166 109 = some (.inl (lo_push 111 (.int 97))) := (P_166 L xs 109).trans rfl
theorem p_166_111 (L : Nat) (xs : Nat → Int32) : ll_P L xs 166 111 = some (.inl (lo_bin 112 (fun x y => x - y))) := (P_166 L xs 111).trans rfl
theorem p_166_112 (L : Nat) (xs : Nat → Int32) : ll_P L xs 166 112 = some (.inr (.inl (163, 2, 115))) := (P_166 L xs 112).trans rfl
theorem p_166_115 (L : Nat) (xs : Nat → Int32) : ll_P L xs 166 115 = some (.inl (lo_push 116 (.int 0))) := (P_166 L xs 115).trans rfl
theorem p_166_116 (L : Nat) (xs : Nat → Int32) : ll_P L xs 166 116 = some (.inl (lo_istore 118 4)) := (P_166 L xs 116).trans rfl
theorem p_166_118 (L : Nat) (xs : Nat → Int32) : ll_P L xs 166 118 = some (.inl (lo_goto 274)) := (P_166 L xs 118).trans rfl
theorem p_166_121 (L : Nat) (xs : Nat → Int32) : ll_P L xs 166 121 = some (.inl (lo_iload 123 6)) := (P_166 L xs 121).trans rfl
theorem p_166_123 (L : Nat) (xs : Nat → Int32) : ll_P L xs 166 123 = some (.inl (lo_push 125 (.int 40))) := (P_166 L xs 123).trans rfl
theorem p_166_125 (L : Nat) (xs : Nat → Int32) : ll_P L xs 166 125 = some (.inl (lo_cmp 148 128 (fun x y => decide (¬ x = y)))) := (P_166 L xs 125).trans rfl
theorem p_166_128 (L : Nat) (xs : Nat → Int32) : ll_P L xs 166 128 = some (.inl (lo_aload 129 0)) := (P_166 L xs 128).trans rfl
theorem p_166_129 (L : Nat) (xs : Nat → Int32) : ll_P L xs 166 129 = some (.inl (lo_dup 130)) := (P_166 L xs 129).trans rfl
theorem p_166_130 (L : Nat) (xs : Nat → Int32) : ll_P L xs 166 130 = some (.inl (lo_getf 133 11 25)) := (P_166 L xs 130).trans rfl
theorem p_166_133 (L : Nat) (xs : Nat → Int32) : ll_P L xs 166 133 = some (.inl (lo_push 134 (.int 1))) := (P_166 L xs 133).trans rfl
theorem p_166_134 (L : Nat) (xs : Nat → Int32) : ll_P L xs 166 134 = some (.inl (lo_bin 135 (fun x y => x + y))) := (P_166 L xs 134).trans rfl
theorem p_166_135 (L : Nat) (xs : Nat → Int32) : ll_P L xs 166 135 = some (.inl (lo_putf 138 11 25 0)) := (P_166 L xs 135).trans rfl
theorem p_166_138 (L : Nat) (xs : Nat → Int32) : ll_P L xs 166 138 = some (.inl (lo_aload 139 0)) := (P_166 L xs 138).trans rfl
theorem p_166_139 (L : Nat) (xs : Nat → Int32) : ll_P L xs 166 139 = some (.inr (.inl (162, 1, 142))) := (P_166 L xs 139).trans rfl
theorem p_166_142 (L : Nat) (xs : Nat → Int32) : ll_P L xs 166 142 = some (.inl (lo_push 143 (.int 1))) := (P_166 L xs 142).trans rfl
theorem p_166_143 (L : Nat) (xs : Nat → Int32) : ll_P L xs 166 143 = some (.inl (lo_istore 145 4)) := (P_166 L xs 143).trans rfl
theorem p_166_145 (L : Nat) (xs : Nat → Int32) : ll_P L xs 166 145 = some (.inl (lo_goto 274)) := (P_166 L xs 145).trans rfl
theorem p_166_148 (L : Nat) (xs : Nat → Int32) : ll_P L xs 166 148 = some (.inl (lo_iload 150 4)) := (P_166 L xs 148).trans rfl
theorem p_166_150 (L : Nat) (xs : Nat → Int32) : ll_P L xs 166 150 = some (.inl (lo_if 161 153 (fun x => decide (x = 0)))) := (P_166 L xs 150).trans rfl
theorem p_166_153 (L : Nat) (xs : Nat → Int32) : ll_P L xs 166 153 = some (.inl (lo_aload 154 0)) := (P_166 L xs 153).trans rfl
theorem p_166_154 (L : Nat) (xs : Nat → Int32) : ll_P L xs 166 154 = some (.inl (lo_iload 156 5)) := (P_166 L xs 154).trans rfl
theorem p_166_156 (L : Nat) (xs : Nat → Int32) : ll_P L xs 166 156 = some (.inl (lo_putf 159 11 26 0)) := (P_166 L xs 156).trans rfl
theorem p_166_159 (L : Nat) (xs : Nat → Int32) : ll_P L xs 166 159 = some (.inl (lo_push 160 (.int 0))) := (P_166 L xs 159).trans rfl
theorem p_166_160 (L : Nat) (xs : Nat → Int32) : ll_P L xs 166 160 = some (.inr (.inr 1)) := (P_166 L xs 160).trans rfl
theorem p_166_161 (L : Nat) (xs : Nat → Int32) : ll_P L xs 166 161 = some (.inl (lo_iload 163 6)) := (P_166 L xs 161).trans rfl
theorem p_166_163 (L : Nat) (xs : Nat → Int32) : ll_P L xs 166 163 = some (.inl (lo_push 165 (.int 42))) := (P_166 L xs 163).trans rfl
theorem p_166_165 (L : Nat) (xs : Nat → Int32) : ll_P L xs 166 165 = some (.inl (lo_cmp 210 168 (fun x y => decide (¬ x = y)))) := (P_166 L xs 165).trans rfl
theorem p_166_168 (L : Nat) (xs : Nat → Int32) : ll_P L xs 166 168 = some (.inl (lo_push 170 (.int 30))) := (P_166 L xs 168).trans rfl
theorem p_166_170 (L : Nat) (xs : Nat → Int32) : ll_P L xs 166 170 = some (.inl (lo_aload 171 0)) := (P_166 L xs 170).trans rfl
theorem p_166_171 (L : Nat) (xs : Nat → Int32) : ll_P L xs 166 171 = some (.inl (lo_getf 174 11 25)) := (P_166 L xs 171).trans rfl
theorem p_166_174 (L : Nat) (xs : Nat → Int32) : ll_P L xs 166 174 = some (.inl (lo_bin 175 (fun x y => x * y))) := (P_166 L xs 174).trans rfl
theorem p_166_175 (L : Nat) (xs : Nat → Int32) : ll_P L xs 166 175 = some (.inl (lo_aload 176 0)) := (P_166 L xs 175).trans rfl
theorem p_166_176 (L : Nat) (xs : Nat → Int32) : ll_P L xs 166 176 = some (.inl (lo_getf 179 11 24)) := (P_166 L xs 176).trans rfl
theorem p_166_179 (L : Nat) (xs : Nat → Int32) : ll_P L xs 166 179 = some (.inl (lo_aload 180 0)) := (P_166 L xs 179).trans rfl
theorem p_166_180 (L : Nat) (xs : Nat → Int32) : ll_P L xs 166 180 = some (.inl (lo_getf 183 11 25)) := (P_166 L xs 180).trans rfl
theorem p_166_183 (L : Nat) (xs : Nat → Int32) : ll_P L xs 166 183 = some (.inl (lo_ald 184 0)) := (P_166 L xs 183).trans rfl
theorem p_166_184 (L : Nat) (xs : Nat → Int32) : ll_P L xs 166 184 = some (.inl (lo_bin 185 (fun x y => x + y))) := (P_166 L xs 184).trans rfl
theorem p_166_185 (L : Nat) (xs : Nat → Int32) : ll_P L xs 166 185 = some (.inl (lo_push 186 (.int 1))) := (P_166 L xs 185).trans rfl
theorem p_166_186 (L : Nat) (xs : Nat → Int32) : ll_P L xs 166 186 = some (.inl (lo_bin 187 (fun x y => x - y))) := (P_166 L xs 186).trans rfl
theorem p_166_187 (L : Nat) (xs : Nat → Int32) : ll_P L xs 166 187 = some (.inl (lo_istore 189 8)) := (P_166 L xs 187).trans rfl
theorem p_166_189 (L : Nat) (xs : Nat → Int32) : ll_P L xs 166 189 = some (.inl (lo_aload 190 0)) := (P_166 L xs 189).trans rfl
theorem p_166_190 (L : Nat) (xs : Nat → Int32) : ll_P L xs 166 190 = some (.inl (lo_getf 193 11 22)) := (P_166 L xs 190).trans rfl
theorem p_166_193 (L : Nat) (xs : Nat → Int32) : ll_P L xs 166 193 = some (.inl (lo_iload 195 8)) := (P_166 L xs 193).trans rfl
theorem p_166_195 (L : Nat) (xs : Nat → Int32) : ll_P L xs 166 195 = some (.inl (lo_aload 196 0)) := (P_166 L xs 195).trans rfl
theorem p_166_196 (L : Nat) (xs : Nat → Int32) : ll_P L xs 166 196 = some (.inl (lo_aload 197 0)) := (P_166 L xs 196).trans rfl
theorem p_166_197 (L : Nat) (xs : Nat → Int32) : ll_P L xs 166 197 = some (.inl (lo_getf 200 11 22)) := (P_166 L xs 197).trans rfl
theorem p_166_200 (L : Nat) (xs : Nat → Int32) : ll_P L xs 166 200 = some (.inl (lo_iload 202 8)) := (P_166 L xs 200).trans rfl
theorem p_166_202 (L : Nat) (xs : Nat → Int32) : ll_P L xs 166 202 = some (.inl (lo_ald 203 0)) := (P_166 L xs 202).trans rfl
theorem p_166_203 (L : Nat) (xs : Nat → Int32) : ll_P L xs 166 203 = some (.inr (.inl (160, 2, 206))) := (P_166 L xs 203).trans rfl
theorem p_166_206 (L : Nat) (xs : Nat → Int32) : ll_P L xs 166 206 = some (.inl (lo_ast 207 0)) := (P_166 L xs 206).trans rfl
theorem p_166_207 (L : Nat) (xs : Nat → Int32) : ll_P L xs 166 207 = some (.inl (lo_goto 274)) := (P_166 L xs 207).trans rfl
theorem p_166_210 (L : Nat) (xs : Nat → Int32) : ll_P L xs 166 210 = some (.inl (lo_iload 212 6)) := (P_166 L xs 210).trans rfl
theorem p_166_212 (L : Nat) (xs : Nat → Int32) : ll_P L xs 166 212 = some (.inl (lo_push 214 (.int 43))) := (P_166 L xs 212).trans rfl
theorem p_166_214 (L : Nat) (xs : Nat → Int32) : ll_P L xs 166 214 = some (.inl (lo_cmp 227 217 (fun x y => decide (¬ x = y)))) := (P_166 L xs 214).trans rfl
theorem p_166_217 (L : Nat) (xs : Nat → Int32) : ll_P L xs 166 217 = some (.inl (lo_aload 218 0)) := (P_166 L xs 217).trans rfl
theorem p_166_218 (L : Nat) (xs : Nat → Int32) : ll_P L xs 166 218 = some (.inr (.inl (164, 1, 221))) := (P_166 L xs 218).trans rfl
theorem p_166_221 (L : Nat) (xs : Nat → Int32) : ll_P L xs 166 221 = some (.inl (lo_push 222 (.int 1))) := (P_166 L xs 221).trans rfl
theorem p_166_222 (L : Nat) (xs : Nat → Int32) : ll_P L xs 166 222 = some (.inl (lo_istore 224 4)) := (P_166 L xs 222).trans rfl
theorem p_166_224 (L : Nat) (xs : Nat → Int32) : ll_P L xs 166 224 = some (.inl (lo_goto 274)) := (P_166 L xs 224).trans rfl
theorem p_166_227 (L : Nat) (xs : Nat → Int32) : ll_P L xs 166 227 = some (.inl (lo_iload 229 6)) := (P_166 L xs 227).trans rfl
theorem p_166_229 (L : Nat) (xs : Nat → Int32) : ll_P L xs 166 229 = some (.inl (lo_push 231 (.int 41))) := (P_166 L xs 229).trans rfl
theorem p_166_231 (L : Nat) (xs : Nat → Int32) : ll_P L xs 166 231 = some (.inl (lo_cmp 266 234 (fun x y => decide (¬ x = y)))) := (P_166 L xs 231).trans rfl
theorem p_166_234 (L : Nat) (xs : Nat → Int32) : ll_P L xs 166 234 = some (.inl (lo_aload 235 0)) := (P_166 L xs 234).trans rfl
theorem p_166_235 (L : Nat) (xs : Nat → Int32) : ll_P L xs 166 235 = some (.inl (lo_getf 238 11 25)) := (P_166 L xs 235).trans rfl
theorem p_166_238 (L : Nat) (xs : Nat → Int32) : ll_P L xs 166 238 = some (.inl (lo_if 266 241 (fun x => decide (x ≤ 0)))) := (P_166 L xs 238).trans rfl
theorem p_166_241 (L : Nat) (xs : Nat → Int32) : ll_P L xs 166 241 = some (.inl (lo_aload 242 0)) := (P_166 L xs 241).trans rfl
theorem p_166_242 (L : Nat) (xs : Nat → Int32) : ll_P L xs 166 242 = some (.inr (.inl (165, 1, 245))) := (P_166 L xs 242).trans rfl
theorem p_166_245 (L : Nat) (xs : Nat → Int32) : ll_P L xs 166 245 = some (.inl (lo_istore 247 8)) := (P_166 L xs 245).trans rfl
theorem p_166_247 (L : Nat) (xs : Nat → Int32) : ll_P L xs 166 247 = some (.inl (lo_aload 248 0)) := (P_166 L xs 247).trans rfl
theorem p_166_248 (L : Nat) (xs : Nat → Int32) : ll_P L xs 166 248 = some (.inl (lo_dup 249)) := (P_166 L xs 248).trans rfl
theorem p_166_249 (L : Nat) (xs : Nat → Int32) : ll_P L xs 166 249 = some (.inl (lo_getf 252 11 25)) := (P_166 L xs 249).trans rfl
theorem p_166_252 (L : Nat) (xs : Nat → Int32) : ll_P L xs 166 252 = some (.inl (lo_push 253 (.int 1))) := (P_166 L xs 252).trans rfl
theorem p_166_253 (L : Nat) (xs : Nat → Int32) : ll_P L xs 166 253 = some (.inl (lo_bin 254 (fun x y => x - y))) := (P_166 L xs 253).trans rfl
theorem p_166_254 (L : Nat) (xs : Nat → Int32) : ll_P L xs 166 254 = some (.inl (lo_putf 257 11 25 0)) := (P_166 L xs 254).trans rfl
theorem p_166_257 (L : Nat) (xs : Nat → Int32) : ll_P L xs 166 257 = some (.inl (lo_aload 258 0)) := (P_166 L xs 257).trans rfl
theorem p_166_258 (L : Nat) (xs : Nat → Int32) : ll_P L xs 166 258 = some (.inl (lo_iload 260 8)) := (P_166 L xs 258).trans rfl
theorem p_166_260 (L : Nat) (xs : Nat → Int32) : ll_P L xs 166 260 = some (.inr (.inl (163, 2, 263))) := (P_166 L xs 260).trans rfl
theorem p_166_263 (L : Nat) (xs : Nat → Int32) : ll_P L xs 166 263 = some (.inl (lo_goto 274)) := (P_166 L xs 263).trans rfl
theorem p_166_266 (L : Nat) (xs : Nat → Int32) : ll_P L xs 166 266 = some (.inl (lo_aload 267 0)) := (P_166 L xs 266).trans rfl
theorem p_166_267 (L : Nat) (xs : Nat → Int32) : ll_P L xs 166 267 = some (.inl (lo_iload 269 5)) := (P_166 L xs 267).trans rfl
theorem p_166_269 (L : Nat) (xs : Nat → Int32) : ll_P L xs 166 269 = some (.inl (lo_putf 272 11 26 0)) := (P_166 L xs 269).trans rfl
theorem p_166_272 (L : Nat) (xs : Nat → Int32) : ll_P L xs 166 272 = some (.inl (lo_push 273 (.int 0))) := (P_166 L xs 272).trans rfl
theorem p_166_273 (L : Nat) (xs : Nat → Int32) : ll_P L xs 166 273 = some (.inr (.inr 1)) := (P_166 L xs 273).trans rfl
theorem p_166_274 (L : Nat) (xs : Nat → Int32) : ll_P L xs 166 274 = some (.inl (lo_iinc 277 5 1)) := (P_166 L xs 274).trans rfl
theorem p_166_277 (L : Nat) (xs : Nat → Int32) : ll_P L xs 166 277 = some (.inl (lo_goto 20)) := (P_166 L xs 277).trans rfl
theorem p_166_280 (L : Nat) (xs : Nat → Int32) : ll_P L xs 166 280 = some (.inl (lo_iload 282 4)) := (P_166 L xs 280).trans rfl
theorem p_166_282 (L : Nat) (xs : Nat → Int32) : ll_P L xs 166 282 = some (.inl (lo_if 292 285 (fun x => decide (¬ x = 0)))) := (P_166 L xs 282).trans rfl
theorem p_166_285 (L : Nat) (xs : Nat → Int32) : ll_P L xs 166 285 = some (.inl (lo_aload 286 0)) := (P_166 L xs 285).trans rfl
theorem p_166_286 (L : Nat) (xs : Nat → Int32) : ll_P L xs 166 286 = some (.inl (lo_getf 289 11 25)) := (P_166 L xs 286).trans rfl
theorem p_166_289 (L : Nat) (xs : Nat → Int32) : ll_P L xs 166 289 = some (.inl (lo_if 299 292 (fun x => decide (x ≤ 0)))) := (P_166 L xs 289).trans rfl
theorem p_166_292 (L : Nat) (xs : Nat → Int32) : ll_P L xs 166 292 = some (.inl (lo_aload 293 0)) := (P_166 L xs 292).trans rfl
theorem p_166_293 (L : Nat) (xs : Nat → Int32) : ll_P L xs 166 293 = some (.inl (lo_iload 294 3)) := (P_166 L xs 293).trans rfl
theorem p_166_294 (L : Nat) (xs : Nat → Int32) : ll_P L xs 166 294 = some (.inl (lo_putf 297 11 26 0)) := (P_166 L xs 294).trans rfl
theorem p_166_297 (L : Nat) (xs : Nat → Int32) : ll_P L xs 166 297 = some (.inl (lo_push 298 (.int 0))) := (P_166 L xs 297).trans rfl
theorem p_166_298 (L : Nat) (xs : Nat → Int32) : ll_P L xs 166 298 = some (.inr (.inr 1)) := (P_166 L xs 298).trans rfl
theorem p_166_299 (L : Nat) (xs : Nat → Int32) : ll_P L xs 166 299 = some (.inl (lo_aload 300 0)) := (P_166 L xs 299).trans rfl
theorem p_166_300 (L : Nat) (xs : Nat → Int32) : ll_P L xs 166 300 = some (.inr (.inl (165, 1, 303))) := (P_166 L xs 300).trans rfl
theorem p_166_303 (L : Nat) (xs : Nat → Int32) : ll_P L xs 166 303 = some (.inr (.inr 1)) := (P_166 L xs 303).trans rfl
theorem b_166_0 {Y : sY} {d : Nat} {s : sT} {K : Option Int32 → sT → Prop} {r0 : Nat} {r1 : Nat} {x2 : Int32} {x3 : Int32} (h : (isO Y r0 11 ∧ (isO Y r0 11 ∧ (isO Y r0 11 ∧ tT Y d 162 0 [.ref r0] [] (pV (pV s r0 25 (0 : Int32)) r0 26 (-1 : Int32)) (fun r s1 => tT Y (d + 1) 166 14 [.ref r0, .ref r1, .int x2, .int x3, .null, .null, .null, .null, .null] ((r.map Value.int).toList ++ []) s1 K))))) : tT Y (d + 1) 166 0 [.ref r0, .ref r1, .int x2, .int x3, .null, .null, .null, .null, .null] [] s K :=
  (tt_aload (p_166_0 _ _) rfl).mpr ((tt_push (p_166_1 _ _)).mpr ((t2_puti (p_166_2 _ _) isI_11_25 h.1).mpr ((tt_aload (p_166_5 _ _) rfl).mpr ((tt_push (p_166_6 _ _)).mpr ((t2_puti (p_166_7 _ _) isI_11_26 h.2.1).mpr ((tt_aload (p_166_10 _ _) rfl).mpr (t2_callv (z := 162) (k := 1) (i := r0) (as := []) (rest := []) (p_166_11 _ _) mK_162 mL_162 rfl rfl (Nat.le_of_ble_eq_true rfl) rfl (Nat.le_of_ble_eq_true rfl) h.2.2.1 h.2.2.2)))))))
theorem b_166_14 {Y : sY} {d : Nat} {s : sT} {K : Option Int32 → sT → Prop} {r0 : Nat} {r1 : Nat} {x2 : Int32} {x3 : Int32} (h : tT Y (d + 1) 166 20 [.ref r0, .ref r1, .int x2, .int x3, .int (1 : Int32), .int (0 : Int32), .null, .null, .null] [] s K) : tT Y (d + 1) 166 14 [.ref r0, .ref r1, .int x2, .int x3, .null, .null, .null, .null, .null] [] s K :=
  (tt_push (p_166_14 _ _)).mpr ((tt_istore (p_166_15 _ _) (Nat.le_of_ble_eq_true rfl) rfl rfl).mpr ((tt_push (p_166_17 _ _)).mpr ((tt_istore (p_166_18 _ _) (Nat.le_of_ble_eq_true rfl) rfl rfl).mpr (h))))
theorem b_166_20 {Y : sY} {d : Nat} {s : sT} {K : Option Int32 → sT → Prop} {r0 : Nat} {r1 : Nat} {x2 : Int32} {x3 : Int32} {x4 : Int32} {x5 : Int32} {u6 : Value} {u7 : Value} {u8 : Value} (h : (if x3 ≤ x5 then (if ¬ x4 = 0 then tT Y (d + 1) 166 292 [.ref r0, .ref r1, .int x2, .int x3, .int x4, .int x5, u6, u7, u8] [] s K else (isO Y r0 11 ∧ (if (s.1 r0 25) ≤ 0 then (isO Y r0 11 ∧ tT Y d 165 0 [.ref r0] [] s (fun r s1 => tT Y (d + 1) 166 303 [.ref r0, .ref r1, .int x2, .int x3, .int x4, .int x5, u6, u7, u8] ((r.map Value.int).toList ++ []) s1 K)) else tT Y (d + 1) 166 292 [.ref r0, .ref r1, .int x2, .int x3, .int x4, .int x5, u6, u7, u8] [] s K))) else (∃ m4, (isA Y r1 0 m4 ∧ inR (x2 + x5) m4) ∧ (if ¬ (s.1 r1 ((x2 + x5)).toNatClampNeg) = (32 : Int32) then (if (s.1 r1 ((x2 + x5)).toNatClampNeg) = (48 : Int32) then tT Y (d + 1) 166 70 [.ref r0, .ref r1, .int x2, .int x3, .int x4, .int x5, .int (s.1 r1 ((x2 + x5)).toNatClampNeg), u7, u8] [] s K else (if (s.1 r1 ((x2 + x5)).toNatClampNeg) = (49 : Int32) then tT Y (d + 1) 166 70 [.ref r0, .ref r1, .int x2, .int x3, .int x4, .int x5, .int (s.1 r1 ((x2 + x5)).toNatClampNeg), u7, u8] [] s K else tT Y d 151 0 [.int (s.1 r1 ((x2 + x5)).toNatClampNeg), .int (97 : Int32), .int (99 : Int32)] [] s (fun r s1 => tT Y (d + 1) 166 67 [.ref r0, .ref r1, .int x2, .int x3, .int x4, .int x5, .int (s.1 r1 ((x2 + x5)).toNatClampNeg), u7, u8] ((r.map Value.int).toList ++ []) s1 K))) else tT Y (d + 1) 166 274 [.ref r0, .ref r1, .int x2, .int x3, .int x4, .int x5, .int (s.1 r1 ((x2 + x5)).toNatClampNeg), u7, u8] [] s K)))) : tT Y (d + 1) 166 20 [.ref r0, .ref r1, .int x2, .int x3, .int x4, .int x5, u6, u7, u8] [] s K :=
  (tt_iload (p_166_20 _ _) rfl).mpr ((tt_iload (p_166_22 _ _) rfl).mpr (t3_cmp (p := x3 ≤ x5) (p_166_23 _ _) rfl (fun g1 => (tt_iload (p_166_280 _ _) rfl).mpr (t3_if (p := ¬ x4 = 0) (p_166_282 _ _) rfl (fun g2 => (ifp (ifp h g1) g2)) (fun g2 => (tt_aload (p_166_285 _ _) rfl).mpr (t3_geti (p_166_286 _ _) (isI_11_25) (ifn (ifp h g1) g2).1 (t3_if (p := (s.1 r0 25) ≤ 0) (p_166_289 _ _) rfl (fun g3 => (tt_aload (p_166_299 _ _) rfl).mpr (t2_callv (z := 165) (k := 1) (i := r0) (as := []) (rest := []) (p_166_300 _ _) mK_165 mL_165 rfl rfl (Nat.le_of_ble_eq_true rfl) rfl (Nat.le_of_ble_eq_true rfl) (ifp (ifn (ifp h g1) g2).2 g3).1 (ifp (ifn (ifp h g1) g2).2 g3).2)) (fun g3 => (ifn (ifn (ifp h g1) g2).2 g3))))))) (fun g1 => (tt_aload (p_166_26 _ _) rfl).mpr ((tt_iload (p_166_27 _ _) rfl).mpr ((tt_iload (p_166_28 _ _) rfl).mpr ((tt_bin (p_166_30 _ _)).mpr (Exists.elim (ifn h g1) (fun m4 h5 => t3_ald (p_166_31 _ _) h5.1.1 h5.1.2 ((tt_istore (p_166_32 _ _) (Nat.le_of_ble_eq_true rfl) rfl rfl).mpr ((tt_iload (p_166_34 _ _) rfl).mpr ((tt_push (p_166_36 _ _)).mpr (t3_cmp (p := ¬ (s.1 r1 ((x2 + x5)).toNatClampNeg) = (32 : Int32)) (p_166_38 _ _) rfl (fun g6 => (tt_iload (p_166_44 _ _) rfl).mpr ((tt_push (p_166_46 _ _)).mpr (t3_cmp (p := (s.1 r1 ((x2 + x5)).toNatClampNeg) = (48 : Int32)) (p_166_48 _ _) rfl (fun g7 => (ifp (ifp h5.2 g6) g7)) (fun g7 => (tt_iload (p_166_51 _ _) rfl).mpr ((tt_push (p_166_53 _ _)).mpr (t3_cmp (p := (s.1 r1 ((x2 + x5)).toNatClampNeg) = (49 : Int32)) (p_166_55 _ _) rfl (fun g8 => (ifp (ifn (ifp h5.2 g6) g7) g8)) (fun g8 => (tt_iload (p_166_58 _ _) rfl).mpr ((tt_push (p_166_60 _ _)).mpr ((tt_push (p_166_62 _ _)).mpr (t2_calls (z := 151) (k := 3) (as := [.int (s.1 r1 ((x2 + x5)).toNatClampNeg), .int (97 : Int32), .int (99 : Int32)]) (rest := []) (p_166_64 _ _) mK_151 mL_151 rfl rfl (Nat.le_of_ble_eq_true rfl) rfl (Nat.le_of_ble_eq_true rfl) (ifn (ifn (ifp h5.2 g6) g7) g8))))))))))) (fun g6 => (tt_goto (p_166_41 _ _)).mpr ((ifn h5.2 g6)))))))))))))))
theorem b_166_67 {Y : sY} {d : Nat} {s : sT} {K : Option Int32 → sT → Prop} {r0 : Nat} {r1 : Nat} {x2 : Int32} {x3 : Int32} {x4 : Int32} {x5 : Int32} {x6 : Int32} {u7 : Value} {u8 : Value} {t0 : Int32} (h : (if t0 = 0 then tT Y (d + 1) 166 75 [.ref r0, .ref r1, .int x2, .int x3, .int x4, .int x5, .int x6, u7, u8] [.int (0 : Int32)] s K else tT Y (d + 1) 166 70 [.ref r0, .ref r1, .int x2, .int x3, .int x4, .int x5, .int x6, u7, u8] [] s K)) : tT Y (d + 1) 166 67 [.ref r0, .ref r1, .int x2, .int x3, .int x4, .int x5, .int x6, u7, u8] [.int t0] s K :=
  t3_if (p := t0 = 0) (p_166_67 _ _) rfl (fun g1 => (tt_push (p_166_74 _ _)).mpr ((ifp h g1))) (fun g1 => (ifn h g1))
theorem b_166_70 {Y : sY} {d : Nat} {s : sT} {K : Option Int32 → sT → Prop} {r0 : Nat} {r1 : Nat} {x2 : Int32} {x3 : Int32} {x4 : Int32} {x5 : Int32} {x6 : Int32} {u7 : Value} {u8 : Value} (h : tT Y (d + 1) 166 75 [.ref r0, .ref r1, .int x2, .int x3, .int x4, .int x5, .int x6, u7, u8] [.int (1 : Int32)] s K) : tT Y (d + 1) 166 70 [.ref r0, .ref r1, .int x2, .int x3, .int x4, .int x5, .int x6, u7, u8] [] s K :=
  (tt_push (p_166_70 _ _)).mpr ((tt_goto (p_166_71 _ _)).mpr (h))
theorem b_166_75 {Y : sY} {d : Nat} {s : sT} {K : Option Int32 → sT → Prop} {r0 : Nat} {r1 : Nat} {x2 : Int32} {x3 : Int32} {x4 : Int32} {x5 : Int32} {x6 : Int32} {u7 : Value} {u8 : Value} {t0 : Int32} (h : (if t0 = 0 then (if ¬ x6 = (40 : Int32) then (if x4 = 0 then (if ¬ x6 = (42 : Int32) then (if ¬ x6 = (43 : Int32) then (if ¬ x6 = (41 : Int32) then tT Y (d + 1) 166 266 [.ref r0, .ref r1, .int x2, .int x3, .int x4, .int x5, .int x6, .int t0, u8] [] s K else (isO Y r0 11 ∧ (if (s.1 r0 25) ≤ 0 then tT Y (d + 1) 166 266 [.ref r0, .ref r1, .int x2, .int x3, .int x4, .int x5, .int x6, .int t0, u8] [] s K else (isO Y r0 11 ∧ tT Y d 165 0 [.ref r0] [] s (fun r s1 => tT Y (d + 1) 166 245 [.ref r0, .ref r1, .int x2, .int x3, .int x4, .int x5, .int x6, .int t0, u8] ((r.map Value.int).toList ++ []) s1 K))))) else (isO Y r0 11 ∧ tT Y d 164 0 [.ref r0] [] s (fun r s1 => tT Y (d + 1) 166 221 [.ref r0, .ref r1, .int x2, .int x3, .int x4, .int x5, .int x6, .int t0, u8] ((r.map Value.int).toList ++ []) s1 K))) else (isO Y r0 11 ∧ (∃ a8, (isO Y r0 11 ∧ s.2 r0 24 = some a8) ∧ (isO Y r0 11 ∧ (∃ m10, (isA Y a8 0 m10 ∧ inR (s.1 r0 25) m10) ∧ (∃ a12, (isO Y r0 11 ∧ s.2 r0 22 = some a12) ∧ (∃ a14, (isO Y r0 11 ∧ s.2 r0 22 = some a14) ∧ (∃ m16, (isA Y a14 0 m16 ∧ inR ((((30 : Int32) * (s.1 r0 25)) + (s.1 a8 ((s.1 r0 25)).toNatClampNeg)) - (1 : Int32)) m16) ∧ (isO Y r0 11 ∧ tT Y d 160 0 [.ref r0, .int (s.1 a14 (((((30 : Int32) * (s.1 r0 25)) + (s.1 a8 ((s.1 r0 25)).toNatClampNeg)) - (1 : Int32))).toNatClampNeg)] [] s (fun r s1 => tT Y (d + 1) 166 206 [.ref r0, .ref r1, .int x2, .int x3, .int x4, .int x5, .int x6, .int t0, .int ((((30 : Int32) * (s.1 r0 25)) + (s.1 a8 ((s.1 r0 25)).toNatClampNeg)) - (1 : Int32))] ((r.map Value.int).toList ++ [.int ((((30 : Int32) * (s.1 r0 25)) + (s.1 a8 ((s.1 r0 25)).toNatClampNeg)) - (1 : Int32)), .ref a12]) s1 K)))))))))) else (isO Y r0 11 ∧ K (some (0 : Int32)) (pV s r0 26 x5))) else (isO Y r0 11 ∧ (isO Y r0 11 ∧ (isO Y r0 11 ∧ tT Y d 162 0 [.ref r0] [] (pV s r0 25 ((s.1 r0 25) + (1 : Int32))) (fun r s1 => tT Y (d + 1) 166 142 [.ref r0, .ref r1, .int x2, .int x3, .int x4, .int x5, .int x6, .int t0, u8] ((r.map Value.int).toList ++ []) s1 K))))) else (if ¬ x6 = (48 : Int32) then (if ¬ x6 = (49 : Int32) then tT Y (d + 1) 166 112 [.ref r0, .ref r1, .int x2, .int x3, .int x4, .int x5, .int x6, .int t0, u8] [.int (((2 : Int32) + x6) - (97 : Int32)), .ref r0] s K else tT Y (d + 1) 166 112 [.ref r0, .ref r1, .int x2, .int x3, .int x4, .int x5, .int x6, .int t0, u8] [.int (1 : Int32), .ref r0] s K) else tT Y (d + 1) 166 112 [.ref r0, .ref r1, .int x2, .int x3, .int x4, .int x5, .int x6, .int t0, u8] [.int (0 : Int32), .ref r0] s K))) : tT Y (d + 1) 166 75 [.ref r0, .ref r1, .int x2, .int x3, .int x4, .int x5, .int x6, u7, u8] [.int t0] s K :=
  (tt_istore (p_166_75 _ _) (Nat.le_of_ble_eq_true rfl) rfl rfl).mpr ((tt_iload (p_166_77 _ _) rfl).mpr (t3_if (p := t0 = 0) (p_166_79 _ _) rfl (fun g1 => (tt_iload (p_166_121 _ _) rfl).mpr ((tt_push (p_166_123 _ _)).mpr (t3_cmp (p := ¬ x6 = (40 : Int32)) (p_166_125 _ _) rfl (fun g2 => (tt_iload (p_166_148 _ _) rfl).mpr (t3_if (p := x4 = 0) (p_166_150 _ _) rfl (fun g3 => (tt_iload (p_166_161 _ _) rfl).mpr ((tt_push (p_166_163 _ _)).mpr (t3_cmp (p := ¬ x6 = (42 : Int32)) (p_166_165 _ _) rfl (fun g4 => (tt_iload (p_166_210 _ _) rfl).mpr ((tt_push (p_166_212 _ _)).mpr (t3_cmp (p := ¬ x6 = (43 : Int32)) (p_166_214 _ _) rfl (fun g5 => (tt_iload (p_166_227 _ _) rfl).mpr ((tt_push (p_166_229 _ _)).mpr (t3_cmp (p := ¬ x6 = (41 : Int32)) (p_166_231 _ _) rfl (fun g6 => (ifp (ifp (ifp (ifp (ifp (ifp h g1) g2) g3) g4) g5) g6)) (fun g6 => (tt_aload (p_166_234 _ _) rfl).mpr (t3_geti (p_166_235 _ _) (isI_11_25) (ifn (ifp (ifp (ifp (ifp (ifp h g1) g2) g3) g4) g5) g6).1 (t3_if (p := (s.1 r0 25) ≤ 0) (p_166_238 _ _) rfl (fun g7 => (ifp (ifn (ifp (ifp (ifp (ifp (ifp h g1) g2) g3) g4) g5) g6).2 g7)) (fun g7 => (tt_aload (p_166_241 _ _) rfl).mpr (t2_callv (z := 165) (k := 1) (i := r0) (as := []) (rest := []) (p_166_242 _ _) mK_165 mL_165 rfl rfl (Nat.le_of_ble_eq_true rfl) rfl (Nat.le_of_ble_eq_true rfl) (ifn (ifn (ifp (ifp (ifp (ifp (ifp h g1) g2) g3) g4) g5) g6).2 g7).1 (ifn (ifn (ifp (ifp (ifp (ifp (ifp h g1) g2) g3) g4) g5) g6).2 g7).2)))))))) (fun g5 => (tt_aload (p_166_217 _ _) rfl).mpr (t2_callv (z := 164) (k := 1) (i := r0) (as := []) (rest := []) (p_166_218 _ _) mK_164 mL_164 rfl rfl (Nat.le_of_ble_eq_true rfl) rfl (Nat.le_of_ble_eq_true rfl) (ifn (ifp (ifp (ifp (ifp h g1) g2) g3) g4) g5).1 (ifn (ifp (ifp (ifp (ifp h g1) g2) g3) g4) g5).2))))) (fun g4 => (tt_push (p_166_168 _ _)).mpr ((tt_aload (p_166_170 _ _) rfl).mpr (t3_geti (p_166_171 _ _) (isI_11_25) (ifn (ifp (ifp (ifp h g1) g2) g3) g4).1 ((tt_bin (p_166_174 _ _)).mpr ((tt_aload (p_166_175 _ _) rfl).mpr (Exists.elim (ifn (ifp (ifp (ifp h g1) g2) g3) g4).2 (fun a8 h9 => t3_getr (p_166_176 _ _) (isI_11_24) h9.1.1 h9.1.2 ((tt_aload (p_166_179 _ _) rfl).mpr (t3_geti (p_166_180 _ _) (isI_11_25) h9.2.1 (Exists.elim h9.2.2 (fun m10 h11 => t3_ald (p_166_183 _ _) h11.1.1 h11.1.2 ((tt_bin (p_166_184 _ _)).mpr ((tt_push (p_166_185 _ _)).mpr ((tt_bin (p_166_186 _ _)).mpr ((tt_istore (p_166_187 _ _) (Nat.le_of_ble_eq_true rfl) rfl rfl).mpr ((tt_aload (p_166_189 _ _) rfl).mpr (Exists.elim h11.2 (fun a12 h13 => t3_getr (p_166_190 _ _) (isI_11_22) h13.1.1 h13.1.2 ((tt_iload (p_166_193 _ _) rfl).mpr ((tt_aload (p_166_195 _ _) rfl).mpr ((tt_aload (p_166_196 _ _) rfl).mpr (Exists.elim h13.2 (fun a14 h15 => t3_getr (p_166_197 _ _) (isI_11_22) h15.1.1 h15.1.2 ((tt_iload (p_166_200 _ _) rfl).mpr (Exists.elim h15.2 (fun m16 h17 => t3_ald (p_166_202 _ _) h17.1.1 h17.1.2 (t2_callv (z := 160) (k := 2) (i := r0) (as := [.int (s.1 a14 (((((30 : Int32) * (s.1 r0 25)) + (s.1 a8 ((s.1 r0 25)).toNatClampNeg)) - (1 : Int32))).toNatClampNeg)]) (rest := [.int ((((30 : Int32) * (s.1 r0 25)) + (s.1 a8 ((s.1 r0 25)).toNatClampNeg)) - (1 : Int32)), .ref a12]) (p_166_203 _ _) mK_160 mL_160 rfl rfl (Nat.le_of_ble_eq_true rfl) rfl (Nat.le_of_ble_eq_true rfl) h17.2.1 h17.2.2)))))))))))))))))))))))))))))) (fun g3 => (tt_aload (p_166_153 _ _) rfl).mpr ((tt_iload (p_166_154 _ _) rfl).mpr ((t2_puti (p_166_156 _ _) isI_11_26 (ifn (ifp (ifp h g1) g2) g3).1).mpr ((tt_push (p_166_159 _ _)).mpr (tt_ret1 (p_166_160 _ _) (ifn (ifp (ifp h g1) g2) g3).2))))))) (fun g2 => (tt_aload (p_166_128 _ _) rfl).mpr ((tt_dupr (p_166_129 _ _)).mpr (t3_geti (p_166_130 _ _) (isI_11_25) (ifn (ifp h g1) g2).1 ((tt_push (p_166_133 _ _)).mpr ((tt_bin (p_166_134 _ _)).mpr ((t2_puti (p_166_135 _ _) isI_11_25 (ifn (ifp h g1) g2).2.1).mpr ((tt_aload (p_166_138 _ _) rfl).mpr (t2_callv (z := 162) (k := 1) (i := r0) (as := []) (rest := []) (p_166_139 _ _) mK_162 mL_162 rfl rfl (Nat.le_of_ble_eq_true rfl) rfl (Nat.le_of_ble_eq_true rfl) (ifn (ifp h g1) g2).2.2.1 (ifn (ifp h g1) g2).2.2.2))))))))))) (fun g1 => (tt_aload (p_166_82 _ _) rfl).mpr ((tt_iload (p_166_83 _ _) rfl).mpr ((tt_push (p_166_85 _ _)).mpr (t3_cmp (p := ¬ x6 = (48 : Int32)) (p_166_87 _ _) rfl (fun g18 => (tt_iload (p_166_94 _ _) rfl).mpr ((tt_push (p_166_96 _ _)).mpr (t3_cmp (p := ¬ x6 = (49 : Int32)) (p_166_98 _ _) rfl (fun g19 => (tt_push (p_166_105 _ _)).mpr ((tt_iload (p_166_106 _ _) rfl).mpr ((tt_bin (p_166_108 _ _)).mpr ((tt_push (p_166_109 _ _)).mpr ((tt_bin (p_166_111 _ _)).mpr ((ifp (ifp (ifn h g1) g18) g19))))))) (fun g19 => (tt_push (p_166_101 _ _)).mpr ((tt_goto (p_166_102 _ _)).mpr ((ifn (ifp (ifn h g1) g18) g19))))))) (fun g18 => (tt_push (p_166_90 _ _)).mpr ((tt_goto (p_166_91 _ _)).mpr ((ifn (ifn h g1) g18))))))))))
theorem b_166_112 {Y : sY} {d : Nat} {s : sT} {K : Option Int32 → sT → Prop} {r0 : Nat} {r1 : Nat} {x2 : Int32} {x3 : Int32} {x4 : Int32} {x5 : Int32} {x6 : Int32} {x7 : Int32} {u8 : Value} {t0 : Nat} {t1 : Int32} (h : (isO Y t0 11 ∧ tT Y d 163 0 [.ref t0, .int t1] [] s (fun r s1 => tT Y (d + 1) 166 115 [.ref r0, .ref r1, .int x2, .int x3, .int x4, .int x5, .int x6, .int x7, u8] ((r.map Value.int).toList ++ []) s1 K))) : tT Y (d + 1) 166 112 [.ref r0, .ref r1, .int x2, .int x3, .int x4, .int x5, .int x6, .int x7, u8] [.int t1, .ref t0] s K :=
  t2_callv (z := 163) (k := 2) (i := t0) (as := [.int t1]) (rest := []) (p_166_112 _ _) mK_163 mL_163 rfl rfl (Nat.le_of_ble_eq_true rfl) rfl (Nat.le_of_ble_eq_true rfl) h.1 h.2
theorem b_166_115 {Y : sY} {d : Nat} {s : sT} {K : Option Int32 → sT → Prop} {r0 : Nat} {r1 : Nat} {x2 : Int32} {x3 : Int32} {x4 : Int32} {x5 : Int32} {x6 : Int32} {x7 : Int32} {u8 : Value} (h : tT Y (d + 1) 166 274 [.ref r0, .ref r1, .int x2, .int x3, .int (0 : Int32), .int x5, .int x6, .int x7, u8] [] s K) : tT Y (d + 1) 166 115 [.ref r0, .ref r1, .int x2, .int x3, .int x4, .int x5, .int x6, .int x7, u8] [] s K :=
  (tt_push (p_166_115 _ _)).mpr ((tt_istore (p_166_116 _ _) (Nat.le_of_ble_eq_true rfl) rfl rfl).mpr ((tt_goto (p_166_118 _ _)).mpr (h)))
theorem b_166_142 {Y : sY} {d : Nat} {s : sT} {K : Option Int32 → sT → Prop} {r0 : Nat} {r1 : Nat} {x2 : Int32} {x3 : Int32} {x4 : Int32} {x5 : Int32} {x6 : Int32} {x7 : Int32} {u8 : Value} (h : tT Y (d + 1) 166 274 [.ref r0, .ref r1, .int x2, .int x3, .int (1 : Int32), .int x5, .int x6, .int x7, u8] [] s K) : tT Y (d + 1) 166 142 [.ref r0, .ref r1, .int x2, .int x3, .int x4, .int x5, .int x6, .int x7, u8] [] s K :=
  (tt_push (p_166_142 _ _)).mpr ((tt_istore (p_166_143 _ _) (Nat.le_of_ble_eq_true rfl) rfl rfl).mpr ((tt_goto (p_166_145 _ _)).mpr (h)))
theorem b_166_206 {Y : sY} {d : Nat} {s : sT} {K : Option Int32 → sT → Prop} {r0 : Nat} {r1 : Nat} {x2 : Int32} {x3 : Int32} {x4 : Int32} {x5 : Int32} {x6 : Int32} {x7 : Int32} {x8 : Int32} {t0 : Nat} {t1 : Int32} {t2 : Int32} (h : (∃ m1, (isA Y t0 0 m1 ∧ inR t1 m1) ∧ tT Y (d + 1) 166 274 [.ref r0, .ref r1, .int x2, .int x3, .int x4, .int x5, .int x6, .int x7, .int x8] [] (pV s t0 (t1).toNatClampNeg t2) K)) : tT Y (d + 1) 166 206 [.ref r0, .ref r1, .int x2, .int x3, .int x4, .int x5, .int x6, .int x7, .int x8] [.int t2, .int t1, .ref t0] s K :=
  Exists.elim h (fun m1 h2 => t3_ast (p_166_206 _ _) h2.1.1 h2.1.2 ((tt_goto (p_166_207 _ _)).mpr (h2.2)))
theorem b_166_221 {Y : sY} {d : Nat} {s : sT} {K : Option Int32 → sT → Prop} {r0 : Nat} {r1 : Nat} {x2 : Int32} {x3 : Int32} {x4 : Int32} {x5 : Int32} {x6 : Int32} {x7 : Int32} {u8 : Value} (h : tT Y (d + 1) 166 274 [.ref r0, .ref r1, .int x2, .int x3, .int (1 : Int32), .int x5, .int x6, .int x7, u8] [] s K) : tT Y (d + 1) 166 221 [.ref r0, .ref r1, .int x2, .int x3, .int x4, .int x5, .int x6, .int x7, u8] [] s K :=
  (tt_push (p_166_221 _ _)).mpr ((tt_istore (p_166_222 _ _) (Nat.le_of_ble_eq_true rfl) rfl rfl).mpr ((tt_goto (p_166_224 _ _)).mpr (h)))
theorem b_166_245 {Y : sY} {d : Nat} {s : sT} {K : Option Int32 → sT → Prop} {r0 : Nat} {r1 : Nat} {x2 : Int32} {x3 : Int32} {x4 : Int32} {x5 : Int32} {x6 : Int32} {x7 : Int32} {u8 : Value} {t0 : Int32} (h : (isO Y r0 11 ∧ (isO Y r0 11 ∧ (isO Y r0 11 ∧ tT Y d 163 0 [.ref r0, .int t0] [] (pV s r0 25 ((s.1 r0 25) - (1 : Int32))) (fun r s1 => tT Y (d + 1) 166 263 [.ref r0, .ref r1, .int x2, .int x3, .int x4, .int x5, .int x6, .int x7, .int t0] ((r.map Value.int).toList ++ []) s1 K))))) : tT Y (d + 1) 166 245 [.ref r0, .ref r1, .int x2, .int x3, .int x4, .int x5, .int x6, .int x7, u8] [.int t0] s K :=
  (tt_istore (p_166_245 _ _) (Nat.le_of_ble_eq_true rfl) rfl rfl).mpr ((tt_aload (p_166_247 _ _) rfl).mpr ((tt_dupr (p_166_248 _ _)).mpr (t3_geti (p_166_249 _ _) (isI_11_25) h.1 ((tt_push (p_166_252 _ _)).mpr ((tt_bin (p_166_253 _ _)).mpr ((t2_puti (p_166_254 _ _) isI_11_25 h.2.1).mpr ((tt_aload (p_166_257 _ _) rfl).mpr ((tt_iload (p_166_258 _ _) rfl).mpr (t2_callv (z := 163) (k := 2) (i := r0) (as := [.int t0]) (rest := []) (p_166_260 _ _) mK_163 mL_163 rfl rfl (Nat.le_of_ble_eq_true rfl) rfl (Nat.le_of_ble_eq_true rfl) h.2.2.1 h.2.2.2)))))))))
theorem b_166_263 {Y : sY} {d : Nat} {s : sT} {K : Option Int32 → sT → Prop} {r0 : Nat} {r1 : Nat} {x2 : Int32} {x3 : Int32} {x4 : Int32} {x5 : Int32} {x6 : Int32} {x7 : Int32} {x8 : Int32} (h : tT Y (d + 1) 166 274 [.ref r0, .ref r1, .int x2, .int x3, .int x4, .int x5, .int x6, .int x7, .int x8] [] s K) : tT Y (d + 1) 166 263 [.ref r0, .ref r1, .int x2, .int x3, .int x4, .int x5, .int x6, .int x7, .int x8] [] s K :=
  (tt_goto (p_166_263 _ _)).mpr (h)
theorem b_166_266 {Y : sY} {d : Nat} {s : sT} {K : Option Int32 → sT → Prop} {r0 : Nat} {r1 : Nat} {x2 : Int32} {x3 : Int32} {x4 : Int32} {x5 : Int32} {x6 : Int32} {x7 : Int32} {u8 : Value} (h : (isO Y r0 11 ∧ K (some (0 : Int32)) (pV s r0 26 x5))) : tT Y (d + 1) 166 266 [.ref r0, .ref r1, .int x2, .int x3, .int x4, .int x5, .int x6, .int x7, u8] [] s K :=
  (tt_aload (p_166_266 _ _) rfl).mpr ((tt_iload (p_166_267 _ _) rfl).mpr ((t2_puti (p_166_269 _ _) isI_11_26 h.1).mpr ((tt_push (p_166_272 _ _)).mpr (tt_ret1 (p_166_273 _ _) h.2))))
theorem b_166_274 {Y : sY} {d : Nat} {s : sT} {K : Option Int32 → sT → Prop} {r0 : Nat} {r1 : Nat} {x2 : Int32} {x3 : Int32} {x4 : Int32} {x5 : Int32} {x6 : Int32} {u7 : Value} {u8 : Value} (h : tT Y (d + 1) 166 20 [.ref r0, .ref r1, .int x2, .int x3, .int x4, .int (x5 + 1), .int x6, u7, u8] [] s K) : tT Y (d + 1) 166 274 [.ref r0, .ref r1, .int x2, .int x3, .int x4, .int x5, .int x6, u7, u8] [] s K :=
  (tt_iinc (p_166_274 _ _) rfl rfl rfl).mpr ((tt_goto (p_166_277 _ _)).mpr (h))
theorem b_166_292 {Y : sY} {d : Nat} {s : sT} {K : Option Int32 → sT → Prop} {r0 : Nat} {r1 : Nat} {x2 : Int32} {x3 : Int32} {x4 : Int32} {x5 : Int32} {u6 : Value} {u7 : Value} {u8 : Value} (h : (isO Y r0 11 ∧ K (some (0 : Int32)) (pV s r0 26 x3))) : tT Y (d + 1) 166 292 [.ref r0, .ref r1, .int x2, .int x3, .int x4, .int x5, u6, u7, u8] [] s K :=
  (tt_aload (p_166_292 _ _) rfl).mpr ((tt_iload (p_166_293 _ _) rfl).mpr ((t2_puti (p_166_294 _ _) isI_11_26 h.1).mpr ((tt_push (p_166_297 _ _)).mpr (tt_ret1 (p_166_298 _ _) h.2))))
theorem b_166_303 {Y : sY} {d : Nat} {s : sT} {K : Option Int32 → sT → Prop} {r0 : Nat} {r1 : Nat} {x2 : Int32} {x3 : Int32} {x4 : Int32} {x5 : Int32} {u6 : Value} {u7 : Value} {u8 : Value} {t0 : Int32} (h : K (some t0) s) : tT Y (d + 1) 166 303 [.ref r0, .ref r1, .int x2, .int x3, .int x4, .int x5, u6, u7, u8] [.int t0] s K :=
  tt_ret1 (p_166_303 _ _) h
/-! InclusionProverModel.pushes.(II)V -/
theorem p_167_0 (L : Nat) (xs : Nat → Int32) : ll_P L xs 167 0 = some (.inl (lo_aload 1 0)) := (P_167 L xs 0).trans rfl
theorem p_167_1 (L : Nat) (xs : Nat → Int32) : ll_P L xs 167 1 = some (.inl (lo_getf 4 11 27)) := (P_167 L xs 1).trans rfl
theorem p_167_4 (L : Nat) (xs : Nat → Int32) : ll_P L xs 167 4 = some (.inl (lo_aload 5 0)) := (P_167 L xs 4).trans rfl
theorem p_167_5 (L : Nat) (xs : Nat → Int32) : ll_P L xs 167 5 = some (.inl (lo_getf 8 11 29)) := (P_167 L xs 5).trans rfl
theorem p_167_8 (L : Nat) (xs : Nat → Int32) : ll_P L xs 167 8 = some (.inl (lo_push 9 (.int 3))) := (P_167 L xs 8).trans rfl
theorem p_167_9 (L : Nat) (xs : Nat → Int32) : ll_P L xs 167 9 = some (.inl (lo_iload 10 1)) := (P_167 L xs 9).trans rfl
theorem p_167_10 (L : Nat) (xs : Nat → Int32) : ll_P L xs 167 10 = some (.inl (lo_bin 11 (fun x y => x * y))) := (P_167 L xs 10).trans rfl
theorem p_167_11 (L : Nat) (xs : Nat → Int32) : ll_P L xs 167 11 = some (.inl (lo_iload 12 2)) := (P_167 L xs 11).trans rfl
theorem p_167_12 (L : Nat) (xs : Nat → Int32) : ll_P L xs 167 12 = some (.inl (lo_bin 13 (fun x y => x + y))) := (P_167 L xs 12).trans rfl
theorem p_167_13 (L : Nat) (xs : Nat → Int32) : ll_P L xs 167 13 = some (.inl (lo_ast 14 0)) := (P_167 L xs 13).trans rfl
theorem p_167_14 (L : Nat) (xs : Nat → Int32) : ll_P L xs 167 14 = some (.inl (lo_aload 15 0)) := (P_167 L xs 14).trans rfl
theorem p_167_15 (L : Nat) (xs : Nat → Int32) : ll_P L xs 167 15 = some (.inl (lo_dup 16)) := (P_167 L xs 15).trans rfl
theorem p_167_16 (L : Nat) (xs : Nat → Int32) : ll_P L xs 167 16 = some (.inl (lo_getf 19 11 29)) := (P_167 L xs 16).trans rfl
theorem p_167_19 (L : Nat) (xs : Nat → Int32) : ll_P L xs 167 19 = some (.inl (lo_push 20 (.int 1))) := (P_167 L xs 19).trans rfl
theorem p_167_20 (L : Nat) (xs : Nat → Int32) : ll_P L xs 167 20 = some (.inl (lo_bin 21 (fun x y => x + y))) := (P_167 L xs 20).trans rfl
theorem p_167_21 (L : Nat) (xs : Nat → Int32) : ll_P L xs 167 21 = some (.inl (lo_putf 24 11 29 0)) := (P_167 L xs 21).trans rfl
theorem p_167_24 (L : Nat) (xs : Nat → Int32) : ll_P L xs 167 24 = some (.inr (.inr 0)) := (P_167 L xs 24).trans rfl
theorem b_167_0 {Y : sY} {d : Nat} {s : sT} {K : Option Int32 → sT → Prop} {r0 : Nat} {x1 : Int32} {x2 : Int32} (h : (∃ a1, (isO Y r0 11 ∧ s.2 r0 27 = some a1) ∧ (isO Y r0 11 ∧ (∃ m3, (isA Y a1 0 m3 ∧ inR (s.1 r0 29) m3) ∧ (isO Y r0 11 ∧ (isO Y r0 11 ∧ K none (pV (pV s a1 ((s.1 r0 29)).toNatClampNeg (((3 : Int32) * x1) + x2)) r0 29 (((pV s a1 ((s.1 r0 29)).toNatClampNeg (((3 : Int32) * x1) + x2)).1 r0 29) + (1 : Int32))))))))) : tT Y d 167 0 [.ref r0, .int x1, .int x2] [] s K :=
  (tt_aload (p_167_0 _ _) rfl).mpr (Exists.elim h (fun a1 h2 => t3_getr (p_167_1 _ _) (isI_11_27) h2.1.1 h2.1.2 ((tt_aload (p_167_4 _ _) rfl).mpr (t3_geti (p_167_5 _ _) (isI_11_29) h2.2.1 ((tt_push (p_167_8 _ _)).mpr ((tt_iload (p_167_9 _ _) rfl).mpr ((tt_bin (p_167_10 _ _)).mpr ((tt_iload (p_167_11 _ _) rfl).mpr ((tt_bin (p_167_12 _ _)).mpr (Exists.elim h2.2.2 (fun m3 h4 => t3_ast (p_167_13 _ _) h4.1.1 h4.1.2 ((tt_aload (p_167_14 _ _) rfl).mpr ((tt_dupr (p_167_15 _ _)).mpr (t3_geti (p_167_16 _ _) (isI_11_29) h4.2.1 ((tt_push (p_167_19 _ _)).mpr ((tt_bin (p_167_20 _ _)).mpr ((t2_puti (p_167_21 _ _) isI_11_29 h4.2.2.1).mpr (tt_ret0 (p_167_24 _ _) h4.2.2.2))))))))))))))))))
/-! InclusionProverModel.pushesByte.(I)V -/
theorem p_168_0 (L : Nat) (xs : Nat → Int32) : ll_P L xs 168 0 = some (.inl (lo_aload 1 0)) := (P_168 L xs 0).trans rfl
theorem p_168_1 (L : Nat) (xs : Nat → Int32) : ll_P L xs 168 1 = some (.inl (lo_getf 4 11 27)) := (P_168 L xs 1).trans rfl
theorem p_168_4 (L : Nat) (xs : Nat → Int32) : ll_P L xs 168 4 = some (.inl (lo_aload 5 0)) := (P_168 L xs 4).trans rfl
theorem p_168_5 (L : Nat) (xs : Nat → Int32) : ll_P L xs 168 5 = some (.inl (lo_getf 8 11 29)) := (P_168 L xs 5).trans rfl
theorem p_168_8 (L : Nat) (xs : Nat → Int32) : ll_P L xs 168 8 = some (.inl (lo_push 9 (.int (-1)))) := (P_168 L xs 8).trans rfl
theorem p_168_9 (L : Nat) (xs : Nat → Int32) : ll_P L xs 168 9 = some (.inl (lo_iload 10 1)) := (P_168 L xs 9).trans rfl
theorem p_168_10 (L : Nat) (xs : Nat → Int32) : ll_P L xs 168 10 = some (.inl (lo_bin 11 (fun x y => x - y))) := (P_168 L xs 10).trans rfl
theorem p_168_11 (L : Nat) (xs : Nat → Int32) : ll_P L xs 168 11 = some (.inl (lo_ast 12 0)) := (P_168 L xs 11).trans rfl
theorem p_168_12 (L : Nat) (xs : Nat → Int32) : ll_P L xs 168 12 = some (.inl (lo_aload 13 0)) := (P_168 L xs 12).trans rfl
theorem p_168_13 (L : Nat) (xs : Nat → Int32) : ll_P L xs 168 13 = some (.inl (lo_dup 14)) := (P_168 L xs 13).trans rfl
theorem p_168_14 (L : Nat) (xs : Nat → Int32) : ll_P L xs 168 14 = some (.inl (lo_getf 17 11 29)) := (P_168 L xs 14).trans rfl
theorem p_168_17 (L : Nat) (xs : Nat → Int32) : ll_P L xs 168 17 = some (.inl (lo_push 18 (.int 1))) := (P_168 L xs 17).trans rfl
theorem p_168_18 (L : Nat) (xs : Nat → Int32) : ll_P L xs 168 18 = some (.inl (lo_bin 19 (fun x y => x + y))) := (P_168 L xs 18).trans rfl
theorem p_168_19 (L : Nat) (xs : Nat → Int32) : ll_P L xs 168 19 = some (.inl (lo_putf 22 11 29 0)) := (P_168 L xs 19).trans rfl
theorem p_168_22 (L : Nat) (xs : Nat → Int32) : ll_P L xs 168 22 = some (.inr (.inr 0)) := (P_168 L xs 22).trans rfl
theorem b_168_0 {Y : sY} {d : Nat} {s : sT} {K : Option Int32 → sT → Prop} {r0 : Nat} {x1 : Int32} (h : (∃ a1, (isO Y r0 11 ∧ s.2 r0 27 = some a1) ∧ (isO Y r0 11 ∧ (∃ m3, (isA Y a1 0 m3 ∧ inR (s.1 r0 29) m3) ∧ (isO Y r0 11 ∧ (isO Y r0 11 ∧ K none (pV (pV s a1 ((s.1 r0 29)).toNatClampNeg ((-1 : Int32) - x1)) r0 29 (((pV s a1 ((s.1 r0 29)).toNatClampNeg ((-1 : Int32) - x1)).1 r0 29) + (1 : Int32))))))))) : tT Y d 168 0 [.ref r0, .int x1] [] s K :=
  (tt_aload (p_168_0 _ _) rfl).mpr (Exists.elim h (fun a1 h2 => t3_getr (p_168_1 _ _) (isI_11_27) h2.1.1 h2.1.2 ((tt_aload (p_168_4 _ _) rfl).mpr (t3_geti (p_168_5 _ _) (isI_11_29) h2.2.1 ((tt_push (p_168_8 _ _)).mpr ((tt_iload (p_168_9 _ _) rfl).mpr ((tt_bin (p_168_10 _ _)).mpr (Exists.elim h2.2.2 (fun m3 h4 => t3_ast (p_168_11 _ _) h4.1.1 h4.1.2 ((tt_aload (p_168_12 _ _) rfl).mpr ((tt_dupr (p_168_13 _ _)).mpr (t3_geti (p_168_14 _ _) (isI_11_29) h4.2.1 ((tt_push (p_168_17 _ _)).mpr ((tt_bin (p_168_18 _ _)).mpr ((t2_puti (p_168_19 _ _) isI_11_29 h4.2.2.1).mpr (tt_ret0 (p_168_22 _ _) h4.2.2.2))))))))))))))))
/-! InclusionProverModel.spells.(I)V -/
theorem p_169_0 (L : Nat) (xs : Nat → Int32) : ll_P L xs 169 0 = some (.inl (lo_aload 1 0)) := (P_169 L xs 0).trans rfl
theorem p_169_1 (L : Nat) (xs : Nat → Int32) : ll_P L xs 169 1 = some (.inl (lo_push 2 (.int 0))) := (P_169 L xs 1).trans rfl
theorem p_169_2 (L : Nat) (xs : Nat → Int32) : ll_P L xs 169 2 = some (.inl (lo_putf 5 11 29 0)) := (P_169 L xs 2).trans rfl
theorem p_169_5 (L : Nat) (xs : Nat → Int32) : ll_P L xs 169 5 = some (.inl (lo_aload 6 0)) := (P_169 L xs 5).trans rfl
theorem p_169_6 (L : Nat) (xs : Nat → Int32) : ll_P L xs 169 6 = some (.inl (lo_push 7 (.int 0))) := (P_169 L xs 6).trans rfl
theorem p_169_7 (L : Nat) (xs : Nat → Int32) : ll_P L xs 169 7 = some (.inl (lo_putf 10 11 30 0)) := (P_169 L xs 7).trans rfl
theorem p_169_10 (L : Nat) (xs : Nat → Int32) : ll_P L xs 169 10 = some (.inl (lo_aload 11 0)) := (P_169 L xs 10).trans rfl
theorem p_169_11 (L : Nat) (xs : Nat → Int32) : ll_P L xs 169 11 = some (.inl (lo_iload 12 1)) := (P_169 L xs 11).trans rfl
theorem p_169_12 (L : Nat) (xs : Nat → Int32) : ll_P L xs 169 12 = some (.inl (lo_push 13 (.int 0))) := (P_169 L xs 12).trans rfl
theorem p_169_13 (L : Nat) (xs : Nat → Int32) : ll_P L xs 169 13 = some (.inr (.inl (167, 3, 16))) := (P_169 L xs 13).trans rfl
theorem p_169_16 (L : Nat) (xs : Nat → Int32) : ll_P L xs 169 16 = some (.inl (lo_aload 17 0)) := (P_169 L xs 16).trans rfl
theorem p_169_17 (L : Nat) (xs : Nat → Int32) : ll_P L xs 169 17 = some (.inl (lo_getf 20 11 29)) := (P_169 L xs 17).trans rfl
theorem p_169_20 (L : Nat) (xs : Nat → Int32) : ll_P L xs 169 20 = some (.inl (lo_if 85 23 (fun x => decide (x ≤ 0)))) := (P_169 L xs 20).trans rfl
theorem p_169_23 (L : Nat) (xs : Nat → Int32) : ll_P L xs 169 23 = some (.inl (lo_aload 24 0)) := (P_169 L xs 23).trans rfl
theorem p_169_24 (L : Nat) (xs : Nat → Int32) : ll_P L xs 169 24 = some (.inl (lo_dup 25)) := (P_169 L xs 24).trans rfl
theorem p_169_25 (L : Nat) (xs : Nat → Int32) : ll_P L xs 169 25 = some (.inl (lo_getf 28 11 29)) := (P_169 L xs 25).trans rfl
theorem p_169_28 (L : Nat) (xs : Nat → Int32) : ll_P L xs 169 28 = some (.inl (lo_push 29 (.int 1))) := (P_169 L xs 28).trans rfl
theorem p_169_29 (L : Nat) (xs : Nat → Int32) : ll_P L xs 169 29 = some (.inl (lo_bin 30 (fun x y => x - y))) := (P_169 L xs 29).trans rfl
theorem p_169_30 (L : Nat) (xs : Nat → Int32) : ll_P L xs 169 30 = some (.inl (lo_putf 33 11 29 0)) := (P_169 L xs 30).trans rfl
theorem p_169_33 (L : Nat) (xs : Nat → Int32) : ll_P L xs 169 33 = some (.inl (lo_aload 34 0)) := (P_169 L xs 33).trans rfl
theorem p_169_34 (L : Nat) (xs : Nat → Int32) : ll_P L xs 169 34 = some (.inl (lo_getf 37 11 27)) := (P_169 L xs 34).trans rfl
theorem p_169_37 (L : Nat) (xs : Nat → Int32) : ll_P L xs 169 37 = some (.inl (lo_aload 38 0)) := (P_169 L xs 37).trans rfl
theorem p_169_38 (L : Nat) (xs : Nat → Int32) : ll_P L xs 169 38 = some (.inl (lo_getf 41 11 29)) := (P_169 L xs 38).trans rfl
theorem p_169_41 (L : Nat) (xs : Nat → Int32) : ll_P L xs 169 41 = some (.inl (lo_ald 42 0)) := (P_169 L xs 41).trans rfl
theorem p_169_42 (L : Nat) (xs : Nat → Int32) : ll_P L xs 169 42 = some (.inl (lo_istore 43 2)) := (P_169 L xs 42).trans rfl
theorem p_169_43 (L : Nat) (xs : Nat → Int32) : ll_P L xs 169 43 = some (.inl (lo_iload 44 2)) := (P_169 L xs 43).trans rfl
theorem p_169_44 (L : Nat) (xs : Nat → Int32) : ll_P L xs 169 44 = some (.inl (lo_if 72 47 (fun x => decide (0 ≤ x)))) := (P_169 L xs 44).trans rfl
theorem p_169_47 (L : Nat) (xs : Nat → Int32) : ll_P L xs 169 47 = some (.inl (lo_aload 48 0)) := (P_169 L xs 47).trans rfl
theorem p_169_48 (L : Nat) (xs : Nat → Int32) : ll_P L xs 169 48 = some (.inl (lo_getf 51 11 28)) := (P_169 L xs 48).trans rfl
theorem p_169_51 (L : Nat) (xs : Nat → Int32) : ll_P L xs 169 51 = some (.inl (lo_aload 52 0)) := (P_169 L xs 51).trans rfl
theorem p_169_52 (L : Nat) (xs : Nat → Int32) : ll_P L xs 169 52 = some (.inl (lo_getf 55 11 30)) := (P_169 L xs 52).trans rfl
theorem p_169_55 (L : Nat) (xs : Nat → Int32) : ll_P L xs 169 55 = some (.inl (lo_push 56 (.int (-1)))) := (P_169 L xs 55).trans rfl
theorem p_169_56 (L : Nat) (xs : Nat → Int32) : ll_P L xs 169 56 = some (.inl (lo_iload 57 2)) := (P_169 L xs 56).trans rfl
theorem p_169_57 (L : Nat) (xs : Nat → Int32) : ll_P L xs 169 57 = some (.inl (lo_bin 58 (fun x y => x - y))) := (P_169 L xs 57).trans rfl
theorem p_169_58 (L : Nat) (xs : Nat → Int32) : ll_P L xs 169 58 = some (.inl (lo_ast 59 0)) := (P_169 L xs 58).trans rfl
theorem p_169_59 (L : Nat) (xs : Nat → Int32) : ll_P L xs 169 59 = some (.inl (lo_aload 60 0)) := (P_169 L xs 59).trans rfl
theorem p_169_60 (L : Nat) (xs : Nat → Int32) : ll_P L xs 169 60 = some (.inl (lo_dup 61)) := (P_169 L xs 60).trans rfl
theorem p_169_61 (L : Nat) (xs : Nat → Int32) : ll_P L xs 169 61 = some (.inl (lo_getf 64 11 30)) := (P_169 L xs 61).trans rfl
theorem p_169_64 (L : Nat) (xs : Nat → Int32) : ll_P L xs 169 64 = some (.inl (lo_push 65 (.int 1))) := (P_169 L xs 64).trans rfl
theorem p_169_65 (L : Nat) (xs : Nat → Int32) : ll_P L xs 169 65 = some (.inl (lo_bin 66 (fun x y => x + y))) := (P_169 L xs 65).trans rfl
theorem p_169_66 (L : Nat) (xs : Nat → Int32) : ll_P L xs 169 66 = some (.inl (lo_putf 69 11 30 0)) := (P_169 L xs 66).trans rfl
theorem p_169_69 (L : Nat) (xs : Nat → Int32) : ll_P L xs 169 69 = some (.inl (lo_goto 82)) := (P_169 L xs 69).trans rfl
theorem p_169_72 (L : Nat) (xs : Nat → Int32) : ll_P L xs 169 72 = some (.inl (lo_aload 73 0)) := (P_169 L xs 72).trans rfl
theorem p_169_73 (L : Nat) (xs : Nat → Int32) : ll_P L xs 169 73 = some (.inl (lo_iload 74 2)) := (P_169 L xs 73).trans rfl
theorem p_169_74 (L : Nat) (xs : Nat → Int32) : ll_P L xs 169 74 = some (.inl (lo_push 75 (.int 3))) := (P_169 L xs 74).trans rfl
theorem p_169_75 (L : Nat) (xs : Nat → Int32) : ll_P L xs 169 75 = some (.inl (lo_div 76 (fun x y => x / y))) := (P_169 L xs 75).trans rfl
theorem p_169_76 (L : Nat) (xs : Nat → Int32) : ll_P L xs 169 76 = some (.inl (lo_iload 77 2)) := (P_169 L xs 76).trans rfl
theorem p_169_77 (L : Nat) (xs : Nat → Int32) : ll_P L xs 169 77 = some (.inl (lo_push 78 (.int 3))) := (P_169 L xs 77).trans rfl
theorem p_169_78 (L : Nat) (xs : Nat → Int32) : ll_P L xs 169 78 = some (.inl (lo_div 79 (fun x y => x - x / y * y))) := (P_169 L xs 78).trans rfl
theorem p_169_79 (L : Nat) (xs : Nat → Int32) : ll_P L xs 169 79 = some (.inr (.inl (170, 3, 82))) := (P_169 L xs 79).trans rfl
theorem p_169_82 (L : Nat) (xs : Nat → Int32) : ll_P L xs 169 82 = some (.inl (lo_goto 16)) := (P_169 L xs 82).trans rfl
theorem p_169_85 (L : Nat) (xs : Nat → Int32) : ll_P L xs 169 85 = some (.inr (.inr 0)) := (P_169 L xs 85).trans rfl
theorem b_169_0 {Y : sY} {d : Nat} {s : sT} {K : Option Int32 → sT → Prop} {r0 : Nat} {x1 : Int32} (h : (isO Y r0 11 ∧ (isO Y r0 11 ∧ (isO Y r0 11 ∧ tT Y d 167 0 [.ref r0, .int x1, .int (0 : Int32)] [] (pV (pV s r0 29 (0 : Int32)) r0 30 (0 : Int32)) (fun r s1 => tT Y (d + 1) 169 16 [.ref r0, .int x1, .null] ((r.map Value.int).toList ++ []) s1 K))))) : tT Y (d + 1) 169 0 [.ref r0, .int x1, .null] [] s K :=
  (tt_aload (p_169_0 _ _) rfl).mpr ((tt_push (p_169_1 _ _)).mpr ((t2_puti (p_169_2 _ _) isI_11_29 h.1).mpr ((tt_aload (p_169_5 _ _) rfl).mpr ((tt_push (p_169_6 _ _)).mpr ((t2_puti (p_169_7 _ _) isI_11_30 h.2.1).mpr ((tt_aload (p_169_10 _ _) rfl).mpr ((tt_iload (p_169_11 _ _) rfl).mpr ((tt_push (p_169_12 _ _)).mpr (t2_callv (z := 167) (k := 3) (i := r0) (as := [.int x1, .int (0 : Int32)]) (rest := []) (p_169_13 _ _) mK_167 mL_167 rfl rfl (Nat.le_of_ble_eq_true rfl) rfl (Nat.le_of_ble_eq_true rfl) h.2.2.1 h.2.2.2)))))))))
theorem b_169_16 {Y : sY} {d : Nat} {s : sT} {K : Option Int32 → sT → Prop} {r0 : Nat} {x1 : Int32} {u2 : Value} (h : (isO Y r0 11 ∧ (if (s.1 r0 29) ≤ 0 then K none s else (isO Y r0 11 ∧ (isO Y r0 11 ∧ (∃ a2, (isO Y r0 11 ∧ (pV s r0 29 ((s.1 r0 29) - (1 : Int32))).2 r0 27 = some a2) ∧ (isO Y r0 11 ∧ (∃ m4, (isA Y a2 0 m4 ∧ inR ((pV s r0 29 ((s.1 r0 29) - (1 : Int32))).1 r0 29) m4) ∧ (if 0 ≤ ((pV s r0 29 ((s.1 r0 29) - (1 : Int32))).1 a2 (((pV s r0 29 ((s.1 r0 29) - (1 : Int32))).1 r0 29)).toNatClampNeg) then (¬ (3 : Int32) = 0 ∧ (¬ (3 : Int32) = 0 ∧ (isO Y r0 11 ∧ tT Y d 170 0 [.ref r0, .int (((pV s r0 29 ((s.1 r0 29) - (1 : Int32))).1 a2 (((pV s r0 29 ((s.1 r0 29) - (1 : Int32))).1 r0 29)).toNatClampNeg) / (3 : Int32)), .int (((pV s r0 29 ((s.1 r0 29) - (1 : Int32))).1 a2 (((pV s r0 29 ((s.1 r0 29) - (1 : Int32))).1 r0 29)).toNatClampNeg) - ((pV s r0 29 ((s.1 r0 29) - (1 : Int32))).1 a2 (((pV s r0 29 ((s.1 r0 29) - (1 : Int32))).1 r0 29)).toNatClampNeg) / (3 : Int32) * (3 : Int32)), .null, .null, .null] [] (pV s r0 29 ((s.1 r0 29) - (1 : Int32))) (fun r s1 => tT Y (d + 1) 169 82 [.ref r0, .int x1, .int ((pV s r0 29 ((s.1 r0 29) - (1 : Int32))).1 a2 (((pV s r0 29 ((s.1 r0 29) - (1 : Int32))).1 r0 29)).toNatClampNeg)] ((r.map Value.int).toList ++ []) s1 K)))) else (∃ a7, (isO Y r0 11 ∧ (pV s r0 29 ((s.1 r0 29) - (1 : Int32))).2 r0 28 = some a7) ∧ (isO Y r0 11 ∧ (∃ m9, (isA Y a7 0 m9 ∧ inR ((pV s r0 29 ((s.1 r0 29) - (1 : Int32))).1 r0 30) m9) ∧ (isO Y r0 11 ∧ (isO Y r0 11 ∧ tT Y (d + 1) 169 82 [.ref r0, .int x1, .int ((pV s r0 29 ((s.1 r0 29) - (1 : Int32))).1 a2 (((pV s r0 29 ((s.1 r0 29) - (1 : Int32))).1 r0 29)).toNatClampNeg)] [] (pV (pV (pV s r0 29 ((s.1 r0 29) - (1 : Int32))) a7 (((pV s r0 29 ((s.1 r0 29) - (1 : Int32))).1 r0 30)).toNatClampNeg ((-1 : Int32) - ((pV s r0 29 ((s.1 r0 29) - (1 : Int32))).1 a2 (((pV s r0 29 ((s.1 r0 29) - (1 : Int32))).1 r0 29)).toNatClampNeg))) r0 30 (((pV (pV s r0 29 ((s.1 r0 29) - (1 : Int32))) a7 (((pV s r0 29 ((s.1 r0 29) - (1 : Int32))).1 r0 30)).toNatClampNeg ((-1 : Int32) - ((pV s r0 29 ((s.1 r0 29) - (1 : Int32))).1 a2 (((pV s r0 29 ((s.1 r0 29) - (1 : Int32))).1 r0 29)).toNatClampNeg))).1 r0 30) + (1 : Int32))) K)))))))))))))) : tT Y (d + 1) 169 16 [.ref r0, .int x1, u2] [] s K :=
  (tt_aload (p_169_16 _ _) rfl).mpr (t3_geti (p_169_17 _ _) (isI_11_29) h.1 (t3_if (p := (s.1 r0 29) ≤ 0) (p_169_20 _ _) rfl (fun g1 => tt_ret0 (p_169_85 _ _) (ifp h.2 g1)) (fun g1 => (tt_aload (p_169_23 _ _) rfl).mpr ((tt_dupr (p_169_24 _ _)).mpr (t3_geti (p_169_25 _ _) (isI_11_29) (ifn h.2 g1).1 ((tt_push (p_169_28 _ _)).mpr ((tt_bin (p_169_29 _ _)).mpr ((t2_puti (p_169_30 _ _) isI_11_29 (ifn h.2 g1).2.1).mpr ((tt_aload (p_169_33 _ _) rfl).mpr (Exists.elim (ifn h.2 g1).2.2 (fun a2 h3 => t3_getr (p_169_34 _ _) (isI_11_27) h3.1.1 h3.1.2 ((tt_aload (p_169_37 _ _) rfl).mpr (t3_geti (p_169_38 _ _) (isI_11_29) h3.2.1 (Exists.elim h3.2.2 (fun m4 h5 => t3_ald (p_169_41 _ _) h5.1.1 h5.1.2 ((tt_istore (p_169_42 _ _) (Nat.le_of_ble_eq_true rfl) rfl rfl).mpr ((tt_iload (p_169_43 _ _) rfl).mpr (t3_if (p := 0 ≤ ((pV s r0 29 ((s.1 r0 29) - (1 : Int32))).1 a2 (((pV s r0 29 ((s.1 r0 29) - (1 : Int32))).1 r0 29)).toNatClampNeg)) (p_169_44 _ _) rfl (fun g6 => (tt_aload (p_169_72 _ _) rfl).mpr ((tt_iload (p_169_73 _ _) rfl).mpr ((tt_push (p_169_74 _ _)).mpr ((tt_div (p_169_75 _ _) (ifp h5.2 g6).1).mpr ((tt_iload (p_169_76 _ _) rfl).mpr ((tt_push (p_169_77 _ _)).mpr ((tt_div (p_169_78 _ _) (ifp h5.2 g6).2.1).mpr (t2_callv (z := 170) (k := 3) (i := r0) (as := [.int (((pV s r0 29 ((s.1 r0 29) - (1 : Int32))).1 a2 (((pV s r0 29 ((s.1 r0 29) - (1 : Int32))).1 r0 29)).toNatClampNeg) / (3 : Int32)), .int (((pV s r0 29 ((s.1 r0 29) - (1 : Int32))).1 a2 (((pV s r0 29 ((s.1 r0 29) - (1 : Int32))).1 r0 29)).toNatClampNeg) - ((pV s r0 29 ((s.1 r0 29) - (1 : Int32))).1 a2 (((pV s r0 29 ((s.1 r0 29) - (1 : Int32))).1 r0 29)).toNatClampNeg) / (3 : Int32) * (3 : Int32))]) (rest := []) (p_169_79 _ _) mK_170 mL_170 rfl rfl (Nat.le_of_ble_eq_true rfl) rfl (Nat.le_of_ble_eq_true rfl) (ifp h5.2 g6).2.2.1 (ifp h5.2 g6).2.2.2)))))))) (fun g6 => (tt_aload (p_169_47 _ _) rfl).mpr (Exists.elim (ifn h5.2 g6) (fun a7 h8 => t3_getr (p_169_48 _ _) (isI_11_28) h8.1.1 h8.1.2 ((tt_aload (p_169_51 _ _) rfl).mpr (t3_geti (p_169_52 _ _) (isI_11_30) h8.2.1 ((tt_push (p_169_55 _ _)).mpr ((tt_iload (p_169_56 _ _) rfl).mpr ((tt_bin (p_169_57 _ _)).mpr (Exists.elim h8.2.2 (fun m9 h10 => t3_ast (p_169_58 _ _) h10.1.1 h10.1.2 ((tt_aload (p_169_59 _ _) rfl).mpr ((tt_dupr (p_169_60 _ _)).mpr (t3_geti (p_169_61 _ _) (isI_11_30) h10.2.1 ((tt_push (p_169_64 _ _)).mpr ((tt_bin (p_169_65 _ _)).mpr ((t2_puti (p_169_66 _ _) isI_11_30 h10.2.2.1).mpr ((tt_goto (p_169_69 _ _)).mpr (h10.2.2.2))))))))))))))))))))))))))))))))))))
theorem b_169_82 {Y : sY} {d : Nat} {s : sT} {K : Option Int32 → sT → Prop} {r0 : Nat} {x1 : Int32} {x2 : Int32} (h : tT Y (d + 1) 169 16 [.ref r0, .int x1, .int x2] [] s K) : tT Y (d + 1) 169 82 [.ref r0, .int x1, .int x2] [] s K :=
  (tt_goto (p_169_82 _ _)).mpr (h)
/-! InclusionProverModel.spellsOne.(II)V -/
theorem p_170_0 (L : Nat) (xs : Nat → Int32) : ll_P L xs 170 0 = some (.inl (lo_aload 1 0)) := (P_170 L xs 0).trans rfl
theorem p_170_1 (L : Nat) (xs : Nat → Int32) : ll_P L xs 170 1 = some (.inl (lo_getf 4 11 5)) := (P_170 L xs 1).trans rfl
theorem p_170_4 (L : Nat) (xs : Nat → Int32) : ll_P L xs 170 4 = some (.inl (lo_iload 5 1)) := (P_170 L xs 4).trans rfl
theorem p_170_5 (L : Nat) (xs : Nat → Int32) : ll_P L xs 170 5 = some (.inl (lo_ald 6 0)) := (P_170 L xs 5).trans rfl
theorem p_170_6 (L : Nat) (xs : Nat → Int32) : ll_P L xs 170 6 = some (.inl (lo_istore 7 3)) := (P_170 L xs 6).trans rfl
theorem p_170_7 (L : Nat) (xs : Nat → Int32) : ll_P L xs 170 7 = some (.inl (lo_iload 8 3)) := (P_170 L xs 7).trans rfl
theorem p_170_8 (L : Nat) (xs : Nat → Int32) : ll_P L xs 170 8 = some (.inl (lo_push 9 (.int 3))) := (P_170 L xs 8).trans rfl
theorem p_170_9 (L : Nat) (xs : Nat → Int32) : ll_P L xs 170 9 = some (.inl (lo_cmp 50 12 (fun x y => decide (y ≤ x)))) := (P_170 L xs 9).trans rfl
theorem p_170_12 (L : Nat) (xs : Nat → Int32) : ll_P L xs 170 12 = some (.inl (lo_aload 13 0)) := (P_170 L xs 12).trans rfl
theorem p_170_13 (L : Nat) (xs : Nat → Int32) : ll_P L xs 170 13 = some (.inl (lo_iload 14 3)) := (P_170 L xs 13).trans rfl
theorem p_170_14 (L : Nat) (xs : Nat → Int32) : ll_P L xs 170 14 = some (.inl (lo_if 22 17 (fun x => decide (¬ x = 0)))) := (P_170 L xs 14).trans rfl
theorem p_170_17 (L : Nat) (xs : Nat → Int32) : ll_P L xs 170 17 = some (.inl (lo_push 19 (.int 48))) := (P_170 L xs 17).trans rfl
theorem p_170_19 (L : Nat) (xs : Nat → Int32) : ll_P L xs 170 19 = some (.inl (lo_goto 46)) := (P_170 L xs 19).trans rfl
theorem p_170_22 (L : Nat) (xs : Nat → Int32) : ll_P L xs 170 22 = some (.inl (lo_iload 23 3)) := (P_170 L xs 22).trans rfl
theorem p_170_23 (L : Nat) (xs : Nat → Int32) : ll_P L xs 170 23 = some (.inl (lo_push 24 (.int 1))) := (P_170 L xs 23).trans rfl
theorem p_170_24 (L : Nat) (xs : Nat → Int32) : ll_P L xs 170 24 = some (.inl (lo_cmp 32 27 (fun x y => decide (¬ x = y)))) := (P_170 L xs 24).trans rfl
theorem p_170_27 (L : Nat) (xs : Nat → Int32) : ll_P L xs 170 27 = some (.inl (lo_push 29 (.int 49))) := (P_170 L xs 27).trans rfl
theorem p_170_29 (L : Nat) (xs : Nat → Int32) : ll_P L xs 170 29 = some (.inl (lo_goto 46)) := (P_170 L xs 29).trans rfl
theorem p_170_32 (L : Nat) (xs : Nat → Int32) : ll_P L xs 170 32 = some (.inl (lo_push 34 (.int 97))) := (P_170 L xs 32).trans rfl
theorem p_170_34 (L : Nat) (xs : Nat → Int32) : ll_P L xs 170 34 = some (.inl (lo_aload 35 0)) := (P_170 L xs 34).trans rfl
theorem p_170_35 (L : Nat) (xs : Nat → Int32) : ll_P L xs 170 35 = some (.inl (lo_getf 38 11 10)) := (P_170 L xs 35).trans rfl
theorem p_170_38 (L : Nat) (xs : Nat → Int32) : ll_P L xs 170 38 = some (.inl (lo_aload 39 0)) := (P_170 L xs 38).trans rfl
theorem p_170_39 (L : Nat) (xs : Nat → Int32) : ll_P L xs 170 39 = some (.inl (lo_getf 42 11 6)) := (P_170 L xs 39).trans rfl
theorem p_170_42 (L : Nat) (xs : Nat → Int32) : ll_P L xs 170 42 = some (.inl (lo_iload 43 1)) := (P_170 L xs 42).trans rfl
theorem p_170_43 (L : Nat) (xs : Nat → Int32) : ll_P L xs 170 43 = some (.inl (lo_ald 44 0)) := (P_170 L xs 43).trans rfl
theorem p_170_44 (L : Nat) (xs : Nat → Int32) : ll_P L xs 170 44 = some (.inl (lo_ald 45 0)) := (P_170 L xs 44).trans rfl
theorem p_170_45 (L : Nat) (xs : Nat → Int32) : ll_P L xs 170 45 = some (.inl (lo_bin 46 (fun x y => x + y))) := (P_170 L xs 45).trans rfl
theorem p_170_46 (L : Nat) (xs : Nat → Int32) : ll_P L xs 170 46 = some (.inr (.inl (168, 2, 49))) := (P_170 L xs 46).trans rfl
theorem p_170_49 (L : Nat) (xs : Nat → Int32) : ll_P L xs 170 49 = some (.inr (.inr 0)) := (P_170 L xs 49).trans rfl
theorem p_170_50 (L : Nat) (xs : Nat → Int32) : ll_P L xs 170 50 = some (.inl (lo_iload 51 3)) := (P_170 L xs 50).trans rfl
theorem p_170_51 (L : Nat) (xs : Nat → Int32) : ll_P L xs 170 51 = some (.inl (lo_push 52 (.int 5))) := (P_170 L xs 51).trans rfl
theorem p_170_52 (L : Nat) (xs : Nat → Int32) : ll_P L xs 170 52 = some (.inl (lo_cmp 78 55 (fun x y => decide (¬ x = y)))) := (P_170 L xs 52).trans rfl
theorem p_170_55 (L : Nat) (xs : Nat → Int32) : ll_P L xs 170 55 = some (.inl (lo_aload 56 0)) := (P_170 L xs 55).trans rfl
theorem p_170_56 (L : Nat) (xs : Nat → Int32) : ll_P L xs 170 56 = some (.inl (lo_push 58 (.int 42))) := (P_170 L xs 56).trans rfl
theorem p_170_58 (L : Nat) (xs : Nat → Int32) : ll_P L xs 170 58 = some (.inr (.inl (168, 2, 61))) := (P_170 L xs 58).trans rfl
theorem p_170_61 (L : Nat) (xs : Nat → Int32) : ll_P L xs 170 61 = some (.inl (lo_aload 62 0)) := (P_170 L xs 61).trans rfl
theorem p_170_62 (L : Nat) (xs : Nat → Int32) : ll_P L xs 170 62 = some (.inl (lo_aload 63 0)) := (P_170 L xs 62).trans rfl
theorem p_170_63 (L : Nat) (xs : Nat → Int32) : ll_P L xs 170 63 = some (.inl (lo_getf 66 11 10)) := (P_170 L xs 63).trans rfl
theorem p_170_66 (L : Nat) (xs : Nat → Int32) : ll_P L xs 170 66 = some (.inl (lo_aload 67 0)) := (P_170 L xs 66).trans rfl
theorem p_170_67 (L : Nat) (xs : Nat → Int32) : ll_P L xs 170 67 = some (.inl (lo_getf 70 11 6)) := (P_170 L xs 67).trans rfl
theorem p_170_70 (L : Nat) (xs : Nat → Int32) : ll_P L xs 170 70 = some (.inl (lo_iload 71 1)) := (P_170 L xs 70).trans rfl
theorem p_170_71 (L : Nat) (xs : Nat → Int32) : ll_P L xs 170 71 = some (.inl (lo_ald 72 0)) := (P_170 L xs 71).trans rfl
theorem p_170_72 (L : Nat) (xs : Nat → Int32) : ll_P L xs 170 72 = some (.inl (lo_ald 73 0)) := (P_170 L xs 72).trans rfl
theorem p_170_73 (L : Nat) (xs : Nat → Int32) : ll_P L xs 170 73 = some (.inl (lo_push 74 (.int 2))) := (P_170 L xs 73).trans rfl
theorem p_170_74 (L : Nat) (xs : Nat → Int32) : ll_P L xs 170 74 = some (.inr (.inl (167, 3, 77))) := (P_170 L xs 74).trans rfl
theorem p_170_77 (L : Nat) (xs : Nat → Int32) : ll_P L xs 170 77 = some (.inr (.inr 0)) := (P_170 L xs 77).trans rfl
theorem p_170_78 (L : Nat) (xs : Nat → Int32) : ll_P L xs 170 78 = some (.inl (lo_iload 79 3)) := (P_170 L xs 78).trans rfl
theorem p_170_79 (L : Nat) (xs : Nat → Int32) : ll_P L xs 170 79 = some (.inl (lo_push 80 (.int 3))) := (P_170 L xs 79).trans rfl
theorem p_170_80 (L : Nat) (xs : Nat → Int32) : ll_P L xs 170 80 = some (.inl (lo_cmp 95 83 (fun x y => decide (¬ x = y)))) := (P_170 L xs 80).trans rfl
theorem p_170_83 (L : Nat) (xs : Nat → Int32) : ll_P L xs 170 83 = some (.inl (lo_iload 84 2)) := (P_170 L xs 83).trans rfl
theorem p_170_84 (L : Nat) (xs : Nat → Int32) : ll_P L xs 170 84 = some (.inl (lo_if 91 87 (fun x => decide (x ≤ 0)))) := (P_170 L xs 84).trans rfl
theorem p_170_87 (L : Nat) (xs : Nat → Int32) : ll_P L xs 170 87 = some (.inl (lo_push 88 (.int 1))) := (P_170 L xs 87).trans rfl
theorem p_170_88 (L : Nat) (xs : Nat → Int32) : ll_P L xs 170 88 = some (.inl (lo_goto 105)) := (P_170 L xs 88).trans rfl
theorem p_170_91 (L : Nat) (xs : Nat → Int32) : ll_P L xs 170 91 = some (.inl (lo_push 92 (.int 0))) := (P_170 L xs 91).trans rfl
theorem p_170_92 (L : Nat) (xs : Nat → Int32) : ll_P L xs 170 92 = some (.inl (lo_goto 105)) := (P_170 L xs 92).trans rfl
theorem p_170_95 (L : Nat) (xs : Nat → Int32) : ll_P L xs 170 95 = some (.inl (lo_iload 96 2)) := (P_170 L xs 95).trans rfl
theorem p_170_96 (L : Nat) (xs : Nat → Int32) : ll_P L xs 170 96 = some (.inl (lo_push 97 (.int 2))) := (P_170 L xs 96).trans rfl
theorem p_170_97 (L : Nat) (xs : Nat → Int32) : ll_P L xs 170 97 = some (.inl (lo_cmp 104 100 (fun x y => decide (¬ x = y)))) := (P_170 L xs 97).trans rfl
theorem p_170_100 (L : Nat) (xs : Nat → Int32) : ll_P L xs 170 100 = some (.inl (lo_push 101 (.int 1))) := (P_170 L xs 100).trans rfl
theorem p_170_101 (L : Nat) (xs : Nat → Int32) : ll_P L xs 170 101 = some (.inl (lo_goto 105)) := (P_170 L xs 101).trans rfl
theorem p_170_104 (L : Nat) (xs : Nat → Int32) : ll_P L xs 170 104 = some (.inl (lo_push 105 (.int 0))) := (P_170 L xs 104).trans rfl
theorem p_170_105 (L : Nat) (xs : Nat → Int32) : ll_P L xs 170 105 = some (.inl (lo_istore 107 4)) := (P_170 L xs 105).trans rfl
theorem p_170_107 (L : Nat) (xs : Nat → Int32) : ll_P L xs 170 107 = some (.inl (lo_iload 109 4)) := (P_170 L xs 107).trans rfl
theorem p_170_109 (L : Nat) (xs : Nat → Int32) : ll_P L xs 170 109 = some (.inl (lo_if 118 112 (fun x => decide (x = 0)))) := (P_170 L xs 109).trans rfl
theorem p_170_112 (L : Nat) (xs : Nat → Int32) : ll_P L xs 170 112 = some (.inl (lo_aload 113 0)) := (P_170 L xs 112).trans rfl
theorem p_170_113 (L : Nat) (xs : Nat → Int32) : ll_P L xs 170 113 = some (.inl (lo_push 115 (.int 41))) := (P_170 L xs 113).trans rfl
theorem p_170_115 (L : Nat) (xs : Nat → Int32) : ll_P L xs 170 115 = some (.inr (.inl (168, 2, 118))) := (P_170 L xs 115).trans rfl
theorem p_170_118 (L : Nat) (xs : Nat → Int32) : ll_P L xs 170 118 = some (.inl (lo_aload 119 0)) := (P_170 L xs 118).trans rfl
theorem p_170_119 (L : Nat) (xs : Nat → Int32) : ll_P L xs 170 119 = some (.inl (lo_getf 122 11 7)) := (P_170 L xs 119).trans rfl
theorem p_170_122 (L : Nat) (xs : Nat → Int32) : ll_P L xs 170 122 = some (.inl (lo_iload 123 1)) := (P_170 L xs 122).trans rfl
theorem p_170_123 (L : Nat) (xs : Nat → Int32) : ll_P L xs 170 123 = some (.inl (lo_ald 124 0)) := (P_170 L xs 123).trans rfl
theorem p_170_124 (L : Nat) (xs : Nat → Int32) : ll_P L xs 170 124 = some (.inl (lo_push 125 (.int 1))) := (P_170 L xs 124).trans rfl
theorem p_170_125 (L : Nat) (xs : Nat → Int32) : ll_P L xs 170 125 = some (.inl (lo_bin 126 (fun x y => x - y))) := (P_170 L xs 125).trans rfl
theorem p_170_126 (L : Nat) (xs : Nat → Int32) : ll_P L xs 170 126 = some (.inl (lo_istore 128 5)) := (P_170 L xs 126).trans rfl
theorem p_170_128 (L : Nat) (xs : Nat → Int32) : ll_P L xs 170 128 = some (.inl (lo_iload 130 5)) := (P_170 L xs 128).trans rfl
theorem p_170_130 (L : Nat) (xs : Nat → Int32) : ll_P L xs 170 130 = some (.inl (lo_if 183 133 (fun x => decide (x < 0)))) := (P_170 L xs 130).trans rfl
theorem p_170_133 (L : Nat) (xs : Nat → Int32) : ll_P L xs 170 133 = some (.inl (lo_aload 134 0)) := (P_170 L xs 133).trans rfl
theorem p_170_134 (L : Nat) (xs : Nat → Int32) : ll_P L xs 170 134 = some (.inl (lo_aload 135 0)) := (P_170 L xs 134).trans rfl
theorem p_170_135 (L : Nat) (xs : Nat → Int32) : ll_P L xs 170 135 = some (.inl (lo_getf 138 11 10)) := (P_170 L xs 135).trans rfl
theorem p_170_138 (L : Nat) (xs : Nat → Int32) : ll_P L xs 170 138 = some (.inl (lo_aload 139 0)) := (P_170 L xs 138).trans rfl
theorem p_170_139 (L : Nat) (xs : Nat → Int32) : ll_P L xs 170 139 = some (.inl (lo_getf 142 11 6)) := (P_170 L xs 139).trans rfl
theorem p_170_142 (L : Nat) (xs : Nat → Int32) : ll_P L xs 170 142 = some (.inl (lo_iload 143 1)) := (P_170 L xs 142).trans rfl
theorem p_170_143 (L : Nat) (xs : Nat → Int32) : ll_P L xs 170 143 = some (.inl (lo_ald 144 0)) := (P_170 L xs 143).trans rfl
theorem p_170_144 (L : Nat) (xs : Nat → Int32) : ll_P L xs 170 144 = some (.inl (lo_iload 146 5)) := (P_170 L xs 144).trans rfl
theorem p_170_146 (L : Nat) (xs : Nat → Int32) : ll_P L xs 170 146 = some (.inl (lo_bin 147 (fun x y => x + y))) := (P_170 L xs 146).trans rfl
theorem p_170_147 (L : Nat) (xs : Nat → Int32) : ll_P L xs 170 147 = some (.inl (lo_ald 148 0)) := (P_170 L xs 147).trans rfl
theorem p_170_148 (L : Nat) (xs : Nat → Int32) : ll_P L xs 170 148 = some (.inl (lo_iload 149 3)) := (P_170 L xs 148).trans rfl
theorem p_170_149 (L : Nat) (xs : Nat → Int32) : ll_P L xs 170 149 = some (.inl (lo_push 150 (.int 4))) := (P_170 L xs 149).trans rfl
theorem p_170_150 (L : Nat) (xs : Nat → Int32) : ll_P L xs 170 150 = some (.inl (lo_cmp 157 153 (fun x y => decide (¬ x = y)))) := (P_170 L xs 150).trans rfl
theorem p_170_153 (L : Nat) (xs : Nat → Int32) : ll_P L xs 170 153 = some (.inl (lo_push 154 (.int 1))) := (P_170 L xs 153).trans rfl
theorem p_170_154 (L : Nat) (xs : Nat → Int32) : ll_P L xs 170 154 = some (.inl (lo_goto 158)) := (P_170 L xs 154).trans rfl
theorem p_170_157 (L : Nat) (xs : Nat → Int32) : ll_P L xs 170 157 = some (.inl (lo_push 158 (.int 0))) := (P_170 L xs 157).trans rfl
theorem p_170_158 (L : Nat) (xs : Nat → Int32) : ll_P L xs 170 158 = some (.inr (.inl (167, 3, 161))) := (P_170 L xs 158).trans rfl
theorem p_170_161 (L : Nat) (xs : Nat → Int32) : ll_P L xs 170 161 = some (.inl (lo_iload 163 5)) := (P_170 L xs 161).trans rfl
theorem p_170_163 (L : Nat) (xs : Nat → Int32) : ll_P L xs 170 163 = some (.inl (lo_if 177 166 (fun x => decide (x ≤ 0)))) := (P_170 L xs 163).trans rfl
theorem p_170_166 (L : Nat) (xs : Nat → Int32) : ll_P L xs 170 166 = some (.inl (lo_iload 167 3)) := (P_170 L xs 166).trans rfl
theorem p_170_167 (L : Nat) (xs : Nat → Int32) : ll_P L xs 170 167 = some (.inl (lo_push 168 (.int 3))) := (P_170 L xs 167).trans rfl
theorem p_170_168 (L : Nat) (xs : Nat → Int32) : ll_P L xs 170 168 = some (.inl (lo_cmp 177 171 (fun x y => decide (¬ x = y)))) := (P_170 L xs 168).trans rfl
theorem p_170_171 (L : Nat) (xs : Nat → Int32) : ll_P L xs 170 171 = some (.inl (lo_aload 172 0)) := (P_170 L xs 171).trans rfl
theorem p_170_172 (L : Nat) (xs : Nat → Int32) : ll_P L xs 170 172 = some (.inl (lo_push 174 (.int 43))) := (P_170 L xs 172).trans rfl
theorem p_170_174 (L : Nat) (xs : Nat → Int32) : ll_P L xs 170 174 = some (.inr (.inl (168, 2, 177))) := (P_170 L xs 174).trans rfl
theorem p_170_177 (L : Nat) (xs : Nat → Int32) : ll_P L xs 170 177 = some (.inl (lo_iinc 180 5 (-1))) := (P_170 L xs 177).trans rfl
theorem p_170_180 (L : Nat) (xs : Nat → Int32) : ll_P L xs 170 180 = some (.inl (lo_goto 128)) := (P_170 L xs 180).trans rfl
theorem p_170_183 (L : Nat) (xs : Nat → Int32) : ll_P L xs 170 183 = some (.inl (lo_iload 185 4)) := (P_170 L xs 183).trans rfl
theorem p_170_185 (L : Nat) (xs : Nat → Int32) : ll_P L xs 170 185 = some (.inl (lo_if 194 188 (fun x => decide (x = 0)))) := (P_170 L xs 185).trans rfl
theorem p_170_188 (L : Nat) (xs : Nat → Int32) : ll_P L xs 170 188 = some (.inl (lo_aload 189 0)) := (P_170 L xs 188).trans rfl
theorem p_170_189 (L : Nat) (xs : Nat → Int32) : ll_P L xs 170 189 = some (.inl (lo_push 191 (.int 40))) := (P_170 L xs 189).trans rfl
theorem p_170_191 (L : Nat) (xs : Nat → Int32) : ll_P L xs 170 191 = some (.inr (.inl (168, 2, 194))) := (P_170 L xs 191).trans rfl
theorem p_170_194 (L : Nat) (xs : Nat → Int32) : ll_P L xs 170 194 = some (.inr (.inr 0)) := (P_170 L xs 194).trans rfl
theorem b_170_0 {Y : sY} {d : Nat} {s : sT} {K : Option Int32 → sT → Prop} {r0 : Nat} {x1 : Int32} {x2 : Int32} (h : (∃ a1, (isO Y r0 11 ∧ s.2 r0 5 = some a1) ∧ (∃ m3, (isA Y a1 0 m3 ∧ inR x1 m3) ∧ (if (3 : Int32) ≤ (s.1 a1 (x1).toNatClampNeg) then (if ¬ (s.1 a1 (x1).toNatClampNeg) = (5 : Int32) then (if ¬ (s.1 a1 (x1).toNatClampNeg) = (3 : Int32) then (if ¬ x2 = (2 : Int32) then tT Y (d + 1) 170 105 [.ref r0, .int x1, .int x2, .int (s.1 a1 (x1).toNatClampNeg), .null, .null] [.int (0 : Int32)] s K else tT Y (d + 1) 170 105 [.ref r0, .int x1, .int x2, .int (s.1 a1 (x1).toNatClampNeg), .null, .null] [.int (1 : Int32)] s K) else (if x2 ≤ 0 then tT Y (d + 1) 170 105 [.ref r0, .int x1, .int x2, .int (s.1 a1 (x1).toNatClampNeg), .null, .null] [.int (0 : Int32)] s K else tT Y (d + 1) 170 105 [.ref r0, .int x1, .int x2, .int (s.1 a1 (x1).toNatClampNeg), .null, .null] [.int (1 : Int32)] s K)) else (isO Y r0 11 ∧ tT Y d 168 0 [.ref r0, .int (42 : Int32)] [] s (fun r s1 => tT Y (d + 1) 170 61 [.ref r0, .int x1, .int x2, .int (s.1 a1 (x1).toNatClampNeg), .null, .null] ((r.map Value.int).toList ++ []) s1 K))) else (if ¬ (s.1 a1 (x1).toNatClampNeg) = 0 then (if ¬ (s.1 a1 (x1).toNatClampNeg) = (1 : Int32) then (∃ a12, (isO Y r0 11 ∧ s.2 r0 10 = some a12) ∧ (∃ a14, (isO Y r0 11 ∧ s.2 r0 6 = some a14) ∧ (∃ m16, (isA Y a14 0 m16 ∧ inR x1 m16) ∧ (∃ m18, (isA Y a12 0 m18 ∧ inR (s.1 a14 (x1).toNatClampNeg) m18) ∧ tT Y (d + 1) 170 46 [.ref r0, .int x1, .int x2, .int (s.1 a1 (x1).toNatClampNeg), .null, .null] [.int ((97 : Int32) + (s.1 a12 ((s.1 a14 (x1).toNatClampNeg)).toNatClampNeg)), .ref r0] s K)))) else tT Y (d + 1) 170 46 [.ref r0, .int x1, .int x2, .int (s.1 a1 (x1).toNatClampNeg), .null, .null] [.int (49 : Int32), .ref r0] s K) else tT Y (d + 1) 170 46 [.ref r0, .int x1, .int x2, .int (s.1 a1 (x1).toNatClampNeg), .null, .null] [.int (48 : Int32), .ref r0] s K))))) : tT Y (d + 1) 170 0 [.ref r0, .int x1, .int x2, .null, .null, .null] [] s K :=
  (tt_aload (p_170_0 _ _) rfl).mpr (Exists.elim h (fun a1 h2 => t3_getr (p_170_1 _ _) (isI_11_5) h2.1.1 h2.1.2 ((tt_iload (p_170_4 _ _) rfl).mpr (Exists.elim h2.2 (fun m3 h4 => t3_ald (p_170_5 _ _) h4.1.1 h4.1.2 ((tt_istore (p_170_6 _ _) (Nat.le_of_ble_eq_true rfl) rfl rfl).mpr ((tt_iload (p_170_7 _ _) rfl).mpr ((tt_push (p_170_8 _ _)).mpr (t3_cmp (p := (3 : Int32) ≤ (s.1 a1 (x1).toNatClampNeg)) (p_170_9 _ _) rfl (fun g5 => (tt_iload (p_170_50 _ _) rfl).mpr ((tt_push (p_170_51 _ _)).mpr (t3_cmp (p := ¬ (s.1 a1 (x1).toNatClampNeg) = (5 : Int32)) (p_170_52 _ _) rfl (fun g6 => (tt_iload (p_170_78 _ _) rfl).mpr ((tt_push (p_170_79 _ _)).mpr (t3_cmp (p := ¬ (s.1 a1 (x1).toNatClampNeg) = (3 : Int32)) (p_170_80 _ _) rfl (fun g7 => (tt_iload (p_170_95 _ _) rfl).mpr ((tt_push (p_170_96 _ _)).mpr (t3_cmp (p := ¬ x2 = (2 : Int32)) (p_170_97 _ _) rfl (fun g8 => (tt_push (p_170_104 _ _)).mpr ((ifp (ifp (ifp (ifp h4.2 g5) g6) g7) g8))) (fun g8 => (tt_push (p_170_100 _ _)).mpr ((tt_goto (p_170_101 _ _)).mpr ((ifn (ifp (ifp (ifp h4.2 g5) g6) g7) g8))))))) (fun g7 => (tt_iload (p_170_83 _ _) rfl).mpr (t3_if (p := x2 ≤ 0) (p_170_84 _ _) rfl (fun g9 => (tt_push (p_170_91 _ _)).mpr ((tt_goto (p_170_92 _ _)).mpr ((ifp (ifn (ifp (ifp h4.2 g5) g6) g7) g9)))) (fun g9 => (tt_push (p_170_87 _ _)).mpr ((tt_goto (p_170_88 _ _)).mpr ((ifn (ifn (ifp (ifp h4.2 g5) g6) g7) g9))))))))) (fun g6 => (tt_aload (p_170_55 _ _) rfl).mpr ((tt_push (p_170_56 _ _)).mpr (t2_callv (z := 168) (k := 2) (i := r0) (as := [.int (42 : Int32)]) (rest := []) (p_170_58 _ _) mK_168 mL_168 rfl rfl (Nat.le_of_ble_eq_true rfl) rfl (Nat.le_of_ble_eq_true rfl) (ifn (ifp h4.2 g5) g6).1 (ifn (ifp h4.2 g5) g6).2)))))) (fun g5 => (tt_aload (p_170_12 _ _) rfl).mpr ((tt_iload (p_170_13 _ _) rfl).mpr (t3_if (p := ¬ (s.1 a1 (x1).toNatClampNeg) = 0) (p_170_14 _ _) rfl (fun g10 => (tt_iload (p_170_22 _ _) rfl).mpr ((tt_push (p_170_23 _ _)).mpr (t3_cmp (p := ¬ (s.1 a1 (x1).toNatClampNeg) = (1 : Int32)) (p_170_24 _ _) rfl (fun g11 => (tt_push (p_170_32 _ _)).mpr ((tt_aload (p_170_34 _ _) rfl).mpr (Exists.elim (ifp (ifp (ifn h4.2 g5) g10) g11) (fun a12 h13 => t3_getr (p_170_35 _ _) (isI_11_10) h13.1.1 h13.1.2 ((tt_aload (p_170_38 _ _) rfl).mpr (Exists.elim h13.2 (fun a14 h15 => t3_getr (p_170_39 _ _) (isI_11_6) h15.1.1 h15.1.2 ((tt_iload (p_170_42 _ _) rfl).mpr (Exists.elim h15.2 (fun m16 h17 => t3_ald (p_170_43 _ _) h17.1.1 h17.1.2 (Exists.elim h17.2 (fun m18 h19 => t3_ald (p_170_44 _ _) h19.1.1 h19.1.2 ((tt_bin (p_170_45 _ _)).mpr (h19.2)))))))))))))) (fun g11 => (tt_push (p_170_27 _ _)).mpr ((tt_goto (p_170_29 _ _)).mpr ((ifn (ifp (ifn h4.2 g5) g10) g11))))))) (fun g10 => (tt_push (p_170_17 _ _)).mpr ((tt_goto (p_170_19 _ _)).mpr ((ifn (ifn h4.2 g5) g10))))))))))))))))
theorem b_170_46 {Y : sY} {d : Nat} {s : sT} {K : Option Int32 → sT → Prop} {r0 : Nat} {x1 : Int32} {x2 : Int32} {x3 : Int32} {t0 : Nat} {t1 : Int32} (h : (isO Y t0 11 ∧ tT Y d 168 0 [.ref t0, .int t1] [] s (fun r s1 => tT Y (d + 1) 170 49 [.ref r0, .int x1, .int x2, .int x3, .null, .null] ((r.map Value.int).toList ++ []) s1 K))) : tT Y (d + 1) 170 46 [.ref r0, .int x1, .int x2, .int x3, .null, .null] [.int t1, .ref t0] s K :=
  t2_callv (z := 168) (k := 2) (i := t0) (as := [.int t1]) (rest := []) (p_170_46 _ _) mK_168 mL_168 rfl rfl (Nat.le_of_ble_eq_true rfl) rfl (Nat.le_of_ble_eq_true rfl) h.1 h.2
theorem b_170_49 {Y : sY} {d : Nat} {s : sT} {K : Option Int32 → sT → Prop} {r0 : Nat} {x1 : Int32} {x2 : Int32} {x3 : Int32} (h : K none s) : tT Y (d + 1) 170 49 [.ref r0, .int x1, .int x2, .int x3, .null, .null] [] s K :=
  tt_ret0 (p_170_49 _ _) h
theorem b_170_61 {Y : sY} {d : Nat} {s : sT} {K : Option Int32 → sT → Prop} {r0 : Nat} {x1 : Int32} {x2 : Int32} {x3 : Int32} (h : (∃ a1, (isO Y r0 11 ∧ s.2 r0 10 = some a1) ∧ (∃ a3, (isO Y r0 11 ∧ s.2 r0 6 = some a3) ∧ (∃ m5, (isA Y a3 0 m5 ∧ inR x1 m5) ∧ (∃ m7, (isA Y a1 0 m7 ∧ inR (s.1 a3 (x1).toNatClampNeg) m7) ∧ (isO Y r0 11 ∧ tT Y d 167 0 [.ref r0, .int (s.1 a1 ((s.1 a3 (x1).toNatClampNeg)).toNatClampNeg), .int (2 : Int32)] [] s (fun r s1 => tT Y (d + 1) 170 77 [.ref r0, .int x1, .int x2, .int x3, .null, .null] ((r.map Value.int).toList ++ []) s1 K))))))) : tT Y (d + 1) 170 61 [.ref r0, .int x1, .int x2, .int x3, .null, .null] [] s K :=
  (tt_aload (p_170_61 _ _) rfl).mpr ((tt_aload (p_170_62 _ _) rfl).mpr (Exists.elim h (fun a1 h2 => t3_getr (p_170_63 _ _) (isI_11_10) h2.1.1 h2.1.2 ((tt_aload (p_170_66 _ _) rfl).mpr (Exists.elim h2.2 (fun a3 h4 => t3_getr (p_170_67 _ _) (isI_11_6) h4.1.1 h4.1.2 ((tt_iload (p_170_70 _ _) rfl).mpr (Exists.elim h4.2 (fun m5 h6 => t3_ald (p_170_71 _ _) h6.1.1 h6.1.2 (Exists.elim h6.2 (fun m7 h8 => t3_ald (p_170_72 _ _) h8.1.1 h8.1.2 ((tt_push (p_170_73 _ _)).mpr (t2_callv (z := 167) (k := 3) (i := r0) (as := [.int (s.1 a1 ((s.1 a3 (x1).toNatClampNeg)).toNatClampNeg), .int (2 : Int32)]) (rest := []) (p_170_74 _ _) mK_167 mL_167 rfl rfl (Nat.le_of_ble_eq_true rfl) rfl (Nat.le_of_ble_eq_true rfl) h8.2.1 h8.2.2)))))))))))))
theorem b_170_77 {Y : sY} {d : Nat} {s : sT} {K : Option Int32 → sT → Prop} {r0 : Nat} {x1 : Int32} {x2 : Int32} {x3 : Int32} (h : K none s) : tT Y (d + 1) 170 77 [.ref r0, .int x1, .int x2, .int x3, .null, .null] [] s K :=
  tt_ret0 (p_170_77 _ _) h
theorem b_170_105 {Y : sY} {d : Nat} {s : sT} {K : Option Int32 → sT → Prop} {r0 : Nat} {x1 : Int32} {x2 : Int32} {x3 : Int32} {t0 : Int32} (h : (if t0 = 0 then tT Y (d + 1) 170 118 [.ref r0, .int x1, .int x2, .int x3, .int t0, .null] [] s K else (isO Y r0 11 ∧ tT Y d 168 0 [.ref r0, .int (41 : Int32)] [] s (fun r s1 => tT Y (d + 1) 170 118 [.ref r0, .int x1, .int x2, .int x3, .int t0, .null] ((r.map Value.int).toList ++ []) s1 K)))) : tT Y (d + 1) 170 105 [.ref r0, .int x1, .int x2, .int x3, .null, .null] [.int t0] s K :=
  (tt_istore (p_170_105 _ _) (Nat.le_of_ble_eq_true rfl) rfl rfl).mpr ((tt_iload (p_170_107 _ _) rfl).mpr (t3_if (p := t0 = 0) (p_170_109 _ _) rfl (fun g1 => (ifp h g1)) (fun g1 => (tt_aload (p_170_112 _ _) rfl).mpr ((tt_push (p_170_113 _ _)).mpr (t2_callv (z := 168) (k := 2) (i := r0) (as := [.int (41 : Int32)]) (rest := []) (p_170_115 _ _) mK_168 mL_168 rfl rfl (Nat.le_of_ble_eq_true rfl) rfl (Nat.le_of_ble_eq_true rfl) (ifn h g1).1 (ifn h g1).2)))))
theorem b_170_118 {Y : sY} {d : Nat} {s : sT} {K : Option Int32 → sT → Prop} {r0 : Nat} {x1 : Int32} {x2 : Int32} {x3 : Int32} {x4 : Int32} (h : (∃ a1, (isO Y r0 11 ∧ s.2 r0 7 = some a1) ∧ (∃ m3, (isA Y a1 0 m3 ∧ inR x1 m3) ∧ tT Y (d + 1) 170 128 [.ref r0, .int x1, .int x2, .int x3, .int x4, .int ((s.1 a1 (x1).toNatClampNeg) - (1 : Int32))] [] s K))) : tT Y (d + 1) 170 118 [.ref r0, .int x1, .int x2, .int x3, .int x4, .null] [] s K :=
  (tt_aload (p_170_118 _ _) rfl).mpr (Exists.elim h (fun a1 h2 => t3_getr (p_170_119 _ _) (isI_11_7) h2.1.1 h2.1.2 ((tt_iload (p_170_122 _ _) rfl).mpr (Exists.elim h2.2 (fun m3 h4 => t3_ald (p_170_123 _ _) h4.1.1 h4.1.2 ((tt_push (p_170_124 _ _)).mpr ((tt_bin (p_170_125 _ _)).mpr ((tt_istore (p_170_126 _ _) (Nat.le_of_ble_eq_true rfl) rfl rfl).mpr (h4.2)))))))))
theorem b_170_128 {Y : sY} {d : Nat} {s : sT} {K : Option Int32 → sT → Prop} {r0 : Nat} {x1 : Int32} {x2 : Int32} {x3 : Int32} {x4 : Int32} {x5 : Int32} (h : (if x5 < 0 then (if x4 = 0 then tT Y (d + 1) 170 194 [.ref r0, .int x1, .int x2, .int x3, .int x4, .int x5] [] s K else (isO Y r0 11 ∧ tT Y d 168 0 [.ref r0, .int (40 : Int32)] [] s (fun r s1 => tT Y (d + 1) 170 194 [.ref r0, .int x1, .int x2, .int x3, .int x4, .int x5] ((r.map Value.int).toList ++ []) s1 K))) else (∃ a3, (isO Y r0 11 ∧ s.2 r0 10 = some a3) ∧ (∃ a5, (isO Y r0 11 ∧ s.2 r0 6 = some a5) ∧ (∃ m7, (isA Y a5 0 m7 ∧ inR x1 m7) ∧ (∃ m9, (isA Y a3 0 m9 ∧ inR ((s.1 a5 (x1).toNatClampNeg) + x5) m9) ∧ (if ¬ x3 = (4 : Int32) then tT Y (d + 1) 170 158 [.ref r0, .int x1, .int x2, .int x3, .int x4, .int x5] [.int (0 : Int32), .int (s.1 a3 (((s.1 a5 (x1).toNatClampNeg) + x5)).toNatClampNeg), .ref r0] s K else tT Y (d + 1) 170 158 [.ref r0, .int x1, .int x2, .int x3, .int x4, .int x5] [.int (1 : Int32), .int (s.1 a3 (((s.1 a5 (x1).toNatClampNeg) + x5)).toNatClampNeg), .ref r0] s K))))))) : tT Y (d + 1) 170 128 [.ref r0, .int x1, .int x2, .int x3, .int x4, .int x5] [] s K :=
  (tt_iload (p_170_128 _ _) rfl).mpr (t3_if (p := x5 < 0) (p_170_130 _ _) rfl (fun g1 => (tt_iload (p_170_183 _ _) rfl).mpr (t3_if (p := x4 = 0) (p_170_185 _ _) rfl (fun g2 => (ifp (ifp h g1) g2)) (fun g2 => (tt_aload (p_170_188 _ _) rfl).mpr ((tt_push (p_170_189 _ _)).mpr (t2_callv (z := 168) (k := 2) (i := r0) (as := [.int (40 : Int32)]) (rest := []) (p_170_191 _ _) mK_168 mL_168 rfl rfl (Nat.le_of_ble_eq_true rfl) rfl (Nat.le_of_ble_eq_true rfl) (ifn (ifp h g1) g2).1 (ifn (ifp h g1) g2).2))))) (fun g1 => (tt_aload (p_170_133 _ _) rfl).mpr ((tt_aload (p_170_134 _ _) rfl).mpr (Exists.elim (ifn h g1) (fun a3 h4 => t3_getr (p_170_135 _ _) (isI_11_10) h4.1.1 h4.1.2 ((tt_aload (p_170_138 _ _) rfl).mpr (Exists.elim h4.2 (fun a5 h6 => t3_getr (p_170_139 _ _) (isI_11_6) h6.1.1 h6.1.2 ((tt_iload (p_170_142 _ _) rfl).mpr (Exists.elim h6.2 (fun m7 h8 => t3_ald (p_170_143 _ _) h8.1.1 h8.1.2 ((tt_iload (p_170_144 _ _) rfl).mpr ((tt_bin (p_170_146 _ _)).mpr (Exists.elim h8.2 (fun m9 h10 => t3_ald (p_170_147 _ _) h10.1.1 h10.1.2 ((tt_iload (p_170_148 _ _) rfl).mpr ((tt_push (p_170_149 _ _)).mpr (t3_cmp (p := ¬ x3 = (4 : Int32)) (p_170_150 _ _) rfl (fun g11 => (tt_push (p_170_157 _ _)).mpr ((ifp h10.2 g11))) (fun g11 => (tt_push (p_170_153 _ _)).mpr ((tt_goto (p_170_154 _ _)).mpr ((ifn h10.2 g11))))))))))))))))))))))
theorem b_170_158 {Y : sY} {d : Nat} {s : sT} {K : Option Int32 → sT → Prop} {r0 : Nat} {x1 : Int32} {x2 : Int32} {x3 : Int32} {x4 : Int32} {x5 : Int32} {t0 : Nat} {t1 : Int32} {t2 : Int32} (h : (isO Y t0 11 ∧ tT Y d 167 0 [.ref t0, .int t1, .int t2] [] s (fun r s1 => tT Y (d + 1) 170 161 [.ref r0, .int x1, .int x2, .int x3, .int x4, .int x5] ((r.map Value.int).toList ++ []) s1 K))) : tT Y (d + 1) 170 158 [.ref r0, .int x1, .int x2, .int x3, .int x4, .int x5] [.int t2, .int t1, .ref t0] s K :=
  t2_callv (z := 167) (k := 3) (i := t0) (as := [.int t1, .int t2]) (rest := []) (p_170_158 _ _) mK_167 mL_167 rfl rfl (Nat.le_of_ble_eq_true rfl) rfl (Nat.le_of_ble_eq_true rfl) h.1 h.2
theorem b_170_161 {Y : sY} {d : Nat} {s : sT} {K : Option Int32 → sT → Prop} {r0 : Nat} {x1 : Int32} {x2 : Int32} {x3 : Int32} {x4 : Int32} {x5 : Int32} (h : (if x5 ≤ 0 then tT Y (d + 1) 170 177 [.ref r0, .int x1, .int x2, .int x3, .int x4, .int x5] [] s K else (if ¬ x3 = (3 : Int32) then tT Y (d + 1) 170 177 [.ref r0, .int x1, .int x2, .int x3, .int x4, .int x5] [] s K else (isO Y r0 11 ∧ tT Y d 168 0 [.ref r0, .int (43 : Int32)] [] s (fun r s1 => tT Y (d + 1) 170 177 [.ref r0, .int x1, .int x2, .int x3, .int x4, .int x5] ((r.map Value.int).toList ++ []) s1 K))))) : tT Y (d + 1) 170 161 [.ref r0, .int x1, .int x2, .int x3, .int x4, .int x5] [] s K :=
  (tt_iload (p_170_161 _ _) rfl).mpr (t3_if (p := x5 ≤ 0) (p_170_163 _ _) rfl (fun g1 => (ifp h g1)) (fun g1 => (tt_iload (p_170_166 _ _) rfl).mpr ((tt_push (p_170_167 _ _)).mpr (t3_cmp (p := ¬ x3 = (3 : Int32)) (p_170_168 _ _) rfl (fun g2 => (ifp (ifn h g1) g2)) (fun g2 => (tt_aload (p_170_171 _ _) rfl).mpr ((tt_push (p_170_172 _ _)).mpr (t2_callv (z := 168) (k := 2) (i := r0) (as := [.int (43 : Int32)]) (rest := []) (p_170_174 _ _) mK_168 mL_168 rfl rfl (Nat.le_of_ble_eq_true rfl) rfl (Nat.le_of_ble_eq_true rfl) (ifn (ifn h g1) g2).1 (ifn (ifn h g1) g2).2)))))))
theorem b_170_177 {Y : sY} {d : Nat} {s : sT} {K : Option Int32 → sT → Prop} {r0 : Nat} {x1 : Int32} {x2 : Int32} {x3 : Int32} {x4 : Int32} {x5 : Int32} (h : tT Y (d + 1) 170 128 [.ref r0, .int x1, .int x2, .int x3, .int x4, .int (x5 + (-1))] [] s K) : tT Y (d + 1) 170 177 [.ref r0, .int x1, .int x2, .int x3, .int x4, .int x5] [] s K :=
  (tt_iinc (p_170_177 _ _) rfl rfl rfl).mpr ((tt_goto (p_170_180 _ _)).mpr (h))
theorem b_170_194 {Y : sY} {d : Nat} {s : sT} {K : Option Int32 → sT → Prop} {r0 : Nat} {x1 : Int32} {x2 : Int32} {x3 : Int32} {x4 : Int32} {x5 : Int32} (h : K none s) : tT Y (d + 1) 170 194 [.ref r0, .int x1, .int x2, .int x3, .int x4, .int x5] [] s K :=
  tt_ret0 (p_170_194 _ _) h
/-! InclusionProverModel.lacks.(II)I -/
theorem p_171_0 (L : Nat) (xs : Nat → Int32) : ll_P L xs 171 0 = some (.inl (lo_aload 1 0)) := (P_171 L xs 0).trans rfl
theorem p_171_1 (L : Nat) (xs : Nat → Int32) : ll_P L xs 171 1 = some (.inl (lo_getf 4 11 5)) := (P_171 L xs 1).trans rfl
theorem p_171_4 (L : Nat) (xs : Nat → Int32) : ll_P L xs 171 4 = some (.inl (lo_iload 5 1)) := (P_171 L xs 4).trans rfl
theorem p_171_5 (L : Nat) (xs : Nat → Int32) : ll_P L xs 171 5 = some (.inl (lo_ald 6 0)) := (P_171 L xs 5).trans rfl
theorem p_171_6 (L : Nat) (xs : Nat → Int32) : ll_P L xs 171 6 = some (.inl (lo_push 7 (.int 3))) := (P_171 L xs 6).trans rfl
theorem p_171_7 (L : Nat) (xs : Nat → Int32) : ll_P L xs 171 7 = some (.inl (lo_cmp 12 10 (fun x y => decide (y ≤ x)))) := (P_171 L xs 7).trans rfl
theorem p_171_10 (L : Nat) (xs : Nat → Int32) : ll_P L xs 171 10 = some (.inl (lo_push 11 (.int (-1)))) := (P_171 L xs 10).trans rfl
theorem p_171_11 (L : Nat) (xs : Nat → Int32) : ll_P L xs 171 11 = some (.inr (.inr 1)) := (P_171 L xs 11).trans rfl
theorem p_171_12 (L : Nat) (xs : Nat → Int32) : ll_P L xs 171 12 = some (.inl (lo_aload 13 0)) := (P_171 L xs 12).trans rfl
theorem p_171_13 (L : Nat) (xs : Nat → Int32) : ll_P L xs 171 13 = some (.inl (lo_getf 16 11 5)) := (P_171 L xs 13).trans rfl
theorem p_171_16 (L : Nat) (xs : Nat → Int32) : ll_P L xs 171 16 = some (.inl (lo_iload 17 1)) := (P_171 L xs 16).trans rfl
theorem p_171_17 (L : Nat) (xs : Nat → Int32) : ll_P L xs 171 17 = some (.inl (lo_ald 18 0)) := (P_171 L xs 17).trans rfl
theorem p_171_18 (L : Nat) (xs : Nat → Int32) : ll_P L xs 171 18 = some (.inl (lo_push 19 (.int 3))) := (P_171 L xs 18).trans rfl
theorem p_171_19 (L : Nat) (xs : Nat → Int32) : ll_P L xs 171 19 = some (.inl (lo_cmp 82 22 (fun x y => decide (¬ x = y)))) := (P_171 L xs 19).trans rfl
theorem p_171_22 (L : Nat) (xs : Nat → Int32) : ll_P L xs 171 22 = some (.inl (lo_push 23 (.int 0))) := (P_171 L xs 22).trans rfl
theorem p_171_23 (L : Nat) (xs : Nat → Int32) : ll_P L xs 171 23 = some (.inl (lo_istore 24 3)) := (P_171 L xs 23).trans rfl
theorem p_171_24 (L : Nat) (xs : Nat → Int32) : ll_P L xs 171 24 = some (.inl (lo_iload 25 3)) := (P_171 L xs 24).trans rfl
theorem p_171_25 (L : Nat) (xs : Nat → Int32) : ll_P L xs 171 25 = some (.inl (lo_aload 26 0)) := (P_171 L xs 25).trans rfl
theorem p_171_26 (L : Nat) (xs : Nat → Int32) : ll_P L xs 171 26 = some (.inl (lo_getf 29 11 7)) := (P_171 L xs 26).trans rfl
theorem p_171_29 (L : Nat) (xs : Nat → Int32) : ll_P L xs 171 29 = some (.inl (lo_iload 30 1)) := (P_171 L xs 29).trans rfl
theorem p_171_30 (L : Nat) (xs : Nat → Int32) : ll_P L xs 171 30 = some (.inl (lo_ald 31 0)) := (P_171 L xs 30).trans rfl
theorem p_171_31 (L : Nat) (xs : Nat → Int32) : ll_P L xs 171 31 = some (.inl (lo_cmp 80 34 (fun x y => decide (y ≤ x)))) := (P_171 L xs 31).trans rfl
theorem p_171_34 (L : Nat) (xs : Nat → Int32) : ll_P L xs 171 34 = some (.inl (lo_aload 35 0)) := (P_171 L xs 34).trans rfl
theorem p_171_35 (L : Nat) (xs : Nat → Int32) : ll_P L xs 171 35 = some (.inl (lo_getf 38 11 15)) := (P_171 L xs 35).trans rfl
theorem p_171_38 (L : Nat) (xs : Nat → Int32) : ll_P L xs 171 38 = some (.inl (lo_push 39 (.int 3))) := (P_171 L xs 38).trans rfl
theorem p_171_39 (L : Nat) (xs : Nat → Int32) : ll_P L xs 171 39 = some (.inl (lo_aload 40 0)) := (P_171 L xs 39).trans rfl
theorem p_171_40 (L : Nat) (xs : Nat → Int32) : ll_P L xs 171 40 = some (.inl (lo_getf 43 11 10)) := (P_171 L xs 40).trans rfl
theorem p_171_43 (L : Nat) (xs : Nat → Int32) : ll_P L xs 171 43 = some (.inl (lo_aload 44 0)) := (P_171 L xs 43).trans rfl
theorem p_171_44 (L : Nat) (xs : Nat → Int32) : ll_P L xs 171 44 = some (.inl (lo_getf 47 11 6)) := (P_171 L xs 44).trans rfl
theorem p_171_47 (L : Nat) (xs : Nat → Int32) : ll_P L xs 171 47 = some (.inl (lo_iload 48 1)) := (P_171 L xs 47).trans rfl
theorem p_171_48 (L : Nat) (xs : Nat → Int32) : ll_P L xs 171 48 = some (.inl (lo_ald 49 0)) := (P_171 L xs 48).trans rfl
theorem p_171_49 (L : Nat) (xs : Nat → Int32) : ll_P L xs 171 49 = some (.inl (lo_iload 50 3)) := (P_171 L xs 49).trans rfl
theorem p_171_50 (L : Nat) (xs : Nat → Int32) : ll_P L xs 171 50 = some (.inl (lo_bin 51 (fun x y => x + y))) := (P_171 L xs 50).trans rfl
theorem p_171_51 (L : Nat) (xs : Nat → Int32) : ll_P L xs 171 51 = some (.inl (lo_ald 52 0)) := (P_171 L xs 51).trans rfl
theorem p_171_52 (L : Nat) (xs : Nat → Int32) : ll_P L xs 171 52 = some (.inl (lo_bin 53 (fun x y => x * y))) := (P_171 L xs 52).trans rfl
theorem p_171_53 (L : Nat) (xs : Nat → Int32) : ll_P L xs 171 53 = some (.inl (lo_iload 54 2)) := (P_171 L xs 53).trans rfl
theorem p_171_54 (L : Nat) (xs : Nat → Int32) : ll_P L xs 171 54 = some (.inl (lo_bin 55 (fun x y => x + y))) := (P_171 L xs 54).trans rfl
theorem p_171_55 (L : Nat) (xs : Nat → Int32) : ll_P L xs 171 55 = some (.inl (lo_ald 56 0)) := (P_171 L xs 55).trans rfl
theorem p_171_56 (L : Nat) (xs : Nat → Int32) : ll_P L xs 171 56 = some (.inl (lo_push 57 (.int (-1)))) := (P_171 L xs 56).trans rfl
theorem p_171_57 (L : Nat) (xs : Nat → Int32) : ll_P L xs 171 57 = some (.inl (lo_cmp 74 60 (fun x y => decide (¬ x = y)))) := (P_171 L xs 57).trans rfl
theorem p_171_60 (L : Nat) (xs : Nat → Int32) : ll_P L xs 171 60 = some (.inl (lo_aload 61 0)) := (P_171 L xs 60).trans rfl
theorem p_171_61 (L : Nat) (xs : Nat → Int32) : ll_P L xs 171 61 = some (.inl (lo_getf 64 11 10)) := (P_171 L xs 61).trans rfl
theorem p_171_64 (L : Nat) (xs : Nat → Int32) : ll_P L xs 171 64 = some (.inl (lo_aload 65 0)) := (P_171 L xs 64).trans rfl
theorem p_171_65 (L : Nat) (xs : Nat → Int32) : ll_P L xs 171 65 = some (.inl (lo_getf 68 11 6)) := (P_171 L xs 65).trans rfl
theorem p_171_68 (L : Nat) (xs : Nat → Int32) : ll_P L xs 171 68 = some (.inl (lo_iload 69 1)) := (P_171 L xs 68).trans rfl
theorem p_171_69 (L : Nat) (xs : Nat → Int32) : ll_P L xs 171 69 = some (.inl (lo_ald 70 0)) := (P_171 L xs 69).trans rfl
theorem p_171_70 (L : Nat) (xs : Nat → Int32) : ll_P L xs 171 70 = some (.inl (lo_iload 71 3)) := (P_171 L xs 70).trans rfl
theorem p_171_71 (L : Nat) (xs : Nat → Int32) : ll_P L xs 171 71 = some (.inl (lo_bin 72 (fun x y => x + y))) := (P_171 L xs 71).trans rfl
theorem p_171_72 (L : Nat) (xs : Nat → Int32) : ll_P L xs 171 72 = some (.inl (lo_ald 73 0)) := (P_171 L xs 72).trans rfl
theorem p_171_73 (L : Nat) (xs : Nat → Int32) : ll_P L xs 171 73 = some (.inr (.inr 1)) := (P_171 L xs 73).trans rfl
theorem p_171_74 (L : Nat) (xs : Nat → Int32) : ll_P L xs 171 74 = some (.inl (lo_iinc 77 3 1)) := (P_171 L xs 74).trans rfl
theorem p_171_77 (L : Nat) (xs : Nat → Int32) : ll_P L xs 171 77 = some (.inl (lo_goto 24)) := (P_171 L xs 77).trans rfl
theorem p_171_80 (L : Nat) (xs : Nat → Int32) : ll_P L xs 171 80 = some (.inl (lo_push 81 (.int (-1)))) := (P_171 L xs 80).trans rfl
theorem p_171_81 (L : Nat) (xs : Nat → Int32) : ll_P L xs 171 81 = some (.inr (.inr 1)) := (P_171 L xs 81).trans rfl
theorem p_171_82 (L : Nat) (xs : Nat → Int32) : ll_P L xs 171 82 = some (.inl (lo_aload 83 0)) := (P_171 L xs 82).trans rfl
theorem p_171_83 (L : Nat) (xs : Nat → Int32) : ll_P L xs 171 83 = some (.inl (lo_getf 86 11 10)) := (P_171 L xs 83).trans rfl
theorem p_171_86 (L : Nat) (xs : Nat → Int32) : ll_P L xs 171 86 = some (.inl (lo_aload 87 0)) := (P_171 L xs 86).trans rfl
theorem p_171_87 (L : Nat) (xs : Nat → Int32) : ll_P L xs 171 87 = some (.inl (lo_getf 90 11 6)) := (P_171 L xs 87).trans rfl
theorem p_171_90 (L : Nat) (xs : Nat → Int32) : ll_P L xs 171 90 = some (.inl (lo_iload 91 1)) := (P_171 L xs 90).trans rfl
theorem p_171_91 (L : Nat) (xs : Nat → Int32) : ll_P L xs 171 91 = some (.inl (lo_ald 92 0)) := (P_171 L xs 91).trans rfl
theorem p_171_92 (L : Nat) (xs : Nat → Int32) : ll_P L xs 171 92 = some (.inl (lo_ald 93 0)) := (P_171 L xs 92).trans rfl
theorem p_171_93 (L : Nat) (xs : Nat → Int32) : ll_P L xs 171 93 = some (.inl (lo_istore 94 3)) := (P_171 L xs 93).trans rfl
theorem p_171_94 (L : Nat) (xs : Nat → Int32) : ll_P L xs 171 94 = some (.inl (lo_aload 95 0)) := (P_171 L xs 94).trans rfl
theorem p_171_95 (L : Nat) (xs : Nat → Int32) : ll_P L xs 171 95 = some (.inl (lo_getf 98 11 15)) := (P_171 L xs 95).trans rfl
theorem p_171_98 (L : Nat) (xs : Nat → Int32) : ll_P L xs 171 98 = some (.inl (lo_push 99 (.int 3))) := (P_171 L xs 98).trans rfl
theorem p_171_99 (L : Nat) (xs : Nat → Int32) : ll_P L xs 171 99 = some (.inl (lo_iload 100 3)) := (P_171 L xs 99).trans rfl
theorem p_171_100 (L : Nat) (xs : Nat → Int32) : ll_P L xs 171 100 = some (.inl (lo_bin 101 (fun x y => x * y))) := (P_171 L xs 100).trans rfl
theorem p_171_101 (L : Nat) (xs : Nat → Int32) : ll_P L xs 171 101 = some (.inl (lo_iload 102 2)) := (P_171 L xs 101).trans rfl
theorem p_171_102 (L : Nat) (xs : Nat → Int32) : ll_P L xs 171 102 = some (.inl (lo_bin 103 (fun x y => x + y))) := (P_171 L xs 102).trans rfl
theorem p_171_103 (L : Nat) (xs : Nat → Int32) : ll_P L xs 171 103 = some (.inl (lo_ald 104 0)) := (P_171 L xs 103).trans rfl
theorem p_171_104 (L : Nat) (xs : Nat → Int32) : ll_P L xs 171 104 = some (.inl (lo_push 105 (.int (-1)))) := (P_171 L xs 104).trans rfl
theorem p_171_105 (L : Nat) (xs : Nat → Int32) : ll_P L xs 171 105 = some (.inl (lo_cmp 110 108 (fun x y => decide (¬ x = y)))) := (P_171 L xs 105).trans rfl
theorem p_171_108 (L : Nat) (xs : Nat → Int32) : ll_P L xs 171 108 = some (.inl (lo_iload 109 3)) := (P_171 L xs 108).trans rfl
theorem p_171_109 (L : Nat) (xs : Nat → Int32) : ll_P L xs 171 109 = some (.inr (.inr 1)) := (P_171 L xs 109).trans rfl
theorem p_171_110 (L : Nat) (xs : Nat → Int32) : ll_P L xs 171 110 = some (.inl (lo_aload 111 0)) := (P_171 L xs 110).trans rfl
theorem p_171_111 (L : Nat) (xs : Nat → Int32) : ll_P L xs 171 111 = some (.inl (lo_getf 114 11 5)) := (P_171 L xs 111).trans rfl
theorem p_171_114 (L : Nat) (xs : Nat → Int32) : ll_P L xs 171 114 = some (.inl (lo_iload 115 1)) := (P_171 L xs 114).trans rfl
theorem p_171_115 (L : Nat) (xs : Nat → Int32) : ll_P L xs 171 115 = some (.inl (lo_ald 116 0)) := (P_171 L xs 115).trans rfl
theorem p_171_116 (L : Nat) (xs : Nat → Int32) : ll_P L xs 171 116 = some (.inl (lo_push 117 (.int 5))) := (P_171 L xs 116).trans rfl
theorem p_171_117 (L : Nat) (xs : Nat → Int32) : ll_P L xs 171 117 = some (.inl (lo_cmp 129 120 (fun x y => decide (x = y)))) := (P_171 L xs 117).trans rfl
theorem p_171_120 (L : Nat) (xs : Nat → Int32) : ll_P L xs 171 120 = some (.inl (lo_aload 121 0)) := (P_171 L xs 120).trans rfl
theorem p_171_121 (L : Nat) (xs : Nat → Int32) : ll_P L xs 171 121 = some (.inl (lo_getf 124 11 11)) := (P_171 L xs 121).trans rfl
theorem p_171_124 (L : Nat) (xs : Nat → Int32) : ll_P L xs 171 124 = some (.inl (lo_iload 125 3)) := (P_171 L xs 124).trans rfl
theorem p_171_125 (L : Nat) (xs : Nat → Int32) : ll_P L xs 171 125 = some (.inl (lo_ald 126 1)) := (P_171 L xs 125).trans rfl
theorem p_171_126 (L : Nat) (xs : Nat → Int32) : ll_P L xs 171 126 = some (.inl (lo_if 131 129 (fun x => decide (¬ x = 0)))) := (P_171 L xs 126).trans rfl
theorem p_171_129 (L : Nat) (xs : Nat → Int32) : ll_P L xs 171 129 = some (.inl (lo_push 130 (.int (-1)))) := (P_171 L xs 129).trans rfl
theorem p_171_130 (L : Nat) (xs : Nat → Int32) : ll_P L xs 171 130 = some (.inr (.inr 1)) := (P_171 L xs 130).trans rfl
theorem p_171_131 (L : Nat) (xs : Nat → Int32) : ll_P L xs 171 131 = some (.inl (lo_aload 132 0)) := (P_171 L xs 131).trans rfl
theorem p_171_132 (L : Nat) (xs : Nat → Int32) : ll_P L xs 171 132 = some (.inl (lo_push 133 (.int 1))) := (P_171 L xs 132).trans rfl
theorem p_171_133 (L : Nat) (xs : Nat → Int32) : ll_P L xs 171 133 = some (.inl (lo_iload 134 1)) := (P_171 L xs 133).trans rfl
theorem p_171_134 (L : Nat) (xs : Nat → Int32) : ll_P L xs 171 134 = some (.inl (lo_push 135 (.int 1))) := (P_171 L xs 134).trans rfl
theorem p_171_135 (L : Nat) (xs : Nat → Int32) : ll_P L xs 171 135 = some (.inr (.inl (161, 4, 138))) := (P_171 L xs 135).trans rfl
theorem p_171_138 (L : Nat) (xs : Nat → Int32) : ll_P L xs 171 138 = some (.inl (lo_istore 140 4)) := (P_171 L xs 138).trans rfl
theorem p_171_140 (L : Nat) (xs : Nat → Int32) : ll_P L xs 171 140 = some (.inl (lo_aload 141 0)) := (P_171 L xs 140).trans rfl
theorem p_171_141 (L : Nat) (xs : Nat → Int32) : ll_P L xs 171 141 = some (.inl (lo_getf 144 11 15)) := (P_171 L xs 141).trans rfl
theorem p_171_144 (L : Nat) (xs : Nat → Int32) : ll_P L xs 171 144 = some (.inl (lo_push 145 (.int 3))) := (P_171 L xs 144).trans rfl
theorem p_171_145 (L : Nat) (xs : Nat → Int32) : ll_P L xs 171 145 = some (.inl (lo_iload 147 4)) := (P_171 L xs 145).trans rfl
theorem p_171_147 (L : Nat) (xs : Nat → Int32) : ll_P L xs 171 147 = some (.inl (lo_bin 148 (fun x y => x * y))) := (P_171 L xs 147).trans rfl
theorem p_171_148 (L : Nat) (xs : Nat → Int32) : ll_P L xs 171 148 = some (.inl (lo_iload 149 2)) := (P_171 L xs 148).trans rfl
theorem p_171_149 (L : Nat) (xs : Nat → Int32) : ll_P L xs 171 149 = some (.inl (lo_bin 150 (fun x y => x + y))) := (P_171 L xs 149).trans rfl
theorem p_171_150 (L : Nat) (xs : Nat → Int32) : ll_P L xs 171 150 = some (.inl (lo_ald 151 0)) := (P_171 L xs 150).trans rfl
theorem p_171_151 (L : Nat) (xs : Nat → Int32) : ll_P L xs 171 151 = some (.inl (lo_push 152 (.int (-1)))) := (P_171 L xs 151).trans rfl
theorem p_171_152 (L : Nat) (xs : Nat → Int32) : ll_P L xs 171 152 = some (.inl (lo_cmp 160 155 (fun x y => decide (¬ x = y)))) := (P_171 L xs 152).trans rfl
theorem p_171_155 (L : Nat) (xs : Nat → Int32) : ll_P L xs 171 155 = some (.inl (lo_iload 157 4)) := (P_171 L xs 155).trans rfl
theorem p_171_157 (L : Nat) (xs : Nat → Int32) : ll_P L xs 171 157 = some (.inl (lo_goto 161)) := (P_171 L xs 157).trans rfl
theorem p_171_160 (L : Nat) (xs : Nat → Int32) : ll_P L xs 171 160 = some (.inl (lo_push 161 (.int (-1)))) := (P_171 L xs 160).trans rfl
theorem p_171_161 (L : Nat) (xs : Nat → Int32) : ll_P L xs 171 161 = some (.inr (.inr 1)) := (P_171 L xs 161).trans rfl
theorem b_171_0 {Y : sY} {d : Nat} {s : sT} {K : Option Int32 → sT → Prop} {r0 : Nat} {x1 : Int32} {x2 : Int32} (h : (∃ a1, (isO Y r0 11 ∧ s.2 r0 5 = some a1) ∧ (∃ m3, (isA Y a1 0 m3 ∧ inR x1 m3) ∧ (if (3 : Int32) ≤ (s.1 a1 (x1).toNatClampNeg) then (∃ a6, (isO Y r0 11 ∧ s.2 r0 5 = some a6) ∧ (∃ m8, (isA Y a6 0 m8 ∧ inR x1 m8) ∧ (if ¬ (s.1 a6 (x1).toNatClampNeg) = (3 : Int32) then (∃ a11, (isO Y r0 11 ∧ s.2 r0 10 = some a11) ∧ (∃ a13, (isO Y r0 11 ∧ s.2 r0 6 = some a13) ∧ (∃ m15, (isA Y a13 0 m15 ∧ inR x1 m15) ∧ (∃ m17, (isA Y a11 0 m17 ∧ inR (s.1 a13 (x1).toNatClampNeg) m17) ∧ (∃ a19, (isO Y r0 11 ∧ s.2 r0 15 = some a19) ∧ (∃ m21, (isA Y a19 0 m21 ∧ inR (((3 : Int32) * (s.1 a11 ((s.1 a13 (x1).toNatClampNeg)).toNatClampNeg)) + x2) m21) ∧ (if ¬ (s.1 a19 ((((3 : Int32) * (s.1 a11 ((s.1 a13 (x1).toNatClampNeg)).toNatClampNeg)) + x2)).toNatClampNeg) = (-1 : Int32) then (∃ a24, (isO Y r0 11 ∧ s.2 r0 5 = some a24) ∧ (∃ m26, (isA Y a24 0 m26 ∧ inR x1 m26) ∧ (if (s.1 a24 (x1).toNatClampNeg) = (5 : Int32) then K (some (-1 : Int32)) s else (∃ a29, (isO Y r0 11 ∧ s.2 r0 11 = some a29) ∧ (∃ m31, (isA Y a29 1 m31 ∧ inR (s.1 a11 ((s.1 a13 (x1).toNatClampNeg)).toNatClampNeg) m31) ∧ (if ¬ (s.1 a29 ((s.1 a11 ((s.1 a13 (x1).toNatClampNeg)).toNatClampNeg)).toNatClampNeg) = 0 then (isO Y r0 11 ∧ tT Y d 161 0 [.ref r0, .int (1 : Int32), .int x1, .int (1 : Int32), .null, .null] [] s (fun r s1 => tT Y (d + 1) 171 138 [.ref r0, .int x1, .int x2, .int (s.1 a11 ((s.1 a13 (x1).toNatClampNeg)).toNatClampNeg), .null] ((r.map Value.int).toList ++ []) s1 K)) else K (some (-1 : Int32)) s)))))) else K (some (s.1 a11 ((s.1 a13 (x1).toNatClampNeg)).toNatClampNeg)) s))))))) else tT Y (d + 1) 171 24 [.ref r0, .int x1, .int x2, .int (0 : Int32), .null] [] s K))) else K (some (-1 : Int32)) s)))) : tT Y (d + 1) 171 0 [.ref r0, .int x1, .int x2, .null, .null] [] s K :=
  (tt_aload (p_171_0 _ _) rfl).mpr (Exists.elim h (fun a1 h2 => t3_getr (p_171_1 _ _) (isI_11_5) h2.1.1 h2.1.2 ((tt_iload (p_171_4 _ _) rfl).mpr (Exists.elim h2.2 (fun m3 h4 => t3_ald (p_171_5 _ _) h4.1.1 h4.1.2 ((tt_push (p_171_6 _ _)).mpr (t3_cmp (p := (3 : Int32) ≤ (s.1 a1 (x1).toNatClampNeg)) (p_171_7 _ _) rfl (fun g5 => (tt_aload (p_171_12 _ _) rfl).mpr (Exists.elim (ifp h4.2 g5) (fun a6 h7 => t3_getr (p_171_13 _ _) (isI_11_5) h7.1.1 h7.1.2 ((tt_iload (p_171_16 _ _) rfl).mpr (Exists.elim h7.2 (fun m8 h9 => t3_ald (p_171_17 _ _) h9.1.1 h9.1.2 ((tt_push (p_171_18 _ _)).mpr (t3_cmp (p := ¬ (s.1 a6 (x1).toNatClampNeg) = (3 : Int32)) (p_171_19 _ _) rfl (fun g10 => (tt_aload (p_171_82 _ _) rfl).mpr (Exists.elim (ifp h9.2 g10) (fun a11 h12 => t3_getr (p_171_83 _ _) (isI_11_10) h12.1.1 h12.1.2 ((tt_aload (p_171_86 _ _) rfl).mpr (Exists.elim h12.2 (fun a13 h14 => t3_getr (p_171_87 _ _) (isI_11_6) h14.1.1 h14.1.2 ((tt_iload (p_171_90 _ _) rfl).mpr (Exists.elim h14.2 (fun m15 h16 => t3_ald (p_171_91 _ _) h16.1.1 h16.1.2 (Exists.elim h16.2 (fun m17 h18 => t3_ald (p_171_92 _ _) h18.1.1 h18.1.2 ((tt_istore (p_171_93 _ _) (Nat.le_of_ble_eq_true rfl) rfl rfl).mpr ((tt_aload (p_171_94 _ _) rfl).mpr (Exists.elim h18.2 (fun a19 h20 => t3_getr (p_171_95 _ _) (isI_11_15) h20.1.1 h20.1.2 ((tt_push (p_171_98 _ _)).mpr ((tt_iload (p_171_99 _ _) rfl).mpr ((tt_bin (p_171_100 _ _)).mpr ((tt_iload (p_171_101 _ _) rfl).mpr ((tt_bin (p_171_102 _ _)).mpr (Exists.elim h20.2 (fun m21 h22 => t3_ald (p_171_103 _ _) h22.1.1 h22.1.2 ((tt_push (p_171_104 _ _)).mpr (t3_cmp (p := ¬ (s.1 a19 ((((3 : Int32) * (s.1 a11 ((s.1 a13 (x1).toNatClampNeg)).toNatClampNeg)) + x2)).toNatClampNeg) = (-1 : Int32)) (p_171_105 _ _) rfl (fun g23 => (tt_aload (p_171_110 _ _) rfl).mpr (Exists.elim (ifp h22.2 g23) (fun a24 h25 => t3_getr (p_171_111 _ _) (isI_11_5) h25.1.1 h25.1.2 ((tt_iload (p_171_114 _ _) rfl).mpr (Exists.elim h25.2 (fun m26 h27 => t3_ald (p_171_115 _ _) h27.1.1 h27.1.2 ((tt_push (p_171_116 _ _)).mpr (t3_cmp (p := (s.1 a24 (x1).toNatClampNeg) = (5 : Int32)) (p_171_117 _ _) rfl (fun g28 => (tt_push (p_171_129 _ _)).mpr (tt_ret1 (p_171_130 _ _) (ifp h27.2 g28))) (fun g28 => (tt_aload (p_171_120 _ _) rfl).mpr (Exists.elim (ifn h27.2 g28) (fun a29 h30 => t3_getr (p_171_121 _ _) (isI_11_11) h30.1.1 h30.1.2 ((tt_iload (p_171_124 _ _) rfl).mpr (Exists.elim h30.2 (fun m31 h32 => t3_ald (p_171_125 _ _) h32.1.1 h32.1.2 (t3_if (p := ¬ (s.1 a29 ((s.1 a11 ((s.1 a13 (x1).toNatClampNeg)).toNatClampNeg)).toNatClampNeg) = 0) (p_171_126 _ _) rfl (fun g33 => (tt_aload (p_171_131 _ _) rfl).mpr ((tt_push (p_171_132 _ _)).mpr ((tt_iload (p_171_133 _ _) rfl).mpr ((tt_push (p_171_134 _ _)).mpr (t2_callv (z := 161) (k := 4) (i := r0) (as := [.int (1 : Int32), .int x1, .int (1 : Int32)]) (rest := []) (p_171_135 _ _) mK_161 mL_161 rfl rfl (Nat.le_of_ble_eq_true rfl) rfl (Nat.le_of_ble_eq_true rfl) (ifp h32.2 g33).1 (ifp h32.2 g33).2))))) (fun g33 => (tt_push (p_171_129 _ _)).mpr (tt_ret1 (p_171_130 _ _) (ifn h32.2 g33)))))))))))))))))) (fun g23 => (tt_iload (p_171_108 _ _) rfl).mpr (tt_ret1 (p_171_109 _ _) (ifn h22.2 g23))))))))))))))))))))))))))) (fun g10 => (tt_push (p_171_22 _ _)).mpr ((tt_istore (p_171_23 _ _) (Nat.le_of_ble_eq_true rfl) rfl rfl).mpr ((ifn h9.2 g10)))))))))))) (fun g5 => (tt_push (p_171_10 _ _)).mpr (tt_ret1 (p_171_11 _ _) (ifn h4.2 g5))))))))))
theorem b_171_24 {Y : sY} {d : Nat} {s : sT} {K : Option Int32 → sT → Prop} {r0 : Nat} {x1 : Int32} {x2 : Int32} {x3 : Int32} (h : (∃ a1, (isO Y r0 11 ∧ s.2 r0 7 = some a1) ∧ (∃ m3, (isA Y a1 0 m3 ∧ inR x1 m3) ∧ (if (s.1 a1 (x1).toNatClampNeg) ≤ x3 then K (some (-1 : Int32)) s else (∃ a6, (isO Y r0 11 ∧ s.2 r0 15 = some a6) ∧ (∃ a8, (isO Y r0 11 ∧ s.2 r0 10 = some a8) ∧ (∃ a10, (isO Y r0 11 ∧ s.2 r0 6 = some a10) ∧ (∃ m12, (isA Y a10 0 m12 ∧ inR x1 m12) ∧ (∃ m14, (isA Y a8 0 m14 ∧ inR ((s.1 a10 (x1).toNatClampNeg) + x3) m14) ∧ (∃ m16, (isA Y a6 0 m16 ∧ inR (((3 : Int32) * (s.1 a8 (((s.1 a10 (x1).toNatClampNeg) + x3)).toNatClampNeg)) + x2) m16) ∧ (if ¬ (s.1 a6 ((((3 : Int32) * (s.1 a8 (((s.1 a10 (x1).toNatClampNeg) + x3)).toNatClampNeg)) + x2)).toNatClampNeg) = (-1 : Int32) then tT Y (d + 1) 171 24 [.ref r0, .int x1, .int x2, .int (x3 + 1), .null] [] s K else (∃ a19, (isO Y r0 11 ∧ s.2 r0 10 = some a19) ∧ (∃ a21, (isO Y r0 11 ∧ s.2 r0 6 = some a21) ∧ (∃ m23, (isA Y a21 0 m23 ∧ inR x1 m23) ∧ (∃ m25, (isA Y a19 0 m25 ∧ inR ((s.1 a21 (x1).toNatClampNeg) + x3) m25) ∧ K (some (s.1 a19 (((s.1 a21 (x1).toNatClampNeg) + x3)).toNatClampNeg)) s))))))))))))))) : tT Y (d + 1) 171 24 [.ref r0, .int x1, .int x2, .int x3, .null] [] s K :=
  (tt_iload (p_171_24 _ _) rfl).mpr ((tt_aload (p_171_25 _ _) rfl).mpr (Exists.elim h (fun a1 h2 => t3_getr (p_171_26 _ _) (isI_11_7) h2.1.1 h2.1.2 ((tt_iload (p_171_29 _ _) rfl).mpr (Exists.elim h2.2 (fun m3 h4 => t3_ald (p_171_30 _ _) h4.1.1 h4.1.2 (t3_cmp (p := (s.1 a1 (x1).toNatClampNeg) ≤ x3) (p_171_31 _ _) rfl (fun g5 => (tt_push (p_171_80 _ _)).mpr (tt_ret1 (p_171_81 _ _) (ifp h4.2 g5))) (fun g5 => (tt_aload (p_171_34 _ _) rfl).mpr (Exists.elim (ifn h4.2 g5) (fun a6 h7 => t3_getr (p_171_35 _ _) (isI_11_15) h7.1.1 h7.1.2 ((tt_push (p_171_38 _ _)).mpr ((tt_aload (p_171_39 _ _) rfl).mpr (Exists.elim h7.2 (fun a8 h9 => t3_getr (p_171_40 _ _) (isI_11_10) h9.1.1 h9.1.2 ((tt_aload (p_171_43 _ _) rfl).mpr (Exists.elim h9.2 (fun a10 h11 => t3_getr (p_171_44 _ _) (isI_11_6) h11.1.1 h11.1.2 ((tt_iload (p_171_47 _ _) rfl).mpr (Exists.elim h11.2 (fun m12 h13 => t3_ald (p_171_48 _ _) h13.1.1 h13.1.2 ((tt_iload (p_171_49 _ _) rfl).mpr ((tt_bin (p_171_50 _ _)).mpr (Exists.elim h13.2 (fun m14 h15 => t3_ald (p_171_51 _ _) h15.1.1 h15.1.2 ((tt_bin (p_171_52 _ _)).mpr ((tt_iload (p_171_53 _ _) rfl).mpr ((tt_bin (p_171_54 _ _)).mpr (Exists.elim h15.2 (fun m16 h17 => t3_ald (p_171_55 _ _) h17.1.1 h17.1.2 ((tt_push (p_171_56 _ _)).mpr (t3_cmp (p := ¬ (s.1 a6 ((((3 : Int32) * (s.1 a8 (((s.1 a10 (x1).toNatClampNeg) + x3)).toNatClampNeg)) + x2)).toNatClampNeg) = (-1 : Int32)) (p_171_57 _ _) rfl (fun g18 => (tt_iinc (p_171_74 _ _) rfl rfl rfl).mpr ((tt_goto (p_171_77 _ _)).mpr ((ifp h17.2 g18)))) (fun g18 => (tt_aload (p_171_60 _ _) rfl).mpr (Exists.elim (ifn h17.2 g18) (fun a19 h20 => t3_getr (p_171_61 _ _) (isI_11_10) h20.1.1 h20.1.2 ((tt_aload (p_171_64 _ _) rfl).mpr (Exists.elim h20.2 (fun a21 h22 => t3_getr (p_171_65 _ _) (isI_11_6) h22.1.1 h22.1.2 ((tt_iload (p_171_68 _ _) rfl).mpr (Exists.elim h22.2 (fun m23 h24 => t3_ald (p_171_69 _ _) h24.1.1 h24.1.2 ((tt_iload (p_171_70 _ _) rfl).mpr ((tt_bin (p_171_71 _ _)).mpr (Exists.elim h24.2 (fun m25 h26 => t3_ald (p_171_72 _ _) h26.1.1 h26.1.2 (tt_ret1 (p_171_73 _ _) h26.2)))))))))))))))))))))))))))))))))))))))))))))
theorem b_171_138 {Y : sY} {d : Nat} {s : sT} {K : Option Int32 → sT → Prop} {r0 : Nat} {x1 : Int32} {x2 : Int32} {x3 : Int32} {t0 : Int32} (h : (∃ a1, (isO Y r0 11 ∧ s.2 r0 15 = some a1) ∧ (∃ m3, (isA Y a1 0 m3 ∧ inR (((3 : Int32) * t0) + x2) m3) ∧ (if ¬ (s.1 a1 ((((3 : Int32) * t0) + x2)).toNatClampNeg) = (-1 : Int32) then K (some (-1 : Int32)) s else K (some t0) s)))) : tT Y (d + 1) 171 138 [.ref r0, .int x1, .int x2, .int x3, .null] [.int t0] s K :=
  (tt_istore (p_171_138 _ _) (Nat.le_of_ble_eq_true rfl) rfl rfl).mpr ((tt_aload (p_171_140 _ _) rfl).mpr (Exists.elim h (fun a1 h2 => t3_getr (p_171_141 _ _) (isI_11_15) h2.1.1 h2.1.2 ((tt_push (p_171_144 _ _)).mpr ((tt_iload (p_171_145 _ _) rfl).mpr ((tt_bin (p_171_147 _ _)).mpr ((tt_iload (p_171_148 _ _) rfl).mpr ((tt_bin (p_171_149 _ _)).mpr (Exists.elim h2.2 (fun m3 h4 => t3_ald (p_171_150 _ _) h4.1.1 h4.1.2 ((tt_push (p_171_151 _ _)).mpr (t3_cmp (p := ¬ (s.1 a1 ((((3 : Int32) * t0) + x2)).toNatClampNeg) = (-1 : Int32)) (p_171_152 _ _) rfl (fun g5 => (tt_push (p_171_160 _ _)).mpr (tt_ret1 (p_171_161 _ _) (ifp h4.2 g5))) (fun g5 => (tt_iload (p_171_155 _ _) rfl).mpr ((tt_goto (p_171_157 _ _)).mpr (tt_ret1 (p_171_161 _ _) (ifn h4.2 g5))))))))))))))))
/-! InclusionProverModel.lays.(I)V -/
theorem p_172_0 (L : Nat) (xs : Nat → Int32) : ll_P L xs 172 0 = some (.inl (lo_push 1 (.int 0))) := (P_172 L xs 0).trans rfl
theorem p_172_1 (L : Nat) (xs : Nat → Int32) : ll_P L xs 172 1 = some (.inl (lo_istore 2 2)) := (P_172 L xs 1).trans rfl
theorem p_172_2 (L : Nat) (xs : Nat → Int32) : ll_P L xs 172 2 = some (.inl (lo_iload 3 2)) := (P_172 L xs 2).trans rfl
theorem p_172_3 (L : Nat) (xs : Nat → Int32) : ll_P L xs 172 3 = some (.inl (lo_aload 4 0)) := (P_172 L xs 3).trans rfl
theorem p_172_4 (L : Nat) (xs : Nat → Int32) : ll_P L xs 172 4 = some (.inl (lo_getf 7 11 33)) := (P_172 L xs 4).trans rfl
theorem p_172_7 (L : Nat) (xs : Nat → Int32) : ll_P L xs 172 7 = some (.inl (lo_cmp 27 10 (fun x y => decide (y ≤ x)))) := (P_172 L xs 7).trans rfl
theorem p_172_10 (L : Nat) (xs : Nat → Int32) : ll_P L xs 172 10 = some (.inl (lo_aload 11 0)) := (P_172 L xs 10).trans rfl
theorem p_172_11 (L : Nat) (xs : Nat → Int32) : ll_P L xs 172 11 = some (.inl (lo_getf 14 11 32)) := (P_172 L xs 11).trans rfl
theorem p_172_14 (L : Nat) (xs : Nat → Int32) : ll_P L xs 172 14 = some (.inl (lo_iload 15 2)) := (P_172 L xs 14).trans rfl
theorem p_172_15 (L : Nat) (xs : Nat → Int32) : ll_P L xs 172 15 = some (.inl (lo_ald 16 0)) := (P_172 L xs 15).trans rfl
theorem p_172_16 (L : Nat) (xs : Nat → Int32) : ll_P L xs 172 16 = some (.inl (lo_iload 17 1)) := (P_172 L xs 16).trans rfl
theorem p_172_17 (L : Nat) (xs : Nat → Int32) : ll_P L xs 172 17 = some (.inl (lo_cmp 21 20 (fun x y => decide (¬ x = y)))) := (P_172 L xs 17).trans rfl
theorem p_172_20 (L : Nat) (xs : Nat → Int32) : ll_P L xs 172 20 = some (.inr (.inr 0)) := (P_172 L xs 20).trans rfl
theorem p_172_21 (L : Nat) (xs : Nat → Int32) : ll_P L xs 172 21 = some (.inl (lo_iinc 24 2 1)) := (P_172 L xs 21).trans rfl
theorem p_172_24 (L : Nat) (xs : Nat → Int32) : ll_P L xs 172 24 = some (.inl (lo_goto 2)) := (P_172 L xs 24).trans rfl
theorem p_172_27 (L : Nat) (xs : Nat → Int32) : ll_P L xs 172 27 = some (.inl (lo_aload 28 0)) := (P_172 L xs 27).trans rfl
theorem p_172_28 (L : Nat) (xs : Nat → Int32) : ll_P L xs 172 28 = some (.inl (lo_getf 31 11 32)) := (P_172 L xs 28).trans rfl
theorem p_172_31 (L : Nat) (xs : Nat → Int32) : ll_P L xs 172 31 = some (.inl (lo_aload 32 0)) := (P_172 L xs 31).trans rfl
theorem p_172_32 (L : Nat) (xs : Nat → Int32) : ll_P L xs 172 32 = some (.inl (lo_getf 35 11 33)) := (P_172 L xs 32).trans rfl
theorem p_172_35 (L : Nat) (xs : Nat → Int32) : ll_P L xs 172 35 = some (.inl (lo_iload 36 1)) := (P_172 L xs 35).trans rfl
theorem p_172_36 (L : Nat) (xs : Nat → Int32) : ll_P L xs 172 36 = some (.inl (lo_ast 37 0)) := (P_172 L xs 36).trans rfl
theorem p_172_37 (L : Nat) (xs : Nat → Int32) : ll_P L xs 172 37 = some (.inl (lo_aload 38 0)) := (P_172 L xs 37).trans rfl
theorem p_172_38 (L : Nat) (xs : Nat → Int32) : ll_P L xs 172 38 = some (.inl (lo_dup 39)) := (P_172 L xs 38).trans rfl
theorem p_172_39 (L : Nat) (xs : Nat → Int32) : ll_P L xs 172 39 = some (.inl (lo_getf 42 11 33)) := (P_172 L xs 39).trans rfl
theorem p_172_42 (L : Nat) (xs : Nat → Int32) : ll_P L xs 172 42 = some (.inl (lo_push 43 (.int 1))) := (P_172 L xs 42).trans rfl
theorem p_172_43 (L : Nat) (xs : Nat → Int32) : ll_P L xs 172 43 = some (.inl (lo_bin 44 (fun x y => x + y))) := (P_172 L xs 43).trans rfl
theorem p_172_44 (L : Nat) (xs : Nat → Int32) : ll_P L xs 172 44 = some (.inl (lo_putf 47 11 33 0)) := (P_172 L xs 44).trans rfl
theorem p_172_47 (L : Nat) (xs : Nat → Int32) : ll_P L xs 172 47 = some (.inr (.inr 0)) := (P_172 L xs 47).trans rfl
theorem b_172_0 {Y : sY} {d : Nat} {s : sT} {K : Option Int32 → sT → Prop} {r0 : Nat} {x1 : Int32} (h : tT Y d 172 2 [.ref r0, .int x1, .int (0 : Int32)] [] s K) : tT Y d 172 0 [.ref r0, .int x1, .null] [] s K :=
  (tt_push (p_172_0 _ _)).mpr ((tt_istore (p_172_1 _ _) (Nat.le_of_ble_eq_true rfl) rfl rfl).mpr (h))
theorem b_172_2 {Y : sY} {d : Nat} {s : sT} {K : Option Int32 → sT → Prop} {r0 : Nat} {x1 : Int32} {x2 : Int32} (h : (isO Y r0 11 ∧ (if (s.1 r0 33) ≤ x2 then (∃ a2, (isO Y r0 11 ∧ s.2 r0 32 = some a2) ∧ (isO Y r0 11 ∧ (∃ m4, (isA Y a2 0 m4 ∧ inR (s.1 r0 33) m4) ∧ (isO Y r0 11 ∧ (isO Y r0 11 ∧ K none (pV (pV s a2 ((s.1 r0 33)).toNatClampNeg x1) r0 33 (((pV s a2 ((s.1 r0 33)).toNatClampNeg x1).1 r0 33) + (1 : Int32)))))))) else (∃ a6, (isO Y r0 11 ∧ s.2 r0 32 = some a6) ∧ (∃ m8, (isA Y a6 0 m8 ∧ inR x2 m8) ∧ (if ¬ (s.1 a6 (x2).toNatClampNeg) = x1 then tT Y d 172 2 [.ref r0, .int x1, .int (x2 + 1)] [] s K else K none s)))))) : tT Y d 172 2 [.ref r0, .int x1, .int x2] [] s K :=
  (tt_iload (p_172_2 _ _) rfl).mpr ((tt_aload (p_172_3 _ _) rfl).mpr (t3_geti (p_172_4 _ _) (isI_11_33) h.1 (t3_cmp (p := (s.1 r0 33) ≤ x2) (p_172_7 _ _) rfl (fun g1 => (tt_aload (p_172_27 _ _) rfl).mpr (Exists.elim (ifp h.2 g1) (fun a2 h3 => t3_getr (p_172_28 _ _) (isI_11_32) h3.1.1 h3.1.2 ((tt_aload (p_172_31 _ _) rfl).mpr (t3_geti (p_172_32 _ _) (isI_11_33) h3.2.1 ((tt_iload (p_172_35 _ _) rfl).mpr (Exists.elim h3.2.2 (fun m4 h5 => t3_ast (p_172_36 _ _) h5.1.1 h5.1.2 ((tt_aload (p_172_37 _ _) rfl).mpr ((tt_dupr (p_172_38 _ _)).mpr (t3_geti (p_172_39 _ _) (isI_11_33) h5.2.1 ((tt_push (p_172_42 _ _)).mpr ((tt_bin (p_172_43 _ _)).mpr ((t2_puti (p_172_44 _ _) isI_11_33 h5.2.2.1).mpr (tt_ret0 (p_172_47 _ _) h5.2.2.2))))))))))))))) (fun g1 => (tt_aload (p_172_10 _ _) rfl).mpr (Exists.elim (ifn h.2 g1) (fun a6 h7 => t3_getr (p_172_11 _ _) (isI_11_32) h7.1.1 h7.1.2 ((tt_iload (p_172_14 _ _) rfl).mpr (Exists.elim h7.2 (fun m8 h9 => t3_ald (p_172_15 _ _) h9.1.1 h9.1.2 ((tt_iload (p_172_16 _ _) rfl).mpr (t3_cmp (p := ¬ (s.1 a6 (x2).toNatClampNeg) = x1) (p_172_17 _ _) rfl (fun g10 => (tt_iinc (p_172_21 _ _) rfl rfl rfl).mpr ((tt_goto (p_172_24 _ _)).mpr ((ifp h9.2 g10)))) (fun g10 => tt_ret0 (p_172_20 _ _) (ifn h9.2 g10)))))))))))))
/-! InclusionProverModel.partOf.(III)I -/
theorem p_173_0 (L : Nat) (xs : Nat → Int32) : ll_P L xs 173 0 = some (.inl (lo_aload 1 0)) := (P_173 L xs 0).trans rfl
theorem p_173_1 (L : Nat) (xs : Nat → Int32) : ll_P L xs 173 1 = some (.inl (lo_getf 4 11 16)) := (P_173 L xs 1).trans rfl
theorem p_173_4 (L : Nat) (xs : Nat → Int32) : ll_P L xs 173 4 = some (.inl (lo_aload 5 0)) := (P_173 L xs 4).trans rfl
theorem p_173_5 (L : Nat) (xs : Nat → Int32) : ll_P L xs 173 5 = some (.inl (lo_getf 8 11 14)) := (P_173 L xs 5).trans rfl
theorem p_173_8 (L : Nat) (xs : Nat → Int32) : ll_P L xs 173 8 = some (.inl (lo_push 9 (.int 3))) := (P_173 L xs 8).trans rfl
theorem p_173_9 (L : Nat) (xs : Nat → Int32) : ll_P L xs 173 9 = some (.inl (lo_iload 10 1)) := (P_173 L xs 9).trans rfl
theorem p_173_10 (L : Nat) (xs : Nat → Int32) : ll_P L xs 173 10 = some (.inl (lo_bin 11 (fun x y => x * y))) := (P_173 L xs 10).trans rfl
theorem p_173_11 (L : Nat) (xs : Nat → Int32) : ll_P L xs 173 11 = some (.inl (lo_iload 12 2)) := (P_173 L xs 11).trans rfl
theorem p_173_12 (L : Nat) (xs : Nat → Int32) : ll_P L xs 173 12 = some (.inl (lo_bin 13 (fun x y => x + y))) := (P_173 L xs 12).trans rfl
theorem p_173_13 (L : Nat) (xs : Nat → Int32) : ll_P L xs 173 13 = some (.inl (lo_ald 14 0)) := (P_173 L xs 13).trans rfl
theorem p_173_14 (L : Nat) (xs : Nat → Int32) : ll_P L xs 173 14 = some (.inl (lo_iload 15 3)) := (P_173 L xs 14).trans rfl
theorem p_173_15 (L : Nat) (xs : Nat → Int32) : ll_P L xs 173 15 = some (.inl (lo_bin 16 (fun x y => x + y))) := (P_173 L xs 15).trans rfl
theorem p_173_16 (L : Nat) (xs : Nat → Int32) : ll_P L xs 173 16 = some (.inl (lo_ald 17 0)) := (P_173 L xs 16).trans rfl
theorem p_173_17 (L : Nat) (xs : Nat → Int32) : ll_P L xs 173 17 = some (.inr (.inr 1)) := (P_173 L xs 17).trans rfl
theorem b_173_0 {Y : sY} {d : Nat} {s : sT} {K : Option Int32 → sT → Prop} {r0 : Nat} {x1 : Int32} {x2 : Int32} {x3 : Int32} (h : (∃ a1, (isO Y r0 11 ∧ s.2 r0 16 = some a1) ∧ (∃ a3, (isO Y r0 11 ∧ s.2 r0 14 = some a3) ∧ (∃ m5, (isA Y a3 0 m5 ∧ inR (((3 : Int32) * x1) + x2) m5) ∧ (∃ m7, (isA Y a1 0 m7 ∧ inR ((s.1 a3 ((((3 : Int32) * x1) + x2)).toNatClampNeg) + x3) m7) ∧ K (some (s.1 a1 (((s.1 a3 ((((3 : Int32) * x1) + x2)).toNatClampNeg) + x3)).toNatClampNeg)) s))))) : tT Y d 173 0 [.ref r0, .int x1, .int x2, .int x3] [] s K :=
  (tt_aload (p_173_0 _ _) rfl).mpr (Exists.elim h (fun a1 h2 => t3_getr (p_173_1 _ _) (isI_11_16) h2.1.1 h2.1.2 ((tt_aload (p_173_4 _ _) rfl).mpr (Exists.elim h2.2 (fun a3 h4 => t3_getr (p_173_5 _ _) (isI_11_14) h4.1.1 h4.1.2 ((tt_push (p_173_8 _ _)).mpr ((tt_iload (p_173_9 _ _) rfl).mpr ((tt_bin (p_173_10 _ _)).mpr ((tt_iload (p_173_11 _ _) rfl).mpr ((tt_bin (p_173_12 _ _)).mpr (Exists.elim h4.2 (fun m5 h6 => t3_ald (p_173_13 _ _) h6.1.1 h6.1.2 ((tt_iload (p_173_14 _ _) rfl).mpr ((tt_bin (p_173_15 _ _)).mpr (Exists.elim h6.2 (fun m7 h8 => t3_ald (p_173_16 _ _) h8.1.1 h8.1.2 (tt_ret1 (p_173_17 _ _) h8.2)))))))))))))))))
/-! InclusionProverModel.laysParts.(II)V -/
theorem p_174_0 (L : Nat) (xs : Nat → Int32) : ll_P L xs 174 0 = some (.inl (lo_aload 1 0)) := (P_174 L xs 0).trans rfl
theorem p_174_1 (L : Nat) (xs : Nat → Int32) : ll_P L xs 174 1 = some (.inl (lo_push 2 (.int 0))) := (P_174 L xs 1).trans rfl
theorem p_174_2 (L : Nat) (xs : Nat → Int32) : ll_P L xs 174 2 = some (.inl (lo_putf 5 11 33 0)) := (P_174 L xs 2).trans rfl
theorem p_174_5 (L : Nat) (xs : Nat → Int32) : ll_P L xs 174 5 = some (.inl (lo_aload 6 0)) := (P_174 L xs 5).trans rfl
theorem p_174_6 (L : Nat) (xs : Nat → Int32) : ll_P L xs 174 6 = some (.inl (lo_getf 9 11 5)) := (P_174 L xs 6).trans rfl
theorem p_174_9 (L : Nat) (xs : Nat → Int32) : ll_P L xs 174 9 = some (.inl (lo_iload 10 1)) := (P_174 L xs 9).trans rfl
theorem p_174_10 (L : Nat) (xs : Nat → Int32) : ll_P L xs 174 10 = some (.inl (lo_ald 11 0)) := (P_174 L xs 10).trans rfl
theorem p_174_11 (L : Nat) (xs : Nat → Int32) : ll_P L xs 174 11 = some (.inl (lo_push 12 (.int 2))) := (P_174 L xs 11).trans rfl
theorem p_174_12 (L : Nat) (xs : Nat → Int32) : ll_P L xs 174 12 = some (.inl (lo_cmp 35 15 (fun x y => decide (¬ x = y)))) := (P_174 L xs 12).trans rfl
theorem p_174_15 (L : Nat) (xs : Nat → Int32) : ll_P L xs 174 15 = some (.inl (lo_aload 16 0)) := (P_174 L xs 15).trans rfl
theorem p_174_16 (L : Nat) (xs : Nat → Int32) : ll_P L xs 174 16 = some (.inl (lo_getf 19 11 10)) := (P_174 L xs 16).trans rfl
theorem p_174_19 (L : Nat) (xs : Nat → Int32) : ll_P L xs 174 19 = some (.inl (lo_aload 20 0)) := (P_174 L xs 19).trans rfl
theorem p_174_20 (L : Nat) (xs : Nat → Int32) : ll_P L xs 174 20 = some (.inl (lo_getf 23 11 6)) := (P_174 L xs 20).trans rfl
theorem p_174_23 (L : Nat) (xs : Nat → Int32) : ll_P L xs 174 23 = some (.inl (lo_iload 24 1)) := (P_174 L xs 23).trans rfl
theorem p_174_24 (L : Nat) (xs : Nat → Int32) : ll_P L xs 174 24 = some (.inl (lo_ald 25 0)) := (P_174 L xs 24).trans rfl
theorem p_174_25 (L : Nat) (xs : Nat → Int32) : ll_P L xs 174 25 = some (.inl (lo_ald 26 0)) := (P_174 L xs 25).trans rfl
theorem p_174_26 (L : Nat) (xs : Nat → Int32) : ll_P L xs 174 26 = some (.inl (lo_iload 27 2)) := (P_174 L xs 26).trans rfl
theorem p_174_27 (L : Nat) (xs : Nat → Int32) : ll_P L xs 174 27 = some (.inl (lo_cmp 35 30 (fun x y => decide (¬ x = y)))) := (P_174 L xs 27).trans rfl
theorem p_174_30 (L : Nat) (xs : Nat → Int32) : ll_P L xs 174 30 = some (.inl (lo_aload 31 0)) := (P_174 L xs 30).trans rfl
theorem p_174_31 (L : Nat) (xs : Nat → Int32) : ll_P L xs 174 31 = some (.inl (lo_push 32 (.int 1))) := (P_174 L xs 31).trans rfl
theorem p_174_32 (L : Nat) (xs : Nat → Int32) : ll_P L xs 174 32 = some (.inr (.inl (172, 2, 35))) := (P_174 L xs 32).trans rfl
theorem p_174_35 (L : Nat) (xs : Nat → Int32) : ll_P L xs 174 35 = some (.inl (lo_aload 36 0)) := (P_174 L xs 35).trans rfl
theorem p_174_36 (L : Nat) (xs : Nat → Int32) : ll_P L xs 174 36 = some (.inl (lo_getf 39 11 5)) := (P_174 L xs 36).trans rfl
theorem p_174_39 (L : Nat) (xs : Nat → Int32) : ll_P L xs 174 39 = some (.inl (lo_iload 40 1)) := (P_174 L xs 39).trans rfl
theorem p_174_40 (L : Nat) (xs : Nat → Int32) : ll_P L xs 174 40 = some (.inl (lo_ald 41 0)) := (P_174 L xs 40).trans rfl
theorem p_174_41 (L : Nat) (xs : Nat → Int32) : ll_P L xs 174 41 = some (.inl (lo_push 42 (.int 3))) := (P_174 L xs 41).trans rfl
theorem p_174_42 (L : Nat) (xs : Nat → Int32) : ll_P L xs 174 42 = some (.inl (lo_cmp 116 45 (fun x y => decide (¬ x = y)))) := (P_174 L xs 42).trans rfl
theorem p_174_45 (L : Nat) (xs : Nat → Int32) : ll_P L xs 174 45 = some (.inl (lo_push 46 (.int 0))) := (P_174 L xs 45).trans rfl
theorem p_174_46 (L : Nat) (xs : Nat → Int32) : ll_P L xs 174 46 = some (.inl (lo_istore 47 3)) := (P_174 L xs 46).trans rfl
theorem p_174_47 (L : Nat) (xs : Nat → Int32) : ll_P L xs 174 47 = some (.inl (lo_iload 48 3)) := (P_174 L xs 47).trans rfl
theorem p_174_48 (L : Nat) (xs : Nat → Int32) : ll_P L xs 174 48 = some (.inl (lo_aload 49 0)) := (P_174 L xs 48).trans rfl
theorem p_174_49 (L : Nat) (xs : Nat → Int32) : ll_P L xs 174 49 = some (.inl (lo_getf 52 11 7)) := (P_174 L xs 49).trans rfl
theorem p_174_52 (L : Nat) (xs : Nat → Int32) : ll_P L xs 174 52 = some (.inl (lo_iload 53 1)) := (P_174 L xs 52).trans rfl
theorem p_174_53 (L : Nat) (xs : Nat → Int32) : ll_P L xs 174 53 = some (.inl (lo_ald 54 0)) := (P_174 L xs 53).trans rfl
theorem p_174_54 (L : Nat) (xs : Nat → Int32) : ll_P L xs 174 54 = some (.inl (lo_cmp 116 57 (fun x y => decide (y ≤ x)))) := (P_174 L xs 54).trans rfl
theorem p_174_57 (L : Nat) (xs : Nat → Int32) : ll_P L xs 174 57 = some (.inl (lo_aload 58 0)) := (P_174 L xs 57).trans rfl
theorem p_174_58 (L : Nat) (xs : Nat → Int32) : ll_P L xs 174 58 = some (.inl (lo_getf 61 11 10)) := (P_174 L xs 58).trans rfl
theorem p_174_61 (L : Nat) (xs : Nat → Int32) : ll_P L xs 174 61 = some (.inl (lo_aload 62 0)) := (P_174 L xs 61).trans rfl
theorem p_174_62 (L : Nat) (xs : Nat → Int32) : ll_P L xs 174 62 = some (.inl (lo_getf 65 11 6)) := (P_174 L xs 62).trans rfl
theorem p_174_65 (L : Nat) (xs : Nat → Int32) : ll_P L xs 174 65 = some (.inl (lo_iload 66 1)) := (P_174 L xs 65).trans rfl
theorem p_174_66 (L : Nat) (xs : Nat → Int32) : ll_P L xs 174 66 = some (.inl (lo_ald 67 0)) := (P_174 L xs 66).trans rfl
theorem p_174_67 (L : Nat) (xs : Nat → Int32) : ll_P L xs 174 67 = some (.inl (lo_iload 68 3)) := (P_174 L xs 67).trans rfl
theorem p_174_68 (L : Nat) (xs : Nat → Int32) : ll_P L xs 174 68 = some (.inl (lo_bin 69 (fun x y => x + y))) := (P_174 L xs 68).trans rfl
theorem p_174_69 (L : Nat) (xs : Nat → Int32) : ll_P L xs 174 69 = some (.inl (lo_ald 70 0)) := (P_174 L xs 69).trans rfl
theorem p_174_70 (L : Nat) (xs : Nat → Int32) : ll_P L xs 174 70 = some (.inl (lo_istore 72 4)) := (P_174 L xs 70).trans rfl
theorem p_174_72 (L : Nat) (xs : Nat → Int32) : ll_P L xs 174 72 = some (.inl (lo_push 73 (.int 0))) := (P_174 L xs 72).trans rfl
theorem p_174_73 (L : Nat) (xs : Nat → Int32) : ll_P L xs 174 73 = some (.inl (lo_istore 75 5)) := (P_174 L xs 73).trans rfl
theorem p_174_75 (L : Nat) (xs : Nat → Int32) : ll_P L xs 174 75 = some (.inl (lo_iload 77 5)) := (P_174 L xs 75).trans rfl
theorem p_174_77 (L : Nat) (xs : Nat → Int32) : ll_P L xs 174 77 = some (.inl (lo_aload 78 0)) := (P_174 L xs 77).trans rfl
theorem p_174_78 (L : Nat) (xs : Nat → Int32) : ll_P L xs 174 78 = some (.inl (lo_getf 81 11 15)) := (P_174 L xs 78).trans rfl
theorem p_174_81 (L : Nat) (xs : Nat → Int32) : ll_P L xs 174 81 = some (.inl (lo_push 82 (.int 3))) := (P_174 L xs 81).trans rfl
theorem p_174_82 (L : Nat) (xs : Nat → Int32) : ll_P L xs 174 82 = some (.inl (lo_iload 84 4)) := (P_174 L xs 82).trans rfl
theorem p_174_84 (L : Nat) (xs : Nat → Int32) : ll_P L xs 174 84 = some (.inl (lo_bin 85 (fun x y => x * y))) := (P_174 L xs 84).trans rfl
theorem p_174_85 (L : Nat) (xs : Nat → Int32) : ll_P L xs 174 85 = some (.inl (lo_iload 86 2)) := (P_174 L xs 85).trans rfl
theorem p_174_86 (L : Nat) (xs : Nat → Int32) : ll_P L xs 174 86 = some (.inl (lo_bin 87 (fun x y => x + y))) := (P_174 L xs 86).trans rfl
theorem p_174_87 (L : Nat) (xs : Nat → Int32) : ll_P L xs 174 87 = some (.inl (lo_ald 88 0)) := (P_174 L xs 87).trans rfl
theorem p_174_88 (L : Nat) (xs : Nat → Int32) : ll_P L xs 174 88 = some (.inl (lo_cmp 110 91 (fun x y => decide (y ≤ x)))) := (P_174 L xs 88).trans rfl
theorem p_174_91 (L : Nat) (xs : Nat → Int32) : ll_P L xs 174 91 = some (.inl (lo_aload 92 0)) := (P_174 L xs 91).trans rfl
theorem p_174_92 (L : Nat) (xs : Nat → Int32) : ll_P L xs 174 92 = some (.inl (lo_aload 93 0)) := (P_174 L xs 92).trans rfl
theorem p_174_93 (L : Nat) (xs : Nat → Int32) : ll_P L xs 174 93 = some (.inl (lo_iload 95 4)) := (P_174 L xs 93).trans rfl
theorem p_174_95 (L : Nat) (xs : Nat → Int32) : ll_P L xs 174 95 = some (.inl (lo_iload 96 2)) := (P_174 L xs 95).trans rfl
theorem p_174_96 (L : Nat) (xs : Nat → Int32) : ll_P L xs 174 96 = some (.inl (lo_iload 98 5)) := (P_174 L xs 96).trans rfl
theorem p_174_98 (L : Nat) (xs : Nat → Int32) : ll_P L xs 174 98 = some (.inr (.inl (173, 4, 101))) := (P_174 L xs 98).trans rfl
theorem p_174_101 (L : Nat) (xs : Nat → Int32) : ll_P L xs 174 101 = some (.inr (.inl (172, 2, 104))) := (P_174 L xs 101).trans rfl
theorem p_174_104 (L : Nat) (xs : Nat → Int32) : ll_P L xs 174 104 = some (.inl (lo_iinc 107 5 1)) := (P_174 L xs 104).trans rfl
theorem p_174_107 (L : Nat) (xs : Nat → Int32) : ll_P L xs 174 107 = some (.inl (lo_goto 75)) := (P_174 L xs 107).trans rfl
theorem p_174_110 (L : Nat) (xs : Nat → Int32) : ll_P L xs 174 110 = some (.inl (lo_iinc 113 3 1)) := (P_174 L xs 110).trans rfl
theorem p_174_113 (L : Nat) (xs : Nat → Int32) : ll_P L xs 174 113 = some (.inl (lo_goto 47)) := (P_174 L xs 113).trans rfl
theorem p_174_116 (L : Nat) (xs : Nat → Int32) : ll_P L xs 174 116 = some (.inl (lo_aload 117 0)) := (P_174 L xs 116).trans rfl
theorem p_174_117 (L : Nat) (xs : Nat → Int32) : ll_P L xs 174 117 = some (.inl (lo_getf 120 11 5)) := (P_174 L xs 117).trans rfl
theorem p_174_120 (L : Nat) (xs : Nat → Int32) : ll_P L xs 174 120 = some (.inl (lo_iload 121 1)) := (P_174 L xs 120).trans rfl
theorem p_174_121 (L : Nat) (xs : Nat → Int32) : ll_P L xs 174 121 = some (.inl (lo_ald 122 0)) := (P_174 L xs 121).trans rfl
theorem p_174_122 (L : Nat) (xs : Nat → Int32) : ll_P L xs 174 122 = some (.inl (lo_push 123 (.int 3))) := (P_174 L xs 122).trans rfl
theorem p_174_123 (L : Nat) (xs : Nat → Int32) : ll_P L xs 174 123 = some (.inl (lo_cmp 272 126 (fun x y => decide (x ≤ y)))) := (P_174 L xs 123).trans rfl
theorem p_174_126 (L : Nat) (xs : Nat → Int32) : ll_P L xs 174 126 = some (.inl (lo_aload 127 0)) := (P_174 L xs 126).trans rfl
theorem p_174_127 (L : Nat) (xs : Nat → Int32) : ll_P L xs 174 127 = some (.inl (lo_getf 130 11 10)) := (P_174 L xs 127).trans rfl
theorem p_174_130 (L : Nat) (xs : Nat → Int32) : ll_P L xs 174 130 = some (.inl (lo_aload 131 0)) := (P_174 L xs 130).trans rfl
theorem p_174_131 (L : Nat) (xs : Nat → Int32) : ll_P L xs 174 131 = some (.inl (lo_getf 134 11 6)) := (P_174 L xs 131).trans rfl
theorem p_174_134 (L : Nat) (xs : Nat → Int32) : ll_P L xs 174 134 = some (.inl (lo_iload 135 1)) := (P_174 L xs 134).trans rfl
theorem p_174_135 (L : Nat) (xs : Nat → Int32) : ll_P L xs 174 135 = some (.inl (lo_ald 136 0)) := (P_174 L xs 135).trans rfl
theorem p_174_136 (L : Nat) (xs : Nat → Int32) : ll_P L xs 174 136 = some (.inl (lo_ald 137 0)) := (P_174 L xs 136).trans rfl
theorem p_174_137 (L : Nat) (xs : Nat → Int32) : ll_P L xs 174 137 = some (.inl (lo_istore 138 3)) := (P_174 L xs 137).trans rfl
theorem p_174_138 (L : Nat) (xs : Nat → Int32) : ll_P L xs 174 138 = some (.inl (lo_push 139 (.int 0))) := (P_174 L xs 138).trans rfl
theorem p_174_139 (L : Nat) (xs : Nat → Int32) : ll_P L xs 174 139 = some (.inl (lo_istore 141 4)) := (P_174 L xs 139).trans rfl
theorem p_174_141 (L : Nat) (xs : Nat → Int32) : ll_P L xs 174 141 = some (.inl (lo_iload 143 4)) := (P_174 L xs 141).trans rfl
theorem p_174_143 (L : Nat) (xs : Nat → Int32) : ll_P L xs 174 143 = some (.inl (lo_aload 144 0)) := (P_174 L xs 143).trans rfl
theorem p_174_144 (L : Nat) (xs : Nat → Int32) : ll_P L xs 174 144 = some (.inl (lo_getf 147 11 15)) := (P_174 L xs 144).trans rfl
theorem p_174_147 (L : Nat) (xs : Nat → Int32) : ll_P L xs 174 147 = some (.inl (lo_push 148 (.int 3))) := (P_174 L xs 147).trans rfl
theorem p_174_148 (L : Nat) (xs : Nat → Int32) : ll_P L xs 174 148 = some (.inl (lo_iload 149 3)) := (P_174 L xs 148).trans rfl
theorem p_174_149 (L : Nat) (xs : Nat → Int32) : ll_P L xs 174 149 = some (.inl (lo_bin 150 (fun x y => x * y))) := (P_174 L xs 149).trans rfl
theorem p_174_150 (L : Nat) (xs : Nat → Int32) : ll_P L xs 174 150 = some (.inl (lo_iload 151 2)) := (P_174 L xs 150).trans rfl
theorem p_174_151 (L : Nat) (xs : Nat → Int32) : ll_P L xs 174 151 = some (.inl (lo_bin 152 (fun x y => x + y))) := (P_174 L xs 151).trans rfl
theorem p_174_152 (L : Nat) (xs : Nat → Int32) : ll_P L xs 174 152 = some (.inl (lo_ald 153 0)) := (P_174 L xs 152).trans rfl
theorem p_174_153 (L : Nat) (xs : Nat → Int32) : ll_P L xs 174 153 = some (.inl (lo_cmp 206 156 (fun x y => decide (y ≤ x)))) := (P_174 L xs 153).trans rfl
theorem p_174_156 (L : Nat) (xs : Nat → Int32) : ll_P L xs 174 156 = some (.inl (lo_aload 157 0)) := (P_174 L xs 156).trans rfl
theorem p_174_157 (L : Nat) (xs : Nat → Int32) : ll_P L xs 174 157 = some (.inl (lo_aload 158 0)) := (P_174 L xs 157).trans rfl
theorem p_174_158 (L : Nat) (xs : Nat → Int32) : ll_P L xs 174 158 = some (.inl (lo_getf 161 11 5)) := (P_174 L xs 158).trans rfl
theorem p_174_161 (L : Nat) (xs : Nat → Int32) : ll_P L xs 174 161 = some (.inl (lo_iload 162 1)) := (P_174 L xs 161).trans rfl
theorem p_174_162 (L : Nat) (xs : Nat → Int32) : ll_P L xs 174 162 = some (.inl (lo_ald 163 0)) := (P_174 L xs 162).trans rfl
theorem p_174_163 (L : Nat) (xs : Nat → Int32) : ll_P L xs 174 163 = some (.inl (lo_push 164 (.int 5))) := (P_174 L xs 163).trans rfl
theorem p_174_164 (L : Nat) (xs : Nat → Int32) : ll_P L xs 174 164 = some (.inl (lo_cmp 183 167 (fun x y => decide (¬ x = y)))) := (P_174 L xs 164).trans rfl
theorem p_174_167 (L : Nat) (xs : Nat → Int32) : ll_P L xs 174 167 = some (.inl (lo_aload 168 0)) := (P_174 L xs 167).trans rfl
theorem p_174_168 (L : Nat) (xs : Nat → Int32) : ll_P L xs 174 168 = some (.inl (lo_aload 169 0)) := (P_174 L xs 168).trans rfl
theorem p_174_169 (L : Nat) (xs : Nat → Int32) : ll_P L xs 174 169 = some (.inl (lo_iload 170 3)) := (P_174 L xs 169).trans rfl
theorem p_174_170 (L : Nat) (xs : Nat → Int32) : ll_P L xs 174 170 = some (.inl (lo_iload 171 2)) := (P_174 L xs 170).trans rfl
theorem p_174_171 (L : Nat) (xs : Nat → Int32) : ll_P L xs 174 171 = some (.inl (lo_iload 173 4)) := (P_174 L xs 171).trans rfl
theorem p_174_173 (L : Nat) (xs : Nat → Int32) : ll_P L xs 174 173 = some (.inr (.inl (173, 4, 176))) := (P_174 L xs 173).trans rfl
theorem p_174_176 (L : Nat) (xs : Nat → Int32) : ll_P L xs 174 176 = some (.inl (lo_iload 177 1)) := (P_174 L xs 176).trans rfl
theorem p_174_177 (L : Nat) (xs : Nat → Int32) : ll_P L xs 174 177 = some (.inr (.inl (175, 3, 180))) := (P_174 L xs 177).trans rfl
theorem p_174_180 (L : Nat) (xs : Nat → Int32) : ll_P L xs 174 180 = some (.inl (lo_goto 197)) := (P_174 L xs 180).trans rfl
theorem p_174_183 (L : Nat) (xs : Nat → Int32) : ll_P L xs 174 183 = some (.inl (lo_aload 184 0)) := (P_174 L xs 183).trans rfl
theorem p_174_184 (L : Nat) (xs : Nat → Int32) : ll_P L xs 174 184 = some (.inl (lo_aload 185 0)) := (P_174 L xs 184).trans rfl
theorem p_174_185 (L : Nat) (xs : Nat → Int32) : ll_P L xs 174 185 = some (.inl (lo_iload 186 3)) := (P_174 L xs 185).trans rfl
theorem p_174_186 (L : Nat) (xs : Nat → Int32) : ll_P L xs 174 186 = some (.inl (lo_iload 187 2)) := (P_174 L xs 186).trans rfl
theorem p_174_187 (L : Nat) (xs : Nat → Int32) : ll_P L xs 174 187 = some (.inl (lo_iload 189 4)) := (P_174 L xs 187).trans rfl
theorem p_174_189 (L : Nat) (xs : Nat → Int32) : ll_P L xs 174 189 = some (.inr (.inl (173, 4, 192))) := (P_174 L xs 189).trans rfl
theorem p_174_192 (L : Nat) (xs : Nat → Int32) : ll_P L xs 174 192 = some (.inl (lo_iload 193 1)) := (P_174 L xs 192).trans rfl
theorem p_174_193 (L : Nat) (xs : Nat → Int32) : ll_P L xs 174 193 = some (.inl (lo_push 194 (.int 1))) := (P_174 L xs 193).trans rfl
theorem p_174_194 (L : Nat) (xs : Nat → Int32) : ll_P L xs 174 194 = some (.inr (.inl (161, 4, 197))) := (P_174 L xs 194).trans rfl
theorem p_174_197 (L : Nat) (xs : Nat → Int32) : ll_P L xs 174 197 = some (.inr (.inl (172, 2, 200))) := (P_174 L xs 197).trans rfl
theorem p_174_200 (L : Nat) (xs : Nat → Int32) : ll_P L xs 174 200 = some (.inl (lo_iinc 203 4 1)) := (P_174 L xs 200).trans rfl
theorem p_174_203 (L : Nat) (xs : Nat → Int32) : ll_P L xs 174 203 = some (.inl (lo_goto 141)) := (P_174 L xs 203).trans rfl
theorem p_174_206 (L : Nat) (xs : Nat → Int32) : ll_P L xs 174 206 = some (.inl (lo_aload 207 0)) := (P_174 L xs 206).trans rfl
theorem p_174_207 (L : Nat) (xs : Nat → Int32) : ll_P L xs 174 207 = some (.inl (lo_getf 210 11 5)) := (P_174 L xs 207).trans rfl
theorem p_174_210 (L : Nat) (xs : Nat → Int32) : ll_P L xs 174 210 = some (.inl (lo_iload 211 1)) := (P_174 L xs 210).trans rfl
theorem p_174_211 (L : Nat) (xs : Nat → Int32) : ll_P L xs 174 211 = some (.inl (lo_ald 212 0)) := (P_174 L xs 211).trans rfl
theorem p_174_212 (L : Nat) (xs : Nat → Int32) : ll_P L xs 174 212 = some (.inl (lo_push 213 (.int 4))) := (P_174 L xs 212).trans rfl
theorem p_174_213 (L : Nat) (xs : Nat → Int32) : ll_P L xs 174 213 = some (.inl (lo_cmp 272 216 (fun x y => decide (¬ x = y)))) := (P_174 L xs 213).trans rfl
theorem p_174_216 (L : Nat) (xs : Nat → Int32) : ll_P L xs 174 216 = some (.inl (lo_aload 217 0)) := (P_174 L xs 216).trans rfl
theorem p_174_217 (L : Nat) (xs : Nat → Int32) : ll_P L xs 174 217 = some (.inl (lo_getf 220 11 11)) := (P_174 L xs 217).trans rfl
theorem p_174_220 (L : Nat) (xs : Nat → Int32) : ll_P L xs 174 220 = some (.inl (lo_iload 221 3)) := (P_174 L xs 220).trans rfl
theorem p_174_221 (L : Nat) (xs : Nat → Int32) : ll_P L xs 174 221 = some (.inl (lo_ald 222 1)) := (P_174 L xs 221).trans rfl
theorem p_174_222 (L : Nat) (xs : Nat → Int32) : ll_P L xs 174 222 = some (.inl (lo_if 272 225 (fun x => decide (x = 0)))) := (P_174 L xs 222).trans rfl
theorem p_174_225 (L : Nat) (xs : Nat → Int32) : ll_P L xs 174 225 = some (.inl (lo_aload 226 0)) := (P_174 L xs 225).trans rfl
theorem p_174_226 (L : Nat) (xs : Nat → Int32) : ll_P L xs 174 226 = some (.inl (lo_push 227 (.int 1))) := (P_174 L xs 226).trans rfl
theorem p_174_227 (L : Nat) (xs : Nat → Int32) : ll_P L xs 174 227 = some (.inl (lo_iload 228 1)) := (P_174 L xs 227).trans rfl
theorem p_174_228 (L : Nat) (xs : Nat → Int32) : ll_P L xs 174 228 = some (.inl (lo_push 229 (.int 1))) := (P_174 L xs 228).trans rfl
theorem p_174_229 (L : Nat) (xs : Nat → Int32) : ll_P L xs 174 229 = some (.inr (.inl (161, 4, 232))) := (P_174 L xs 229).trans rfl
theorem p_174_232 (L : Nat) (xs : Nat → Int32) : ll_P L xs 174 232 = some (.inl (lo_istore 234 4)) := (P_174 L xs 232).trans rfl
theorem p_174_234 (L : Nat) (xs : Nat → Int32) : ll_P L xs 174 234 = some (.inl (lo_push 235 (.int 0))) := (P_174 L xs 234).trans rfl
theorem p_174_235 (L : Nat) (xs : Nat → Int32) : ll_P L xs 174 235 = some (.inl (lo_istore 237 5)) := (P_174 L xs 235).trans rfl
theorem p_174_237 (L : Nat) (xs : Nat → Int32) : ll_P L xs 174 237 = some (.inl (lo_iload 239 5)) := (P_174 L xs 237).trans rfl
theorem p_174_239 (L : Nat) (xs : Nat → Int32) : ll_P L xs 174 239 = some (.inl (lo_aload 240 0)) := (P_174 L xs 239).trans rfl
theorem p_174_240 (L : Nat) (xs : Nat → Int32) : ll_P L xs 174 240 = some (.inl (lo_getf 243 11 15)) := (P_174 L xs 240).trans rfl
theorem p_174_243 (L : Nat) (xs : Nat → Int32) : ll_P L xs 174 243 = some (.inl (lo_push 244 (.int 3))) := (P_174 L xs 243).trans rfl
theorem p_174_244 (L : Nat) (xs : Nat → Int32) : ll_P L xs 174 244 = some (.inl (lo_iload 246 4)) := (P_174 L xs 244).trans rfl
theorem p_174_246 (L : Nat) (xs : Nat → Int32) : ll_P L xs 174 246 = some (.inl (lo_bin 247 (fun x y => x * y))) := (P_174 L xs 246).trans rfl
theorem p_174_247 (L : Nat) (xs : Nat → Int32) : ll_P L xs 174 247 = some (.inl (lo_iload 248 2)) := (P_174 L xs 247).trans rfl
theorem p_174_248 (L : Nat) (xs : Nat → Int32) : ll_P L xs 174 248 = some (.inl (lo_bin 249 (fun x y => x + y))) := (P_174 L xs 248).trans rfl
theorem p_174_249 (L : Nat) (xs : Nat → Int32) : ll_P L xs 174 249 = some (.inl (lo_ald 250 0)) := (P_174 L xs 249).trans rfl
theorem p_174_250 (L : Nat) (xs : Nat → Int32) : ll_P L xs 174 250 = some (.inl (lo_cmp 272 253 (fun x y => decide (y ≤ x)))) := (P_174 L xs 250).trans rfl
theorem p_174_253 (L : Nat) (xs : Nat → Int32) : ll_P L xs 174 253 = some (.inl (lo_aload 254 0)) := (P_174 L xs 253).trans rfl
theorem p_174_254 (L : Nat) (xs : Nat → Int32) : ll_P L xs 174 254 = some (.inl (lo_aload 255 0)) := (P_174 L xs 254).trans rfl
theorem p_174_255 (L : Nat) (xs : Nat → Int32) : ll_P L xs 174 255 = some (.inl (lo_iload 257 4)) := (P_174 L xs 255).trans rfl
theorem p_174_257 (L : Nat) (xs : Nat → Int32) : ll_P L xs 174 257 = some (.inl (lo_iload 258 2)) := (P_174 L xs 257).trans rfl
theorem p_174_258 (L : Nat) (xs : Nat → Int32) : ll_P L xs 174 258 = some (.inl (lo_iload 260 5)) := (P_174 L xs 258).trans rfl
theorem p_174_260 (L : Nat) (xs : Nat → Int32) : ll_P L xs 174 260 = some (.inr (.inl (173, 4, 263))) := (P_174 L xs 260).trans rfl
theorem p_174_263 (L : Nat) (xs : Nat → Int32) : ll_P L xs 174 263 = some (.inr (.inl (172, 2, 266))) := (P_174 L xs 263).trans rfl
theorem p_174_266 (L : Nat) (xs : Nat → Int32) : ll_P L xs 174 266 = some (.inl (lo_iinc 269 5 1)) := (P_174 L xs 266).trans rfl
theorem p_174_269 (L : Nat) (xs : Nat → Int32) : ll_P L xs 174 269 = some (.inl (lo_goto 237)) := (P_174 L xs 269).trans rfl
theorem p_174_272 (L : Nat) (xs : Nat → Int32) : ll_P L xs 174 272 = some (.inl (lo_aload 273 0)) := (P_174 L xs 272).trans rfl
theorem p_174_273 (L : Nat) (xs : Nat → Int32) : ll_P L xs 174 273 = some (.inl (lo_getf 276 11 14)) := (P_174 L xs 273).trans rfl
theorem p_174_276 (L : Nat) (xs : Nat → Int32) : ll_P L xs 174 276 = some (.inl (lo_push 277 (.int 3))) := (P_174 L xs 276).trans rfl
theorem p_174_277 (L : Nat) (xs : Nat → Int32) : ll_P L xs 174 277 = some (.inl (lo_iload 278 1)) := (P_174 L xs 277).trans rfl
theorem p_174_278 (L : Nat) (xs : Nat → Int32) : ll_P L xs 174 278 = some (.inl (lo_bin 279 (fun x y => x * y))) := (P_174 L xs 278).trans rfl
theorem p_174_279 (L : Nat) (xs : Nat → Int32) : ll_P L xs 174 279 = some (.inl (lo_iload 280 2)) := (P_174 L xs 279).trans rfl
theorem p_174_280 (L : Nat) (xs : Nat → Int32) : ll_P L xs 174 280 = some (.inl (lo_bin 281 (fun x y => x + y))) := (P_174 L xs 280).trans rfl
theorem p_174_281 (L : Nat) (xs : Nat → Int32) : ll_P L xs 174 281 = some (.inl (lo_aload 282 0)) := (P_174 L xs 281).trans rfl
theorem p_174_282 (L : Nat) (xs : Nat → Int32) : ll_P L xs 174 282 = some (.inl (lo_getf 285 11 17)) := (P_174 L xs 282).trans rfl
theorem p_174_285 (L : Nat) (xs : Nat → Int32) : ll_P L xs 174 285 = some (.inl (lo_ast 286 0)) := (P_174 L xs 285).trans rfl
theorem p_174_286 (L : Nat) (xs : Nat → Int32) : ll_P L xs 174 286 = some (.inl (lo_aload 287 0)) := (P_174 L xs 286).trans rfl
theorem p_174_287 (L : Nat) (xs : Nat → Int32) : ll_P L xs 174 287 = some (.inl (lo_getf 290 11 15)) := (P_174 L xs 287).trans rfl
theorem p_174_290 (L : Nat) (xs : Nat → Int32) : ll_P L xs 174 290 = some (.inl (lo_push 291 (.int 3))) := (P_174 L xs 290).trans rfl
theorem p_174_291 (L : Nat) (xs : Nat → Int32) : ll_P L xs 174 291 = some (.inl (lo_iload 292 1)) := (P_174 L xs 291).trans rfl
theorem p_174_292 (L : Nat) (xs : Nat → Int32) : ll_P L xs 174 292 = some (.inl (lo_bin 293 (fun x y => x * y))) := (P_174 L xs 292).trans rfl
theorem p_174_293 (L : Nat) (xs : Nat → Int32) : ll_P L xs 174 293 = some (.inl (lo_iload 294 2)) := (P_174 L xs 293).trans rfl
theorem p_174_294 (L : Nat) (xs : Nat → Int32) : ll_P L xs 174 294 = some (.inl (lo_bin 295 (fun x y => x + y))) := (P_174 L xs 294).trans rfl
theorem p_174_295 (L : Nat) (xs : Nat → Int32) : ll_P L xs 174 295 = some (.inl (lo_aload 296 0)) := (P_174 L xs 295).trans rfl
theorem p_174_296 (L : Nat) (xs : Nat → Int32) : ll_P L xs 174 296 = some (.inl (lo_getf 299 11 33)) := (P_174 L xs 296).trans rfl
theorem p_174_299 (L : Nat) (xs : Nat → Int32) : ll_P L xs 174 299 = some (.inl (lo_ast 300 0)) := (P_174 L xs 299).trans rfl
theorem p_174_300 (L : Nat) (xs : Nat → Int32) : ll_P L xs 174 300 = some (.inl (lo_push 301 (.int 0))) := (P_174 L xs 300).trans rfl
set_option maxRecDepth 100000 in
theorem p_174_301 (L : Nat) (xs : Nat → Int32) : ll_P L xs 174 301 = some (.inl (lo_istore 302 3)) := (P_174 L xs 301).trans rfl
set_option maxRecDepth 100000 in
theorem p_174_302 (L : Nat) (xs : Nat → Int32) : ll_P L xs 174 302 = some (.inl (lo_iload 303 3)) := (P_174 L xs 302).trans rfl
set_option maxRecDepth 100000 in
theorem p_174_303 (L : Nat) (xs : Nat → Int32) : ll_P L xs 174 303 = some (.inl (lo_aload 304 0)) := (P_174 L xs 303).trans rfl
set_option maxRecDepth 100000 in
theorem p_174_304 (L : Nat) (xs : Nat → Int32) : ll_P L xs 174 304 = some (.inl (lo_getf 307 11 33)) := (P_174 L xs 304).trans rfl
set_option maxRecDepth 100000 in
theorem p_174_307 (L : Nat) (xs : Nat → Int32) : ll_P L xs 174 307 = some (.inl (lo_cmp 333 310 (fun x y => decide (y ≤ x)))) := (P_174 L xs 307).trans rfl
set_option maxRecDepth 100000 in
theorem p_174_310 (L : Nat) (xs : Nat → Int32) : ll_P L xs 174 310 = some (.inl (lo_aload 311 0)) := (P_174 L xs 310).trans rfl
set_option maxRecDepth 100000 in
theorem p_174_311 (L : Nat) (xs : Nat → Int32) : ll_P L xs 174 311 = some (.inl (lo_getf 314 11 16)) := (P_174 L xs 311).trans rfl
set_option maxRecDepth 100000 in
theorem p_174_314 (L : Nat) (xs : Nat → Int32) : ll_P L xs 174 314 = some (.inl (lo_aload 315 0)) := (P_174 L xs 314).trans rfl
set_option maxRecDepth 100000 in
theorem p_174_315 (L : Nat) (xs : Nat → Int32) : ll_P L xs 174 315 = some (.inl (lo_getf 318 11 17)) := (P_174 L xs 315).trans rfl
set_option maxRecDepth 100000 in
theorem p_174_318 (L : Nat) (xs : Nat → Int32) : ll_P L xs 174 318 = some (.inl (lo_iload 319 3)) := (P_174 L xs 318).trans rfl
set_option maxRecDepth 100000 in
theorem p_174_319 (L : Nat) (xs : Nat → Int32) : ll_P L xs 174 319 = some (.inl (lo_bin 320 (fun x y => x + y))) := (P_174 L xs 319).trans rfl
set_option maxRecDepth 100000 in
theorem p_174_320 (L : Nat) (xs : Nat → Int32) : ll_P L xs 174 320 = some (.inl (lo_aload 321 0)) := (P_174 L xs 320).trans rfl
set_option maxRecDepth 100000 in
theorem p_174_321 (L : Nat) (xs : Nat → Int32) : ll_P L xs 174 321 = some (.inl (lo_getf 324 11 32)) := (P_174 L xs 321).trans rfl
set_option maxRecDepth 100000 in
theorem p_174_324 (L : Nat) (xs : Nat → Int32) : ll_P L xs 174 324 = some (.inl (lo_iload 325 3)) := (P_174 L xs 324).trans rfl
set_option maxRecDepth 100000 in
theorem p_174_325 (L : Nat) (xs : Nat → Int32) : ll_P L xs 174 325 = some (.inl (lo_ald 326 0)) := (P_174 L xs 325).trans rfl
set_option maxRecDepth 100000 in
theorem p_174_326 (L : Nat) (xs : Nat → Int32) : ll_P L xs 174 326 = some (.inl (lo_ast 327 0)) := (P_174 L xs 326).trans rfl
set_option maxRecDepth 100000 in
theorem p_174_327 (L : Nat) (xs : Nat → Int32) : ll_P L xs 174 327 = some (.inl (lo_iinc 330 3 1)) := (P_174 L xs 327).trans rfl
set_option maxRecDepth 100000 in
theorem p_174_330 (L : Nat) (xs : Nat → Int32) : ll_P L xs 174 330 = some (.inl (lo_goto 302)) := (P_174 L xs 330).trans rfl
set_option maxRecDepth 100000 in
theorem p_174_333 (L : Nat) (xs : Nat → Int32) : ll_P L xs 174 333 = some (.inl (lo_aload 334 0)) := (P_174 L xs 333).trans rfl
set_option maxRecDepth 100000 in
theorem p_174_334 (L : Nat) (xs : Nat → Int32) : ll_P L xs 174 334 = some (.inl (lo_dup 335)) := (P_174 L xs 334).trans rfl
set_option maxRecDepth 100000 in
theorem p_174_335 (L : Nat) (xs : Nat → Int32) : ll_P L xs 174 335 = some (.inl (lo_getf 338 11 17)) := (P_174 L xs 335).trans rfl
set_option maxRecDepth 100000 in
theorem p_174_338 (L : Nat) (xs : Nat → Int32) : ll_P L xs 174 338 = some (.inl (lo_aload 339 0)) := (P_174 L xs 338).trans rfl
set_option maxRecDepth 100000 in
theorem p_174_339 (L : Nat) (xs : Nat → Int32) : ll_P L xs 174 339 = some (.inl (lo_getf 342 11 33)) := (P_174 L xs 339).trans rfl
set_option maxRecDepth 100000 in
theorem p_174_342 (L : Nat) (xs : Nat → Int32) : ll_P L xs 174 342 = some (.inl (lo_bin 343 (fun x y => x + y))) := (P_174 L xs 342).trans rfl
set_option maxRecDepth 100000 in
theorem p_174_343 (L : Nat) (xs : Nat → Int32) : ll_P L xs 174 343 = some (.inl (lo_putf 346 11 17 0)) := (P_174 L xs 343).trans rfl
set_option maxRecDepth 100000 in
theorem p_174_346 (L : Nat) (xs : Nat → Int32) : ll_P L xs 174 346 = some (.inr (.inr 0)) := (P_174 L xs 346).trans rfl
theorem b_174_0 {Y : sY} {d : Nat} {s : sT} {K : Option Int32 → sT → Prop} {r0 : Nat} {x1 : Int32} {x2 : Int32} (h : (isO Y r0 11 ∧ (∃ a1, (isO Y r0 11 ∧ (pV s r0 33 (0 : Int32)).2 r0 5 = some a1) ∧ (∃ m3, (isA Y a1 0 m3 ∧ inR x1 m3) ∧ (if ¬ ((pV s r0 33 (0 : Int32)).1 a1 (x1).toNatClampNeg) = (2 : Int32) then tT Y (d + 1) 174 35 [.ref r0, .int x1, .int x2, .null, .null, .null] [] (pV s r0 33 (0 : Int32)) K else (∃ a6, (isO Y r0 11 ∧ (pV s r0 33 (0 : Int32)).2 r0 10 = some a6) ∧ (∃ a8, (isO Y r0 11 ∧ (pV s r0 33 (0 : Int32)).2 r0 6 = some a8) ∧ (∃ m10, (isA Y a8 0 m10 ∧ inR x1 m10) ∧ (∃ m12, (isA Y a6 0 m12 ∧ inR ((pV s r0 33 (0 : Int32)).1 a8 (x1).toNatClampNeg) m12) ∧ (if ¬ ((pV s r0 33 (0 : Int32)).1 a6 (((pV s r0 33 (0 : Int32)).1 a8 (x1).toNatClampNeg)).toNatClampNeg) = x2 then tT Y (d + 1) 174 35 [.ref r0, .int x1, .int x2, .null, .null, .null] [] (pV s r0 33 (0 : Int32)) K else (isO Y r0 11 ∧ tT Y d 172 0 [.ref r0, .int (1 : Int32), .null] [] (pV s r0 33 (0 : Int32)) (fun r s1 => tT Y (d + 1) 174 35 [.ref r0, .int x1, .int x2, .null, .null, .null] ((r.map Value.int).toList ++ []) s1 K)))))))))))) : tT Y (d + 1) 174 0 [.ref r0, .int x1, .int x2, .null, .null, .null] [] s K :=
  (tt_aload (p_174_0 _ _) rfl).mpr ((tt_push (p_174_1 _ _)).mpr ((t2_puti (p_174_2 _ _) isI_11_33 h.1).mpr ((tt_aload (p_174_5 _ _) rfl).mpr (Exists.elim h.2 (fun a1 h2 => t3_getr (p_174_6 _ _) (isI_11_5) h2.1.1 h2.1.2 ((tt_iload (p_174_9 _ _) rfl).mpr (Exists.elim h2.2 (fun m3 h4 => t3_ald (p_174_10 _ _) h4.1.1 h4.1.2 ((tt_push (p_174_11 _ _)).mpr (t3_cmp (p := ¬ ((pV s r0 33 (0 : Int32)).1 a1 (x1).toNatClampNeg) = (2 : Int32)) (p_174_12 _ _) rfl (fun g5 => (ifp h4.2 g5)) (fun g5 => (tt_aload (p_174_15 _ _) rfl).mpr (Exists.elim (ifn h4.2 g5) (fun a6 h7 => t3_getr (p_174_16 _ _) (isI_11_10) h7.1.1 h7.1.2 ((tt_aload (p_174_19 _ _) rfl).mpr (Exists.elim h7.2 (fun a8 h9 => t3_getr (p_174_20 _ _) (isI_11_6) h9.1.1 h9.1.2 ((tt_iload (p_174_23 _ _) rfl).mpr (Exists.elim h9.2 (fun m10 h11 => t3_ald (p_174_24 _ _) h11.1.1 h11.1.2 (Exists.elim h11.2 (fun m12 h13 => t3_ald (p_174_25 _ _) h13.1.1 h13.1.2 ((tt_iload (p_174_26 _ _) rfl).mpr (t3_cmp (p := ¬ ((pV s r0 33 (0 : Int32)).1 a6 (((pV s r0 33 (0 : Int32)).1 a8 (x1).toNatClampNeg)).toNatClampNeg) = x2) (p_174_27 _ _) rfl (fun g14 => (ifp h13.2 g14)) (fun g14 => (tt_aload (p_174_30 _ _) rfl).mpr ((tt_push (p_174_31 _ _)).mpr (t2_callv (z := 172) (k := 2) (i := r0) (as := [.int (1 : Int32)]) (rest := []) (p_174_32 _ _) mK_172 mL_172 rfl rfl (Nat.le_of_ble_eq_true rfl) rfl (Nat.le_of_ble_eq_true rfl) (ifn h13.2 g14).1 (ifn h13.2 g14).2))))))))))))))))))))))))))
theorem b_174_35 {Y : sY} {d : Nat} {s : sT} {K : Option Int32 → sT → Prop} {r0 : Nat} {x1 : Int32} {x2 : Int32} (h : (∃ a1, (isO Y r0 11 ∧ s.2 r0 5 = some a1) ∧ (∃ m3, (isA Y a1 0 m3 ∧ inR x1 m3) ∧ (if ¬ (s.1 a1 (x1).toNatClampNeg) = (3 : Int32) then tT Y (d + 1) 174 116 [.ref r0, .int x1, .int x2, .null, .null, .null] [] s K else tT Y (d + 1) 174 47 [.ref r0, .int x1, .int x2, .int (0 : Int32), .null, .null] [] s K)))) : tT Y (d + 1) 174 35 [.ref r0, .int x1, .int x2, .null, .null, .null] [] s K :=
  (tt_aload (p_174_35 _ _) rfl).mpr (Exists.elim h (fun a1 h2 => t3_getr (p_174_36 _ _) (isI_11_5) h2.1.1 h2.1.2 ((tt_iload (p_174_39 _ _) rfl).mpr (Exists.elim h2.2 (fun m3 h4 => t3_ald (p_174_40 _ _) h4.1.1 h4.1.2 ((tt_push (p_174_41 _ _)).mpr (t3_cmp (p := ¬ (s.1 a1 (x1).toNatClampNeg) = (3 : Int32)) (p_174_42 _ _) rfl (fun g5 => (ifp h4.2 g5)) (fun g5 => (tt_push (p_174_45 _ _)).mpr ((tt_istore (p_174_46 _ _) (Nat.le_of_ble_eq_true rfl) rfl rfl).mpr ((ifn h4.2 g5)))))))))))
theorem b_174_47 {Y : sY} {d : Nat} {s : sT} {K : Option Int32 → sT → Prop} {r0 : Nat} {x1 : Int32} {x2 : Int32} {x3 : Int32} {u4 : Value} {u5 : Value} (h : (∃ a1, (isO Y r0 11 ∧ s.2 r0 7 = some a1) ∧ (∃ m3, (isA Y a1 0 m3 ∧ inR x1 m3) ∧ (if (s.1 a1 (x1).toNatClampNeg) ≤ x3 then tT Y (d + 1) 174 116 [.ref r0, .int x1, .int x2, .int x3, u4, u5] [] s K else (∃ a6, (isO Y r0 11 ∧ s.2 r0 10 = some a6) ∧ (∃ a8, (isO Y r0 11 ∧ s.2 r0 6 = some a8) ∧ (∃ m10, (isA Y a8 0 m10 ∧ inR x1 m10) ∧ (∃ m12, (isA Y a6 0 m12 ∧ inR ((s.1 a8 (x1).toNatClampNeg) + x3) m12) ∧ tT Y (d + 1) 174 75 [.ref r0, .int x1, .int x2, .int x3, .int (s.1 a6 (((s.1 a8 (x1).toNatClampNeg) + x3)).toNatClampNeg), .int (0 : Int32)] [] s K)))))))) : tT Y (d + 1) 174 47 [.ref r0, .int x1, .int x2, .int x3, u4, u5] [] s K :=
  (tt_iload (p_174_47 _ _) rfl).mpr ((tt_aload (p_174_48 _ _) rfl).mpr (Exists.elim h (fun a1 h2 => t3_getr (p_174_49 _ _) (isI_11_7) h2.1.1 h2.1.2 ((tt_iload (p_174_52 _ _) rfl).mpr (Exists.elim h2.2 (fun m3 h4 => t3_ald (p_174_53 _ _) h4.1.1 h4.1.2 (t3_cmp (p := (s.1 a1 (x1).toNatClampNeg) ≤ x3) (p_174_54 _ _) rfl (fun g5 => (ifp h4.2 g5)) (fun g5 => (tt_aload (p_174_57 _ _) rfl).mpr (Exists.elim (ifn h4.2 g5) (fun a6 h7 => t3_getr (p_174_58 _ _) (isI_11_10) h7.1.1 h7.1.2 ((tt_aload (p_174_61 _ _) rfl).mpr (Exists.elim h7.2 (fun a8 h9 => t3_getr (p_174_62 _ _) (isI_11_6) h9.1.1 h9.1.2 ((tt_iload (p_174_65 _ _) rfl).mpr (Exists.elim h9.2 (fun m10 h11 => t3_ald (p_174_66 _ _) h11.1.1 h11.1.2 ((tt_iload (p_174_67 _ _) rfl).mpr ((tt_bin (p_174_68 _ _)).mpr (Exists.elim h11.2 (fun m12 h13 => t3_ald (p_174_69 _ _) h13.1.1 h13.1.2 ((tt_istore (p_174_70 _ _) (Nat.le_of_ble_eq_true rfl) rfl rfl).mpr ((tt_push (p_174_72 _ _)).mpr ((tt_istore (p_174_73 _ _) (Nat.le_of_ble_eq_true rfl) rfl rfl).mpr (h13.2))))))))))))))))))))))))
theorem b_174_75 {Y : sY} {d : Nat} {s : sT} {K : Option Int32 → sT → Prop} {r0 : Nat} {x1 : Int32} {x2 : Int32} {x3 : Int32} {x4 : Int32} {x5 : Int32} (h : (∃ a1, (isO Y r0 11 ∧ s.2 r0 15 = some a1) ∧ (∃ m3, (isA Y a1 0 m3 ∧ inR (((3 : Int32) * x4) + x2) m3) ∧ (if (s.1 a1 ((((3 : Int32) * x4) + x2)).toNatClampNeg) ≤ x5 then tT Y (d + 1) 174 47 [.ref r0, .int x1, .int x2, .int (x3 + 1), .int x4, .int x5] [] s K else (isO Y r0 11 ∧ tT Y d 173 0 [.ref r0, .int x4, .int x2, .int x5] [] s (fun r s1 => tT Y (d + 1) 174 101 [.ref r0, .int x1, .int x2, .int x3, .int x4, .int x5] ((r.map Value.int).toList ++ [.ref r0]) s1 K)))))) : tT Y (d + 1) 174 75 [.ref r0, .int x1, .int x2, .int x3, .int x4, .int x5] [] s K :=
  (tt_iload (p_174_75 _ _) rfl).mpr ((tt_aload (p_174_77 _ _) rfl).mpr (Exists.elim h (fun a1 h2 => t3_getr (p_174_78 _ _) (isI_11_15) h2.1.1 h2.1.2 ((tt_push (p_174_81 _ _)).mpr ((tt_iload (p_174_82 _ _) rfl).mpr ((tt_bin (p_174_84 _ _)).mpr ((tt_iload (p_174_85 _ _) rfl).mpr ((tt_bin (p_174_86 _ _)).mpr (Exists.elim h2.2 (fun m3 h4 => t3_ald (p_174_87 _ _) h4.1.1 h4.1.2 (t3_cmp (p := (s.1 a1 ((((3 : Int32) * x4) + x2)).toNatClampNeg) ≤ x5) (p_174_88 _ _) rfl (fun g5 => (tt_iinc (p_174_110 _ _) rfl rfl rfl).mpr ((tt_goto (p_174_113 _ _)).mpr ((ifp h4.2 g5)))) (fun g5 => (tt_aload (p_174_91 _ _) rfl).mpr ((tt_aload (p_174_92 _ _) rfl).mpr ((tt_iload (p_174_93 _ _) rfl).mpr ((tt_iload (p_174_95 _ _) rfl).mpr ((tt_iload (p_174_96 _ _) rfl).mpr (t2_callv (z := 173) (k := 4) (i := r0) (as := [.int x4, .int x2, .int x5]) (rest := [.ref r0]) (p_174_98 _ _) mK_173 mL_173 rfl rfl (Nat.le_of_ble_eq_true rfl) rfl (Nat.le_of_ble_eq_true rfl) (ifn h4.2 g5).1 (ifn h4.2 g5).2)))))))))))))))))
theorem b_174_101 {Y : sY} {d : Nat} {s : sT} {K : Option Int32 → sT → Prop} {r0 : Nat} {x1 : Int32} {x2 : Int32} {x3 : Int32} {x4 : Int32} {x5 : Int32} {t0 : Nat} {t1 : Int32} (h : (isO Y t0 11 ∧ tT Y d 172 0 [.ref t0, .int t1, .null] [] s (fun r s1 => tT Y (d + 1) 174 104 [.ref r0, .int x1, .int x2, .int x3, .int x4, .int x5] ((r.map Value.int).toList ++ []) s1 K))) : tT Y (d + 1) 174 101 [.ref r0, .int x1, .int x2, .int x3, .int x4, .int x5] [.int t1, .ref t0] s K :=
  t2_callv (z := 172) (k := 2) (i := t0) (as := [.int t1]) (rest := []) (p_174_101 _ _) mK_172 mL_172 rfl rfl (Nat.le_of_ble_eq_true rfl) rfl (Nat.le_of_ble_eq_true rfl) h.1 h.2
theorem b_174_104 {Y : sY} {d : Nat} {s : sT} {K : Option Int32 → sT → Prop} {r0 : Nat} {x1 : Int32} {x2 : Int32} {x3 : Int32} {x4 : Int32} {x5 : Int32} (h : tT Y (d + 1) 174 75 [.ref r0, .int x1, .int x2, .int x3, .int x4, .int (x5 + 1)] [] s K) : tT Y (d + 1) 174 104 [.ref r0, .int x1, .int x2, .int x3, .int x4, .int x5] [] s K :=
  (tt_iinc (p_174_104 _ _) rfl rfl rfl).mpr ((tt_goto (p_174_107 _ _)).mpr (h))
theorem b_174_116 {Y : sY} {d : Nat} {s : sT} {K : Option Int32 → sT → Prop} {r0 : Nat} {x1 : Int32} {x2 : Int32} {u3 : Value} {u4 : Value} {u5 : Value} (h : (∃ a1, (isO Y r0 11 ∧ s.2 r0 5 = some a1) ∧ (∃ m3, (isA Y a1 0 m3 ∧ inR x1 m3) ∧ (if (s.1 a1 (x1).toNatClampNeg) ≤ (3 : Int32) then tT Y (d + 1) 174 272 [.ref r0, .int x1, .int x2, u3, u4, u5] [] s K else (∃ a6, (isO Y r0 11 ∧ s.2 r0 10 = some a6) ∧ (∃ a8, (isO Y r0 11 ∧ s.2 r0 6 = some a8) ∧ (∃ m10, (isA Y a8 0 m10 ∧ inR x1 m10) ∧ (∃ m12, (isA Y a6 0 m12 ∧ inR (s.1 a8 (x1).toNatClampNeg) m12) ∧ tT Y (d + 1) 174 141 [.ref r0, .int x1, .int x2, .int (s.1 a6 ((s.1 a8 (x1).toNatClampNeg)).toNatClampNeg), .int (0 : Int32), u5] [] s K)))))))) : tT Y (d + 1) 174 116 [.ref r0, .int x1, .int x2, u3, u4, u5] [] s K :=
  (tt_aload (p_174_116 _ _) rfl).mpr (Exists.elim h (fun a1 h2 => t3_getr (p_174_117 _ _) (isI_11_5) h2.1.1 h2.1.2 ((tt_iload (p_174_120 _ _) rfl).mpr (Exists.elim h2.2 (fun m3 h4 => t3_ald (p_174_121 _ _) h4.1.1 h4.1.2 ((tt_push (p_174_122 _ _)).mpr (t3_cmp (p := (s.1 a1 (x1).toNatClampNeg) ≤ (3 : Int32)) (p_174_123 _ _) rfl (fun g5 => (ifp h4.2 g5)) (fun g5 => (tt_aload (p_174_126 _ _) rfl).mpr (Exists.elim (ifn h4.2 g5) (fun a6 h7 => t3_getr (p_174_127 _ _) (isI_11_10) h7.1.1 h7.1.2 ((tt_aload (p_174_130 _ _) rfl).mpr (Exists.elim h7.2 (fun a8 h9 => t3_getr (p_174_131 _ _) (isI_11_6) h9.1.1 h9.1.2 ((tt_iload (p_174_134 _ _) rfl).mpr (Exists.elim h9.2 (fun m10 h11 => t3_ald (p_174_135 _ _) h11.1.1 h11.1.2 (Exists.elim h11.2 (fun m12 h13 => t3_ald (p_174_136 _ _) h13.1.1 h13.1.2 ((tt_istore (p_174_137 _ _) (Nat.le_of_ble_eq_true rfl) rfl rfl).mpr ((tt_push (p_174_138 _ _)).mpr ((tt_istore (p_174_139 _ _) (Nat.le_of_ble_eq_true rfl) rfl rfl).mpr (h13.2))))))))))))))))))))))
theorem b_174_141 {Y : sY} {d : Nat} {s : sT} {K : Option Int32 → sT → Prop} {r0 : Nat} {x1 : Int32} {x2 : Int32} {x3 : Int32} {x4 : Int32} {u5 : Value} (h : (∃ a1, (isO Y r0 11 ∧ s.2 r0 15 = some a1) ∧ (∃ m3, (isA Y a1 0 m3 ∧ inR (((3 : Int32) * x3) + x2) m3) ∧ (if (s.1 a1 ((((3 : Int32) * x3) + x2)).toNatClampNeg) ≤ x4 then (∃ a6, (isO Y r0 11 ∧ s.2 r0 5 = some a6) ∧ (∃ m8, (isA Y a6 0 m8 ∧ inR x1 m8) ∧ (if ¬ (s.1 a6 (x1).toNatClampNeg) = (4 : Int32) then tT Y (d + 1) 174 272 [.ref r0, .int x1, .int x2, .int x3, .int x4, u5] [] s K else (∃ a11, (isO Y r0 11 ∧ s.2 r0 11 = some a11) ∧ (∃ m13, (isA Y a11 1 m13 ∧ inR x3 m13) ∧ (if (s.1 a11 (x3).toNatClampNeg) = 0 then tT Y (d + 1) 174 272 [.ref r0, .int x1, .int x2, .int x3, .int x4, u5] [] s K else (isO Y r0 11 ∧ tT Y d 161 0 [.ref r0, .int (1 : Int32), .int x1, .int (1 : Int32), .null, .null] [] s (fun r s1 => tT Y (d + 1) 174 232 [.ref r0, .int x1, .int x2, .int x3, .int x4, u5] ((r.map Value.int).toList ++ []) s1 K)))))))) else (∃ a16, (isO Y r0 11 ∧ s.2 r0 5 = some a16) ∧ (∃ m18, (isA Y a16 0 m18 ∧ inR x1 m18) ∧ (if ¬ (s.1 a16 (x1).toNatClampNeg) = (5 : Int32) then (isO Y r0 11 ∧ tT Y d 173 0 [.ref r0, .int x3, .int x2, .int x4] [] s (fun r s1 => tT Y (d + 1) 174 192 [.ref r0, .int x1, .int x2, .int x3, .int x4, u5] ((r.map Value.int).toList ++ [.ref r0, .ref r0]) s1 K)) else (isO Y r0 11 ∧ tT Y d 173 0 [.ref r0, .int x3, .int x2, .int x4] [] s (fun r s1 => tT Y (d + 1) 174 176 [.ref r0, .int x1, .int x2, .int x3, .int x4, u5] ((r.map Value.int).toList ++ [.ref r0, .ref r0]) s1 K))))))))) : tT Y (d + 1) 174 141 [.ref r0, .int x1, .int x2, .int x3, .int x4, u5] [] s K :=
  (tt_iload (p_174_141 _ _) rfl).mpr ((tt_aload (p_174_143 _ _) rfl).mpr (Exists.elim h (fun a1 h2 => t3_getr (p_174_144 _ _) (isI_11_15) h2.1.1 h2.1.2 ((tt_push (p_174_147 _ _)).mpr ((tt_iload (p_174_148 _ _) rfl).mpr ((tt_bin (p_174_149 _ _)).mpr ((tt_iload (p_174_150 _ _) rfl).mpr ((tt_bin (p_174_151 _ _)).mpr (Exists.elim h2.2 (fun m3 h4 => t3_ald (p_174_152 _ _) h4.1.1 h4.1.2 (t3_cmp (p := (s.1 a1 ((((3 : Int32) * x3) + x2)).toNatClampNeg) ≤ x4) (p_174_153 _ _) rfl (fun g5 => (tt_aload (p_174_206 _ _) rfl).mpr (Exists.elim (ifp h4.2 g5) (fun a6 h7 => t3_getr (p_174_207 _ _) (isI_11_5) h7.1.1 h7.1.2 ((tt_iload (p_174_210 _ _) rfl).mpr (Exists.elim h7.2 (fun m8 h9 => t3_ald (p_174_211 _ _) h9.1.1 h9.1.2 ((tt_push (p_174_212 _ _)).mpr (t3_cmp (p := ¬ (s.1 a6 (x1).toNatClampNeg) = (4 : Int32)) (p_174_213 _ _) rfl (fun g10 => (ifp h9.2 g10)) (fun g10 => (tt_aload (p_174_216 _ _) rfl).mpr (Exists.elim (ifn h9.2 g10) (fun a11 h12 => t3_getr (p_174_217 _ _) (isI_11_11) h12.1.1 h12.1.2 ((tt_iload (p_174_220 _ _) rfl).mpr (Exists.elim h12.2 (fun m13 h14 => t3_ald (p_174_221 _ _) h14.1.1 h14.1.2 (t3_if (p := (s.1 a11 (x3).toNatClampNeg) = 0) (p_174_222 _ _) rfl (fun g15 => (ifp h14.2 g15)) (fun g15 => (tt_aload (p_174_225 _ _) rfl).mpr ((tt_push (p_174_226 _ _)).mpr ((tt_iload (p_174_227 _ _) rfl).mpr ((tt_push (p_174_228 _ _)).mpr (t2_callv (z := 161) (k := 4) (i := r0) (as := [.int (1 : Int32), .int x1, .int (1 : Int32)]) (rest := []) (p_174_229 _ _) mK_161 mL_161 rfl rfl (Nat.le_of_ble_eq_true rfl) rfl (Nat.le_of_ble_eq_true rfl) (ifn h14.2 g15).1 (ifn h14.2 g15).2)))))))))))))))))))) (fun g5 => (tt_aload (p_174_156 _ _) rfl).mpr ((tt_aload (p_174_157 _ _) rfl).mpr (Exists.elim (ifn h4.2 g5) (fun a16 h17 => t3_getr (p_174_158 _ _) (isI_11_5) h17.1.1 h17.1.2 ((tt_iload (p_174_161 _ _) rfl).mpr (Exists.elim h17.2 (fun m18 h19 => t3_ald (p_174_162 _ _) h19.1.1 h19.1.2 ((tt_push (p_174_163 _ _)).mpr (t3_cmp (p := ¬ (s.1 a16 (x1).toNatClampNeg) = (5 : Int32)) (p_174_164 _ _) rfl (fun g20 => (tt_aload (p_174_183 _ _) rfl).mpr ((tt_aload (p_174_184 _ _) rfl).mpr ((tt_iload (p_174_185 _ _) rfl).mpr ((tt_iload (p_174_186 _ _) rfl).mpr ((tt_iload (p_174_187 _ _) rfl).mpr (t2_callv (z := 173) (k := 4) (i := r0) (as := [.int x3, .int x2, .int x4]) (rest := [.ref r0, .ref r0]) (p_174_189 _ _) mK_173 mL_173 rfl rfl (Nat.le_of_ble_eq_true rfl) rfl (Nat.le_of_ble_eq_true rfl) (ifp h19.2 g20).1 (ifp h19.2 g20).2)))))) (fun g20 => (tt_aload (p_174_167 _ _) rfl).mpr ((tt_aload (p_174_168 _ _) rfl).mpr ((tt_iload (p_174_169 _ _) rfl).mpr ((tt_iload (p_174_170 _ _) rfl).mpr ((tt_iload (p_174_171 _ _) rfl).mpr (t2_callv (z := 173) (k := 4) (i := r0) (as := [.int x3, .int x2, .int x4]) (rest := [.ref r0, .ref r0]) (p_174_173 _ _) mK_173 mL_173 rfl rfl (Nat.le_of_ble_eq_true rfl) rfl (Nat.le_of_ble_eq_true rfl) (ifn h19.2 g20).1 (ifn h19.2 g20).2))))))))))))))))))))))))))
theorem b_174_176 {Y : sY} {d : Nat} {s : sT} {K : Option Int32 → sT → Prop} {r0 : Nat} {x1 : Int32} {x2 : Int32} {x3 : Int32} {x4 : Int32} {u5 : Value} {t0 : Nat} {t1 : Nat} {t2 : Int32} (h : (isO Y t1 11 ∧ tT Y d 175 0 [.ref t1, .int t2, .int x1] [] s (fun r s1 => tT Y (d + 1) 174 180 [.ref r0, .int x1, .int x2, .int x3, .int x4, u5] ((r.map Value.int).toList ++ [.ref t0]) s1 K))) : tT Y (d + 1) 174 176 [.ref r0, .int x1, .int x2, .int x3, .int x4, u5] [.int t2, .ref t1, .ref t0] s K :=
  (tt_iload (p_174_176 _ _) rfl).mpr (t2_callv (z := 175) (k := 3) (i := t1) (as := [.int t2, .int x1]) (rest := [.ref t0]) (p_174_177 _ _) mK_175 mL_175 rfl rfl (Nat.le_of_ble_eq_true rfl) rfl (Nat.le_of_ble_eq_true rfl) h.1 h.2)
theorem b_174_180 {Y : sY} {d : Nat} {s : sT} {K : Option Int32 → sT → Prop} {r0 : Nat} {x1 : Int32} {x2 : Int32} {x3 : Int32} {x4 : Int32} {u5 : Value} {t0 : Nat} {t1 : Int32} (h : tT Y (d + 1) 174 197 [.ref r0, .int x1, .int x2, .int x3, .int x4, u5] [.int t1, .ref t0] s K) : tT Y (d + 1) 174 180 [.ref r0, .int x1, .int x2, .int x3, .int x4, u5] [.int t1, .ref t0] s K :=
  (tt_goto (p_174_180 _ _)).mpr (h)
theorem b_174_192 {Y : sY} {d : Nat} {s : sT} {K : Option Int32 → sT → Prop} {r0 : Nat} {x1 : Int32} {x2 : Int32} {x3 : Int32} {x4 : Int32} {u5 : Value} {t0 : Nat} {t1 : Nat} {t2 : Int32} (h : (isO Y t1 11 ∧ tT Y d 161 0 [.ref t1, .int t2, .int x1, .int (1 : Int32), .null, .null] [] s (fun r s1 => tT Y (d + 1) 174 197 [.ref r0, .int x1, .int x2, .int x3, .int x4, u5] ((r.map Value.int).toList ++ [.ref t0]) s1 K))) : tT Y (d + 1) 174 192 [.ref r0, .int x1, .int x2, .int x3, .int x4, u5] [.int t2, .ref t1, .ref t0] s K :=
  (tt_iload (p_174_192 _ _) rfl).mpr ((tt_push (p_174_193 _ _)).mpr (t2_callv (z := 161) (k := 4) (i := t1) (as := [.int t2, .int x1, .int (1 : Int32)]) (rest := [.ref t0]) (p_174_194 _ _) mK_161 mL_161 rfl rfl (Nat.le_of_ble_eq_true rfl) rfl (Nat.le_of_ble_eq_true rfl) h.1 h.2))
theorem b_174_197 {Y : sY} {d : Nat} {s : sT} {K : Option Int32 → sT → Prop} {r0 : Nat} {x1 : Int32} {x2 : Int32} {x3 : Int32} {x4 : Int32} {u5 : Value} {t0 : Nat} {t1 : Int32} (h : (isO Y t0 11 ∧ tT Y d 172 0 [.ref t0, .int t1, .null] [] s (fun r s1 => tT Y (d + 1) 174 200 [.ref r0, .int x1, .int x2, .int x3, .int x4, u5] ((r.map Value.int).toList ++ []) s1 K))) : tT Y (d + 1) 174 197 [.ref r0, .int x1, .int x2, .int x3, .int x4, u5] [.int t1, .ref t0] s K :=
  t2_callv (z := 172) (k := 2) (i := t0) (as := [.int t1]) (rest := []) (p_174_197 _ _) mK_172 mL_172 rfl rfl (Nat.le_of_ble_eq_true rfl) rfl (Nat.le_of_ble_eq_true rfl) h.1 h.2
theorem b_174_200 {Y : sY} {d : Nat} {s : sT} {K : Option Int32 → sT → Prop} {r0 : Nat} {x1 : Int32} {x2 : Int32} {x3 : Int32} {x4 : Int32} {u5 : Value} (h : tT Y (d + 1) 174 141 [.ref r0, .int x1, .int x2, .int x3, .int (x4 + 1), u5] [] s K) : tT Y (d + 1) 174 200 [.ref r0, .int x1, .int x2, .int x3, .int x4, u5] [] s K :=
  (tt_iinc (p_174_200 _ _) rfl rfl rfl).mpr ((tt_goto (p_174_203 _ _)).mpr (h))
theorem b_174_232 {Y : sY} {d : Nat} {s : sT} {K : Option Int32 → sT → Prop} {r0 : Nat} {x1 : Int32} {x2 : Int32} {x3 : Int32} {x4 : Int32} {u5 : Value} {t0 : Int32} (h : tT Y (d + 1) 174 237 [.ref r0, .int x1, .int x2, .int x3, .int t0, .int (0 : Int32)] [] s K) : tT Y (d + 1) 174 232 [.ref r0, .int x1, .int x2, .int x3, .int x4, u5] [.int t0] s K :=
  (tt_istore (p_174_232 _ _) (Nat.le_of_ble_eq_true rfl) rfl rfl).mpr ((tt_push (p_174_234 _ _)).mpr ((tt_istore (p_174_235 _ _) (Nat.le_of_ble_eq_true rfl) rfl rfl).mpr (h)))
theorem b_174_237 {Y : sY} {d : Nat} {s : sT} {K : Option Int32 → sT → Prop} {r0 : Nat} {x1 : Int32} {x2 : Int32} {x3 : Int32} {x4 : Int32} {x5 : Int32} (h : (∃ a1, (isO Y r0 11 ∧ s.2 r0 15 = some a1) ∧ (∃ m3, (isA Y a1 0 m3 ∧ inR (((3 : Int32) * x4) + x2) m3) ∧ (if (s.1 a1 ((((3 : Int32) * x4) + x2)).toNatClampNeg) ≤ x5 then tT Y (d + 1) 174 272 [.ref r0, .int x1, .int x2, .int x3, .int x4, .int x5] [] s K else (isO Y r0 11 ∧ tT Y d 173 0 [.ref r0, .int x4, .int x2, .int x5] [] s (fun r s1 => tT Y (d + 1) 174 263 [.ref r0, .int x1, .int x2, .int x3, .int x4, .int x5] ((r.map Value.int).toList ++ [.ref r0]) s1 K)))))) : tT Y (d + 1) 174 237 [.ref r0, .int x1, .int x2, .int x3, .int x4, .int x5] [] s K :=
  (tt_iload (p_174_237 _ _) rfl).mpr ((tt_aload (p_174_239 _ _) rfl).mpr (Exists.elim h (fun a1 h2 => t3_getr (p_174_240 _ _) (isI_11_15) h2.1.1 h2.1.2 ((tt_push (p_174_243 _ _)).mpr ((tt_iload (p_174_244 _ _) rfl).mpr ((tt_bin (p_174_246 _ _)).mpr ((tt_iload (p_174_247 _ _) rfl).mpr ((tt_bin (p_174_248 _ _)).mpr (Exists.elim h2.2 (fun m3 h4 => t3_ald (p_174_249 _ _) h4.1.1 h4.1.2 (t3_cmp (p := (s.1 a1 ((((3 : Int32) * x4) + x2)).toNatClampNeg) ≤ x5) (p_174_250 _ _) rfl (fun g5 => (ifp h4.2 g5)) (fun g5 => (tt_aload (p_174_253 _ _) rfl).mpr ((tt_aload (p_174_254 _ _) rfl).mpr ((tt_iload (p_174_255 _ _) rfl).mpr ((tt_iload (p_174_257 _ _) rfl).mpr ((tt_iload (p_174_258 _ _) rfl).mpr (t2_callv (z := 173) (k := 4) (i := r0) (as := [.int x4, .int x2, .int x5]) (rest := [.ref r0]) (p_174_260 _ _) mK_173 mL_173 rfl rfl (Nat.le_of_ble_eq_true rfl) rfl (Nat.le_of_ble_eq_true rfl) (ifn h4.2 g5).1 (ifn h4.2 g5).2)))))))))))))))))
theorem b_174_263 {Y : sY} {d : Nat} {s : sT} {K : Option Int32 → sT → Prop} {r0 : Nat} {x1 : Int32} {x2 : Int32} {x3 : Int32} {x4 : Int32} {x5 : Int32} {t0 : Nat} {t1 : Int32} (h : (isO Y t0 11 ∧ tT Y d 172 0 [.ref t0, .int t1, .null] [] s (fun r s1 => tT Y (d + 1) 174 266 [.ref r0, .int x1, .int x2, .int x3, .int x4, .int x5] ((r.map Value.int).toList ++ []) s1 K))) : tT Y (d + 1) 174 263 [.ref r0, .int x1, .int x2, .int x3, .int x4, .int x5] [.int t1, .ref t0] s K :=
  t2_callv (z := 172) (k := 2) (i := t0) (as := [.int t1]) (rest := []) (p_174_263 _ _) mK_172 mL_172 rfl rfl (Nat.le_of_ble_eq_true rfl) rfl (Nat.le_of_ble_eq_true rfl) h.1 h.2
theorem b_174_266 {Y : sY} {d : Nat} {s : sT} {K : Option Int32 → sT → Prop} {r0 : Nat} {x1 : Int32} {x2 : Int32} {x3 : Int32} {x4 : Int32} {x5 : Int32} (h : tT Y (d + 1) 174 237 [.ref r0, .int x1, .int x2, .int x3, .int x4, .int (x5 + 1)] [] s K) : tT Y (d + 1) 174 266 [.ref r0, .int x1, .int x2, .int x3, .int x4, .int x5] [] s K :=
  (tt_iinc (p_174_266 _ _) rfl rfl rfl).mpr ((tt_goto (p_174_269 _ _)).mpr (h))
theorem b_174_272 {Y : sY} {d : Nat} {s : sT} {K : Option Int32 → sT → Prop} {r0 : Nat} {x1 : Int32} {x2 : Int32} {u3 : Value} {u4 : Value} {u5 : Value} (h : (∃ a1, (isO Y r0 11 ∧ s.2 r0 14 = some a1) ∧ (isO Y r0 11 ∧ (∃ m3, (isA Y a1 0 m3 ∧ inR (((3 : Int32) * x1) + x2) m3) ∧ (∃ a5, (isO Y r0 11 ∧ (pV s a1 ((((3 : Int32) * x1) + x2)).toNatClampNeg (s.1 r0 17)).2 r0 15 = some a5) ∧ (isO Y r0 11 ∧ (∃ m7, (isA Y a5 0 m7 ∧ inR (((3 : Int32) * x1) + x2) m7) ∧ tT Y (d + 1) 174 302 [.ref r0, .int x1, .int x2, .int (0 : Int32), u4, u5] [] (pV (pV s a1 ((((3 : Int32) * x1) + x2)).toNatClampNeg (s.1 r0 17)) a5 ((((3 : Int32) * x1) + x2)).toNatClampNeg ((pV s a1 ((((3 : Int32) * x1) + x2)).toNatClampNeg (s.1 r0 17)).1 r0 33)) K))))))) : tT Y (d + 1) 174 272 [.ref r0, .int x1, .int x2, u3, u4, u5] [] s K :=
  (tt_aload (p_174_272 _ _) rfl).mpr (Exists.elim h (fun a1 h2 => t3_getr (p_174_273 _ _) (isI_11_14) h2.1.1 h2.1.2 ((tt_push (p_174_276 _ _)).mpr ((tt_iload (p_174_277 _ _) rfl).mpr ((tt_bin (p_174_278 _ _)).mpr ((tt_iload (p_174_279 _ _) rfl).mpr ((tt_bin (p_174_280 _ _)).mpr ((tt_aload (p_174_281 _ _) rfl).mpr (t3_geti (p_174_282 _ _) (isI_11_17) h2.2.1 (Exists.elim h2.2.2 (fun m3 h4 => t3_ast (p_174_285 _ _) h4.1.1 h4.1.2 ((tt_aload (p_174_286 _ _) rfl).mpr (Exists.elim h4.2 (fun a5 h6 => t3_getr (p_174_287 _ _) (isI_11_15) h6.1.1 h6.1.2 ((tt_push (p_174_290 _ _)).mpr ((tt_iload (p_174_291 _ _) rfl).mpr ((tt_bin (p_174_292 _ _)).mpr ((tt_iload (p_174_293 _ _) rfl).mpr ((tt_bin (p_174_294 _ _)).mpr ((tt_aload (p_174_295 _ _) rfl).mpr (t3_geti (p_174_296 _ _) (isI_11_33) h6.2.1 (Exists.elim h6.2.2 (fun m7 h8 => t3_ast (p_174_299 _ _) h8.1.1 h8.1.2 ((tt_push (p_174_300 _ _)).mpr ((tt_istore (p_174_301 _ _) (Nat.le_of_ble_eq_true rfl) rfl rfl).mpr (h8.2))))))))))))))))))))))))))
theorem b_174_302 {Y : sY} {d : Nat} {s : sT} {K : Option Int32 → sT → Prop} {r0 : Nat} {x1 : Int32} {x2 : Int32} {x3 : Int32} {u4 : Value} {u5 : Value} (h : (isO Y r0 11 ∧ (if (s.1 r0 33) ≤ x3 then (isO Y r0 11 ∧ (isO Y r0 11 ∧ (isO Y r0 11 ∧ K none (pV s r0 17 ((s.1 r0 17) + (s.1 r0 33)))))) else (∃ a2, (isO Y r0 11 ∧ s.2 r0 16 = some a2) ∧ (isO Y r0 11 ∧ (∃ a4, (isO Y r0 11 ∧ s.2 r0 32 = some a4) ∧ (∃ m6, (isA Y a4 0 m6 ∧ inR x3 m6) ∧ (∃ m8, (isA Y a2 0 m8 ∧ inR ((s.1 r0 17) + x3) m8) ∧ tT Y (d + 1) 174 302 [.ref r0, .int x1, .int x2, .int (x3 + 1), u4, u5] [] (pV s a2 (((s.1 r0 17) + x3)).toNatClampNeg (s.1 a4 (x3).toNatClampNeg)) K)))))))) : tT Y (d + 1) 174 302 [.ref r0, .int x1, .int x2, .int x3, u4, u5] [] s K :=
  (tt_iload (p_174_302 _ _) rfl).mpr ((tt_aload (p_174_303 _ _) rfl).mpr (t3_geti (p_174_304 _ _) (isI_11_33) h.1 (t3_cmp (p := (s.1 r0 33) ≤ x3) (p_174_307 _ _) rfl (fun g1 => (tt_aload (p_174_333 _ _) rfl).mpr ((tt_dupr (p_174_334 _ _)).mpr (t3_geti (p_174_335 _ _) (isI_11_17) (ifp h.2 g1).1 ((tt_aload (p_174_338 _ _) rfl).mpr (t3_geti (p_174_339 _ _) (isI_11_33) (ifp h.2 g1).2.1 ((tt_bin (p_174_342 _ _)).mpr ((t2_puti (p_174_343 _ _) isI_11_17 (ifp h.2 g1).2.2.1).mpr (tt_ret0 (p_174_346 _ _) (ifp h.2 g1).2.2.2)))))))) (fun g1 => (tt_aload (p_174_310 _ _) rfl).mpr (Exists.elim (ifn h.2 g1) (fun a2 h3 => t3_getr (p_174_311 _ _) (isI_11_16) h3.1.1 h3.1.2 ((tt_aload (p_174_314 _ _) rfl).mpr (t3_geti (p_174_315 _ _) (isI_11_17) h3.2.1 ((tt_iload (p_174_318 _ _) rfl).mpr ((tt_bin (p_174_319 _ _)).mpr ((tt_aload (p_174_320 _ _) rfl).mpr (Exists.elim h3.2.2 (fun a4 h5 => t3_getr (p_174_321 _ _) (isI_11_32) h5.1.1 h5.1.2 ((tt_iload (p_174_324 _ _) rfl).mpr (Exists.elim h5.2 (fun m6 h7 => t3_ald (p_174_325 _ _) h7.1.1 h7.1.2 (Exists.elim h7.2 (fun m8 h9 => t3_ast (p_174_326 _ _) h9.1.1 h9.1.2 ((tt_iinc (p_174_327 _ _) rfl rfl rfl).mpr ((tt_goto (p_174_330 _ _)).mpr (h9.2)))))))))))))))))))))
/-! InclusionProverModel.withStar.(II)I -/
theorem p_175_0 (L : Nat) (xs : Nat → Int32) : ll_P L xs 175 0 = some (.inl (lo_aload 1 0)) := (P_175 L xs 0).trans rfl
theorem p_175_1 (L : Nat) (xs : Nat → Int32) : ll_P L xs 175 1 = some (.inl (lo_getf 4 11 20)) := (P_175 L xs 1).trans rfl
theorem p_175_4 (L : Nat) (xs : Nat → Int32) : ll_P L xs 175 4 = some (.inl (lo_push 5 (.int 0))) := (P_175 L xs 4).trans rfl
theorem p_175_5 (L : Nat) (xs : Nat → Int32) : ll_P L xs 175 5 = some (.inl (lo_iload 6 1)) := (P_175 L xs 5).trans rfl
theorem p_175_6 (L : Nat) (xs : Nat → Int32) : ll_P L xs 175 6 = some (.inl (lo_ast 7 0)) := (P_175 L xs 6).trans rfl
theorem p_175_7 (L : Nat) (xs : Nat → Int32) : ll_P L xs 175 7 = some (.inl (lo_aload 8 0)) := (P_175 L xs 7).trans rfl
theorem p_175_8 (L : Nat) (xs : Nat → Int32) : ll_P L xs 175 8 = some (.inl (lo_getf 11 11 20)) := (P_175 L xs 8).trans rfl
theorem p_175_11 (L : Nat) (xs : Nat → Int32) : ll_P L xs 175 11 = some (.inl (lo_push 12 (.int 1))) := (P_175 L xs 11).trans rfl
theorem p_175_12 (L : Nat) (xs : Nat → Int32) : ll_P L xs 175 12 = some (.inl (lo_iload 13 2)) := (P_175 L xs 12).trans rfl
theorem p_175_13 (L : Nat) (xs : Nat → Int32) : ll_P L xs 175 13 = some (.inl (lo_ast 14 0)) := (P_175 L xs 13).trans rfl
theorem p_175_14 (L : Nat) (xs : Nat → Int32) : ll_P L xs 175 14 = some (.inl (lo_aload 15 0)) := (P_175 L xs 14).trans rfl
theorem p_175_15 (L : Nat) (xs : Nat → Int32) : ll_P L xs 175 15 = some (.inl (lo_aload 16 0)) := (P_175 L xs 15).trans rfl
theorem p_175_16 (L : Nat) (xs : Nat → Int32) : ll_P L xs 175 16 = some (.inl (lo_getf 19 11 20)) := (P_175 L xs 16).trans rfl
theorem p_175_19 (L : Nat) (xs : Nat → Int32) : ll_P L xs 175 19 = some (.inl (lo_push 20 (.int 0))) := (P_175 L xs 19).trans rfl
theorem p_175_20 (L : Nat) (xs : Nat → Int32) : ll_P L xs 175 20 = some (.inl (lo_push 21 (.int 2))) := (P_175 L xs 20).trans rfl
theorem p_175_21 (L : Nat) (xs : Nat → Int32) : ll_P L xs 175 21 = some (.inr (.inl (159, 4, 24))) := (P_175 L xs 21).trans rfl
theorem p_175_24 (L : Nat) (xs : Nat → Int32) : ll_P L xs 175 24 = some (.inr (.inr 1)) := (P_175 L xs 24).trans rfl
theorem b_175_0 {Y : sY} {d : Nat} {s : sT} {K : Option Int32 → sT → Prop} {r0 : Nat} {x1 : Int32} {x2 : Int32} (h : (∃ a1, (isO Y r0 11 ∧ s.2 r0 20 = some a1) ∧ (∃ m3, (isA Y a1 0 m3 ∧ inR (0 : Int32) m3) ∧ (∃ a5, (isO Y r0 11 ∧ (pV s a1 ((0 : Int32)).toNatClampNeg x1).2 r0 20 = some a5) ∧ (∃ m7, (isA Y a5 0 m7 ∧ inR (1 : Int32) m7) ∧ (∃ a9, (isO Y r0 11 ∧ (pV (pV s a1 ((0 : Int32)).toNatClampNeg x1) a5 ((1 : Int32)).toNatClampNeg x2).2 r0 20 = some a9) ∧ (isO Y r0 11 ∧ tT Y d 159 0 [.ref r0, .ref a9, .int (0 : Int32), .int (2 : Int32), .null, .null, .null] [] (pV (pV s a1 ((0 : Int32)).toNatClampNeg x1) a5 ((1 : Int32)).toNatClampNeg x2) (fun r s1 => tT Y (d + 1) 175 24 [.ref r0, .int x1, .int x2] ((r.map Value.int).toList ++ []) s1 K)))))))) : tT Y (d + 1) 175 0 [.ref r0, .int x1, .int x2] [] s K :=
  (tt_aload (p_175_0 _ _) rfl).mpr (Exists.elim h (fun a1 h2 => t3_getr (p_175_1 _ _) (isI_11_20) h2.1.1 h2.1.2 ((tt_push (p_175_4 _ _)).mpr ((tt_iload (p_175_5 _ _) rfl).mpr (Exists.elim h2.2 (fun m3 h4 => t3_ast (p_175_6 _ _) h4.1.1 h4.1.2 ((tt_aload (p_175_7 _ _) rfl).mpr (Exists.elim h4.2 (fun a5 h6 => t3_getr (p_175_8 _ _) (isI_11_20) h6.1.1 h6.1.2 ((tt_push (p_175_11 _ _)).mpr ((tt_iload (p_175_12 _ _) rfl).mpr (Exists.elim h6.2 (fun m7 h8 => t3_ast (p_175_13 _ _) h8.1.1 h8.1.2 ((tt_aload (p_175_14 _ _) rfl).mpr ((tt_aload (p_175_15 _ _) rfl).mpr (Exists.elim h8.2 (fun a9 h10 => t3_getr (p_175_16 _ _) (isI_11_20) h10.1.1 h10.1.2 ((tt_push (p_175_19 _ _)).mpr ((tt_push (p_175_20 _ _)).mpr (t2_callv (z := 159) (k := 4) (i := r0) (as := [.ref a9, .int (0 : Int32), .int (2 : Int32)]) (rest := []) (p_175_21 _ _) mK_159 mL_159 rfl rfl (Nat.le_of_ble_eq_true rfl) rfl (Nat.le_of_ble_eq_true rfl) h10.2.1 h10.2.2))))))))))))))))))))
theorem b_175_24 {Y : sY} {d : Nat} {s : sT} {K : Option Int32 → sT → Prop} {r0 : Nat} {x1 : Int32} {x2 : Int32} {t0 : Int32} (h : K (some t0) s) : tT Y (d + 1) 175 24 [.ref r0, .int x1, .int x2] [.int t0] s K :=
  tt_ret1 (p_175_24 _ _) h
/-! InclusionProverModel.needs.(II)V -/
theorem p_176_0 (L : Nat) (xs : Nat → Int32) : ll_P L xs 176 0 = some (.inl (lo_push 1 (.int 0))) := (P_176 L xs 0).trans rfl
theorem p_176_1 (L : Nat) (xs : Nat → Int32) : ll_P L xs 176 1 = some (.inl (lo_istore 2 3)) := (P_176 L xs 1).trans rfl
theorem p_176_2 (L : Nat) (xs : Nat → Int32) : ll_P L xs 176 2 = some (.inl (lo_aload 3 0)) := (P_176 L xs 2).trans rfl
theorem p_176_3 (L : Nat) (xs : Nat → Int32) : ll_P L xs 176 3 = some (.inl (lo_getf 6 11 15)) := (P_176 L xs 3).trans rfl
theorem p_176_6 (L : Nat) (xs : Nat → Int32) : ll_P L xs 176 6 = some (.inl (lo_push 7 (.int 3))) := (P_176 L xs 6).trans rfl
theorem p_176_7 (L : Nat) (xs : Nat → Int32) : ll_P L xs 176 7 = some (.inl (lo_iload 8 1)) := (P_176 L xs 7).trans rfl
theorem p_176_8 (L : Nat) (xs : Nat → Int32) : ll_P L xs 176 8 = some (.inl (lo_bin 9 (fun x y => x * y))) := (P_176 L xs 8).trans rfl
theorem p_176_9 (L : Nat) (xs : Nat → Int32) : ll_P L xs 176 9 = some (.inl (lo_iload 10 2)) := (P_176 L xs 9).trans rfl
theorem p_176_10 (L : Nat) (xs : Nat → Int32) : ll_P L xs 176 10 = some (.inl (lo_bin 11 (fun x y => x + y))) := (P_176 L xs 10).trans rfl
theorem p_176_11 (L : Nat) (xs : Nat → Int32) : ll_P L xs 176 11 = some (.inl (lo_ald 12 0)) := (P_176 L xs 11).trans rfl
theorem p_176_12 (L : Nat) (xs : Nat → Int32) : ll_P L xs 176 12 = some (.inl (lo_push 13 (.int (-1)))) := (P_176 L xs 12).trans rfl
theorem p_176_13 (L : Nat) (xs : Nat → Int32) : ll_P L xs 176 13 = some (.inl (lo_cmp 17 16 (fun x y => decide (x = y)))) := (P_176 L xs 13).trans rfl
theorem p_176_16 (L : Nat) (xs : Nat → Int32) : ll_P L xs 176 16 = some (.inr (.inr 0)) := (P_176 L xs 16).trans rfl
theorem p_176_17 (L : Nat) (xs : Nat → Int32) : ll_P L xs 176 17 = some (.inl (lo_aload 18 0)) := (P_176 L xs 17).trans rfl
theorem p_176_18 (L : Nat) (xs : Nat → Int32) : ll_P L xs 176 18 = some (.inl (lo_getf 21 11 31)) := (P_176 L xs 18).trans rfl
theorem p_176_21 (L : Nat) (xs : Nat → Int32) : ll_P L xs 176 21 = some (.inl (lo_iload 22 3)) := (P_176 L xs 21).trans rfl
theorem p_176_22 (L : Nat) (xs : Nat → Int32) : ll_P L xs 176 22 = some (.inl (lo_iload 23 1)) := (P_176 L xs 22).trans rfl
theorem p_176_23 (L : Nat) (xs : Nat → Int32) : ll_P L xs 176 23 = some (.inl (lo_ast 24 0)) := (P_176 L xs 23).trans rfl
theorem p_176_24 (L : Nat) (xs : Nat → Int32) : ll_P L xs 176 24 = some (.inl (lo_iinc 27 3 1)) := (P_176 L xs 24).trans rfl
theorem p_176_27 (L : Nat) (xs : Nat → Int32) : ll_P L xs 176 27 = some (.inl (lo_iload 28 3)) := (P_176 L xs 27).trans rfl
theorem p_176_28 (L : Nat) (xs : Nat → Int32) : ll_P L xs 176 28 = some (.inl (lo_if 83 31 (fun x => decide (x ≤ 0)))) := (P_176 L xs 28).trans rfl
theorem p_176_31 (L : Nat) (xs : Nat → Int32) : ll_P L xs 176 31 = some (.inl (lo_aload 32 0)) := (P_176 L xs 31).trans rfl
theorem p_176_32 (L : Nat) (xs : Nat → Int32) : ll_P L xs 176 32 = some (.inl (lo_aload 33 0)) := (P_176 L xs 32).trans rfl
theorem p_176_33 (L : Nat) (xs : Nat → Int32) : ll_P L xs 176 33 = some (.inl (lo_getf 36 11 31)) := (P_176 L xs 33).trans rfl
theorem p_176_36 (L : Nat) (xs : Nat → Int32) : ll_P L xs 176 36 = some (.inl (lo_iload 37 3)) := (P_176 L xs 36).trans rfl
theorem p_176_37 (L : Nat) (xs : Nat → Int32) : ll_P L xs 176 37 = some (.inl (lo_push 38 (.int 1))) := (P_176 L xs 37).trans rfl
theorem p_176_38 (L : Nat) (xs : Nat → Int32) : ll_P L xs 176 38 = some (.inl (lo_bin 39 (fun x y => x - y))) := (P_176 L xs 38).trans rfl
theorem p_176_39 (L : Nat) (xs : Nat → Int32) : ll_P L xs 176 39 = some (.inl (lo_ald 40 0)) := (P_176 L xs 39).trans rfl
theorem p_176_40 (L : Nat) (xs : Nat → Int32) : ll_P L xs 176 40 = some (.inl (lo_iload 41 2)) := (P_176 L xs 40).trans rfl
theorem p_176_41 (L : Nat) (xs : Nat → Int32) : ll_P L xs 176 41 = some (.inr (.inl (171, 3, 44))) := (P_176 L xs 41).trans rfl
theorem p_176_44 (L : Nat) (xs : Nat → Int32) : ll_P L xs 176 44 = some (.inl (lo_istore 46 4)) := (P_176 L xs 44).trans rfl
theorem p_176_46 (L : Nat) (xs : Nat → Int32) : ll_P L xs 176 46 = some (.inl (lo_iload 48 4)) := (P_176 L xs 46).trans rfl
theorem p_176_48 (L : Nat) (xs : Nat → Int32) : ll_P L xs 176 48 = some (.inl (lo_push 49 (.int (-1)))) := (P_176 L xs 48).trans rfl
theorem p_176_49 (L : Nat) (xs : Nat → Int32) : ll_P L xs 176 49 = some (.inl (lo_cmp 66 52 (fun x y => decide (x = y)))) := (P_176 L xs 49).trans rfl
theorem p_176_52 (L : Nat) (xs : Nat → Int32) : ll_P L xs 176 52 = some (.inl (lo_aload 53 0)) := (P_176 L xs 52).trans rfl
theorem p_176_53 (L : Nat) (xs : Nat → Int32) : ll_P L xs 176 53 = some (.inl (lo_getf 56 11 31)) := (P_176 L xs 53).trans rfl
theorem p_176_56 (L : Nat) (xs : Nat → Int32) : ll_P L xs 176 56 = some (.inl (lo_iload 57 3)) := (P_176 L xs 56).trans rfl
theorem p_176_57 (L : Nat) (xs : Nat → Int32) : ll_P L xs 176 57 = some (.inl (lo_iload 59 4)) := (P_176 L xs 57).trans rfl
theorem p_176_59 (L : Nat) (xs : Nat → Int32) : ll_P L xs 176 59 = some (.inl (lo_ast 60 0)) := (P_176 L xs 59).trans rfl
theorem p_176_60 (L : Nat) (xs : Nat → Int32) : ll_P L xs 176 60 = some (.inl (lo_iinc 63 3 1)) := (P_176 L xs 60).trans rfl
theorem p_176_63 (L : Nat) (xs : Nat → Int32) : ll_P L xs 176 63 = some (.inl (lo_goto 80)) := (P_176 L xs 63).trans rfl
theorem p_176_66 (L : Nat) (xs : Nat → Int32) : ll_P L xs 176 66 = some (.inl (lo_iinc 69 3 (-1))) := (P_176 L xs 66).trans rfl
theorem p_176_69 (L : Nat) (xs : Nat → Int32) : ll_P L xs 176 69 = some (.inl (lo_aload 70 0)) := (P_176 L xs 69).trans rfl
theorem p_176_70 (L : Nat) (xs : Nat → Int32) : ll_P L xs 176 70 = some (.inl (lo_aload 71 0)) := (P_176 L xs 70).trans rfl
theorem p_176_71 (L : Nat) (xs : Nat → Int32) : ll_P L xs 176 71 = some (.inl (lo_getf 74 11 31)) := (P_176 L xs 71).trans rfl
theorem p_176_74 (L : Nat) (xs : Nat → Int32) : ll_P L xs 176 74 = some (.inl (lo_iload 75 3)) := (P_176 L xs 74).trans rfl
theorem p_176_75 (L : Nat) (xs : Nat → Int32) : ll_P L xs 176 75 = some (.inl (lo_ald 76 0)) := (P_176 L xs 75).trans rfl
theorem p_176_76 (L : Nat) (xs : Nat → Int32) : ll_P L xs 176 76 = some (.inl (lo_iload 77 2)) := (P_176 L xs 76).trans rfl
theorem p_176_77 (L : Nat) (xs : Nat → Int32) : ll_P L xs 176 77 = some (.inr (.inl (174, 3, 80))) := (P_176 L xs 77).trans rfl
theorem p_176_80 (L : Nat) (xs : Nat → Int32) : ll_P L xs 176 80 = some (.inl (lo_goto 27)) := (P_176 L xs 80).trans rfl
theorem p_176_83 (L : Nat) (xs : Nat → Int32) : ll_P L xs 176 83 = some (.inr (.inr 0)) := (P_176 L xs 83).trans rfl
theorem b_176_0 {Y : sY} {d : Nat} {s : sT} {K : Option Int32 → sT → Prop} {r0 : Nat} {x1 : Int32} {x2 : Int32} (h : (∃ a1, (isO Y r0 11 ∧ s.2 r0 15 = some a1) ∧ (∃ m3, (isA Y a1 0 m3 ∧ inR (((3 : Int32) * x1) + x2) m3) ∧ (if (s.1 a1 ((((3 : Int32) * x1) + x2)).toNatClampNeg) = (-1 : Int32) then (∃ a6, (isO Y r0 11 ∧ s.2 r0 31 = some a6) ∧ (∃ m8, (isA Y a6 0 m8 ∧ inR (0 : Int32) m8) ∧ tT Y (d + 1) 176 27 [.ref r0, .int x1, .int x2, .int ((0 : Int32) + 1), .null] [] (pV s a6 ((0 : Int32)).toNatClampNeg x1) K)) else K none s)))) : tT Y (d + 1) 176 0 [.ref r0, .int x1, .int x2, .null, .null] [] s K :=
  (tt_push (p_176_0 _ _)).mpr ((tt_istore (p_176_1 _ _) (Nat.le_of_ble_eq_true rfl) rfl rfl).mpr ((tt_aload (p_176_2 _ _) rfl).mpr (Exists.elim h (fun a1 h2 => t3_getr (p_176_3 _ _) (isI_11_15) h2.1.1 h2.1.2 ((tt_push (p_176_6 _ _)).mpr ((tt_iload (p_176_7 _ _) rfl).mpr ((tt_bin (p_176_8 _ _)).mpr ((tt_iload (p_176_9 _ _) rfl).mpr ((tt_bin (p_176_10 _ _)).mpr (Exists.elim h2.2 (fun m3 h4 => t3_ald (p_176_11 _ _) h4.1.1 h4.1.2 ((tt_push (p_176_12 _ _)).mpr (t3_cmp (p := (s.1 a1 ((((3 : Int32) * x1) + x2)).toNatClampNeg) = (-1 : Int32)) (p_176_13 _ _) rfl (fun g5 => (tt_aload (p_176_17 _ _) rfl).mpr (Exists.elim (ifp h4.2 g5) (fun a6 h7 => t3_getr (p_176_18 _ _) (isI_11_31) h7.1.1 h7.1.2 ((tt_iload (p_176_21 _ _) rfl).mpr ((tt_iload (p_176_22 _ _) rfl).mpr (Exists.elim h7.2 (fun m8 h9 => t3_ast (p_176_23 _ _) h9.1.1 h9.1.2 ((tt_iinc (p_176_24 _ _) rfl rfl rfl).mpr (h9.2))))))))) (fun g5 => tt_ret0 (p_176_16 _ _) (ifn h4.2 g5)))))))))))))))
theorem b_176_27 {Y : sY} {d : Nat} {s : sT} {K : Option Int32 → sT → Prop} {r0 : Nat} {x1 : Int32} {x2 : Int32} {x3 : Int32} {u4 : Value} (h : (if x3 ≤ 0 then K none s else (∃ a2, (isO Y r0 11 ∧ s.2 r0 31 = some a2) ∧ (∃ m4, (isA Y a2 0 m4 ∧ inR (x3 - (1 : Int32)) m4) ∧ (isO Y r0 11 ∧ tT Y d 171 0 [.ref r0, .int (s.1 a2 ((x3 - (1 : Int32))).toNatClampNeg), .int x2, .null, .null] [] s (fun r s1 => tT Y (d + 1) 176 44 [.ref r0, .int x1, .int x2, .int x3, u4] ((r.map Value.int).toList ++ []) s1 K)))))) : tT Y (d + 1) 176 27 [.ref r0, .int x1, .int x2, .int x3, u4] [] s K :=
  (tt_iload (p_176_27 _ _) rfl).mpr (t3_if (p := x3 ≤ 0) (p_176_28 _ _) rfl (fun g1 => tt_ret0 (p_176_83 _ _) (ifp h g1)) (fun g1 => (tt_aload (p_176_31 _ _) rfl).mpr ((tt_aload (p_176_32 _ _) rfl).mpr (Exists.elim (ifn h g1) (fun a2 h3 => t3_getr (p_176_33 _ _) (isI_11_31) h3.1.1 h3.1.2 ((tt_iload (p_176_36 _ _) rfl).mpr ((tt_push (p_176_37 _ _)).mpr ((tt_bin (p_176_38 _ _)).mpr (Exists.elim h3.2 (fun m4 h5 => t3_ald (p_176_39 _ _) h5.1.1 h5.1.2 ((tt_iload (p_176_40 _ _) rfl).mpr (t2_callv (z := 171) (k := 3) (i := r0) (as := [.int (s.1 a2 ((x3 - (1 : Int32))).toNatClampNeg), .int x2]) (rest := []) (p_176_41 _ _) mK_171 mL_171 rfl rfl (Nat.le_of_ble_eq_true rfl) rfl (Nat.le_of_ble_eq_true rfl) h5.2.1 h5.2.2))))))))))))
theorem b_176_44 {Y : sY} {d : Nat} {s : sT} {K : Option Int32 → sT → Prop} {r0 : Nat} {x1 : Int32} {x2 : Int32} {x3 : Int32} {u4 : Value} {t0 : Int32} (h : (if t0 = (-1 : Int32) then (∃ a2, (isO Y r0 11 ∧ s.2 r0 31 = some a2) ∧ (∃ m4, (isA Y a2 0 m4 ∧ inR (x3 + (-1)) m4) ∧ (isO Y r0 11 ∧ tT Y d 174 0 [.ref r0, .int (s.1 a2 ((x3 + (-1))).toNatClampNeg), .int x2, .null, .null, .null] [] s (fun r s1 => tT Y (d + 1) 176 80 [.ref r0, .int x1, .int x2, .int (x3 + (-1)), .int t0] ((r.map Value.int).toList ++ []) s1 K)))) else (∃ a6, (isO Y r0 11 ∧ s.2 r0 31 = some a6) ∧ (∃ m8, (isA Y a6 0 m8 ∧ inR x3 m8) ∧ tT Y (d + 1) 176 80 [.ref r0, .int x1, .int x2, .int (x3 + 1), .int t0] [] (pV s a6 (x3).toNatClampNeg t0) K)))) : tT Y (d + 1) 176 44 [.ref r0, .int x1, .int x2, .int x3, u4] [.int t0] s K :=
  (tt_istore (p_176_44 _ _) (Nat.le_of_ble_eq_true rfl) rfl rfl).mpr ((tt_iload (p_176_46 _ _) rfl).mpr ((tt_push (p_176_48 _ _)).mpr (t3_cmp (p := t0 = (-1 : Int32)) (p_176_49 _ _) rfl (fun g1 => (tt_iinc (p_176_66 _ _) rfl rfl rfl).mpr ((tt_aload (p_176_69 _ _) rfl).mpr ((tt_aload (p_176_70 _ _) rfl).mpr (Exists.elim (ifp h g1) (fun a2 h3 => t3_getr (p_176_71 _ _) (isI_11_31) h3.1.1 h3.1.2 ((tt_iload (p_176_74 _ _) rfl).mpr (Exists.elim h3.2 (fun m4 h5 => t3_ald (p_176_75 _ _) h5.1.1 h5.1.2 ((tt_iload (p_176_76 _ _) rfl).mpr (t2_callv (z := 174) (k := 3) (i := r0) (as := [.int (s.1 a2 ((x3 + (-1))).toNatClampNeg), .int x2]) (rest := []) (p_176_77 _ _) mK_174 mL_174 rfl rfl (Nat.le_of_ble_eq_true rfl) rfl (Nat.le_of_ble_eq_true rfl) h5.2.1 h5.2.2)))))))))) (fun g1 => (tt_aload (p_176_52 _ _) rfl).mpr (Exists.elim (ifn h g1) (fun a6 h7 => t3_getr (p_176_53 _ _) (isI_11_31) h7.1.1 h7.1.2 ((tt_iload (p_176_56 _ _) rfl).mpr ((tt_iload (p_176_57 _ _) rfl).mpr (Exists.elim h7.2 (fun m8 h9 => t3_ast (p_176_59 _ _) h9.1.1 h9.1.2 ((tt_iinc (p_176_60 _ _) rfl rfl rfl).mpr ((tt_goto (p_176_63 _ _)).mpr (h9.2)))))))))))))
theorem b_176_80 {Y : sY} {d : Nat} {s : sT} {K : Option Int32 → sT → Prop} {r0 : Nat} {x1 : Int32} {x2 : Int32} {x3 : Int32} {x4 : Int32} (h : tT Y (d + 1) 176 27 [.ref r0, .int x1, .int x2, .int x3, .int x4] [] s K) : tT Y (d + 1) 176 80 [.ref r0, .int x1, .int x2, .int x3, .int x4] [] s K :=
  (tt_goto (p_176_80 _ _)).mpr (h)
/-! InclusionProverModel.termBy.(II)I -/
theorem p_177_0 (L : Nat) (xs : Nat → Int32) : ll_P L xs 177 0 = some (.inl (lo_push 1 (.int 0))) := (P_177 L xs 0).trans rfl
theorem p_177_1 (L : Nat) (xs : Nat → Int32) : ll_P L xs 177 1 = some (.inl (lo_istore 2 3)) := (P_177 L xs 1).trans rfl
theorem p_177_2 (L : Nat) (xs : Nat → Int32) : ll_P L xs 177 2 = some (.inl (lo_iload 3 3)) := (P_177 L xs 2).trans rfl
theorem p_177_3 (L : Nat) (xs : Nat → Int32) : ll_P L xs 177 3 = some (.inl (lo_aload 4 0)) := (P_177 L xs 3).trans rfl
theorem p_177_4 (L : Nat) (xs : Nat → Int32) : ll_P L xs 177 4 = some (.inl (lo_getf 7 11 35)) := (P_177 L xs 4).trans rfl
theorem p_177_7 (L : Nat) (xs : Nat → Int32) : ll_P L xs 177 7 = some (.inl (lo_iload 8 1)) := (P_177 L xs 7).trans rfl
theorem p_177_8 (L : Nat) (xs : Nat → Int32) : ll_P L xs 177 8 = some (.inl (lo_ald 9 0)) := (P_177 L xs 8).trans rfl
theorem p_177_9 (L : Nat) (xs : Nat → Int32) : ll_P L xs 177 9 = some (.inl (lo_cmp 35 12 (fun x y => decide (y ≤ x)))) := (P_177 L xs 9).trans rfl
theorem p_177_12 (L : Nat) (xs : Nat → Int32) : ll_P L xs 177 12 = some (.inl (lo_aload 13 0)) := (P_177 L xs 12).trans rfl
theorem p_177_13 (L : Nat) (xs : Nat → Int32) : ll_P L xs 177 13 = some (.inl (lo_getf 16 11 34)) := (P_177 L xs 13).trans rfl
theorem p_177_16 (L : Nat) (xs : Nat → Int32) : ll_P L xs 177 16 = some (.inl (lo_push 18 (.int 31))) := (P_177 L xs 16).trans rfl
theorem p_177_18 (L : Nat) (xs : Nat → Int32) : ll_P L xs 177 18 = some (.inl (lo_iload 19 1)) := (P_177 L xs 18).trans rfl
theorem p_177_19 (L : Nat) (xs : Nat → Int32) : ll_P L xs 177 19 = some (.inl (lo_bin 20 (fun x y => x * y))) := (P_177 L xs 19).trans rfl
theorem p_177_20 (L : Nat) (xs : Nat → Int32) : ll_P L xs 177 20 = some (.inl (lo_iload 21 3)) := (P_177 L xs 20).trans rfl
theorem p_177_21 (L : Nat) (xs : Nat → Int32) : ll_P L xs 177 21 = some (.inl (lo_bin 22 (fun x y => x + y))) := (P_177 L xs 21).trans rfl
theorem p_177_22 (L : Nat) (xs : Nat → Int32) : ll_P L xs 177 22 = some (.inl (lo_ald 23 0)) := (P_177 L xs 22).trans rfl
theorem p_177_23 (L : Nat) (xs : Nat → Int32) : ll_P L xs 177 23 = some (.inl (lo_iload 24 2)) := (P_177 L xs 23).trans rfl
theorem p_177_24 (L : Nat) (xs : Nat → Int32) : ll_P L xs 177 24 = some (.inl (lo_cmp 29 27 (fun x y => decide (¬ x = y)))) := (P_177 L xs 24).trans rfl
theorem p_177_27 (L : Nat) (xs : Nat → Int32) : ll_P L xs 177 27 = some (.inl (lo_iload 28 3)) := (P_177 L xs 27).trans rfl
theorem p_177_28 (L : Nat) (xs : Nat → Int32) : ll_P L xs 177 28 = some (.inr (.inr 1)) := (P_177 L xs 28).trans rfl
theorem p_177_29 (L : Nat) (xs : Nat → Int32) : ll_P L xs 177 29 = some (.inl (lo_iinc 32 3 1)) := (P_177 L xs 29).trans rfl
theorem p_177_32 (L : Nat) (xs : Nat → Int32) : ll_P L xs 177 32 = some (.inl (lo_goto 2)) := (P_177 L xs 32).trans rfl
theorem p_177_35 (L : Nat) (xs : Nat → Int32) : ll_P L xs 177 35 = some (.inl (lo_push 36 (.int (-1)))) := (P_177 L xs 35).trans rfl
theorem p_177_36 (L : Nat) (xs : Nat → Int32) : ll_P L xs 177 36 = some (.inr (.inr 1)) := (P_177 L xs 36).trans rfl
theorem b_177_0 {Y : sY} {d : Nat} {s : sT} {K : Option Int32 → sT → Prop} {r0 : Nat} {x1 : Int32} {x2 : Int32} (h : tT Y d 177 2 [.ref r0, .int x1, .int x2, .int (0 : Int32)] [] s K) : tT Y d 177 0 [.ref r0, .int x1, .int x2, .null] [] s K :=
  (tt_push (p_177_0 _ _)).mpr ((tt_istore (p_177_1 _ _) (Nat.le_of_ble_eq_true rfl) rfl rfl).mpr (h))
theorem b_177_2 {Y : sY} {d : Nat} {s : sT} {K : Option Int32 → sT → Prop} {r0 : Nat} {x1 : Int32} {x2 : Int32} {x3 : Int32} (h : (∃ a1, (isO Y r0 11 ∧ s.2 r0 35 = some a1) ∧ (∃ m3, (isA Y a1 0 m3 ∧ inR x1 m3) ∧ (if (s.1 a1 (x1).toNatClampNeg) ≤ x3 then K (some (-1 : Int32)) s else (∃ a6, (isO Y r0 11 ∧ s.2 r0 34 = some a6) ∧ (∃ m8, (isA Y a6 0 m8 ∧ inR (((31 : Int32) * x1) + x3) m8) ∧ (if ¬ (s.1 a6 ((((31 : Int32) * x1) + x3)).toNatClampNeg) = x2 then tT Y d 177 2 [.ref r0, .int x1, .int x2, .int (x3 + 1)] [] s K else K (some x3) s))))))) : tT Y d 177 2 [.ref r0, .int x1, .int x2, .int x3] [] s K :=
  (tt_iload (p_177_2 _ _) rfl).mpr ((tt_aload (p_177_3 _ _) rfl).mpr (Exists.elim h (fun a1 h2 => t3_getr (p_177_4 _ _) (isI_11_35) h2.1.1 h2.1.2 ((tt_iload (p_177_7 _ _) rfl).mpr (Exists.elim h2.2 (fun m3 h4 => t3_ald (p_177_8 _ _) h4.1.1 h4.1.2 (t3_cmp (p := (s.1 a1 (x1).toNatClampNeg) ≤ x3) (p_177_9 _ _) rfl (fun g5 => (tt_push (p_177_35 _ _)).mpr (tt_ret1 (p_177_36 _ _) (ifp h4.2 g5))) (fun g5 => (tt_aload (p_177_12 _ _) rfl).mpr (Exists.elim (ifn h4.2 g5) (fun a6 h7 => t3_getr (p_177_13 _ _) (isI_11_34) h7.1.1 h7.1.2 ((tt_push (p_177_16 _ _)).mpr ((tt_iload (p_177_18 _ _) rfl).mpr ((tt_bin (p_177_19 _ _)).mpr ((tt_iload (p_177_20 _ _) rfl).mpr ((tt_bin (p_177_21 _ _)).mpr (Exists.elim h7.2 (fun m8 h9 => t3_ald (p_177_22 _ _) h9.1.1 h9.1.2 ((tt_iload (p_177_23 _ _) rfl).mpr (t3_cmp (p := ¬ (s.1 a6 ((((31 : Int32) * x1) + x3)).toNatClampNeg) = x2) (p_177_24 _ _) rfl (fun g10 => (tt_iinc (p_177_29 _ _) rfl rfl rfl).mpr ((tt_goto (p_177_32 _ _)).mpr ((ifp h9.2 g10)))) (fun g10 => (tt_iload (p_177_27 _ _) rfl).mpr (tt_ret1 (p_177_28 _ _) (ifn h9.2 g10))))))))))))))))))))))
/-! InclusionProverModel.laysTerms.(II)V -/
theorem p_178_0 (L : Nat) (xs : Nat → Int32) : ll_P L xs 178 0 = some (.inl (lo_aload 1 0)) := (P_178 L xs 0).trans rfl
theorem p_178_1 (L : Nat) (xs : Nat → Int32) : ll_P L xs 178 1 = some (.inl (lo_getf 4 11 34)) := (P_178 L xs 1).trans rfl
theorem p_178_4 (L : Nat) (xs : Nat → Int32) : ll_P L xs 178 4 = some (.inl (lo_push 6 (.int 31))) := (P_178 L xs 4).trans rfl
theorem p_178_6 (L : Nat) (xs : Nat → Int32) : ll_P L xs 178 6 = some (.inl (lo_iload 7 1)) := (P_178 L xs 6).trans rfl
theorem p_178_7 (L : Nat) (xs : Nat → Int32) : ll_P L xs 178 7 = some (.inl (lo_bin 8 (fun x y => x * y))) := (P_178 L xs 7).trans rfl
theorem p_178_8 (L : Nat) (xs : Nat → Int32) : ll_P L xs 178 8 = some (.inl (lo_iload 9 2)) := (P_178 L xs 8).trans rfl
theorem p_178_9 (L : Nat) (xs : Nat → Int32) : ll_P L xs 178 9 = some (.inl (lo_ast 10 0)) := (P_178 L xs 9).trans rfl
theorem p_178_10 (L : Nat) (xs : Nat → Int32) : ll_P L xs 178 10 = some (.inl (lo_aload 11 0)) := (P_178 L xs 10).trans rfl
theorem p_178_11 (L : Nat) (xs : Nat → Int32) : ll_P L xs 178 11 = some (.inl (lo_getf 14 11 35)) := (P_178 L xs 11).trans rfl
theorem p_178_14 (L : Nat) (xs : Nat → Int32) : ll_P L xs 178 14 = some (.inl (lo_iload 15 1)) := (P_178 L xs 14).trans rfl
theorem p_178_15 (L : Nat) (xs : Nat → Int32) : ll_P L xs 178 15 = some (.inl (lo_push 16 (.int 1))) := (P_178 L xs 15).trans rfl
theorem p_178_16 (L : Nat) (xs : Nat → Int32) : ll_P L xs 178 16 = some (.inl (lo_ast 17 0)) := (P_178 L xs 16).trans rfl
theorem p_178_17 (L : Nat) (xs : Nat → Int32) : ll_P L xs 178 17 = some (.inl (lo_push 18 (.int 0))) := (P_178 L xs 17).trans rfl
theorem p_178_18 (L : Nat) (xs : Nat → Int32) : ll_P L xs 178 18 = some (.inl (lo_istore 19 3)) := (P_178 L xs 18).trans rfl
theorem p_178_19 (L : Nat) (xs : Nat → Int32) : ll_P L xs 178 19 = some (.inl (lo_iload 20 3)) := (P_178 L xs 19).trans rfl
theorem p_178_20 (L : Nat) (xs : Nat → Int32) : ll_P L xs 178 20 = some (.inl (lo_aload 21 0)) := (P_178 L xs 20).trans rfl
theorem p_178_21 (L : Nat) (xs : Nat → Int32) : ll_P L xs 178 21 = some (.inl (lo_getf 24 11 35)) := (P_178 L xs 21).trans rfl
theorem p_178_24 (L : Nat) (xs : Nat → Int32) : ll_P L xs 178 24 = some (.inl (lo_iload 25 1)) := (P_178 L xs 24).trans rfl
theorem p_178_25 (L : Nat) (xs : Nat → Int32) : ll_P L xs 178 25 = some (.inl (lo_ald 26 0)) := (P_178 L xs 25).trans rfl
theorem p_178_26 (L : Nat) (xs : Nat → Int32) : ll_P L xs 178 26 = some (.inl (lo_cmp 58 29 (fun x y => decide (y ≤ x)))) := (P_178 L xs 26).trans rfl
theorem p_178_29 (L : Nat) (xs : Nat → Int32) : ll_P L xs 178 29 = some (.inl (lo_push 30 (.int 0))) := (P_178 L xs 29).trans rfl
theorem p_178_30 (L : Nat) (xs : Nat → Int32) : ll_P L xs 178 30 = some (.inl (lo_istore 32 4)) := (P_178 L xs 30).trans rfl
theorem p_178_32 (L : Nat) (xs : Nat → Int32) : ll_P L xs 178 32 = some (.inl (lo_iload 34 4)) := (P_178 L xs 32).trans rfl
theorem p_178_34 (L : Nat) (xs : Nat → Int32) : ll_P L xs 178 34 = some (.inl (lo_push 35 (.int 3))) := (P_178 L xs 34).trans rfl
theorem p_178_35 (L : Nat) (xs : Nat → Int32) : ll_P L xs 178 35 = some (.inl (lo_cmp 52 38 (fun x y => decide (y ≤ x)))) := (P_178 L xs 35).trans rfl
theorem p_178_38 (L : Nat) (xs : Nat → Int32) : ll_P L xs 178 38 = some (.inl (lo_aload 39 0)) := (P_178 L xs 38).trans rfl
theorem p_178_39 (L : Nat) (xs : Nat → Int32) : ll_P L xs 178 39 = some (.inl (lo_iload 40 1)) := (P_178 L xs 39).trans rfl
theorem p_178_40 (L : Nat) (xs : Nat → Int32) : ll_P L xs 178 40 = some (.inl (lo_iload 41 3)) := (P_178 L xs 40).trans rfl
theorem p_178_41 (L : Nat) (xs : Nat → Int32) : ll_P L xs 178 41 = some (.inl (lo_iload 43 4)) := (P_178 L xs 41).trans rfl
theorem p_178_43 (L : Nat) (xs : Nat → Int32) : ll_P L xs 178 43 = some (.inr (.inl (179, 4, 46))) := (P_178 L xs 43).trans rfl
theorem p_178_46 (L : Nat) (xs : Nat → Int32) : ll_P L xs 178 46 = some (.inl (lo_iinc 49 4 1)) := (P_178 L xs 46).trans rfl
theorem p_178_49 (L : Nat) (xs : Nat → Int32) : ll_P L xs 178 49 = some (.inl (lo_goto 32)) := (P_178 L xs 49).trans rfl
theorem p_178_52 (L : Nat) (xs : Nat → Int32) : ll_P L xs 178 52 = some (.inl (lo_iinc 55 3 1)) := (P_178 L xs 52).trans rfl
theorem p_178_55 (L : Nat) (xs : Nat → Int32) : ll_P L xs 178 55 = some (.inl (lo_goto 19)) := (P_178 L xs 55).trans rfl
theorem p_178_58 (L : Nat) (xs : Nat → Int32) : ll_P L xs 178 58 = some (.inr (.inr 0)) := (P_178 L xs 58).trans rfl
theorem b_178_0 {Y : sY} {d : Nat} {s : sT} {K : Option Int32 → sT → Prop} {r0 : Nat} {x1 : Int32} {x2 : Int32} (h : (∃ a1, (isO Y r0 11 ∧ s.2 r0 34 = some a1) ∧ (∃ m3, (isA Y a1 0 m3 ∧ inR ((31 : Int32) * x1) m3) ∧ (∃ a5, (isO Y r0 11 ∧ (pV s a1 (((31 : Int32) * x1)).toNatClampNeg x2).2 r0 35 = some a5) ∧ (∃ m7, (isA Y a5 0 m7 ∧ inR x1 m7) ∧ tT Y (d + 1) 178 19 [.ref r0, .int x1, .int x2, .int (0 : Int32), .null] [] (pV (pV s a1 (((31 : Int32) * x1)).toNatClampNeg x2) a5 (x1).toNatClampNeg (1 : Int32)) K))))) : tT Y (d + 1) 178 0 [.ref r0, .int x1, .int x2, .null, .null] [] s K :=
  (tt_aload (p_178_0 _ _) rfl).mpr (Exists.elim h (fun a1 h2 => t3_getr (p_178_1 _ _) (isI_11_34) h2.1.1 h2.1.2 ((tt_push (p_178_4 _ _)).mpr ((tt_iload (p_178_6 _ _) rfl).mpr ((tt_bin (p_178_7 _ _)).mpr ((tt_iload (p_178_8 _ _) rfl).mpr (Exists.elim h2.2 (fun m3 h4 => t3_ast (p_178_9 _ _) h4.1.1 h4.1.2 ((tt_aload (p_178_10 _ _) rfl).mpr (Exists.elim h4.2 (fun a5 h6 => t3_getr (p_178_11 _ _) (isI_11_35) h6.1.1 h6.1.2 ((tt_iload (p_178_14 _ _) rfl).mpr ((tt_push (p_178_15 _ _)).mpr (Exists.elim h6.2 (fun m7 h8 => t3_ast (p_178_16 _ _) h8.1.1 h8.1.2 ((tt_push (p_178_17 _ _)).mpr ((tt_istore (p_178_18 _ _) (Nat.le_of_ble_eq_true rfl) rfl rfl).mpr (h8.2))))))))))))))))))
theorem b_178_19 {Y : sY} {d : Nat} {s : sT} {K : Option Int32 → sT → Prop} {r0 : Nat} {x1 : Int32} {x2 : Int32} {x3 : Int32} {u4 : Value} (h : (∃ a1, (isO Y r0 11 ∧ s.2 r0 35 = some a1) ∧ (∃ m3, (isA Y a1 0 m3 ∧ inR x1 m3) ∧ (if (s.1 a1 (x1).toNatClampNeg) ≤ x3 then K none s else tT Y (d + 1) 178 32 [.ref r0, .int x1, .int x2, .int x3, .int (0 : Int32)] [] s K)))) : tT Y (d + 1) 178 19 [.ref r0, .int x1, .int x2, .int x3, u4] [] s K :=
  (tt_iload (p_178_19 _ _) rfl).mpr ((tt_aload (p_178_20 _ _) rfl).mpr (Exists.elim h (fun a1 h2 => t3_getr (p_178_21 _ _) (isI_11_35) h2.1.1 h2.1.2 ((tt_iload (p_178_24 _ _) rfl).mpr (Exists.elim h2.2 (fun m3 h4 => t3_ald (p_178_25 _ _) h4.1.1 h4.1.2 (t3_cmp (p := (s.1 a1 (x1).toNatClampNeg) ≤ x3) (p_178_26 _ _) rfl (fun g5 => tt_ret0 (p_178_58 _ _) (ifp h4.2 g5)) (fun g5 => (tt_push (p_178_29 _ _)).mpr ((tt_istore (p_178_30 _ _) (Nat.le_of_ble_eq_true rfl) rfl rfl).mpr ((ifn h4.2 g5)))))))))))
theorem b_178_32 {Y : sY} {d : Nat} {s : sT} {K : Option Int32 → sT → Prop} {r0 : Nat} {x1 : Int32} {x2 : Int32} {x3 : Int32} {x4 : Int32} (h : (if (3 : Int32) ≤ x4 then tT Y (d + 1) 178 19 [.ref r0, .int x1, .int x2, .int (x3 + 1), .int x4] [] s K else (isO Y r0 11 ∧ tT Y d 179 0 [.ref r0, .int x1, .int x3, .int x4, .null, .null, .null, .null, .null] [] s (fun r s1 => tT Y (d + 1) 178 46 [.ref r0, .int x1, .int x2, .int x3, .int x4] ((r.map Value.int).toList ++ []) s1 K)))) : tT Y (d + 1) 178 32 [.ref r0, .int x1, .int x2, .int x3, .int x4] [] s K :=
  (tt_iload (p_178_32 _ _) rfl).mpr ((tt_push (p_178_34 _ _)).mpr (t3_cmp (p := (3 : Int32) ≤ x4) (p_178_35 _ _) rfl (fun g1 => (tt_iinc (p_178_52 _ _) rfl rfl rfl).mpr ((tt_goto (p_178_55 _ _)).mpr ((ifp h g1)))) (fun g1 => (tt_aload (p_178_38 _ _) rfl).mpr ((tt_iload (p_178_39 _ _) rfl).mpr ((tt_iload (p_178_40 _ _) rfl).mpr ((tt_iload (p_178_41 _ _) rfl).mpr (t2_callv (z := 179) (k := 4) (i := r0) (as := [.int x1, .int x3, .int x4]) (rest := []) (p_178_43 _ _) mK_179 mL_179 rfl rfl (Nat.le_of_ble_eq_true rfl) rfl (Nat.le_of_ble_eq_true rfl) (ifn h g1).1 (ifn h g1).2)))))))
theorem b_178_46 {Y : sY} {d : Nat} {s : sT} {K : Option Int32 → sT → Prop} {r0 : Nat} {x1 : Int32} {x2 : Int32} {x3 : Int32} {x4 : Int32} (h : tT Y (d + 1) 178 32 [.ref r0, .int x1, .int x2, .int x3, .int (x4 + 1)] [] s K) : tT Y (d + 1) 178 46 [.ref r0, .int x1, .int x2, .int x3, .int x4] [] s K :=
  (tt_iinc (p_178_46 _ _) rfl rfl rfl).mpr ((tt_goto (p_178_49 _ _)).mpr (h))
/-! InclusionProverModel.laysRow.(III)V -/
theorem p_179_0 (L : Nat) (xs : Nat → Int32) : ll_P L xs 179 0 = some (.inl (lo_aload 1 0)) := (P_179 L xs 0).trans rfl
theorem p_179_1 (L : Nat) (xs : Nat → Int32) : ll_P L xs 179 1 = some (.inl (lo_getf 4 11 34)) := (P_179 L xs 1).trans rfl
theorem p_179_4 (L : Nat) (xs : Nat → Int32) : ll_P L xs 179 4 = some (.inl (lo_push 6 (.int 31))) := (P_179 L xs 4).trans rfl
theorem p_179_6 (L : Nat) (xs : Nat → Int32) : ll_P L xs 179 6 = some (.inl (lo_iload 7 1)) := (P_179 L xs 6).trans rfl
theorem p_179_7 (L : Nat) (xs : Nat → Int32) : ll_P L xs 179 7 = some (.inl (lo_bin 8 (fun x y => x * y))) := (P_179 L xs 7).trans rfl
theorem p_179_8 (L : Nat) (xs : Nat → Int32) : ll_P L xs 179 8 = some (.inl (lo_iload 9 2)) := (P_179 L xs 8).trans rfl
theorem p_179_9 (L : Nat) (xs : Nat → Int32) : ll_P L xs 179 9 = some (.inl (lo_bin 10 (fun x y => x + y))) := (P_179 L xs 9).trans rfl
theorem p_179_10 (L : Nat) (xs : Nat → Int32) : ll_P L xs 179 10 = some (.inl (lo_ald 11 0)) := (P_179 L xs 10).trans rfl
theorem p_179_11 (L : Nat) (xs : Nat → Int32) : ll_P L xs 179 11 = some (.inl (lo_istore 13 4)) := (P_179 L xs 11).trans rfl
theorem p_179_13 (L : Nat) (xs : Nat → Int32) : ll_P L xs 179 13 = some (.inl (lo_aload 14 0)) := (P_179 L xs 13).trans rfl
theorem p_179_14 (L : Nat) (xs : Nat → Int32) : ll_P L xs 179 14 = some (.inl (lo_iload 16 4)) := (P_179 L xs 14).trans rfl
theorem p_179_16 (L : Nat) (xs : Nat → Int32) : ll_P L xs 179 16 = some (.inl (lo_iload 17 3)) := (P_179 L xs 16).trans rfl
theorem p_179_17 (L : Nat) (xs : Nat → Int32) : ll_P L xs 179 17 = some (.inr (.inl (176, 3, 20))) := (P_179 L xs 17).trans rfl
theorem p_179_20 (L : Nat) (xs : Nat → Int32) : ll_P L xs 179 20 = some (.inl (lo_push 21 (.int 3))) := (P_179 L xs 20).trans rfl
theorem p_179_21 (L : Nat) (xs : Nat → Int32) : ll_P L xs 179 21 = some (.inl (lo_push 23 (.int 31))) := (P_179 L xs 21).trans rfl
theorem p_179_23 (L : Nat) (xs : Nat → Int32) : ll_P L xs 179 23 = some (.inl (lo_iload 24 1)) := (P_179 L xs 23).trans rfl
theorem p_179_24 (L : Nat) (xs : Nat → Int32) : ll_P L xs 179 24 = some (.inl (lo_bin 25 (fun x y => x * y))) := (P_179 L xs 24).trans rfl
theorem p_179_25 (L : Nat) (xs : Nat → Int32) : ll_P L xs 179 25 = some (.inl (lo_iload 26 2)) := (P_179 L xs 25).trans rfl
theorem p_179_26 (L : Nat) (xs : Nat → Int32) : ll_P L xs 179 26 = some (.inl (lo_bin 27 (fun x y => x + y))) := (P_179 L xs 26).trans rfl
theorem p_179_27 (L : Nat) (xs : Nat → Int32) : ll_P L xs 179 27 = some (.inl (lo_bin 28 (fun x y => x * y))) := (P_179 L xs 27).trans rfl
theorem p_179_28 (L : Nat) (xs : Nat → Int32) : ll_P L xs 179 28 = some (.inl (lo_iload 29 3)) := (P_179 L xs 28).trans rfl
theorem p_179_29 (L : Nat) (xs : Nat → Int32) : ll_P L xs 179 29 = some (.inl (lo_bin 30 (fun x y => x + y))) := (P_179 L xs 29).trans rfl
theorem p_179_30 (L : Nat) (xs : Nat → Int32) : ll_P L xs 179 30 = some (.inl (lo_istore 32 5)) := (P_179 L xs 30).trans rfl
theorem p_179_32 (L : Nat) (xs : Nat → Int32) : ll_P L xs 179 32 = some (.inl (lo_aload 33 0)) := (P_179 L xs 32).trans rfl
theorem p_179_33 (L : Nat) (xs : Nat → Int32) : ll_P L xs 179 33 = some (.inl (lo_getf 36 11 36)) := (P_179 L xs 33).trans rfl
theorem p_179_36 (L : Nat) (xs : Nat → Int32) : ll_P L xs 179 36 = some (.inl (lo_iload 38 5)) := (P_179 L xs 36).trans rfl
theorem p_179_38 (L : Nat) (xs : Nat → Int32) : ll_P L xs 179 38 = some (.inl (lo_push 39 (.int 0))) := (P_179 L xs 38).trans rfl
theorem p_179_39 (L : Nat) (xs : Nat → Int32) : ll_P L xs 179 39 = some (.inl (lo_ast 40 0)) := (P_179 L xs 39).trans rfl
theorem p_179_40 (L : Nat) (xs : Nat → Int32) : ll_P L xs 179 40 = some (.inl (lo_aload 41 0)) := (P_179 L xs 40).trans rfl
theorem p_179_41 (L : Nat) (xs : Nat → Int32) : ll_P L xs 179 41 = some (.inl (lo_getf 44 11 38)) := (P_179 L xs 41).trans rfl
theorem p_179_44 (L : Nat) (xs : Nat → Int32) : ll_P L xs 179 44 = some (.inl (lo_iload 46 5)) := (P_179 L xs 44).trans rfl
theorem p_179_46 (L : Nat) (xs : Nat → Int32) : ll_P L xs 179 46 = some (.inl (lo_aload 47 0)) := (P_179 L xs 46).trans rfl
theorem p_179_47 (L : Nat) (xs : Nat → Int32) : ll_P L xs 179 47 = some (.inl (lo_getf 50 11 15)) := (P_179 L xs 47).trans rfl
theorem p_179_50 (L : Nat) (xs : Nat → Int32) : ll_P L xs 179 50 = some (.inl (lo_push 51 (.int 3))) := (P_179 L xs 50).trans rfl
theorem p_179_51 (L : Nat) (xs : Nat → Int32) : ll_P L xs 179 51 = some (.inl (lo_iload 53 4)) := (P_179 L xs 51).trans rfl
theorem p_179_53 (L : Nat) (xs : Nat → Int32) : ll_P L xs 179 53 = some (.inl (lo_bin 54 (fun x y => x * y))) := (P_179 L xs 53).trans rfl
theorem p_179_54 (L : Nat) (xs : Nat → Int32) : ll_P L xs 179 54 = some (.inl (lo_iload 55 3)) := (P_179 L xs 54).trans rfl
theorem p_179_55 (L : Nat) (xs : Nat → Int32) : ll_P L xs 179 55 = some (.inl (lo_bin 56 (fun x y => x + y))) := (P_179 L xs 55).trans rfl
theorem p_179_56 (L : Nat) (xs : Nat → Int32) : ll_P L xs 179 56 = some (.inl (lo_ald 57 0)) := (P_179 L xs 56).trans rfl
theorem p_179_57 (L : Nat) (xs : Nat → Int32) : ll_P L xs 179 57 = some (.inl (lo_ast 58 0)) := (P_179 L xs 57).trans rfl
theorem p_179_58 (L : Nat) (xs : Nat → Int32) : ll_P L xs 179 58 = some (.inl (lo_push 59 (.int 0))) := (P_179 L xs 58).trans rfl
theorem p_179_59 (L : Nat) (xs : Nat → Int32) : ll_P L xs 179 59 = some (.inl (lo_istore 61 6)) := (P_179 L xs 59).trans rfl
theorem p_179_61 (L : Nat) (xs : Nat → Int32) : ll_P L xs 179 61 = some (.inl (lo_iload 63 6)) := (P_179 L xs 61).trans rfl
theorem p_179_63 (L : Nat) (xs : Nat → Int32) : ll_P L xs 179 63 = some (.inl (lo_aload 64 0)) := (P_179 L xs 63).trans rfl
theorem p_179_64 (L : Nat) (xs : Nat → Int32) : ll_P L xs 179 64 = some (.inl (lo_getf 67 11 15)) := (P_179 L xs 64).trans rfl
theorem p_179_67 (L : Nat) (xs : Nat → Int32) : ll_P L xs 179 67 = some (.inl (lo_push 68 (.int 3))) := (P_179 L xs 67).trans rfl
theorem p_179_68 (L : Nat) (xs : Nat → Int32) : ll_P L xs 179 68 = some (.inl (lo_iload 70 4)) := (P_179 L xs 68).trans rfl
theorem p_179_70 (L : Nat) (xs : Nat → Int32) : ll_P L xs 179 70 = some (.inl (lo_bin 71 (fun x y => x * y))) := (P_179 L xs 70).trans rfl
theorem p_179_71 (L : Nat) (xs : Nat → Int32) : ll_P L xs 179 71 = some (.inl (lo_iload 72 3)) := (P_179 L xs 71).trans rfl
theorem p_179_72 (L : Nat) (xs : Nat → Int32) : ll_P L xs 179 72 = some (.inl (lo_bin 73 (fun x y => x + y))) := (P_179 L xs 72).trans rfl
theorem p_179_73 (L : Nat) (xs : Nat → Int32) : ll_P L xs 179 73 = some (.inl (lo_ald 74 0)) := (P_179 L xs 73).trans rfl
theorem p_179_74 (L : Nat) (xs : Nat → Int32) : ll_P L xs 179 74 = some (.inl (lo_cmp 170 77 (fun x y => decide (y ≤ x)))) := (P_179 L xs 74).trans rfl
theorem p_179_77 (L : Nat) (xs : Nat → Int32) : ll_P L xs 179 77 = some (.inl (lo_aload 78 0)) := (P_179 L xs 77).trans rfl
theorem p_179_78 (L : Nat) (xs : Nat → Int32) : ll_P L xs 179 78 = some (.inl (lo_iload 80 4)) := (P_179 L xs 78).trans rfl
theorem p_179_80 (L : Nat) (xs : Nat → Int32) : ll_P L xs 179 80 = some (.inl (lo_iload 81 3)) := (P_179 L xs 80).trans rfl
theorem p_179_81 (L : Nat) (xs : Nat → Int32) : ll_P L xs 179 81 = some (.inl (lo_iload 83 6)) := (P_179 L xs 81).trans rfl
theorem p_179_83 (L : Nat) (xs : Nat → Int32) : ll_P L xs 179 83 = some (.inr (.inl (173, 4, 86))) := (P_179 L xs 83).trans rfl
theorem p_179_86 (L : Nat) (xs : Nat → Int32) : ll_P L xs 179 86 = some (.inl (lo_istore 88 7)) := (P_179 L xs 86).trans rfl
theorem p_179_88 (L : Nat) (xs : Nat → Int32) : ll_P L xs 179 88 = some (.inl (lo_aload 89 0)) := (P_179 L xs 88).trans rfl
theorem p_179_89 (L : Nat) (xs : Nat → Int32) : ll_P L xs 179 89 = some (.inl (lo_iload 90 1)) := (P_179 L xs 89).trans rfl
theorem p_179_90 (L : Nat) (xs : Nat → Int32) : ll_P L xs 179 90 = some (.inl (lo_iload 92 7)) := (P_179 L xs 90).trans rfl
theorem p_179_92 (L : Nat) (xs : Nat → Int32) : ll_P L xs 179 92 = some (.inr (.inl (177, 3, 95))) := (P_179 L xs 92).trans rfl
theorem p_179_95 (L : Nat) (xs : Nat → Int32) : ll_P L xs 179 95 = some (.inl (lo_istore 97 8)) := (P_179 L xs 95).trans rfl
theorem p_179_97 (L : Nat) (xs : Nat → Int32) : ll_P L xs 179 97 = some (.inl (lo_iload 99 8)) := (P_179 L xs 97).trans rfl
theorem p_179_99 (L : Nat) (xs : Nat → Int32) : ll_P L xs 179 99 = some (.inl (lo_push 100 (.int (-1)))) := (P_179 L xs 99).trans rfl
theorem p_179_100 (L : Nat) (xs : Nat → Int32) : ll_P L xs 179 100 = some (.inl (lo_cmp 135 103 (fun x y => decide (¬ x = y)))) := (P_179 L xs 100).trans rfl
theorem p_179_103 (L : Nat) (xs : Nat → Int32) : ll_P L xs 179 103 = some (.inl (lo_aload 104 0)) := (P_179 L xs 103).trans rfl
theorem p_179_104 (L : Nat) (xs : Nat → Int32) : ll_P L xs 179 104 = some (.inl (lo_getf 107 11 35)) := (P_179 L xs 104).trans rfl
theorem p_179_107 (L : Nat) (xs : Nat → Int32) : ll_P L xs 179 107 = some (.inl (lo_iload 108 1)) := (P_179 L xs 107).trans rfl
theorem p_179_108 (L : Nat) (xs : Nat → Int32) : ll_P L xs 179 108 = some (.inl (lo_ald 109 0)) := (P_179 L xs 108).trans rfl
theorem p_179_109 (L : Nat) (xs : Nat → Int32) : ll_P L xs 179 109 = some (.inl (lo_istore 111 8)) := (P_179 L xs 109).trans rfl
theorem p_179_111 (L : Nat) (xs : Nat → Int32) : ll_P L xs 179 111 = some (.inl (lo_aload 112 0)) := (P_179 L xs 111).trans rfl
theorem p_179_112 (L : Nat) (xs : Nat → Int32) : ll_P L xs 179 112 = some (.inl (lo_getf 115 11 34)) := (P_179 L xs 112).trans rfl
theorem p_179_115 (L : Nat) (xs : Nat → Int32) : ll_P L xs 179 115 = some (.inl (lo_push 117 (.int 31))) := (P_179 L xs 115).trans rfl
theorem p_179_117 (L : Nat) (xs : Nat → Int32) : ll_P L xs 179 117 = some (.inl (lo_iload 118 1)) := (P_179 L xs 117).trans rfl
theorem p_179_118 (L : Nat) (xs : Nat → Int32) : ll_P L xs 179 118 = some (.inl (lo_bin 119 (fun x y => x * y))) := (P_179 L xs 118).trans rfl
theorem p_179_119 (L : Nat) (xs : Nat → Int32) : ll_P L xs 179 119 = some (.inl (lo_iload 121 8)) := (P_179 L xs 119).trans rfl
theorem p_179_121 (L : Nat) (xs : Nat → Int32) : ll_P L xs 179 121 = some (.inl (lo_bin 122 (fun x y => x + y))) := (P_179 L xs 121).trans rfl
theorem p_179_122 (L : Nat) (xs : Nat → Int32) : ll_P L xs 179 122 = some (.inl (lo_iload 124 7)) := (P_179 L xs 122).trans rfl
theorem p_179_124 (L : Nat) (xs : Nat → Int32) : ll_P L xs 179 124 = some (.inl (lo_ast 125 0)) := (P_179 L xs 124).trans rfl
theorem p_179_125 (L : Nat) (xs : Nat → Int32) : ll_P L xs 179 125 = some (.inl (lo_aload 126 0)) := (P_179 L xs 125).trans rfl
theorem p_179_126 (L : Nat) (xs : Nat → Int32) : ll_P L xs 179 126 = some (.inl (lo_getf 129 11 35)) := (P_179 L xs 126).trans rfl
theorem p_179_129 (L : Nat) (xs : Nat → Int32) : ll_P L xs 179 129 = some (.inl (lo_iload 130 1)) := (P_179 L xs 129).trans rfl
theorem p_179_130 (L : Nat) (xs : Nat → Int32) : ll_P L xs 179 130 = some (.inl (lo_dup2 131)) := (P_179 L xs 130).trans rfl
theorem p_179_131 (L : Nat) (xs : Nat → Int32) : ll_P L xs 179 131 = some (.inl (lo_ald 132 0)) := (P_179 L xs 131).trans rfl
theorem p_179_132 (L : Nat) (xs : Nat → Int32) : ll_P L xs 179 132 = some (.inl (lo_push 133 (.int 1))) := (P_179 L xs 132).trans rfl
theorem p_179_133 (L : Nat) (xs : Nat → Int32) : ll_P L xs 179 133 = some (.inl (lo_bin 134 (fun x y => x + y))) := (P_179 L xs 133).trans rfl
theorem p_179_134 (L : Nat) (xs : Nat → Int32) : ll_P L xs 179 134 = some (.inl (lo_ast 135 0)) := (P_179 L xs 134).trans rfl
theorem p_179_135 (L : Nat) (xs : Nat → Int32) : ll_P L xs 179 135 = some (.inl (lo_aload 136 0)) := (P_179 L xs 135).trans rfl
theorem p_179_136 (L : Nat) (xs : Nat → Int32) : ll_P L xs 179 136 = some (.inl (lo_getf 139 11 37)) := (P_179 L xs 136).trans rfl
theorem p_179_139 (L : Nat) (xs : Nat → Int32) : ll_P L xs 179 139 = some (.inl (lo_push 141 (.int 31))) := (P_179 L xs 139).trans rfl
theorem p_179_141 (L : Nat) (xs : Nat → Int32) : ll_P L xs 179 141 = some (.inl (lo_iload 143 5)) := (P_179 L xs 141).trans rfl
theorem p_179_143 (L : Nat) (xs : Nat → Int32) : ll_P L xs 179 143 = some (.inl (lo_bin 144 (fun x y => x * y))) := (P_179 L xs 143).trans rfl
theorem p_179_144 (L : Nat) (xs : Nat → Int32) : ll_P L xs 179 144 = some (.inl (lo_iload 146 6)) := (P_179 L xs 144).trans rfl
theorem p_179_146 (L : Nat) (xs : Nat → Int32) : ll_P L xs 179 146 = some (.inl (lo_bin 147 (fun x y => x + y))) := (P_179 L xs 146).trans rfl
theorem p_179_147 (L : Nat) (xs : Nat → Int32) : ll_P L xs 179 147 = some (.inl (lo_iload 149 8)) := (P_179 L xs 147).trans rfl
theorem p_179_149 (L : Nat) (xs : Nat → Int32) : ll_P L xs 179 149 = some (.inl (lo_ast 150 0)) := (P_179 L xs 149).trans rfl
theorem p_179_150 (L : Nat) (xs : Nat → Int32) : ll_P L xs 179 150 = some (.inl (lo_aload 151 0)) := (P_179 L xs 150).trans rfl
theorem p_179_151 (L : Nat) (xs : Nat → Int32) : ll_P L xs 179 151 = some (.inl (lo_getf 154 11 36)) := (P_179 L xs 151).trans rfl
theorem p_179_154 (L : Nat) (xs : Nat → Int32) : ll_P L xs 179 154 = some (.inl (lo_iload 156 5)) := (P_179 L xs 154).trans rfl
theorem p_179_156 (L : Nat) (xs : Nat → Int32) : ll_P L xs 179 156 = some (.inl (lo_dup2 157)) := (P_179 L xs 156).trans rfl
theorem p_179_157 (L : Nat) (xs : Nat → Int32) : ll_P L xs 179 157 = some (.inl (lo_ald 158 0)) := (P_179 L xs 157).trans rfl
theorem p_179_158 (L : Nat) (xs : Nat → Int32) : ll_P L xs 179 158 = some (.inl (lo_push 159 (.int 1))) := (P_179 L xs 158).trans rfl
theorem p_179_159 (L : Nat) (xs : Nat → Int32) : ll_P L xs 179 159 = some (.inl (lo_iload 161 8)) := (P_179 L xs 159).trans rfl
theorem p_179_161 (L : Nat) (xs : Nat → Int32) : ll_P L xs 179 161 = some (.inl (lo_bin 162 (fun x y => x <<< (y &&& 31)))) := (P_179 L xs 161).trans rfl
theorem p_179_162 (L : Nat) (xs : Nat → Int32) : ll_P L xs 179 162 = some (.inl (lo_bin 163 (fun x y => x ||| y))) := (P_179 L xs 162).trans rfl
theorem p_179_163 (L : Nat) (xs : Nat → Int32) : ll_P L xs 179 163 = some (.inl (lo_ast 164 0)) := (P_179 L xs 163).trans rfl
theorem p_179_164 (L : Nat) (xs : Nat → Int32) : ll_P L xs 179 164 = some (.inl (lo_iinc 167 6 1)) := (P_179 L xs 164).trans rfl
theorem p_179_167 (L : Nat) (xs : Nat → Int32) : ll_P L xs 179 167 = some (.inl (lo_goto 61)) := (P_179 L xs 167).trans rfl
theorem p_179_170 (L : Nat) (xs : Nat → Int32) : ll_P L xs 179 170 = some (.inr (.inr 0)) := (P_179 L xs 170).trans rfl
theorem b_179_0 {Y : sY} {d : Nat} {s : sT} {K : Option Int32 → sT → Prop} {r0 : Nat} {x1 : Int32} {x2 : Int32} {x3 : Int32} (h : (∃ a1, (isO Y r0 11 ∧ s.2 r0 34 = some a1) ∧ (∃ m3, (isA Y a1 0 m3 ∧ inR (((31 : Int32) * x1) + x2) m3) ∧ (isO Y r0 11 ∧ tT Y d 176 0 [.ref r0, .int (s.1 a1 ((((31 : Int32) * x1) + x2)).toNatClampNeg), .int x3, .null, .null] [] s (fun r s1 => tT Y (d + 1) 179 20 [.ref r0, .int x1, .int x2, .int x3, .int (s.1 a1 ((((31 : Int32) * x1) + x2)).toNatClampNeg), .null, .null, .null, .null] ((r.map Value.int).toList ++ []) s1 K))))) : tT Y (d + 1) 179 0 [.ref r0, .int x1, .int x2, .int x3, .null, .null, .null, .null, .null] [] s K :=
  (tt_aload (p_179_0 _ _) rfl).mpr (Exists.elim h (fun a1 h2 => t3_getr (p_179_1 _ _) (isI_11_34) h2.1.1 h2.1.2 ((tt_push (p_179_4 _ _)).mpr ((tt_iload (p_179_6 _ _) rfl).mpr ((tt_bin (p_179_7 _ _)).mpr ((tt_iload (p_179_8 _ _) rfl).mpr ((tt_bin (p_179_9 _ _)).mpr (Exists.elim h2.2 (fun m3 h4 => t3_ald (p_179_10 _ _) h4.1.1 h4.1.2 ((tt_istore (p_179_11 _ _) (Nat.le_of_ble_eq_true rfl) rfl rfl).mpr ((tt_aload (p_179_13 _ _) rfl).mpr ((tt_iload (p_179_14 _ _) rfl).mpr ((tt_iload (p_179_16 _ _) rfl).mpr (t2_callv (z := 176) (k := 3) (i := r0) (as := [.int (s.1 a1 ((((31 : Int32) * x1) + x2)).toNatClampNeg), .int x3]) (rest := []) (p_179_17 _ _) mK_176 mL_176 rfl rfl (Nat.le_of_ble_eq_true rfl) rfl (Nat.le_of_ble_eq_true rfl) h4.2.1 h4.2.2))))))))))))))
theorem b_179_20 {Y : sY} {d : Nat} {s : sT} {K : Option Int32 → sT → Prop} {r0 : Nat} {x1 : Int32} {x2 : Int32} {x3 : Int32} {x4 : Int32} (h : (∃ a1, (isO Y r0 11 ∧ s.2 r0 36 = some a1) ∧ (∃ m3, (isA Y a1 0 m3 ∧ inR (((3 : Int32) * (((31 : Int32) * x1) + x2)) + x3) m3) ∧ (∃ a5, (isO Y r0 11 ∧ (pV s a1 ((((3 : Int32) * (((31 : Int32) * x1) + x2)) + x3)).toNatClampNeg (0 : Int32)).2 r0 38 = some a5) ∧ (∃ a7, (isO Y r0 11 ∧ (pV s a1 ((((3 : Int32) * (((31 : Int32) * x1) + x2)) + x3)).toNatClampNeg (0 : Int32)).2 r0 15 = some a7) ∧ (∃ m9, (isA Y a7 0 m9 ∧ inR (((3 : Int32) * x4) + x3) m9) ∧ (∃ m11, (isA Y a5 0 m11 ∧ inR (((3 : Int32) * (((31 : Int32) * x1) + x2)) + x3) m11) ∧ tT Y (d + 1) 179 61 [.ref r0, .int x1, .int x2, .int x3, .int x4, .int (((3 : Int32) * (((31 : Int32) * x1) + x2)) + x3), .int (0 : Int32), .null, .null] [] (pV (pV s a1 ((((3 : Int32) * (((31 : Int32) * x1) + x2)) + x3)).toNatClampNeg (0 : Int32)) a5 ((((3 : Int32) * (((31 : Int32) * x1) + x2)) + x3)).toNatClampNeg ((pV s a1 ((((3 : Int32) * (((31 : Int32) * x1) + x2)) + x3)).toNatClampNeg (0 : Int32)).1 a7 ((((3 : Int32) * x4) + x3)).toNatClampNeg)) K))))))) : tT Y (d + 1) 179 20 [.ref r0, .int x1, .int x2, .int x3, .int x4, .null, .null, .null, .null] [] s K :=
  (tt_push (p_179_20 _ _)).mpr ((tt_push (p_179_21 _ _)).mpr ((tt_iload (p_179_23 _ _) rfl).mpr ((tt_bin (p_179_24 _ _)).mpr ((tt_iload (p_179_25 _ _) rfl).mpr ((tt_bin (p_179_26 _ _)).mpr ((tt_bin (p_179_27 _ _)).mpr ((tt_iload (p_179_28 _ _) rfl).mpr ((tt_bin (p_179_29 _ _)).mpr ((tt_istore (p_179_30 _ _) (Nat.le_of_ble_eq_true rfl) rfl rfl).mpr ((tt_aload (p_179_32 _ _) rfl).mpr (Exists.elim h (fun a1 h2 => t3_getr (p_179_33 _ _) (isI_11_36) h2.1.1 h2.1.2 ((tt_iload (p_179_36 _ _) rfl).mpr ((tt_push (p_179_38 _ _)).mpr (Exists.elim h2.2 (fun m3 h4 => t3_ast (p_179_39 _ _) h4.1.1 h4.1.2 ((tt_aload (p_179_40 _ _) rfl).mpr (Exists.elim h4.2 (fun a5 h6 => t3_getr (p_179_41 _ _) (isI_11_38) h6.1.1 h6.1.2 ((tt_iload (p_179_44 _ _) rfl).mpr ((tt_aload (p_179_46 _ _) rfl).mpr (Exists.elim h6.2 (fun a7 h8 => t3_getr (p_179_47 _ _) (isI_11_15) h8.1.1 h8.1.2 ((tt_push (p_179_50 _ _)).mpr ((tt_iload (p_179_51 _ _) rfl).mpr ((tt_bin (p_179_53 _ _)).mpr ((tt_iload (p_179_54 _ _) rfl).mpr ((tt_bin (p_179_55 _ _)).mpr (Exists.elim h8.2 (fun m9 h10 => t3_ald (p_179_56 _ _) h10.1.1 h10.1.2 (Exists.elim h10.2 (fun m11 h12 => t3_ast (p_179_57 _ _) h12.1.1 h12.1.2 ((tt_push (p_179_58 _ _)).mpr ((tt_istore (p_179_59 _ _) (Nat.le_of_ble_eq_true rfl) rfl rfl).mpr (h12.2)))))))))))))))))))))))))))))))))))
theorem b_179_61 {Y : sY} {d : Nat} {s : sT} {K : Option Int32 → sT → Prop} {r0 : Nat} {x1 : Int32} {x2 : Int32} {x3 : Int32} {x4 : Int32} {x5 : Int32} {x6 : Int32} {u7 : Value} {u8 : Value} (h : (∃ a1, (isO Y r0 11 ∧ s.2 r0 15 = some a1) ∧ (∃ m3, (isA Y a1 0 m3 ∧ inR (((3 : Int32) * x4) + x3) m3) ∧ (if (s.1 a1 ((((3 : Int32) * x4) + x3)).toNatClampNeg) ≤ x6 then K none s else (isO Y r0 11 ∧ tT Y d 173 0 [.ref r0, .int x4, .int x3, .int x6] [] s (fun r s1 => tT Y (d + 1) 179 86 [.ref r0, .int x1, .int x2, .int x3, .int x4, .int x5, .int x6, u7, u8] ((r.map Value.int).toList ++ []) s1 K)))))) : tT Y (d + 1) 179 61 [.ref r0, .int x1, .int x2, .int x3, .int x4, .int x5, .int x6, u7, u8] [] s K :=
  (tt_iload (p_179_61 _ _) rfl).mpr ((tt_aload (p_179_63 _ _) rfl).mpr (Exists.elim h (fun a1 h2 => t3_getr (p_179_64 _ _) (isI_11_15) h2.1.1 h2.1.2 ((tt_push (p_179_67 _ _)).mpr ((tt_iload (p_179_68 _ _) rfl).mpr ((tt_bin (p_179_70 _ _)).mpr ((tt_iload (p_179_71 _ _) rfl).mpr ((tt_bin (p_179_72 _ _)).mpr (Exists.elim h2.2 (fun m3 h4 => t3_ald (p_179_73 _ _) h4.1.1 h4.1.2 (t3_cmp (p := (s.1 a1 ((((3 : Int32) * x4) + x3)).toNatClampNeg) ≤ x6) (p_179_74 _ _) rfl (fun g5 => tt_ret0 (p_179_170 _ _) (ifp h4.2 g5)) (fun g5 => (tt_aload (p_179_77 _ _) rfl).mpr ((tt_iload (p_179_78 _ _) rfl).mpr ((tt_iload (p_179_80 _ _) rfl).mpr ((tt_iload (p_179_81 _ _) rfl).mpr (t2_callv (z := 173) (k := 4) (i := r0) (as := [.int x4, .int x3, .int x6]) (rest := []) (p_179_83 _ _) mK_173 mL_173 rfl rfl (Nat.le_of_ble_eq_true rfl) rfl (Nat.le_of_ble_eq_true rfl) (ifn h4.2 g5).1 (ifn h4.2 g5).2))))))))))))))))
theorem b_179_86 {Y : sY} {d : Nat} {s : sT} {K : Option Int32 → sT → Prop} {r0 : Nat} {x1 : Int32} {x2 : Int32} {x3 : Int32} {x4 : Int32} {x5 : Int32} {x6 : Int32} {u7 : Value} {u8 : Value} {t0 : Int32} (h : (isO Y r0 11 ∧ tT Y d 177 0 [.ref r0, .int x1, .int t0, .null] [] s (fun r s1 => tT Y (d + 1) 179 95 [.ref r0, .int x1, .int x2, .int x3, .int x4, .int x5, .int x6, .int t0, u8] ((r.map Value.int).toList ++ []) s1 K))) : tT Y (d + 1) 179 86 [.ref r0, .int x1, .int x2, .int x3, .int x4, .int x5, .int x6, u7, u8] [.int t0] s K :=
  (tt_istore (p_179_86 _ _) (Nat.le_of_ble_eq_true rfl) rfl rfl).mpr ((tt_aload (p_179_88 _ _) rfl).mpr ((tt_iload (p_179_89 _ _) rfl).mpr ((tt_iload (p_179_90 _ _) rfl).mpr (t2_callv (z := 177) (k := 3) (i := r0) (as := [.int x1, .int t0]) (rest := []) (p_179_92 _ _) mK_177 mL_177 rfl rfl (Nat.le_of_ble_eq_true rfl) rfl (Nat.le_of_ble_eq_true rfl) h.1 h.2))))
theorem b_179_95 {Y : sY} {d : Nat} {s : sT} {K : Option Int32 → sT → Prop} {r0 : Nat} {x1 : Int32} {x2 : Int32} {x3 : Int32} {x4 : Int32} {x5 : Int32} {x6 : Int32} {x7 : Int32} {u8 : Value} {t0 : Int32} (h : (if ¬ t0 = (-1 : Int32) then tT Y (d + 1) 179 135 [.ref r0, .int x1, .int x2, .int x3, .int x4, .int x5, .int x6, .int x7, .int t0] [] s K else (∃ a2, (isO Y r0 11 ∧ s.2 r0 35 = some a2) ∧ (∃ m4, (isA Y a2 0 m4 ∧ inR x1 m4) ∧ (∃ a6, (isO Y r0 11 ∧ s.2 r0 34 = some a6) ∧ (∃ m8, (isA Y a6 0 m8 ∧ inR (((31 : Int32) * x1) + (s.1 a2 (x1).toNatClampNeg)) m8) ∧ (∃ a10, (isO Y r0 11 ∧ (pV s a6 ((((31 : Int32) * x1) + (s.1 a2 (x1).toNatClampNeg))).toNatClampNeg x7).2 r0 35 = some a10) ∧ (∃ m12, (isA Y a10 0 m12 ∧ inR x1 m12) ∧ (∃ m14, (isA Y a10 0 m14 ∧ inR x1 m14) ∧ tT Y (d + 1) 179 135 [.ref r0, .int x1, .int x2, .int x3, .int x4, .int x5, .int x6, .int x7, .int (s.1 a2 (x1).toNatClampNeg)] [] (pV (pV s a6 ((((31 : Int32) * x1) + (s.1 a2 (x1).toNatClampNeg))).toNatClampNeg x7) a10 (x1).toNatClampNeg (((pV s a6 ((((31 : Int32) * x1) + (s.1 a2 (x1).toNatClampNeg))).toNatClampNeg x7).1 a10 (x1).toNatClampNeg) + (1 : Int32))) K))))))))) : tT Y (d + 1) 179 95 [.ref r0, .int x1, .int x2, .int x3, .int x4, .int x5, .int x6, .int x7, u8] [.int t0] s K :=
  (tt_istore (p_179_95 _ _) (Nat.le_of_ble_eq_true rfl) rfl rfl).mpr ((tt_iload (p_179_97 _ _) rfl).mpr ((tt_push (p_179_99 _ _)).mpr (t3_cmp (p := ¬ t0 = (-1 : Int32)) (p_179_100 _ _) rfl (fun g1 => (ifp h g1)) (fun g1 => (tt_aload (p_179_103 _ _) rfl).mpr (Exists.elim (ifn h g1) (fun a2 h3 => t3_getr (p_179_104 _ _) (isI_11_35) h3.1.1 h3.1.2 ((tt_iload (p_179_107 _ _) rfl).mpr (Exists.elim h3.2 (fun m4 h5 => t3_ald (p_179_108 _ _) h5.1.1 h5.1.2 ((tt_istore (p_179_109 _ _) (Nat.le_of_ble_eq_true rfl) rfl rfl).mpr ((tt_aload (p_179_111 _ _) rfl).mpr (Exists.elim h5.2 (fun a6 h7 => t3_getr (p_179_112 _ _) (isI_11_34) h7.1.1 h7.1.2 ((tt_push (p_179_115 _ _)).mpr ((tt_iload (p_179_117 _ _) rfl).mpr ((tt_bin (p_179_118 _ _)).mpr ((tt_iload (p_179_119 _ _) rfl).mpr ((tt_bin (p_179_121 _ _)).mpr ((tt_iload (p_179_122 _ _) rfl).mpr (Exists.elim h7.2 (fun m8 h9 => t3_ast (p_179_124 _ _) h9.1.1 h9.1.2 ((tt_aload (p_179_125 _ _) rfl).mpr (Exists.elim h9.2 (fun a10 h11 => t3_getr (p_179_126 _ _) (isI_11_35) h11.1.1 h11.1.2 ((tt_iload (p_179_129 _ _) rfl).mpr ((tt_dup2 (p_179_130 _ _)).mpr (Exists.elim h11.2 (fun m12 h13 => t3_ald (p_179_131 _ _) h13.1.1 h13.1.2 ((tt_push (p_179_132 _ _)).mpr ((tt_bin (p_179_133 _ _)).mpr (Exists.elim h13.2 (fun m14 h15 => t3_ast (p_179_134 _ _) h15.1.1 h15.1.2 (h15.2)))))))))))))))))))))))))))))))))
theorem b_179_135 {Y : sY} {d : Nat} {s : sT} {K : Option Int32 → sT → Prop} {r0 : Nat} {x1 : Int32} {x2 : Int32} {x3 : Int32} {x4 : Int32} {x5 : Int32} {x6 : Int32} {x7 : Int32} {x8 : Int32} (h : (∃ a1, (isO Y r0 11 ∧ s.2 r0 37 = some a1) ∧ (∃ m3, (isA Y a1 0 m3 ∧ inR (((31 : Int32) * x5) + x6) m3) ∧ (∃ a5, (isO Y r0 11 ∧ (pV s a1 ((((31 : Int32) * x5) + x6)).toNatClampNeg x8).2 r0 36 = some a5) ∧ (∃ m7, (isA Y a5 0 m7 ∧ inR x5 m7) ∧ (∃ m9, (isA Y a5 0 m9 ∧ inR x5 m9) ∧ tT Y (d + 1) 179 61 [.ref r0, .int x1, .int x2, .int x3, .int x4, .int x5, .int (x6 + 1), .int x7, .int x8] [] (pV (pV s a1 ((((31 : Int32) * x5) + x6)).toNatClampNeg x8) a5 (x5).toNatClampNeg (((pV s a1 ((((31 : Int32) * x5) + x6)).toNatClampNeg x8).1 a5 (x5).toNatClampNeg) ||| ((1 : Int32) <<< (x8 &&& 31)))) K)))))) : tT Y (d + 1) 179 135 [.ref r0, .int x1, .int x2, .int x3, .int x4, .int x5, .int x6, .int x7, .int x8] [] s K :=
  (tt_aload (p_179_135 _ _) rfl).mpr (Exists.elim h (fun a1 h2 => t3_getr (p_179_136 _ _) (isI_11_37) h2.1.1 h2.1.2 ((tt_push (p_179_139 _ _)).mpr ((tt_iload (p_179_141 _ _) rfl).mpr ((tt_bin (p_179_143 _ _)).mpr ((tt_iload (p_179_144 _ _) rfl).mpr ((tt_bin (p_179_146 _ _)).mpr ((tt_iload (p_179_147 _ _) rfl).mpr (Exists.elim h2.2 (fun m3 h4 => t3_ast (p_179_149 _ _) h4.1.1 h4.1.2 ((tt_aload (p_179_150 _ _) rfl).mpr (Exists.elim h4.2 (fun a5 h6 => t3_getr (p_179_151 _ _) (isI_11_36) h6.1.1 h6.1.2 ((tt_iload (p_179_154 _ _) rfl).mpr ((tt_dup2 (p_179_156 _ _)).mpr (Exists.elim h6.2 (fun m7 h8 => t3_ald (p_179_157 _ _) h8.1.1 h8.1.2 ((tt_push (p_179_158 _ _)).mpr ((tt_iload (p_179_159 _ _) rfl).mpr ((tt_bin (p_179_161 _ _)).mpr ((tt_bin (p_179_162 _ _)).mpr (Exists.elim h8.2 (fun m9 h10 => t3_ast (p_179_163 _ _) h10.1.1 h10.1.2 ((tt_iinc (p_179_164 _ _) rfl rfl rfl).mpr ((tt_goto (p_179_167 _ _)).mpr (h10.2))))))))))))))))))))))))))
/-! InclusionProverModel.laysBoth.(II)V -/
theorem p_180_0 (L : Nat) (xs : Nat → Int32) : ll_P L xs 180 0 = some (.inl (lo_aload 1 0)) := (P_180 L xs 0).trans rfl
theorem p_180_1 (L : Nat) (xs : Nat → Int32) : ll_P L xs 180 1 = some (.inr (.inl (153, 1, 4))) := (P_180 L xs 1).trans rfl
theorem p_180_4 (L : Nat) (xs : Nat → Int32) : ll_P L xs 180 4 = some (.inl (lo_aload 5 0)) := (P_180 L xs 4).trans rfl
theorem p_180_5 (L : Nat) (xs : Nat → Int32) : ll_P L xs 180 5 = some (.inl (lo_aload 6 0)) := (P_180 L xs 5).trans rfl
theorem p_180_6 (L : Nat) (xs : Nat → Int32) : ll_P L xs 180 6 = some (.inl (lo_getf 9 11 0)) := (P_180 L xs 6).trans rfl
theorem p_180_9 (L : Nat) (xs : Nat → Int32) : ll_P L xs 180 9 = some (.inl (lo_iload 10 1)) := (P_180 L xs 9).trans rfl
theorem p_180_10 (L : Nat) (xs : Nat → Int32) : ll_P L xs 180 10 = some (.inl (lo_push 11 (.int 1))) := (P_180 L xs 10).trans rfl
theorem p_180_11 (L : Nat) (xs : Nat → Int32) : ll_P L xs 180 11 = some (.inl (lo_bin 12 (fun x y => x + y))) := (P_180 L xs 11).trans rfl
theorem p_180_12 (L : Nat) (xs : Nat → Int32) : ll_P L xs 180 12 = some (.inl (lo_aload 13 0)) := (P_180 L xs 12).trans rfl
theorem p_180_13 (L : Nat) (xs : Nat → Int32) : ll_P L xs 180 13 = some (.inl (lo_getf 16 11 0)) := (P_180 L xs 13).trans rfl
theorem p_180_16 (L : Nat) (xs : Nat → Int32) : ll_P L xs 180 16 = some (.inl (lo_iload 17 1)) := (P_180 L xs 16).trans rfl
theorem p_180_17 (L : Nat) (xs : Nat → Int32) : ll_P L xs 180 17 = some (.inl (lo_ald 18 0)) := (P_180 L xs 17).trans rfl
theorem p_180_18 (L : Nat) (xs : Nat → Int32) : ll_P L xs 180 18 = some (.inr (.inl (166, 4, 21))) := (P_180 L xs 18).trans rfl
theorem p_180_21 (L : Nat) (xs : Nat → Int32) : ll_P L xs 180 21 = some (.inl (lo_istore 22 3)) := (P_180 L xs 21).trans rfl
theorem p_180_22 (L : Nat) (xs : Nat → Int32) : ll_P L xs 180 22 = some (.inl (lo_aload 23 0)) := (P_180 L xs 22).trans rfl
theorem p_180_23 (L : Nat) (xs : Nat → Int32) : ll_P L xs 180 23 = some (.inl (lo_aload 24 0)) := (P_180 L xs 23).trans rfl
theorem p_180_24 (L : Nat) (xs : Nat → Int32) : ll_P L xs 180 24 = some (.inl (lo_getf 27 11 0)) := (P_180 L xs 24).trans rfl
theorem p_180_27 (L : Nat) (xs : Nat → Int32) : ll_P L xs 180 27 = some (.inl (lo_iload 28 2)) := (P_180 L xs 27).trans rfl
theorem p_180_28 (L : Nat) (xs : Nat → Int32) : ll_P L xs 180 28 = some (.inl (lo_push 29 (.int 1))) := (P_180 L xs 28).trans rfl
theorem p_180_29 (L : Nat) (xs : Nat → Int32) : ll_P L xs 180 29 = some (.inl (lo_bin 30 (fun x y => x + y))) := (P_180 L xs 29).trans rfl
theorem p_180_30 (L : Nat) (xs : Nat → Int32) : ll_P L xs 180 30 = some (.inl (lo_aload 31 0)) := (P_180 L xs 30).trans rfl
theorem p_180_31 (L : Nat) (xs : Nat → Int32) : ll_P L xs 180 31 = some (.inl (lo_getf 34 11 0)) := (P_180 L xs 31).trans rfl
theorem p_180_34 (L : Nat) (xs : Nat → Int32) : ll_P L xs 180 34 = some (.inl (lo_iload 35 2)) := (P_180 L xs 34).trans rfl
theorem p_180_35 (L : Nat) (xs : Nat → Int32) : ll_P L xs 180 35 = some (.inl (lo_ald 36 0)) := (P_180 L xs 35).trans rfl
theorem p_180_36 (L : Nat) (xs : Nat → Int32) : ll_P L xs 180 36 = some (.inr (.inl (166, 4, 39))) := (P_180 L xs 36).trans rfl
theorem p_180_39 (L : Nat) (xs : Nat → Int32) : ll_P L xs 180 39 = some (.inl (lo_istore 41 4)) := (P_180 L xs 39).trans rfl
theorem p_180_41 (L : Nat) (xs : Nat → Int32) : ll_P L xs 180 41 = some (.inl (lo_aload 42 0)) := (P_180 L xs 41).trans rfl
theorem p_180_42 (L : Nat) (xs : Nat → Int32) : ll_P L xs 180 42 = some (.inl (lo_push 43 (.int 0))) := (P_180 L xs 42).trans rfl
theorem p_180_43 (L : Nat) (xs : Nat → Int32) : ll_P L xs 180 43 = some (.inl (lo_iload 44 3)) := (P_180 L xs 43).trans rfl
theorem p_180_44 (L : Nat) (xs : Nat → Int32) : ll_P L xs 180 44 = some (.inr (.inl (178, 3, 47))) := (P_180 L xs 44).trans rfl
theorem p_180_47 (L : Nat) (xs : Nat → Int32) : ll_P L xs 180 47 = some (.inl (lo_aload 48 0)) := (P_180 L xs 47).trans rfl
theorem p_180_48 (L : Nat) (xs : Nat → Int32) : ll_P L xs 180 48 = some (.inl (lo_push 49 (.int 1))) := (P_180 L xs 48).trans rfl
theorem p_180_49 (L : Nat) (xs : Nat → Int32) : ll_P L xs 180 49 = some (.inl (lo_iload 51 4)) := (P_180 L xs 49).trans rfl
theorem p_180_51 (L : Nat) (xs : Nat → Int32) : ll_P L xs 180 51 = some (.inr (.inl (178, 3, 54))) := (P_180 L xs 51).trans rfl
theorem p_180_54 (L : Nat) (xs : Nat → Int32) : ll_P L xs 180 54 = some (.inr (.inr 0)) := (P_180 L xs 54).trans rfl
theorem b_180_0 {Y : sY} {d : Nat} {s : sT} {K : Option Int32 → sT → Prop} {r0 : Nat} {x1 : Int32} {x2 : Int32} (h : (isO Y r0 11 ∧ tT Y d 153 0 [.ref r0, .null] [] s (fun r s1 => tT Y (d + 1) 180 4 [.ref r0, .int x1, .int x2, .null, .null] ((r.map Value.int).toList ++ []) s1 K))) : tT Y (d + 1) 180 0 [.ref r0, .int x1, .int x2, .null, .null] [] s K :=
  (tt_aload (p_180_0 _ _) rfl).mpr (t2_callv (z := 153) (k := 1) (i := r0) (as := []) (rest := []) (p_180_1 _ _) mK_153 mL_153 rfl rfl (Nat.le_of_ble_eq_true rfl) rfl (Nat.le_of_ble_eq_true rfl) h.1 h.2)
theorem b_180_4 {Y : sY} {d : Nat} {s : sT} {K : Option Int32 → sT → Prop} {r0 : Nat} {x1 : Int32} {x2 : Int32} (h : (∃ a1, (isO Y r0 11 ∧ s.2 r0 0 = some a1) ∧ (∃ a3, (isO Y r0 11 ∧ s.2 r0 0 = some a3) ∧ (∃ m5, (isA Y a3 0 m5 ∧ inR x1 m5) ∧ (isO Y r0 11 ∧ tT Y d 166 0 [.ref r0, .ref a1, .int (x1 + (1 : Int32)), .int (s.1 a3 (x1).toNatClampNeg), .null, .null, .null, .null, .null] [] s (fun r s1 => tT Y (d + 1) 180 21 [.ref r0, .int x1, .int x2, .null, .null] ((r.map Value.int).toList ++ []) s1 K)))))) : tT Y (d + 1) 180 4 [.ref r0, .int x1, .int x2, .null, .null] [] s K :=
  (tt_aload (p_180_4 _ _) rfl).mpr ((tt_aload (p_180_5 _ _) rfl).mpr (Exists.elim h (fun a1 h2 => t3_getr (p_180_6 _ _) (isI_11_0) h2.1.1 h2.1.2 ((tt_iload (p_180_9 _ _) rfl).mpr ((tt_push (p_180_10 _ _)).mpr ((tt_bin (p_180_11 _ _)).mpr ((tt_aload (p_180_12 _ _) rfl).mpr (Exists.elim h2.2 (fun a3 h4 => t3_getr (p_180_13 _ _) (isI_11_0) h4.1.1 h4.1.2 ((tt_iload (p_180_16 _ _) rfl).mpr (Exists.elim h4.2 (fun m5 h6 => t3_ald (p_180_17 _ _) h6.1.1 h6.1.2 (t2_callv (z := 166) (k := 4) (i := r0) (as := [.ref a1, .int (x1 + (1 : Int32)), .int (s.1 a3 (x1).toNatClampNeg)]) (rest := []) (p_180_18 _ _) mK_166 mL_166 rfl rfl (Nat.le_of_ble_eq_true rfl) rfl (Nat.le_of_ble_eq_true rfl) h6.2.1 h6.2.2)))))))))))))
theorem b_180_21 {Y : sY} {d : Nat} {s : sT} {K : Option Int32 → sT → Prop} {r0 : Nat} {x1 : Int32} {x2 : Int32} {t0 : Int32} (h : (∃ a1, (isO Y r0 11 ∧ s.2 r0 0 = some a1) ∧ (∃ a3, (isO Y r0 11 ∧ s.2 r0 0 = some a3) ∧ (∃ m5, (isA Y a3 0 m5 ∧ inR x2 m5) ∧ (isO Y r0 11 ∧ tT Y d 166 0 [.ref r0, .ref a1, .int (x2 + (1 : Int32)), .int (s.1 a3 (x2).toNatClampNeg), .null, .null, .null, .null, .null] [] s (fun r s1 => tT Y (d + 1) 180 39 [.ref r0, .int x1, .int x2, .int t0, .null] ((r.map Value.int).toList ++ []) s1 K)))))) : tT Y (d + 1) 180 21 [.ref r0, .int x1, .int x2, .null, .null] [.int t0] s K :=
  (tt_istore (p_180_21 _ _) (Nat.le_of_ble_eq_true rfl) rfl rfl).mpr ((tt_aload (p_180_22 _ _) rfl).mpr ((tt_aload (p_180_23 _ _) rfl).mpr (Exists.elim h (fun a1 h2 => t3_getr (p_180_24 _ _) (isI_11_0) h2.1.1 h2.1.2 ((tt_iload (p_180_27 _ _) rfl).mpr ((tt_push (p_180_28 _ _)).mpr ((tt_bin (p_180_29 _ _)).mpr ((tt_aload (p_180_30 _ _) rfl).mpr (Exists.elim h2.2 (fun a3 h4 => t3_getr (p_180_31 _ _) (isI_11_0) h4.1.1 h4.1.2 ((tt_iload (p_180_34 _ _) rfl).mpr (Exists.elim h4.2 (fun m5 h6 => t3_ald (p_180_35 _ _) h6.1.1 h6.1.2 (t2_callv (z := 166) (k := 4) (i := r0) (as := [.ref a1, .int (x2 + (1 : Int32)), .int (s.1 a3 (x2).toNatClampNeg)]) (rest := []) (p_180_36 _ _) mK_166 mL_166 rfl rfl (Nat.le_of_ble_eq_true rfl) rfl (Nat.le_of_ble_eq_true rfl) h6.2.1 h6.2.2))))))))))))))
theorem b_180_39 {Y : sY} {d : Nat} {s : sT} {K : Option Int32 → sT → Prop} {r0 : Nat} {x1 : Int32} {x2 : Int32} {x3 : Int32} {t0 : Int32} (h : (isO Y r0 11 ∧ tT Y d 178 0 [.ref r0, .int (0 : Int32), .int x3, .null, .null] [] s (fun r s1 => tT Y (d + 1) 180 47 [.ref r0, .int x1, .int x2, .int x3, .int t0] ((r.map Value.int).toList ++ []) s1 K))) : tT Y (d + 1) 180 39 [.ref r0, .int x1, .int x2, .int x3, .null] [.int t0] s K :=
  (tt_istore (p_180_39 _ _) (Nat.le_of_ble_eq_true rfl) rfl rfl).mpr ((tt_aload (p_180_41 _ _) rfl).mpr ((tt_push (p_180_42 _ _)).mpr ((tt_iload (p_180_43 _ _) rfl).mpr (t2_callv (z := 178) (k := 3) (i := r0) (as := [.int (0 : Int32), .int x3]) (rest := []) (p_180_44 _ _) mK_178 mL_178 rfl rfl (Nat.le_of_ble_eq_true rfl) rfl (Nat.le_of_ble_eq_true rfl) h.1 h.2))))
theorem b_180_47 {Y : sY} {d : Nat} {s : sT} {K : Option Int32 → sT → Prop} {r0 : Nat} {x1 : Int32} {x2 : Int32} {x3 : Int32} {x4 : Int32} (h : (isO Y r0 11 ∧ tT Y d 178 0 [.ref r0, .int (1 : Int32), .int x4, .null, .null] [] s (fun r s1 => tT Y (d + 1) 180 54 [.ref r0, .int x1, .int x2, .int x3, .int x4] ((r.map Value.int).toList ++ []) s1 K))) : tT Y (d + 1) 180 47 [.ref r0, .int x1, .int x2, .int x3, .int x4] [] s K :=
  (tt_aload (p_180_47 _ _) rfl).mpr ((tt_push (p_180_48 _ _)).mpr ((tt_iload (p_180_49 _ _) rfl).mpr (t2_callv (z := 178) (k := 3) (i := r0) (as := [.int (1 : Int32), .int x4]) (rest := []) (p_180_51 _ _) mK_178 mL_178 rfl rfl (Nat.le_of_ble_eq_true rfl) rfl (Nat.le_of_ble_eq_true rfl) h.1 h.2)))
theorem b_180_54 {Y : sY} {d : Nat} {s : sT} {K : Option Int32 → sT → Prop} {r0 : Nat} {x1 : Int32} {x2 : Int32} {x3 : Int32} {x4 : Int32} (h : K none s) : tT Y (d + 1) 180 54 [.ref r0, .int x1, .int x2, .int x3, .int x4] [] s K :=
  tt_ret0 (p_180_54 _ _) h
/-! InclusionProverModel.isFull.(II)Z -/
theorem p_181_0 (L : Nat) (xs : Nat → Int32) : ll_P L xs 181 0 = some (.inl (lo_aload 1 0)) := (P_181 L xs 0).trans rfl
theorem p_181_1 (L : Nat) (xs : Nat → Int32) : ll_P L xs 181 1 = some (.inl (lo_getf 4 11 11)) := (P_181 L xs 1).trans rfl
theorem p_181_4 (L : Nat) (xs : Nat → Int32) : ll_P L xs 181 4 = some (.inl (lo_aload 5 0)) := (P_181 L xs 4).trans rfl
theorem p_181_5 (L : Nat) (xs : Nat → Int32) : ll_P L xs 181 5 = some (.inl (lo_getf 8 11 34)) := (P_181 L xs 5).trans rfl
theorem p_181_8 (L : Nat) (xs : Nat → Int32) : ll_P L xs 181 8 = some (.inl (lo_push 10 (.int 31))) := (P_181 L xs 8).trans rfl
theorem p_181_10 (L : Nat) (xs : Nat → Int32) : ll_P L xs 181 10 = some (.inl (lo_iload 11 1)) := (P_181 L xs 10).trans rfl
theorem p_181_11 (L : Nat) (xs : Nat → Int32) : ll_P L xs 181 11 = some (.inl (lo_bin 12 (fun x y => x * y))) := (P_181 L xs 11).trans rfl
theorem p_181_12 (L : Nat) (xs : Nat → Int32) : ll_P L xs 181 12 = some (.inl (lo_iload 13 2)) := (P_181 L xs 12).trans rfl
theorem p_181_13 (L : Nat) (xs : Nat → Int32) : ll_P L xs 181 13 = some (.inl (lo_bin 14 (fun x y => x + y))) := (P_181 L xs 13).trans rfl
theorem p_181_14 (L : Nat) (xs : Nat → Int32) : ll_P L xs 181 14 = some (.inl (lo_ald 15 0)) := (P_181 L xs 14).trans rfl
theorem p_181_15 (L : Nat) (xs : Nat → Int32) : ll_P L xs 181 15 = some (.inl (lo_ald 16 1)) := (P_181 L xs 15).trans rfl
theorem p_181_16 (L : Nat) (xs : Nat → Int32) : ll_P L xs 181 16 = some (.inr (.inr 2)) := (P_181 L xs 16).trans rfl
theorem b_181_0 {Y : sY} {d : Nat} {s : sT} {K : Option Int32 → sT → Prop} {r0 : Nat} {x1 : Int32} {x2 : Int32} (h : (∃ a1, (isO Y r0 11 ∧ s.2 r0 11 = some a1) ∧ (∃ a3, (isO Y r0 11 ∧ s.2 r0 34 = some a3) ∧ (∃ m5, (isA Y a3 0 m5 ∧ inR (((31 : Int32) * x1) + x2) m5) ∧ (∃ m7, (isA Y a1 1 m7 ∧ inR (s.1 a3 ((((31 : Int32) * x1) + x2)).toNatClampNeg) m7) ∧ (((s.1 a1 ((s.1 a3 ((((31 : Int32) * x1) + x2)).toNatClampNeg)).toNatClampNeg) = 0 ∨ (s.1 a1 ((s.1 a3 ((((31 : Int32) * x1) + x2)).toNatClampNeg)).toNatClampNeg) = 1) ∧ K (some (s.1 a1 ((s.1 a3 ((((31 : Int32) * x1) + x2)).toNatClampNeg)).toNatClampNeg)) s)))))) : tT Y d 181 0 [.ref r0, .int x1, .int x2] [] s K :=
  (tt_aload (p_181_0 _ _) rfl).mpr (Exists.elim h (fun a1 h2 => t3_getr (p_181_1 _ _) (isI_11_11) h2.1.1 h2.1.2 ((tt_aload (p_181_4 _ _) rfl).mpr (Exists.elim h2.2 (fun a3 h4 => t3_getr (p_181_5 _ _) (isI_11_34) h4.1.1 h4.1.2 ((tt_push (p_181_8 _ _)).mpr ((tt_iload (p_181_10 _ _) rfl).mpr ((tt_bin (p_181_11 _ _)).mpr ((tt_iload (p_181_12 _ _) rfl).mpr ((tt_bin (p_181_13 _ _)).mpr (Exists.elim h4.2 (fun m5 h6 => t3_ald (p_181_14 _ _) h6.1.1 h6.1.2 (Exists.elim h6.2 (fun m7 h8 => t3_ald (p_181_15 _ _) h8.1.1 h8.1.2 (tt_ret2 (p_181_16 _ _) h8.2.1 h8.2.2)))))))))))))))
/-! InclusionProverModel.isFullSet.(II)Z -/
theorem p_182_0 (L : Nat) (xs : Nat → Int32) : ll_P L xs 182 0 = some (.inl (lo_push 1 (.int 0))) := (P_182 L xs 0).trans rfl
theorem p_182_1 (L : Nat) (xs : Nat → Int32) : ll_P L xs 182 1 = some (.inl (lo_istore 2 3)) := (P_182 L xs 1).trans rfl
theorem p_182_2 (L : Nat) (xs : Nat → Int32) : ll_P L xs 182 2 = some (.inl (lo_iload 3 3)) := (P_182 L xs 2).trans rfl
theorem p_182_3 (L : Nat) (xs : Nat → Int32) : ll_P L xs 182 3 = some (.inl (lo_aload 4 0)) := (P_182 L xs 3).trans rfl
theorem p_182_4 (L : Nat) (xs : Nat → Int32) : ll_P L xs 182 4 = some (.inl (lo_getf 7 11 35)) := (P_182 L xs 4).trans rfl
theorem p_182_7 (L : Nat) (xs : Nat → Int32) : ll_P L xs 182 7 = some (.inl (lo_iload 8 1)) := (P_182 L xs 7).trans rfl
theorem p_182_8 (L : Nat) (xs : Nat → Int32) : ll_P L xs 182 8 = some (.inl (lo_ald 9 0)) := (P_182 L xs 8).trans rfl
theorem p_182_9 (L : Nat) (xs : Nat → Int32) : ll_P L xs 182 9 = some (.inl (lo_cmp 38 12 (fun x y => decide (y ≤ x)))) := (P_182 L xs 9).trans rfl
theorem p_182_12 (L : Nat) (xs : Nat → Int32) : ll_P L xs 182 12 = some (.inl (lo_iload 13 2)) := (P_182 L xs 12).trans rfl
theorem p_182_13 (L : Nat) (xs : Nat → Int32) : ll_P L xs 182 13 = some (.inl (lo_iload 14 3)) := (P_182 L xs 13).trans rfl
theorem p_182_14 (L : Nat) (xs : Nat → Int32) : ll_P L xs 182 14 = some (.inl (lo_bin 15 (fun x y => x >>> (y &&& 31)))) := (P_182 L xs 14).trans rfl
theorem p_182_15 (L : Nat) (xs : Nat → Int32) : ll_P L xs 182 15 = some (.inl (lo_push 16 (.int 1))) := (P_182 L xs 15).trans rfl
theorem p_182_16 (L : Nat) (xs : Nat → Int32) : ll_P L xs 182 16 = some (.inl (lo_bin 17 (fun x y => x &&& y))) := (P_182 L xs 16).trans rfl
theorem p_182_17 (L : Nat) (xs : Nat → Int32) : ll_P L xs 182 17 = some (.inl (lo_push 18 (.int 1))) := (P_182 L xs 17).trans rfl
theorem p_182_18 (L : Nat) (xs : Nat → Int32) : ll_P L xs 182 18 = some (.inl (lo_cmp 32 21 (fun x y => decide (¬ x = y)))) := (P_182 L xs 18).trans rfl
theorem p_182_21 (L : Nat) (xs : Nat → Int32) : ll_P L xs 182 21 = some (.inl (lo_aload 22 0)) := (P_182 L xs 21).trans rfl
theorem p_182_22 (L : Nat) (xs : Nat → Int32) : ll_P L xs 182 22 = some (.inl (lo_iload 23 1)) := (P_182 L xs 22).trans rfl
theorem p_182_23 (L : Nat) (xs : Nat → Int32) : ll_P L xs 182 23 = some (.inl (lo_iload 24 3)) := (P_182 L xs 23).trans rfl
theorem p_182_24 (L : Nat) (xs : Nat → Int32) : ll_P L xs 182 24 = some (.inr (.inl (181, 3, 27))) := (P_182 L xs 24).trans rfl
theorem p_182_27 (L : Nat) (xs : Nat → Int32) : ll_P L xs 182 27 = some (.inl (lo_if 32 30 (fun x => decide (x = 0)))) := (P_182 L xs 27).trans rfl
theorem p_182_30 (L : Nat) (xs : Nat → Int32) : ll_P L xs 182 30 = some (.inl (lo_push 31 (.int 1))) := (P_182 L xs 30).trans rfl
theorem p_182_31 (L : Nat) (xs : Nat → Int32) : ll_P L xs 182 31 = some (.inr (.inr 2)) := (P_182 L xs 31).trans rfl
theorem p_182_32 (L : Nat) (xs : Nat → Int32) : ll_P L xs 182 32 = some (.inl (lo_iinc 35 3 1)) := (P_182 L xs 32).trans rfl
theorem p_182_35 (L : Nat) (xs : Nat → Int32) : ll_P L xs 182 35 = some (.inl (lo_goto 2)) := (P_182 L xs 35).trans rfl
theorem p_182_38 (L : Nat) (xs : Nat → Int32) : ll_P L xs 182 38 = some (.inl (lo_push 39 (.int 0))) := (P_182 L xs 38).trans rfl
theorem p_182_39 (L : Nat) (xs : Nat → Int32) : ll_P L xs 182 39 = some (.inr (.inr 2)) := (P_182 L xs 39).trans rfl
theorem b_182_0 {Y : sY} {d : Nat} {s : sT} {K : Option Int32 → sT → Prop} {r0 : Nat} {x1 : Int32} {x2 : Int32} (h : tT Y (d + 1) 182 2 [.ref r0, .int x1, .int x2, .int (0 : Int32)] [] s K) : tT Y (d + 1) 182 0 [.ref r0, .int x1, .int x2, .null] [] s K :=
  (tt_push (p_182_0 _ _)).mpr ((tt_istore (p_182_1 _ _) (Nat.le_of_ble_eq_true rfl) rfl rfl).mpr (h))
theorem b_182_2 {Y : sY} {d : Nat} {s : sT} {K : Option Int32 → sT → Prop} {r0 : Nat} {x1 : Int32} {x2 : Int32} {x3 : Int32} (h : (∃ a1, (isO Y r0 11 ∧ s.2 r0 35 = some a1) ∧ (∃ m3, (isA Y a1 0 m3 ∧ inR x1 m3) ∧ (if (s.1 a1 (x1).toNatClampNeg) ≤ x3 then K (some (0 : Int32)) s else (if ¬ ((x2 >>> (x3 &&& 31)) &&& (1 : Int32)) = (1 : Int32) then tT Y (d + 1) 182 32 [.ref r0, .int x1, .int x2, .int x3] [] s K else (isO Y r0 11 ∧ tT Y d 181 0 [.ref r0, .int x1, .int x3] [] s (fun r s1 => tT Y (d + 1) 182 27 [.ref r0, .int x1, .int x2, .int x3] ((r.map Value.int).toList ++ []) s1 K))))))) : tT Y (d + 1) 182 2 [.ref r0, .int x1, .int x2, .int x3] [] s K :=
  (tt_iload (p_182_2 _ _) rfl).mpr ((tt_aload (p_182_3 _ _) rfl).mpr (Exists.elim h (fun a1 h2 => t3_getr (p_182_4 _ _) (isI_11_35) h2.1.1 h2.1.2 ((tt_iload (p_182_7 _ _) rfl).mpr (Exists.elim h2.2 (fun m3 h4 => t3_ald (p_182_8 _ _) h4.1.1 h4.1.2 (t3_cmp (p := (s.1 a1 (x1).toNatClampNeg) ≤ x3) (p_182_9 _ _) rfl (fun g5 => (tt_push (p_182_38 _ _)).mpr (tt_ret2 (p_182_39 _ _) (Or.inl rfl) (ifp h4.2 g5))) (fun g5 => (tt_iload (p_182_12 _ _) rfl).mpr ((tt_iload (p_182_13 _ _) rfl).mpr ((tt_bin (p_182_14 _ _)).mpr ((tt_push (p_182_15 _ _)).mpr ((tt_bin (p_182_16 _ _)).mpr ((tt_push (p_182_17 _ _)).mpr (t3_cmp (p := ¬ ((x2 >>> (x3 &&& 31)) &&& (1 : Int32)) = (1 : Int32)) (p_182_18 _ _) rfl (fun g6 => (ifp (ifn h4.2 g5) g6)) (fun g6 => (tt_aload (p_182_21 _ _) rfl).mpr ((tt_iload (p_182_22 _ _) rfl).mpr ((tt_iload (p_182_23 _ _) rfl).mpr (t2_callv (z := 181) (k := 3) (i := r0) (as := [.int x1, .int x3]) (rest := []) (p_182_24 _ _) mK_181 mL_181 rfl rfl (Nat.le_of_ble_eq_true rfl) rfl (Nat.le_of_ble_eq_true rfl) (ifn (ifn h4.2 g5) g6).1 (ifn (ifn h4.2 g5) g6).2))))))))))))))))))
theorem b_182_27 {Y : sY} {d : Nat} {s : sT} {K : Option Int32 → sT → Prop} {r0 : Nat} {x1 : Int32} {x2 : Int32} {x3 : Int32} {t0 : Int32} (h : (if t0 = 0 then tT Y (d + 1) 182 32 [.ref r0, .int x1, .int x2, .int x3] [] s K else K (some (1 : Int32)) s)) : tT Y (d + 1) 182 27 [.ref r0, .int x1, .int x2, .int x3] [.int t0] s K :=
  t3_if (p := t0 = 0) (p_182_27 _ _) rfl (fun g1 => (ifp h g1)) (fun g1 => (tt_push (p_182_30 _ _)).mpr (tt_ret2 (p_182_31 _ _) (Or.inr rfl) (ifn h g1)))
theorem b_182_32 {Y : sY} {d : Nat} {s : sT} {K : Option Int32 → sT → Prop} {r0 : Nat} {x1 : Int32} {x2 : Int32} {x3 : Int32} (h : tT Y (d + 1) 182 2 [.ref r0, .int x1, .int x2, .int (x3 + 1)] [] s K) : tT Y (d + 1) 182 32 [.ref r0, .int x1, .int x2, .int x3] [] s K :=
  (tt_iinc (p_182_32 _ _) rfl rfl rfl).mpr ((tt_goto (p_182_35 _ _)).mpr (h))
/-! InclusionProverModel.partsOf.(III)I -/
theorem p_183_0 (L : Nat) (xs : Nat → Int32) : ll_P L xs 183 0 = some (.inl (lo_push 1 (.int 0))) := (P_183 L xs 0).trans rfl
theorem p_183_1 (L : Nat) (xs : Nat → Int32) : ll_P L xs 183 1 = some (.inl (lo_istore 3 4)) := (P_183 L xs 1).trans rfl
theorem p_183_3 (L : Nat) (xs : Nat → Int32) : ll_P L xs 183 3 = some (.inl (lo_push 4 (.int 0))) := (P_183 L xs 3).trans rfl
theorem p_183_4 (L : Nat) (xs : Nat → Int32) : ll_P L xs 183 4 = some (.inl (lo_istore 6 5)) := (P_183 L xs 4).trans rfl
theorem p_183_6 (L : Nat) (xs : Nat → Int32) : ll_P L xs 183 6 = some (.inl (lo_iload 8 5)) := (P_183 L xs 6).trans rfl
theorem p_183_8 (L : Nat) (xs : Nat → Int32) : ll_P L xs 183 8 = some (.inl (lo_aload 9 0)) := (P_183 L xs 8).trans rfl
theorem p_183_9 (L : Nat) (xs : Nat → Int32) : ll_P L xs 183 9 = some (.inl (lo_getf 12 11 35)) := (P_183 L xs 9).trans rfl
theorem p_183_12 (L : Nat) (xs : Nat → Int32) : ll_P L xs 183 12 = some (.inl (lo_iload 13 1)) := (P_183 L xs 12).trans rfl
theorem p_183_13 (L : Nat) (xs : Nat → Int32) : ll_P L xs 183 13 = some (.inl (lo_ald 14 0)) := (P_183 L xs 13).trans rfl
theorem p_183_14 (L : Nat) (xs : Nat → Int32) : ll_P L xs 183 14 = some (.inl (lo_cmp 58 17 (fun x y => decide (y ≤ x)))) := (P_183 L xs 14).trans rfl
theorem p_183_17 (L : Nat) (xs : Nat → Int32) : ll_P L xs 183 17 = some (.inl (lo_iload 19 4)) := (P_183 L xs 17).trans rfl
theorem p_183_19 (L : Nat) (xs : Nat → Int32) : ll_P L xs 183 19 = some (.inl (lo_iload 20 2)) := (P_183 L xs 19).trans rfl
theorem p_183_20 (L : Nat) (xs : Nat → Int32) : ll_P L xs 183 20 = some (.inl (lo_iload 22 5)) := (P_183 L xs 20).trans rfl
theorem p_183_22 (L : Nat) (xs : Nat → Int32) : ll_P L xs 183 22 = some (.inl (lo_bin 23 (fun x y => x >>> (y &&& 31)))) := (P_183 L xs 22).trans rfl
theorem p_183_23 (L : Nat) (xs : Nat → Int32) : ll_P L xs 183 23 = some (.inl (lo_push 24 (.int 1))) := (P_183 L xs 23).trans rfl
theorem p_183_24 (L : Nat) (xs : Nat → Int32) : ll_P L xs 183 24 = some (.inl (lo_bin 25 (fun x y => x &&& y))) := (P_183 L xs 24).trans rfl
theorem p_183_25 (L : Nat) (xs : Nat → Int32) : ll_P L xs 183 25 = some (.inl (lo_push 26 (.int 1))) := (P_183 L xs 25).trans rfl
theorem p_183_26 (L : Nat) (xs : Nat → Int32) : ll_P L xs 183 26 = some (.inl (lo_cmp 48 29 (fun x y => decide (¬ x = y)))) := (P_183 L xs 26).trans rfl
theorem p_183_29 (L : Nat) (xs : Nat → Int32) : ll_P L xs 183 29 = some (.inl (lo_aload 30 0)) := (P_183 L xs 29).trans rfl
theorem p_183_30 (L : Nat) (xs : Nat → Int32) : ll_P L xs 183 30 = some (.inl (lo_getf 33 11 36)) := (P_183 L xs 30).trans rfl
theorem p_183_33 (L : Nat) (xs : Nat → Int32) : ll_P L xs 183 33 = some (.inl (lo_push 34 (.int 3))) := (P_183 L xs 33).trans rfl
theorem p_183_34 (L : Nat) (xs : Nat → Int32) : ll_P L xs 183 34 = some (.inl (lo_push 36 (.int 31))) := (P_183 L xs 34).trans rfl
theorem p_183_36 (L : Nat) (xs : Nat → Int32) : ll_P L xs 183 36 = some (.inl (lo_iload 37 1)) := (P_183 L xs 36).trans rfl
theorem p_183_37 (L : Nat) (xs : Nat → Int32) : ll_P L xs 183 37 = some (.inl (lo_bin 38 (fun x y => x * y))) := (P_183 L xs 37).trans rfl
theorem p_183_38 (L : Nat) (xs : Nat → Int32) : ll_P L xs 183 38 = some (.inl (lo_iload 40 5)) := (P_183 L xs 38).trans rfl
theorem p_183_40 (L : Nat) (xs : Nat → Int32) : ll_P L xs 183 40 = some (.inl (lo_bin 41 (fun x y => x + y))) := (P_183 L xs 40).trans rfl
theorem p_183_41 (L : Nat) (xs : Nat → Int32) : ll_P L xs 183 41 = some (.inl (lo_bin 42 (fun x y => x * y))) := (P_183 L xs 41).trans rfl
theorem p_183_42 (L : Nat) (xs : Nat → Int32) : ll_P L xs 183 42 = some (.inl (lo_iload 43 3)) := (P_183 L xs 42).trans rfl
theorem p_183_43 (L : Nat) (xs : Nat → Int32) : ll_P L xs 183 43 = some (.inl (lo_bin 44 (fun x y => x + y))) := (P_183 L xs 43).trans rfl
theorem p_183_44 (L : Nat) (xs : Nat → Int32) : ll_P L xs 183 44 = some (.inl (lo_ald 45 0)) := (P_183 L xs 44).trans rfl
theorem p_183_45 (L : Nat) (xs : Nat → Int32) : ll_P L xs 183 45 = some (.inl (lo_goto 49)) := (P_183 L xs 45).trans rfl
theorem p_183_48 (L : Nat) (xs : Nat → Int32) : ll_P L xs 183 48 = some (.inl (lo_push 49 (.int 0))) := (P_183 L xs 48).trans rfl
theorem p_183_49 (L : Nat) (xs : Nat → Int32) : ll_P L xs 183 49 = some (.inl (lo_bin 50 (fun x y => x ||| y))) := (P_183 L xs 49).trans rfl
theorem p_183_50 (L : Nat) (xs : Nat → Int32) : ll_P L xs 183 50 = some (.inl (lo_istore 52 4)) := (P_183 L xs 50).trans rfl
theorem p_183_52 (L : Nat) (xs : Nat → Int32) : ll_P L xs 183 52 = some (.inl (lo_iinc 55 5 1)) := (P_183 L xs 52).trans rfl
theorem p_183_55 (L : Nat) (xs : Nat → Int32) : ll_P L xs 183 55 = some (.inl (lo_goto 6)) := (P_183 L xs 55).trans rfl
theorem p_183_58 (L : Nat) (xs : Nat → Int32) : ll_P L xs 183 58 = some (.inl (lo_iload 60 4)) := (P_183 L xs 58).trans rfl
theorem p_183_60 (L : Nat) (xs : Nat → Int32) : ll_P L xs 183 60 = some (.inr (.inr 1)) := (P_183 L xs 60).trans rfl
theorem b_183_0 {Y : sY} {d : Nat} {s : sT} {K : Option Int32 → sT → Prop} {r0 : Nat} {x1 : Int32} {x2 : Int32} {x3 : Int32} (h : tT Y d 183 6 [.ref r0, .int x1, .int x2, .int x3, .int (0 : Int32), .int (0 : Int32)] [] s K) : tT Y d 183 0 [.ref r0, .int x1, .int x2, .int x3, .null, .null] [] s K :=
  (tt_push (p_183_0 _ _)).mpr ((tt_istore (p_183_1 _ _) (Nat.le_of_ble_eq_true rfl) rfl rfl).mpr ((tt_push (p_183_3 _ _)).mpr ((tt_istore (p_183_4 _ _) (Nat.le_of_ble_eq_true rfl) rfl rfl).mpr (h))))
theorem b_183_6 {Y : sY} {d : Nat} {s : sT} {K : Option Int32 → sT → Prop} {r0 : Nat} {x1 : Int32} {x2 : Int32} {x3 : Int32} {x4 : Int32} {x5 : Int32} (h : (∃ a1, (isO Y r0 11 ∧ s.2 r0 35 = some a1) ∧ (∃ m3, (isA Y a1 0 m3 ∧ inR x1 m3) ∧ (if (s.1 a1 (x1).toNatClampNeg) ≤ x5 then K (some x4) s else (if ¬ ((x2 >>> (x5 &&& 31)) &&& (1 : Int32)) = (1 : Int32) then tT Y d 183 49 [.ref r0, .int x1, .int x2, .int x3, .int x4, .int x5] [.int (0 : Int32), .int x4] s K else (∃ a7, (isO Y r0 11 ∧ s.2 r0 36 = some a7) ∧ (∃ m9, (isA Y a7 0 m9 ∧ inR (((3 : Int32) * (((31 : Int32) * x1) + x5)) + x3) m9) ∧ tT Y d 183 49 [.ref r0, .int x1, .int x2, .int x3, .int x4, .int x5] [.int (s.1 a7 ((((3 : Int32) * (((31 : Int32) * x1) + x5)) + x3)).toNatClampNeg), .int x4] s K))))))) : tT Y d 183 6 [.ref r0, .int x1, .int x2, .int x3, .int x4, .int x5] [] s K :=
  (tt_iload (p_183_6 _ _) rfl).mpr ((tt_aload (p_183_8 _ _) rfl).mpr (Exists.elim h (fun a1 h2 => t3_getr (p_183_9 _ _) (isI_11_35) h2.1.1 h2.1.2 ((tt_iload (p_183_12 _ _) rfl).mpr (Exists.elim h2.2 (fun m3 h4 => t3_ald (p_183_13 _ _) h4.1.1 h4.1.2 (t3_cmp (p := (s.1 a1 (x1).toNatClampNeg) ≤ x5) (p_183_14 _ _) rfl (fun g5 => (tt_iload (p_183_58 _ _) rfl).mpr (tt_ret1 (p_183_60 _ _) (ifp h4.2 g5))) (fun g5 => (tt_iload (p_183_17 _ _) rfl).mpr ((tt_iload (p_183_19 _ _) rfl).mpr ((tt_iload (p_183_20 _ _) rfl).mpr ((tt_bin (p_183_22 _ _)).mpr ((tt_push (p_183_23 _ _)).mpr ((tt_bin (p_183_24 _ _)).mpr ((tt_push (p_183_25 _ _)).mpr (t3_cmp (p := ¬ ((x2 >>> (x5 &&& 31)) &&& (1 : Int32)) = (1 : Int32)) (p_183_26 _ _) rfl (fun g6 => (tt_push (p_183_48 _ _)).mpr ((ifp (ifn h4.2 g5) g6))) (fun g6 => (tt_aload (p_183_29 _ _) rfl).mpr (Exists.elim (ifn (ifn h4.2 g5) g6) (fun a7 h8 => t3_getr (p_183_30 _ _) (isI_11_36) h8.1.1 h8.1.2 ((tt_push (p_183_33 _ _)).mpr ((tt_push (p_183_34 _ _)).mpr ((tt_iload (p_183_36 _ _) rfl).mpr ((tt_bin (p_183_37 _ _)).mpr ((tt_iload (p_183_38 _ _) rfl).mpr ((tt_bin (p_183_40 _ _)).mpr ((tt_bin (p_183_41 _ _)).mpr ((tt_iload (p_183_42 _ _) rfl).mpr ((tt_bin (p_183_43 _ _)).mpr (Exists.elim h8.2 (fun m9 h10 => t3_ald (p_183_44 _ _) h10.1.1 h10.1.2 ((tt_goto (p_183_45 _ _)).mpr (h10.2)))))))))))))))))))))))))))))))
theorem b_183_49 {Y : sY} {d : Nat} {s : sT} {K : Option Int32 → sT → Prop} {r0 : Nat} {x1 : Int32} {x2 : Int32} {x3 : Int32} {x4 : Int32} {x5 : Int32} {t0 : Int32} {t1 : Int32} (h : tT Y d 183 6 [.ref r0, .int x1, .int x2, .int x3, .int (t0 ||| t1), .int (x5 + 1)] [] s K) : tT Y d 183 49 [.ref r0, .int x1, .int x2, .int x3, .int x4, .int x5] [.int t1, .int t0] s K :=
  (tt_bin (p_183_49 _ _)).mpr ((tt_istore (p_183_50 _ _) (Nat.le_of_ble_eq_true rfl) rfl rfl).mpr ((tt_iinc (p_183_52 _ _) rfl rfl rfl).mpr ((tt_goto (p_183_55 _ _)).mpr (h))))
/-! InclusionProverModel.isMember.(II)Z -/
theorem p_184_0 (L : Nat) (xs : Nat → Int32) : ll_P L xs 184 0 = some (.inl (lo_push 1 (.int 0))) := (P_184 L xs 0).trans rfl
theorem p_184_1 (L : Nat) (xs : Nat → Int32) : ll_P L xs 184 1 = some (.inl (lo_istore 2 3)) := (P_184 L xs 1).trans rfl
theorem p_184_2 (L : Nat) (xs : Nat → Int32) : ll_P L xs 184 2 = some (.inl (lo_iload 3 3)) := (P_184 L xs 2).trans rfl
theorem p_184_3 (L : Nat) (xs : Nat → Int32) : ll_P L xs 184 3 = some (.inl (lo_aload 4 0)) := (P_184 L xs 3).trans rfl
theorem p_184_4 (L : Nat) (xs : Nat → Int32) : ll_P L xs 184 4 = some (.inl (lo_getf 7 11 35)) := (P_184 L xs 4).trans rfl
theorem p_184_7 (L : Nat) (xs : Nat → Int32) : ll_P L xs 184 7 = some (.inl (lo_push 8 (.int 1))) := (P_184 L xs 7).trans rfl
theorem p_184_8 (L : Nat) (xs : Nat → Int32) : ll_P L xs 184 8 = some (.inl (lo_ald 9 0)) := (P_184 L xs 8).trans rfl
theorem p_184_9 (L : Nat) (xs : Nat → Int32) : ll_P L xs 184 9 = some (.inl (lo_cmp 47 12 (fun x y => decide (y ≤ x)))) := (P_184 L xs 9).trans rfl
theorem p_184_12 (L : Nat) (xs : Nat → Int32) : ll_P L xs 184 12 = some (.inl (lo_iload 13 2)) := (P_184 L xs 12).trans rfl
theorem p_184_13 (L : Nat) (xs : Nat → Int32) : ll_P L xs 184 13 = some (.inl (lo_iload 14 3)) := (P_184 L xs 13).trans rfl
theorem p_184_14 (L : Nat) (xs : Nat → Int32) : ll_P L xs 184 14 = some (.inl (lo_bin 15 (fun x y => x >>> (y &&& 31)))) := (P_184 L xs 14).trans rfl
theorem p_184_15 (L : Nat) (xs : Nat → Int32) : ll_P L xs 184 15 = some (.inl (lo_push 16 (.int 1))) := (P_184 L xs 15).trans rfl
theorem p_184_16 (L : Nat) (xs : Nat → Int32) : ll_P L xs 184 16 = some (.inl (lo_bin 17 (fun x y => x &&& y))) := (P_184 L xs 16).trans rfl
theorem p_184_17 (L : Nat) (xs : Nat → Int32) : ll_P L xs 184 17 = some (.inl (lo_push 18 (.int 1))) := (P_184 L xs 17).trans rfl
theorem p_184_18 (L : Nat) (xs : Nat → Int32) : ll_P L xs 184 18 = some (.inl (lo_cmp 41 21 (fun x y => decide (¬ x = y)))) := (P_184 L xs 18).trans rfl
theorem p_184_21 (L : Nat) (xs : Nat → Int32) : ll_P L xs 184 21 = some (.inl (lo_aload 22 0)) := (P_184 L xs 21).trans rfl
theorem p_184_22 (L : Nat) (xs : Nat → Int32) : ll_P L xs 184 22 = some (.inl (lo_getf 25 11 34)) := (P_184 L xs 22).trans rfl
theorem p_184_25 (L : Nat) (xs : Nat → Int32) : ll_P L xs 184 25 = some (.inl (lo_push 27 (.int 31))) := (P_184 L xs 25).trans rfl
theorem p_184_27 (L : Nat) (xs : Nat → Int32) : ll_P L xs 184 27 = some (.inl (lo_iload 28 3)) := (P_184 L xs 27).trans rfl
theorem p_184_28 (L : Nat) (xs : Nat → Int32) : ll_P L xs 184 28 = some (.inl (lo_bin 29 (fun x y => x + y))) := (P_184 L xs 28).trans rfl
theorem p_184_29 (L : Nat) (xs : Nat → Int32) : ll_P L xs 184 29 = some (.inl (lo_ald 30 0)) := (P_184 L xs 29).trans rfl
theorem p_184_30 (L : Nat) (xs : Nat → Int32) : ll_P L xs 184 30 = some (.inl (lo_aload 31 0)) := (P_184 L xs 30).trans rfl
theorem p_184_31 (L : Nat) (xs : Nat → Int32) : ll_P L xs 184 31 = some (.inl (lo_getf 34 11 34)) := (P_184 L xs 31).trans rfl
theorem p_184_34 (L : Nat) (xs : Nat → Int32) : ll_P L xs 184 34 = some (.inl (lo_iload 35 1)) := (P_184 L xs 34).trans rfl
theorem p_184_35 (L : Nat) (xs : Nat → Int32) : ll_P L xs 184 35 = some (.inl (lo_ald 36 0)) := (P_184 L xs 35).trans rfl
theorem p_184_36 (L : Nat) (xs : Nat → Int32) : ll_P L xs 184 36 = some (.inl (lo_cmp 41 39 (fun x y => decide (¬ x = y)))) := (P_184 L xs 36).trans rfl
theorem p_184_39 (L : Nat) (xs : Nat → Int32) : ll_P L xs 184 39 = some (.inl (lo_push 40 (.int 1))) := (P_184 L xs 39).trans rfl
theorem p_184_40 (L : Nat) (xs : Nat → Int32) : ll_P L xs 184 40 = some (.inr (.inr 2)) := (P_184 L xs 40).trans rfl
theorem p_184_41 (L : Nat) (xs : Nat → Int32) : ll_P L xs 184 41 = some (.inl (lo_iinc 44 3 1)) := (P_184 L xs 41).trans rfl
theorem p_184_44 (L : Nat) (xs : Nat → Int32) : ll_P L xs 184 44 = some (.inl (lo_goto 2)) := (P_184 L xs 44).trans rfl
theorem p_184_47 (L : Nat) (xs : Nat → Int32) : ll_P L xs 184 47 = some (.inl (lo_push 48 (.int 0))) := (P_184 L xs 47).trans rfl
theorem p_184_48 (L : Nat) (xs : Nat → Int32) : ll_P L xs 184 48 = some (.inr (.inr 2)) := (P_184 L xs 48).trans rfl
theorem b_184_0 {Y : sY} {d : Nat} {s : sT} {K : Option Int32 → sT → Prop} {r0 : Nat} {x1 : Int32} {x2 : Int32} (h : tT Y d 184 2 [.ref r0, .int x1, .int x2, .int (0 : Int32)] [] s K) : tT Y d 184 0 [.ref r0, .int x1, .int x2, .null] [] s K :=
  (tt_push (p_184_0 _ _)).mpr ((tt_istore (p_184_1 _ _) (Nat.le_of_ble_eq_true rfl) rfl rfl).mpr (h))
theorem b_184_2 {Y : sY} {d : Nat} {s : sT} {K : Option Int32 → sT → Prop} {r0 : Nat} {x1 : Int32} {x2 : Int32} {x3 : Int32} (h : (∃ a1, (isO Y r0 11 ∧ s.2 r0 35 = some a1) ∧ (∃ m3, (isA Y a1 0 m3 ∧ inR (1 : Int32) m3) ∧ (if (s.1 a1 ((1 : Int32)).toNatClampNeg) ≤ x3 then K (some (0 : Int32)) s else (if ¬ ((x2 >>> (x3 &&& 31)) &&& (1 : Int32)) = (1 : Int32) then tT Y d 184 41 [.ref r0, .int x1, .int x2, .int x3] [] s K else (∃ a7, (isO Y r0 11 ∧ s.2 r0 34 = some a7) ∧ (∃ m9, (isA Y a7 0 m9 ∧ inR ((31 : Int32) + x3) m9) ∧ (∃ a11, (isO Y r0 11 ∧ s.2 r0 34 = some a11) ∧ (∃ m13, (isA Y a11 0 m13 ∧ inR x1 m13) ∧ (if ¬ (s.1 a7 (((31 : Int32) + x3)).toNatClampNeg) = (s.1 a11 (x1).toNatClampNeg) then tT Y d 184 41 [.ref r0, .int x1, .int x2, .int x3] [] s K else K (some (1 : Int32)) s)))))))))) : tT Y d 184 2 [.ref r0, .int x1, .int x2, .int x3] [] s K :=
  (tt_iload (p_184_2 _ _) rfl).mpr ((tt_aload (p_184_3 _ _) rfl).mpr (Exists.elim h (fun a1 h2 => t3_getr (p_184_4 _ _) (isI_11_35) h2.1.1 h2.1.2 ((tt_push (p_184_7 _ _)).mpr (Exists.elim h2.2 (fun m3 h4 => t3_ald (p_184_8 _ _) h4.1.1 h4.1.2 (t3_cmp (p := (s.1 a1 ((1 : Int32)).toNatClampNeg) ≤ x3) (p_184_9 _ _) rfl (fun g5 => (tt_push (p_184_47 _ _)).mpr (tt_ret2 (p_184_48 _ _) (Or.inl rfl) (ifp h4.2 g5))) (fun g5 => (tt_iload (p_184_12 _ _) rfl).mpr ((tt_iload (p_184_13 _ _) rfl).mpr ((tt_bin (p_184_14 _ _)).mpr ((tt_push (p_184_15 _ _)).mpr ((tt_bin (p_184_16 _ _)).mpr ((tt_push (p_184_17 _ _)).mpr (t3_cmp (p := ¬ ((x2 >>> (x3 &&& 31)) &&& (1 : Int32)) = (1 : Int32)) (p_184_18 _ _) rfl (fun g6 => (ifp (ifn h4.2 g5) g6)) (fun g6 => (tt_aload (p_184_21 _ _) rfl).mpr (Exists.elim (ifn (ifn h4.2 g5) g6) (fun a7 h8 => t3_getr (p_184_22 _ _) (isI_11_34) h8.1.1 h8.1.2 ((tt_push (p_184_25 _ _)).mpr ((tt_iload (p_184_27 _ _) rfl).mpr ((tt_bin (p_184_28 _ _)).mpr (Exists.elim h8.2 (fun m9 h10 => t3_ald (p_184_29 _ _) h10.1.1 h10.1.2 ((tt_aload (p_184_30 _ _) rfl).mpr (Exists.elim h10.2 (fun a11 h12 => t3_getr (p_184_31 _ _) (isI_11_34) h12.1.1 h12.1.2 ((tt_iload (p_184_34 _ _) rfl).mpr (Exists.elim h12.2 (fun m13 h14 => t3_ald (p_184_35 _ _) h14.1.1 h14.1.2 (t3_cmp (p := ¬ (s.1 a7 (((31 : Int32) + x3)).toNatClampNeg) = (s.1 a11 (x1).toNatClampNeg)) (p_184_36 _ _) rfl (fun g15 => (ifp h14.2 g15)) (fun g15 => (tt_push (p_184_39 _ _)).mpr (tt_ret2 (p_184_40 _ _) (Or.inr rfl) (ifn h14.2 g15))))))))))))))))))))))))))))))))
theorem b_184_41 {Y : sY} {d : Nat} {s : sT} {K : Option Int32 → sT → Prop} {r0 : Nat} {x1 : Int32} {x2 : Int32} {x3 : Int32} (h : tT Y d 184 2 [.ref r0, .int x1, .int x2, .int (x3 + 1)] [] s K) : tT Y d 184 41 [.ref r0, .int x1, .int x2, .int x3] [] s K :=
  (tt_iinc (p_184_41 _ _) rfl rfl rfl).mpr ((tt_goto (p_184_44 _ _)).mpr (h))
