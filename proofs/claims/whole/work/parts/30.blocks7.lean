/-! BLOCKS (written by wip/whole/blocks.py) -/
/-! InclusionProverModel.lineWith.(III)I -/
theorem p_185_0 (L : Nat) (xs : Nat → Int32) : ll_P L xs 185 0 = some (.inl (lo_push 1 (.int 0))) := (P_185 L xs 0).trans rfl
theorem p_185_1 (L : Nat) (xs : Nat → Int32) : ll_P L xs 185 1 = some (.inl (lo_istore 3 4)) := (P_185 L xs 1).trans rfl
theorem p_185_3 (L : Nat) (xs : Nat → Int32) : ll_P L xs 185 3 = some (.inl (lo_iload 5 4)) := (P_185 L xs 3).trans rfl
theorem p_185_5 (L : Nat) (xs : Nat → Int32) : ll_P L xs 185 5 = some (.inl (lo_aload 6 0)) := (P_185 L xs 5).trans rfl
theorem p_185_6 (L : Nat) (xs : Nat → Int32) : ll_P L xs 185 6 = some (.inl (lo_getf 9 11 0)) := (P_185 L xs 6).trans rfl
theorem p_185_9 (L : Nat) (xs : Nat → Int32) : ll_P L xs 185 9 = some (.inl (lo_iload 10 1)) := (P_185 L xs 9).trans rfl
theorem p_185_10 (L : Nat) (xs : Nat → Int32) : ll_P L xs 185 10 = some (.inl (lo_push 13 (.int 186))) := (P_185 L xs 10).trans rfl
theorem p_185_13 (L : Nat) (xs : Nat → Int32) : ll_P L xs 185 13 = some (.inl (lo_bin 14 (fun x y => x + y))) := (P_185 L xs 13).trans rfl
theorem p_185_14 (L : Nat) (xs : Nat → Int32) : ll_P L xs 185 14 = some (.inl (lo_ald 15 0)) := (P_185 L xs 14).trans rfl
theorem p_185_15 (L : Nat) (xs : Nat → Int32) : ll_P L xs 185 15 = some (.inl (lo_cmp 64 18 (fun x y => decide (y ≤ x)))) := (P_185 L xs 15).trans rfl
theorem p_185_18 (L : Nat) (xs : Nat → Int32) : ll_P L xs 185 18 = some (.inl (lo_aload 19 0)) := (P_185 L xs 18).trans rfl
theorem p_185_19 (L : Nat) (xs : Nat → Int32) : ll_P L xs 185 19 = some (.inl (lo_getf 22 11 0)) := (P_185 L xs 19).trans rfl
theorem p_185_22 (L : Nat) (xs : Nat → Int32) : ll_P L xs 185 22 = some (.inl (lo_iload 23 1)) := (P_185 L xs 22).trans rfl
theorem p_185_23 (L : Nat) (xs : Nat → Int32) : ll_P L xs 185 23 = some (.inl (lo_push 26 (.int 187))) := (P_185 L xs 23).trans rfl
theorem p_185_26 (L : Nat) (xs : Nat → Int32) : ll_P L xs 185 26 = some (.inl (lo_bin 27 (fun x y => x + y))) := (P_185 L xs 26).trans rfl
theorem p_185_27 (L : Nat) (xs : Nat → Int32) : ll_P L xs 185 27 = some (.inl (lo_iload 29 4)) := (P_185 L xs 27).trans rfl
theorem p_185_29 (L : Nat) (xs : Nat → Int32) : ll_P L xs 185 29 = some (.inl (lo_bin 30 (fun x y => x + y))) := (P_185 L xs 29).trans rfl
theorem p_185_30 (L : Nat) (xs : Nat → Int32) : ll_P L xs 185 30 = some (.inl (lo_ald 31 0)) := (P_185 L xs 30).trans rfl
theorem p_185_31 (L : Nat) (xs : Nat → Int32) : ll_P L xs 185 31 = some (.inl (lo_iload 32 2)) := (P_185 L xs 31).trans rfl
theorem p_185_32 (L : Nat) (xs : Nat → Int32) : ll_P L xs 185 32 = some (.inl (lo_cmp 58 35 (fun x y => decide (¬ x = y)))) := (P_185 L xs 32).trans rfl
theorem p_185_35 (L : Nat) (xs : Nat → Int32) : ll_P L xs 185 35 = some (.inl (lo_aload 36 0)) := (P_185 L xs 35).trans rfl
theorem p_185_36 (L : Nat) (xs : Nat → Int32) : ll_P L xs 185 36 = some (.inl (lo_getf 39 11 0)) := (P_185 L xs 36).trans rfl
theorem p_185_39 (L : Nat) (xs : Nat → Int32) : ll_P L xs 185 39 = some (.inl (lo_iload 40 1)) := (P_185 L xs 39).trans rfl
theorem p_185_40 (L : Nat) (xs : Nat → Int32) : ll_P L xs 185 40 = some (.inl (lo_push 43 (.int 487))) := (P_185 L xs 40).trans rfl
theorem p_185_43 (L : Nat) (xs : Nat → Int32) : ll_P L xs 185 43 = some (.inl (lo_bin 44 (fun x y => x + y))) := (P_185 L xs 43).trans rfl
theorem p_185_44 (L : Nat) (xs : Nat → Int32) : ll_P L xs 185 44 = some (.inl (lo_iload 46 4)) := (P_185 L xs 44).trans rfl
theorem p_185_46 (L : Nat) (xs : Nat → Int32) : ll_P L xs 185 46 = some (.inl (lo_bin 47 (fun x y => x + y))) := (P_185 L xs 46).trans rfl
theorem p_185_47 (L : Nat) (xs : Nat → Int32) : ll_P L xs 185 47 = some (.inl (lo_ald 48 0)) := (P_185 L xs 47).trans rfl
theorem p_185_48 (L : Nat) (xs : Nat → Int32) : ll_P L xs 185 48 = some (.inl (lo_iload 49 3)) := (P_185 L xs 48).trans rfl
theorem p_185_49 (L : Nat) (xs : Nat → Int32) : ll_P L xs 185 49 = some (.inl (lo_push 50 (.int (-1)))) := (P_185 L xs 49).trans rfl
theorem p_185_50 (L : Nat) (xs : Nat → Int32) : ll_P L xs 185 50 = some (.inl (lo_bin 51 (fun x y => x ^^^ y))) := (P_185 L xs 50).trans rfl
theorem p_185_51 (L : Nat) (xs : Nat → Int32) : ll_P L xs 185 51 = some (.inl (lo_bin 52 (fun x y => x &&& y))) := (P_185 L xs 51).trans rfl
theorem p_185_52 (L : Nat) (xs : Nat → Int32) : ll_P L xs 185 52 = some (.inl (lo_if 58 55 (fun x => decide (¬ x = 0)))) := (P_185 L xs 52).trans rfl
theorem p_185_55 (L : Nat) (xs : Nat → Int32) : ll_P L xs 185 55 = some (.inl (lo_iload 57 4)) := (P_185 L xs 55).trans rfl
theorem p_185_57 (L : Nat) (xs : Nat → Int32) : ll_P L xs 185 57 = some (.inr (.inr 1)) := (P_185 L xs 57).trans rfl
theorem p_185_58 (L : Nat) (xs : Nat → Int32) : ll_P L xs 185 58 = some (.inl (lo_iinc 61 4 1)) := (P_185 L xs 58).trans rfl
theorem p_185_61 (L : Nat) (xs : Nat → Int32) : ll_P L xs 185 61 = some (.inl (lo_goto 3)) := (P_185 L xs 61).trans rfl
theorem p_185_64 (L : Nat) (xs : Nat → Int32) : ll_P L xs 185 64 = some (.inl (lo_push 65 (.int (-1)))) := (P_185 L xs 64).trans rfl
theorem p_185_65 (L : Nat) (xs : Nat → Int32) : ll_P L xs 185 65 = some (.inr (.inr 1)) := (P_185 L xs 65).trans rfl
theorem b_185_0 {Y : sY} {d : Nat} {s : sT} {K : Option Int32 → sT → Prop} {r0 : Nat} {x1 : Int32} {x2 : Int32} {x3 : Int32} (h : tT Y d 185 3 [.ref r0, .int x1, .int x2, .int x3, .int (0 : Int32)] [] s K) : tT Y d 185 0 [.ref r0, .int x1, .int x2, .int x3, .null] [] s K :=
  (tt_push (p_185_0 _ _)).mpr ((tt_istore (p_185_1 _ _) (Nat.le_of_ble_eq_true rfl) rfl rfl).mpr (h))
theorem b_185_3 {Y : sY} {d : Nat} {s : sT} {K : Option Int32 → sT → Prop} {r0 : Nat} {x1 : Int32} {x2 : Int32} {x3 : Int32} {x4 : Int32} (h : (∃ a1, (isO Y r0 11 ∧ s.2 r0 0 = some a1) ∧ (∃ m3, (isA Y a1 0 m3 ∧ inR (x1 + (186 : Int32)) m3) ∧ (if (s.1 a1 ((x1 + (186 : Int32))).toNatClampNeg) ≤ x4 then K (some (-1 : Int32)) s else (∃ a6, (isO Y r0 11 ∧ s.2 r0 0 = some a6) ∧ (∃ m8, (isA Y a6 0 m8 ∧ inR ((x1 + (187 : Int32)) + x4) m8) ∧ (if ¬ (s.1 a6 (((x1 + (187 : Int32)) + x4)).toNatClampNeg) = x2 then tT Y d 185 58 [.ref r0, .int x1, .int x2, .int x3, .int x4] [] s K else (∃ a11, (isO Y r0 11 ∧ s.2 r0 0 = some a11) ∧ (∃ m13, (isA Y a11 0 m13 ∧ inR ((x1 + (487 : Int32)) + x4) m13) ∧ (if ¬ ((s.1 a11 (((x1 + (487 : Int32)) + x4)).toNatClampNeg) &&& (x3 ^^^ (-1 : Int32))) = 0 then tT Y d 185 58 [.ref r0, .int x1, .int x2, .int x3, .int x4] [] s K else K (some x4) s)))))))))) : tT Y d 185 3 [.ref r0, .int x1, .int x2, .int x3, .int x4] [] s K :=
  (tt_iload (p_185_3 _ _) rfl).mpr ((tt_aload (p_185_5 _ _) rfl).mpr (Exists.elim h (fun a1 h2 => t3_getr (p_185_6 _ _) (isI_11_0) h2.1.1 h2.1.2 ((tt_iload (p_185_9 _ _) rfl).mpr ((tt_push (p_185_10 _ _)).mpr ((tt_bin (p_185_13 _ _)).mpr (Exists.elim h2.2 (fun m3 h4 => t3_ald (p_185_14 _ _) h4.1.1 h4.1.2 (t3_cmp (p := (s.1 a1 ((x1 + (186 : Int32))).toNatClampNeg) ≤ x4) (p_185_15 _ _) rfl (fun g5 => (tt_push (p_185_64 _ _)).mpr (tt_ret1 (p_185_65 _ _) (ifp h4.2 g5))) (fun g5 => (tt_aload (p_185_18 _ _) rfl).mpr (Exists.elim (ifn h4.2 g5) (fun a6 h7 => t3_getr (p_185_19 _ _) (isI_11_0) h7.1.1 h7.1.2 ((tt_iload (p_185_22 _ _) rfl).mpr ((tt_push (p_185_23 _ _)).mpr ((tt_bin (p_185_26 _ _)).mpr ((tt_iload (p_185_27 _ _) rfl).mpr ((tt_bin (p_185_29 _ _)).mpr (Exists.elim h7.2 (fun m8 h9 => t3_ald (p_185_30 _ _) h9.1.1 h9.1.2 ((tt_iload (p_185_31 _ _) rfl).mpr (t3_cmp (p := ¬ (s.1 a6 (((x1 + (187 : Int32)) + x4)).toNatClampNeg) = x2) (p_185_32 _ _) rfl (fun g10 => (ifp h9.2 g10)) (fun g10 => (tt_aload (p_185_35 _ _) rfl).mpr (Exists.elim (ifn h9.2 g10) (fun a11 h12 => t3_getr (p_185_36 _ _) (isI_11_0) h12.1.1 h12.1.2 ((tt_iload (p_185_39 _ _) rfl).mpr ((tt_push (p_185_40 _ _)).mpr ((tt_bin (p_185_43 _ _)).mpr ((tt_iload (p_185_44 _ _) rfl).mpr ((tt_bin (p_185_46 _ _)).mpr (Exists.elim h12.2 (fun m13 h14 => t3_ald (p_185_47 _ _) h14.1.1 h14.1.2 ((tt_iload (p_185_48 _ _) rfl).mpr ((tt_push (p_185_49 _ _)).mpr ((tt_bin (p_185_50 _ _)).mpr ((tt_bin (p_185_51 _ _)).mpr (t3_if (p := ¬ ((s.1 a11 (((x1 + (487 : Int32)) + x4)).toNatClampNeg) &&& (x3 ^^^ (-1 : Int32))) = 0) (p_185_52 _ _) rfl (fun g15 => (ifp h14.2 g15)) (fun g15 => (tt_iload (p_185_55 _ _) rfl).mpr (tt_ret1 (p_185_57 _ _) (ifn h14.2 g15)))))))))))))))))))))))))))))))))))))))
theorem b_185_58 {Y : sY} {d : Nat} {s : sT} {K : Option Int32 → sT → Prop} {r0 : Nat} {x1 : Int32} {x2 : Int32} {x3 : Int32} {x4 : Int32} (h : tT Y d 185 3 [.ref r0, .int x1, .int x2, .int x3, .int (x4 + 1)] [] s K) : tT Y d 185 58 [.ref r0, .int x1, .int x2, .int x3, .int x4] [] s K :=
  (tt_iinc (p_185_58 _ _) rfl rfl rfl).mpr ((tt_goto (p_185_61 _ _)).mpr (h))
/-! InclusionProverModel.newLine.(IIIII)V -/
theorem p_186_0 (L : Nat) (xs : Nat → Int32) : ll_P L xs 186 0 = some (.inl (lo_aload 1 0)) := (P_186 L xs 0).trans rfl
theorem p_186_1 (L : Nat) (xs : Nat → Int32) : ll_P L xs 186 1 = some (.inl (lo_getf 4 11 0)) := (P_186 L xs 1).trans rfl
theorem p_186_4 (L : Nat) (xs : Nat → Int32) : ll_P L xs 186 4 = some (.inl (lo_iload 5 1)) := (P_186 L xs 4).trans rfl
theorem p_186_5 (L : Nat) (xs : Nat → Int32) : ll_P L xs 186 5 = some (.inl (lo_push 8 (.int 186))) := (P_186 L xs 5).trans rfl
theorem p_186_8 (L : Nat) (xs : Nat → Int32) : ll_P L xs 186 8 = some (.inl (lo_bin 9 (fun x y => x + y))) := (P_186 L xs 8).trans rfl
theorem p_186_9 (L : Nat) (xs : Nat → Int32) : ll_P L xs 186 9 = some (.inl (lo_ald 10 0)) := (P_186 L xs 9).trans rfl
theorem p_186_10 (L : Nat) (xs : Nat → Int32) : ll_P L xs 186 10 = some (.inl (lo_istore 12 6)) := (P_186 L xs 10).trans rfl
theorem p_186_12 (L : Nat) (xs : Nat → Int32) : ll_P L xs 186 12 = some (.inl (lo_aload 13 0)) := (P_186 L xs 12).trans rfl
theorem p_186_13 (L : Nat) (xs : Nat → Int32) : ll_P L xs 186 13 = some (.inl (lo_getf 16 11 0)) := (P_186 L xs 13).trans rfl
theorem p_186_16 (L : Nat) (xs : Nat → Int32) : ll_P L xs 186 16 = some (.inl (lo_iload 17 1)) := (P_186 L xs 16).trans rfl
theorem p_186_17 (L : Nat) (xs : Nat → Int32) : ll_P L xs 186 17 = some (.inl (lo_push 20 (.int 187))) := (P_186 L xs 17).trans rfl
theorem p_186_20 (L : Nat) (xs : Nat → Int32) : ll_P L xs 186 20 = some (.inl (lo_bin 21 (fun x y => x + y))) := (P_186 L xs 20).trans rfl
theorem p_186_21 (L : Nat) (xs : Nat → Int32) : ll_P L xs 186 21 = some (.inl (lo_iload 23 6)) := (P_186 L xs 21).trans rfl
theorem p_186_23 (L : Nat) (xs : Nat → Int32) : ll_P L xs 186 23 = some (.inl (lo_bin 24 (fun x y => x + y))) := (P_186 L xs 23).trans rfl
theorem p_186_24 (L : Nat) (xs : Nat → Int32) : ll_P L xs 186 24 = some (.inl (lo_iload 25 2)) := (P_186 L xs 24).trans rfl
theorem p_186_25 (L : Nat) (xs : Nat → Int32) : ll_P L xs 186 25 = some (.inl (lo_ast 26 0)) := (P_186 L xs 25).trans rfl
theorem p_186_26 (L : Nat) (xs : Nat → Int32) : ll_P L xs 186 26 = some (.inl (lo_aload 27 0)) := (P_186 L xs 26).trans rfl
theorem p_186_27 (L : Nat) (xs : Nat → Int32) : ll_P L xs 186 27 = some (.inl (lo_getf 30 11 0)) := (P_186 L xs 27).trans rfl
theorem p_186_30 (L : Nat) (xs : Nat → Int32) : ll_P L xs 186 30 = some (.inl (lo_iload 31 1)) := (P_186 L xs 30).trans rfl
theorem p_186_31 (L : Nat) (xs : Nat → Int32) : ll_P L xs 186 31 = some (.inl (lo_push 34 (.int 487))) := (P_186 L xs 31).trans rfl
theorem p_186_34 (L : Nat) (xs : Nat → Int32) : ll_P L xs 186 34 = some (.inl (lo_bin 35 (fun x y => x + y))) := (P_186 L xs 34).trans rfl
theorem p_186_35 (L : Nat) (xs : Nat → Int32) : ll_P L xs 186 35 = some (.inl (lo_iload 37 6)) := (P_186 L xs 35).trans rfl
theorem p_186_37 (L : Nat) (xs : Nat → Int32) : ll_P L xs 186 37 = some (.inl (lo_bin 38 (fun x y => x + y))) := (P_186 L xs 37).trans rfl
theorem p_186_38 (L : Nat) (xs : Nat → Int32) : ll_P L xs 186 38 = some (.inl (lo_iload 39 3)) := (P_186 L xs 38).trans rfl
theorem p_186_39 (L : Nat) (xs : Nat → Int32) : ll_P L xs 186 39 = some (.inl (lo_ast 40 0)) := (P_186 L xs 39).trans rfl
theorem p_186_40 (L : Nat) (xs : Nat → Int32) : ll_P L xs 186 40 = some (.inl (lo_aload 41 0)) := (P_186 L xs 40).trans rfl
theorem p_186_41 (L : Nat) (xs : Nat → Int32) : ll_P L xs 186 41 = some (.inl (lo_getf 44 11 0)) := (P_186 L xs 41).trans rfl
theorem p_186_44 (L : Nat) (xs : Nat → Int32) : ll_P L xs 186 44 = some (.inl (lo_iload 45 1)) := (P_186 L xs 44).trans rfl
theorem p_186_45 (L : Nat) (xs : Nat → Int32) : ll_P L xs 186 45 = some (.inl (lo_push 48 (.int 787))) := (P_186 L xs 45).trans rfl
theorem p_186_48 (L : Nat) (xs : Nat → Int32) : ll_P L xs 186 48 = some (.inl (lo_bin 49 (fun x y => x + y))) := (P_186 L xs 48).trans rfl
theorem p_186_49 (L : Nat) (xs : Nat → Int32) : ll_P L xs 186 49 = some (.inl (lo_iload 51 6)) := (P_186 L xs 49).trans rfl
theorem p_186_51 (L : Nat) (xs : Nat → Int32) : ll_P L xs 186 51 = some (.inl (lo_bin 52 (fun x y => x + y))) := (P_186 L xs 51).trans rfl
theorem p_186_52 (L : Nat) (xs : Nat → Int32) : ll_P L xs 186 52 = some (.inl (lo_push 53 (.int (-1)))) := (P_186 L xs 52).trans rfl
theorem p_186_53 (L : Nat) (xs : Nat → Int32) : ll_P L xs 186 53 = some (.inl (lo_ast 54 0)) := (P_186 L xs 53).trans rfl
theorem p_186_54 (L : Nat) (xs : Nat → Int32) : ll_P L xs 186 54 = some (.inl (lo_aload 55 0)) := (P_186 L xs 54).trans rfl
theorem p_186_55 (L : Nat) (xs : Nat → Int32) : ll_P L xs 186 55 = some (.inl (lo_getf 58 11 0)) := (P_186 L xs 55).trans rfl
theorem p_186_58 (L : Nat) (xs : Nat → Int32) : ll_P L xs 186 58 = some (.inl (lo_iload 59 1)) := (P_186 L xs 58).trans rfl
theorem p_186_59 (L : Nat) (xs : Nat → Int32) : ll_P L xs 186 59 = some (.inl (lo_push 62 (.int 1087))) := (P_186 L xs 59).trans rfl
theorem p_186_62 (L : Nat) (xs : Nat → Int32) : ll_P L xs 186 62 = some (.inl (lo_bin 63 (fun x y => x + y))) := (P_186 L xs 62).trans rfl
theorem p_186_63 (L : Nat) (xs : Nat → Int32) : ll_P L xs 186 63 = some (.inl (lo_iload 65 6)) := (P_186 L xs 63).trans rfl
theorem p_186_65 (L : Nat) (xs : Nat → Int32) : ll_P L xs 186 65 = some (.inl (lo_bin 66 (fun x y => x + y))) := (P_186 L xs 65).trans rfl
theorem p_186_66 (L : Nat) (xs : Nat → Int32) : ll_P L xs 186 66 = some (.inl (lo_push 67 (.int 0))) := (P_186 L xs 66).trans rfl
theorem p_186_67 (L : Nat) (xs : Nat → Int32) : ll_P L xs 186 67 = some (.inl (lo_ast 68 0)) := (P_186 L xs 67).trans rfl
theorem p_186_68 (L : Nat) (xs : Nat → Int32) : ll_P L xs 186 68 = some (.inl (lo_aload 69 0)) := (P_186 L xs 68).trans rfl
theorem p_186_69 (L : Nat) (xs : Nat → Int32) : ll_P L xs 186 69 = some (.inl (lo_getf 72 11 39)) := (P_186 L xs 69).trans rfl
theorem p_186_72 (L : Nat) (xs : Nat → Int32) : ll_P L xs 186 72 = some (.inl (lo_iload 74 6)) := (P_186 L xs 72).trans rfl
theorem p_186_74 (L : Nat) (xs : Nat → Int32) : ll_P L xs 186 74 = some (.inl (lo_iload 76 4)) := (P_186 L xs 74).trans rfl
theorem p_186_76 (L : Nat) (xs : Nat → Int32) : ll_P L xs 186 76 = some (.inl (lo_ast 77 0)) := (P_186 L xs 76).trans rfl
theorem p_186_77 (L : Nat) (xs : Nat → Int32) : ll_P L xs 186 77 = some (.inl (lo_aload 78 0)) := (P_186 L xs 77).trans rfl
theorem p_186_78 (L : Nat) (xs : Nat → Int32) : ll_P L xs 186 78 = some (.inl (lo_getf 81 11 40)) := (P_186 L xs 78).trans rfl
theorem p_186_81 (L : Nat) (xs : Nat → Int32) : ll_P L xs 186 81 = some (.inl (lo_iload 83 6)) := (P_186 L xs 81).trans rfl
theorem p_186_83 (L : Nat) (xs : Nat → Int32) : ll_P L xs 186 83 = some (.inl (lo_iload 85 5)) := (P_186 L xs 83).trans rfl
theorem p_186_85 (L : Nat) (xs : Nat → Int32) : ll_P L xs 186 85 = some (.inl (lo_ast 86 0)) := (P_186 L xs 85).trans rfl
theorem p_186_86 (L : Nat) (xs : Nat → Int32) : ll_P L xs 186 86 = some (.inl (lo_aload 87 0)) := (P_186 L xs 86).trans rfl
theorem p_186_87 (L : Nat) (xs : Nat → Int32) : ll_P L xs 186 87 = some (.inl (lo_getf 90 11 41)) := (P_186 L xs 87).trans rfl
theorem p_186_90 (L : Nat) (xs : Nat → Int32) : ll_P L xs 186 90 = some (.inl (lo_iload 92 6)) := (P_186 L xs 90).trans rfl
theorem p_186_92 (L : Nat) (xs : Nat → Int32) : ll_P L xs 186 92 = some (.inl (lo_iload 94 4)) := (P_186 L xs 92).trans rfl
theorem p_186_94 (L : Nat) (xs : Nat → Int32) : ll_P L xs 186 94 = some (.inl (lo_push 95 (.int (-1)))) := (P_186 L xs 94).trans rfl
theorem p_186_95 (L : Nat) (xs : Nat → Int32) : ll_P L xs 186 95 = some (.inl (lo_cmp 102 98 (fun x y => decide (¬ x = y)))) := (P_186 L xs 95).trans rfl
theorem p_186_98 (L : Nat) (xs : Nat → Int32) : ll_P L xs 186 98 = some (.inl (lo_push 99 (.int 0))) := (P_186 L xs 98).trans rfl
theorem p_186_99 (L : Nat) (xs : Nat → Int32) : ll_P L xs 186 99 = some (.inl (lo_goto 111)) := (P_186 L xs 99).trans rfl
theorem p_186_102 (L : Nat) (xs : Nat → Int32) : ll_P L xs 186 102 = some (.inl (lo_aload 103 0)) := (P_186 L xs 102).trans rfl
theorem p_186_103 (L : Nat) (xs : Nat → Int32) : ll_P L xs 186 103 = some (.inl (lo_getf 106 11 41)) := (P_186 L xs 103).trans rfl
theorem p_186_106 (L : Nat) (xs : Nat → Int32) : ll_P L xs 186 106 = some (.inl (lo_iload 108 4)) := (P_186 L xs 106).trans rfl
theorem p_186_108 (L : Nat) (xs : Nat → Int32) : ll_P L xs 186 108 = some (.inl (lo_ald 109 0)) := (P_186 L xs 108).trans rfl
theorem p_186_109 (L : Nat) (xs : Nat → Int32) : ll_P L xs 186 109 = some (.inl (lo_push 110 (.int 1))) := (P_186 L xs 109).trans rfl
theorem p_186_110 (L : Nat) (xs : Nat → Int32) : ll_P L xs 186 110 = some (.inl (lo_bin 111 (fun x y => x + y))) := (P_186 L xs 110).trans rfl
theorem p_186_111 (L : Nat) (xs : Nat → Int32) : ll_P L xs 186 111 = some (.inl (lo_ast 112 0)) := (P_186 L xs 111).trans rfl
theorem p_186_112 (L : Nat) (xs : Nat → Int32) : ll_P L xs 186 112 = some (.inl (lo_aload 113 0)) := (P_186 L xs 112).trans rfl
theorem p_186_113 (L : Nat) (xs : Nat → Int32) : ll_P L xs 186 113 = some (.inl (lo_getf 116 11 0)) := (P_186 L xs 113).trans rfl
theorem p_186_116 (L : Nat) (xs : Nat → Int32) : ll_P L xs 186 116 = some (.inl (lo_iload 117 1)) := (P_186 L xs 116).trans rfl
theorem p_186_117 (L : Nat) (xs : Nat → Int32) : ll_P L xs 186 117 = some (.inl (lo_push 120 (.int 10387))) := (P_186 L xs 117).trans rfl
theorem p_186_120 (L : Nat) (xs : Nat → Int32) : ll_P L xs 186 120 = some (.inl (lo_bin 121 (fun x y => x + y))) := (P_186 L xs 120).trans rfl
theorem p_186_121 (L : Nat) (xs : Nat → Int32) : ll_P L xs 186 121 = some (.inl (lo_aload 122 0)) := (P_186 L xs 121).trans rfl
theorem p_186_122 (L : Nat) (xs : Nat → Int32) : ll_P L xs 186 122 = some (.inl (lo_getf 125 11 41)) := (P_186 L xs 122).trans rfl
theorem p_186_125 (L : Nat) (xs : Nat → Int32) : ll_P L xs 186 125 = some (.inl (lo_iload 127 6)) := (P_186 L xs 125).trans rfl
theorem p_186_127 (L : Nat) (xs : Nat → Int32) : ll_P L xs 186 127 = some (.inl (lo_ald 128 0)) := (P_186 L xs 127).trans rfl
theorem p_186_128 (L : Nat) (xs : Nat → Int32) : ll_P L xs 186 128 = some (.inl (lo_aload 129 0)) := (P_186 L xs 128).trans rfl
theorem p_186_129 (L : Nat) (xs : Nat → Int32) : ll_P L xs 186 129 = some (.inl (lo_getf 132 11 0)) := (P_186 L xs 129).trans rfl
theorem p_186_132 (L : Nat) (xs : Nat → Int32) : ll_P L xs 186 132 = some (.inl (lo_iload 133 1)) := (P_186 L xs 132).trans rfl
theorem p_186_133 (L : Nat) (xs : Nat → Int32) : ll_P L xs 186 133 = some (.inl (lo_push 136 (.int 10387))) := (P_186 L xs 133).trans rfl
theorem p_186_136 (L : Nat) (xs : Nat → Int32) : ll_P L xs 186 136 = some (.inl (lo_bin 137 (fun x y => x + y))) := (P_186 L xs 136).trans rfl
theorem p_186_137 (L : Nat) (xs : Nat → Int32) : ll_P L xs 186 137 = some (.inl (lo_ald 138 0)) := (P_186 L xs 137).trans rfl
theorem p_186_138 (L : Nat) (xs : Nat → Int32) : ll_P L xs 186 138 = some (.inl (lo_cmp 151 141 (fun x y => decide (x ≤ y)))) := (P_186 L xs 138).trans rfl
theorem p_186_141 (L : Nat) (xs : Nat → Int32) : ll_P L xs 186 141 = some (.inl (lo_aload 142 0)) := (P_186 L xs 141).trans rfl
theorem p_186_142 (L : Nat) (xs : Nat → Int32) : ll_P L xs 186 142 = some (.inl (lo_getf 145 11 41)) := (P_186 L xs 142).trans rfl
theorem p_186_145 (L : Nat) (xs : Nat → Int32) : ll_P L xs 186 145 = some (.inl (lo_iload 147 6)) := (P_186 L xs 145).trans rfl
theorem p_186_147 (L : Nat) (xs : Nat → Int32) : ll_P L xs 186 147 = some (.inl (lo_ald 148 0)) := (P_186 L xs 147).trans rfl
theorem p_186_148 (L : Nat) (xs : Nat → Int32) : ll_P L xs 186 148 = some (.inl (lo_goto 161)) := (P_186 L xs 148).trans rfl
theorem p_186_151 (L : Nat) (xs : Nat → Int32) : ll_P L xs 186 151 = some (.inl (lo_aload 152 0)) := (P_186 L xs 151).trans rfl
theorem p_186_152 (L : Nat) (xs : Nat → Int32) : ll_P L xs 186 152 = some (.inl (lo_getf 155 11 0)) := (P_186 L xs 152).trans rfl
theorem p_186_155 (L : Nat) (xs : Nat → Int32) : ll_P L xs 186 155 = some (.inl (lo_iload 156 1)) := (P_186 L xs 155).trans rfl
theorem p_186_156 (L : Nat) (xs : Nat → Int32) : ll_P L xs 186 156 = some (.inl (lo_push 159 (.int 10387))) := (P_186 L xs 156).trans rfl
theorem p_186_159 (L : Nat) (xs : Nat → Int32) : ll_P L xs 186 159 = some (.inl (lo_bin 160 (fun x y => x + y))) := (P_186 L xs 159).trans rfl
theorem p_186_160 (L : Nat) (xs : Nat → Int32) : ll_P L xs 186 160 = some (.inl (lo_ald 161 0)) := (P_186 L xs 160).trans rfl
theorem p_186_161 (L : Nat) (xs : Nat → Int32) : ll_P L xs 186 161 = some (.inl (lo_ast 162 0)) := (P_186 L xs 161).trans rfl
theorem p_186_162 (L : Nat) (xs : Nat → Int32) : ll_P L xs 186 162 = some (.inl (lo_aload 163 0)) := (P_186 L xs 162).trans rfl
theorem p_186_163 (L : Nat) (xs : Nat → Int32) : ll_P L xs 186 163 = some (.inl (lo_getf 166 11 0)) := (P_186 L xs 163).trans rfl
theorem p_186_166 (L : Nat) (xs : Nat → Int32) : ll_P L xs 186 166 = some (.inl (lo_iload 167 1)) := (P_186 L xs 166).trans rfl
theorem p_186_167 (L : Nat) (xs : Nat → Int32) : ll_P L xs 186 167 = some (.inl (lo_push 170 (.int 186))) := (P_186 L xs 167).trans rfl
theorem p_186_170 (L : Nat) (xs : Nat → Int32) : ll_P L xs 186 170 = some (.inl (lo_bin 171 (fun x y => x + y))) := (P_186 L xs 170).trans rfl
theorem p_186_171 (L : Nat) (xs : Nat → Int32) : ll_P L xs 186 171 = some (.inl (lo_dup2 172)) := (P_186 L xs 171).trans rfl
theorem p_186_172 (L : Nat) (xs : Nat → Int32) : ll_P L xs 186 172 = some (.inl (lo_ald 173 0)) := (P_186 L xs 172).trans rfl
theorem p_186_173 (L : Nat) (xs : Nat → Int32) : ll_P L xs 186 173 = some (.inl (lo_push 174 (.int 1))) := (P_186 L xs 173).trans rfl
theorem p_186_174 (L : Nat) (xs : Nat → Int32) : ll_P L xs 186 174 = some (.inl (lo_bin 175 (fun x y => x + y))) := (P_186 L xs 174).trans rfl
theorem p_186_175 (L : Nat) (xs : Nat → Int32) : ll_P L xs 186 175 = some (.inl (lo_ast 176 0)) := (P_186 L xs 175).trans rfl
theorem p_186_176 (L : Nat) (xs : Nat → Int32) : ll_P L xs 186 176 = some (.inr (.inr 0)) := (P_186 L xs 176).trans rfl
theorem b_186_0 {Y : sY} {d : Nat} {s : sT} {K : Option Int32 → sT → Prop} {r0 : Nat} {x1 : Int32} {x2 : Int32} {x3 : Int32} {x4 : Int32} {x5 : Int32} (h : (∃ a1, (isO Y r0 11 ∧ s.2 r0 0 = some a1) ∧ (∃ m3, (isA Y a1 0 m3 ∧ inR (x1 + (186 : Int32)) m3) ∧ (∃ a5, (isO Y r0 11 ∧ s.2 r0 0 = some a5) ∧ (∃ m7, (isA Y a5 0 m7 ∧ inR ((x1 + (187 : Int32)) + (s.1 a1 ((x1 + (186 : Int32))).toNatClampNeg)) m7) ∧ (∃ a9, (isO Y r0 11 ∧ (pV s a5 (((x1 + (187 : Int32)) + (s.1 a1 ((x1 + (186 : Int32))).toNatClampNeg))).toNatClampNeg x2).2 r0 0 = some a9) ∧ (∃ m11, (isA Y a9 0 m11 ∧ inR ((x1 + (487 : Int32)) + (s.1 a1 ((x1 + (186 : Int32))).toNatClampNeg)) m11) ∧ (∃ a13, (isO Y r0 11 ∧ (pV (pV s a5 (((x1 + (187 : Int32)) + (s.1 a1 ((x1 + (186 : Int32))).toNatClampNeg))).toNatClampNeg x2) a9 (((x1 + (487 : Int32)) + (s.1 a1 ((x1 + (186 : Int32))).toNatClampNeg))).toNatClampNeg x3).2 r0 0 = some a13) ∧ (∃ m15, (isA Y a13 0 m15 ∧ inR ((x1 + (787 : Int32)) + (s.1 a1 ((x1 + (186 : Int32))).toNatClampNeg)) m15) ∧ (∃ a17, (isO Y r0 11 ∧ (pV (pV (pV s a5 (((x1 + (187 : Int32)) + (s.1 a1 ((x1 + (186 : Int32))).toNatClampNeg))).toNatClampNeg x2) a9 (((x1 + (487 : Int32)) + (s.1 a1 ((x1 + (186 : Int32))).toNatClampNeg))).toNatClampNeg x3) a13 (((x1 + (787 : Int32)) + (s.1 a1 ((x1 + (186 : Int32))).toNatClampNeg))).toNatClampNeg (-1 : Int32)).2 r0 0 = some a17) ∧ (∃ m19, (isA Y a17 0 m19 ∧ inR ((x1 + (1087 : Int32)) + (s.1 a1 ((x1 + (186 : Int32))).toNatClampNeg)) m19) ∧ (∃ a21, (isO Y r0 11 ∧ (pV (pV (pV (pV s a5 (((x1 + (187 : Int32)) + (s.1 a1 ((x1 + (186 : Int32))).toNatClampNeg))).toNatClampNeg x2) a9 (((x1 + (487 : Int32)) + (s.1 a1 ((x1 + (186 : Int32))).toNatClampNeg))).toNatClampNeg x3) a13 (((x1 + (787 : Int32)) + (s.1 a1 ((x1 + (186 : Int32))).toNatClampNeg))).toNatClampNeg (-1 : Int32)) a17 (((x1 + (1087 : Int32)) + (s.1 a1 ((x1 + (186 : Int32))).toNatClampNeg))).toNatClampNeg (0 : Int32)).2 r0 39 = some a21) ∧ (∃ m23, (isA Y a21 0 m23 ∧ inR (s.1 a1 ((x1 + (186 : Int32))).toNatClampNeg) m23) ∧ (∃ a25, (isO Y r0 11 ∧ (pV (pV (pV (pV (pV s a5 (((x1 + (187 : Int32)) + (s.1 a1 ((x1 + (186 : Int32))).toNatClampNeg))).toNatClampNeg x2) a9 (((x1 + (487 : Int32)) + (s.1 a1 ((x1 + (186 : Int32))).toNatClampNeg))).toNatClampNeg x3) a13 (((x1 + (787 : Int32)) + (s.1 a1 ((x1 + (186 : Int32))).toNatClampNeg))).toNatClampNeg (-1 : Int32)) a17 (((x1 + (1087 : Int32)) + (s.1 a1 ((x1 + (186 : Int32))).toNatClampNeg))).toNatClampNeg (0 : Int32)) a21 ((s.1 a1 ((x1 + (186 : Int32))).toNatClampNeg)).toNatClampNeg x4).2 r0 40 = some a25) ∧ (∃ m27, (isA Y a25 0 m27 ∧ inR (s.1 a1 ((x1 + (186 : Int32))).toNatClampNeg) m27) ∧ (∃ a29, (isO Y r0 11 ∧ (pV (pV (pV (pV (pV (pV s a5 (((x1 + (187 : Int32)) + (s.1 a1 ((x1 + (186 : Int32))).toNatClampNeg))).toNatClampNeg x2) a9 (((x1 + (487 : Int32)) + (s.1 a1 ((x1 + (186 : Int32))).toNatClampNeg))).toNatClampNeg x3) a13 (((x1 + (787 : Int32)) + (s.1 a1 ((x1 + (186 : Int32))).toNatClampNeg))).toNatClampNeg (-1 : Int32)) a17 (((x1 + (1087 : Int32)) + (s.1 a1 ((x1 + (186 : Int32))).toNatClampNeg))).toNatClampNeg (0 : Int32)) a21 ((s.1 a1 ((x1 + (186 : Int32))).toNatClampNeg)).toNatClampNeg x4) a25 ((s.1 a1 ((x1 + (186 : Int32))).toNatClampNeg)).toNatClampNeg x5).2 r0 41 = some a29) ∧ (if ¬ x4 = (-1 : Int32) then (∃ a32, (isO Y r0 11 ∧ (pV (pV (pV (pV (pV (pV s a5 (((x1 + (187 : Int32)) + (s.1 a1 ((x1 + (186 : Int32))).toNatClampNeg))).toNatClampNeg x2) a9 (((x1 + (487 : Int32)) + (s.1 a1 ((x1 + (186 : Int32))).toNatClampNeg))).toNatClampNeg x3) a13 (((x1 + (787 : Int32)) + (s.1 a1 ((x1 + (186 : Int32))).toNatClampNeg))).toNatClampNeg (-1 : Int32)) a17 (((x1 + (1087 : Int32)) + (s.1 a1 ((x1 + (186 : Int32))).toNatClampNeg))).toNatClampNeg (0 : Int32)) a21 ((s.1 a1 ((x1 + (186 : Int32))).toNatClampNeg)).toNatClampNeg x4) a25 ((s.1 a1 ((x1 + (186 : Int32))).toNatClampNeg)).toNatClampNeg x5).2 r0 41 = some a32) ∧ (∃ m34, (isA Y a32 0 m34 ∧ inR x4 m34) ∧ tT Y d 186 111 [.ref r0, .int x1, .int x2, .int x3, .int x4, .int x5, .int (s.1 a1 ((x1 + (186 : Int32))).toNatClampNeg)] [.int (((pV (pV (pV (pV (pV (pV s a5 (((x1 + (187 : Int32)) + (s.1 a1 ((x1 + (186 : Int32))).toNatClampNeg))).toNatClampNeg x2) a9 (((x1 + (487 : Int32)) + (s.1 a1 ((x1 + (186 : Int32))).toNatClampNeg))).toNatClampNeg x3) a13 (((x1 + (787 : Int32)) + (s.1 a1 ((x1 + (186 : Int32))).toNatClampNeg))).toNatClampNeg (-1 : Int32)) a17 (((x1 + (1087 : Int32)) + (s.1 a1 ((x1 + (186 : Int32))).toNatClampNeg))).toNatClampNeg (0 : Int32)) a21 ((s.1 a1 ((x1 + (186 : Int32))).toNatClampNeg)).toNatClampNeg x4) a25 ((s.1 a1 ((x1 + (186 : Int32))).toNatClampNeg)).toNatClampNeg x5).1 a32 (x4).toNatClampNeg) + (1 : Int32)), .int (s.1 a1 ((x1 + (186 : Int32))).toNatClampNeg), .ref a29] (pV (pV (pV (pV (pV (pV s a5 (((x1 + (187 : Int32)) + (s.1 a1 ((x1 + (186 : Int32))).toNatClampNeg))).toNatClampNeg x2) a9 (((x1 + (487 : Int32)) + (s.1 a1 ((x1 + (186 : Int32))).toNatClampNeg))).toNatClampNeg x3) a13 (((x1 + (787 : Int32)) + (s.1 a1 ((x1 + (186 : Int32))).toNatClampNeg))).toNatClampNeg (-1 : Int32)) a17 (((x1 + (1087 : Int32)) + (s.1 a1 ((x1 + (186 : Int32))).toNatClampNeg))).toNatClampNeg (0 : Int32)) a21 ((s.1 a1 ((x1 + (186 : Int32))).toNatClampNeg)).toNatClampNeg x4) a25 ((s.1 a1 ((x1 + (186 : Int32))).toNatClampNeg)).toNatClampNeg x5) K)) else tT Y d 186 111 [.ref r0, .int x1, .int x2, .int x3, .int x4, .int x5, .int (s.1 a1 ((x1 + (186 : Int32))).toNatClampNeg)] [.int (0 : Int32), .int (s.1 a1 ((x1 + (186 : Int32))).toNatClampNeg), .ref a29] (pV (pV (pV (pV (pV (pV s a5 (((x1 + (187 : Int32)) + (s.1 a1 ((x1 + (186 : Int32))).toNatClampNeg))).toNatClampNeg x2) a9 (((x1 + (487 : Int32)) + (s.1 a1 ((x1 + (186 : Int32))).toNatClampNeg))).toNatClampNeg x3) a13 (((x1 + (787 : Int32)) + (s.1 a1 ((x1 + (186 : Int32))).toNatClampNeg))).toNatClampNeg (-1 : Int32)) a17 (((x1 + (1087 : Int32)) + (s.1 a1 ((x1 + (186 : Int32))).toNatClampNeg))).toNatClampNeg (0 : Int32)) a21 ((s.1 a1 ((x1 + (186 : Int32))).toNatClampNeg)).toNatClampNeg x4) a25 ((s.1 a1 ((x1 + (186 : Int32))).toNatClampNeg)).toNatClampNeg x5) K))))))))))))))))) : tT Y d 186 0 [.ref r0, .int x1, .int x2, .int x3, .int x4, .int x5, .null] [] s K :=
  (tt_aload (p_186_0 _ _) rfl).mpr (Exists.elim h (fun a1 h2 => t3_getr (p_186_1 _ _) (isI_11_0) h2.1.1 h2.1.2 ((tt_iload (p_186_4 _ _) rfl).mpr ((tt_push (p_186_5 _ _)).mpr ((tt_bin (p_186_8 _ _)).mpr (Exists.elim h2.2 (fun m3 h4 => t3_ald (p_186_9 _ _) h4.1.1 h4.1.2 ((tt_istore (p_186_10 _ _) (Nat.le_of_ble_eq_true rfl) rfl rfl).mpr ((tt_aload (p_186_12 _ _) rfl).mpr (Exists.elim h4.2 (fun a5 h6 => t3_getr (p_186_13 _ _) (isI_11_0) h6.1.1 h6.1.2 ((tt_iload (p_186_16 _ _) rfl).mpr ((tt_push (p_186_17 _ _)).mpr ((tt_bin (p_186_20 _ _)).mpr ((tt_iload (p_186_21 _ _) rfl).mpr ((tt_bin (p_186_23 _ _)).mpr ((tt_iload (p_186_24 _ _) rfl).mpr (Exists.elim h6.2 (fun m7 h8 => t3_ast (p_186_25 _ _) h8.1.1 h8.1.2 ((tt_aload (p_186_26 _ _) rfl).mpr (Exists.elim h8.2 (fun a9 h10 => t3_getr (p_186_27 _ _) (isI_11_0) h10.1.1 h10.1.2 ((tt_iload (p_186_30 _ _) rfl).mpr ((tt_push (p_186_31 _ _)).mpr ((tt_bin (p_186_34 _ _)).mpr ((tt_iload (p_186_35 _ _) rfl).mpr ((tt_bin (p_186_37 _ _)).mpr ((tt_iload (p_186_38 _ _) rfl).mpr (Exists.elim h10.2 (fun m11 h12 => t3_ast (p_186_39 _ _) h12.1.1 h12.1.2 ((tt_aload (p_186_40 _ _) rfl).mpr (Exists.elim h12.2 (fun a13 h14 => t3_getr (p_186_41 _ _) (isI_11_0) h14.1.1 h14.1.2 ((tt_iload (p_186_44 _ _) rfl).mpr ((tt_push (p_186_45 _ _)).mpr ((tt_bin (p_186_48 _ _)).mpr ((tt_iload (p_186_49 _ _) rfl).mpr ((tt_bin (p_186_51 _ _)).mpr ((tt_push (p_186_52 _ _)).mpr (Exists.elim h14.2 (fun m15 h16 => t3_ast (p_186_53 _ _) h16.1.1 h16.1.2 ((tt_aload (p_186_54 _ _) rfl).mpr (Exists.elim h16.2 (fun a17 h18 => t3_getr (p_186_55 _ _) (isI_11_0) h18.1.1 h18.1.2 ((tt_iload (p_186_58 _ _) rfl).mpr ((tt_push (p_186_59 _ _)).mpr ((tt_bin (p_186_62 _ _)).mpr ((tt_iload (p_186_63 _ _) rfl).mpr ((tt_bin (p_186_65 _ _)).mpr ((tt_push (p_186_66 _ _)).mpr (Exists.elim h18.2 (fun m19 h20 => t3_ast (p_186_67 _ _) h20.1.1 h20.1.2 ((tt_aload (p_186_68 _ _) rfl).mpr (Exists.elim h20.2 (fun a21 h22 => t3_getr (p_186_69 _ _) (isI_11_39) h22.1.1 h22.1.2 ((tt_iload (p_186_72 _ _) rfl).mpr ((tt_iload (p_186_74 _ _) rfl).mpr (Exists.elim h22.2 (fun m23 h24 => t3_ast (p_186_76 _ _) h24.1.1 h24.1.2 ((tt_aload (p_186_77 _ _) rfl).mpr (Exists.elim h24.2 (fun a25 h26 => t3_getr (p_186_78 _ _) (isI_11_40) h26.1.1 h26.1.2 ((tt_iload (p_186_81 _ _) rfl).mpr ((tt_iload (p_186_83 _ _) rfl).mpr (Exists.elim h26.2 (fun m27 h28 => t3_ast (p_186_85 _ _) h28.1.1 h28.1.2 ((tt_aload (p_186_86 _ _) rfl).mpr (Exists.elim h28.2 (fun a29 h30 => t3_getr (p_186_87 _ _) (isI_11_41) h30.1.1 h30.1.2 ((tt_iload (p_186_90 _ _) rfl).mpr ((tt_iload (p_186_92 _ _) rfl).mpr ((tt_push (p_186_94 _ _)).mpr (t3_cmp (p := ¬ x4 = (-1 : Int32)) (p_186_95 _ _) rfl (fun g31 => (tt_aload (p_186_102 _ _) rfl).mpr (Exists.elim (ifp h30.2 g31) (fun a32 h33 => t3_getr (p_186_103 _ _) (isI_11_41) h33.1.1 h33.1.2 ((tt_iload (p_186_106 _ _) rfl).mpr (Exists.elim h33.2 (fun m34 h35 => t3_ald (p_186_108 _ _) h35.1.1 h35.1.2 ((tt_push (p_186_109 _ _)).mpr ((tt_bin (p_186_110 _ _)).mpr (h35.2))))))))) (fun g31 => (tt_push (p_186_98 _ _)).mpr ((tt_goto (p_186_99 _ _)).mpr ((ifn h30.2 g31)))))))))))))))))))))))))))))))))))))))))))))))))))))))))))))))))))))))))))))
theorem b_186_111 {Y : sY} {d : Nat} {s : sT} {K : Option Int32 → sT → Prop} {r0 : Nat} {x1 : Int32} {x2 : Int32} {x3 : Int32} {x4 : Int32} {x5 : Int32} {x6 : Int32} {t0 : Nat} {t1 : Int32} {t2 : Int32} (h : (∃ m1, (isA Y t0 0 m1 ∧ inR t1 m1) ∧ (∃ a3, (isO Y r0 11 ∧ (pV s t0 (t1).toNatClampNeg t2).2 r0 0 = some a3) ∧ (∃ a5, (isO Y r0 11 ∧ (pV s t0 (t1).toNatClampNeg t2).2 r0 41 = some a5) ∧ (∃ m7, (isA Y a5 0 m7 ∧ inR x6 m7) ∧ (∃ a9, (isO Y r0 11 ∧ (pV s t0 (t1).toNatClampNeg t2).2 r0 0 = some a9) ∧ (∃ m11, (isA Y a9 0 m11 ∧ inR (x1 + (10387 : Int32)) m11) ∧ (if ((pV s t0 (t1).toNatClampNeg t2).1 a5 (x6).toNatClampNeg) ≤ ((pV s t0 (t1).toNatClampNeg t2).1 a9 ((x1 + (10387 : Int32))).toNatClampNeg) then (∃ a14, (isO Y r0 11 ∧ (pV s t0 (t1).toNatClampNeg t2).2 r0 0 = some a14) ∧ (∃ m16, (isA Y a14 0 m16 ∧ inR (x1 + (10387 : Int32)) m16) ∧ tT Y d 186 161 [.ref r0, .int x1, .int x2, .int x3, .int x4, .int x5, .int x6] [.int ((pV s t0 (t1).toNatClampNeg t2).1 a14 ((x1 + (10387 : Int32))).toNatClampNeg), .int (x1 + (10387 : Int32)), .ref a3] (pV s t0 (t1).toNatClampNeg t2) K)) else (∃ a18, (isO Y r0 11 ∧ (pV s t0 (t1).toNatClampNeg t2).2 r0 41 = some a18) ∧ (∃ m20, (isA Y a18 0 m20 ∧ inR x6 m20) ∧ tT Y d 186 161 [.ref r0, .int x1, .int x2, .int x3, .int x4, .int x5, .int x6] [.int ((pV s t0 (t1).toNatClampNeg t2).1 a18 (x6).toNatClampNeg), .int (x1 + (10387 : Int32)), .ref a3] (pV s t0 (t1).toNatClampNeg t2) K)))))))))) : tT Y d 186 111 [.ref r0, .int x1, .int x2, .int x3, .int x4, .int x5, .int x6] [.int t2, .int t1, .ref t0] s K :=
  Exists.elim h (fun m1 h2 => t3_ast (p_186_111 _ _) h2.1.1 h2.1.2 ((tt_aload (p_186_112 _ _) rfl).mpr (Exists.elim h2.2 (fun a3 h4 => t3_getr (p_186_113 _ _) (isI_11_0) h4.1.1 h4.1.2 ((tt_iload (p_186_116 _ _) rfl).mpr ((tt_push (p_186_117 _ _)).mpr ((tt_bin (p_186_120 _ _)).mpr ((tt_aload (p_186_121 _ _) rfl).mpr (Exists.elim h4.2 (fun a5 h6 => t3_getr (p_186_122 _ _) (isI_11_41) h6.1.1 h6.1.2 ((tt_iload (p_186_125 _ _) rfl).mpr (Exists.elim h6.2 (fun m7 h8 => t3_ald (p_186_127 _ _) h8.1.1 h8.1.2 ((tt_aload (p_186_128 _ _) rfl).mpr (Exists.elim h8.2 (fun a9 h10 => t3_getr (p_186_129 _ _) (isI_11_0) h10.1.1 h10.1.2 ((tt_iload (p_186_132 _ _) rfl).mpr ((tt_push (p_186_133 _ _)).mpr ((tt_bin (p_186_136 _ _)).mpr (Exists.elim h10.2 (fun m11 h12 => t3_ald (p_186_137 _ _) h12.1.1 h12.1.2 (t3_cmp (p := ((pV s t0 (t1).toNatClampNeg t2).1 a5 (x6).toNatClampNeg) ≤ ((pV s t0 (t1).toNatClampNeg t2).1 a9 ((x1 + (10387 : Int32))).toNatClampNeg)) (p_186_138 _ _) rfl (fun g13 => (tt_aload (p_186_151 _ _) rfl).mpr (Exists.elim (ifp h12.2 g13) (fun a14 h15 => t3_getr (p_186_152 _ _) (isI_11_0) h15.1.1 h15.1.2 ((tt_iload (p_186_155 _ _) rfl).mpr ((tt_push (p_186_156 _ _)).mpr ((tt_bin (p_186_159 _ _)).mpr (Exists.elim h15.2 (fun m16 h17 => t3_ald (p_186_160 _ _) h17.1.1 h17.1.2 (h17.2))))))))) (fun g13 => (tt_aload (p_186_141 _ _) rfl).mpr (Exists.elim (ifn h12.2 g13) (fun a18 h19 => t3_getr (p_186_142 _ _) (isI_11_41) h19.1.1 h19.1.2 ((tt_iload (p_186_145 _ _) rfl).mpr (Exists.elim h19.2 (fun m20 h21 => t3_ald (p_186_147 _ _) h21.1.1 h21.1.2 ((tt_goto (p_186_148 _ _)).mpr (h21.2))))))))))))))))))))))))))))))
theorem b_186_161 {Y : sY} {d : Nat} {s : sT} {K : Option Int32 → sT → Prop} {r0 : Nat} {x1 : Int32} {x2 : Int32} {x3 : Int32} {x4 : Int32} {x5 : Int32} {x6 : Int32} {t0 : Nat} {t1 : Int32} {t2 : Int32} (h : (∃ m1, (isA Y t0 0 m1 ∧ inR t1 m1) ∧ (∃ a3, (isO Y r0 11 ∧ (pV s t0 (t1).toNatClampNeg t2).2 r0 0 = some a3) ∧ (∃ m5, (isA Y a3 0 m5 ∧ inR (x1 + (186 : Int32)) m5) ∧ (∃ m7, (isA Y a3 0 m7 ∧ inR (x1 + (186 : Int32)) m7) ∧ K none (pV (pV s t0 (t1).toNatClampNeg t2) a3 ((x1 + (186 : Int32))).toNatClampNeg (((pV s t0 (t1).toNatClampNeg t2).1 a3 ((x1 + (186 : Int32))).toNatClampNeg) + (1 : Int32)))))))) : tT Y d 186 161 [.ref r0, .int x1, .int x2, .int x3, .int x4, .int x5, .int x6] [.int t2, .int t1, .ref t0] s K :=
  Exists.elim h (fun m1 h2 => t3_ast (p_186_161 _ _) h2.1.1 h2.1.2 ((tt_aload (p_186_162 _ _) rfl).mpr (Exists.elim h2.2 (fun a3 h4 => t3_getr (p_186_163 _ _) (isI_11_0) h4.1.1 h4.1.2 ((tt_iload (p_186_166 _ _) rfl).mpr ((tt_push (p_186_167 _ _)).mpr ((tt_bin (p_186_170 _ _)).mpr ((tt_dup2 (p_186_171 _ _)).mpr (Exists.elim h4.2 (fun m5 h6 => t3_ald (p_186_172 _ _) h6.1.1 h6.1.2 ((tt_push (p_186_173 _ _)).mpr ((tt_bin (p_186_174 _ _)).mpr (Exists.elim h6.2 (fun m7 h8 => t3_ast (p_186_175 _ _) h8.1.1 h8.1.2 (tt_ret0 (p_186_176 _ _) h8.2)))))))))))))))
/-! InclusionProverModel.steps.(II)Z -/
theorem p_187_0 (L : Nat) (xs : Nat → Int32) : ll_P L xs 187 0 = some (.inl (lo_aload 1 0)) := (P_187 L xs 0).trans rfl
theorem p_187_1 (L : Nat) (xs : Nat → Int32) : ll_P L xs 187 1 = some (.inl (lo_getf 4 11 0)) := (P_187 L xs 1).trans rfl
theorem p_187_4 (L : Nat) (xs : Nat → Int32) : ll_P L xs 187 4 = some (.inl (lo_iload 5 1)) := (P_187 L xs 4).trans rfl
theorem p_187_5 (L : Nat) (xs : Nat → Int32) : ll_P L xs 187 5 = some (.inl (lo_push 8 (.int 487))) := (P_187 L xs 5).trans rfl
theorem p_187_8 (L : Nat) (xs : Nat → Int32) : ll_P L xs 187 8 = some (.inl (lo_bin 9 (fun x y => x + y))) := (P_187 L xs 8).trans rfl
theorem p_187_9 (L : Nat) (xs : Nat → Int32) : ll_P L xs 187 9 = some (.inl (lo_iload 10 2)) := (P_187 L xs 9).trans rfl
theorem p_187_10 (L : Nat) (xs : Nat → Int32) : ll_P L xs 187 10 = some (.inl (lo_bin 11 (fun x y => x + y))) := (P_187 L xs 10).trans rfl
theorem p_187_11 (L : Nat) (xs : Nat → Int32) : ll_P L xs 187 11 = some (.inl (lo_ald 12 0)) := (P_187 L xs 11).trans rfl
theorem p_187_12 (L : Nat) (xs : Nat → Int32) : ll_P L xs 187 12 = some (.inl (lo_istore 13 3)) := (P_187 L xs 12).trans rfl
theorem p_187_13 (L : Nat) (xs : Nat → Int32) : ll_P L xs 187 13 = some (.inl (lo_push 14 (.int 0))) := (P_187 L xs 13).trans rfl
theorem p_187_14 (L : Nat) (xs : Nat → Int32) : ll_P L xs 187 14 = some (.inl (lo_istore 16 4)) := (P_187 L xs 14).trans rfl
theorem p_187_16 (L : Nat) (xs : Nat → Int32) : ll_P L xs 187 16 = some (.inl (lo_push 17 (.int 0))) := (P_187 L xs 16).trans rfl
theorem p_187_17 (L : Nat) (xs : Nat → Int32) : ll_P L xs 187 17 = some (.inl (lo_istore 19 5)) := (P_187 L xs 17).trans rfl
theorem p_187_19 (L : Nat) (xs : Nat → Int32) : ll_P L xs 187 19 = some (.inl (lo_iload 21 5)) := (P_187 L xs 19).trans rfl
theorem p_187_21 (L : Nat) (xs : Nat → Int32) : ll_P L xs 187 21 = some (.inl (lo_push 22 (.int 3))) := (P_187 L xs 21).trans rfl
theorem p_187_22 (L : Nat) (xs : Nat → Int32) : ll_P L xs 187 22 = some (.inl (lo_cmp 184 25 (fun x y => decide (y ≤ x)))) := (P_187 L xs 22).trans rfl
theorem p_187_25 (L : Nat) (xs : Nat → Int32) : ll_P L xs 187 25 = some (.inl (lo_aload 26 0)) := (P_187 L xs 25).trans rfl
theorem p_187_26 (L : Nat) (xs : Nat → Int32) : ll_P L xs 187 26 = some (.inl (lo_push 27 (.int 1))) := (P_187 L xs 26).trans rfl
theorem p_187_27 (L : Nat) (xs : Nat → Int32) : ll_P L xs 187 27 = some (.inl (lo_iload 28 3)) := (P_187 L xs 27).trans rfl
theorem p_187_28 (L : Nat) (xs : Nat → Int32) : ll_P L xs 187 28 = some (.inl (lo_iload 30 5)) := (P_187 L xs 28).trans rfl
theorem p_187_30 (L : Nat) (xs : Nat → Int32) : ll_P L xs 187 30 = some (.inr (.inl (183, 4, 33))) := (P_187 L xs 30).trans rfl
theorem p_187_33 (L : Nat) (xs : Nat → Int32) : ll_P L xs 187 33 = some (.inl (lo_istore 35 6)) := (P_187 L xs 33).trans rfl
theorem p_187_35 (L : Nat) (xs : Nat → Int32) : ll_P L xs 187 35 = some (.inl (lo_push 36 (.int 3))) := (P_187 L xs 35).trans rfl
theorem p_187_36 (L : Nat) (xs : Nat → Int32) : ll_P L xs 187 36 = some (.inl (lo_aload 37 0)) := (P_187 L xs 36).trans rfl
theorem p_187_37 (L : Nat) (xs : Nat → Int32) : ll_P L xs 187 37 = some (.inl (lo_getf 40 11 0)) := (P_187 L xs 37).trans rfl
theorem p_187_40 (L : Nat) (xs : Nat → Int32) : ll_P L xs 187 40 = some (.inl (lo_iload 41 1)) := (P_187 L xs 40).trans rfl
theorem p_187_41 (L : Nat) (xs : Nat → Int32) : ll_P L xs 187 41 = some (.inl (lo_push 44 (.int 187))) := (P_187 L xs 41).trans rfl
theorem p_187_44 (L : Nat) (xs : Nat → Int32) : ll_P L xs 187 44 = some (.inl (lo_bin 45 (fun x y => x + y))) := (P_187 L xs 44).trans rfl
theorem p_187_45 (L : Nat) (xs : Nat → Int32) : ll_P L xs 187 45 = some (.inl (lo_iload 46 2)) := (P_187 L xs 45).trans rfl
theorem p_187_46 (L : Nat) (xs : Nat → Int32) : ll_P L xs 187 46 = some (.inl (lo_bin 47 (fun x y => x + y))) := (P_187 L xs 46).trans rfl
theorem p_187_47 (L : Nat) (xs : Nat → Int32) : ll_P L xs 187 47 = some (.inl (lo_ald 48 0)) := (P_187 L xs 47).trans rfl
theorem p_187_48 (L : Nat) (xs : Nat → Int32) : ll_P L xs 187 48 = some (.inl (lo_bin 49 (fun x y => x * y))) := (P_187 L xs 48).trans rfl
theorem p_187_49 (L : Nat) (xs : Nat → Int32) : ll_P L xs 187 49 = some (.inl (lo_iload 51 5)) := (P_187 L xs 49).trans rfl
theorem p_187_51 (L : Nat) (xs : Nat → Int32) : ll_P L xs 187 51 = some (.inl (lo_bin 52 (fun x y => x + y))) := (P_187 L xs 51).trans rfl
theorem p_187_52 (L : Nat) (xs : Nat → Int32) : ll_P L xs 187 52 = some (.inl (lo_istore 54 7)) := (P_187 L xs 52).trans rfl
theorem p_187_54 (L : Nat) (xs : Nat → Int32) : ll_P L xs 187 54 = some (.inl (lo_push 55 (.int 0))) := (P_187 L xs 54).trans rfl
theorem p_187_55 (L : Nat) (xs : Nat → Int32) : ll_P L xs 187 55 = some (.inl (lo_istore 57 8)) := (P_187 L xs 55).trans rfl
theorem p_187_57 (L : Nat) (xs : Nat → Int32) : ll_P L xs 187 57 = some (.inl (lo_iload 59 8)) := (P_187 L xs 57).trans rfl
theorem p_187_59 (L : Nat) (xs : Nat → Int32) : ll_P L xs 187 59 = some (.inl (lo_aload 60 0)) := (P_187 L xs 59).trans rfl
theorem p_187_60 (L : Nat) (xs : Nat → Int32) : ll_P L xs 187 60 = some (.inl (lo_getf 63 11 38)) := (P_187 L xs 60).trans rfl
theorem p_187_63 (L : Nat) (xs : Nat → Int32) : ll_P L xs 187 63 = some (.inl (lo_iload 65 7)) := (P_187 L xs 63).trans rfl
theorem p_187_65 (L : Nat) (xs : Nat → Int32) : ll_P L xs 187 65 = some (.inl (lo_ald 66 0)) := (P_187 L xs 65).trans rfl
theorem p_187_66 (L : Nat) (xs : Nat → Int32) : ll_P L xs 187 66 = some (.inl (lo_cmp 178 69 (fun x y => decide (y ≤ x)))) := (P_187 L xs 66).trans rfl
theorem p_187_69 (L : Nat) (xs : Nat → Int32) : ll_P L xs 187 69 = some (.inl (lo_aload 70 0)) := (P_187 L xs 69).trans rfl
theorem p_187_70 (L : Nat) (xs : Nat → Int32) : ll_P L xs 187 70 = some (.inl (lo_getf 73 11 37)) := (P_187 L xs 70).trans rfl
theorem p_187_73 (L : Nat) (xs : Nat → Int32) : ll_P L xs 187 73 = some (.inl (lo_push 75 (.int 31))) := (P_187 L xs 73).trans rfl
theorem p_187_75 (L : Nat) (xs : Nat → Int32) : ll_P L xs 187 75 = some (.inl (lo_iload 77 7)) := (P_187 L xs 75).trans rfl
theorem p_187_77 (L : Nat) (xs : Nat → Int32) : ll_P L xs 187 77 = some (.inl (lo_bin 78 (fun x y => x * y))) := (P_187 L xs 77).trans rfl
theorem p_187_78 (L : Nat) (xs : Nat → Int32) : ll_P L xs 187 78 = some (.inl (lo_iload 80 8)) := (P_187 L xs 78).trans rfl
theorem p_187_80 (L : Nat) (xs : Nat → Int32) : ll_P L xs 187 80 = some (.inl (lo_bin 81 (fun x y => x + y))) := (P_187 L xs 80).trans rfl
theorem p_187_81 (L : Nat) (xs : Nat → Int32) : ll_P L xs 187 81 = some (.inl (lo_ald 82 0)) := (P_187 L xs 81).trans rfl
theorem p_187_82 (L : Nat) (xs : Nat → Int32) : ll_P L xs 187 82 = some (.inl (lo_istore 84 9)) := (P_187 L xs 82).trans rfl
theorem p_187_84 (L : Nat) (xs : Nat → Int32) : ll_P L xs 187 84 = some (.inl (lo_aload 85 0)) := (P_187 L xs 84).trans rfl
theorem p_187_85 (L : Nat) (xs : Nat → Int32) : ll_P L xs 187 85 = some (.inl (lo_iload 86 1)) := (P_187 L xs 85).trans rfl
theorem p_187_86 (L : Nat) (xs : Nat → Int32) : ll_P L xs 187 86 = some (.inl (lo_iload 88 9)) := (P_187 L xs 86).trans rfl
theorem p_187_88 (L : Nat) (xs : Nat → Int32) : ll_P L xs 187 88 = some (.inl (lo_iload 90 6)) := (P_187 L xs 88).trans rfl
theorem p_187_90 (L : Nat) (xs : Nat → Int32) : ll_P L xs 187 90 = some (.inr (.inl (185, 4, 93))) := (P_187 L xs 90).trans rfl
theorem p_187_93 (L : Nat) (xs : Nat → Int32) : ll_P L xs 187 93 = some (.inl (lo_istore 95 10)) := (P_187 L xs 93).trans rfl
theorem p_187_95 (L : Nat) (xs : Nat → Int32) : ll_P L xs 187 95 = some (.inl (lo_iload 97 10)) := (P_187 L xs 95).trans rfl
theorem p_187_97 (L : Nat) (xs : Nat → Int32) : ll_P L xs 187 97 = some (.inl (lo_push 98 (.int (-1)))) := (P_187 L xs 97).trans rfl
theorem p_187_98 (L : Nat) (xs : Nat → Int32) : ll_P L xs 187 98 = some (.inl (lo_cmp 119 101 (fun x y => decide (¬ x = y)))) := (P_187 L xs 98).trans rfl
theorem p_187_101 (L : Nat) (xs : Nat → Int32) : ll_P L xs 187 101 = some (.inl (lo_aload 102 0)) := (P_187 L xs 101).trans rfl
theorem p_187_102 (L : Nat) (xs : Nat → Int32) : ll_P L xs 187 102 = some (.inl (lo_getf 105 11 0)) := (P_187 L xs 102).trans rfl
theorem p_187_105 (L : Nat) (xs : Nat → Int32) : ll_P L xs 187 105 = some (.inl (lo_iload 106 1)) := (P_187 L xs 105).trans rfl
theorem p_187_106 (L : Nat) (xs : Nat → Int32) : ll_P L xs 187 106 = some (.inl (lo_push 109 (.int 186))) := (P_187 L xs 106).trans rfl
theorem p_187_109 (L : Nat) (xs : Nat → Int32) : ll_P L xs 187 109 = some (.inl (lo_bin 110 (fun x y => x + y))) := (P_187 L xs 109).trans rfl
theorem p_187_110 (L : Nat) (xs : Nat → Int32) : ll_P L xs 187 110 = some (.inl (lo_ald 111 0)) := (P_187 L xs 110).trans rfl
theorem p_187_111 (L : Nat) (xs : Nat → Int32) : ll_P L xs 187 111 = some (.inl (lo_push 114 (.int 300))) := (P_187 L xs 111).trans rfl
theorem p_187_114 (L : Nat) (xs : Nat → Int32) : ll_P L xs 187 114 = some (.inl (lo_cmp 119 117 (fun x y => decide (¬ x = y)))) := (P_187 L xs 114).trans rfl
theorem p_187_117 (L : Nat) (xs : Nat → Int32) : ll_P L xs 187 117 = some (.inl (lo_push 118 (.int 0))) := (P_187 L xs 117).trans rfl
theorem p_187_118 (L : Nat) (xs : Nat → Int32) : ll_P L xs 187 118 = some (.inr (.inr 2)) := (P_187 L xs 118).trans rfl
theorem p_187_119 (L : Nat) (xs : Nat → Int32) : ll_P L xs 187 119 = some (.inl (lo_iload 121 10)) := (P_187 L xs 119).trans rfl
theorem p_187_121 (L : Nat) (xs : Nat → Int32) : ll_P L xs 187 121 = some (.inl (lo_push 122 (.int (-1)))) := (P_187 L xs 121).trans rfl
theorem p_187_122 (L : Nat) (xs : Nat → Int32) : ll_P L xs 187 122 = some (.inl (lo_cmp 149 125 (fun x y => decide (¬ x = y)))) := (P_187 L xs 122).trans rfl
theorem p_187_125 (L : Nat) (xs : Nat → Int32) : ll_P L xs 187 125 = some (.inl (lo_aload 126 0)) := (P_187 L xs 125).trans rfl
theorem p_187_126 (L : Nat) (xs : Nat → Int32) : ll_P L xs 187 126 = some (.inl (lo_getf 129 11 0)) := (P_187 L xs 126).trans rfl
theorem p_187_129 (L : Nat) (xs : Nat → Int32) : ll_P L xs 187 129 = some (.inl (lo_iload 130 1)) := (P_187 L xs 129).trans rfl
theorem p_187_130 (L : Nat) (xs : Nat → Int32) : ll_P L xs 187 130 = some (.inl (lo_push 133 (.int 186))) := (P_187 L xs 130).trans rfl
theorem p_187_133 (L : Nat) (xs : Nat → Int32) : ll_P L xs 187 133 = some (.inl (lo_bin 134 (fun x y => x + y))) := (P_187 L xs 133).trans rfl
theorem p_187_134 (L : Nat) (xs : Nat → Int32) : ll_P L xs 187 134 = some (.inl (lo_ald 135 0)) := (P_187 L xs 134).trans rfl
theorem p_187_135 (L : Nat) (xs : Nat → Int32) : ll_P L xs 187 135 = some (.inl (lo_istore 137 10)) := (P_187 L xs 135).trans rfl
theorem p_187_137 (L : Nat) (xs : Nat → Int32) : ll_P L xs 187 137 = some (.inl (lo_aload 138 0)) := (P_187 L xs 137).trans rfl
theorem p_187_138 (L : Nat) (xs : Nat → Int32) : ll_P L xs 187 138 = some (.inl (lo_iload 139 1)) := (P_187 L xs 138).trans rfl
theorem p_187_139 (L : Nat) (xs : Nat → Int32) : ll_P L xs 187 139 = some (.inl (lo_iload 141 9)) := (P_187 L xs 139).trans rfl
theorem p_187_141 (L : Nat) (xs : Nat → Int32) : ll_P L xs 187 141 = some (.inl (lo_iload 143 6)) := (P_187 L xs 141).trans rfl
theorem p_187_143 (L : Nat) (xs : Nat → Int32) : ll_P L xs 187 143 = some (.inl (lo_iload 144 2)) := (P_187 L xs 143).trans rfl
theorem p_187_144 (L : Nat) (xs : Nat → Int32) : ll_P L xs 187 144 = some (.inl (lo_iload 146 5)) := (P_187 L xs 144).trans rfl
theorem p_187_146 (L : Nat) (xs : Nat → Int32) : ll_P L xs 187 146 = some (.inr (.inl (186, 6, 149))) := (P_187 L xs 146).trans rfl
theorem p_187_149 (L : Nat) (xs : Nat → Int32) : ll_P L xs 187 149 = some (.inl (lo_aload 150 0)) := (P_187 L xs 149).trans rfl
theorem p_187_150 (L : Nat) (xs : Nat → Int32) : ll_P L xs 187 150 = some (.inl (lo_getf 153 11 0)) := (P_187 L xs 150).trans rfl
theorem p_187_153 (L : Nat) (xs : Nat → Int32) : ll_P L xs 187 153 = some (.inl (lo_iload 154 1)) := (P_187 L xs 153).trans rfl
theorem p_187_154 (L : Nat) (xs : Nat → Int32) : ll_P L xs 187 154 = some (.inl (lo_push 157 (.int 1387))) := (P_187 L xs 154).trans rfl
theorem p_187_157 (L : Nat) (xs : Nat → Int32) : ll_P L xs 187 157 = some (.inl (lo_bin 158 (fun x y => x + y))) := (P_187 L xs 157).trans rfl
theorem p_187_158 (L : Nat) (xs : Nat → Int32) : ll_P L xs 187 158 = some (.inl (lo_push 160 (.int 30))) := (P_187 L xs 158).trans rfl
theorem p_187_160 (L : Nat) (xs : Nat → Int32) : ll_P L xs 187 160 = some (.inl (lo_iload 161 2)) := (P_187 L xs 160).trans rfl
theorem p_187_161 (L : Nat) (xs : Nat → Int32) : ll_P L xs 187 161 = some (.inl (lo_bin 162 (fun x y => x * y))) := (P_187 L xs 161).trans rfl
theorem p_187_162 (L : Nat) (xs : Nat → Int32) : ll_P L xs 187 162 = some (.inl (lo_bin 163 (fun x y => x + y))) := (P_187 L xs 162).trans rfl
theorem p_187_163 (L : Nat) (xs : Nat → Int32) : ll_P L xs 187 163 = some (.inl (lo_iload 165 4)) := (P_187 L xs 163).trans rfl
theorem p_187_165 (L : Nat) (xs : Nat → Int32) : ll_P L xs 187 165 = some (.inl (lo_bin 166 (fun x y => x + y))) := (P_187 L xs 165).trans rfl
theorem p_187_166 (L : Nat) (xs : Nat → Int32) : ll_P L xs 187 166 = some (.inl (lo_iload 168 10)) := (P_187 L xs 166).trans rfl
theorem p_187_168 (L : Nat) (xs : Nat → Int32) : ll_P L xs 187 168 = some (.inl (lo_ast 169 0)) := (P_187 L xs 168).trans rfl
theorem p_187_169 (L : Nat) (xs : Nat → Int32) : ll_P L xs 187 169 = some (.inl (lo_iinc 172 4 1)) := (P_187 L xs 169).trans rfl
theorem p_187_172 (L : Nat) (xs : Nat → Int32) : ll_P L xs 187 172 = some (.inl (lo_iinc 175 8 1)) := (P_187 L xs 172).trans rfl
theorem p_187_175 (L : Nat) (xs : Nat → Int32) : ll_P L xs 187 175 = some (.inl (lo_goto 57)) := (P_187 L xs 175).trans rfl
theorem p_187_178 (L : Nat) (xs : Nat → Int32) : ll_P L xs 187 178 = some (.inl (lo_iinc 181 5 1)) := (P_187 L xs 178).trans rfl
theorem p_187_181 (L : Nat) (xs : Nat → Int32) : ll_P L xs 187 181 = some (.inl (lo_goto 19)) := (P_187 L xs 181).trans rfl
theorem p_187_184 (L : Nat) (xs : Nat → Int32) : ll_P L xs 187 184 = some (.inl (lo_aload 185 0)) := (P_187 L xs 184).trans rfl
theorem p_187_185 (L : Nat) (xs : Nat → Int32) : ll_P L xs 187 185 = some (.inl (lo_getf 188 11 0)) := (P_187 L xs 185).trans rfl
theorem p_187_188 (L : Nat) (xs : Nat → Int32) : ll_P L xs 187 188 = some (.inl (lo_iload 189 1)) := (P_187 L xs 188).trans rfl
theorem p_187_189 (L : Nat) (xs : Nat → Int32) : ll_P L xs 187 189 = some (.inl (lo_push 192 (.int 787))) := (P_187 L xs 189).trans rfl
theorem p_187_192 (L : Nat) (xs : Nat → Int32) : ll_P L xs 187 192 = some (.inl (lo_bin 193 (fun x y => x + y))) := (P_187 L xs 192).trans rfl
theorem p_187_193 (L : Nat) (xs : Nat → Int32) : ll_P L xs 187 193 = some (.inl (lo_iload 194 2)) := (P_187 L xs 193).trans rfl
theorem p_187_194 (L : Nat) (xs : Nat → Int32) : ll_P L xs 187 194 = some (.inl (lo_bin 195 (fun x y => x + y))) := (P_187 L xs 194).trans rfl
theorem p_187_195 (L : Nat) (xs : Nat → Int32) : ll_P L xs 187 195 = some (.inl (lo_push 196 (.int 1))) := (P_187 L xs 195).trans rfl
theorem p_187_196 (L : Nat) (xs : Nat → Int32) : ll_P L xs 187 196 = some (.inl (lo_ast 197 0)) := (P_187 L xs 196).trans rfl
theorem p_187_197 (L : Nat) (xs : Nat → Int32) : ll_P L xs 187 197 = some (.inl (lo_aload 198 0)) := (P_187 L xs 197).trans rfl
theorem p_187_198 (L : Nat) (xs : Nat → Int32) : ll_P L xs 187 198 = some (.inl (lo_getf 201 11 0)) := (P_187 L xs 198).trans rfl
theorem p_187_201 (L : Nat) (xs : Nat → Int32) : ll_P L xs 187 201 = some (.inl (lo_iload 202 1)) := (P_187 L xs 201).trans rfl
theorem p_187_202 (L : Nat) (xs : Nat → Int32) : ll_P L xs 187 202 = some (.inl (lo_push 205 (.int 1087))) := (P_187 L xs 202).trans rfl
theorem p_187_205 (L : Nat) (xs : Nat → Int32) : ll_P L xs 187 205 = some (.inl (lo_bin 206 (fun x y => x + y))) := (P_187 L xs 205).trans rfl
theorem p_187_206 (L : Nat) (xs : Nat → Int32) : ll_P L xs 187 206 = some (.inl (lo_iload 207 2)) := (P_187 L xs 206).trans rfl
theorem p_187_207 (L : Nat) (xs : Nat → Int32) : ll_P L xs 187 207 = some (.inl (lo_bin 208 (fun x y => x + y))) := (P_187 L xs 207).trans rfl
theorem p_187_208 (L : Nat) (xs : Nat → Int32) : ll_P L xs 187 208 = some (.inl (lo_iload 210 4)) := (P_187 L xs 208).trans rfl
theorem p_187_210 (L : Nat) (xs : Nat → Int32) : ll_P L xs 187 210 = some (.inl (lo_ast 211 0)) := (P_187 L xs 210).trans rfl
theorem p_187_211 (L : Nat) (xs : Nat → Int32) : ll_P L xs 187 211 = some (.inl (lo_push 212 (.int 1))) := (P_187 L xs 211).trans rfl
theorem p_187_212 (L : Nat) (xs : Nat → Int32) : ll_P L xs 187 212 = some (.inr (.inr 2)) := (P_187 L xs 212).trans rfl
theorem b_187_0 {Y : sY} {d : Nat} {s : sT} {K : Option Int32 → sT → Prop} {r0 : Nat} {x1 : Int32} {x2 : Int32} (h : (∃ a1, (isO Y r0 11 ∧ s.2 r0 0 = some a1) ∧ (∃ m3, (isA Y a1 0 m3 ∧ inR ((x1 + (487 : Int32)) + x2) m3) ∧ tT Y (d + 1) 187 19 [.ref r0, .int x1, .int x2, .int (s.1 a1 (((x1 + (487 : Int32)) + x2)).toNatClampNeg), .int (0 : Int32), .int (0 : Int32), .null, .null, .null, .null, .null] [] s K))) : tT Y (d + 1) 187 0 [.ref r0, .int x1, .int x2, .null, .null, .null, .null, .null, .null, .null, .null] [] s K :=
  (tt_aload (p_187_0 _ _) rfl).mpr (Exists.elim h (fun a1 h2 => t3_getr (p_187_1 _ _) (isI_11_0) h2.1.1 h2.1.2 ((tt_iload (p_187_4 _ _) rfl).mpr ((tt_push (p_187_5 _ _)).mpr ((tt_bin (p_187_8 _ _)).mpr ((tt_iload (p_187_9 _ _) rfl).mpr ((tt_bin (p_187_10 _ _)).mpr (Exists.elim h2.2 (fun m3 h4 => t3_ald (p_187_11 _ _) h4.1.1 h4.1.2 ((tt_istore (p_187_12 _ _) (Nat.le_of_ble_eq_true rfl) rfl rfl).mpr ((tt_push (p_187_13 _ _)).mpr ((tt_istore (p_187_14 _ _) (Nat.le_of_ble_eq_true rfl) rfl rfl).mpr ((tt_push (p_187_16 _ _)).mpr ((tt_istore (p_187_17 _ _) (Nat.le_of_ble_eq_true rfl) rfl rfl).mpr (h4.2)))))))))))))))
theorem b_187_19 {Y : sY} {d : Nat} {s : sT} {K : Option Int32 → sT → Prop} {r0 : Nat} {x1 : Int32} {x2 : Int32} {x3 : Int32} {x4 : Int32} {x5 : Int32} {u6 : Value} {u7 : Value} {u8 : Value} {u9 : Value} {u10 : Value} (h : (if (3 : Int32) ≤ x5 then (∃ a2, (isO Y r0 11 ∧ s.2 r0 0 = some a2) ∧ (∃ m4, (isA Y a2 0 m4 ∧ inR ((x1 + (787 : Int32)) + x2) m4) ∧ (∃ a6, (isO Y r0 11 ∧ (pV s a2 (((x1 + (787 : Int32)) + x2)).toNatClampNeg (1 : Int32)).2 r0 0 = some a6) ∧ (∃ m8, (isA Y a6 0 m8 ∧ inR ((x1 + (1087 : Int32)) + x2) m8) ∧ K (some (1 : Int32)) (pV (pV s a2 (((x1 + (787 : Int32)) + x2)).toNatClampNeg (1 : Int32)) a6 (((x1 + (1087 : Int32)) + x2)).toNatClampNeg x4))))) else (isO Y r0 11 ∧ tT Y d 183 0 [.ref r0, .int (1 : Int32), .int x3, .int x5, .null, .null] [] s (fun r s1 => tT Y (d + 1) 187 33 [.ref r0, .int x1, .int x2, .int x3, .int x4, .int x5, u6, u7, u8, u9, u10] ((r.map Value.int).toList ++ []) s1 K)))) : tT Y (d + 1) 187 19 [.ref r0, .int x1, .int x2, .int x3, .int x4, .int x5, u6, u7, u8, u9, u10] [] s K :=
  (tt_iload (p_187_19 _ _) rfl).mpr ((tt_push (p_187_21 _ _)).mpr (t3_cmp (p := (3 : Int32) ≤ x5) (p_187_22 _ _) rfl (fun g1 => (tt_aload (p_187_184 _ _) rfl).mpr (Exists.elim (ifp h g1) (fun a2 h3 => t3_getr (p_187_185 _ _) (isI_11_0) h3.1.1 h3.1.2 ((tt_iload (p_187_188 _ _) rfl).mpr ((tt_push (p_187_189 _ _)).mpr ((tt_bin (p_187_192 _ _)).mpr ((tt_iload (p_187_193 _ _) rfl).mpr ((tt_bin (p_187_194 _ _)).mpr ((tt_push (p_187_195 _ _)).mpr (Exists.elim h3.2 (fun m4 h5 => t3_ast (p_187_196 _ _) h5.1.1 h5.1.2 ((tt_aload (p_187_197 _ _) rfl).mpr (Exists.elim h5.2 (fun a6 h7 => t3_getr (p_187_198 _ _) (isI_11_0) h7.1.1 h7.1.2 ((tt_iload (p_187_201 _ _) rfl).mpr ((tt_push (p_187_202 _ _)).mpr ((tt_bin (p_187_205 _ _)).mpr ((tt_iload (p_187_206 _ _) rfl).mpr ((tt_bin (p_187_207 _ _)).mpr ((tt_iload (p_187_208 _ _) rfl).mpr (Exists.elim h7.2 (fun m8 h9 => t3_ast (p_187_210 _ _) h9.1.1 h9.1.2 ((tt_push (p_187_211 _ _)).mpr (tt_ret2 (p_187_212 _ _) (Or.inr rfl) h9.2)))))))))))))))))))))))) (fun g1 => (tt_aload (p_187_25 _ _) rfl).mpr ((tt_push (p_187_26 _ _)).mpr ((tt_iload (p_187_27 _ _) rfl).mpr ((tt_iload (p_187_28 _ _) rfl).mpr (t2_callv (z := 183) (k := 4) (i := r0) (as := [.int (1 : Int32), .int x3, .int x5]) (rest := []) (p_187_30 _ _) mK_183 mL_183 rfl rfl (Nat.le_of_ble_eq_true rfl) rfl (Nat.le_of_ble_eq_true rfl) (ifn h g1).1 (ifn h g1).2)))))))
theorem b_187_33 {Y : sY} {d : Nat} {s : sT} {K : Option Int32 → sT → Prop} {r0 : Nat} {x1 : Int32} {x2 : Int32} {x3 : Int32} {x4 : Int32} {x5 : Int32} {u6 : Value} {u7 : Value} {u8 : Value} {u9 : Value} {u10 : Value} {t0 : Int32} (h : (∃ a1, (isO Y r0 11 ∧ s.2 r0 0 = some a1) ∧ (∃ m3, (isA Y a1 0 m3 ∧ inR ((x1 + (187 : Int32)) + x2) m3) ∧ tT Y (d + 1) 187 57 [.ref r0, .int x1, .int x2, .int x3, .int x4, .int x5, .int t0, .int (((3 : Int32) * (s.1 a1 (((x1 + (187 : Int32)) + x2)).toNatClampNeg)) + x5), .int (0 : Int32), u9, u10] [] s K))) : tT Y (d + 1) 187 33 [.ref r0, .int x1, .int x2, .int x3, .int x4, .int x5, u6, u7, u8, u9, u10] [.int t0] s K :=
  (tt_istore (p_187_33 _ _) (Nat.le_of_ble_eq_true rfl) rfl rfl).mpr ((tt_push (p_187_35 _ _)).mpr ((tt_aload (p_187_36 _ _) rfl).mpr (Exists.elim h (fun a1 h2 => t3_getr (p_187_37 _ _) (isI_11_0) h2.1.1 h2.1.2 ((tt_iload (p_187_40 _ _) rfl).mpr ((tt_push (p_187_41 _ _)).mpr ((tt_bin (p_187_44 _ _)).mpr ((tt_iload (p_187_45 _ _) rfl).mpr ((tt_bin (p_187_46 _ _)).mpr (Exists.elim h2.2 (fun m3 h4 => t3_ald (p_187_47 _ _) h4.1.1 h4.1.2 ((tt_bin (p_187_48 _ _)).mpr ((tt_iload (p_187_49 _ _) rfl).mpr ((tt_bin (p_187_51 _ _)).mpr ((tt_istore (p_187_52 _ _) (Nat.le_of_ble_eq_true rfl) rfl rfl).mpr ((tt_push (p_187_54 _ _)).mpr ((tt_istore (p_187_55 _ _) (Nat.le_of_ble_eq_true rfl) rfl rfl).mpr (h4.2))))))))))))))))))
theorem b_187_57 {Y : sY} {d : Nat} {s : sT} {K : Option Int32 → sT → Prop} {r0 : Nat} {x1 : Int32} {x2 : Int32} {x3 : Int32} {x4 : Int32} {x5 : Int32} {x6 : Int32} {x7 : Int32} {x8 : Int32} {u9 : Value} {u10 : Value} (h : (∃ a1, (isO Y r0 11 ∧ s.2 r0 38 = some a1) ∧ (∃ m3, (isA Y a1 0 m3 ∧ inR x7 m3) ∧ (if (s.1 a1 (x7).toNatClampNeg) ≤ x8 then tT Y (d + 1) 187 19 [.ref r0, .int x1, .int x2, .int x3, .int x4, .int (x5 + 1), .int x6, .int x7, .int x8, u9, u10] [] s K else (∃ a6, (isO Y r0 11 ∧ s.2 r0 37 = some a6) ∧ (∃ m8, (isA Y a6 0 m8 ∧ inR (((31 : Int32) * x7) + x8) m8) ∧ (isO Y r0 11 ∧ tT Y d 185 0 [.ref r0, .int x1, .int (s.1 a6 ((((31 : Int32) * x7) + x8)).toNatClampNeg), .int x6, .null] [] s (fun r s1 => tT Y (d + 1) 187 93 [.ref r0, .int x1, .int x2, .int x3, .int x4, .int x5, .int x6, .int x7, .int x8, .int (s.1 a6 ((((31 : Int32) * x7) + x8)).toNatClampNeg), u10] ((r.map Value.int).toList ++ []) s1 K)))))))) : tT Y (d + 1) 187 57 [.ref r0, .int x1, .int x2, .int x3, .int x4, .int x5, .int x6, .int x7, .int x8, u9, u10] [] s K :=
  (tt_iload (p_187_57 _ _) rfl).mpr ((tt_aload (p_187_59 _ _) rfl).mpr (Exists.elim h (fun a1 h2 => t3_getr (p_187_60 _ _) (isI_11_38) h2.1.1 h2.1.2 ((tt_iload (p_187_63 _ _) rfl).mpr (Exists.elim h2.2 (fun m3 h4 => t3_ald (p_187_65 _ _) h4.1.1 h4.1.2 (t3_cmp (p := (s.1 a1 (x7).toNatClampNeg) ≤ x8) (p_187_66 _ _) rfl (fun g5 => (tt_iinc (p_187_178 _ _) rfl rfl rfl).mpr ((tt_goto (p_187_181 _ _)).mpr ((ifp h4.2 g5)))) (fun g5 => (tt_aload (p_187_69 _ _) rfl).mpr (Exists.elim (ifn h4.2 g5) (fun a6 h7 => t3_getr (p_187_70 _ _) (isI_11_37) h7.1.1 h7.1.2 ((tt_push (p_187_73 _ _)).mpr ((tt_iload (p_187_75 _ _) rfl).mpr ((tt_bin (p_187_77 _ _)).mpr ((tt_iload (p_187_78 _ _) rfl).mpr ((tt_bin (p_187_80 _ _)).mpr (Exists.elim h7.2 (fun m8 h9 => t3_ald (p_187_81 _ _) h9.1.1 h9.1.2 ((tt_istore (p_187_82 _ _) (Nat.le_of_ble_eq_true rfl) rfl rfl).mpr ((tt_aload (p_187_84 _ _) rfl).mpr ((tt_iload (p_187_85 _ _) rfl).mpr ((tt_iload (p_187_86 _ _) rfl).mpr ((tt_iload (p_187_88 _ _) rfl).mpr (t2_callv (z := 185) (k := 4) (i := r0) (as := [.int x1, .int (s.1 a6 ((((31 : Int32) * x7) + x8)).toNatClampNeg), .int x6]) (rest := []) (p_187_90 _ _) mK_185 mL_185 rfl rfl (Nat.le_of_ble_eq_true rfl) rfl (Nat.le_of_ble_eq_true rfl) h9.2.1 h9.2.2)))))))))))))))))))))))
theorem b_187_93 {Y : sY} {d : Nat} {s : sT} {K : Option Int32 → sT → Prop} {r0 : Nat} {x1 : Int32} {x2 : Int32} {x3 : Int32} {x4 : Int32} {x5 : Int32} {x6 : Int32} {x7 : Int32} {x8 : Int32} {x9 : Int32} {u10 : Value} {t0 : Int32} (h : (if ¬ t0 = (-1 : Int32) then tT Y (d + 1) 187 119 [.ref r0, .int x1, .int x2, .int x3, .int x4, .int x5, .int x6, .int x7, .int x8, .int x9, .int t0] [] s K else (∃ a2, (isO Y r0 11 ∧ s.2 r0 0 = some a2) ∧ (∃ m4, (isA Y a2 0 m4 ∧ inR (x1 + (186 : Int32)) m4) ∧ (if ¬ (s.1 a2 ((x1 + (186 : Int32))).toNatClampNeg) = (300 : Int32) then tT Y (d + 1) 187 119 [.ref r0, .int x1, .int x2, .int x3, .int x4, .int x5, .int x6, .int x7, .int x8, .int x9, .int t0] [] s K else K (some (0 : Int32)) s))))) : tT Y (d + 1) 187 93 [.ref r0, .int x1, .int x2, .int x3, .int x4, .int x5, .int x6, .int x7, .int x8, .int x9, u10] [.int t0] s K :=
  (tt_istore (p_187_93 _ _) (Nat.le_of_ble_eq_true rfl) rfl rfl).mpr ((tt_iload (p_187_95 _ _) rfl).mpr ((tt_push (p_187_97 _ _)).mpr (t3_cmp (p := ¬ t0 = (-1 : Int32)) (p_187_98 _ _) rfl (fun g1 => (ifp h g1)) (fun g1 => (tt_aload (p_187_101 _ _) rfl).mpr (Exists.elim (ifn h g1) (fun a2 h3 => t3_getr (p_187_102 _ _) (isI_11_0) h3.1.1 h3.1.2 ((tt_iload (p_187_105 _ _) rfl).mpr ((tt_push (p_187_106 _ _)).mpr ((tt_bin (p_187_109 _ _)).mpr (Exists.elim h3.2 (fun m4 h5 => t3_ald (p_187_110 _ _) h5.1.1 h5.1.2 ((tt_push (p_187_111 _ _)).mpr (t3_cmp (p := ¬ (s.1 a2 ((x1 + (186 : Int32))).toNatClampNeg) = (300 : Int32)) (p_187_114 _ _) rfl (fun g6 => (ifp h5.2 g6)) (fun g6 => (tt_push (p_187_117 _ _)).mpr (tt_ret2 (p_187_118 _ _) (Or.inl rfl) (ifn h5.2 g6))))))))))))))))
theorem b_187_119 {Y : sY} {d : Nat} {s : sT} {K : Option Int32 → sT → Prop} {r0 : Nat} {x1 : Int32} {x2 : Int32} {x3 : Int32} {x4 : Int32} {x5 : Int32} {x6 : Int32} {x7 : Int32} {x8 : Int32} {x9 : Int32} {x10 : Int32} (h : (if ¬ x10 = (-1 : Int32) then tT Y (d + 1) 187 149 [.ref r0, .int x1, .int x2, .int x3, .int x4, .int x5, .int x6, .int x7, .int x8, .int x9, .int x10] [] s K else (∃ a2, (isO Y r0 11 ∧ s.2 r0 0 = some a2) ∧ (∃ m4, (isA Y a2 0 m4 ∧ inR (x1 + (186 : Int32)) m4) ∧ (isO Y r0 11 ∧ tT Y d 186 0 [.ref r0, .int x1, .int x9, .int x6, .int x2, .int x5, .null] [] s (fun r s1 => tT Y (d + 1) 187 149 [.ref r0, .int x1, .int x2, .int x3, .int x4, .int x5, .int x6, .int x7, .int x8, .int x9, .int (s.1 a2 ((x1 + (186 : Int32))).toNatClampNeg)] ((r.map Value.int).toList ++ []) s1 K)))))) : tT Y (d + 1) 187 119 [.ref r0, .int x1, .int x2, .int x3, .int x4, .int x5, .int x6, .int x7, .int x8, .int x9, .int x10] [] s K :=
  (tt_iload (p_187_119 _ _) rfl).mpr ((tt_push (p_187_121 _ _)).mpr (t3_cmp (p := ¬ x10 = (-1 : Int32)) (p_187_122 _ _) rfl (fun g1 => (ifp h g1)) (fun g1 => (tt_aload (p_187_125 _ _) rfl).mpr (Exists.elim (ifn h g1) (fun a2 h3 => t3_getr (p_187_126 _ _) (isI_11_0) h3.1.1 h3.1.2 ((tt_iload (p_187_129 _ _) rfl).mpr ((tt_push (p_187_130 _ _)).mpr ((tt_bin (p_187_133 _ _)).mpr (Exists.elim h3.2 (fun m4 h5 => t3_ald (p_187_134 _ _) h5.1.1 h5.1.2 ((tt_istore (p_187_135 _ _) (Nat.le_of_ble_eq_true rfl) rfl rfl).mpr ((tt_aload (p_187_137 _ _) rfl).mpr ((tt_iload (p_187_138 _ _) rfl).mpr ((tt_iload (p_187_139 _ _) rfl).mpr ((tt_iload (p_187_141 _ _) rfl).mpr ((tt_iload (p_187_143 _ _) rfl).mpr ((tt_iload (p_187_144 _ _) rfl).mpr (t2_callv (z := 186) (k := 6) (i := r0) (as := [.int x1, .int x9, .int x6, .int x2, .int x5]) (rest := []) (p_187_146 _ _) mK_186 mL_186 rfl rfl (Nat.le_of_ble_eq_true rfl) rfl (Nat.le_of_ble_eq_true rfl) h5.2.1 h5.2.2))))))))))))))))))
theorem b_187_149 {Y : sY} {d : Nat} {s : sT} {K : Option Int32 → sT → Prop} {r0 : Nat} {x1 : Int32} {x2 : Int32} {x3 : Int32} {x4 : Int32} {x5 : Int32} {x6 : Int32} {x7 : Int32} {x8 : Int32} {x9 : Int32} {x10 : Int32} (h : (∃ a1, (isO Y r0 11 ∧ s.2 r0 0 = some a1) ∧ (∃ m3, (isA Y a1 0 m3 ∧ inR (((x1 + (1387 : Int32)) + ((30 : Int32) * x2)) + x4) m3) ∧ tT Y (d + 1) 187 57 [.ref r0, .int x1, .int x2, .int x3, .int (x4 + 1), .int x5, .int x6, .int x7, .int (x8 + 1), .int x9, .int x10] [] (pV s a1 ((((x1 + (1387 : Int32)) + ((30 : Int32) * x2)) + x4)).toNatClampNeg x10) K))) : tT Y (d + 1) 187 149 [.ref r0, .int x1, .int x2, .int x3, .int x4, .int x5, .int x6, .int x7, .int x8, .int x9, .int x10] [] s K :=
  (tt_aload (p_187_149 _ _) rfl).mpr (Exists.elim h (fun a1 h2 => t3_getr (p_187_150 _ _) (isI_11_0) h2.1.1 h2.1.2 ((tt_iload (p_187_153 _ _) rfl).mpr ((tt_push (p_187_154 _ _)).mpr ((tt_bin (p_187_157 _ _)).mpr ((tt_push (p_187_158 _ _)).mpr ((tt_iload (p_187_160 _ _) rfl).mpr ((tt_bin (p_187_161 _ _)).mpr ((tt_bin (p_187_162 _ _)).mpr ((tt_iload (p_187_163 _ _) rfl).mpr ((tt_bin (p_187_165 _ _)).mpr ((tt_iload (p_187_166 _ _) rfl).mpr (Exists.elim h2.2 (fun m3 h4 => t3_ast (p_187_168 _ _) h4.1.1 h4.1.2 ((tt_iinc (p_187_169 _ _) rfl rfl rfl).mpr ((tt_iinc (p_187_172 _ _) rfl rfl rfl).mpr ((tt_goto (p_187_175 _ _)).mpr (h4.2))))))))))))))))))
/-! InclusionProverModel.tellsWord.(II)V -/
theorem p_188_0 (L : Nat) (xs : Nat → Int32) : ll_P L xs 188 0 = some (.inl (lo_aload 1 0)) := (P_188 L xs 0).trans rfl
theorem p_188_1 (L : Nat) (xs : Nat → Int32) : ll_P L xs 188 1 = some (.inl (lo_getf 4 11 41)) := (P_188 L xs 1).trans rfl
theorem p_188_4 (L : Nat) (xs : Nat → Int32) : ll_P L xs 188 4 = some (.inl (lo_iload 5 2)) := (P_188 L xs 4).trans rfl
theorem p_188_5 (L : Nat) (xs : Nat → Int32) : ll_P L xs 188 5 = some (.inl (lo_ald 6 0)) := (P_188 L xs 5).trans rfl
theorem p_188_6 (L : Nat) (xs : Nat → Int32) : ll_P L xs 188 6 = some (.inl (lo_istore 7 3)) := (P_188 L xs 6).trans rfl
theorem p_188_7 (L : Nat) (xs : Nat → Int32) : ll_P L xs 188 7 = some (.inl (lo_aload 8 0)) := (P_188 L xs 7).trans rfl
theorem p_188_8 (L : Nat) (xs : Nat → Int32) : ll_P L xs 188 8 = some (.inl (lo_getf 11 11 0)) := (P_188 L xs 8).trans rfl
theorem p_188_11 (L : Nat) (xs : Nat → Int32) : ll_P L xs 188 11 = some (.inl (lo_iload 12 1)) := (P_188 L xs 11).trans rfl
theorem p_188_12 (L : Nat) (xs : Nat → Int32) : ll_P L xs 188 12 = some (.inl (lo_push 15 (.int 10388))) := (P_188 L xs 12).trans rfl
theorem p_188_15 (L : Nat) (xs : Nat → Int32) : ll_P L xs 188 15 = some (.inl (lo_bin 16 (fun x y => x + y))) := (P_188 L xs 15).trans rfl
theorem p_188_16 (L : Nat) (xs : Nat → Int32) : ll_P L xs 188 16 = some (.inl (lo_iload 17 3)) := (P_188 L xs 16).trans rfl
theorem p_188_17 (L : Nat) (xs : Nat → Int32) : ll_P L xs 188 17 = some (.inl (lo_ast 18 0)) := (P_188 L xs 17).trans rfl
theorem p_188_18 (L : Nat) (xs : Nat → Int32) : ll_P L xs 188 18 = some (.inl (lo_iload 19 2)) := (P_188 L xs 18).trans rfl
theorem p_188_19 (L : Nat) (xs : Nat → Int32) : ll_P L xs 188 19 = some (.inl (lo_istore 21 4)) := (P_188 L xs 19).trans rfl
theorem p_188_21 (L : Nat) (xs : Nat → Int32) : ll_P L xs 188 21 = some (.inl (lo_iload 22 3)) := (P_188 L xs 21).trans rfl
theorem p_188_22 (L : Nat) (xs : Nat → Int32) : ll_P L xs 188 22 = some (.inl (lo_istore 24 5)) := (P_188 L xs 22).trans rfl
theorem p_188_24 (L : Nat) (xs : Nat → Int32) : ll_P L xs 188 24 = some (.inl (lo_iload 26 5)) := (P_188 L xs 24).trans rfl
theorem p_188_26 (L : Nat) (xs : Nat → Int32) : ll_P L xs 188 26 = some (.inl (lo_if 66 29 (fun x => decide (x ≤ 0)))) := (P_188 L xs 26).trans rfl
theorem p_188_29 (L : Nat) (xs : Nat → Int32) : ll_P L xs 188 29 = some (.inl (lo_aload 30 0)) := (P_188 L xs 29).trans rfl
theorem p_188_30 (L : Nat) (xs : Nat → Int32) : ll_P L xs 188 30 = some (.inl (lo_getf 33 11 0)) := (P_188 L xs 30).trans rfl
theorem p_188_33 (L : Nat) (xs : Nat → Int32) : ll_P L xs 188 33 = some (.inl (lo_iload 34 1)) := (P_188 L xs 33).trans rfl
theorem p_188_34 (L : Nat) (xs : Nat → Int32) : ll_P L xs 188 34 = some (.inl (lo_push 37 (.int 10388))) := (P_188 L xs 34).trans rfl
theorem p_188_37 (L : Nat) (xs : Nat → Int32) : ll_P L xs 188 37 = some (.inl (lo_bin 38 (fun x y => x + y))) := (P_188 L xs 37).trans rfl
theorem p_188_38 (L : Nat) (xs : Nat → Int32) : ll_P L xs 188 38 = some (.inl (lo_iload 40 5)) := (P_188 L xs 38).trans rfl
theorem p_188_40 (L : Nat) (xs : Nat → Int32) : ll_P L xs 188 40 = some (.inl (lo_bin 41 (fun x y => x + y))) := (P_188 L xs 40).trans rfl
theorem p_188_41 (L : Nat) (xs : Nat → Int32) : ll_P L xs 188 41 = some (.inl (lo_aload 42 0)) := (P_188 L xs 41).trans rfl
theorem p_188_42 (L : Nat) (xs : Nat → Int32) : ll_P L xs 188 42 = some (.inl (lo_getf 45 11 40)) := (P_188 L xs 42).trans rfl
theorem p_188_45 (L : Nat) (xs : Nat → Int32) : ll_P L xs 188 45 = some (.inl (lo_iload 47 4)) := (P_188 L xs 45).trans rfl
theorem p_188_47 (L : Nat) (xs : Nat → Int32) : ll_P L xs 188 47 = some (.inl (lo_ald 48 0)) := (P_188 L xs 47).trans rfl
theorem p_188_48 (L : Nat) (xs : Nat → Int32) : ll_P L xs 188 48 = some (.inl (lo_push 49 (.int 1))) := (P_188 L xs 48).trans rfl
theorem p_188_49 (L : Nat) (xs : Nat → Int32) : ll_P L xs 188 49 = some (.inl (lo_bin 50 (fun x y => x + y))) := (P_188 L xs 49).trans rfl
theorem p_188_50 (L : Nat) (xs : Nat → Int32) : ll_P L xs 188 50 = some (.inl (lo_ast 51 0)) := (P_188 L xs 50).trans rfl
theorem p_188_51 (L : Nat) (xs : Nat → Int32) : ll_P L xs 188 51 = some (.inl (lo_aload 52 0)) := (P_188 L xs 51).trans rfl
theorem p_188_52 (L : Nat) (xs : Nat → Int32) : ll_P L xs 188 52 = some (.inl (lo_getf 55 11 39)) := (P_188 L xs 52).trans rfl
theorem p_188_55 (L : Nat) (xs : Nat → Int32) : ll_P L xs 188 55 = some (.inl (lo_iload 57 4)) := (P_188 L xs 55).trans rfl
theorem p_188_57 (L : Nat) (xs : Nat → Int32) : ll_P L xs 188 57 = some (.inl (lo_ald 58 0)) := (P_188 L xs 57).trans rfl
theorem p_188_58 (L : Nat) (xs : Nat → Int32) : ll_P L xs 188 58 = some (.inl (lo_istore 60 4)) := (P_188 L xs 58).trans rfl
theorem p_188_60 (L : Nat) (xs : Nat → Int32) : ll_P L xs 188 60 = some (.inl (lo_iinc 63 5 (-1))) := (P_188 L xs 60).trans rfl
theorem p_188_63 (L : Nat) (xs : Nat → Int32) : ll_P L xs 188 63 = some (.inl (lo_goto 24)) := (P_188 L xs 63).trans rfl
theorem p_188_66 (L : Nat) (xs : Nat → Int32) : ll_P L xs 188 66 = some (.inr (.inr 0)) := (P_188 L xs 66).trans rfl
theorem b_188_0 {Y : sY} {d : Nat} {s : sT} {K : Option Int32 → sT → Prop} {r0 : Nat} {x1 : Int32} {x2 : Int32} (h : (∃ a1, (isO Y r0 11 ∧ s.2 r0 41 = some a1) ∧ (∃ m3, (isA Y a1 0 m3 ∧ inR x2 m3) ∧ (∃ a5, (isO Y r0 11 ∧ s.2 r0 0 = some a5) ∧ (∃ m7, (isA Y a5 0 m7 ∧ inR (x1 + (10388 : Int32)) m7) ∧ tT Y d 188 24 [.ref r0, .int x1, .int x2, .int (s.1 a1 (x2).toNatClampNeg), .int x2, .int (s.1 a1 (x2).toNatClampNeg)] [] (pV s a5 ((x1 + (10388 : Int32))).toNatClampNeg (s.1 a1 (x2).toNatClampNeg)) K))))) : tT Y d 188 0 [.ref r0, .int x1, .int x2, .null, .null, .null] [] s K :=
  (tt_aload (p_188_0 _ _) rfl).mpr (Exists.elim h (fun a1 h2 => t3_getr (p_188_1 _ _) (isI_11_41) h2.1.1 h2.1.2 ((tt_iload (p_188_4 _ _) rfl).mpr (Exists.elim h2.2 (fun m3 h4 => t3_ald (p_188_5 _ _) h4.1.1 h4.1.2 ((tt_istore (p_188_6 _ _) (Nat.le_of_ble_eq_true rfl) rfl rfl).mpr ((tt_aload (p_188_7 _ _) rfl).mpr (Exists.elim h4.2 (fun a5 h6 => t3_getr (p_188_8 _ _) (isI_11_0) h6.1.1 h6.1.2 ((tt_iload (p_188_11 _ _) rfl).mpr ((tt_push (p_188_12 _ _)).mpr ((tt_bin (p_188_15 _ _)).mpr ((tt_iload (p_188_16 _ _) rfl).mpr (Exists.elim h6.2 (fun m7 h8 => t3_ast (p_188_17 _ _) h8.1.1 h8.1.2 ((tt_iload (p_188_18 _ _) rfl).mpr ((tt_istore (p_188_19 _ _) (Nat.le_of_ble_eq_true rfl) rfl rfl).mpr ((tt_iload (p_188_21 _ _) rfl).mpr ((tt_istore (p_188_22 _ _) (Nat.le_of_ble_eq_true rfl) rfl rfl).mpr (h8.2))))))))))))))))))))
theorem b_188_24 {Y : sY} {d : Nat} {s : sT} {K : Option Int32 → sT → Prop} {r0 : Nat} {x1 : Int32} {x2 : Int32} {x3 : Int32} {x4 : Int32} {x5 : Int32} (h : (if x5 ≤ 0 then K none s else (∃ a2, (isO Y r0 11 ∧ s.2 r0 0 = some a2) ∧ (∃ a4, (isO Y r0 11 ∧ s.2 r0 40 = some a4) ∧ (∃ m6, (isA Y a4 0 m6 ∧ inR x4 m6) ∧ (∃ m8, (isA Y a2 0 m8 ∧ inR ((x1 + (10388 : Int32)) + x5) m8) ∧ (∃ a10, (isO Y r0 11 ∧ (pV s a2 (((x1 + (10388 : Int32)) + x5)).toNatClampNeg ((s.1 a4 (x4).toNatClampNeg) + (1 : Int32))).2 r0 39 = some a10) ∧ (∃ m12, (isA Y a10 0 m12 ∧ inR x4 m12) ∧ tT Y d 188 24 [.ref r0, .int x1, .int x2, .int x3, .int ((pV s a2 (((x1 + (10388 : Int32)) + x5)).toNatClampNeg ((s.1 a4 (x4).toNatClampNeg) + (1 : Int32))).1 a10 (x4).toNatClampNeg), .int (x5 + (-1))] [] (pV s a2 (((x1 + (10388 : Int32)) + x5)).toNatClampNeg ((s.1 a4 (x4).toNatClampNeg) + (1 : Int32))) K)))))))) : tT Y d 188 24 [.ref r0, .int x1, .int x2, .int x3, .int x4, .int x5] [] s K :=
  (tt_iload (p_188_24 _ _) rfl).mpr (t3_if (p := x5 ≤ 0) (p_188_26 _ _) rfl (fun g1 => tt_ret0 (p_188_66 _ _) (ifp h g1)) (fun g1 => (tt_aload (p_188_29 _ _) rfl).mpr (Exists.elim (ifn h g1) (fun a2 h3 => t3_getr (p_188_30 _ _) (isI_11_0) h3.1.1 h3.1.2 ((tt_iload (p_188_33 _ _) rfl).mpr ((tt_push (p_188_34 _ _)).mpr ((tt_bin (p_188_37 _ _)).mpr ((tt_iload (p_188_38 _ _) rfl).mpr ((tt_bin (p_188_40 _ _)).mpr ((tt_aload (p_188_41 _ _) rfl).mpr (Exists.elim h3.2 (fun a4 h5 => t3_getr (p_188_42 _ _) (isI_11_40) h5.1.1 h5.1.2 ((tt_iload (p_188_45 _ _) rfl).mpr (Exists.elim h5.2 (fun m6 h7 => t3_ald (p_188_47 _ _) h7.1.1 h7.1.2 ((tt_push (p_188_48 _ _)).mpr ((tt_bin (p_188_49 _ _)).mpr (Exists.elim h7.2 (fun m8 h9 => t3_ast (p_188_50 _ _) h9.1.1 h9.1.2 ((tt_aload (p_188_51 _ _) rfl).mpr (Exists.elim h9.2 (fun a10 h11 => t3_getr (p_188_52 _ _) (isI_11_39) h11.1.1 h11.1.2 ((tt_iload (p_188_55 _ _) rfl).mpr (Exists.elim h11.2 (fun m12 h13 => t3_ald (p_188_57 _ _) h13.1.1 h13.1.2 ((tt_istore (p_188_58 _ _) (Nat.le_of_ble_eq_true rfl) rfl rfl).mpr ((tt_iinc (p_188_60 _ _) rfl rfl rfl).mpr ((tt_goto (p_188_63 _ _)).mpr (h13.2)))))))))))))))))))))))))))))
/-! InclusionProverModel.searches.(I)I -/
theorem p_189_0 (L : Nat) (xs : Nat → Int32) : ll_P L xs 189 0 = some (.inl (lo_aload 1 0)) := (P_189 L xs 0).trans rfl
theorem p_189_1 (L : Nat) (xs : Nat → Int32) : ll_P L xs 189 1 = some (.inl (lo_getf 4 11 0)) := (P_189 L xs 1).trans rfl
theorem p_189_4 (L : Nat) (xs : Nat → Int32) : ll_P L xs 189 4 = some (.inl (lo_iload 5 1)) := (P_189 L xs 4).trans rfl
theorem p_189_5 (L : Nat) (xs : Nat → Int32) : ll_P L xs 189 5 = some (.inl (lo_push 8 (.int 186))) := (P_189 L xs 5).trans rfl
theorem p_189_8 (L : Nat) (xs : Nat → Int32) : ll_P L xs 189 8 = some (.inl (lo_bin 9 (fun x y => x + y))) := (P_189 L xs 8).trans rfl
theorem p_189_9 (L : Nat) (xs : Nat → Int32) : ll_P L xs 189 9 = some (.inl (lo_push 10 (.int 0))) := (P_189 L xs 9).trans rfl
theorem p_189_10 (L : Nat) (xs : Nat → Int32) : ll_P L xs 189 10 = some (.inl (lo_ast 11 0)) := (P_189 L xs 10).trans rfl
theorem p_189_11 (L : Nat) (xs : Nat → Int32) : ll_P L xs 189 11 = some (.inl (lo_aload 12 0)) := (P_189 L xs 11).trans rfl
theorem p_189_12 (L : Nat) (xs : Nat → Int32) : ll_P L xs 189 12 = some (.inl (lo_getf 15 11 0)) := (P_189 L xs 12).trans rfl
theorem p_189_15 (L : Nat) (xs : Nat → Int32) : ll_P L xs 189 15 = some (.inl (lo_iload 16 1)) := (P_189 L xs 15).trans rfl
theorem p_189_16 (L : Nat) (xs : Nat → Int32) : ll_P L xs 189 16 = some (.inl (lo_push 19 (.int 10387))) := (P_189 L xs 16).trans rfl
theorem p_189_19 (L : Nat) (xs : Nat → Int32) : ll_P L xs 189 19 = some (.inl (lo_bin 20 (fun x y => x + y))) := (P_189 L xs 19).trans rfl
theorem p_189_20 (L : Nat) (xs : Nat → Int32) : ll_P L xs 189 20 = some (.inl (lo_push 21 (.int 0))) := (P_189 L xs 20).trans rfl
theorem p_189_21 (L : Nat) (xs : Nat → Int32) : ll_P L xs 189 21 = some (.inl (lo_ast 22 0)) := (P_189 L xs 21).trans rfl
theorem p_189_22 (L : Nat) (xs : Nat → Int32) : ll_P L xs 189 22 = some (.inl (lo_aload 23 0)) := (P_189 L xs 22).trans rfl
theorem p_189_23 (L : Nat) (xs : Nat → Int32) : ll_P L xs 189 23 = some (.inl (lo_getf 26 11 0)) := (P_189 L xs 23).trans rfl
theorem p_189_26 (L : Nat) (xs : Nat → Int32) : ll_P L xs 189 26 = some (.inl (lo_iload 27 1)) := (P_189 L xs 26).trans rfl
theorem p_189_27 (L : Nat) (xs : Nat → Int32) : ll_P L xs 189 27 = some (.inl (lo_push 30 (.int 10388))) := (P_189 L xs 27).trans rfl
theorem p_189_30 (L : Nat) (xs : Nat → Int32) : ll_P L xs 189 30 = some (.inl (lo_bin 31 (fun x y => x + y))) := (P_189 L xs 30).trans rfl
theorem p_189_31 (L : Nat) (xs : Nat → Int32) : ll_P L xs 189 31 = some (.inl (lo_push 32 (.int (-1)))) := (P_189 L xs 31).trans rfl
theorem p_189_32 (L : Nat) (xs : Nat → Int32) : ll_P L xs 189 32 = some (.inl (lo_ast 33 0)) := (P_189 L xs 32).trans rfl
theorem p_189_33 (L : Nat) (xs : Nat → Int32) : ll_P L xs 189 33 = some (.inl (lo_aload 34 0)) := (P_189 L xs 33).trans rfl
theorem p_189_34 (L : Nat) (xs : Nat → Int32) : ll_P L xs 189 34 = some (.inl (lo_iload 35 1)) := (P_189 L xs 34).trans rfl
theorem p_189_35 (L : Nat) (xs : Nat → Int32) : ll_P L xs 189 35 = some (.inl (lo_push 36 (.int 0))) := (P_189 L xs 35).trans rfl
theorem p_189_36 (L : Nat) (xs : Nat → Int32) : ll_P L xs 189 36 = some (.inl (lo_push 37 (.int 1))) := (P_189 L xs 36).trans rfl
theorem p_189_37 (L : Nat) (xs : Nat → Int32) : ll_P L xs 189 37 = some (.inl (lo_push 38 (.int (-1)))) := (P_189 L xs 37).trans rfl
theorem p_189_38 (L : Nat) (xs : Nat → Int32) : ll_P L xs 189 38 = some (.inl (lo_push 39 (.int 0))) := (P_189 L xs 38).trans rfl
theorem p_189_39 (L : Nat) (xs : Nat → Int32) : ll_P L xs 189 39 = some (.inr (.inl (186, 6, 42))) := (P_189 L xs 39).trans rfl
theorem p_189_42 (L : Nat) (xs : Nat → Int32) : ll_P L xs 189 42 = some (.inl (lo_push 43 (.int 0))) := (P_189 L xs 42).trans rfl
theorem p_189_43 (L : Nat) (xs : Nat → Int32) : ll_P L xs 189 43 = some (.inl (lo_istore 44 2)) := (P_189 L xs 43).trans rfl
theorem p_189_44 (L : Nat) (xs : Nat → Int32) : ll_P L xs 189 44 = some (.inl (lo_iload 45 2)) := (P_189 L xs 44).trans rfl
theorem p_189_45 (L : Nat) (xs : Nat → Int32) : ll_P L xs 189 45 = some (.inl (lo_aload 46 0)) := (P_189 L xs 45).trans rfl
theorem p_189_46 (L : Nat) (xs : Nat → Int32) : ll_P L xs 189 46 = some (.inl (lo_getf 49 11 0)) := (P_189 L xs 46).trans rfl
theorem p_189_49 (L : Nat) (xs : Nat → Int32) : ll_P L xs 189 49 = some (.inl (lo_iload 50 1)) := (P_189 L xs 49).trans rfl
theorem p_189_50 (L : Nat) (xs : Nat → Int32) : ll_P L xs 189 50 = some (.inl (lo_push 53 (.int 186))) := (P_189 L xs 50).trans rfl
theorem p_189_53 (L : Nat) (xs : Nat → Int32) : ll_P L xs 189 53 = some (.inl (lo_bin 54 (fun x y => x + y))) := (P_189 L xs 53).trans rfl
theorem p_189_54 (L : Nat) (xs : Nat → Int32) : ll_P L xs 189 54 = some (.inl (lo_ald 55 0)) := (P_189 L xs 54).trans rfl
theorem p_189_55 (L : Nat) (xs : Nat → Int32) : ll_P L xs 189 55 = some (.inl (lo_cmp 155 58 (fun x y => decide (y ≤ x)))) := (P_189 L xs 55).trans rfl
theorem p_189_58 (L : Nat) (xs : Nat → Int32) : ll_P L xs 189 58 = some (.inl (lo_aload 59 0)) := (P_189 L xs 58).trans rfl
theorem p_189_59 (L : Nat) (xs : Nat → Int32) : ll_P L xs 189 59 = some (.inl (lo_getf 62 11 0)) := (P_189 L xs 59).trans rfl
theorem p_189_62 (L : Nat) (xs : Nat → Int32) : ll_P L xs 189 62 = some (.inl (lo_iload 63 1)) := (P_189 L xs 62).trans rfl
theorem p_189_63 (L : Nat) (xs : Nat → Int32) : ll_P L xs 189 63 = some (.inl (lo_push 66 (.int 187))) := (P_189 L xs 63).trans rfl
theorem p_189_66 (L : Nat) (xs : Nat → Int32) : ll_P L xs 189 66 = some (.inl (lo_bin 67 (fun x y => x + y))) := (P_189 L xs 66).trans rfl
theorem p_189_67 (L : Nat) (xs : Nat → Int32) : ll_P L xs 189 67 = some (.inl (lo_iload 68 2)) := (P_189 L xs 67).trans rfl
theorem p_189_68 (L : Nat) (xs : Nat → Int32) : ll_P L xs 189 68 = some (.inl (lo_bin 69 (fun x y => x + y))) := (P_189 L xs 68).trans rfl
theorem p_189_69 (L : Nat) (xs : Nat → Int32) : ll_P L xs 189 69 = some (.inl (lo_ald 70 0)) := (P_189 L xs 69).trans rfl
theorem p_189_70 (L : Nat) (xs : Nat → Int32) : ll_P L xs 189 70 = some (.inl (lo_istore 71 3)) := (P_189 L xs 70).trans rfl
theorem p_189_71 (L : Nat) (xs : Nat → Int32) : ll_P L xs 189 71 = some (.inl (lo_aload 72 0)) := (P_189 L xs 71).trans rfl
theorem p_189_72 (L : Nat) (xs : Nat → Int32) : ll_P L xs 189 72 = some (.inl (lo_getf 75 11 0)) := (P_189 L xs 72).trans rfl
theorem p_189_75 (L : Nat) (xs : Nat → Int32) : ll_P L xs 189 75 = some (.inl (lo_iload 76 1)) := (P_189 L xs 75).trans rfl
theorem p_189_76 (L : Nat) (xs : Nat → Int32) : ll_P L xs 189 76 = some (.inl (lo_push 79 (.int 487))) := (P_189 L xs 76).trans rfl
theorem p_189_79 (L : Nat) (xs : Nat → Int32) : ll_P L xs 189 79 = some (.inl (lo_bin 80 (fun x y => x + y))) := (P_189 L xs 79).trans rfl
theorem p_189_80 (L : Nat) (xs : Nat → Int32) : ll_P L xs 189 80 = some (.inl (lo_iload 81 2)) := (P_189 L xs 80).trans rfl
theorem p_189_81 (L : Nat) (xs : Nat → Int32) : ll_P L xs 189 81 = some (.inl (lo_bin 82 (fun x y => x + y))) := (P_189 L xs 81).trans rfl
theorem p_189_82 (L : Nat) (xs : Nat → Int32) : ll_P L xs 189 82 = some (.inl (lo_ald 83 0)) := (P_189 L xs 82).trans rfl
theorem p_189_83 (L : Nat) (xs : Nat → Int32) : ll_P L xs 189 83 = some (.inl (lo_istore 85 4)) := (P_189 L xs 83).trans rfl
theorem p_189_85 (L : Nat) (xs : Nat → Int32) : ll_P L xs 189 85 = some (.inl (lo_aload 86 0)) := (P_189 L xs 85).trans rfl
theorem p_189_86 (L : Nat) (xs : Nat → Int32) : ll_P L xs 189 86 = some (.inl (lo_iload 87 3)) := (P_189 L xs 86).trans rfl
theorem p_189_87 (L : Nat) (xs : Nat → Int32) : ll_P L xs 189 87 = some (.inl (lo_iload 89 4)) := (P_189 L xs 87).trans rfl
theorem p_189_89 (L : Nat) (xs : Nat → Int32) : ll_P L xs 189 89 = some (.inr (.inl (184, 3, 92))) := (P_189 L xs 89).trans rfl
theorem p_189_92 (L : Nat) (xs : Nat → Int32) : ll_P L xs 189 92 = some (.inl (lo_if 111 95 (fun x => decide (x = 0)))) := (P_189 L xs 92).trans rfl
theorem p_189_95 (L : Nat) (xs : Nat → Int32) : ll_P L xs 189 95 = some (.inl (lo_aload 96 0)) := (P_189 L xs 95).trans rfl
theorem p_189_96 (L : Nat) (xs : Nat → Int32) : ll_P L xs 189 96 = some (.inl (lo_getf 99 11 0)) := (P_189 L xs 96).trans rfl
theorem p_189_99 (L : Nat) (xs : Nat → Int32) : ll_P L xs 189 99 = some (.inl (lo_iload 100 1)) := (P_189 L xs 99).trans rfl
theorem p_189_100 (L : Nat) (xs : Nat → Int32) : ll_P L xs 189 100 = some (.inl (lo_push 103 (.int 787))) := (P_189 L xs 100).trans rfl
theorem p_189_103 (L : Nat) (xs : Nat → Int32) : ll_P L xs 189 103 = some (.inl (lo_bin 104 (fun x y => x + y))) := (P_189 L xs 103).trans rfl
theorem p_189_104 (L : Nat) (xs : Nat → Int32) : ll_P L xs 189 104 = some (.inl (lo_iload 105 2)) := (P_189 L xs 104).trans rfl
theorem p_189_105 (L : Nat) (xs : Nat → Int32) : ll_P L xs 189 105 = some (.inl (lo_bin 106 (fun x y => x + y))) := (P_189 L xs 105).trans rfl
theorem p_189_106 (L : Nat) (xs : Nat → Int32) : ll_P L xs 189 106 = some (.inl (lo_push 107 (.int 0))) := (P_189 L xs 106).trans rfl
theorem p_189_107 (L : Nat) (xs : Nat → Int32) : ll_P L xs 189 107 = some (.inl (lo_ast 108 0)) := (P_189 L xs 107).trans rfl
theorem p_189_108 (L : Nat) (xs : Nat → Int32) : ll_P L xs 189 108 = some (.inl (lo_goto 149)) := (P_189 L xs 108).trans rfl
theorem p_189_111 (L : Nat) (xs : Nat → Int32) : ll_P L xs 189 111 = some (.inl (lo_aload 112 0)) := (P_189 L xs 111).trans rfl
theorem p_189_112 (L : Nat) (xs : Nat → Int32) : ll_P L xs 189 112 = some (.inl (lo_push 113 (.int 0))) := (P_189 L xs 112).trans rfl
theorem p_189_113 (L : Nat) (xs : Nat → Int32) : ll_P L xs 189 113 = some (.inl (lo_iload 114 3)) := (P_189 L xs 113).trans rfl
theorem p_189_114 (L : Nat) (xs : Nat → Int32) : ll_P L xs 189 114 = some (.inr (.inl (181, 3, 117))) := (P_189 L xs 114).trans rfl
theorem p_189_117 (L : Nat) (xs : Nat → Int32) : ll_P L xs 189 117 = some (.inl (lo_if 138 120 (fun x => decide (x = 0)))) := (P_189 L xs 117).trans rfl
theorem p_189_120 (L : Nat) (xs : Nat → Int32) : ll_P L xs 189 120 = some (.inl (lo_aload 121 0)) := (P_189 L xs 120).trans rfl
theorem p_189_121 (L : Nat) (xs : Nat → Int32) : ll_P L xs 189 121 = some (.inl (lo_push 122 (.int 1))) := (P_189 L xs 121).trans rfl
theorem p_189_122 (L : Nat) (xs : Nat → Int32) : ll_P L xs 189 122 = some (.inl (lo_iload 124 4)) := (P_189 L xs 122).trans rfl
theorem p_189_124 (L : Nat) (xs : Nat → Int32) : ll_P L xs 189 124 = some (.inr (.inl (182, 3, 127))) := (P_189 L xs 124).trans rfl
theorem p_189_127 (L : Nat) (xs : Nat → Int32) : ll_P L xs 189 127 = some (.inl (lo_if 138 130 (fun x => decide (¬ x = 0)))) := (P_189 L xs 127).trans rfl
theorem p_189_130 (L : Nat) (xs : Nat → Int32) : ll_P L xs 189 130 = some (.inl (lo_aload 131 0)) := (P_189 L xs 130).trans rfl
theorem p_189_131 (L : Nat) (xs : Nat → Int32) : ll_P L xs 189 131 = some (.inl (lo_iload 132 1)) := (P_189 L xs 131).trans rfl
theorem p_189_132 (L : Nat) (xs : Nat → Int32) : ll_P L xs 189 132 = some (.inl (lo_iload 133 2)) := (P_189 L xs 132).trans rfl
theorem p_189_133 (L : Nat) (xs : Nat → Int32) : ll_P L xs 189 133 = some (.inr (.inl (188, 3, 136))) := (P_189 L xs 133).trans rfl
theorem p_189_136 (L : Nat) (xs : Nat → Int32) : ll_P L xs 189 136 = some (.inl (lo_push 137 (.int 1))) := (P_189 L xs 136).trans rfl
theorem p_189_137 (L : Nat) (xs : Nat → Int32) : ll_P L xs 189 137 = some (.inr (.inr 1)) := (P_189 L xs 137).trans rfl
theorem p_189_138 (L : Nat) (xs : Nat → Int32) : ll_P L xs 189 138 = some (.inl (lo_aload 139 0)) := (P_189 L xs 138).trans rfl
theorem p_189_139 (L : Nat) (xs : Nat → Int32) : ll_P L xs 189 139 = some (.inl (lo_iload 140 1)) := (P_189 L xs 139).trans rfl
theorem p_189_140 (L : Nat) (xs : Nat → Int32) : ll_P L xs 189 140 = some (.inl (lo_iload 141 2)) := (P_189 L xs 140).trans rfl
theorem p_189_141 (L : Nat) (xs : Nat → Int32) : ll_P L xs 189 141 = some (.inr (.inl (187, 3, 144))) := (P_189 L xs 141).trans rfl
theorem p_189_144 (L : Nat) (xs : Nat → Int32) : ll_P L xs 189 144 = some (.inl (lo_if 149 147 (fun x => decide (¬ x = 0)))) := (P_189 L xs 144).trans rfl
theorem p_189_147 (L : Nat) (xs : Nat → Int32) : ll_P L xs 189 147 = some (.inl (lo_push 148 (.int 2))) := (P_189 L xs 147).trans rfl
theorem p_189_148 (L : Nat) (xs : Nat → Int32) : ll_P L xs 189 148 = some (.inr (.inr 1)) := (P_189 L xs 148).trans rfl
theorem p_189_149 (L : Nat) (xs : Nat → Int32) : ll_P L xs 189 149 = some (.inl (lo_iinc 152 2 1)) := (P_189 L xs 149).trans rfl
theorem p_189_152 (L : Nat) (xs : Nat → Int32) : ll_P L xs 189 152 = some (.inl (lo_goto 44)) := (P_189 L xs 152).trans rfl
theorem p_189_155 (L : Nat) (xs : Nat → Int32) : ll_P L xs 189 155 = some (.inl (lo_push 156 (.int 0))) := (P_189 L xs 155).trans rfl
theorem p_189_156 (L : Nat) (xs : Nat → Int32) : ll_P L xs 189 156 = some (.inr (.inr 1)) := (P_189 L xs 156).trans rfl
theorem b_189_0 {Y : sY} {d : Nat} {s : sT} {K : Option Int32 → sT → Prop} {r0 : Nat} {x1 : Int32} (h : (∃ a1, (isO Y r0 11 ∧ s.2 r0 0 = some a1) ∧ (∃ m3, (isA Y a1 0 m3 ∧ inR (x1 + (186 : Int32)) m3) ∧ (∃ a5, (isO Y r0 11 ∧ (pV s a1 ((x1 + (186 : Int32))).toNatClampNeg (0 : Int32)).2 r0 0 = some a5) ∧ (∃ m7, (isA Y a5 0 m7 ∧ inR (x1 + (10387 : Int32)) m7) ∧ (∃ a9, (isO Y r0 11 ∧ (pV (pV s a1 ((x1 + (186 : Int32))).toNatClampNeg (0 : Int32)) a5 ((x1 + (10387 : Int32))).toNatClampNeg (0 : Int32)).2 r0 0 = some a9) ∧ (∃ m11, (isA Y a9 0 m11 ∧ inR (x1 + (10388 : Int32)) m11) ∧ (isO Y r0 11 ∧ tT Y d 186 0 [.ref r0, .int x1, .int (0 : Int32), .int (1 : Int32), .int (-1 : Int32), .int (0 : Int32), .null] [] (pV (pV (pV s a1 ((x1 + (186 : Int32))).toNatClampNeg (0 : Int32)) a5 ((x1 + (10387 : Int32))).toNatClampNeg (0 : Int32)) a9 ((x1 + (10388 : Int32))).toNatClampNeg (-1 : Int32)) (fun r s1 => tT Y (d + 1) 189 42 [.ref r0, .int x1, .null, .null, .null] ((r.map Value.int).toList ++ []) s1 K))))))))) : tT Y (d + 1) 189 0 [.ref r0, .int x1, .null, .null, .null] [] s K :=
  (tt_aload (p_189_0 _ _) rfl).mpr (Exists.elim h (fun a1 h2 => t3_getr (p_189_1 _ _) (isI_11_0) h2.1.1 h2.1.2 ((tt_iload (p_189_4 _ _) rfl).mpr ((tt_push (p_189_5 _ _)).mpr ((tt_bin (p_189_8 _ _)).mpr ((tt_push (p_189_9 _ _)).mpr (Exists.elim h2.2 (fun m3 h4 => t3_ast (p_189_10 _ _) h4.1.1 h4.1.2 ((tt_aload (p_189_11 _ _) rfl).mpr (Exists.elim h4.2 (fun a5 h6 => t3_getr (p_189_12 _ _) (isI_11_0) h6.1.1 h6.1.2 ((tt_iload (p_189_15 _ _) rfl).mpr ((tt_push (p_189_16 _ _)).mpr ((tt_bin (p_189_19 _ _)).mpr ((tt_push (p_189_20 _ _)).mpr (Exists.elim h6.2 (fun m7 h8 => t3_ast (p_189_21 _ _) h8.1.1 h8.1.2 ((tt_aload (p_189_22 _ _) rfl).mpr (Exists.elim h8.2 (fun a9 h10 => t3_getr (p_189_23 _ _) (isI_11_0) h10.1.1 h10.1.2 ((tt_iload (p_189_26 _ _) rfl).mpr ((tt_push (p_189_27 _ _)).mpr ((tt_bin (p_189_30 _ _)).mpr ((tt_push (p_189_31 _ _)).mpr (Exists.elim h10.2 (fun m11 h12 => t3_ast (p_189_32 _ _) h12.1.1 h12.1.2 ((tt_aload (p_189_33 _ _) rfl).mpr ((tt_iload (p_189_34 _ _) rfl).mpr ((tt_push (p_189_35 _ _)).mpr ((tt_push (p_189_36 _ _)).mpr ((tt_push (p_189_37 _ _)).mpr ((tt_push (p_189_38 _ _)).mpr (t2_callv (z := 186) (k := 6) (i := r0) (as := [.int x1, .int (0 : Int32), .int (1 : Int32), .int (-1 : Int32), .int (0 : Int32)]) (rest := []) (p_189_39 _ _) mK_186 mL_186 rfl rfl (Nat.le_of_ble_eq_true rfl) rfl (Nat.le_of_ble_eq_true rfl) h12.2.1 h12.2.2)))))))))))))))))))))))))))))))))
theorem b_189_42 {Y : sY} {d : Nat} {s : sT} {K : Option Int32 → sT → Prop} {r0 : Nat} {x1 : Int32} (h : tT Y (d + 1) 189 44 [.ref r0, .int x1, .int (0 : Int32), .null, .null] [] s K) : tT Y (d + 1) 189 42 [.ref r0, .int x1, .null, .null, .null] [] s K :=
  (tt_push (p_189_42 _ _)).mpr ((tt_istore (p_189_43 _ _) (Nat.le_of_ble_eq_true rfl) rfl rfl).mpr (h))
theorem b_189_44 {Y : sY} {d : Nat} {s : sT} {K : Option Int32 → sT → Prop} {r0 : Nat} {x1 : Int32} {x2 : Int32} {u3 : Value} {u4 : Value} (h : (∃ a1, (isO Y r0 11 ∧ s.2 r0 0 = some a1) ∧ (∃ m3, (isA Y a1 0 m3 ∧ inR (x1 + (186 : Int32)) m3) ∧ (if (s.1 a1 ((x1 + (186 : Int32))).toNatClampNeg) ≤ x2 then K (some (0 : Int32)) s else (∃ a6, (isO Y r0 11 ∧ s.2 r0 0 = some a6) ∧ (∃ m8, (isA Y a6 0 m8 ∧ inR ((x1 + (187 : Int32)) + x2) m8) ∧ (∃ a10, (isO Y r0 11 ∧ s.2 r0 0 = some a10) ∧ (∃ m12, (isA Y a10 0 m12 ∧ inR ((x1 + (487 : Int32)) + x2) m12) ∧ (isO Y r0 11 ∧ tT Y d 184 0 [.ref r0, .int (s.1 a6 (((x1 + (187 : Int32)) + x2)).toNatClampNeg), .int (s.1 a10 (((x1 + (487 : Int32)) + x2)).toNatClampNeg), .null] [] s (fun r s1 => tT Y (d + 1) 189 92 [.ref r0, .int x1, .int x2, .int (s.1 a6 (((x1 + (187 : Int32)) + x2)).toNatClampNeg), .int (s.1 a10 (((x1 + (487 : Int32)) + x2)).toNatClampNeg)] ((r.map Value.int).toList ++ []) s1 K)))))))))) : tT Y (d + 1) 189 44 [.ref r0, .int x1, .int x2, u3, u4] [] s K :=
  (tt_iload (p_189_44 _ _) rfl).mpr ((tt_aload (p_189_45 _ _) rfl).mpr (Exists.elim h (fun a1 h2 => t3_getr (p_189_46 _ _) (isI_11_0) h2.1.1 h2.1.2 ((tt_iload (p_189_49 _ _) rfl).mpr ((tt_push (p_189_50 _ _)).mpr ((tt_bin (p_189_53 _ _)).mpr (Exists.elim h2.2 (fun m3 h4 => t3_ald (p_189_54 _ _) h4.1.1 h4.1.2 (t3_cmp (p := (s.1 a1 ((x1 + (186 : Int32))).toNatClampNeg) ≤ x2) (p_189_55 _ _) rfl (fun g5 => (tt_push (p_189_155 _ _)).mpr (tt_ret1 (p_189_156 _ _) (ifp h4.2 g5))) (fun g5 => (tt_aload (p_189_58 _ _) rfl).mpr (Exists.elim (ifn h4.2 g5) (fun a6 h7 => t3_getr (p_189_59 _ _) (isI_11_0) h7.1.1 h7.1.2 ((tt_iload (p_189_62 _ _) rfl).mpr ((tt_push (p_189_63 _ _)).mpr ((tt_bin (p_189_66 _ _)).mpr ((tt_iload (p_189_67 _ _) rfl).mpr ((tt_bin (p_189_68 _ _)).mpr (Exists.elim h7.2 (fun m8 h9 => t3_ald (p_189_69 _ _) h9.1.1 h9.1.2 ((tt_istore (p_189_70 _ _) (Nat.le_of_ble_eq_true rfl) rfl rfl).mpr ((tt_aload (p_189_71 _ _) rfl).mpr (Exists.elim h9.2 (fun a10 h11 => t3_getr (p_189_72 _ _) (isI_11_0) h11.1.1 h11.1.2 ((tt_iload (p_189_75 _ _) rfl).mpr ((tt_push (p_189_76 _ _)).mpr ((tt_bin (p_189_79 _ _)).mpr ((tt_iload (p_189_80 _ _) rfl).mpr ((tt_bin (p_189_81 _ _)).mpr (Exists.elim h11.2 (fun m12 h13 => t3_ald (p_189_82 _ _) h13.1.1 h13.1.2 ((tt_istore (p_189_83 _ _) (Nat.le_of_ble_eq_true rfl) rfl rfl).mpr ((tt_aload (p_189_85 _ _) rfl).mpr ((tt_iload (p_189_86 _ _) rfl).mpr ((tt_iload (p_189_87 _ _) rfl).mpr (t2_callv (z := 184) (k := 3) (i := r0) (as := [.int (s.1 a6 (((x1 + (187 : Int32)) + x2)).toNatClampNeg), .int (s.1 a10 (((x1 + (487 : Int32)) + x2)).toNatClampNeg)]) (rest := []) (p_189_89 _ _) mK_184 mL_184 rfl rfl (Nat.le_of_ble_eq_true rfl) rfl (Nat.le_of_ble_eq_true rfl) h13.2.1 h13.2.2)))))))))))))))))))))))))))))))))))
theorem b_189_92 {Y : sY} {d : Nat} {s : sT} {K : Option Int32 → sT → Prop} {r0 : Nat} {x1 : Int32} {x2 : Int32} {x3 : Int32} {x4 : Int32} {t0 : Int32} (h : (if t0 = 0 then (isO Y r0 11 ∧ tT Y d 181 0 [.ref r0, .int (0 : Int32), .int x3] [] s (fun r s1 => tT Y (d + 1) 189 117 [.ref r0, .int x1, .int x2, .int x3, .int x4] ((r.map Value.int).toList ++ []) s1 K)) else (∃ a2, (isO Y r0 11 ∧ s.2 r0 0 = some a2) ∧ (∃ m4, (isA Y a2 0 m4 ∧ inR ((x1 + (787 : Int32)) + x2) m4) ∧ tT Y (d + 1) 189 149 [.ref r0, .int x1, .int x2, .int x3, .int x4] [] (pV s a2 (((x1 + (787 : Int32)) + x2)).toNatClampNeg (0 : Int32)) K)))) : tT Y (d + 1) 189 92 [.ref r0, .int x1, .int x2, .int x3, .int x4] [.int t0] s K :=
  t3_if (p := t0 = 0) (p_189_92 _ _) rfl (fun g1 => (tt_aload (p_189_111 _ _) rfl).mpr ((tt_push (p_189_112 _ _)).mpr ((tt_iload (p_189_113 _ _) rfl).mpr (t2_callv (z := 181) (k := 3) (i := r0) (as := [.int (0 : Int32), .int x3]) (rest := []) (p_189_114 _ _) mK_181 mL_181 rfl rfl (Nat.le_of_ble_eq_true rfl) rfl (Nat.le_of_ble_eq_true rfl) (ifp h g1).1 (ifp h g1).2)))) (fun g1 => (tt_aload (p_189_95 _ _) rfl).mpr (Exists.elim (ifn h g1) (fun a2 h3 => t3_getr (p_189_96 _ _) (isI_11_0) h3.1.1 h3.1.2 ((tt_iload (p_189_99 _ _) rfl).mpr ((tt_push (p_189_100 _ _)).mpr ((tt_bin (p_189_103 _ _)).mpr ((tt_iload (p_189_104 _ _) rfl).mpr ((tt_bin (p_189_105 _ _)).mpr ((tt_push (p_189_106 _ _)).mpr (Exists.elim h3.2 (fun m4 h5 => t3_ast (p_189_107 _ _) h5.1.1 h5.1.2 ((tt_goto (p_189_108 _ _)).mpr (h5.2)))))))))))))
theorem b_189_117 {Y : sY} {d : Nat} {s : sT} {K : Option Int32 → sT → Prop} {r0 : Nat} {x1 : Int32} {x2 : Int32} {x3 : Int32} {x4 : Int32} {t0 : Int32} (h : (if t0 = 0 then tT Y (d + 1) 189 138 [.ref r0, .int x1, .int x2, .int x3, .int x4] [] s K else (isO Y r0 11 ∧ tT Y d 182 0 [.ref r0, .int (1 : Int32), .int x4, .null] [] s (fun r s1 => tT Y (d + 1) 189 127 [.ref r0, .int x1, .int x2, .int x3, .int x4] ((r.map Value.int).toList ++ []) s1 K)))) : tT Y (d + 1) 189 117 [.ref r0, .int x1, .int x2, .int x3, .int x4] [.int t0] s K :=
  t3_if (p := t0 = 0) (p_189_117 _ _) rfl (fun g1 => (ifp h g1)) (fun g1 => (tt_aload (p_189_120 _ _) rfl).mpr ((tt_push (p_189_121 _ _)).mpr ((tt_iload (p_189_122 _ _) rfl).mpr (t2_callv (z := 182) (k := 3) (i := r0) (as := [.int (1 : Int32), .int x4]) (rest := []) (p_189_124 _ _) mK_182 mL_182 rfl rfl (Nat.le_of_ble_eq_true rfl) rfl (Nat.le_of_ble_eq_true rfl) (ifn h g1).1 (ifn h g1).2))))
theorem b_189_127 {Y : sY} {d : Nat} {s : sT} {K : Option Int32 → sT → Prop} {r0 : Nat} {x1 : Int32} {x2 : Int32} {x3 : Int32} {x4 : Int32} {t0 : Int32} (h : (if ¬ t0 = 0 then tT Y (d + 1) 189 138 [.ref r0, .int x1, .int x2, .int x3, .int x4] [] s K else (isO Y r0 11 ∧ tT Y d 188 0 [.ref r0, .int x1, .int x2, .null, .null, .null] [] s (fun r s1 => tT Y (d + 1) 189 136 [.ref r0, .int x1, .int x2, .int x3, .int x4] ((r.map Value.int).toList ++ []) s1 K)))) : tT Y (d + 1) 189 127 [.ref r0, .int x1, .int x2, .int x3, .int x4] [.int t0] s K :=
  t3_if (p := ¬ t0 = 0) (p_189_127 _ _) rfl (fun g1 => (ifp h g1)) (fun g1 => (tt_aload (p_189_130 _ _) rfl).mpr ((tt_iload (p_189_131 _ _) rfl).mpr ((tt_iload (p_189_132 _ _) rfl).mpr (t2_callv (z := 188) (k := 3) (i := r0) (as := [.int x1, .int x2]) (rest := []) (p_189_133 _ _) mK_188 mL_188 rfl rfl (Nat.le_of_ble_eq_true rfl) rfl (Nat.le_of_ble_eq_true rfl) (ifn h g1).1 (ifn h g1).2))))
theorem b_189_136 {Y : sY} {d : Nat} {s : sT} {K : Option Int32 → sT → Prop} {r0 : Nat} {x1 : Int32} {x2 : Int32} {x3 : Int32} {x4 : Int32} (h : K (some (1 : Int32)) s) : tT Y (d + 1) 189 136 [.ref r0, .int x1, .int x2, .int x3, .int x4] [] s K :=
  (tt_push (p_189_136 _ _)).mpr (tt_ret1 (p_189_137 _ _) h)
theorem b_189_138 {Y : sY} {d : Nat} {s : sT} {K : Option Int32 → sT → Prop} {r0 : Nat} {x1 : Int32} {x2 : Int32} {x3 : Int32} {x4 : Int32} (h : (isO Y r0 11 ∧ tT Y d 187 0 [.ref r0, .int x1, .int x2, .null, .null, .null, .null, .null, .null, .null, .null] [] s (fun r s1 => tT Y (d + 1) 189 144 [.ref r0, .int x1, .int x2, .int x3, .int x4] ((r.map Value.int).toList ++ []) s1 K))) : tT Y (d + 1) 189 138 [.ref r0, .int x1, .int x2, .int x3, .int x4] [] s K :=
  (tt_aload (p_189_138 _ _) rfl).mpr ((tt_iload (p_189_139 _ _) rfl).mpr ((tt_iload (p_189_140 _ _) rfl).mpr (t2_callv (z := 187) (k := 3) (i := r0) (as := [.int x1, .int x2]) (rest := []) (p_189_141 _ _) mK_187 mL_187 rfl rfl (Nat.le_of_ble_eq_true rfl) rfl (Nat.le_of_ble_eq_true rfl) h.1 h.2)))
theorem b_189_144 {Y : sY} {d : Nat} {s : sT} {K : Option Int32 → sT → Prop} {r0 : Nat} {x1 : Int32} {x2 : Int32} {x3 : Int32} {x4 : Int32} {t0 : Int32} (h : (if ¬ t0 = 0 then tT Y (d + 1) 189 149 [.ref r0, .int x1, .int x2, .int x3, .int x4] [] s K else K (some (2 : Int32)) s)) : tT Y (d + 1) 189 144 [.ref r0, .int x1, .int x2, .int x3, .int x4] [.int t0] s K :=
  t3_if (p := ¬ t0 = 0) (p_189_144 _ _) rfl (fun g1 => (ifp h g1)) (fun g1 => (tt_push (p_189_147 _ _)).mpr (tt_ret1 (p_189_148 _ _) (ifn h g1)))
theorem b_189_149 {Y : sY} {d : Nat} {s : sT} {K : Option Int32 → sT → Prop} {r0 : Nat} {x1 : Int32} {x2 : Int32} {x3 : Int32} {x4 : Int32} (h : tT Y (d + 1) 189 44 [.ref r0, .int x1, .int (x2 + 1), .int x3, .int x4] [] s K) : tT Y (d + 1) 189 149 [.ref r0, .int x1, .int x2, .int x3, .int x4] [] s K :=
  (tt_iinc (p_189_149 _ _) rfl rfl rfl).mpr ((tt_goto (p_189_152 _ _)).mpr (h))
/-! InclusionProverModel.forgets.(I)V -/
theorem p_190_0 (L : Nat) (xs : Nat → Int32) : ll_P L xs 190 0 = some (.inl (lo_aload 1 0)) := (P_190 L xs 0).trans rfl
theorem p_190_1 (L : Nat) (xs : Nat → Int32) : ll_P L xs 190 1 = some (.inl (lo_getf 4 11 0)) := (P_190 L xs 1).trans rfl
theorem p_190_4 (L : Nat) (xs : Nat → Int32) : ll_P L xs 190 4 = some (.inl (lo_iload 5 1)) := (P_190 L xs 4).trans rfl
theorem p_190_5 (L : Nat) (xs : Nat → Int32) : ll_P L xs 190 5 = some (.inl (lo_push 8 (.int 186))) := (P_190 L xs 5).trans rfl
theorem p_190_8 (L : Nat) (xs : Nat → Int32) : ll_P L xs 190 8 = some (.inl (lo_bin 9 (fun x y => x + y))) := (P_190 L xs 8).trans rfl
theorem p_190_9 (L : Nat) (xs : Nat → Int32) : ll_P L xs 190 9 = some (.inl (lo_push 10 (.int 0))) := (P_190 L xs 9).trans rfl
theorem p_190_10 (L : Nat) (xs : Nat → Int32) : ll_P L xs 190 10 = some (.inl (lo_ast 11 0)) := (P_190 L xs 10).trans rfl
theorem p_190_11 (L : Nat) (xs : Nat → Int32) : ll_P L xs 190 11 = some (.inl (lo_aload 12 0)) := (P_190 L xs 11).trans rfl
theorem p_190_12 (L : Nat) (xs : Nat → Int32) : ll_P L xs 190 12 = some (.inl (lo_getf 15 11 0)) := (P_190 L xs 12).trans rfl
theorem p_190_15 (L : Nat) (xs : Nat → Int32) : ll_P L xs 190 15 = some (.inl (lo_iload 16 1)) := (P_190 L xs 15).trans rfl
theorem p_190_16 (L : Nat) (xs : Nat → Int32) : ll_P L xs 190 16 = some (.inl (lo_push 19 (.int 10387))) := (P_190 L xs 16).trans rfl
theorem p_190_19 (L : Nat) (xs : Nat → Int32) : ll_P L xs 190 19 = some (.inl (lo_bin 20 (fun x y => x + y))) := (P_190 L xs 19).trans rfl
theorem p_190_20 (L : Nat) (xs : Nat → Int32) : ll_P L xs 190 20 = some (.inl (lo_push 21 (.int 0))) := (P_190 L xs 20).trans rfl
theorem p_190_21 (L : Nat) (xs : Nat → Int32) : ll_P L xs 190 21 = some (.inl (lo_ast 22 0)) := (P_190 L xs 21).trans rfl
theorem p_190_22 (L : Nat) (xs : Nat → Int32) : ll_P L xs 190 22 = some (.inl (lo_aload 23 0)) := (P_190 L xs 22).trans rfl
theorem p_190_23 (L : Nat) (xs : Nat → Int32) : ll_P L xs 190 23 = some (.inl (lo_getf 26 11 0)) := (P_190 L xs 23).trans rfl
theorem p_190_26 (L : Nat) (xs : Nat → Int32) : ll_P L xs 190 26 = some (.inl (lo_iload 27 1)) := (P_190 L xs 26).trans rfl
theorem p_190_27 (L : Nat) (xs : Nat → Int32) : ll_P L xs 190 27 = some (.inl (lo_push 30 (.int 10388))) := (P_190 L xs 27).trans rfl
theorem p_190_30 (L : Nat) (xs : Nat → Int32) : ll_P L xs 190 30 = some (.inl (lo_bin 31 (fun x y => x + y))) := (P_190 L xs 30).trans rfl
theorem p_190_31 (L : Nat) (xs : Nat → Int32) : ll_P L xs 190 31 = some (.inl (lo_push 32 (.int (-1)))) := (P_190 L xs 31).trans rfl
theorem p_190_32 (L : Nat) (xs : Nat → Int32) : ll_P L xs 190 32 = some (.inl (lo_ast 33 0)) := (P_190 L xs 32).trans rfl
theorem p_190_33 (L : Nat) (xs : Nat → Int32) : ll_P L xs 190 33 = some (.inr (.inr 0)) := (P_190 L xs 33).trans rfl
theorem b_190_0 {Y : sY} {d : Nat} {s : sT} {K : Option Int32 → sT → Prop} {r0 : Nat} {x1 : Int32} (h : (∃ a1, (isO Y r0 11 ∧ s.2 r0 0 = some a1) ∧ (∃ m3, (isA Y a1 0 m3 ∧ inR (x1 + (186 : Int32)) m3) ∧ (∃ a5, (isO Y r0 11 ∧ (pV s a1 ((x1 + (186 : Int32))).toNatClampNeg (0 : Int32)).2 r0 0 = some a5) ∧ (∃ m7, (isA Y a5 0 m7 ∧ inR (x1 + (10387 : Int32)) m7) ∧ (∃ a9, (isO Y r0 11 ∧ (pV (pV s a1 ((x1 + (186 : Int32))).toNatClampNeg (0 : Int32)) a5 ((x1 + (10387 : Int32))).toNatClampNeg (0 : Int32)).2 r0 0 = some a9) ∧ (∃ m11, (isA Y a9 0 m11 ∧ inR (x1 + (10388 : Int32)) m11) ∧ K none (pV (pV (pV s a1 ((x1 + (186 : Int32))).toNatClampNeg (0 : Int32)) a5 ((x1 + (10387 : Int32))).toNatClampNeg (0 : Int32)) a9 ((x1 + (10388 : Int32))).toNatClampNeg (-1 : Int32))))))))) : tT Y d 190 0 [.ref r0, .int x1] [] s K :=
  (tt_aload (p_190_0 _ _) rfl).mpr (Exists.elim h (fun a1 h2 => t3_getr (p_190_1 _ _) (isI_11_0) h2.1.1 h2.1.2 ((tt_iload (p_190_4 _ _) rfl).mpr ((tt_push (p_190_5 _ _)).mpr ((tt_bin (p_190_8 _ _)).mpr ((tt_push (p_190_9 _ _)).mpr (Exists.elim h2.2 (fun m3 h4 => t3_ast (p_190_10 _ _) h4.1.1 h4.1.2 ((tt_aload (p_190_11 _ _) rfl).mpr (Exists.elim h4.2 (fun a5 h6 => t3_getr (p_190_12 _ _) (isI_11_0) h6.1.1 h6.1.2 ((tt_iload (p_190_15 _ _) rfl).mpr ((tt_push (p_190_16 _ _)).mpr ((tt_bin (p_190_19 _ _)).mpr ((tt_push (p_190_20 _ _)).mpr (Exists.elim h6.2 (fun m7 h8 => t3_ast (p_190_21 _ _) h8.1.1 h8.1.2 ((tt_aload (p_190_22 _ _) rfl).mpr (Exists.elim h8.2 (fun a9 h10 => t3_getr (p_190_23 _ _) (isI_11_0) h10.1.1 h10.1.2 ((tt_iload (p_190_26 _ _) rfl).mpr ((tt_push (p_190_27 _ _)).mpr ((tt_bin (p_190_30 _ _)).mpr ((tt_push (p_190_31 _ _)).mpr (Exists.elim h10.2 (fun m11 h12 => t3_ast (p_190_32 _ _) h12.1.1 h12.1.2 (tt_ret0 (p_190_33 _ _) h12.2)))))))))))))))))))))))))))
/-! InclusionProverModel.prove.()I -/
theorem p_191_0 (L : Nat) (xs : Nat → Int32) : ll_P L xs 191 0 = some (.inl (lo_aload 1 0)) := (P_191 L xs 0).trans rfl
theorem p_191_1 (L : Nat) (xs : Nat → Int32) : ll_P L xs 191 1 = some (.inl (lo_push 2 (.int 0))) := (P_191 L xs 1).trans rfl
theorem p_191_2 (L : Nat) (xs : Nat → Int32) : ll_P L xs 191 2 = some (.inl (lo_push 4 (.int 31))) := (P_191 L xs 2).trans rfl
theorem p_191_4 (L : Nat) (xs : Nat → Int32) : ll_P L xs 191 4 = some (.inr (.inl (180, 3, 7))) := (P_191 L xs 4).trans rfl
theorem p_191_7 (L : Nat) (xs : Nat → Int32) : ll_P L xs 191 7 = some (.inl (lo_aload 8 0)) := (P_191 L xs 7).trans rfl
theorem p_191_8 (L : Nat) (xs : Nat → Int32) : ll_P L xs 191 8 = some (.inl (lo_push 9 (.int 0))) := (P_191 L xs 8).trans rfl
theorem p_191_9 (L : Nat) (xs : Nat → Int32) : ll_P L xs 191 9 = some (.inr (.inl (189, 2, 12))) := (P_191 L xs 9).trans rfl
theorem p_191_12 (L : Nat) (xs : Nat → Int32) : ll_P L xs 191 12 = some (.inr (.inr 1)) := (P_191 L xs 12).trans rfl
theorem b_191_0 {Y : sY} {d : Nat} {s : sT} {K : Option Int32 → sT → Prop} {r0 : Nat} (h : (isO Y r0 11 ∧ tT Y d 180 0 [.ref r0, .int (0 : Int32), .int (31 : Int32), .null, .null] [] s (fun r s1 => tT Y (d + 1) 191 7 [.ref r0] ((r.map Value.int).toList ++ []) s1 K))) : tT Y (d + 1) 191 0 [.ref r0] [] s K :=
  (tt_aload (p_191_0 _ _) rfl).mpr ((tt_push (p_191_1 _ _)).mpr ((tt_push (p_191_2 _ _)).mpr (t2_callv (z := 180) (k := 3) (i := r0) (as := [.int (0 : Int32), .int (31 : Int32)]) (rest := []) (p_191_4 _ _) mK_180 mL_180 rfl rfl (Nat.le_of_ble_eq_true rfl) rfl (Nat.le_of_ble_eq_true rfl) h.1 h.2)))
theorem b_191_7 {Y : sY} {d : Nat} {s : sT} {K : Option Int32 → sT → Prop} {r0 : Nat} (h : (isO Y r0 11 ∧ tT Y d 189 0 [.ref r0, .int (0 : Int32), .null, .null, .null] [] s (fun r s1 => tT Y (d + 1) 191 12 [.ref r0] ((r.map Value.int).toList ++ []) s1 K))) : tT Y (d + 1) 191 7 [.ref r0] [] s K :=
  (tt_aload (p_191_7 _ _) rfl).mpr ((tt_push (p_191_8 _ _)).mpr (t2_callv (z := 189) (k := 2) (i := r0) (as := [.int (0 : Int32)]) (rest := []) (p_191_9 _ _) mK_189 mL_189 rfl rfl (Nat.le_of_ble_eq_true rfl) rfl (Nat.le_of_ble_eq_true rfl) h.1 h.2))
theorem b_191_12 {Y : sY} {d : Nat} {s : sT} {K : Option Int32 → sT → Prop} {r0 : Nat} {t0 : Int32} (h : K (some t0) s) : tT Y (d + 1) 191 12 [.ref r0] [.int t0] s K :=
  tt_ret1 (p_191_12 _ _) h
/-! InclusionProverModel.tried.(II)I -/
theorem p_192_0 (L : Nat) (xs : Nat → Int32) : ll_P L xs 192 0 = some (.inl (lo_aload 1 0)) := (P_192 L xs 0).trans rfl
theorem p_192_1 (L : Nat) (xs : Nat → Int32) : ll_P L xs 192 1 = some (.inl (lo_iload 2 1)) := (P_192 L xs 1).trans rfl
theorem p_192_2 (L : Nat) (xs : Nat → Int32) : ll_P L xs 192 2 = some (.inl (lo_iload 3 2)) := (P_192 L xs 2).trans rfl
theorem p_192_3 (L : Nat) (xs : Nat → Int32) : ll_P L xs 192 3 = some (.inr (.inl (180, 3, 6))) := (P_192 L xs 3).trans rfl
theorem p_192_6 (L : Nat) (xs : Nat → Int32) : ll_P L xs 192 6 = some (.inl (lo_aload 7 0)) := (P_192 L xs 6).trans rfl
theorem p_192_7 (L : Nat) (xs : Nat → Int32) : ll_P L xs 192 7 = some (.inl (lo_push 10 (.int 10689))) := (P_192 L xs 7).trans rfl
theorem p_192_10 (L : Nat) (xs : Nat → Int32) : ll_P L xs 192 10 = some (.inr (.inl (189, 2, 13))) := (P_192 L xs 10).trans rfl
theorem p_192_13 (L : Nat) (xs : Nat → Int32) : ll_P L xs 192 13 = some (.inr (.inr 1)) := (P_192 L xs 13).trans rfl
theorem b_192_0 {Y : sY} {d : Nat} {s : sT} {K : Option Int32 → sT → Prop} {r0 : Nat} {x1 : Int32} {x2 : Int32} (h : (isO Y r0 11 ∧ tT Y d 180 0 [.ref r0, .int x1, .int x2, .null, .null] [] s (fun r s1 => tT Y (d + 1) 192 6 [.ref r0, .int x1, .int x2] ((r.map Value.int).toList ++ []) s1 K))) : tT Y (d + 1) 192 0 [.ref r0, .int x1, .int x2] [] s K :=
  (tt_aload (p_192_0 _ _) rfl).mpr ((tt_iload (p_192_1 _ _) rfl).mpr ((tt_iload (p_192_2 _ _) rfl).mpr (t2_callv (z := 180) (k := 3) (i := r0) (as := [.int x1, .int x2]) (rest := []) (p_192_3 _ _) mK_180 mL_180 rfl rfl (Nat.le_of_ble_eq_true rfl) rfl (Nat.le_of_ble_eq_true rfl) h.1 h.2)))
theorem b_192_6 {Y : sY} {d : Nat} {s : sT} {K : Option Int32 → sT → Prop} {r0 : Nat} {x1 : Int32} {x2 : Int32} (h : (isO Y r0 11 ∧ tT Y d 189 0 [.ref r0, .int (10689 : Int32), .null, .null, .null] [] s (fun r s1 => tT Y (d + 1) 192 13 [.ref r0, .int x1, .int x2] ((r.map Value.int).toList ++ []) s1 K))) : tT Y (d + 1) 192 6 [.ref r0, .int x1, .int x2] [] s K :=
  (tt_aload (p_192_6 _ _) rfl).mpr ((tt_push (p_192_7 _ _)).mpr (t2_callv (z := 189) (k := 2) (i := r0) (as := [.int (10689 : Int32)]) (rest := []) (p_192_10 _ _) mK_189 mL_189 rfl rfl (Nat.le_of_ble_eq_true rfl) rfl (Nat.le_of_ble_eq_true rfl) h.1 h.2))
theorem b_192_13 {Y : sY} {d : Nat} {s : sT} {K : Option Int32 → sT → Prop} {r0 : Nat} {x1 : Int32} {x2 : Int32} {t0 : Int32} (h : K (some t0) s) : tT Y (d + 1) 192 13 [.ref r0, .int x1, .int x2] [.int t0] s K :=
  tt_ret1 (p_192_13 _ _) h
/-! InclusionProverModel.same.()I -/
theorem p_193_0 (L : Nat) (xs : Nat → Int32) : ll_P L xs 193 0 = some (.inl (lo_aload 1 0)) := (P_193 L xs 0).trans rfl
theorem p_193_1 (L : Nat) (xs : Nat → Int32) : ll_P L xs 193 1 = some (.inl (lo_push 2 (.int 0))) := (P_193 L xs 1).trans rfl
theorem p_193_2 (L : Nat) (xs : Nat → Int32) : ll_P L xs 193 2 = some (.inl (lo_push 4 (.int 31))) := (P_193 L xs 2).trans rfl
theorem p_193_4 (L : Nat) (xs : Nat → Int32) : ll_P L xs 193 4 = some (.inr (.inl (192, 3, 7))) := (P_193 L xs 4).trans rfl
theorem p_193_7 (L : Nat) (xs : Nat → Int32) : ll_P L xs 193 7 = some (.inl (lo_istore 8 1)) := (P_193 L xs 7).trans rfl
theorem p_193_8 (L : Nat) (xs : Nat → Int32) : ll_P L xs 193 8 = some (.inl (lo_iload 9 1)) := (P_193 L xs 8).trans rfl
theorem p_193_9 (L : Nat) (xs : Nat → Int32) : ll_P L xs 193 9 = some (.inl (lo_push 10 (.int 1))) := (P_193 L xs 9).trans rfl
theorem p_193_10 (L : Nat) (xs : Nat → Int32) : ll_P L xs 193 10 = some (.inl (lo_cmp 17 13 (fun x y => decide (¬ x = y)))) := (P_193 L xs 10).trans rfl
theorem p_193_13 (L : Nat) (xs : Nat → Int32) : ll_P L xs 193 13 = some (.inl (lo_push 14 (.int 1))) := (P_193 L xs 13).trans rfl
theorem p_193_14 (L : Nat) (xs : Nat → Int32) : ll_P L xs 193 14 = some (.inl (lo_goto 24)) := (P_193 L xs 14).trans rfl
theorem p_193_17 (L : Nat) (xs : Nat → Int32) : ll_P L xs 193 17 = some (.inl (lo_aload 18 0)) := (P_193 L xs 17).trans rfl
theorem p_193_18 (L : Nat) (xs : Nat → Int32) : ll_P L xs 193 18 = some (.inl (lo_push 20 (.int 31))) := (P_193 L xs 18).trans rfl
theorem p_193_20 (L : Nat) (xs : Nat → Int32) : ll_P L xs 193 20 = some (.inl (lo_push 21 (.int 0))) := (P_193 L xs 20).trans rfl
theorem p_193_21 (L : Nat) (xs : Nat → Int32) : ll_P L xs 193 21 = some (.inr (.inl (192, 3, 24))) := (P_193 L xs 21).trans rfl
theorem p_193_24 (L : Nat) (xs : Nat → Int32) : ll_P L xs 193 24 = some (.inl (lo_istore 25 2)) := (P_193 L xs 24).trans rfl
theorem p_193_25 (L : Nat) (xs : Nat → Int32) : ll_P L xs 193 25 = some (.inl (lo_iload 26 1)) := (P_193 L xs 25).trans rfl
theorem p_193_26 (L : Nat) (xs : Nat → Int32) : ll_P L xs 193 26 = some (.inl (lo_push 27 (.int 1))) := (P_193 L xs 26).trans rfl
theorem p_193_27 (L : Nat) (xs : Nat → Int32) : ll_P L xs 193 27 = some (.inl (lo_cmp 35 30 (fun x y => decide (x = y)))) := (P_193 L xs 27).trans rfl
theorem p_193_30 (L : Nat) (xs : Nat → Int32) : ll_P L xs 193 30 = some (.inl (lo_iload 31 2)) := (P_193 L xs 30).trans rfl
theorem p_193_31 (L : Nat) (xs : Nat → Int32) : ll_P L xs 193 31 = some (.inl (lo_push 32 (.int 1))) := (P_193 L xs 31).trans rfl
theorem p_193_32 (L : Nat) (xs : Nat → Int32) : ll_P L xs 193 32 = some (.inl (lo_cmp 39 35 (fun x y => decide (¬ x = y)))) := (P_193 L xs 32).trans rfl
theorem p_193_35 (L : Nat) (xs : Nat → Int32) : ll_P L xs 193 35 = some (.inl (lo_push 36 (.int 0))) := (P_193 L xs 35).trans rfl
theorem p_193_36 (L : Nat) (xs : Nat → Int32) : ll_P L xs 193 36 = some (.inl (lo_goto 52)) := (P_193 L xs 36).trans rfl
theorem p_193_39 (L : Nat) (xs : Nat → Int32) : ll_P L xs 193 39 = some (.inl (lo_iload 40 1)) := (P_193 L xs 39).trans rfl
theorem p_193_40 (L : Nat) (xs : Nat → Int32) : ll_P L xs 193 40 = some (.inl (lo_if 51 43 (fun x => decide (¬ x = 0)))) := (P_193 L xs 40).trans rfl
theorem p_193_43 (L : Nat) (xs : Nat → Int32) : ll_P L xs 193 43 = some (.inl (lo_iload 44 2)) := (P_193 L xs 43).trans rfl
theorem p_193_44 (L : Nat) (xs : Nat → Int32) : ll_P L xs 193 44 = some (.inl (lo_if 51 47 (fun x => decide (¬ x = 0)))) := (P_193 L xs 44).trans rfl
theorem p_193_47 (L : Nat) (xs : Nat → Int32) : ll_P L xs 193 47 = some (.inl (lo_push 48 (.int 1))) := (P_193 L xs 47).trans rfl
theorem p_193_48 (L : Nat) (xs : Nat → Int32) : ll_P L xs 193 48 = some (.inl (lo_goto 52)) := (P_193 L xs 48).trans rfl
theorem p_193_51 (L : Nat) (xs : Nat → Int32) : ll_P L xs 193 51 = some (.inl (lo_push 52 (.int 2))) := (P_193 L xs 51).trans rfl
theorem p_193_52 (L : Nat) (xs : Nat → Int32) : ll_P L xs 193 52 = some (.inr (.inr 1)) := (P_193 L xs 52).trans rfl
theorem b_193_0 {Y : sY} {d : Nat} {s : sT} {K : Option Int32 → sT → Prop} {r0 : Nat} (h : (isO Y r0 11 ∧ tT Y d 192 0 [.ref r0, .int (0 : Int32), .int (31 : Int32)] [] s (fun r s1 => tT Y (d + 1) 193 7 [.ref r0, .null, .null] ((r.map Value.int).toList ++ []) s1 K))) : tT Y (d + 1) 193 0 [.ref r0, .null, .null] [] s K :=
  (tt_aload (p_193_0 _ _) rfl).mpr ((tt_push (p_193_1 _ _)).mpr ((tt_push (p_193_2 _ _)).mpr (t2_callv (z := 192) (k := 3) (i := r0) (as := [.int (0 : Int32), .int (31 : Int32)]) (rest := []) (p_193_4 _ _) mK_192 mL_192 rfl rfl (Nat.le_of_ble_eq_true rfl) rfl (Nat.le_of_ble_eq_true rfl) h.1 h.2)))
theorem b_193_7 {Y : sY} {d : Nat} {s : sT} {K : Option Int32 → sT → Prop} {r0 : Nat} {t0 : Int32} (h : (if ¬ t0 = (1 : Int32) then (isO Y r0 11 ∧ tT Y d 192 0 [.ref r0, .int (31 : Int32), .int (0 : Int32)] [] s (fun r s1 => tT Y (d + 1) 193 24 [.ref r0, .int t0, .null] ((r.map Value.int).toList ++ []) s1 K)) else tT Y (d + 1) 193 24 [.ref r0, .int t0, .null] [.int (1 : Int32)] s K)) : tT Y (d + 1) 193 7 [.ref r0, .null, .null] [.int t0] s K :=
  (tt_istore (p_193_7 _ _) (Nat.le_of_ble_eq_true rfl) rfl rfl).mpr ((tt_iload (p_193_8 _ _) rfl).mpr ((tt_push (p_193_9 _ _)).mpr (t3_cmp (p := ¬ t0 = (1 : Int32)) (p_193_10 _ _) rfl (fun g1 => (tt_aload (p_193_17 _ _) rfl).mpr ((tt_push (p_193_18 _ _)).mpr ((tt_push (p_193_20 _ _)).mpr (t2_callv (z := 192) (k := 3) (i := r0) (as := [.int (31 : Int32), .int (0 : Int32)]) (rest := []) (p_193_21 _ _) mK_192 mL_192 rfl rfl (Nat.le_of_ble_eq_true rfl) rfl (Nat.le_of_ble_eq_true rfl) (ifp h g1).1 (ifp h g1).2)))) (fun g1 => (tt_push (p_193_13 _ _)).mpr ((tt_goto (p_193_14 _ _)).mpr ((ifn h g1)))))))
theorem b_193_24 {Y : sY} {d : Nat} {s : sT} {K : Option Int32 → sT → Prop} {r0 : Nat} {x1 : Int32} {t0 : Int32} (h : (if x1 = (1 : Int32) then K (some (0 : Int32)) s else (if ¬ t0 = (1 : Int32) then (if ¬ x1 = 0 then K (some (2 : Int32)) s else (if ¬ t0 = 0 then K (some (2 : Int32)) s else K (some (1 : Int32)) s)) else K (some (0 : Int32)) s))) : tT Y (d + 1) 193 24 [.ref r0, .int x1, .null] [.int t0] s K :=
  (tt_istore (p_193_24 _ _) (Nat.le_of_ble_eq_true rfl) rfl rfl).mpr ((tt_iload (p_193_25 _ _) rfl).mpr ((tt_push (p_193_26 _ _)).mpr (t3_cmp (p := x1 = (1 : Int32)) (p_193_27 _ _) rfl (fun g1 => (tt_push (p_193_35 _ _)).mpr ((tt_goto (p_193_36 _ _)).mpr (tt_ret1 (p_193_52 _ _) (ifp h g1)))) (fun g1 => (tt_iload (p_193_30 _ _) rfl).mpr ((tt_push (p_193_31 _ _)).mpr (t3_cmp (p := ¬ t0 = (1 : Int32)) (p_193_32 _ _) rfl (fun g2 => (tt_iload (p_193_39 _ _) rfl).mpr (t3_if (p := ¬ x1 = 0) (p_193_40 _ _) rfl (fun g3 => (tt_push (p_193_51 _ _)).mpr (tt_ret1 (p_193_52 _ _) (ifp (ifp (ifn h g1) g2) g3))) (fun g3 => (tt_iload (p_193_43 _ _) rfl).mpr (t3_if (p := ¬ t0 = 0) (p_193_44 _ _) rfl (fun g4 => (tt_push (p_193_51 _ _)).mpr (tt_ret1 (p_193_52 _ _) (ifp (ifn (ifp (ifn h g1) g2) g3) g4))) (fun g4 => (tt_push (p_193_47 _ _)).mpr ((tt_goto (p_193_48 _ _)).mpr (tt_ret1 (p_193_52 _ _) (ifn (ifn (ifp (ifn h g1) g2) g3) g4)))))))) (fun g2 => (tt_push (p_193_35 _ _)).mpr ((tt_goto (p_193_36 _ _)).mpr (tt_ret1 (p_193_52 _ _) (ifn (ifn h g1) g2))))))))))
/-! InclusionProverModel.isSlot.(I)Z -/
theorem p_194_0 (L : Nat) (xs : Nat → Int32) : ll_P L xs 194 0 = some (.inl (lo_iload 1 0)) := (P_194 L xs 0).trans rfl
theorem p_194_1 (L : Nat) (xs : Nat → Int32) : ll_P L xs 194 1 = some (.inl (lo_push 2 (.int 0))) := (P_194 L xs 1).trans rfl
theorem p_194_2 (L : Nat) (xs : Nat → Int32) : ll_P L xs 194 2 = some (.inl (lo_push 3 (.int 3))) := (P_194 L xs 2).trans rfl
theorem p_194_3 (L : Nat) (xs : Nat → Int32) : ll_P L xs 194 3 = some (.inr (.inl (151, 3, 6))) := (P_194 L xs 3).trans rfl
theorem p_194_6 (L : Nat) (xs : Nat → Int32) : ll_P L xs 194 6 = some (.inr (.inr 2)) := (P_194 L xs 6).trans rfl
theorem b_194_0 {Y : sY} {d : Nat} {s : sT} {K : Option Int32 → sT → Prop} {x0 : Int32} (h : tT Y d 151 0 [.int x0, .int (0 : Int32), .int (3 : Int32)] [] s (fun r s1 => tT Y (d + 1) 194 6 [.int x0] ((r.map Value.int).toList ++ []) s1 K)) : tT Y (d + 1) 194 0 [.int x0] [] s K :=
  (tt_iload (p_194_0 _ _) rfl).mpr ((tt_push (p_194_1 _ _)).mpr ((tt_push (p_194_2 _ _)).mpr (t2_calls (z := 151) (k := 3) (as := [.int x0, .int (0 : Int32), .int (3 : Int32)]) (rest := []) (p_194_3 _ _) mK_151 mL_151 rfl rfl (Nat.le_of_ble_eq_true rfl) rfl (Nat.le_of_ble_eq_true rfl) h)))
theorem b_194_6 {Y : sY} {d : Nat} {s : sT} {K : Option Int32 → sT → Prop} {x0 : Int32} {t0 : Int32} (h : ((t0 = 0 ∨ t0 = 1) ∧ K (some t0) s)) : tT Y (d + 1) 194 6 [.int x0] [.int t0] s K :=
  tt_ret2 (p_194_6 _ _) h.1 h.2
/-! InclusionProverModel.between.(II)I -/
theorem p_195_0 (L : Nat) (xs : Nat → Int32) : ll_P L xs 195 0 = some (.inl (lo_iload 1 1)) := (P_195 L xs 0).trans rfl
theorem p_195_1 (L : Nat) (xs : Nat → Int32) : ll_P L xs 195 1 = some (.inr (.inl (194, 1, 4))) := (P_195 L xs 1).trans rfl
theorem p_195_4 (L : Nat) (xs : Nat → Int32) : ll_P L xs 195 4 = some (.inl (lo_if 35 7 (fun x => decide (x = 0)))) := (P_195 L xs 4).trans rfl
theorem p_195_7 (L : Nat) (xs : Nat → Int32) : ll_P L xs 195 7 = some (.inl (lo_iload 8 2)) := (P_195 L xs 7).trans rfl
theorem p_195_8 (L : Nat) (xs : Nat → Int32) : ll_P L xs 195 8 = some (.inr (.inl (194, 1, 11))) := (P_195 L xs 8).trans rfl
theorem p_195_11 (L : Nat) (xs : Nat → Int32) : ll_P L xs 195 11 = some (.inl (lo_if 35 14 (fun x => decide (x = 0)))) := (P_195 L xs 11).trans rfl
theorem p_195_14 (L : Nat) (xs : Nat → Int32) : ll_P L xs 195 14 = some (.inl (lo_aload 15 0)) := (P_195 L xs 14).trans rfl
theorem p_195_15 (L : Nat) (xs : Nat → Int32) : ll_P L xs 195 15 = some (.inl (lo_push 17 (.int 62))) := (P_195 L xs 15).trans rfl
theorem p_195_17 (L : Nat) (xs : Nat → Int32) : ll_P L xs 195 17 = some (.inl (lo_push 19 (.int 31))) := (P_195 L xs 17).trans rfl
theorem p_195_19 (L : Nat) (xs : Nat → Int32) : ll_P L xs 195 19 = some (.inl (lo_iload 20 1)) := (P_195 L xs 19).trans rfl
theorem p_195_20 (L : Nat) (xs : Nat → Int32) : ll_P L xs 195 20 = some (.inl (lo_bin 21 (fun x y => x * y))) := (P_195 L xs 20).trans rfl
theorem p_195_21 (L : Nat) (xs : Nat → Int32) : ll_P L xs 195 21 = some (.inl (lo_bin 22 (fun x y => x + y))) := (P_195 L xs 21).trans rfl
theorem p_195_22 (L : Nat) (xs : Nat → Int32) : ll_P L xs 195 22 = some (.inl (lo_push 24 (.int 62))) := (P_195 L xs 22).trans rfl
theorem p_195_24 (L : Nat) (xs : Nat → Int32) : ll_P L xs 195 24 = some (.inl (lo_push 26 (.int 31))) := (P_195 L xs 24).trans rfl
theorem p_195_26 (L : Nat) (xs : Nat → Int32) : ll_P L xs 195 26 = some (.inl (lo_iload 27 2)) := (P_195 L xs 26).trans rfl
theorem p_195_27 (L : Nat) (xs : Nat → Int32) : ll_P L xs 195 27 = some (.inl (lo_bin 28 (fun x y => x * y))) := (P_195 L xs 27).trans rfl
theorem p_195_28 (L : Nat) (xs : Nat → Int32) : ll_P L xs 195 28 = some (.inl (lo_bin 29 (fun x y => x + y))) := (P_195 L xs 28).trans rfl
theorem p_195_29 (L : Nat) (xs : Nat → Int32) : ll_P L xs 195 29 = some (.inr (.inl (192, 3, 32))) := (P_195 L xs 29).trans rfl
theorem p_195_32 (L : Nat) (xs : Nat → Int32) : ll_P L xs 195 32 = some (.inl (lo_goto 36)) := (P_195 L xs 32).trans rfl
theorem p_195_35 (L : Nat) (xs : Nat → Int32) : ll_P L xs 195 35 = some (.inl (lo_push 36 (.int (-1)))) := (P_195 L xs 35).trans rfl
theorem p_195_36 (L : Nat) (xs : Nat → Int32) : ll_P L xs 195 36 = some (.inr (.inr 1)) := (P_195 L xs 36).trans rfl
theorem b_195_0 {Y : sY} {d : Nat} {s : sT} {K : Option Int32 → sT → Prop} {r0 : Nat} {x1 : Int32} {x2 : Int32} (h : tT Y d 194 0 [.int x1] [] s (fun r s1 => tT Y (d + 1) 195 4 [.ref r0, .int x1, .int x2] ((r.map Value.int).toList ++ []) s1 K)) : tT Y (d + 1) 195 0 [.ref r0, .int x1, .int x2] [] s K :=
  (tt_iload (p_195_0 _ _) rfl).mpr (t2_calls (z := 194) (k := 1) (as := [.int x1]) (rest := []) (p_195_1 _ _) mK_194 mL_194 rfl rfl (Nat.le_of_ble_eq_true rfl) rfl (Nat.le_of_ble_eq_true rfl) h)
theorem b_195_4 {Y : sY} {d : Nat} {s : sT} {K : Option Int32 → sT → Prop} {r0 : Nat} {x1 : Int32} {x2 : Int32} {t0 : Int32} (h : (if t0 = 0 then K (some (-1 : Int32)) s else tT Y d 194 0 [.int x2] [] s (fun r s1 => tT Y (d + 1) 195 11 [.ref r0, .int x1, .int x2] ((r.map Value.int).toList ++ []) s1 K))) : tT Y (d + 1) 195 4 [.ref r0, .int x1, .int x2] [.int t0] s K :=
  t3_if (p := t0 = 0) (p_195_4 _ _) rfl (fun g1 => (tt_push (p_195_35 _ _)).mpr (tt_ret1 (p_195_36 _ _) (ifp h g1))) (fun g1 => (tt_iload (p_195_7 _ _) rfl).mpr (t2_calls (z := 194) (k := 1) (as := [.int x2]) (rest := []) (p_195_8 _ _) mK_194 mL_194 rfl rfl (Nat.le_of_ble_eq_true rfl) rfl (Nat.le_of_ble_eq_true rfl) (ifn h g1)))
theorem b_195_11 {Y : sY} {d : Nat} {s : sT} {K : Option Int32 → sT → Prop} {r0 : Nat} {x1 : Int32} {x2 : Int32} {t0 : Int32} (h : (if t0 = 0 then K (some (-1 : Int32)) s else (isO Y r0 11 ∧ tT Y d 192 0 [.ref r0, .int ((62 : Int32) + ((31 : Int32) * x1)), .int ((62 : Int32) + ((31 : Int32) * x2))] [] s (fun r s1 => tT Y (d + 1) 195 32 [.ref r0, .int x1, .int x2] ((r.map Value.int).toList ++ []) s1 K)))) : tT Y (d + 1) 195 11 [.ref r0, .int x1, .int x2] [.int t0] s K :=
  t3_if (p := t0 = 0) (p_195_11 _ _) rfl (fun g1 => (tt_push (p_195_35 _ _)).mpr (tt_ret1 (p_195_36 _ _) (ifp h g1))) (fun g1 => (tt_aload (p_195_14 _ _) rfl).mpr ((tt_push (p_195_15 _ _)).mpr ((tt_push (p_195_17 _ _)).mpr ((tt_iload (p_195_19 _ _) rfl).mpr ((tt_bin (p_195_20 _ _)).mpr ((tt_bin (p_195_21 _ _)).mpr ((tt_push (p_195_22 _ _)).mpr ((tt_push (p_195_24 _ _)).mpr ((tt_iload (p_195_26 _ _) rfl).mpr ((tt_bin (p_195_27 _ _)).mpr ((tt_bin (p_195_28 _ _)).mpr (t2_callv (z := 192) (k := 3) (i := r0) (as := [.int ((62 : Int32) + ((31 : Int32) * x1)), .int ((62 : Int32) + ((31 : Int32) * x2))]) (rest := []) (p_195_29 _ _) mK_192 mL_192 rfl rfl (Nat.le_of_ble_eq_true rfl) rfl (Nat.le_of_ble_eq_true rfl) (ifn h g1).1 (ifn h g1).2))))))))))))
theorem b_195_32 {Y : sY} {d : Nat} {s : sT} {K : Option Int32 → sT → Prop} {r0 : Nat} {x1 : Int32} {x2 : Int32} {t0 : Int32} (h : K (some t0) s) : tT Y (d + 1) 195 32 [.ref r0, .int x1, .int x2] [.int t0] s K :=
  (tt_goto (p_195_32 _ _)).mpr (tt_ret1 (p_195_36 _ _) h)
/-! InclusionProverModel.apart.(I)I -/
theorem p_196_0 (L : Nat) (xs : Nat → Int32) : ll_P L xs 196 0 = some (.inl (lo_aload 1 0)) := (P_196 L xs 0).trans rfl
theorem p_196_1 (L : Nat) (xs : Nat → Int32) : ll_P L xs 196 1 = some (.inl (lo_getf 4 11 0)) := (P_196 L xs 1).trans rfl
theorem p_196_4 (L : Nat) (xs : Nat → Int32) : ll_P L xs 196 4 = some (.inl (lo_push 7 (.int 10388))) := (P_196 L xs 4).trans rfl
theorem p_196_7 (L : Nat) (xs : Nat → Int32) : ll_P L xs 196 7 = some (.inl (lo_ald 8 0)) := (P_196 L xs 7).trans rfl
theorem p_196_8 (L : Nat) (xs : Nat → Int32) : ll_P L xs 196 8 = some (.inl (lo_push 9 (.int (-1)))) := (P_196 L xs 8).trans rfl
theorem p_196_9 (L : Nat) (xs : Nat → Int32) : ll_P L xs 196 9 = some (.inl (lo_cmp 14 12 (fun x y => decide (¬ x = y)))) := (P_196 L xs 9).trans rfl
theorem p_196_12 (L : Nat) (xs : Nat → Int32) : ll_P L xs 196 12 = some (.inl (lo_push 13 (.int (-1)))) := (P_196 L xs 12).trans rfl
theorem p_196_13 (L : Nat) (xs : Nat → Int32) : ll_P L xs 196 13 = some (.inr (.inr 1)) := (P_196 L xs 13).trans rfl
theorem p_196_14 (L : Nat) (xs : Nat → Int32) : ll_P L xs 196 14 = some (.inl (lo_iload 15 1)) := (P_196 L xs 14).trans rfl
theorem p_196_15 (L : Nat) (xs : Nat → Int32) : ll_P L xs 196 15 = some (.inl (lo_if 29 18 (fun x => decide (¬ x = 0)))) := (P_196 L xs 15).trans rfl
theorem p_196_18 (L : Nat) (xs : Nat → Int32) : ll_P L xs 196 18 = some (.inl (lo_aload 19 0)) := (P_196 L xs 18).trans rfl
theorem p_196_19 (L : Nat) (xs : Nat → Int32) : ll_P L xs 196 19 = some (.inl (lo_getf 22 11 0)) := (P_196 L xs 19).trans rfl
theorem p_196_22 (L : Nat) (xs : Nat → Int32) : ll_P L xs 196 22 = some (.inl (lo_push 25 (.int 10388))) := (P_196 L xs 22).trans rfl
theorem p_196_25 (L : Nat) (xs : Nat → Int32) : ll_P L xs 196 25 = some (.inl (lo_ald 26 0)) := (P_196 L xs 25).trans rfl
theorem p_196_26 (L : Nat) (xs : Nat → Int32) : ll_P L xs 196 26 = some (.inl (lo_goto 63)) := (P_196 L xs 26).trans rfl
theorem p_196_29 (L : Nat) (xs : Nat → Int32) : ll_P L xs 196 29 = some (.inl (lo_iload 30 1)) := (P_196 L xs 29).trans rfl
theorem p_196_30 (L : Nat) (xs : Nat → Int32) : ll_P L xs 196 30 = some (.inl (lo_push 31 (.int 1))) := (P_196 L xs 30).trans rfl
theorem p_196_31 (L : Nat) (xs : Nat → Int32) : ll_P L xs 196 31 = some (.inl (lo_bin 32 (fun x y => x - y))) := (P_196 L xs 31).trans rfl
theorem p_196_32 (L : Nat) (xs : Nat → Int32) : ll_P L xs 196 32 = some (.inl (lo_push 33 (.int 0))) := (P_196 L xs 32).trans rfl
theorem p_196_33 (L : Nat) (xs : Nat → Int32) : ll_P L xs 196 33 = some (.inl (lo_aload 34 0)) := (P_196 L xs 33).trans rfl
theorem p_196_34 (L : Nat) (xs : Nat → Int32) : ll_P L xs 196 34 = some (.inl (lo_getf 37 11 0)) := (P_196 L xs 34).trans rfl
theorem p_196_37 (L : Nat) (xs : Nat → Int32) : ll_P L xs 196 37 = some (.inl (lo_push 40 (.int 10388))) := (P_196 L xs 37).trans rfl
theorem p_196_40 (L : Nat) (xs : Nat → Int32) : ll_P L xs 196 40 = some (.inl (lo_ald 41 0)) := (P_196 L xs 40).trans rfl
theorem p_196_41 (L : Nat) (xs : Nat → Int32) : ll_P L xs 196 41 = some (.inl (lo_push 42 (.int 1))) := (P_196 L xs 41).trans rfl
theorem p_196_42 (L : Nat) (xs : Nat → Int32) : ll_P L xs 196 42 = some (.inl (lo_bin 43 (fun x y => x - y))) := (P_196 L xs 42).trans rfl
theorem p_196_43 (L : Nat) (xs : Nat → Int32) : ll_P L xs 196 43 = some (.inr (.inl (151, 3, 46))) := (P_196 L xs 43).trans rfl
theorem p_196_46 (L : Nat) (xs : Nat → Int32) : ll_P L xs 196 46 = some (.inl (lo_if 62 49 (fun x => decide (x = 0)))) := (P_196 L xs 46).trans rfl
theorem p_196_49 (L : Nat) (xs : Nat → Int32) : ll_P L xs 196 49 = some (.inl (lo_aload 50 0)) := (P_196 L xs 49).trans rfl
theorem p_196_50 (L : Nat) (xs : Nat → Int32) : ll_P L xs 196 50 = some (.inl (lo_getf 53 11 0)) := (P_196 L xs 50).trans rfl
theorem p_196_53 (L : Nat) (xs : Nat → Int32) : ll_P L xs 196 53 = some (.inl (lo_push 56 (.int 10388))) := (P_196 L xs 53).trans rfl
theorem p_196_56 (L : Nat) (xs : Nat → Int32) : ll_P L xs 196 56 = some (.inl (lo_iload 57 1)) := (P_196 L xs 56).trans rfl
theorem p_196_57 (L : Nat) (xs : Nat → Int32) : ll_P L xs 196 57 = some (.inl (lo_bin 58 (fun x y => x + y))) := (P_196 L xs 57).trans rfl
theorem p_196_58 (L : Nat) (xs : Nat → Int32) : ll_P L xs 196 58 = some (.inl (lo_ald 59 0)) := (P_196 L xs 58).trans rfl
theorem p_196_59 (L : Nat) (xs : Nat → Int32) : ll_P L xs 196 59 = some (.inl (lo_goto 63)) := (P_196 L xs 59).trans rfl
theorem p_196_62 (L : Nat) (xs : Nat → Int32) : ll_P L xs 196 62 = some (.inl (lo_push 63 (.int (-1)))) := (P_196 L xs 62).trans rfl
theorem p_196_63 (L : Nat) (xs : Nat → Int32) : ll_P L xs 196 63 = some (.inr (.inr 1)) := (P_196 L xs 63).trans rfl
theorem b_196_0 {Y : sY} {d : Nat} {s : sT} {K : Option Int32 → sT → Prop} {r0 : Nat} {x1 : Int32} (h : (∃ a1, (isO Y r0 11 ∧ s.2 r0 0 = some a1) ∧ (∃ m3, (isA Y a1 0 m3 ∧ inR (10388 : Int32) m3) ∧ (if ¬ (s.1 a1 ((10388 : Int32)).toNatClampNeg) = (-1 : Int32) then (if ¬ x1 = 0 then (∃ a7, (isO Y r0 11 ∧ s.2 r0 0 = some a7) ∧ (∃ m9, (isA Y a7 0 m9 ∧ inR (10388 : Int32) m9) ∧ tT Y d 151 0 [.int (x1 - (1 : Int32)), .int (0 : Int32), .int ((s.1 a7 ((10388 : Int32)).toNatClampNeg) - (1 : Int32))] [] s (fun r s1 => tT Y (d + 1) 196 46 [.ref r0, .int x1] ((r.map Value.int).toList ++ []) s1 K))) else (∃ a11, (isO Y r0 11 ∧ s.2 r0 0 = some a11) ∧ (∃ m13, (isA Y a11 0 m13 ∧ inR (10388 : Int32) m13) ∧ K (some (s.1 a11 ((10388 : Int32)).toNatClampNeg)) s))) else K (some (-1 : Int32)) s)))) : tT Y (d + 1) 196 0 [.ref r0, .int x1] [] s K :=
  (tt_aload (p_196_0 _ _) rfl).mpr (Exists.elim h (fun a1 h2 => t3_getr (p_196_1 _ _) (isI_11_0) h2.1.1 h2.1.2 ((tt_push (p_196_4 _ _)).mpr (Exists.elim h2.2 (fun m3 h4 => t3_ald (p_196_7 _ _) h4.1.1 h4.1.2 ((tt_push (p_196_8 _ _)).mpr (t3_cmp (p := ¬ (s.1 a1 ((10388 : Int32)).toNatClampNeg) = (-1 : Int32)) (p_196_9 _ _) rfl (fun g5 => (tt_iload (p_196_14 _ _) rfl).mpr (t3_if (p := ¬ x1 = 0) (p_196_15 _ _) rfl (fun g6 => (tt_iload (p_196_29 _ _) rfl).mpr ((tt_push (p_196_30 _ _)).mpr ((tt_bin (p_196_31 _ _)).mpr ((tt_push (p_196_32 _ _)).mpr ((tt_aload (p_196_33 _ _) rfl).mpr (Exists.elim (ifp (ifp h4.2 g5) g6) (fun a7 h8 => t3_getr (p_196_34 _ _) (isI_11_0) h8.1.1 h8.1.2 ((tt_push (p_196_37 _ _)).mpr (Exists.elim h8.2 (fun m9 h10 => t3_ald (p_196_40 _ _) h10.1.1 h10.1.2 ((tt_push (p_196_41 _ _)).mpr ((tt_bin (p_196_42 _ _)).mpr (t2_calls (z := 151) (k := 3) (as := [.int (x1 - (1 : Int32)), .int (0 : Int32), .int ((s.1 a7 ((10388 : Int32)).toNatClampNeg) - (1 : Int32))]) (rest := []) (p_196_43 _ _) mK_151 mL_151 rfl rfl (Nat.le_of_ble_eq_true rfl) rfl (Nat.le_of_ble_eq_true rfl) h10.2))))))))))))) (fun g6 => (tt_aload (p_196_18 _ _) rfl).mpr (Exists.elim (ifn (ifp h4.2 g5) g6) (fun a11 h12 => t3_getr (p_196_19 _ _) (isI_11_0) h12.1.1 h12.1.2 ((tt_push (p_196_22 _ _)).mpr (Exists.elim h12.2 (fun m13 h14 => t3_ald (p_196_25 _ _) h14.1.1 h14.1.2 ((tt_goto (p_196_26 _ _)).mpr (tt_ret1 (p_196_63 _ _) h14.2)))))))))) (fun g5 => (tt_push (p_196_12 _ _)).mpr (tt_ret1 (p_196_13 _ _) (ifn h4.2 g5))))))))))
theorem b_196_46 {Y : sY} {d : Nat} {s : sT} {K : Option Int32 → sT → Prop} {r0 : Nat} {x1 : Int32} {t0 : Int32} (h : (if t0 = 0 then K (some (-1 : Int32)) s else (∃ a2, (isO Y r0 11 ∧ s.2 r0 0 = some a2) ∧ (∃ m4, (isA Y a2 0 m4 ∧ inR ((10388 : Int32) + x1) m4) ∧ K (some (s.1 a2 (((10388 : Int32) + x1)).toNatClampNeg)) s)))) : tT Y (d + 1) 196 46 [.ref r0, .int x1] [.int t0] s K :=
  t3_if (p := t0 = 0) (p_196_46 _ _) rfl (fun g1 => (tt_push (p_196_62 _ _)).mpr (tt_ret1 (p_196_63 _ _) (ifp h g1))) (fun g1 => (tt_aload (p_196_49 _ _) rfl).mpr (Exists.elim (ifn h g1) (fun a2 h3 => t3_getr (p_196_50 _ _) (isI_11_0) h3.1.1 h3.1.2 ((tt_push (p_196_53 _ _)).mpr ((tt_iload (p_196_56 _ _) rfl).mpr ((tt_bin (p_196_57 _ _)).mpr (Exists.elim h3.2 (fun m4 h5 => t3_ald (p_196_58 _ _) h5.1.1 h5.1.2 ((tt_goto (p_196_59 _ _)).mpr (tt_ret1 (p_196_63 _ _) h5.2))))))))))
/-! InclusionProverModel.line.(II)I -/
theorem p_197_0 (L : Nat) (xs : Nat → Int32) : ll_P L xs 197 0 = some (.inl (lo_iload 1 1)) := (P_197 L xs 0).trans rfl
theorem p_197_1 (L : Nat) (xs : Nat → Int32) : ll_P L xs 197 1 = some (.inl (lo_push 2 (.int 0))) := (P_197 L xs 1).trans rfl
theorem p_197_2 (L : Nat) (xs : Nat → Int32) : ll_P L xs 197 2 = some (.inl (lo_aload 3 0)) := (P_197 L xs 2).trans rfl
theorem p_197_3 (L : Nat) (xs : Nat → Int32) : ll_P L xs 197 3 = some (.inl (lo_getf 6 11 0)) := (P_197 L xs 3).trans rfl
theorem p_197_6 (L : Nat) (xs : Nat → Int32) : ll_P L xs 197 6 = some (.inl (lo_push 9 (.int 186))) := (P_197 L xs 6).trans rfl
theorem p_197_9 (L : Nat) (xs : Nat → Int32) : ll_P L xs 197 9 = some (.inl (lo_ald 10 0)) := (P_197 L xs 9).trans rfl
theorem p_197_10 (L : Nat) (xs : Nat → Int32) : ll_P L xs 197 10 = some (.inl (lo_push 11 (.int 1))) := (P_197 L xs 10).trans rfl
theorem p_197_11 (L : Nat) (xs : Nat → Int32) : ll_P L xs 197 11 = some (.inl (lo_bin 12 (fun x y => x - y))) := (P_197 L xs 11).trans rfl
theorem p_197_12 (L : Nat) (xs : Nat → Int32) : ll_P L xs 197 12 = some (.inr (.inl (151, 3, 15))) := (P_197 L xs 12).trans rfl
theorem p_197_15 (L : Nat) (xs : Nat → Int32) : ll_P L xs 197 15 = some (.inl (lo_if 21 18 (fun x => decide (¬ x = 0)))) := (P_197 L xs 15).trans rfl
theorem p_197_18 (L : Nat) (xs : Nat → Int32) : ll_P L xs 197 18 = some (.inl (lo_push 20 (.int (-2)))) := (P_197 L xs 18).trans rfl
theorem p_197_20 (L : Nat) (xs : Nat → Int32) : ll_P L xs 197 20 = some (.inr (.inr 1)) := (P_197 L xs 20).trans rfl
theorem p_197_21 (L : Nat) (xs : Nat → Int32) : ll_P L xs 197 21 = some (.inl (lo_iload 22 2)) := (P_197 L xs 21).trans rfl
theorem p_197_22 (L : Nat) (xs : Nat → Int32) : ll_P L xs 197 22 = some (.inl (lo_tab 0 [52, 63, 74, 85] 96)) := (P_197 L xs 22).trans rfl
theorem p_197_52 (L : Nat) (xs : Nat → Int32) : ll_P L xs 197 52 = some (.inl (lo_aload 53 0)) := (P_197 L xs 52).trans rfl
theorem p_197_53 (L : Nat) (xs : Nat → Int32) : ll_P L xs 197 53 = some (.inl (lo_getf 56 11 0)) := (P_197 L xs 53).trans rfl
theorem p_197_56 (L : Nat) (xs : Nat → Int32) : ll_P L xs 197 56 = some (.inl (lo_push 59 (.int 187))) := (P_197 L xs 56).trans rfl
theorem p_197_59 (L : Nat) (xs : Nat → Int32) : ll_P L xs 197 59 = some (.inl (lo_iload 60 1)) := (P_197 L xs 59).trans rfl
theorem p_197_60 (L : Nat) (xs : Nat → Int32) : ll_P L xs 197 60 = some (.inl (lo_bin 61 (fun x y => x + y))) := (P_197 L xs 60).trans rfl
theorem p_197_61 (L : Nat) (xs : Nat → Int32) : ll_P L xs 197 61 = some (.inl (lo_ald 62 0)) := (P_197 L xs 61).trans rfl
theorem p_197_62 (L : Nat) (xs : Nat → Int32) : ll_P L xs 197 62 = some (.inr (.inr 1)) := (P_197 L xs 62).trans rfl
theorem p_197_63 (L : Nat) (xs : Nat → Int32) : ll_P L xs 197 63 = some (.inl (lo_aload 64 0)) := (P_197 L xs 63).trans rfl
theorem p_197_64 (L : Nat) (xs : Nat → Int32) : ll_P L xs 197 64 = some (.inl (lo_getf 67 11 0)) := (P_197 L xs 64).trans rfl
theorem p_197_67 (L : Nat) (xs : Nat → Int32) : ll_P L xs 197 67 = some (.inl (lo_push 70 (.int 487))) := (P_197 L xs 67).trans rfl
theorem p_197_70 (L : Nat) (xs : Nat → Int32) : ll_P L xs 197 70 = some (.inl (lo_iload 71 1)) := (P_197 L xs 70).trans rfl
theorem p_197_71 (L : Nat) (xs : Nat → Int32) : ll_P L xs 197 71 = some (.inl (lo_bin 72 (fun x y => x + y))) := (P_197 L xs 71).trans rfl
theorem p_197_72 (L : Nat) (xs : Nat → Int32) : ll_P L xs 197 72 = some (.inl (lo_ald 73 0)) := (P_197 L xs 72).trans rfl
theorem p_197_73 (L : Nat) (xs : Nat → Int32) : ll_P L xs 197 73 = some (.inr (.inr 1)) := (P_197 L xs 73).trans rfl
theorem p_197_74 (L : Nat) (xs : Nat → Int32) : ll_P L xs 197 74 = some (.inl (lo_aload 75 0)) := (P_197 L xs 74).trans rfl
theorem p_197_75 (L : Nat) (xs : Nat → Int32) : ll_P L xs 197 75 = some (.inl (lo_getf 78 11 0)) := (P_197 L xs 75).trans rfl
theorem p_197_78 (L : Nat) (xs : Nat → Int32) : ll_P L xs 197 78 = some (.inl (lo_push 81 (.int 787))) := (P_197 L xs 78).trans rfl
theorem p_197_81 (L : Nat) (xs : Nat → Int32) : ll_P L xs 197 81 = some (.inl (lo_iload 82 1)) := (P_197 L xs 81).trans rfl
theorem p_197_82 (L : Nat) (xs : Nat → Int32) : ll_P L xs 197 82 = some (.inl (lo_bin 83 (fun x y => x + y))) := (P_197 L xs 82).trans rfl
theorem p_197_83 (L : Nat) (xs : Nat → Int32) : ll_P L xs 197 83 = some (.inl (lo_ald 84 0)) := (P_197 L xs 83).trans rfl
theorem p_197_84 (L : Nat) (xs : Nat → Int32) : ll_P L xs 197 84 = some (.inr (.inr 1)) := (P_197 L xs 84).trans rfl
theorem p_197_85 (L : Nat) (xs : Nat → Int32) : ll_P L xs 197 85 = some (.inl (lo_aload 86 0)) := (P_197 L xs 85).trans rfl
theorem p_197_86 (L : Nat) (xs : Nat → Int32) : ll_P L xs 197 86 = some (.inl (lo_getf 89 11 0)) := (P_197 L xs 86).trans rfl
theorem p_197_89 (L : Nat) (xs : Nat → Int32) : ll_P L xs 197 89 = some (.inl (lo_push 92 (.int 1087))) := (P_197 L xs 89).trans rfl
theorem p_197_92 (L : Nat) (xs : Nat → Int32) : ll_P L xs 197 92 = some (.inl (lo_iload 93 1)) := (P_197 L xs 92).trans rfl
theorem p_197_93 (L : Nat) (xs : Nat → Int32) : ll_P L xs 197 93 = some (.inl (lo_bin 94 (fun x y => x + y))) := (P_197 L xs 93).trans rfl
theorem p_197_94 (L : Nat) (xs : Nat → Int32) : ll_P L xs 197 94 = some (.inl (lo_ald 95 0)) := (P_197 L xs 94).trans rfl
theorem p_197_95 (L : Nat) (xs : Nat → Int32) : ll_P L xs 197 95 = some (.inr (.inr 1)) := (P_197 L xs 95).trans rfl
theorem p_197_96 (L : Nat) (xs : Nat → Int32) : ll_P L xs 197 96 = some (.inl (lo_iload 97 2)) := (P_197 L xs 96).trans rfl
theorem p_197_97 (L : Nat) (xs : Nat → Int32) : ll_P L xs 197 97 = some (.inl (lo_push 99 (.int 10))) := (P_197 L xs 97).trans rfl
theorem p_197_99 (L : Nat) (xs : Nat → Int32) : ll_P L xs 197 99 = some (.inl (lo_bin 100 (fun x y => x - y))) := (P_197 L xs 99).trans rfl
theorem p_197_100 (L : Nat) (xs : Nat → Int32) : ll_P L xs 197 100 = some (.inl (lo_push 101 (.int 0))) := (P_197 L xs 100).trans rfl
theorem p_197_101 (L : Nat) (xs : Nat → Int32) : ll_P L xs 197 101 = some (.inl (lo_aload 102 0)) := (P_197 L xs 101).trans rfl
theorem p_197_102 (L : Nat) (xs : Nat → Int32) : ll_P L xs 197 102 = some (.inl (lo_getf 105 11 0)) := (P_197 L xs 102).trans rfl
theorem p_197_105 (L : Nat) (xs : Nat → Int32) : ll_P L xs 197 105 = some (.inl (lo_push 108 (.int 1087))) := (P_197 L xs 105).trans rfl
theorem p_197_108 (L : Nat) (xs : Nat → Int32) : ll_P L xs 197 108 = some (.inl (lo_iload 109 1)) := (P_197 L xs 108).trans rfl
theorem p_197_109 (L : Nat) (xs : Nat → Int32) : ll_P L xs 197 109 = some (.inl (lo_bin 110 (fun x y => x + y))) := (P_197 L xs 109).trans rfl
theorem p_197_110 (L : Nat) (xs : Nat → Int32) : ll_P L xs 197 110 = some (.inl (lo_ald 111 0)) := (P_197 L xs 110).trans rfl
theorem p_197_111 (L : Nat) (xs : Nat → Int32) : ll_P L xs 197 111 = some (.inl (lo_push 112 (.int 1))) := (P_197 L xs 111).trans rfl
theorem p_197_112 (L : Nat) (xs : Nat → Int32) : ll_P L xs 197 112 = some (.inl (lo_bin 113 (fun x y => x - y))) := (P_197 L xs 112).trans rfl
theorem p_197_113 (L : Nat) (xs : Nat → Int32) : ll_P L xs 197 113 = some (.inr (.inl (151, 3, 116))) := (P_197 L xs 113).trans rfl
theorem p_197_116 (L : Nat) (xs : Nat → Int32) : ll_P L xs 197 116 = some (.inl (lo_if 140 119 (fun x => decide (x = 0)))) := (P_197 L xs 116).trans rfl
theorem p_197_119 (L : Nat) (xs : Nat → Int32) : ll_P L xs 197 119 = some (.inl (lo_aload 120 0)) := (P_197 L xs 119).trans rfl
theorem p_197_120 (L : Nat) (xs : Nat → Int32) : ll_P L xs 197 120 = some (.inl (lo_getf 123 11 0)) := (P_197 L xs 120).trans rfl
theorem p_197_123 (L : Nat) (xs : Nat → Int32) : ll_P L xs 197 123 = some (.inl (lo_push 126 (.int 1387))) := (P_197 L xs 123).trans rfl
theorem p_197_126 (L : Nat) (xs : Nat → Int32) : ll_P L xs 197 126 = some (.inl (lo_push 128 (.int 30))) := (P_197 L xs 126).trans rfl
theorem p_197_128 (L : Nat) (xs : Nat → Int32) : ll_P L xs 197 128 = some (.inl (lo_iload 129 1)) := (P_197 L xs 128).trans rfl
theorem p_197_129 (L : Nat) (xs : Nat → Int32) : ll_P L xs 197 129 = some (.inl (lo_bin 130 (fun x y => x * y))) := (P_197 L xs 129).trans rfl
theorem p_197_130 (L : Nat) (xs : Nat → Int32) : ll_P L xs 197 130 = some (.inl (lo_bin 131 (fun x y => x + y))) := (P_197 L xs 130).trans rfl
theorem p_197_131 (L : Nat) (xs : Nat → Int32) : ll_P L xs 197 131 = some (.inl (lo_iload 132 2)) := (P_197 L xs 131).trans rfl
theorem p_197_132 (L : Nat) (xs : Nat → Int32) : ll_P L xs 197 132 = some (.inl (lo_bin 133 (fun x y => x + y))) := (P_197 L xs 132).trans rfl
theorem p_197_133 (L : Nat) (xs : Nat → Int32) : ll_P L xs 197 133 = some (.inl (lo_push 135 (.int 10))) := (P_197 L xs 133).trans rfl
theorem p_197_135 (L : Nat) (xs : Nat → Int32) : ll_P L xs 197 135 = some (.inl (lo_bin 136 (fun x y => x - y))) := (P_197 L xs 135).trans rfl
theorem p_197_136 (L : Nat) (xs : Nat → Int32) : ll_P L xs 197 136 = some (.inl (lo_ald 137 0)) := (P_197 L xs 136).trans rfl
theorem p_197_137 (L : Nat) (xs : Nat → Int32) : ll_P L xs 197 137 = some (.inl (lo_goto 142)) := (P_197 L xs 137).trans rfl
theorem p_197_140 (L : Nat) (xs : Nat → Int32) : ll_P L xs 197 140 = some (.inl (lo_push 142 (.int (-2)))) := (P_197 L xs 140).trans rfl
theorem p_197_142 (L : Nat) (xs : Nat → Int32) : ll_P L xs 197 142 = some (.inr (.inr 1)) := (P_197 L xs 142).trans rfl
theorem b_197_0 {Y : sY} {d : Nat} {s : sT} {K : Option Int32 → sT → Prop} {r0 : Nat} {x1 : Int32} {x2 : Int32} (h : (∃ a1, (isO Y r0 11 ∧ s.2 r0 0 = some a1) ∧ (∃ m3, (isA Y a1 0 m3 ∧ inR (186 : Int32) m3) ∧ tT Y d 151 0 [.int x1, .int (0 : Int32), .int ((s.1 a1 ((186 : Int32)).toNatClampNeg) - (1 : Int32))] [] s (fun r s1 => tT Y (d + 1) 197 15 [.ref r0, .int x1, .int x2] ((r.map Value.int).toList ++ []) s1 K)))) : tT Y (d + 1) 197 0 [.ref r0, .int x1, .int x2] [] s K :=
  (tt_iload (p_197_0 _ _) rfl).mpr ((tt_push (p_197_1 _ _)).mpr ((tt_aload (p_197_2 _ _) rfl).mpr (Exists.elim h (fun a1 h2 => t3_getr (p_197_3 _ _) (isI_11_0) h2.1.1 h2.1.2 ((tt_push (p_197_6 _ _)).mpr (Exists.elim h2.2 (fun m3 h4 => t3_ald (p_197_9 _ _) h4.1.1 h4.1.2 ((tt_push (p_197_10 _ _)).mpr ((tt_bin (p_197_11 _ _)).mpr (t2_calls (z := 151) (k := 3) (as := [.int x1, .int (0 : Int32), .int ((s.1 a1 ((186 : Int32)).toNatClampNeg) - (1 : Int32))]) (rest := []) (p_197_12 _ _) mK_151 mL_151 rfl rfl (Nat.le_of_ble_eq_true rfl) rfl (Nat.le_of_ble_eq_true rfl) h4.2))))))))))
theorem b_197_15 {Y : sY} {d : Nat} {s : sT} {K : Option Int32 → sT → Prop} {r0 : Nat} {x1 : Int32} {x2 : Int32} {t0 : Int32} (h : (if ¬ t0 = 0 then ((x2 = 0 → (∃ a3, (isO Y r0 11 ∧ s.2 r0 0 = some a3) ∧ (∃ m5, (isA Y a3 0 m5 ∧ inR ((187 : Int32) + x1) m5) ∧ K (some (s.1 a3 (((187 : Int32) + x1)).toNatClampNeg)) s))) ∧ (x2 = 1 → (∃ a8, (isO Y r0 11 ∧ s.2 r0 0 = some a8) ∧ (∃ m10, (isA Y a8 0 m10 ∧ inR ((487 : Int32) + x1) m10) ∧ K (some (s.1 a8 (((487 : Int32) + x1)).toNatClampNeg)) s))) ∧ (x2 = 2 → (∃ a13, (isO Y r0 11 ∧ s.2 r0 0 = some a13) ∧ (∃ m15, (isA Y a13 0 m15 ∧ inR ((787 : Int32) + x1) m15) ∧ K (some (s.1 a13 (((787 : Int32) + x1)).toNatClampNeg)) s))) ∧ (x2 = 3 → (∃ a18, (isO Y r0 11 ∧ s.2 r0 0 = some a18) ∧ (∃ m20, (isA Y a18 0 m20 ∧ inR ((1087 : Int32) + x1) m20) ∧ K (some (s.1 a18 (((1087 : Int32) + x1)).toNatClampNeg)) s))) ∧ (¬ x2 = 0 ∧ ¬ x2 = 1 ∧ ¬ x2 = 2 ∧ ¬ x2 = 3 → (∃ a22, (isO Y r0 11 ∧ s.2 r0 0 = some a22) ∧ (∃ m24, (isA Y a22 0 m24 ∧ inR ((1087 : Int32) + x1) m24) ∧ tT Y d 151 0 [.int (x2 - (10 : Int32)), .int (0 : Int32), .int ((s.1 a22 (((1087 : Int32) + x1)).toNatClampNeg) - (1 : Int32))] [] s (fun r s1 => tT Y (d + 1) 197 116 [.ref r0, .int x1, .int x2] ((r.map Value.int).toList ++ []) s1 K))))) else K (some (-2 : Int32)) s)) : tT Y (d + 1) 197 15 [.ref r0, .int x1, .int x2] [.int t0] s K :=
  t3_if (p := ¬ t0 = 0) (p_197_15 _ _) rfl (fun g1 => (tt_iload (p_197_21 _ _) rfl).mpr (Decidable.byCases (p := x2 = 0) (fun g2 => t3_tab (t := 52) (p_197_22 _ _) (by rw [g2]; rfl) ((tt_aload (p_197_52 _ _) rfl).mpr (Exists.elim ((ifp h g1).1 g2) (fun a3 h4 => t3_getr (p_197_53 _ _) (isI_11_0) h4.1.1 h4.1.2 ((tt_push (p_197_56 _ _)).mpr ((tt_iload (p_197_59 _ _) rfl).mpr ((tt_bin (p_197_60 _ _)).mpr (Exists.elim h4.2 (fun m5 h6 => t3_ald (p_197_61 _ _) h6.1.1 h6.1.2 (tt_ret1 (p_197_62 _ _) h6.2)))))))))) (fun g2n => Decidable.byCases (p := x2 = 1) (fun g7 => t3_tab (t := 63) (p_197_22 _ _) (by rw [g7]; rfl) ((tt_aload (p_197_63 _ _) rfl).mpr (Exists.elim ((ifp h g1).2.1 g7) (fun a8 h9 => t3_getr (p_197_64 _ _) (isI_11_0) h9.1.1 h9.1.2 ((tt_push (p_197_67 _ _)).mpr ((tt_iload (p_197_70 _ _) rfl).mpr ((tt_bin (p_197_71 _ _)).mpr (Exists.elim h9.2 (fun m10 h11 => t3_ald (p_197_72 _ _) h11.1.1 h11.1.2 (tt_ret1 (p_197_73 _ _) h11.2)))))))))) (fun g7n => Decidable.byCases (p := x2 = 2) (fun g12 => t3_tab (t := 74) (p_197_22 _ _) (by rw [g12]; rfl) ((tt_aload (p_197_74 _ _) rfl).mpr (Exists.elim ((ifp h g1).2.2.1 g12) (fun a13 h14 => t3_getr (p_197_75 _ _) (isI_11_0) h14.1.1 h14.1.2 ((tt_push (p_197_78 _ _)).mpr ((tt_iload (p_197_81 _ _) rfl).mpr ((tt_bin (p_197_82 _ _)).mpr (Exists.elim h14.2 (fun m15 h16 => t3_ald (p_197_83 _ _) h16.1.1 h16.1.2 (tt_ret1 (p_197_84 _ _) h16.2)))))))))) (fun g12n => Decidable.byCases (p := x2 = 3) (fun g17 => t3_tab (t := 85) (p_197_22 _ _) (by rw [g17]; rfl) ((tt_aload (p_197_85 _ _) rfl).mpr (Exists.elim ((ifp h g1).2.2.2.1 g17) (fun a18 h19 => t3_getr (p_197_86 _ _) (isI_11_0) h19.1.1 h19.1.2 ((tt_push (p_197_89 _ _)).mpr ((tt_iload (p_197_92 _ _) rfl).mpr ((tt_bin (p_197_93 _ _)).mpr (Exists.elim h19.2 (fun m20 h21 => t3_ald (p_197_94 _ _) h21.1.1 h21.1.2 (tt_ret1 (p_197_95 _ _) h21.2)))))))))) (fun g17n => t3_tab (t := 96) (p_197_22 _ _) (t3_tabd (fun k hk => t3_tabk (lo := 0) (n := 4) (fun j (hj : j < 4) => by rcases (show j = 0 ∨ j = 1 ∨ j = 2 ∨ j = 3 by omega) with rfl | rfl | rfl | rfl <;> assumption) k hk)) ((tt_iload (p_197_96 _ _) rfl).mpr ((tt_push (p_197_97 _ _)).mpr ((tt_bin (p_197_99 _ _)).mpr ((tt_push (p_197_100 _ _)).mpr ((tt_aload (p_197_101 _ _) rfl).mpr (Exists.elim ((ifp h g1).2.2.2.2 ⟨g2n, g7n, g12n, g17n⟩) (fun a22 h23 => t3_getr (p_197_102 _ _) (isI_11_0) h23.1.1 h23.1.2 ((tt_push (p_197_105 _ _)).mpr ((tt_iload (p_197_108 _ _) rfl).mpr ((tt_bin (p_197_109 _ _)).mpr (Exists.elim h23.2 (fun m24 h25 => t3_ald (p_197_110 _ _) h25.1.1 h25.1.2 ((tt_push (p_197_111 _ _)).mpr ((tt_bin (p_197_112 _ _)).mpr (t2_calls (z := 151) (k := 3) (as := [.int (x2 - (10 : Int32)), .int (0 : Int32), .int ((s.1 a22 (((1087 : Int32) + x1)).toNatClampNeg) - (1 : Int32))]) (rest := []) (p_197_113 _ _) mK_151 mL_151 rfl rfl (Nat.le_of_ble_eq_true rfl) rfl (Nat.le_of_ble_eq_true rfl) h25.2))))))))))))))))))))) (fun g1 => (tt_push (p_197_18 _ _)).mpr (tt_ret1 (p_197_20 _ _) (ifn h g1)))
theorem b_197_116 {Y : sY} {d : Nat} {s : sT} {K : Option Int32 → sT → Prop} {r0 : Nat} {x1 : Int32} {x2 : Int32} {t0 : Int32} (h : (if t0 = 0 then K (some (-2 : Int32)) s else (∃ a2, (isO Y r0 11 ∧ s.2 r0 0 = some a2) ∧ (∃ m4, (isA Y a2 0 m4 ∧ inR ((((1387 : Int32) + ((30 : Int32) * x1)) + x2) - (10 : Int32)) m4) ∧ K (some (s.1 a2 (((((1387 : Int32) + ((30 : Int32) * x1)) + x2) - (10 : Int32))).toNatClampNeg)) s)))) : tT Y (d + 1) 197 116 [.ref r0, .int x1, .int x2] [.int t0] s K :=
  t3_if (p := t0 = 0) (p_197_116 _ _) rfl (fun g1 => (tt_push (p_197_140 _ _)).mpr (tt_ret1 (p_197_142 _ _) (ifp h g1))) (fun g1 => (tt_aload (p_197_119 _ _) rfl).mpr (Exists.elim (ifn h g1) (fun a2 h3 => t3_getr (p_197_120 _ _) (isI_11_0) h3.1.1 h3.1.2 ((tt_push (p_197_123 _ _)).mpr ((tt_push (p_197_126 _ _)).mpr ((tt_iload (p_197_128 _ _) rfl).mpr ((tt_bin (p_197_129 _ _)).mpr ((tt_bin (p_197_130 _ _)).mpr ((tt_iload (p_197_131 _ _) rfl).mpr ((tt_bin (p_197_132 _ _)).mpr ((tt_push (p_197_133 _ _)).mpr ((tt_bin (p_197_135 _ _)).mpr (Exists.elim h3.2 (fun m4 h5 => t3_ald (p_197_136 _ _) h5.1.1 h5.1.2 ((tt_goto (p_197_137 _ _)).mpr (tt_ret1 (p_197_142 _ _) h5.2))))))))))))))))
/-! InclusionProverModel.placeOf.(II)I -/
theorem p_198_0 (L : Nat) (xs : Nat → Int32) : ll_P L xs 198 0 = some (.inl (lo_iload 1 1)) := (P_198 L xs 0).trans rfl
theorem p_198_1 (L : Nat) (xs : Nat → Int32) : ll_P L xs 198 1 = some (.inl (lo_if 12 4 (fun x => decide (¬ x = 0)))) := (P_198 L xs 1).trans rfl
theorem p_198_4 (L : Nat) (xs : Nat → Int32) : ll_P L xs 198 4 = some (.inl (lo_push 7 (.int 187))) := (P_198 L xs 4).trans rfl
theorem p_198_7 (L : Nat) (xs : Nat → Int32) : ll_P L xs 198 7 = some (.inl (lo_iload 8 0)) := (P_198 L xs 7).trans rfl
theorem p_198_8 (L : Nat) (xs : Nat → Int32) : ll_P L xs 198 8 = some (.inl (lo_bin 9 (fun x y => x + y))) := (P_198 L xs 8).trans rfl
theorem p_198_9 (L : Nat) (xs : Nat → Int32) : ll_P L xs 198 9 = some (.inl (lo_goto 51)) := (P_198 L xs 9).trans rfl
theorem p_198_12 (L : Nat) (xs : Nat → Int32) : ll_P L xs 198 12 = some (.inl (lo_iload 13 1)) := (P_198 L xs 12).trans rfl
theorem p_198_13 (L : Nat) (xs : Nat → Int32) : ll_P L xs 198 13 = some (.inl (lo_push 14 (.int 1))) := (P_198 L xs 13).trans rfl
theorem p_198_14 (L : Nat) (xs : Nat → Int32) : ll_P L xs 198 14 = some (.inl (lo_cmp 25 17 (fun x y => decide (¬ x = y)))) := (P_198 L xs 14).trans rfl
theorem p_198_17 (L : Nat) (xs : Nat → Int32) : ll_P L xs 198 17 = some (.inl (lo_push 20 (.int 487))) := (P_198 L xs 17).trans rfl
theorem p_198_20 (L : Nat) (xs : Nat → Int32) : ll_P L xs 198 20 = some (.inl (lo_iload 21 0)) := (P_198 L xs 20).trans rfl
theorem p_198_21 (L : Nat) (xs : Nat → Int32) : ll_P L xs 198 21 = some (.inl (lo_bin 22 (fun x y => x + y))) := (P_198 L xs 21).trans rfl
theorem p_198_22 (L : Nat) (xs : Nat → Int32) : ll_P L xs 198 22 = some (.inl (lo_goto 51)) := (P_198 L xs 22).trans rfl
theorem p_198_25 (L : Nat) (xs : Nat → Int32) : ll_P L xs 198 25 = some (.inl (lo_iload 26 1)) := (P_198 L xs 25).trans rfl
theorem p_198_26 (L : Nat) (xs : Nat → Int32) : ll_P L xs 198 26 = some (.inl (lo_push 27 (.int 2))) := (P_198 L xs 26).trans rfl
theorem p_198_27 (L : Nat) (xs : Nat → Int32) : ll_P L xs 198 27 = some (.inl (lo_cmp 38 30 (fun x y => decide (¬ x = y)))) := (P_198 L xs 27).trans rfl
theorem p_198_30 (L : Nat) (xs : Nat → Int32) : ll_P L xs 198 30 = some (.inl (lo_push 33 (.int 787))) := (P_198 L xs 30).trans rfl
theorem p_198_33 (L : Nat) (xs : Nat → Int32) : ll_P L xs 198 33 = some (.inl (lo_iload 34 0)) := (P_198 L xs 33).trans rfl
theorem p_198_34 (L : Nat) (xs : Nat → Int32) : ll_P L xs 198 34 = some (.inl (lo_bin 35 (fun x y => x + y))) := (P_198 L xs 34).trans rfl
theorem p_198_35 (L : Nat) (xs : Nat → Int32) : ll_P L xs 198 35 = some (.inl (lo_goto 51)) := (P_198 L xs 35).trans rfl
theorem p_198_38 (L : Nat) (xs : Nat → Int32) : ll_P L xs 198 38 = some (.inl (lo_push 41 (.int 1387))) := (P_198 L xs 38).trans rfl
theorem p_198_41 (L : Nat) (xs : Nat → Int32) : ll_P L xs 198 41 = some (.inl (lo_push 43 (.int 30))) := (P_198 L xs 41).trans rfl
theorem p_198_43 (L : Nat) (xs : Nat → Int32) : ll_P L xs 198 43 = some (.inl (lo_iload 44 0)) := (P_198 L xs 43).trans rfl
theorem p_198_44 (L : Nat) (xs : Nat → Int32) : ll_P L xs 198 44 = some (.inl (lo_bin 45 (fun x y => x * y))) := (P_198 L xs 44).trans rfl
theorem p_198_45 (L : Nat) (xs : Nat → Int32) : ll_P L xs 198 45 = some (.inl (lo_bin 46 (fun x y => x + y))) := (P_198 L xs 45).trans rfl
theorem p_198_46 (L : Nat) (xs : Nat → Int32) : ll_P L xs 198 46 = some (.inl (lo_iload 47 1)) := (P_198 L xs 46).trans rfl
theorem p_198_47 (L : Nat) (xs : Nat → Int32) : ll_P L xs 198 47 = some (.inl (lo_bin 48 (fun x y => x + y))) := (P_198 L xs 47).trans rfl
theorem p_198_48 (L : Nat) (xs : Nat → Int32) : ll_P L xs 198 48 = some (.inl (lo_push 50 (.int 10))) := (P_198 L xs 48).trans rfl
theorem p_198_50 (L : Nat) (xs : Nat → Int32) : ll_P L xs 198 50 = some (.inl (lo_bin 51 (fun x y => x - y))) := (P_198 L xs 50).trans rfl
theorem p_198_51 (L : Nat) (xs : Nat → Int32) : ll_P L xs 198 51 = some (.inr (.inr 1)) := (P_198 L xs 51).trans rfl
theorem b_198_0 {Y : sY} {d : Nat} {s : sT} {K : Option Int32 → sT → Prop} {x0 : Int32} {x1 : Int32} (h : (if ¬ x1 = 0 then (if ¬ x1 = (1 : Int32) then (if ¬ x1 = (2 : Int32) then K (some ((((1387 : Int32) + ((30 : Int32) * x0)) + x1) - (10 : Int32))) s else K (some ((787 : Int32) + x0)) s) else K (some ((487 : Int32) + x0)) s) else K (some ((187 : Int32) + x0)) s)) : tT Y d 198 0 [.int x0, .int x1] [] s K :=
  (tt_iload (p_198_0 _ _) rfl).mpr (t3_if (p := ¬ x1 = 0) (p_198_1 _ _) rfl (fun g1 => (tt_iload (p_198_12 _ _) rfl).mpr ((tt_push (p_198_13 _ _)).mpr (t3_cmp (p := ¬ x1 = (1 : Int32)) (p_198_14 _ _) rfl (fun g2 => (tt_iload (p_198_25 _ _) rfl).mpr ((tt_push (p_198_26 _ _)).mpr (t3_cmp (p := ¬ x1 = (2 : Int32)) (p_198_27 _ _) rfl (fun g3 => (tt_push (p_198_38 _ _)).mpr ((tt_push (p_198_41 _ _)).mpr ((tt_iload (p_198_43 _ _) rfl).mpr ((tt_bin (p_198_44 _ _)).mpr ((tt_bin (p_198_45 _ _)).mpr ((tt_iload (p_198_46 _ _) rfl).mpr ((tt_bin (p_198_47 _ _)).mpr ((tt_push (p_198_48 _ _)).mpr ((tt_bin (p_198_50 _ _)).mpr (tt_ret1 (p_198_51 _ _) (ifp (ifp (ifp h g1) g2) g3))))))))))) (fun g3 => (tt_push (p_198_30 _ _)).mpr ((tt_iload (p_198_33 _ _) rfl).mpr ((tt_bin (p_198_34 _ _)).mpr ((tt_goto (p_198_35 _ _)).mpr (tt_ret1 (p_198_51 _ _) (ifn (ifp (ifp h g1) g2) g3))))))))) (fun g2 => (tt_push (p_198_17 _ _)).mpr ((tt_iload (p_198_20 _ _) rfl).mpr ((tt_bin (p_198_21 _ _)).mpr ((tt_goto (p_198_22 _ _)).mpr (tt_ret1 (p_198_51 _ _) (ifn (ifp h g1) g2))))))))) (fun g1 => (tt_push (p_198_4 _ _)).mpr ((tt_iload (p_198_7 _ _) rfl).mpr ((tt_bin (p_198_8 _ _)).mpr ((tt_goto (p_198_9 _ _)).mpr (tt_ret1 (p_198_51 _ _) (ifn h g1)))))))
/-! InclusionProverModel.alter.(III)I -/
theorem p_199_0 (L : Nat) (xs : Nat → Int32) : ll_P L xs 199 0 = some (.inl (lo_iload 1 1)) := (P_199 L xs 0).trans rfl
theorem p_199_1 (L : Nat) (xs : Nat → Int32) : ll_P L xs 199 1 = some (.inl (lo_push 2 (.int 0))) := (P_199 L xs 1).trans rfl
theorem p_199_2 (L : Nat) (xs : Nat → Int32) : ll_P L xs 199 2 = some (.inl (lo_aload 3 0)) := (P_199 L xs 2).trans rfl
theorem p_199_3 (L : Nat) (xs : Nat → Int32) : ll_P L xs 199 3 = some (.inl (lo_getf 6 11 0)) := (P_199 L xs 3).trans rfl
theorem p_199_6 (L : Nat) (xs : Nat → Int32) : ll_P L xs 199 6 = some (.inl (lo_push 9 (.int 186))) := (P_199 L xs 6).trans rfl
theorem p_199_9 (L : Nat) (xs : Nat → Int32) : ll_P L xs 199 9 = some (.inl (lo_ald 10 0)) := (P_199 L xs 9).trans rfl
theorem p_199_10 (L : Nat) (xs : Nat → Int32) : ll_P L xs 199 10 = some (.inl (lo_push 11 (.int 1))) := (P_199 L xs 10).trans rfl
theorem p_199_11 (L : Nat) (xs : Nat → Int32) : ll_P L xs 199 11 = some (.inl (lo_bin 12 (fun x y => x - y))) := (P_199 L xs 11).trans rfl
theorem p_199_12 (L : Nat) (xs : Nat → Int32) : ll_P L xs 199 12 = some (.inr (.inl (151, 3, 15))) := (P_199 L xs 12).trans rfl
theorem p_199_15 (L : Nat) (xs : Nat → Int32) : ll_P L xs 199 15 = some (.inl (lo_if 50 18 (fun x => decide (x = 0)))) := (P_199 L xs 15).trans rfl
theorem p_199_18 (L : Nat) (xs : Nat → Int32) : ll_P L xs 199 18 = some (.inl (lo_iload 19 2)) := (P_199 L xs 18).trans rfl
theorem p_199_19 (L : Nat) (xs : Nat → Int32) : ll_P L xs 199 19 = some (.inl (lo_push 20 (.int 0))) := (P_199 L xs 19).trans rfl
theorem p_199_20 (L : Nat) (xs : Nat → Int32) : ll_P L xs 199 20 = some (.inl (lo_push 21 (.int 2))) := (P_199 L xs 20).trans rfl
theorem p_199_21 (L : Nat) (xs : Nat → Int32) : ll_P L xs 199 21 = some (.inr (.inl (151, 3, 24))) := (P_199 L xs 21).trans rfl
theorem p_199_24 (L : Nat) (xs : Nat → Int32) : ll_P L xs 199 24 = some (.inl (lo_if 53 27 (fun x => decide (¬ x = 0)))) := (P_199 L xs 24).trans rfl
theorem p_199_27 (L : Nat) (xs : Nat → Int32) : ll_P L xs 199 27 = some (.inl (lo_iload 28 2)) := (P_199 L xs 27).trans rfl
theorem p_199_28 (L : Nat) (xs : Nat → Int32) : ll_P L xs 199 28 = some (.inl (lo_push 30 (.int 10))) := (P_199 L xs 28).trans rfl
theorem p_199_30 (L : Nat) (xs : Nat → Int32) : ll_P L xs 199 30 = some (.inl (lo_bin 31 (fun x y => x - y))) := (P_199 L xs 30).trans rfl
theorem p_199_31 (L : Nat) (xs : Nat → Int32) : ll_P L xs 199 31 = some (.inl (lo_push 32 (.int 0))) := (P_199 L xs 31).trans rfl
theorem p_199_32 (L : Nat) (xs : Nat → Int32) : ll_P L xs 199 32 = some (.inl (lo_aload 33 0)) := (P_199 L xs 32).trans rfl
theorem p_199_33 (L : Nat) (xs : Nat → Int32) : ll_P L xs 199 33 = some (.inl (lo_getf 36 11 0)) := (P_199 L xs 33).trans rfl
theorem p_199_36 (L : Nat) (xs : Nat → Int32) : ll_P L xs 199 36 = some (.inl (lo_push 39 (.int 1087))) := (P_199 L xs 36).trans rfl
theorem p_199_39 (L : Nat) (xs : Nat → Int32) : ll_P L xs 199 39 = some (.inl (lo_iload 40 1)) := (P_199 L xs 39).trans rfl
theorem p_199_40 (L : Nat) (xs : Nat → Int32) : ll_P L xs 199 40 = some (.inl (lo_bin 41 (fun x y => x + y))) := (P_199 L xs 40).trans rfl
theorem p_199_41 (L : Nat) (xs : Nat → Int32) : ll_P L xs 199 41 = some (.inl (lo_ald 42 0)) := (P_199 L xs 41).trans rfl
theorem p_199_42 (L : Nat) (xs : Nat → Int32) : ll_P L xs 199 42 = some (.inl (lo_push 43 (.int 1))) := (P_199 L xs 42).trans rfl
theorem p_199_43 (L : Nat) (xs : Nat → Int32) : ll_P L xs 199 43 = some (.inl (lo_bin 44 (fun x y => x - y))) := (P_199 L xs 43).trans rfl
theorem p_199_44 (L : Nat) (xs : Nat → Int32) : ll_P L xs 199 44 = some (.inr (.inl (151, 3, 47))) := (P_199 L xs 44).trans rfl
theorem p_199_47 (L : Nat) (xs : Nat → Int32) : ll_P L xs 199 47 = some (.inl (lo_if 53 50 (fun x => decide (¬ x = 0)))) := (P_199 L xs 47).trans rfl
theorem p_199_50 (L : Nat) (xs : Nat → Int32) : ll_P L xs 199 50 = some (.inl (lo_push 52 (.int (-2)))) := (P_199 L xs 50).trans rfl
theorem p_199_52 (L : Nat) (xs : Nat → Int32) : ll_P L xs 199 52 = some (.inr (.inr 1)) := (P_199 L xs 52).trans rfl
theorem p_199_53 (L : Nat) (xs : Nat → Int32) : ll_P L xs 199 53 = some (.inl (lo_iload 54 1)) := (P_199 L xs 53).trans rfl
theorem p_199_54 (L : Nat) (xs : Nat → Int32) : ll_P L xs 199 54 = some (.inl (lo_iload 55 2)) := (P_199 L xs 54).trans rfl
theorem p_199_55 (L : Nat) (xs : Nat → Int32) : ll_P L xs 199 55 = some (.inr (.inl (198, 2, 58))) := (P_199 L xs 55).trans rfl
theorem p_199_58 (L : Nat) (xs : Nat → Int32) : ll_P L xs 199 58 = some (.inl (lo_istore 60 4)) := (P_199 L xs 58).trans rfl
theorem p_199_60 (L : Nat) (xs : Nat → Int32) : ll_P L xs 199 60 = some (.inl (lo_aload 61 0)) := (P_199 L xs 60).trans rfl
theorem p_199_61 (L : Nat) (xs : Nat → Int32) : ll_P L xs 199 61 = some (.inl (lo_getf 64 11 0)) := (P_199 L xs 61).trans rfl
theorem p_199_64 (L : Nat) (xs : Nat → Int32) : ll_P L xs 199 64 = some (.inl (lo_iload 66 4)) := (P_199 L xs 64).trans rfl
theorem p_199_66 (L : Nat) (xs : Nat → Int32) : ll_P L xs 199 66 = some (.inl (lo_ald 67 0)) := (P_199 L xs 66).trans rfl
theorem p_199_67 (L : Nat) (xs : Nat → Int32) : ll_P L xs 199 67 = some (.inl (lo_istore 69 5)) := (P_199 L xs 67).trans rfl
theorem p_199_69 (L : Nat) (xs : Nat → Int32) : ll_P L xs 199 69 = some (.inl (lo_aload 70 0)) := (P_199 L xs 69).trans rfl
theorem p_199_70 (L : Nat) (xs : Nat → Int32) : ll_P L xs 199 70 = some (.inl (lo_getf 73 11 0)) := (P_199 L xs 70).trans rfl
theorem p_199_73 (L : Nat) (xs : Nat → Int32) : ll_P L xs 199 73 = some (.inl (lo_iload 75 4)) := (P_199 L xs 73).trans rfl
theorem p_199_75 (L : Nat) (xs : Nat → Int32) : ll_P L xs 199 75 = some (.inl (lo_iload 76 3)) := (P_199 L xs 75).trans rfl
theorem p_199_76 (L : Nat) (xs : Nat → Int32) : ll_P L xs 199 76 = some (.inl (lo_ast 77 0)) := (P_199 L xs 76).trans rfl
theorem p_199_77 (L : Nat) (xs : Nat → Int32) : ll_P L xs 199 77 = some (.inl (lo_iload 79 5)) := (P_199 L xs 77).trans rfl
theorem p_199_79 (L : Nat) (xs : Nat → Int32) : ll_P L xs 199 79 = some (.inr (.inr 1)) := (P_199 L xs 79).trans rfl
theorem b_199_0 {Y : sY} {d : Nat} {s : sT} {K : Option Int32 → sT → Prop} {r0 : Nat} {x1 : Int32} {x2 : Int32} {x3 : Int32} (h : (∃ a1, (isO Y r0 11 ∧ s.2 r0 0 = some a1) ∧ (∃ m3, (isA Y a1 0 m3 ∧ inR (186 : Int32) m3) ∧ tT Y d 151 0 [.int x1, .int (0 : Int32), .int ((s.1 a1 ((186 : Int32)).toNatClampNeg) - (1 : Int32))] [] s (fun r s1 => tT Y (d + 1) 199 15 [.ref r0, .int x1, .int x2, .int x3, .null, .null] ((r.map Value.int).toList ++ []) s1 K)))) : tT Y (d + 1) 199 0 [.ref r0, .int x1, .int x2, .int x3, .null, .null] [] s K :=
  (tt_iload (p_199_0 _ _) rfl).mpr ((tt_push (p_199_1 _ _)).mpr ((tt_aload (p_199_2 _ _) rfl).mpr (Exists.elim h (fun a1 h2 => t3_getr (p_199_3 _ _) (isI_11_0) h2.1.1 h2.1.2 ((tt_push (p_199_6 _ _)).mpr (Exists.elim h2.2 (fun m3 h4 => t3_ald (p_199_9 _ _) h4.1.1 h4.1.2 ((tt_push (p_199_10 _ _)).mpr ((tt_bin (p_199_11 _ _)).mpr (t2_calls (z := 151) (k := 3) (as := [.int x1, .int (0 : Int32), .int ((s.1 a1 ((186 : Int32)).toNatClampNeg) - (1 : Int32))]) (rest := []) (p_199_12 _ _) mK_151 mL_151 rfl rfl (Nat.le_of_ble_eq_true rfl) rfl (Nat.le_of_ble_eq_true rfl) h4.2))))))))))
theorem b_199_15 {Y : sY} {d : Nat} {s : sT} {K : Option Int32 → sT → Prop} {r0 : Nat} {x1 : Int32} {x2 : Int32} {x3 : Int32} {t0 : Int32} (h : (if t0 = 0 then K (some (-2 : Int32)) s else tT Y d 151 0 [.int x2, .int (0 : Int32), .int (2 : Int32)] [] s (fun r s1 => tT Y (d + 1) 199 24 [.ref r0, .int x1, .int x2, .int x3, .null, .null] ((r.map Value.int).toList ++ []) s1 K))) : tT Y (d + 1) 199 15 [.ref r0, .int x1, .int x2, .int x3, .null, .null] [.int t0] s K :=
  t3_if (p := t0 = 0) (p_199_15 _ _) rfl (fun g1 => (tt_push (p_199_50 _ _)).mpr (tt_ret1 (p_199_52 _ _) (ifp h g1))) (fun g1 => (tt_iload (p_199_18 _ _) rfl).mpr ((tt_push (p_199_19 _ _)).mpr ((tt_push (p_199_20 _ _)).mpr (t2_calls (z := 151) (k := 3) (as := [.int x2, .int (0 : Int32), .int (2 : Int32)]) (rest := []) (p_199_21 _ _) mK_151 mL_151 rfl rfl (Nat.le_of_ble_eq_true rfl) rfl (Nat.le_of_ble_eq_true rfl) (ifn h g1)))))
theorem b_199_24 {Y : sY} {d : Nat} {s : sT} {K : Option Int32 → sT → Prop} {r0 : Nat} {x1 : Int32} {x2 : Int32} {x3 : Int32} {t0 : Int32} (h : (if ¬ t0 = 0 then tT Y (d + 1) 199 53 [.ref r0, .int x1, .int x2, .int x3, .null, .null] [] s K else (∃ a2, (isO Y r0 11 ∧ s.2 r0 0 = some a2) ∧ (∃ m4, (isA Y a2 0 m4 ∧ inR ((1087 : Int32) + x1) m4) ∧ tT Y d 151 0 [.int (x2 - (10 : Int32)), .int (0 : Int32), .int ((s.1 a2 (((1087 : Int32) + x1)).toNatClampNeg) - (1 : Int32))] [] s (fun r s1 => tT Y (d + 1) 199 47 [.ref r0, .int x1, .int x2, .int x3, .null, .null] ((r.map Value.int).toList ++ []) s1 K))))) : tT Y (d + 1) 199 24 [.ref r0, .int x1, .int x2, .int x3, .null, .null] [.int t0] s K :=
  t3_if (p := ¬ t0 = 0) (p_199_24 _ _) rfl (fun g1 => (ifp h g1)) (fun g1 => (tt_iload (p_199_27 _ _) rfl).mpr ((tt_push (p_199_28 _ _)).mpr ((tt_bin (p_199_30 _ _)).mpr ((tt_push (p_199_31 _ _)).mpr ((tt_aload (p_199_32 _ _) rfl).mpr (Exists.elim (ifn h g1) (fun a2 h3 => t3_getr (p_199_33 _ _) (isI_11_0) h3.1.1 h3.1.2 ((tt_push (p_199_36 _ _)).mpr ((tt_iload (p_199_39 _ _) rfl).mpr ((tt_bin (p_199_40 _ _)).mpr (Exists.elim h3.2 (fun m4 h5 => t3_ald (p_199_41 _ _) h5.1.1 h5.1.2 ((tt_push (p_199_42 _ _)).mpr ((tt_bin (p_199_43 _ _)).mpr (t2_calls (z := 151) (k := 3) (as := [.int (x2 - (10 : Int32)), .int (0 : Int32), .int ((s.1 a2 (((1087 : Int32) + x1)).toNatClampNeg) - (1 : Int32))]) (rest := []) (p_199_44 _ _) mK_151 mL_151 rfl rfl (Nat.le_of_ble_eq_true rfl) rfl (Nat.le_of_ble_eq_true rfl) h5.2)))))))))))))))
theorem b_199_47 {Y : sY} {d : Nat} {s : sT} {K : Option Int32 → sT → Prop} {r0 : Nat} {x1 : Int32} {x2 : Int32} {x3 : Int32} {t0 : Int32} (h : (if ¬ t0 = 0 then tT Y (d + 1) 199 53 [.ref r0, .int x1, .int x2, .int x3, .null, .null] [] s K else K (some (-2 : Int32)) s)) : tT Y (d + 1) 199 47 [.ref r0, .int x1, .int x2, .int x3, .null, .null] [.int t0] s K :=
  t3_if (p := ¬ t0 = 0) (p_199_47 _ _) rfl (fun g1 => (ifp h g1)) (fun g1 => (tt_push (p_199_50 _ _)).mpr (tt_ret1 (p_199_52 _ _) (ifn h g1)))
theorem b_199_53 {Y : sY} {d : Nat} {s : sT} {K : Option Int32 → sT → Prop} {r0 : Nat} {x1 : Int32} {x2 : Int32} {x3 : Int32} (h : tT Y d 198 0 [.int x1, .int x2] [] s (fun r s1 => tT Y (d + 1) 199 58 [.ref r0, .int x1, .int x2, .int x3, .null, .null] ((r.map Value.int).toList ++ []) s1 K)) : tT Y (d + 1) 199 53 [.ref r0, .int x1, .int x2, .int x3, .null, .null] [] s K :=
  (tt_iload (p_199_53 _ _) rfl).mpr ((tt_iload (p_199_54 _ _) rfl).mpr (t2_calls (z := 198) (k := 2) (as := [.int x1, .int x2]) (rest := []) (p_199_55 _ _) mK_198 mL_198 rfl rfl (Nat.le_of_ble_eq_true rfl) rfl (Nat.le_of_ble_eq_true rfl) h))
theorem b_199_58 {Y : sY} {d : Nat} {s : sT} {K : Option Int32 → sT → Prop} {r0 : Nat} {x1 : Int32} {x2 : Int32} {x3 : Int32} {t0 : Int32} (h : (∃ a1, (isO Y r0 11 ∧ s.2 r0 0 = some a1) ∧ (∃ m3, (isA Y a1 0 m3 ∧ inR t0 m3) ∧ (∃ a5, (isO Y r0 11 ∧ s.2 r0 0 = some a5) ∧ (∃ m7, (isA Y a5 0 m7 ∧ inR t0 m7) ∧ K (some (s.1 a1 (t0).toNatClampNeg)) (pV s a5 (t0).toNatClampNeg x3)))))) : tT Y (d + 1) 199 58 [.ref r0, .int x1, .int x2, .int x3, .null, .null] [.int t0] s K :=
  (tt_istore (p_199_58 _ _) (Nat.le_of_ble_eq_true rfl) rfl rfl).mpr ((tt_aload (p_199_60 _ _) rfl).mpr (Exists.elim h (fun a1 h2 => t3_getr (p_199_61 _ _) (isI_11_0) h2.1.1 h2.1.2 ((tt_iload (p_199_64 _ _) rfl).mpr (Exists.elim h2.2 (fun m3 h4 => t3_ald (p_199_66 _ _) h4.1.1 h4.1.2 ((tt_istore (p_199_67 _ _) (Nat.le_of_ble_eq_true rfl) rfl rfl).mpr ((tt_aload (p_199_69 _ _) rfl).mpr (Exists.elim h4.2 (fun a5 h6 => t3_getr (p_199_70 _ _) (isI_11_0) h6.1.1 h6.1.2 ((tt_iload (p_199_73 _ _) rfl).mpr ((tt_iload (p_199_75 _ _) rfl).mpr (Exists.elim h6.2 (fun m7 h8 => t3_ast (p_199_76 _ _) h8.1.1 h8.1.2 ((tt_iload (p_199_77 _ _) rfl).mpr (tt_ret1 (p_199_79 _ _) h8.2))))))))))))))))
/-! InclusionProverModel.cut.()I -/
theorem p_200_0 (L : Nat) (xs : Nat → Int32) : ll_P L xs 200 0 = some (.inl (lo_aload 1 0)) := (P_200 L xs 0).trans rfl
theorem p_200_1 (L : Nat) (xs : Nat → Int32) : ll_P L xs 200 1 = some (.inl (lo_getf 4 11 0)) := (P_200 L xs 1).trans rfl
theorem p_200_4 (L : Nat) (xs : Nat → Int32) : ll_P L xs 200 4 = some (.inl (lo_push 7 (.int 186))) := (P_200 L xs 4).trans rfl
theorem p_200_7 (L : Nat) (xs : Nat → Int32) : ll_P L xs 200 7 = some (.inl (lo_ald 8 0)) := (P_200 L xs 7).trans rfl
theorem p_200_8 (L : Nat) (xs : Nat → Int32) : ll_P L xs 200 8 = some (.inl (lo_if 13 11 (fun x => decide (¬ x = 0)))) := (P_200 L xs 8).trans rfl
theorem p_200_11 (L : Nat) (xs : Nat → Int32) : ll_P L xs 200 11 = some (.inl (lo_push 12 (.int (-1)))) := (P_200 L xs 11).trans rfl
theorem p_200_12 (L : Nat) (xs : Nat → Int32) : ll_P L xs 200 12 = some (.inr (.inr 1)) := (P_200 L xs 12).trans rfl
theorem p_200_13 (L : Nat) (xs : Nat → Int32) : ll_P L xs 200 13 = some (.inl (lo_aload 14 0)) := (P_200 L xs 13).trans rfl
theorem p_200_14 (L : Nat) (xs : Nat → Int32) : ll_P L xs 200 14 = some (.inl (lo_getf 17 11 0)) := (P_200 L xs 14).trans rfl
theorem p_200_17 (L : Nat) (xs : Nat → Int32) : ll_P L xs 200 17 = some (.inl (lo_push 20 (.int 186))) := (P_200 L xs 17).trans rfl
theorem p_200_20 (L : Nat) (xs : Nat → Int32) : ll_P L xs 200 20 = some (.inl (lo_dup2 21)) := (P_200 L xs 20).trans rfl
theorem p_200_21 (L : Nat) (xs : Nat → Int32) : ll_P L xs 200 21 = some (.inl (lo_ald 22 0)) := (P_200 L xs 21).trans rfl
theorem p_200_22 (L : Nat) (xs : Nat → Int32) : ll_P L xs 200 22 = some (.inl (lo_push 23 (.int 1))) := (P_200 L xs 22).trans rfl
theorem p_200_23 (L : Nat) (xs : Nat → Int32) : ll_P L xs 200 23 = some (.inl (lo_bin 24 (fun x y => x - y))) := (P_200 L xs 23).trans rfl
theorem p_200_24 (L : Nat) (xs : Nat → Int32) : ll_P L xs 200 24 = some (.inl (lo_ast 25 0)) := (P_200 L xs 24).trans rfl
theorem p_200_25 (L : Nat) (xs : Nat → Int32) : ll_P L xs 200 25 = some (.inl (lo_aload 26 0)) := (P_200 L xs 25).trans rfl
theorem p_200_26 (L : Nat) (xs : Nat → Int32) : ll_P L xs 200 26 = some (.inl (lo_getf 29 11 0)) := (P_200 L xs 26).trans rfl
theorem p_200_29 (L : Nat) (xs : Nat → Int32) : ll_P L xs 200 29 = some (.inl (lo_push 32 (.int 186))) := (P_200 L xs 29).trans rfl
theorem p_200_32 (L : Nat) (xs : Nat → Int32) : ll_P L xs 200 32 = some (.inl (lo_ald 33 0)) := (P_200 L xs 32).trans rfl
theorem p_200_33 (L : Nat) (xs : Nat → Int32) : ll_P L xs 200 33 = some (.inr (.inr 1)) := (P_200 L xs 33).trans rfl
theorem b_200_0 {Y : sY} {d : Nat} {s : sT} {K : Option Int32 → sT → Prop} {r0 : Nat} (h : (∃ a1, (isO Y r0 11 ∧ s.2 r0 0 = some a1) ∧ (∃ m3, (isA Y a1 0 m3 ∧ inR (186 : Int32) m3) ∧ (if ¬ (s.1 a1 ((186 : Int32)).toNatClampNeg) = 0 then (∃ a6, (isO Y r0 11 ∧ s.2 r0 0 = some a6) ∧ (∃ m8, (isA Y a6 0 m8 ∧ inR (186 : Int32) m8) ∧ (∃ m10, (isA Y a6 0 m10 ∧ inR (186 : Int32) m10) ∧ (∃ a12, (isO Y r0 11 ∧ (pV s a6 ((186 : Int32)).toNatClampNeg ((s.1 a6 ((186 : Int32)).toNatClampNeg) - (1 : Int32))).2 r0 0 = some a12) ∧ (∃ m14, (isA Y a12 0 m14 ∧ inR (186 : Int32) m14) ∧ K (some ((pV s a6 ((186 : Int32)).toNatClampNeg ((s.1 a6 ((186 : Int32)).toNatClampNeg) - (1 : Int32))).1 a12 ((186 : Int32)).toNatClampNeg)) (pV s a6 ((186 : Int32)).toNatClampNeg ((s.1 a6 ((186 : Int32)).toNatClampNeg) - (1 : Int32)))))))) else K (some (-1 : Int32)) s)))) : tT Y d 200 0 [.ref r0] [] s K :=
  (tt_aload (p_200_0 _ _) rfl).mpr (Exists.elim h (fun a1 h2 => t3_getr (p_200_1 _ _) (isI_11_0) h2.1.1 h2.1.2 ((tt_push (p_200_4 _ _)).mpr (Exists.elim h2.2 (fun m3 h4 => t3_ald (p_200_7 _ _) h4.1.1 h4.1.2 (t3_if (p := ¬ (s.1 a1 ((186 : Int32)).toNatClampNeg) = 0) (p_200_8 _ _) rfl (fun g5 => (tt_aload (p_200_13 _ _) rfl).mpr (Exists.elim (ifp h4.2 g5) (fun a6 h7 => t3_getr (p_200_14 _ _) (isI_11_0) h7.1.1 h7.1.2 ((tt_push (p_200_17 _ _)).mpr ((tt_dup2 (p_200_20 _ _)).mpr (Exists.elim h7.2 (fun m8 h9 => t3_ald (p_200_21 _ _) h9.1.1 h9.1.2 ((tt_push (p_200_22 _ _)).mpr ((tt_bin (p_200_23 _ _)).mpr (Exists.elim h9.2 (fun m10 h11 => t3_ast (p_200_24 _ _) h11.1.1 h11.1.2 ((tt_aload (p_200_25 _ _) rfl).mpr (Exists.elim h11.2 (fun a12 h13 => t3_getr (p_200_26 _ _) (isI_11_0) h13.1.1 h13.1.2 ((tt_push (p_200_29 _ _)).mpr (Exists.elim h13.2 (fun m14 h15 => t3_ald (p_200_32 _ _) h15.1.1 h15.1.2 (tt_ret1 (p_200_33 _ _) h15.2)))))))))))))))))) (fun g5 => (tt_push (p_200_11 _ _)).mpr (tt_ret1 (p_200_12 _ _) (ifn h4.2 g5)))))))))
/-! InclusionProverModel.isTold.(I)Z -/
theorem p_201_0 (L : Nat) (xs : Nat → Int32) : ll_P L xs 201 0 = some (.inl (lo_push 1 (.int 0))) := (P_201 L xs 0).trans rfl
theorem p_201_1 (L : Nat) (xs : Nat → Int32) : ll_P L xs 201 1 = some (.inl (lo_istore 2 2)) := (P_201 L xs 1).trans rfl
theorem p_201_2 (L : Nat) (xs : Nat → Int32) : ll_P L xs 201 2 = some (.inl (lo_iload 3 2)) := (P_201 L xs 2).trans rfl
theorem p_201_3 (L : Nat) (xs : Nat → Int32) : ll_P L xs 201 3 = some (.inl (lo_aload 4 0)) := (P_201 L xs 3).trans rfl
theorem p_201_4 (L : Nat) (xs : Nat → Int32) : ll_P L xs 201 4 = some (.inl (lo_getf 7 11 0)) := (P_201 L xs 4).trans rfl
theorem p_201_7 (L : Nat) (xs : Nat → Int32) : ll_P L xs 201 7 = some (.inl (lo_push 10 (.int 186))) := (P_201 L xs 7).trans rfl
theorem p_201_10 (L : Nat) (xs : Nat → Int32) : ll_P L xs 201 10 = some (.inl (lo_ald 11 0)) := (P_201 L xs 10).trans rfl
theorem p_201_11 (L : Nat) (xs : Nat → Int32) : ll_P L xs 201 11 = some (.inl (lo_cmp 63 14 (fun x y => decide (y ≤ x)))) := (P_201 L xs 11).trans rfl
theorem p_201_14 (L : Nat) (xs : Nat → Int32) : ll_P L xs 201 14 = some (.inl (lo_push 15 (.int 0))) := (P_201 L xs 14).trans rfl
theorem p_201_15 (L : Nat) (xs : Nat → Int32) : ll_P L xs 201 15 = some (.inl (lo_istore 16 3)) := (P_201 L xs 15).trans rfl
theorem p_201_16 (L : Nat) (xs : Nat → Int32) : ll_P L xs 201 16 = some (.inl (lo_iload 17 3)) := (P_201 L xs 16).trans rfl
theorem p_201_17 (L : Nat) (xs : Nat → Int32) : ll_P L xs 201 17 = some (.inl (lo_aload 18 0)) := (P_201 L xs 17).trans rfl
theorem p_201_18 (L : Nat) (xs : Nat → Int32) : ll_P L xs 201 18 = some (.inl (lo_getf 21 11 0)) := (P_201 L xs 18).trans rfl
theorem p_201_21 (L : Nat) (xs : Nat → Int32) : ll_P L xs 201 21 = some (.inl (lo_push 24 (.int 1087))) := (P_201 L xs 21).trans rfl
theorem p_201_24 (L : Nat) (xs : Nat → Int32) : ll_P L xs 201 24 = some (.inl (lo_iload 25 2)) := (P_201 L xs 24).trans rfl
theorem p_201_25 (L : Nat) (xs : Nat → Int32) : ll_P L xs 201 25 = some (.inl (lo_bin 26 (fun x y => x + y))) := (P_201 L xs 25).trans rfl
theorem p_201_26 (L : Nat) (xs : Nat → Int32) : ll_P L xs 201 26 = some (.inl (lo_ald 27 0)) := (P_201 L xs 26).trans rfl
theorem p_201_27 (L : Nat) (xs : Nat → Int32) : ll_P L xs 201 27 = some (.inl (lo_cmp 57 30 (fun x y => decide (y ≤ x)))) := (P_201 L xs 27).trans rfl
theorem p_201_30 (L : Nat) (xs : Nat → Int32) : ll_P L xs 201 30 = some (.inl (lo_aload 31 0)) := (P_201 L xs 30).trans rfl
theorem p_201_31 (L : Nat) (xs : Nat → Int32) : ll_P L xs 201 31 = some (.inl (lo_getf 34 11 0)) := (P_201 L xs 31).trans rfl
theorem p_201_34 (L : Nat) (xs : Nat → Int32) : ll_P L xs 201 34 = some (.inl (lo_push 37 (.int 1387))) := (P_201 L xs 34).trans rfl
theorem p_201_37 (L : Nat) (xs : Nat → Int32) : ll_P L xs 201 37 = some (.inl (lo_push 39 (.int 30))) := (P_201 L xs 37).trans rfl
theorem p_201_39 (L : Nat) (xs : Nat → Int32) : ll_P L xs 201 39 = some (.inl (lo_iload 40 2)) := (P_201 L xs 39).trans rfl
theorem p_201_40 (L : Nat) (xs : Nat → Int32) : ll_P L xs 201 40 = some (.inl (lo_bin 41 (fun x y => x * y))) := (P_201 L xs 40).trans rfl
theorem p_201_41 (L : Nat) (xs : Nat → Int32) : ll_P L xs 201 41 = some (.inl (lo_bin 42 (fun x y => x + y))) := (P_201 L xs 41).trans rfl
theorem p_201_42 (L : Nat) (xs : Nat → Int32) : ll_P L xs 201 42 = some (.inl (lo_iload 43 3)) := (P_201 L xs 42).trans rfl
theorem p_201_43 (L : Nat) (xs : Nat → Int32) : ll_P L xs 201 43 = some (.inl (lo_bin 44 (fun x y => x + y))) := (P_201 L xs 43).trans rfl
theorem p_201_44 (L : Nat) (xs : Nat → Int32) : ll_P L xs 201 44 = some (.inl (lo_ald 45 0)) := (P_201 L xs 44).trans rfl
theorem p_201_45 (L : Nat) (xs : Nat → Int32) : ll_P L xs 201 45 = some (.inl (lo_iload 46 1)) := (P_201 L xs 45).trans rfl
theorem p_201_46 (L : Nat) (xs : Nat → Int32) : ll_P L xs 201 46 = some (.inl (lo_cmp 51 49 (fun x y => decide (¬ x = y)))) := (P_201 L xs 46).trans rfl
theorem p_201_49 (L : Nat) (xs : Nat → Int32) : ll_P L xs 201 49 = some (.inl (lo_push 50 (.int 1))) := (P_201 L xs 49).trans rfl
theorem p_201_50 (L : Nat) (xs : Nat → Int32) : ll_P L xs 201 50 = some (.inr (.inr 2)) := (P_201 L xs 50).trans rfl
theorem p_201_51 (L : Nat) (xs : Nat → Int32) : ll_P L xs 201 51 = some (.inl (lo_iinc 54 3 1)) := (P_201 L xs 51).trans rfl
theorem p_201_54 (L : Nat) (xs : Nat → Int32) : ll_P L xs 201 54 = some (.inl (lo_goto 16)) := (P_201 L xs 54).trans rfl
theorem p_201_57 (L : Nat) (xs : Nat → Int32) : ll_P L xs 201 57 = some (.inl (lo_iinc 60 2 1)) := (P_201 L xs 57).trans rfl
theorem p_201_60 (L : Nat) (xs : Nat → Int32) : ll_P L xs 201 60 = some (.inl (lo_goto 2)) := (P_201 L xs 60).trans rfl
theorem p_201_63 (L : Nat) (xs : Nat → Int32) : ll_P L xs 201 63 = some (.inl (lo_push 64 (.int 0))) := (P_201 L xs 63).trans rfl
theorem p_201_64 (L : Nat) (xs : Nat → Int32) : ll_P L xs 201 64 = some (.inr (.inr 2)) := (P_201 L xs 64).trans rfl
theorem b_201_0 {Y : sY} {d : Nat} {s : sT} {K : Option Int32 → sT → Prop} {r0 : Nat} {x1 : Int32} (h : tT Y d 201 2 [.ref r0, .int x1, .int (0 : Int32), .null] [] s K) : tT Y d 201 0 [.ref r0, .int x1, .null, .null] [] s K :=
  (tt_push (p_201_0 _ _)).mpr ((tt_istore (p_201_1 _ _) (Nat.le_of_ble_eq_true rfl) rfl rfl).mpr (h))
theorem b_201_2 {Y : sY} {d : Nat} {s : sT} {K : Option Int32 → sT → Prop} {r0 : Nat} {x1 : Int32} {x2 : Int32} {u3 : Value} (h : (∃ a1, (isO Y r0 11 ∧ s.2 r0 0 = some a1) ∧ (∃ m3, (isA Y a1 0 m3 ∧ inR (186 : Int32) m3) ∧ (if (s.1 a1 ((186 : Int32)).toNatClampNeg) ≤ x2 then K (some (0 : Int32)) s else tT Y d 201 16 [.ref r0, .int x1, .int x2, .int (0 : Int32)] [] s K)))) : tT Y d 201 2 [.ref r0, .int x1, .int x2, u3] [] s K :=
  (tt_iload (p_201_2 _ _) rfl).mpr ((tt_aload (p_201_3 _ _) rfl).mpr (Exists.elim h (fun a1 h2 => t3_getr (p_201_4 _ _) (isI_11_0) h2.1.1 h2.1.2 ((tt_push (p_201_7 _ _)).mpr (Exists.elim h2.2 (fun m3 h4 => t3_ald (p_201_10 _ _) h4.1.1 h4.1.2 (t3_cmp (p := (s.1 a1 ((186 : Int32)).toNatClampNeg) ≤ x2) (p_201_11 _ _) rfl (fun g5 => (tt_push (p_201_63 _ _)).mpr (tt_ret2 (p_201_64 _ _) (Or.inl rfl) (ifp h4.2 g5))) (fun g5 => (tt_push (p_201_14 _ _)).mpr ((tt_istore (p_201_15 _ _) (Nat.le_of_ble_eq_true rfl) rfl rfl).mpr ((ifn h4.2 g5)))))))))))
theorem b_201_16 {Y : sY} {d : Nat} {s : sT} {K : Option Int32 → sT → Prop} {r0 : Nat} {x1 : Int32} {x2 : Int32} {x3 : Int32} (h : (∃ a1, (isO Y r0 11 ∧ s.2 r0 0 = some a1) ∧ (∃ m3, (isA Y a1 0 m3 ∧ inR ((1087 : Int32) + x2) m3) ∧ (if (s.1 a1 (((1087 : Int32) + x2)).toNatClampNeg) ≤ x3 then tT Y d 201 2 [.ref r0, .int x1, .int (x2 + 1), .int x3] [] s K else (∃ a6, (isO Y r0 11 ∧ s.2 r0 0 = some a6) ∧ (∃ m8, (isA Y a6 0 m8 ∧ inR (((1387 : Int32) + ((30 : Int32) * x2)) + x3) m8) ∧ (if ¬ (s.1 a6 ((((1387 : Int32) + ((30 : Int32) * x2)) + x3)).toNatClampNeg) = x1 then tT Y d 201 16 [.ref r0, .int x1, .int x2, .int (x3 + 1)] [] s K else K (some (1 : Int32)) s))))))) : tT Y d 201 16 [.ref r0, .int x1, .int x2, .int x3] [] s K :=
  (tt_iload (p_201_16 _ _) rfl).mpr ((tt_aload (p_201_17 _ _) rfl).mpr (Exists.elim h (fun a1 h2 => t3_getr (p_201_18 _ _) (isI_11_0) h2.1.1 h2.1.2 ((tt_push (p_201_21 _ _)).mpr ((tt_iload (p_201_24 _ _) rfl).mpr ((tt_bin (p_201_25 _ _)).mpr (Exists.elim h2.2 (fun m3 h4 => t3_ald (p_201_26 _ _) h4.1.1 h4.1.2 (t3_cmp (p := (s.1 a1 (((1087 : Int32) + x2)).toNatClampNeg) ≤ x3) (p_201_27 _ _) rfl (fun g5 => (tt_iinc (p_201_57 _ _) rfl rfl rfl).mpr ((tt_goto (p_201_60 _ _)).mpr ((ifp h4.2 g5)))) (fun g5 => (tt_aload (p_201_30 _ _) rfl).mpr (Exists.elim (ifn h4.2 g5) (fun a6 h7 => t3_getr (p_201_31 _ _) (isI_11_0) h7.1.1 h7.1.2 ((tt_push (p_201_34 _ _)).mpr ((tt_push (p_201_37 _ _)).mpr ((tt_iload (p_201_39 _ _) rfl).mpr ((tt_bin (p_201_40 _ _)).mpr ((tt_bin (p_201_41 _ _)).mpr ((tt_iload (p_201_42 _ _) rfl).mpr ((tt_bin (p_201_43 _ _)).mpr (Exists.elim h7.2 (fun m8 h9 => t3_ald (p_201_44 _ _) h9.1.1 h9.1.2 ((tt_iload (p_201_45 _ _) rfl).mpr (t3_cmp (p := ¬ (s.1 a6 ((((1387 : Int32) + ((30 : Int32) * x2)) + x3)).toNatClampNeg) = x1) (p_201_46 _ _) rfl (fun g10 => (tt_iinc (p_201_51 _ _) rfl rfl rfl).mpr ((tt_goto (p_201_54 _ _)).mpr ((ifp h9.2 g10)))) (fun g10 => (tt_push (p_201_49 _ _)).mpr (tt_ret2 (p_201_50 _ _) (Or.inr rfl) (ifn h9.2 g10))))))))))))))))))))))))))
/-! InclusionProverModel.count.(I)I -/
theorem p_202_0 (L : Nat) (xs : Nat → Int32) : ll_P L xs 202 0 = some (.inl (lo_push 1 (.int 0))) := (P_202 L xs 0).trans rfl
theorem p_202_1 (L : Nat) (xs : Nat → Int32) : ll_P L xs 202 1 = some (.inl (lo_istore 2 2)) := (P_202 L xs 1).trans rfl
theorem p_202_2 (L : Nat) (xs : Nat → Int32) : ll_P L xs 202 2 = some (.inl (lo_push 3 (.int 0))) := (P_202 L xs 2).trans rfl
theorem p_202_3 (L : Nat) (xs : Nat → Int32) : ll_P L xs 202 3 = some (.inl (lo_istore 4 3)) := (P_202 L xs 3).trans rfl
theorem p_202_4 (L : Nat) (xs : Nat → Int32) : ll_P L xs 202 4 = some (.inl (lo_iload 5 3)) := (P_202 L xs 4).trans rfl
theorem p_202_5 (L : Nat) (xs : Nat → Int32) : ll_P L xs 202 5 = some (.inl (lo_aload 6 0)) := (P_202 L xs 5).trans rfl
theorem p_202_6 (L : Nat) (xs : Nat → Int32) : ll_P L xs 202 6 = some (.inl (lo_getf 9 11 0)) := (P_202 L xs 6).trans rfl
theorem p_202_9 (L : Nat) (xs : Nat → Int32) : ll_P L xs 202 9 = some (.inl (lo_push 12 (.int 186))) := (P_202 L xs 9).trans rfl
theorem p_202_12 (L : Nat) (xs : Nat → Int32) : ll_P L xs 202 12 = some (.inl (lo_ald 13 0)) := (P_202 L xs 12).trans rfl
theorem p_202_13 (L : Nat) (xs : Nat → Int32) : ll_P L xs 202 13 = some (.inl (lo_cmp 94 16 (fun x y => decide (y ≤ x)))) := (P_202 L xs 13).trans rfl
theorem p_202_16 (L : Nat) (xs : Nat → Int32) : ll_P L xs 202 16 = some (.inl (lo_iload 17 1)) := (P_202 L xs 16).trans rfl
theorem p_202_17 (L : Nat) (xs : Nat → Int32) : ll_P L xs 202 17 = some (.inl (lo_push 18 (.int 1))) := (P_202 L xs 17).trans rfl
theorem p_202_18 (L : Nat) (xs : Nat → Int32) : ll_P L xs 202 18 = some (.inl (lo_push 19 (.int 5))) := (P_202 L xs 18).trans rfl
theorem p_202_19 (L : Nat) (xs : Nat → Int32) : ll_P L xs 202 19 = some (.inr (.inl (151, 3, 22))) := (P_202 L xs 19).trans rfl
theorem p_202_22 (L : Nat) (xs : Nat → Int32) : ll_P L xs 202 22 = some (.inl (lo_if 94 25 (fun x => decide (x = 0)))) := (P_202 L xs 22).trans rfl
theorem p_202_25 (L : Nat) (xs : Nat → Int32) : ll_P L xs 202 25 = some (.inl (lo_iload 26 2)) := (P_202 L xs 25).trans rfl
theorem p_202_26 (L : Nat) (xs : Nat → Int32) : ll_P L xs 202 26 = some (.inl (lo_iload 27 1)) := (P_202 L xs 26).trans rfl
theorem p_202_27 (L : Nat) (xs : Nat → Int32) : ll_P L xs 202 27 = some (.inl (lo_push 28 (.int 3))) := (P_202 L xs 27).trans rfl
theorem p_202_28 (L : Nat) (xs : Nat → Int32) : ll_P L xs 202 28 = some (.inl (lo_cmp 44 31 (fun x y => decide (¬ x = y)))) := (P_202 L xs 28).trans rfl
theorem p_202_31 (L : Nat) (xs : Nat → Int32) : ll_P L xs 202 31 = some (.inl (lo_aload 32 0)) := (P_202 L xs 31).trans rfl
theorem p_202_32 (L : Nat) (xs : Nat → Int32) : ll_P L xs 202 32 = some (.inl (lo_getf 35 11 0)) := (P_202 L xs 32).trans rfl
theorem p_202_35 (L : Nat) (xs : Nat → Int32) : ll_P L xs 202 35 = some (.inl (lo_push 38 (.int 1087))) := (P_202 L xs 35).trans rfl
theorem p_202_38 (L : Nat) (xs : Nat → Int32) : ll_P L xs 202 38 = some (.inl (lo_iload 39 3)) := (P_202 L xs 38).trans rfl
theorem p_202_39 (L : Nat) (xs : Nat → Int32) : ll_P L xs 202 39 = some (.inl (lo_bin 40 (fun x y => x + y))) := (P_202 L xs 39).trans rfl
theorem p_202_40 (L : Nat) (xs : Nat → Int32) : ll_P L xs 202 40 = some (.inl (lo_ald 41 0)) := (P_202 L xs 40).trans rfl
theorem p_202_41 (L : Nat) (xs : Nat → Int32) : ll_P L xs 202 41 = some (.inl (lo_goto 86)) := (P_202 L xs 41).trans rfl
theorem p_202_44 (L : Nat) (xs : Nat → Int32) : ll_P L xs 202 44 = some (.inl (lo_iload 45 1)) := (P_202 L xs 44).trans rfl
theorem p_202_45 (L : Nat) (xs : Nat → Int32) : ll_P L xs 202 45 = some (.inl (lo_push 46 (.int 5))) := (P_202 L xs 45).trans rfl
theorem p_202_46 (L : Nat) (xs : Nat → Int32) : ll_P L xs 202 46 = some (.inl (lo_cmp 65 49 (fun x y => decide (¬ x = y)))) := (P_202 L xs 46).trans rfl
theorem p_202_49 (L : Nat) (xs : Nat → Int32) : ll_P L xs 202 49 = some (.inl (lo_aload 50 0)) := (P_202 L xs 49).trans rfl
theorem p_202_50 (L : Nat) (xs : Nat → Int32) : ll_P L xs 202 50 = some (.inl (lo_iload 51 3)) := (P_202 L xs 50).trans rfl
theorem p_202_51 (L : Nat) (xs : Nat → Int32) : ll_P L xs 202 51 = some (.inr (.inl (201, 2, 54))) := (P_202 L xs 51).trans rfl
theorem p_202_54 (L : Nat) (xs : Nat → Int32) : ll_P L xs 202 54 = some (.inl (lo_if 61 57 (fun x => decide (x = 0)))) := (P_202 L xs 54).trans rfl
theorem p_202_57 (L : Nat) (xs : Nat → Int32) : ll_P L xs 202 57 = some (.inl (lo_push 58 (.int 0))) := (P_202 L xs 57).trans rfl
theorem p_202_58 (L : Nat) (xs : Nat → Int32) : ll_P L xs 202 58 = some (.inl (lo_goto 86)) := (P_202 L xs 58).trans rfl
theorem p_202_61 (L : Nat) (xs : Nat → Int32) : ll_P L xs 202 61 = some (.inl (lo_push 62 (.int 1))) := (P_202 L xs 61).trans rfl
theorem p_202_62 (L : Nat) (xs : Nat → Int32) : ll_P L xs 202 62 = some (.inl (lo_goto 86)) := (P_202 L xs 62).trans rfl
theorem p_202_65 (L : Nat) (xs : Nat → Int32) : ll_P L xs 202 65 = some (.inl (lo_aload 66 0)) := (P_202 L xs 65).trans rfl
theorem p_202_66 (L : Nat) (xs : Nat → Int32) : ll_P L xs 202 66 = some (.inl (lo_getf 69 11 0)) := (P_202 L xs 66).trans rfl
theorem p_202_69 (L : Nat) (xs : Nat → Int32) : ll_P L xs 202 69 = some (.inl (lo_push 72 (.int 787))) := (P_202 L xs 69).trans rfl
theorem p_202_72 (L : Nat) (xs : Nat → Int32) : ll_P L xs 202 72 = some (.inl (lo_iload 73 3)) := (P_202 L xs 72).trans rfl
theorem p_202_73 (L : Nat) (xs : Nat → Int32) : ll_P L xs 202 73 = some (.inl (lo_bin 74 (fun x y => x + y))) := (P_202 L xs 73).trans rfl
theorem p_202_74 (L : Nat) (xs : Nat → Int32) : ll_P L xs 202 74 = some (.inl (lo_ald 75 0)) := (P_202 L xs 74).trans rfl
theorem p_202_75 (L : Nat) (xs : Nat → Int32) : ll_P L xs 202 75 = some (.inl (lo_iload 76 1)) := (P_202 L xs 75).trans rfl
theorem p_202_76 (L : Nat) (xs : Nat → Int32) : ll_P L xs 202 76 = some (.inl (lo_push 77 (.int 1))) := (P_202 L xs 76).trans rfl
theorem p_202_77 (L : Nat) (xs : Nat → Int32) : ll_P L xs 202 77 = some (.inl (lo_bin 78 (fun x y => x - y))) := (P_202 L xs 77).trans rfl
theorem p_202_78 (L : Nat) (xs : Nat → Int32) : ll_P L xs 202 78 = some (.inl (lo_cmp 85 81 (fun x y => decide (¬ x = y)))) := (P_202 L xs 78).trans rfl
theorem p_202_81 (L : Nat) (xs : Nat → Int32) : ll_P L xs 202 81 = some (.inl (lo_push 82 (.int 1))) := (P_202 L xs 81).trans rfl
theorem p_202_82 (L : Nat) (xs : Nat → Int32) : ll_P L xs 202 82 = some (.inl (lo_goto 86)) := (P_202 L xs 82).trans rfl
theorem p_202_85 (L : Nat) (xs : Nat → Int32) : ll_P L xs 202 85 = some (.inl (lo_push 86 (.int 0))) := (P_202 L xs 85).trans rfl
theorem p_202_86 (L : Nat) (xs : Nat → Int32) : ll_P L xs 202 86 = some (.inl (lo_bin 87 (fun x y => x + y))) := (P_202 L xs 86).trans rfl
theorem p_202_87 (L : Nat) (xs : Nat → Int32) : ll_P L xs 202 87 = some (.inl (lo_istore 88 2)) := (P_202 L xs 87).trans rfl
theorem p_202_88 (L : Nat) (xs : Nat → Int32) : ll_P L xs 202 88 = some (.inl (lo_iinc 91 3 1)) := (P_202 L xs 88).trans rfl
theorem p_202_91 (L : Nat) (xs : Nat → Int32) : ll_P L xs 202 91 = some (.inl (lo_goto 4)) := (P_202 L xs 91).trans rfl
theorem p_202_94 (L : Nat) (xs : Nat → Int32) : ll_P L xs 202 94 = some (.inl (lo_iload 95 1)) := (P_202 L xs 94).trans rfl
theorem p_202_95 (L : Nat) (xs : Nat → Int32) : ll_P L xs 202 95 = some (.inl (lo_if 107 98 (fun x => decide (¬ x = 0)))) := (P_202 L xs 95).trans rfl
theorem p_202_98 (L : Nat) (xs : Nat → Int32) : ll_P L xs 202 98 = some (.inl (lo_aload 99 0)) := (P_202 L xs 98).trans rfl
theorem p_202_99 (L : Nat) (xs : Nat → Int32) : ll_P L xs 202 99 = some (.inl (lo_getf 102 11 0)) := (P_202 L xs 99).trans rfl
theorem p_202_102 (L : Nat) (xs : Nat → Int32) : ll_P L xs 202 102 = some (.inl (lo_push 105 (.int 186))) := (P_202 L xs 102).trans rfl
theorem p_202_105 (L : Nat) (xs : Nat → Int32) : ll_P L xs 202 105 = some (.inl (lo_ald 106 0)) := (P_202 L xs 105).trans rfl
theorem p_202_106 (L : Nat) (xs : Nat → Int32) : ll_P L xs 202 106 = some (.inr (.inr 1)) := (P_202 L xs 106).trans rfl
theorem p_202_107 (L : Nat) (xs : Nat → Int32) : ll_P L xs 202 107 = some (.inl (lo_iload 108 1)) := (P_202 L xs 107).trans rfl
theorem p_202_108 (L : Nat) (xs : Nat → Int32) : ll_P L xs 202 108 = some (.inl (lo_push 109 (.int 4))) := (P_202 L xs 108).trans rfl
theorem p_202_109 (L : Nat) (xs : Nat → Int32) : ll_P L xs 202 109 = some (.inl (lo_cmp 121 112 (fun x y => decide (¬ x = y)))) := (P_202 L xs 109).trans rfl
theorem p_202_112 (L : Nat) (xs : Nat → Int32) : ll_P L xs 202 112 = some (.inl (lo_aload 113 0)) := (P_202 L xs 112).trans rfl
theorem p_202_113 (L : Nat) (xs : Nat → Int32) : ll_P L xs 202 113 = some (.inl (lo_getf 116 11 0)) := (P_202 L xs 113).trans rfl
theorem p_202_116 (L : Nat) (xs : Nat → Int32) : ll_P L xs 202 116 = some (.inl (lo_push 119 (.int 10387))) := (P_202 L xs 116).trans rfl
theorem p_202_119 (L : Nat) (xs : Nat → Int32) : ll_P L xs 202 119 = some (.inl (lo_ald 120 0)) := (P_202 L xs 119).trans rfl
theorem p_202_120 (L : Nat) (xs : Nat → Int32) : ll_P L xs 202 120 = some (.inr (.inr 1)) := (P_202 L xs 120).trans rfl
theorem p_202_121 (L : Nat) (xs : Nat → Int32) : ll_P L xs 202 121 = some (.inl (lo_iload 122 1)) := (P_202 L xs 121).trans rfl
theorem p_202_122 (L : Nat) (xs : Nat → Int32) : ll_P L xs 202 122 = some (.inl (lo_push 124 (.int 6))) := (P_202 L xs 122).trans rfl
theorem p_202_124 (L : Nat) (xs : Nat → Int32) : ll_P L xs 202 124 = some (.inl (lo_cmp 134 127 (fun x y => decide (¬ x = y)))) := (P_202 L xs 124).trans rfl
theorem p_202_127 (L : Nat) (xs : Nat → Int32) : ll_P L xs 202 127 = some (.inl (lo_aload 128 0)) := (P_202 L xs 127).trans rfl
theorem p_202_128 (L : Nat) (xs : Nat → Int32) : ll_P L xs 202 128 = some (.inl (lo_getf 131 11 3)) := (P_202 L xs 128).trans rfl
theorem p_202_131 (L : Nat) (xs : Nat → Int32) : ll_P L xs 202 131 = some (.inl (lo_goto 148)) := (P_202 L xs 131).trans rfl
theorem p_202_134 (L : Nat) (xs : Nat → Int32) : ll_P L xs 202 134 = some (.inl (lo_iload 135 1)) := (P_202 L xs 134).trans rfl
theorem p_202_135 (L : Nat) (xs : Nat → Int32) : ll_P L xs 202 135 = some (.inl (lo_push 136 (.int 1))) := (P_202 L xs 135).trans rfl
theorem p_202_136 (L : Nat) (xs : Nat → Int32) : ll_P L xs 202 136 = some (.inl (lo_push 137 (.int 5))) := (P_202 L xs 136).trans rfl
theorem p_202_137 (L : Nat) (xs : Nat → Int32) : ll_P L xs 202 137 = some (.inr (.inl (151, 3, 140))) := (P_202 L xs 137).trans rfl
theorem p_202_140 (L : Nat) (xs : Nat → Int32) : ll_P L xs 202 140 = some (.inl (lo_if 147 143 (fun x => decide (x = 0)))) := (P_202 L xs 140).trans rfl
theorem p_202_143 (L : Nat) (xs : Nat → Int32) : ll_P L xs 202 143 = some (.inl (lo_iload 144 2)) := (P_202 L xs 143).trans rfl
theorem p_202_144 (L : Nat) (xs : Nat → Int32) : ll_P L xs 202 144 = some (.inl (lo_goto 148)) := (P_202 L xs 144).trans rfl
theorem p_202_147 (L : Nat) (xs : Nat → Int32) : ll_P L xs 202 147 = some (.inl (lo_push 148 (.int (-1)))) := (P_202 L xs 147).trans rfl
theorem p_202_148 (L : Nat) (xs : Nat → Int32) : ll_P L xs 202 148 = some (.inr (.inr 1)) := (P_202 L xs 148).trans rfl
theorem b_202_0 {Y : sY} {d : Nat} {s : sT} {K : Option Int32 → sT → Prop} {r0 : Nat} {x1 : Int32} (h : tT Y (d + 1) 202 4 [.ref r0, .int x1, .int (0 : Int32), .int (0 : Int32)] [] s K) : tT Y (d + 1) 202 0 [.ref r0, .int x1, .null, .null] [] s K :=
  (tt_push (p_202_0 _ _)).mpr ((tt_istore (p_202_1 _ _) (Nat.le_of_ble_eq_true rfl) rfl rfl).mpr ((tt_push (p_202_2 _ _)).mpr ((tt_istore (p_202_3 _ _) (Nat.le_of_ble_eq_true rfl) rfl rfl).mpr (h))))
theorem b_202_4 {Y : sY} {d : Nat} {s : sT} {K : Option Int32 → sT → Prop} {r0 : Nat} {x1 : Int32} {x2 : Int32} {x3 : Int32} (h : (∃ a1, (isO Y r0 11 ∧ s.2 r0 0 = some a1) ∧ (∃ m3, (isA Y a1 0 m3 ∧ inR (186 : Int32) m3) ∧ (if (s.1 a1 ((186 : Int32)).toNatClampNeg) ≤ x3 then tT Y (d + 1) 202 94 [.ref r0, .int x1, .int x2, .int x3] [] s K else tT Y d 151 0 [.int x1, .int (1 : Int32), .int (5 : Int32)] [] s (fun r s1 => tT Y (d + 1) 202 22 [.ref r0, .int x1, .int x2, .int x3] ((r.map Value.int).toList ++ []) s1 K))))) : tT Y (d + 1) 202 4 [.ref r0, .int x1, .int x2, .int x3] [] s K :=
  (tt_iload (p_202_4 _ _) rfl).mpr ((tt_aload (p_202_5 _ _) rfl).mpr (Exists.elim h (fun a1 h2 => t3_getr (p_202_6 _ _) (isI_11_0) h2.1.1 h2.1.2 ((tt_push (p_202_9 _ _)).mpr (Exists.elim h2.2 (fun m3 h4 => t3_ald (p_202_12 _ _) h4.1.1 h4.1.2 (t3_cmp (p := (s.1 a1 ((186 : Int32)).toNatClampNeg) ≤ x3) (p_202_13 _ _) rfl (fun g5 => (ifp h4.2 g5)) (fun g5 => (tt_iload (p_202_16 _ _) rfl).mpr ((tt_push (p_202_17 _ _)).mpr ((tt_push (p_202_18 _ _)).mpr (t2_calls (z := 151) (k := 3) (as := [.int x1, .int (1 : Int32), .int (5 : Int32)]) (rest := []) (p_202_19 _ _) mK_151 mL_151 rfl rfl (Nat.le_of_ble_eq_true rfl) rfl (Nat.le_of_ble_eq_true rfl) (ifn h4.2 g5))))))))))))
theorem b_202_22 {Y : sY} {d : Nat} {s : sT} {K : Option Int32 → sT → Prop} {r0 : Nat} {x1 : Int32} {x2 : Int32} {x3 : Int32} {t0 : Int32} (h : (if t0 = 0 then tT Y (d + 1) 202 94 [.ref r0, .int x1, .int x2, .int x3] [] s K else (if ¬ x1 = (3 : Int32) then (if ¬ x1 = (5 : Int32) then (∃ a4, (isO Y r0 11 ∧ s.2 r0 0 = some a4) ∧ (∃ m6, (isA Y a4 0 m6 ∧ inR ((787 : Int32) + x3) m6) ∧ (if ¬ (s.1 a4 (((787 : Int32) + x3)).toNatClampNeg) = (x1 - (1 : Int32)) then tT Y (d + 1) 202 86 [.ref r0, .int x1, .int x2, .int x3] [.int (0 : Int32), .int x2] s K else tT Y (d + 1) 202 86 [.ref r0, .int x1, .int x2, .int x3] [.int (1 : Int32), .int x2] s K))) else (isO Y r0 11 ∧ tT Y d 201 0 [.ref r0, .int x3, .null, .null] [] s (fun r s1 => tT Y (d + 1) 202 54 [.ref r0, .int x1, .int x2, .int x3] ((r.map Value.int).toList ++ [.int x2]) s1 K))) else (∃ a9, (isO Y r0 11 ∧ s.2 r0 0 = some a9) ∧ (∃ m11, (isA Y a9 0 m11 ∧ inR ((1087 : Int32) + x3) m11) ∧ tT Y (d + 1) 202 86 [.ref r0, .int x1, .int x2, .int x3] [.int (s.1 a9 (((1087 : Int32) + x3)).toNatClampNeg), .int x2] s K))))) : tT Y (d + 1) 202 22 [.ref r0, .int x1, .int x2, .int x3] [.int t0] s K :=
  t3_if (p := t0 = 0) (p_202_22 _ _) rfl (fun g1 => (ifp h g1)) (fun g1 => (tt_iload (p_202_25 _ _) rfl).mpr ((tt_iload (p_202_26 _ _) rfl).mpr ((tt_push (p_202_27 _ _)).mpr (t3_cmp (p := ¬ x1 = (3 : Int32)) (p_202_28 _ _) rfl (fun g2 => (tt_iload (p_202_44 _ _) rfl).mpr ((tt_push (p_202_45 _ _)).mpr (t3_cmp (p := ¬ x1 = (5 : Int32)) (p_202_46 _ _) rfl (fun g3 => (tt_aload (p_202_65 _ _) rfl).mpr (Exists.elim (ifp (ifp (ifn h g1) g2) g3) (fun a4 h5 => t3_getr (p_202_66 _ _) (isI_11_0) h5.1.1 h5.1.2 ((tt_push (p_202_69 _ _)).mpr ((tt_iload (p_202_72 _ _) rfl).mpr ((tt_bin (p_202_73 _ _)).mpr (Exists.elim h5.2 (fun m6 h7 => t3_ald (p_202_74 _ _) h7.1.1 h7.1.2 ((tt_iload (p_202_75 _ _) rfl).mpr ((tt_push (p_202_76 _ _)).mpr ((tt_bin (p_202_77 _ _)).mpr (t3_cmp (p := ¬ (s.1 a4 (((787 : Int32) + x3)).toNatClampNeg) = (x1 - (1 : Int32))) (p_202_78 _ _) rfl (fun g8 => (tt_push (p_202_85 _ _)).mpr ((ifp h7.2 g8))) (fun g8 => (tt_push (p_202_81 _ _)).mpr ((tt_goto (p_202_82 _ _)).mpr ((ifn h7.2 g8)))))))))))))))) (fun g3 => (tt_aload (p_202_49 _ _) rfl).mpr ((tt_iload (p_202_50 _ _) rfl).mpr (t2_callv (z := 201) (k := 2) (i := r0) (as := [.int x3]) (rest := [.int x2]) (p_202_51 _ _) mK_201 mL_201 rfl rfl (Nat.le_of_ble_eq_true rfl) rfl (Nat.le_of_ble_eq_true rfl) (ifn (ifp (ifn h g1) g2) g3).1 (ifn (ifp (ifn h g1) g2) g3).2)))))) (fun g2 => (tt_aload (p_202_31 _ _) rfl).mpr (Exists.elim (ifn (ifn h g1) g2) (fun a9 h10 => t3_getr (p_202_32 _ _) (isI_11_0) h10.1.1 h10.1.2 ((tt_push (p_202_35 _ _)).mpr ((tt_iload (p_202_38 _ _) rfl).mpr ((tt_bin (p_202_39 _ _)).mpr (Exists.elim h10.2 (fun m11 h12 => t3_ald (p_202_40 _ _) h12.1.1 h12.1.2 ((tt_goto (p_202_41 _ _)).mpr (h12.2))))))))))))))
theorem b_202_54 {Y : sY} {d : Nat} {s : sT} {K : Option Int32 → sT → Prop} {r0 : Nat} {x1 : Int32} {x2 : Int32} {x3 : Int32} {t0 : Int32} {t1 : Int32} (h : (if t1 = 0 then tT Y (d + 1) 202 86 [.ref r0, .int x1, .int x2, .int x3] [.int (1 : Int32), .int t0] s K else tT Y (d + 1) 202 86 [.ref r0, .int x1, .int x2, .int x3] [.int (0 : Int32), .int t0] s K)) : tT Y (d + 1) 202 54 [.ref r0, .int x1, .int x2, .int x3] [.int t1, .int t0] s K :=
  t3_if (p := t1 = 0) (p_202_54 _ _) rfl (fun g1 => (tt_push (p_202_61 _ _)).mpr ((tt_goto (p_202_62 _ _)).mpr ((ifp h g1)))) (fun g1 => (tt_push (p_202_57 _ _)).mpr ((tt_goto (p_202_58 _ _)).mpr ((ifn h g1))))
theorem b_202_86 {Y : sY} {d : Nat} {s : sT} {K : Option Int32 → sT → Prop} {r0 : Nat} {x1 : Int32} {x2 : Int32} {x3 : Int32} {t0 : Int32} {t1 : Int32} (h : tT Y (d + 1) 202 4 [.ref r0, .int x1, .int (t0 + t1), .int (x3 + 1)] [] s K) : tT Y (d + 1) 202 86 [.ref r0, .int x1, .int x2, .int x3] [.int t1, .int t0] s K :=
  (tt_bin (p_202_86 _ _)).mpr ((tt_istore (p_202_87 _ _) (Nat.le_of_ble_eq_true rfl) rfl rfl).mpr ((tt_iinc (p_202_88 _ _) rfl rfl rfl).mpr ((tt_goto (p_202_91 _ _)).mpr (h))))
theorem b_202_94 {Y : sY} {d : Nat} {s : sT} {K : Option Int32 → sT → Prop} {r0 : Nat} {x1 : Int32} {x2 : Int32} {x3 : Int32} (h : (if ¬ x1 = 0 then (if ¬ x1 = (4 : Int32) then (if ¬ x1 = (6 : Int32) then tT Y d 151 0 [.int x1, .int (1 : Int32), .int (5 : Int32)] [] s (fun r s1 => tT Y (d + 1) 202 140 [.ref r0, .int x1, .int x2, .int x3] ((r.map Value.int).toList ++ []) s1 K) else (isO Y r0 11 ∧ K (some (s.1 r0 3)) s)) else (∃ a4, (isO Y r0 11 ∧ s.2 r0 0 = some a4) ∧ (∃ m6, (isA Y a4 0 m6 ∧ inR (10387 : Int32) m6) ∧ K (some (s.1 a4 ((10387 : Int32)).toNatClampNeg)) s))) else (∃ a8, (isO Y r0 11 ∧ s.2 r0 0 = some a8) ∧ (∃ m10, (isA Y a8 0 m10 ∧ inR (186 : Int32) m10) ∧ K (some (s.1 a8 ((186 : Int32)).toNatClampNeg)) s)))) : tT Y (d + 1) 202 94 [.ref r0, .int x1, .int x2, .int x3] [] s K :=
  (tt_iload (p_202_94 _ _) rfl).mpr (t3_if (p := ¬ x1 = 0) (p_202_95 _ _) rfl (fun g1 => (tt_iload (p_202_107 _ _) rfl).mpr ((tt_push (p_202_108 _ _)).mpr (t3_cmp (p := ¬ x1 = (4 : Int32)) (p_202_109 _ _) rfl (fun g2 => (tt_iload (p_202_121 _ _) rfl).mpr ((tt_push (p_202_122 _ _)).mpr (t3_cmp (p := ¬ x1 = (6 : Int32)) (p_202_124 _ _) rfl (fun g3 => (tt_iload (p_202_134 _ _) rfl).mpr ((tt_push (p_202_135 _ _)).mpr ((tt_push (p_202_136 _ _)).mpr (t2_calls (z := 151) (k := 3) (as := [.int x1, .int (1 : Int32), .int (5 : Int32)]) (rest := []) (p_202_137 _ _) mK_151 mL_151 rfl rfl (Nat.le_of_ble_eq_true rfl) rfl (Nat.le_of_ble_eq_true rfl) (ifp (ifp (ifp h g1) g2) g3))))) (fun g3 => (tt_aload (p_202_127 _ _) rfl).mpr (t3_geti (p_202_128 _ _) (isI_11_3) (ifn (ifp (ifp h g1) g2) g3).1 ((tt_goto (p_202_131 _ _)).mpr (tt_ret1 (p_202_148 _ _) (ifn (ifp (ifp h g1) g2) g3).2))))))) (fun g2 => (tt_aload (p_202_112 _ _) rfl).mpr (Exists.elim (ifn (ifp h g1) g2) (fun a4 h5 => t3_getr (p_202_113 _ _) (isI_11_0) h5.1.1 h5.1.2 ((tt_push (p_202_116 _ _)).mpr (Exists.elim h5.2 (fun m6 h7 => t3_ald (p_202_119 _ _) h7.1.1 h7.1.2 (tt_ret1 (p_202_120 _ _) h7.2)))))))))) (fun g1 => (tt_aload (p_202_98 _ _) rfl).mpr (Exists.elim (ifn h g1) (fun a8 h9 => t3_getr (p_202_99 _ _) (isI_11_0) h9.1.1 h9.1.2 ((tt_push (p_202_102 _ _)).mpr (Exists.elim h9.2 (fun m10 h11 => t3_ald (p_202_105 _ _) h11.1.1 h11.1.2 (tt_ret1 (p_202_106 _ _) h11.2))))))))
theorem b_202_140 {Y : sY} {d : Nat} {s : sT} {K : Option Int32 → sT → Prop} {r0 : Nat} {x1 : Int32} {x2 : Int32} {x3 : Int32} {t0 : Int32} (h : (if t0 = 0 then K (some (-1 : Int32)) s else K (some x2) s)) : tT Y (d + 1) 202 140 [.ref r0, .int x1, .int x2, .int x3] [.int t0] s K :=
  t3_if (p := t0 = 0) (p_202_140 _ _) rfl (fun g1 => (tt_push (p_202_147 _ _)).mpr (tt_ret1 (p_202_148 _ _) (ifp h g1))) (fun g1 => (tt_iload (p_202_143 _ _) rfl).mpr ((tt_goto (p_202_144 _ _)).mpr (tt_ret1 (p_202_148 _ _) (ifn h g1))))
/-! InclusionProverModel.hasPremise.(III)Z -/
theorem p_203_0 (L : Nat) (xs : Nat → Int32) : ll_P L xs 203 0 = some (.inl (lo_push 1 (.int 0))) := (P_203 L xs 0).trans rfl
theorem p_203_1 (L : Nat) (xs : Nat → Int32) : ll_P L xs 203 1 = some (.inl (lo_istore 3 4)) := (P_203 L xs 1).trans rfl
theorem p_203_3 (L : Nat) (xs : Nat → Int32) : ll_P L xs 203 3 = some (.inl (lo_iload 5 4)) := (P_203 L xs 3).trans rfl
theorem p_203_5 (L : Nat) (xs : Nat → Int32) : ll_P L xs 203 5 = some (.inl (lo_aload 6 0)) := (P_203 L xs 5).trans rfl
theorem p_203_6 (L : Nat) (xs : Nat → Int32) : ll_P L xs 203 6 = some (.inl (lo_getf 9 11 0)) := (P_203 L xs 6).trans rfl
theorem p_203_9 (L : Nat) (xs : Nat → Int32) : ll_P L xs 203 9 = some (.inl (lo_push 12 (.int 1087))) := (P_203 L xs 9).trans rfl
theorem p_203_12 (L : Nat) (xs : Nat → Int32) : ll_P L xs 203 12 = some (.inl (lo_iload 13 1)) := (P_203 L xs 12).trans rfl
theorem p_203_13 (L : Nat) (xs : Nat → Int32) : ll_P L xs 203 13 = some (.inl (lo_bin 14 (fun x y => x + y))) := (P_203 L xs 13).trans rfl
theorem p_203_14 (L : Nat) (xs : Nat → Int32) : ll_P L xs 203 14 = some (.inl (lo_ald 15 0)) := (P_203 L xs 14).trans rfl
theorem p_203_15 (L : Nat) (xs : Nat → Int32) : ll_P L xs 203 15 = some (.inl (lo_cmp 77 18 (fun x y => decide (y ≤ x)))) := (P_203 L xs 15).trans rfl
theorem p_203_18 (L : Nat) (xs : Nat → Int32) : ll_P L xs 203 18 = some (.inl (lo_aload 19 0)) := (P_203 L xs 18).trans rfl
theorem p_203_19 (L : Nat) (xs : Nat → Int32) : ll_P L xs 203 19 = some (.inl (lo_getf 22 11 0)) := (P_203 L xs 19).trans rfl
theorem p_203_22 (L : Nat) (xs : Nat → Int32) : ll_P L xs 203 22 = some (.inl (lo_push 25 (.int 1387))) := (P_203 L xs 22).trans rfl
theorem p_203_25 (L : Nat) (xs : Nat → Int32) : ll_P L xs 203 25 = some (.inl (lo_push 27 (.int 30))) := (P_203 L xs 25).trans rfl
theorem p_203_27 (L : Nat) (xs : Nat → Int32) : ll_P L xs 203 27 = some (.inl (lo_iload 28 1)) := (P_203 L xs 27).trans rfl
theorem p_203_28 (L : Nat) (xs : Nat → Int32) : ll_P L xs 203 28 = some (.inl (lo_bin 29 (fun x y => x * y))) := (P_203 L xs 28).trans rfl
theorem p_203_29 (L : Nat) (xs : Nat → Int32) : ll_P L xs 203 29 = some (.inl (lo_bin 30 (fun x y => x + y))) := (P_203 L xs 29).trans rfl
theorem p_203_30 (L : Nat) (xs : Nat → Int32) : ll_P L xs 203 30 = some (.inl (lo_iload 32 4)) := (P_203 L xs 30).trans rfl
theorem p_203_32 (L : Nat) (xs : Nat → Int32) : ll_P L xs 203 32 = some (.inl (lo_bin 33 (fun x y => x + y))) := (P_203 L xs 32).trans rfl
theorem p_203_33 (L : Nat) (xs : Nat → Int32) : ll_P L xs 203 33 = some (.inl (lo_ald 34 0)) := (P_203 L xs 33).trans rfl
theorem p_203_34 (L : Nat) (xs : Nat → Int32) : ll_P L xs 203 34 = some (.inl (lo_istore 36 5)) := (P_203 L xs 34).trans rfl
theorem p_203_36 (L : Nat) (xs : Nat → Int32) : ll_P L xs 203 36 = some (.inl (lo_aload 37 0)) := (P_203 L xs 36).trans rfl
theorem p_203_37 (L : Nat) (xs : Nat → Int32) : ll_P L xs 203 37 = some (.inl (lo_getf 40 11 0)) := (P_203 L xs 37).trans rfl
theorem p_203_40 (L : Nat) (xs : Nat → Int32) : ll_P L xs 203 40 = some (.inl (lo_push 43 (.int 187))) := (P_203 L xs 40).trans rfl
theorem p_203_43 (L : Nat) (xs : Nat → Int32) : ll_P L xs 203 43 = some (.inl (lo_iload 45 5)) := (P_203 L xs 43).trans rfl
theorem p_203_45 (L : Nat) (xs : Nat → Int32) : ll_P L xs 203 45 = some (.inl (lo_bin 46 (fun x y => x + y))) := (P_203 L xs 45).trans rfl
theorem p_203_46 (L : Nat) (xs : Nat → Int32) : ll_P L xs 203 46 = some (.inl (lo_ald 47 0)) := (P_203 L xs 46).trans rfl
theorem p_203_47 (L : Nat) (xs : Nat → Int32) : ll_P L xs 203 47 = some (.inl (lo_iload 48 2)) := (P_203 L xs 47).trans rfl
theorem p_203_48 (L : Nat) (xs : Nat → Int32) : ll_P L xs 203 48 = some (.inl (lo_cmp 71 51 (fun x y => decide (¬ x = y)))) := (P_203 L xs 48).trans rfl
theorem p_203_51 (L : Nat) (xs : Nat → Int32) : ll_P L xs 203 51 = some (.inl (lo_aload 52 0)) := (P_203 L xs 51).trans rfl
theorem p_203_52 (L : Nat) (xs : Nat → Int32) : ll_P L xs 203 52 = some (.inl (lo_getf 55 11 0)) := (P_203 L xs 52).trans rfl
theorem p_203_55 (L : Nat) (xs : Nat → Int32) : ll_P L xs 203 55 = some (.inl (lo_push 58 (.int 487))) := (P_203 L xs 55).trans rfl
theorem p_203_58 (L : Nat) (xs : Nat → Int32) : ll_P L xs 203 58 = some (.inl (lo_iload 60 5)) := (P_203 L xs 58).trans rfl
theorem p_203_60 (L : Nat) (xs : Nat → Int32) : ll_P L xs 203 60 = some (.inl (lo_bin 61 (fun x y => x + y))) := (P_203 L xs 60).trans rfl
theorem p_203_61 (L : Nat) (xs : Nat → Int32) : ll_P L xs 203 61 = some (.inl (lo_ald 62 0)) := (P_203 L xs 61).trans rfl
theorem p_203_62 (L : Nat) (xs : Nat → Int32) : ll_P L xs 203 62 = some (.inl (lo_iload 63 3)) := (P_203 L xs 62).trans rfl
theorem p_203_63 (L : Nat) (xs : Nat → Int32) : ll_P L xs 203 63 = some (.inl (lo_push 64 (.int (-1)))) := (P_203 L xs 63).trans rfl
theorem p_203_64 (L : Nat) (xs : Nat → Int32) : ll_P L xs 203 64 = some (.inl (lo_bin 65 (fun x y => x ^^^ y))) := (P_203 L xs 64).trans rfl
theorem p_203_65 (L : Nat) (xs : Nat → Int32) : ll_P L xs 203 65 = some (.inl (lo_bin 66 (fun x y => x &&& y))) := (P_203 L xs 65).trans rfl
theorem p_203_66 (L : Nat) (xs : Nat → Int32) : ll_P L xs 203 66 = some (.inl (lo_if 71 69 (fun x => decide (¬ x = 0)))) := (P_203 L xs 66).trans rfl
theorem p_203_69 (L : Nat) (xs : Nat → Int32) : ll_P L xs 203 69 = some (.inl (lo_push 70 (.int 1))) := (P_203 L xs 69).trans rfl
theorem p_203_70 (L : Nat) (xs : Nat → Int32) : ll_P L xs 203 70 = some (.inr (.inr 2)) := (P_203 L xs 70).trans rfl
theorem p_203_71 (L : Nat) (xs : Nat → Int32) : ll_P L xs 203 71 = some (.inl (lo_iinc 74 4 1)) := (P_203 L xs 71).trans rfl
theorem p_203_74 (L : Nat) (xs : Nat → Int32) : ll_P L xs 203 74 = some (.inl (lo_goto 3)) := (P_203 L xs 74).trans rfl
theorem p_203_77 (L : Nat) (xs : Nat → Int32) : ll_P L xs 203 77 = some (.inl (lo_push 78 (.int 0))) := (P_203 L xs 77).trans rfl
theorem p_203_78 (L : Nat) (xs : Nat → Int32) : ll_P L xs 203 78 = some (.inr (.inr 2)) := (P_203 L xs 78).trans rfl
theorem b_203_0 {Y : sY} {d : Nat} {s : sT} {K : Option Int32 → sT → Prop} {r0 : Nat} {x1 : Int32} {x2 : Int32} {x3 : Int32} (h : tT Y d 203 3 [.ref r0, .int x1, .int x2, .int x3, .int (0 : Int32), .null] [] s K) : tT Y d 203 0 [.ref r0, .int x1, .int x2, .int x3, .null, .null] [] s K :=
  (tt_push (p_203_0 _ _)).mpr ((tt_istore (p_203_1 _ _) (Nat.le_of_ble_eq_true rfl) rfl rfl).mpr (h))
theorem b_203_3 {Y : sY} {d : Nat} {s : sT} {K : Option Int32 → sT → Prop} {r0 : Nat} {x1 : Int32} {x2 : Int32} {x3 : Int32} {x4 : Int32} {u5 : Value} (h : (∃ a1, (isO Y r0 11 ∧ s.2 r0 0 = some a1) ∧ (∃ m3, (isA Y a1 0 m3 ∧ inR ((1087 : Int32) + x1) m3) ∧ (if (s.1 a1 (((1087 : Int32) + x1)).toNatClampNeg) ≤ x4 then K (some (0 : Int32)) s else (∃ a6, (isO Y r0 11 ∧ s.2 r0 0 = some a6) ∧ (∃ m8, (isA Y a6 0 m8 ∧ inR (((1387 : Int32) + ((30 : Int32) * x1)) + x4) m8) ∧ (∃ a10, (isO Y r0 11 ∧ s.2 r0 0 = some a10) ∧ (∃ m12, (isA Y a10 0 m12 ∧ inR ((187 : Int32) + (s.1 a6 ((((1387 : Int32) + ((30 : Int32) * x1)) + x4)).toNatClampNeg)) m12) ∧ (if ¬ (s.1 a10 (((187 : Int32) + (s.1 a6 ((((1387 : Int32) + ((30 : Int32) * x1)) + x4)).toNatClampNeg))).toNatClampNeg) = x2 then tT Y d 203 71 [.ref r0, .int x1, .int x2, .int x3, .int x4, .int (s.1 a6 ((((1387 : Int32) + ((30 : Int32) * x1)) + x4)).toNatClampNeg)] [] s K else (∃ a15, (isO Y r0 11 ∧ s.2 r0 0 = some a15) ∧ (∃ m17, (isA Y a15 0 m17 ∧ inR ((487 : Int32) + (s.1 a6 ((((1387 : Int32) + ((30 : Int32) * x1)) + x4)).toNatClampNeg)) m17) ∧ (if ¬ ((s.1 a15 (((487 : Int32) + (s.1 a6 ((((1387 : Int32) + ((30 : Int32) * x1)) + x4)).toNatClampNeg))).toNatClampNeg) &&& (x3 ^^^ (-1 : Int32))) = 0 then tT Y d 203 71 [.ref r0, .int x1, .int x2, .int x3, .int x4, .int (s.1 a6 ((((1387 : Int32) + ((30 : Int32) * x1)) + x4)).toNatClampNeg)] [] s K else K (some (1 : Int32)) s)))))))))))) : tT Y d 203 3 [.ref r0, .int x1, .int x2, .int x3, .int x4, u5] [] s K :=
  (tt_iload (p_203_3 _ _) rfl).mpr ((tt_aload (p_203_5 _ _) rfl).mpr (Exists.elim h (fun a1 h2 => t3_getr (p_203_6 _ _) (isI_11_0) h2.1.1 h2.1.2 ((tt_push (p_203_9 _ _)).mpr ((tt_iload (p_203_12 _ _) rfl).mpr ((tt_bin (p_203_13 _ _)).mpr (Exists.elim h2.2 (fun m3 h4 => t3_ald (p_203_14 _ _) h4.1.1 h4.1.2 (t3_cmp (p := (s.1 a1 (((1087 : Int32) + x1)).toNatClampNeg) ≤ x4) (p_203_15 _ _) rfl (fun g5 => (tt_push (p_203_77 _ _)).mpr (tt_ret2 (p_203_78 _ _) (Or.inl rfl) (ifp h4.2 g5))) (fun g5 => (tt_aload (p_203_18 _ _) rfl).mpr (Exists.elim (ifn h4.2 g5) (fun a6 h7 => t3_getr (p_203_19 _ _) (isI_11_0) h7.1.1 h7.1.2 ((tt_push (p_203_22 _ _)).mpr ((tt_push (p_203_25 _ _)).mpr ((tt_iload (p_203_27 _ _) rfl).mpr ((tt_bin (p_203_28 _ _)).mpr ((tt_bin (p_203_29 _ _)).mpr ((tt_iload (p_203_30 _ _) rfl).mpr ((tt_bin (p_203_32 _ _)).mpr (Exists.elim h7.2 (fun m8 h9 => t3_ald (p_203_33 _ _) h9.1.1 h9.1.2 ((tt_istore (p_203_34 _ _) (Nat.le_of_ble_eq_true rfl) rfl rfl).mpr ((tt_aload (p_203_36 _ _) rfl).mpr (Exists.elim h9.2 (fun a10 h11 => t3_getr (p_203_37 _ _) (isI_11_0) h11.1.1 h11.1.2 ((tt_push (p_203_40 _ _)).mpr ((tt_iload (p_203_43 _ _) rfl).mpr ((tt_bin (p_203_45 _ _)).mpr (Exists.elim h11.2 (fun m12 h13 => t3_ald (p_203_46 _ _) h13.1.1 h13.1.2 ((tt_iload (p_203_47 _ _) rfl).mpr (t3_cmp (p := ¬ (s.1 a10 (((187 : Int32) + (s.1 a6 ((((1387 : Int32) + ((30 : Int32) * x1)) + x4)).toNatClampNeg))).toNatClampNeg) = x2) (p_203_48 _ _) rfl (fun g14 => (ifp h13.2 g14)) (fun g14 => (tt_aload (p_203_51 _ _) rfl).mpr (Exists.elim (ifn h13.2 g14) (fun a15 h16 => t3_getr (p_203_52 _ _) (isI_11_0) h16.1.1 h16.1.2 ((tt_push (p_203_55 _ _)).mpr ((tt_iload (p_203_58 _ _) rfl).mpr ((tt_bin (p_203_60 _ _)).mpr (Exists.elim h16.2 (fun m17 h18 => t3_ald (p_203_61 _ _) h18.1.1 h18.1.2 ((tt_iload (p_203_62 _ _) rfl).mpr ((tt_push (p_203_63 _ _)).mpr ((tt_bin (p_203_64 _ _)).mpr ((tt_bin (p_203_65 _ _)).mpr (t3_if (p := ¬ ((s.1 a15 (((487 : Int32) + (s.1 a6 ((((1387 : Int32) + ((30 : Int32) * x1)) + x4)).toNatClampNeg))).toNatClampNeg) &&& (x3 ^^^ (-1 : Int32))) = 0) (p_203_66 _ _) rfl (fun g19 => (ifp h18.2 g19)) (fun g19 => (tt_push (p_203_69 _ _)).mpr (tt_ret2 (p_203_70 _ _) (Or.inr rfl) (ifn h18.2 g19))))))))))))))))))))))))))))))))))))))))))))))))
theorem b_203_71 {Y : sY} {d : Nat} {s : sT} {K : Option Int32 → sT → Prop} {r0 : Nat} {x1 : Int32} {x2 : Int32} {x3 : Int32} {x4 : Int32} {x5 : Int32} (h : tT Y d 203 3 [.ref r0, .int x1, .int x2, .int x3, .int (x4 + 1), .int x5] [] s K) : tT Y d 203 71 [.ref r0, .int x1, .int x2, .int x3, .int x4, .int x5] [] s K :=
  (tt_iinc (p_203_71 _ _) rfl rfl rfl).mpr ((tt_goto (p_203_74 _ _)).mpr (h))
/-! InclusionProverModel.reason.(I)I -/
theorem p_204_0 (L : Nat) (xs : Nat → Int32) : ll_P L xs 204 0 = some (.inl (lo_aload 1 0)) := (P_204 L xs 0).trans rfl
theorem p_204_1 (L : Nat) (xs : Nat → Int32) : ll_P L xs 204 1 = some (.inl (lo_getf 4 11 0)) := (P_204 L xs 1).trans rfl
theorem p_204_4 (L : Nat) (xs : Nat → Int32) : ll_P L xs 204 4 = some (.inl (lo_push 7 (.int 187))) := (P_204 L xs 4).trans rfl
theorem p_204_7 (L : Nat) (xs : Nat → Int32) : ll_P L xs 204 7 = some (.inl (lo_iload 8 1)) := (P_204 L xs 7).trans rfl
theorem p_204_8 (L : Nat) (xs : Nat → Int32) : ll_P L xs 204 8 = some (.inl (lo_bin 9 (fun x y => x + y))) := (P_204 L xs 8).trans rfl
theorem p_204_9 (L : Nat) (xs : Nat → Int32) : ll_P L xs 204 9 = some (.inl (lo_ald 10 0)) := (P_204 L xs 9).trans rfl
theorem p_204_10 (L : Nat) (xs : Nat → Int32) : ll_P L xs 204 10 = some (.inl (lo_istore 11 2)) := (P_204 L xs 10).trans rfl
theorem p_204_11 (L : Nat) (xs : Nat → Int32) : ll_P L xs 204 11 = some (.inl (lo_aload 12 0)) := (P_204 L xs 11).trans rfl
theorem p_204_12 (L : Nat) (xs : Nat → Int32) : ll_P L xs 204 12 = some (.inl (lo_getf 15 11 0)) := (P_204 L xs 12).trans rfl
theorem p_204_15 (L : Nat) (xs : Nat → Int32) : ll_P L xs 204 15 = some (.inl (lo_push 18 (.int 487))) := (P_204 L xs 15).trans rfl
theorem p_204_18 (L : Nat) (xs : Nat → Int32) : ll_P L xs 204 18 = some (.inl (lo_iload 19 1)) := (P_204 L xs 18).trans rfl
theorem p_204_19 (L : Nat) (xs : Nat → Int32) : ll_P L xs 204 19 = some (.inl (lo_bin 20 (fun x y => x + y))) := (P_204 L xs 19).trans rfl
theorem p_204_20 (L : Nat) (xs : Nat → Int32) : ll_P L xs 204 20 = some (.inl (lo_ald 21 0)) := (P_204 L xs 20).trans rfl
theorem p_204_21 (L : Nat) (xs : Nat → Int32) : ll_P L xs 204 21 = some (.inl (lo_istore 22 3)) := (P_204 L xs 21).trans rfl
theorem p_204_22 (L : Nat) (xs : Nat → Int32) : ll_P L xs 204 22 = some (.inl (lo_aload 23 0)) := (P_204 L xs 22).trans rfl
theorem p_204_23 (L : Nat) (xs : Nat → Int32) : ll_P L xs 204 23 = some (.inl (lo_getf 26 11 0)) := (P_204 L xs 23).trans rfl
theorem p_204_26 (L : Nat) (xs : Nat → Int32) : ll_P L xs 204 26 = some (.inl (lo_push 29 (.int 787))) := (P_204 L xs 26).trans rfl
theorem p_204_29 (L : Nat) (xs : Nat → Int32) : ll_P L xs 204 29 = some (.inl (lo_iload 30 1)) := (P_204 L xs 29).trans rfl
theorem p_204_30 (L : Nat) (xs : Nat → Int32) : ll_P L xs 204 30 = some (.inl (lo_bin 31 (fun x y => x + y))) := (P_204 L xs 30).trans rfl
theorem p_204_31 (L : Nat) (xs : Nat → Int32) : ll_P L xs 204 31 = some (.inl (lo_ald 32 0)) := (P_204 L xs 31).trans rfl
theorem p_204_32 (L : Nat) (xs : Nat → Int32) : ll_P L xs 204 32 = some (.inl (lo_istore 34 4)) := (P_204 L xs 32).trans rfl
theorem p_204_34 (L : Nat) (xs : Nat → Int32) : ll_P L xs 204 34 = some (.inl (lo_aload 35 0)) := (P_204 L xs 34).trans rfl
theorem p_204_35 (L : Nat) (xs : Nat → Int32) : ll_P L xs 204 35 = some (.inl (lo_push 36 (.int (-1)))) := (P_204 L xs 35).trans rfl
theorem p_204_36 (L : Nat) (xs : Nat → Int32) : ll_P L xs 204 36 = some (.inl (lo_putf 39 11 42 0)) := (P_204 L xs 36).trans rfl
theorem p_204_39 (L : Nat) (xs : Nat → Int32) : ll_P L xs 204 39 = some (.inl (lo_aload 40 0)) := (P_204 L xs 39).trans rfl
theorem p_204_40 (L : Nat) (xs : Nat → Int32) : ll_P L xs 204 40 = some (.inl (lo_push 41 (.int (-1)))) := (P_204 L xs 40).trans rfl
theorem p_204_41 (L : Nat) (xs : Nat → Int32) : ll_P L xs 204 41 = some (.inl (lo_putf 44 11 43 0)) := (P_204 L xs 41).trans rfl
theorem p_204_44 (L : Nat) (xs : Nat → Int32) : ll_P L xs 204 44 = some (.inl (lo_iload 45 2)) := (P_204 L xs 44).trans rfl
theorem p_204_45 (L : Nat) (xs : Nat → Int32) : ll_P L xs 204 45 = some (.inl (lo_push 46 (.int 0))) := (P_204 L xs 45).trans rfl
theorem p_204_46 (L : Nat) (xs : Nat → Int32) : ll_P L xs 204 46 = some (.inl (lo_aload 47 0)) := (P_204 L xs 46).trans rfl
theorem p_204_47 (L : Nat) (xs : Nat → Int32) : ll_P L xs 204 47 = some (.inl (lo_getf 50 11 35)) := (P_204 L xs 47).trans rfl
theorem p_204_50 (L : Nat) (xs : Nat → Int32) : ll_P L xs 204 50 = some (.inl (lo_push 51 (.int 0))) := (P_204 L xs 50).trans rfl
theorem p_204_51 (L : Nat) (xs : Nat → Int32) : ll_P L xs 204 51 = some (.inl (lo_ald 52 0)) := (P_204 L xs 51).trans rfl
theorem p_204_52 (L : Nat) (xs : Nat → Int32) : ll_P L xs 204 52 = some (.inl (lo_push 53 (.int 1))) := (P_204 L xs 52).trans rfl
theorem p_204_53 (L : Nat) (xs : Nat → Int32) : ll_P L xs 204 53 = some (.inl (lo_bin 54 (fun x y => x - y))) := (P_204 L xs 53).trans rfl
theorem p_204_54 (L : Nat) (xs : Nat → Int32) : ll_P L xs 204 54 = some (.inr (.inl (151, 3, 57))) := (P_204 L xs 54).trans rfl
theorem p_204_57 (L : Nat) (xs : Nat → Int32) : ll_P L xs 204 57 = some (.inl (lo_if 92 60 (fun x => decide (x = 0)))) := (P_204 L xs 57).trans rfl
theorem p_204_60 (L : Nat) (xs : Nat → Int32) : ll_P L xs 204 60 = some (.inl (lo_iload 61 3)) := (P_204 L xs 60).trans rfl
theorem p_204_61 (L : Nat) (xs : Nat → Int32) : ll_P L xs 204 61 = some (.inl (lo_if 92 64 (fun x => decide (x < 0)))) := (P_204 L xs 61).trans rfl
theorem p_204_64 (L : Nat) (xs : Nat → Int32) : ll_P L xs 204 64 = some (.inl (lo_iload 65 3)) := (P_204 L xs 64).trans rfl
theorem p_204_65 (L : Nat) (xs : Nat → Int32) : ll_P L xs 204 65 = some (.inl (lo_push 66 (.int (-1)))) := (P_204 L xs 65).trans rfl
theorem p_204_66 (L : Nat) (xs : Nat → Int32) : ll_P L xs 204 66 = some (.inl (lo_push 68 (.int 32))) := (P_204 L xs 66).trans rfl
theorem p_204_68 (L : Nat) (xs : Nat → Int32) : ll_P L xs 204 68 = some (.inl (lo_aload 69 0)) := (P_204 L xs 68).trans rfl
theorem p_204_69 (L : Nat) (xs : Nat → Int32) : ll_P L xs 204 69 = some (.inl (lo_getf 72 11 35)) := (P_204 L xs 69).trans rfl
theorem p_204_72 (L : Nat) (xs : Nat → Int32) : ll_P L xs 204 72 = some (.inl (lo_push 73 (.int 1))) := (P_204 L xs 72).trans rfl
theorem p_204_73 (L : Nat) (xs : Nat → Int32) : ll_P L xs 204 73 = some (.inl (lo_ald 74 0)) := (P_204 L xs 73).trans rfl
theorem p_204_74 (L : Nat) (xs : Nat → Int32) : ll_P L xs 204 74 = some (.inl (lo_bin 75 (fun x y => x - y))) := (P_204 L xs 74).trans rfl
theorem p_204_75 (L : Nat) (xs : Nat → Int32) : ll_P L xs 204 75 = some (.inl (lo_bin 76 (fun x y => (x.toUInt32 >>> (y.toUInt32 &&& Int32.toUInt32 31)).toInt32))) := (P_204 L xs 75).trans rfl
theorem p_204_76 (L : Nat) (xs : Nat → Int32) : ll_P L xs 204 76 = some (.inl (lo_push 77 (.int (-1)))) := (P_204 L xs 76).trans rfl
theorem p_204_77 (L : Nat) (xs : Nat → Int32) : ll_P L xs 204 77 = some (.inl (lo_bin 78 (fun x y => x ^^^ y))) := (P_204 L xs 77).trans rfl
theorem p_204_78 (L : Nat) (xs : Nat → Int32) : ll_P L xs 204 78 = some (.inl (lo_bin 79 (fun x y => x &&& y))) := (P_204 L xs 78).trans rfl
theorem p_204_79 (L : Nat) (xs : Nat → Int32) : ll_P L xs 204 79 = some (.inl (lo_if 92 82 (fun x => decide (¬ x = 0)))) := (P_204 L xs 79).trans rfl
theorem p_204_82 (L : Nat) (xs : Nat → Int32) : ll_P L xs 204 82 = some (.inl (lo_iload 84 4)) := (P_204 L xs 82).trans rfl
theorem p_204_84 (L : Nat) (xs : Nat → Int32) : ll_P L xs 204 84 = some (.inl (lo_push 85 (.int 0))) := (P_204 L xs 84).trans rfl
theorem p_204_85 (L : Nat) (xs : Nat → Int32) : ll_P L xs 204 85 = some (.inl (lo_push 86 (.int 1))) := (P_204 L xs 85).trans rfl
theorem p_204_86 (L : Nat) (xs : Nat → Int32) : ll_P L xs 204 86 = some (.inr (.inl (151, 3, 89))) := (P_204 L xs 86).trans rfl
theorem p_204_89 (L : Nat) (xs : Nat → Int32) : ll_P L xs 204 89 = some (.inl (lo_if 94 92 (fun x => decide (¬ x = 0)))) := (P_204 L xs 89).trans rfl
theorem p_204_92 (L : Nat) (xs : Nat → Int32) : ll_P L xs 204 92 = some (.inl (lo_push 93 (.int 1))) := (P_204 L xs 92).trans rfl
theorem p_204_93 (L : Nat) (xs : Nat → Int32) : ll_P L xs 204 93 = some (.inr (.inr 1)) := (P_204 L xs 93).trans rfl
theorem p_204_94 (L : Nat) (xs : Nat → Int32) : ll_P L xs 204 94 = some (.inl (lo_iload 96 4)) := (P_204 L xs 94).trans rfl
theorem p_204_96 (L : Nat) (xs : Nat → Int32) : ll_P L xs 204 96 = some (.inl (lo_if 114 99 (fun x => decide (¬ x = 0)))) := (P_204 L xs 96).trans rfl
theorem p_204_99 (L : Nat) (xs : Nat → Int32) : ll_P L xs 204 99 = some (.inl (lo_aload 100 0)) := (P_204 L xs 99).trans rfl
theorem p_204_100 (L : Nat) (xs : Nat → Int32) : ll_P L xs 204 100 = some (.inl (lo_iload 101 2)) := (P_204 L xs 100).trans rfl
theorem p_204_101 (L : Nat) (xs : Nat → Int32) : ll_P L xs 204 101 = some (.inl (lo_iload 102 3)) := (P_204 L xs 101).trans rfl
theorem p_204_102 (L : Nat) (xs : Nat → Int32) : ll_P L xs 204 102 = some (.inr (.inl (184, 3, 105))) := (P_204 L xs 102).trans rfl
theorem p_204_105 (L : Nat) (xs : Nat → Int32) : ll_P L xs 204 105 = some (.inl (lo_if 112 108 (fun x => decide (x = 0)))) := (P_204 L xs 105).trans rfl
theorem p_204_108 (L : Nat) (xs : Nat → Int32) : ll_P L xs 204 108 = some (.inl (lo_push 109 (.int 0))) := (P_204 L xs 108).trans rfl
theorem p_204_109 (L : Nat) (xs : Nat → Int32) : ll_P L xs 204 109 = some (.inl (lo_goto 113)) := (P_204 L xs 109).trans rfl
theorem p_204_112 (L : Nat) (xs : Nat → Int32) : ll_P L xs 204 112 = some (.inl (lo_push 113 (.int 2))) := (P_204 L xs 112).trans rfl
theorem p_204_113 (L : Nat) (xs : Nat → Int32) : ll_P L xs 204 113 = some (.inr (.inr 1)) := (P_204 L xs 113).trans rfl
theorem p_204_114 (L : Nat) (xs : Nat → Int32) : ll_P L xs 204 114 = some (.inl (lo_aload 115 0)) := (P_204 L xs 114).trans rfl
theorem p_204_115 (L : Nat) (xs : Nat → Int32) : ll_P L xs 204 115 = some (.inl (lo_push 116 (.int 0))) := (P_204 L xs 115).trans rfl
theorem p_204_116 (L : Nat) (xs : Nat → Int32) : ll_P L xs 204 116 = some (.inl (lo_iload 117 2)) := (P_204 L xs 116).trans rfl
theorem p_204_117 (L : Nat) (xs : Nat → Int32) : ll_P L xs 204 117 = some (.inr (.inl (181, 3, 120))) := (P_204 L xs 117).trans rfl
theorem p_204_120 (L : Nat) (xs : Nat → Int32) : ll_P L xs 204 120 = some (.inl (lo_if 134 123 (fun x => decide (x = 0)))) := (P_204 L xs 120).trans rfl
theorem p_204_123 (L : Nat) (xs : Nat → Int32) : ll_P L xs 204 123 = some (.inl (lo_aload 124 0)) := (P_204 L xs 123).trans rfl
theorem p_204_124 (L : Nat) (xs : Nat → Int32) : ll_P L xs 204 124 = some (.inl (lo_push 125 (.int 1))) := (P_204 L xs 124).trans rfl
theorem p_204_125 (L : Nat) (xs : Nat → Int32) : ll_P L xs 204 125 = some (.inl (lo_iload 126 3)) := (P_204 L xs 125).trans rfl
theorem p_204_126 (L : Nat) (xs : Nat → Int32) : ll_P L xs 204 126 = some (.inr (.inl (182, 3, 129))) := (P_204 L xs 126).trans rfl
theorem p_204_129 (L : Nat) (xs : Nat → Int32) : ll_P L xs 204 129 = some (.inl (lo_if 134 132 (fun x => decide (¬ x = 0)))) := (P_204 L xs 129).trans rfl
theorem p_204_132 (L : Nat) (xs : Nat → Int32) : ll_P L xs 204 132 = some (.inl (lo_push 133 (.int 3))) := (P_204 L xs 132).trans rfl
theorem p_204_133 (L : Nat) (xs : Nat → Int32) : ll_P L xs 204 133 = some (.inr (.inr 1)) := (P_204 L xs 133).trans rfl
theorem p_204_134 (L : Nat) (xs : Nat → Int32) : ll_P L xs 204 134 = some (.inl (lo_push 135 (.int 0))) := (P_204 L xs 134).trans rfl
theorem p_204_135 (L : Nat) (xs : Nat → Int32) : ll_P L xs 204 135 = some (.inl (lo_istore 137 5)) := (P_204 L xs 135).trans rfl
theorem p_204_137 (L : Nat) (xs : Nat → Int32) : ll_P L xs 204 137 = some (.inl (lo_iload 139 5)) := (P_204 L xs 137).trans rfl
theorem p_204_139 (L : Nat) (xs : Nat → Int32) : ll_P L xs 204 139 = some (.inl (lo_aload 140 0)) := (P_204 L xs 139).trans rfl
theorem p_204_140 (L : Nat) (xs : Nat → Int32) : ll_P L xs 204 140 = some (.inl (lo_getf 143 11 0)) := (P_204 L xs 140).trans rfl
theorem p_204_143 (L : Nat) (xs : Nat → Int32) : ll_P L xs 204 143 = some (.inl (lo_push 146 (.int 1087))) := (P_204 L xs 143).trans rfl
theorem p_204_146 (L : Nat) (xs : Nat → Int32) : ll_P L xs 204 146 = some (.inl (lo_iload 147 1)) := (P_204 L xs 146).trans rfl
theorem p_204_147 (L : Nat) (xs : Nat → Int32) : ll_P L xs 204 147 = some (.inl (lo_bin 148 (fun x y => x + y))) := (P_204 L xs 147).trans rfl
theorem p_204_148 (L : Nat) (xs : Nat → Int32) : ll_P L xs 204 148 = some (.inl (lo_ald 149 0)) := (P_204 L xs 148).trans rfl
theorem p_204_149 (L : Nat) (xs : Nat → Int32) : ll_P L xs 204 149 = some (.inl (lo_cmp 202 152 (fun x y => decide (y ≤ x)))) := (P_204 L xs 149).trans rfl
theorem p_204_152 (L : Nat) (xs : Nat → Int32) : ll_P L xs 204 152 = some (.inl (lo_aload 153 0)) := (P_204 L xs 152).trans rfl
theorem p_204_153 (L : Nat) (xs : Nat → Int32) : ll_P L xs 204 153 = some (.inl (lo_getf 156 11 0)) := (P_204 L xs 153).trans rfl
theorem p_204_156 (L : Nat) (xs : Nat → Int32) : ll_P L xs 204 156 = some (.inl (lo_push 159 (.int 1387))) := (P_204 L xs 156).trans rfl
theorem p_204_159 (L : Nat) (xs : Nat → Int32) : ll_P L xs 204 159 = some (.inl (lo_push 161 (.int 30))) := (P_204 L xs 159).trans rfl
theorem p_204_161 (L : Nat) (xs : Nat → Int32) : ll_P L xs 204 161 = some (.inl (lo_iload 162 1)) := (P_204 L xs 161).trans rfl
theorem p_204_162 (L : Nat) (xs : Nat → Int32) : ll_P L xs 204 162 = some (.inl (lo_bin 163 (fun x y => x * y))) := (P_204 L xs 162).trans rfl
theorem p_204_163 (L : Nat) (xs : Nat → Int32) : ll_P L xs 204 163 = some (.inl (lo_bin 164 (fun x y => x + y))) := (P_204 L xs 163).trans rfl
theorem p_204_164 (L : Nat) (xs : Nat → Int32) : ll_P L xs 204 164 = some (.inl (lo_iload 166 5)) := (P_204 L xs 164).trans rfl
theorem p_204_166 (L : Nat) (xs : Nat → Int32) : ll_P L xs 204 166 = some (.inl (lo_bin 167 (fun x y => x + y))) := (P_204 L xs 166).trans rfl
theorem p_204_167 (L : Nat) (xs : Nat → Int32) : ll_P L xs 204 167 = some (.inl (lo_ald 168 0)) := (P_204 L xs 167).trans rfl
theorem p_204_168 (L : Nat) (xs : Nat → Int32) : ll_P L xs 204 168 = some (.inl (lo_push 169 (.int 0))) := (P_204 L xs 168).trans rfl
theorem p_204_169 (L : Nat) (xs : Nat → Int32) : ll_P L xs 204 169 = some (.inl (lo_aload 170 0)) := (P_204 L xs 169).trans rfl
theorem p_204_170 (L : Nat) (xs : Nat → Int32) : ll_P L xs 204 170 = some (.inl (lo_getf 173 11 0)) := (P_204 L xs 170).trans rfl
theorem p_204_173 (L : Nat) (xs : Nat → Int32) : ll_P L xs 204 173 = some (.inl (lo_push 176 (.int 186))) := (P_204 L xs 173).trans rfl
theorem p_204_176 (L : Nat) (xs : Nat → Int32) : ll_P L xs 204 176 = some (.inl (lo_ald 177 0)) := (P_204 L xs 176).trans rfl
theorem p_204_177 (L : Nat) (xs : Nat → Int32) : ll_P L xs 204 177 = some (.inl (lo_push 178 (.int 1))) := (P_204 L xs 177).trans rfl
theorem p_204_178 (L : Nat) (xs : Nat → Int32) : ll_P L xs 204 178 = some (.inl (lo_bin 179 (fun x y => x - y))) := (P_204 L xs 178).trans rfl
theorem p_204_179 (L : Nat) (xs : Nat → Int32) : ll_P L xs 204 179 = some (.inr (.inl (151, 3, 182))) := (P_204 L xs 179).trans rfl
theorem p_204_182 (L : Nat) (xs : Nat → Int32) : ll_P L xs 204 182 = some (.inl (lo_if 188 185 (fun x => decide (x = 0)))) := (P_204 L xs 182).trans rfl
theorem p_204_185 (L : Nat) (xs : Nat → Int32) : ll_P L xs 204 185 = some (.inl (lo_goto 196)) := (P_204 L xs 185).trans rfl
theorem p_204_188 (L : Nat) (xs : Nat → Int32) : ll_P L xs 204 188 = some (.inl (lo_aload 189 0)) := (P_204 L xs 188).trans rfl
theorem p_204_189 (L : Nat) (xs : Nat → Int32) : ll_P L xs 204 189 = some (.inl (lo_iload 191 5)) := (P_204 L xs 189).trans rfl
theorem p_204_191 (L : Nat) (xs : Nat → Int32) : ll_P L xs 204 191 = some (.inl (lo_putf 194 11 43 0)) := (P_204 L xs 191).trans rfl
theorem p_204_194 (L : Nat) (xs : Nat → Int32) : ll_P L xs 204 194 = some (.inl (lo_push 195 (.int 4))) := (P_204 L xs 194).trans rfl
theorem p_204_195 (L : Nat) (xs : Nat → Int32) : ll_P L xs 204 195 = some (.inr (.inr 1)) := (P_204 L xs 195).trans rfl
theorem p_204_196 (L : Nat) (xs : Nat → Int32) : ll_P L xs 204 196 = some (.inl (lo_iinc 199 5 1)) := (P_204 L xs 196).trans rfl
theorem p_204_199 (L : Nat) (xs : Nat → Int32) : ll_P L xs 204 199 = some (.inl (lo_goto 137)) := (P_204 L xs 199).trans rfl
theorem p_204_202 (L : Nat) (xs : Nat → Int32) : ll_P L xs 204 202 = some (.inl (lo_push 203 (.int 0))) := (P_204 L xs 202).trans rfl
theorem p_204_203 (L : Nat) (xs : Nat → Int32) : ll_P L xs 204 203 = some (.inl (lo_istore 205 5)) := (P_204 L xs 203).trans rfl
theorem p_204_205 (L : Nat) (xs : Nat → Int32) : ll_P L xs 204 205 = some (.inl (lo_iload 207 5)) := (P_204 L xs 205).trans rfl
theorem p_204_207 (L : Nat) (xs : Nat → Int32) : ll_P L xs 204 207 = some (.inl (lo_push 208 (.int 3))) := (P_204 L xs 207).trans rfl
theorem p_204_208 (L : Nat) (xs : Nat → Int32) : ll_P L xs 204 208 = some (.inl (lo_cmp 302 211 (fun x y => decide (y ≤ x)))) := (P_204 L xs 208).trans rfl
theorem p_204_211 (L : Nat) (xs : Nat → Int32) : ll_P L xs 204 211 = some (.inl (lo_aload 212 0)) := (P_204 L xs 211).trans rfl
theorem p_204_212 (L : Nat) (xs : Nat → Int32) : ll_P L xs 204 212 = some (.inl (lo_push 213 (.int 1))) := (P_204 L xs 212).trans rfl
theorem p_204_213 (L : Nat) (xs : Nat → Int32) : ll_P L xs 204 213 = some (.inl (lo_iload 214 3)) := (P_204 L xs 213).trans rfl
theorem p_204_214 (L : Nat) (xs : Nat → Int32) : ll_P L xs 204 214 = some (.inl (lo_iload 216 5)) := (P_204 L xs 214).trans rfl
theorem p_204_216 (L : Nat) (xs : Nat → Int32) : ll_P L xs 204 216 = some (.inr (.inl (183, 4, 219))) := (P_204 L xs 216).trans rfl
theorem p_204_219 (L : Nat) (xs : Nat → Int32) : ll_P L xs 204 219 = some (.inl (lo_istore 221 6)) := (P_204 L xs 219).trans rfl
theorem p_204_221 (L : Nat) (xs : Nat → Int32) : ll_P L xs 204 221 = some (.inl (lo_push 222 (.int 0))) := (P_204 L xs 221).trans rfl
theorem p_204_222 (L : Nat) (xs : Nat → Int32) : ll_P L xs 204 222 = some (.inl (lo_istore 224 7)) := (P_204 L xs 222).trans rfl
theorem p_204_224 (L : Nat) (xs : Nat → Int32) : ll_P L xs 204 224 = some (.inl (lo_iload 226 7)) := (P_204 L xs 224).trans rfl
theorem p_204_226 (L : Nat) (xs : Nat → Int32) : ll_P L xs 204 226 = some (.inl (lo_aload 227 0)) := (P_204 L xs 226).trans rfl
theorem p_204_227 (L : Nat) (xs : Nat → Int32) : ll_P L xs 204 227 = some (.inl (lo_getf 230 11 38)) := (P_204 L xs 227).trans rfl
theorem p_204_230 (L : Nat) (xs : Nat → Int32) : ll_P L xs 204 230 = some (.inl (lo_push 231 (.int 3))) := (P_204 L xs 230).trans rfl
theorem p_204_231 (L : Nat) (xs : Nat → Int32) : ll_P L xs 204 231 = some (.inl (lo_iload 232 2)) := (P_204 L xs 231).trans rfl
theorem p_204_232 (L : Nat) (xs : Nat → Int32) : ll_P L xs 204 232 = some (.inl (lo_bin 233 (fun x y => x * y))) := (P_204 L xs 232).trans rfl
theorem p_204_233 (L : Nat) (xs : Nat → Int32) : ll_P L xs 204 233 = some (.inl (lo_iload 235 5)) := (P_204 L xs 233).trans rfl
theorem p_204_235 (L : Nat) (xs : Nat → Int32) : ll_P L xs 204 235 = some (.inl (lo_bin 236 (fun x y => x + y))) := (P_204 L xs 235).trans rfl
theorem p_204_236 (L : Nat) (xs : Nat → Int32) : ll_P L xs 204 236 = some (.inl (lo_ald 237 0)) := (P_204 L xs 236).trans rfl
theorem p_204_237 (L : Nat) (xs : Nat → Int32) : ll_P L xs 204 237 = some (.inl (lo_cmp 296 240 (fun x y => decide (y ≤ x)))) := (P_204 L xs 237).trans rfl
theorem p_204_240 (L : Nat) (xs : Nat → Int32) : ll_P L xs 204 240 = some (.inl (lo_aload 241 0)) := (P_204 L xs 240).trans rfl
theorem p_204_241 (L : Nat) (xs : Nat → Int32) : ll_P L xs 204 241 = some (.inl (lo_getf 244 11 37)) := (P_204 L xs 241).trans rfl
theorem p_204_244 (L : Nat) (xs : Nat → Int32) : ll_P L xs 204 244 = some (.inl (lo_push 246 (.int 31))) := (P_204 L xs 244).trans rfl
theorem p_204_246 (L : Nat) (xs : Nat → Int32) : ll_P L xs 204 246 = some (.inl (lo_push 247 (.int 3))) := (P_204 L xs 246).trans rfl
theorem p_204_247 (L : Nat) (xs : Nat → Int32) : ll_P L xs 204 247 = some (.inl (lo_iload 248 2)) := (P_204 L xs 247).trans rfl
theorem p_204_248 (L : Nat) (xs : Nat → Int32) : ll_P L xs 204 248 = some (.inl (lo_bin 249 (fun x y => x * y))) := (P_204 L xs 248).trans rfl
theorem p_204_249 (L : Nat) (xs : Nat → Int32) : ll_P L xs 204 249 = some (.inl (lo_iload 251 5)) := (P_204 L xs 249).trans rfl
theorem p_204_251 (L : Nat) (xs : Nat → Int32) : ll_P L xs 204 251 = some (.inl (lo_bin 252 (fun x y => x + y))) := (P_204 L xs 251).trans rfl
theorem p_204_252 (L : Nat) (xs : Nat → Int32) : ll_P L xs 204 252 = some (.inl (lo_bin 253 (fun x y => x * y))) := (P_204 L xs 252).trans rfl
theorem p_204_253 (L : Nat) (xs : Nat → Int32) : ll_P L xs 204 253 = some (.inl (lo_iload 255 7)) := (P_204 L xs 253).trans rfl
theorem p_204_255 (L : Nat) (xs : Nat → Int32) : ll_P L xs 204 255 = some (.inl (lo_bin 256 (fun x y => x + y))) := (P_204 L xs 255).trans rfl
theorem p_204_256 (L : Nat) (xs : Nat → Int32) : ll_P L xs 204 256 = some (.inl (lo_ald 257 0)) := (P_204 L xs 256).trans rfl
theorem p_204_257 (L : Nat) (xs : Nat → Int32) : ll_P L xs 204 257 = some (.inl (lo_istore 259 8)) := (P_204 L xs 257).trans rfl
theorem p_204_259 (L : Nat) (xs : Nat → Int32) : ll_P L xs 204 259 = some (.inl (lo_aload 260 0)) := (P_204 L xs 259).trans rfl
theorem p_204_260 (L : Nat) (xs : Nat → Int32) : ll_P L xs 204 260 = some (.inl (lo_iload 261 1)) := (P_204 L xs 260).trans rfl
theorem p_204_261 (L : Nat) (xs : Nat → Int32) : ll_P L xs 204 261 = some (.inl (lo_iload 263 8)) := (P_204 L xs 261).trans rfl
theorem p_204_263 (L : Nat) (xs : Nat → Int32) : ll_P L xs 204 263 = some (.inl (lo_iload 265 6)) := (P_204 L xs 263).trans rfl
theorem p_204_265 (L : Nat) (xs : Nat → Int32) : ll_P L xs 204 265 = some (.inr (.inl (203, 4, 268))) := (P_204 L xs 265).trans rfl
theorem p_204_268 (L : Nat) (xs : Nat → Int32) : ll_P L xs 204 268 = some (.inl (lo_if 274 271 (fun x => decide (x = 0)))) := (P_204 L xs 268).trans rfl
theorem p_204_271 (L : Nat) (xs : Nat → Int32) : ll_P L xs 204 271 = some (.inl (lo_goto 290)) := (P_204 L xs 271).trans rfl
theorem p_204_274 (L : Nat) (xs : Nat → Int32) : ll_P L xs 204 274 = some (.inl (lo_aload 275 0)) := (P_204 L xs 274).trans rfl
theorem p_204_275 (L : Nat) (xs : Nat → Int32) : ll_P L xs 204 275 = some (.inl (lo_iload 277 5)) := (P_204 L xs 275).trans rfl
theorem p_204_277 (L : Nat) (xs : Nat → Int32) : ll_P L xs 204 277 = some (.inl (lo_push 278 (.int 1))) := (P_204 L xs 277).trans rfl
theorem p_204_278 (L : Nat) (xs : Nat → Int32) : ll_P L xs 204 278 = some (.inl (lo_bin 279 (fun x y => x + y))) := (P_204 L xs 278).trans rfl
theorem p_204_279 (L : Nat) (xs : Nat → Int32) : ll_P L xs 204 279 = some (.inl (lo_putf 282 11 42 0)) := (P_204 L xs 279).trans rfl
theorem p_204_282 (L : Nat) (xs : Nat → Int32) : ll_P L xs 204 282 = some (.inl (lo_aload 283 0)) := (P_204 L xs 282).trans rfl
theorem p_204_283 (L : Nat) (xs : Nat → Int32) : ll_P L xs 204 283 = some (.inl (lo_iload 285 8)) := (P_204 L xs 283).trans rfl
theorem p_204_285 (L : Nat) (xs : Nat → Int32) : ll_P L xs 204 285 = some (.inl (lo_putf 288 11 43 0)) := (P_204 L xs 285).trans rfl
theorem p_204_288 (L : Nat) (xs : Nat → Int32) : ll_P L xs 204 288 = some (.inl (lo_push 289 (.int 5))) := (P_204 L xs 288).trans rfl
theorem p_204_289 (L : Nat) (xs : Nat → Int32) : ll_P L xs 204 289 = some (.inr (.inr 1)) := (P_204 L xs 289).trans rfl
theorem p_204_290 (L : Nat) (xs : Nat → Int32) : ll_P L xs 204 290 = some (.inl (lo_iinc 293 7 1)) := (P_204 L xs 290).trans rfl
theorem p_204_293 (L : Nat) (xs : Nat → Int32) : ll_P L xs 204 293 = some (.inl (lo_goto 224)) := (P_204 L xs 293).trans rfl
theorem p_204_296 (L : Nat) (xs : Nat → Int32) : ll_P L xs 204 296 = some (.inl (lo_iinc 299 5 1)) := (P_204 L xs 296).trans rfl
theorem p_204_299 (L : Nat) (xs : Nat → Int32) : ll_P L xs 204 299 = some (.inl (lo_goto 205)) := (P_204 L xs 299).trans rfl
theorem p_204_302 (L : Nat) (xs : Nat → Int32) : ll_P L xs 204 302 = some (.inl (lo_push 303 (.int 0))) := (P_204 L xs 302).trans rfl
theorem p_204_303 (L : Nat) (xs : Nat → Int32) : ll_P L xs 204 303 = some (.inr (.inr 1)) := (P_204 L xs 303).trans rfl
theorem b_204_0 {Y : sY} {d : Nat} {s : sT} {K : Option Int32 → sT → Prop} {r0 : Nat} {x1 : Int32} (h : (∃ a1, (isO Y r0 11 ∧ s.2 r0 0 = some a1) ∧ (∃ m3, (isA Y a1 0 m3 ∧ inR ((187 : Int32) + x1) m3) ∧ (∃ a5, (isO Y r0 11 ∧ s.2 r0 0 = some a5) ∧ (∃ m7, (isA Y a5 0 m7 ∧ inR ((487 : Int32) + x1) m7) ∧ (∃ a9, (isO Y r0 11 ∧ s.2 r0 0 = some a9) ∧ (∃ m11, (isA Y a9 0 m11 ∧ inR ((787 : Int32) + x1) m11) ∧ (isO Y r0 11 ∧ (isO Y r0 11 ∧ (∃ a13, (isO Y r0 11 ∧ (pV (pV s r0 42 (-1 : Int32)) r0 43 (-1 : Int32)).2 r0 35 = some a13) ∧ (∃ m15, (isA Y a13 0 m15 ∧ inR (0 : Int32) m15) ∧ tT Y d 151 0 [.int (s.1 a1 (((187 : Int32) + x1)).toNatClampNeg), .int (0 : Int32), .int (((pV (pV s r0 42 (-1 : Int32)) r0 43 (-1 : Int32)).1 a13 ((0 : Int32)).toNatClampNeg) - (1 : Int32))] [] (pV (pV s r0 42 (-1 : Int32)) r0 43 (-1 : Int32)) (fun r s1 => tT Y (d + 1) 204 57 [.ref r0, .int x1, .int (s.1 a1 (((187 : Int32) + x1)).toNatClampNeg), .int (s.1 a5 (((487 : Int32) + x1)).toNatClampNeg), .int (s.1 a9 (((787 : Int32) + x1)).toNatClampNeg), .null, .null, .null, .null] ((r.map Value.int).toList ++ []) s1 K)))))))))))) : tT Y (d + 1) 204 0 [.ref r0, .int x1, .null, .null, .null, .null, .null, .null, .null] [] s K :=
  (tt_aload (p_204_0 _ _) rfl).mpr (Exists.elim h (fun a1 h2 => t3_getr (p_204_1 _ _) (isI_11_0) h2.1.1 h2.1.2 ((tt_push (p_204_4 _ _)).mpr ((tt_iload (p_204_7 _ _) rfl).mpr ((tt_bin (p_204_8 _ _)).mpr (Exists.elim h2.2 (fun m3 h4 => t3_ald (p_204_9 _ _) h4.1.1 h4.1.2 ((tt_istore (p_204_10 _ _) (Nat.le_of_ble_eq_true rfl) rfl rfl).mpr ((tt_aload (p_204_11 _ _) rfl).mpr (Exists.elim h4.2 (fun a5 h6 => t3_getr (p_204_12 _ _) (isI_11_0) h6.1.1 h6.1.2 ((tt_push (p_204_15 _ _)).mpr ((tt_iload (p_204_18 _ _) rfl).mpr ((tt_bin (p_204_19 _ _)).mpr (Exists.elim h6.2 (fun m7 h8 => t3_ald (p_204_20 _ _) h8.1.1 h8.1.2 ((tt_istore (p_204_21 _ _) (Nat.le_of_ble_eq_true rfl) rfl rfl).mpr ((tt_aload (p_204_22 _ _) rfl).mpr (Exists.elim h8.2 (fun a9 h10 => t3_getr (p_204_23 _ _) (isI_11_0) h10.1.1 h10.1.2 ((tt_push (p_204_26 _ _)).mpr ((tt_iload (p_204_29 _ _) rfl).mpr ((tt_bin (p_204_30 _ _)).mpr (Exists.elim h10.2 (fun m11 h12 => t3_ald (p_204_31 _ _) h12.1.1 h12.1.2 ((tt_istore (p_204_32 _ _) (Nat.le_of_ble_eq_true rfl) rfl rfl).mpr ((tt_aload (p_204_34 _ _) rfl).mpr ((tt_push (p_204_35 _ _)).mpr ((t2_puti (p_204_36 _ _) isI_11_42 h12.2.1).mpr ((tt_aload (p_204_39 _ _) rfl).mpr ((tt_push (p_204_40 _ _)).mpr ((t2_puti (p_204_41 _ _) isI_11_43 h12.2.2.1).mpr ((tt_iload (p_204_44 _ _) rfl).mpr ((tt_push (p_204_45 _ _)).mpr ((tt_aload (p_204_46 _ _) rfl).mpr (Exists.elim h12.2.2.2 (fun a13 h14 => t3_getr (p_204_47 _ _) (isI_11_35) h14.1.1 h14.1.2 ((tt_push (p_204_50 _ _)).mpr (Exists.elim h14.2 (fun m15 h16 => t3_ald (p_204_51 _ _) h16.1.1 h16.1.2 ((tt_push (p_204_52 _ _)).mpr ((tt_bin (p_204_53 _ _)).mpr (t2_calls (z := 151) (k := 3) (as := [.int (s.1 a1 (((187 : Int32) + x1)).toNatClampNeg), .int (0 : Int32), .int (((pV (pV s r0 42 (-1 : Int32)) r0 43 (-1 : Int32)).1 a13 ((0 : Int32)).toNatClampNeg) - (1 : Int32))]) (rest := []) (p_204_54 _ _) mK_151 mL_151 rfl rfl (Nat.le_of_ble_eq_true rfl) rfl (Nat.le_of_ble_eq_true rfl) h16.2)))))))))))))))))))))))))))))))))))))))))))
theorem b_204_57 {Y : sY} {d : Nat} {s : sT} {K : Option Int32 → sT → Prop} {r0 : Nat} {x1 : Int32} {x2 : Int32} {x3 : Int32} {x4 : Int32} {t0 : Int32} (h : (if t0 = 0 then K (some (1 : Int32)) s else (if x3 < 0 then K (some (1 : Int32)) s else (∃ a3, (isO Y r0 11 ∧ s.2 r0 35 = some a3) ∧ (∃ m5, (isA Y a3 0 m5 ∧ inR (1 : Int32) m5) ∧ (if ¬ (x3 &&& (((-1 : Int32).toUInt32 >>> (((32 : Int32) - (s.1 a3 ((1 : Int32)).toNatClampNeg)).toUInt32 &&& Int32.toUInt32 31)).toInt32 ^^^ (-1 : Int32))) = 0 then K (some (1 : Int32)) s else tT Y d 151 0 [.int x4, .int (0 : Int32), .int (1 : Int32)] [] s (fun r s1 => tT Y (d + 1) 204 89 [.ref r0, .int x1, .int x2, .int x3, .int x4, .null, .null, .null, .null] ((r.map Value.int).toList ++ []) s1 K))))))) : tT Y (d + 1) 204 57 [.ref r0, .int x1, .int x2, .int x3, .int x4, .null, .null, .null, .null] [.int t0] s K :=
  t3_if (p := t0 = 0) (p_204_57 _ _) rfl (fun g1 => (tt_push (p_204_92 _ _)).mpr (tt_ret1 (p_204_93 _ _) (ifp h g1))) (fun g1 => (tt_iload (p_204_60 _ _) rfl).mpr (t3_if (p := x3 < 0) (p_204_61 _ _) rfl (fun g2 => (tt_push (p_204_92 _ _)).mpr (tt_ret1 (p_204_93 _ _) (ifp (ifn h g1) g2))) (fun g2 => (tt_iload (p_204_64 _ _) rfl).mpr ((tt_push (p_204_65 _ _)).mpr ((tt_push (p_204_66 _ _)).mpr ((tt_aload (p_204_68 _ _) rfl).mpr (Exists.elim (ifn (ifn h g1) g2) (fun a3 h4 => t3_getr (p_204_69 _ _) (isI_11_35) h4.1.1 h4.1.2 ((tt_push (p_204_72 _ _)).mpr (Exists.elim h4.2 (fun m5 h6 => t3_ald (p_204_73 _ _) h6.1.1 h6.1.2 ((tt_bin (p_204_74 _ _)).mpr ((tt_bin (p_204_75 _ _)).mpr ((tt_push (p_204_76 _ _)).mpr ((tt_bin (p_204_77 _ _)).mpr ((tt_bin (p_204_78 _ _)).mpr (t3_if (p := ¬ (x3 &&& (((-1 : Int32).toUInt32 >>> (((32 : Int32) - (s.1 a3 ((1 : Int32)).toNatClampNeg)).toUInt32 &&& Int32.toUInt32 31)).toInt32 ^^^ (-1 : Int32))) = 0) (p_204_79 _ _) rfl (fun g7 => (tt_push (p_204_92 _ _)).mpr (tt_ret1 (p_204_93 _ _) (ifp h6.2 g7))) (fun g7 => (tt_iload (p_204_82 _ _) rfl).mpr ((tt_push (p_204_84 _ _)).mpr ((tt_push (p_204_85 _ _)).mpr (t2_calls (z := 151) (k := 3) (as := [.int x4, .int (0 : Int32), .int (1 : Int32)]) (rest := []) (p_204_86 _ _) mK_151 mL_151 rfl rfl (Nat.le_of_ble_eq_true rfl) rfl (Nat.le_of_ble_eq_true rfl) (ifn h6.2 g7))))))))))))))))))))))
theorem b_204_89 {Y : sY} {d : Nat} {s : sT} {K : Option Int32 → sT → Prop} {r0 : Nat} {x1 : Int32} {x2 : Int32} {x3 : Int32} {x4 : Int32} {t0 : Int32} (h : (if ¬ t0 = 0 then (if ¬ x4 = 0 then (isO Y r0 11 ∧ tT Y d 181 0 [.ref r0, .int (0 : Int32), .int x2] [] s (fun r s1 => tT Y (d + 1) 204 120 [.ref r0, .int x1, .int x2, .int x3, .int x4, .null, .null, .null, .null] ((r.map Value.int).toList ++ []) s1 K)) else (isO Y r0 11 ∧ tT Y d 184 0 [.ref r0, .int x2, .int x3, .null] [] s (fun r s1 => tT Y (d + 1) 204 105 [.ref r0, .int x1, .int x2, .int x3, .int x4, .null, .null, .null, .null] ((r.map Value.int).toList ++ []) s1 K))) else K (some (1 : Int32)) s)) : tT Y (d + 1) 204 89 [.ref r0, .int x1, .int x2, .int x3, .int x4, .null, .null, .null, .null] [.int t0] s K :=
  t3_if (p := ¬ t0 = 0) (p_204_89 _ _) rfl (fun g1 => (tt_iload (p_204_94 _ _) rfl).mpr (t3_if (p := ¬ x4 = 0) (p_204_96 _ _) rfl (fun g2 => (tt_aload (p_204_114 _ _) rfl).mpr ((tt_push (p_204_115 _ _)).mpr ((tt_iload (p_204_116 _ _) rfl).mpr (t2_callv (z := 181) (k := 3) (i := r0) (as := [.int (0 : Int32), .int x2]) (rest := []) (p_204_117 _ _) mK_181 mL_181 rfl rfl (Nat.le_of_ble_eq_true rfl) rfl (Nat.le_of_ble_eq_true rfl) (ifp (ifp h g1) g2).1 (ifp (ifp h g1) g2).2)))) (fun g2 => (tt_aload (p_204_99 _ _) rfl).mpr ((tt_iload (p_204_100 _ _) rfl).mpr ((tt_iload (p_204_101 _ _) rfl).mpr (t2_callv (z := 184) (k := 3) (i := r0) (as := [.int x2, .int x3]) (rest := []) (p_204_102 _ _) mK_184 mL_184 rfl rfl (Nat.le_of_ble_eq_true rfl) rfl (Nat.le_of_ble_eq_true rfl) (ifn (ifp h g1) g2).1 (ifn (ifp h g1) g2).2)))))) (fun g1 => (tt_push (p_204_92 _ _)).mpr (tt_ret1 (p_204_93 _ _) (ifn h g1)))
theorem b_204_105 {Y : sY} {d : Nat} {s : sT} {K : Option Int32 → sT → Prop} {r0 : Nat} {x1 : Int32} {x2 : Int32} {x3 : Int32} {x4 : Int32} {t0 : Int32} (h : (if t0 = 0 then K (some (2 : Int32)) s else K (some (0 : Int32)) s)) : tT Y (d + 1) 204 105 [.ref r0, .int x1, .int x2, .int x3, .int x4, .null, .null, .null, .null] [.int t0] s K :=
  t3_if (p := t0 = 0) (p_204_105 _ _) rfl (fun g1 => (tt_push (p_204_112 _ _)).mpr (tt_ret1 (p_204_113 _ _) (ifp h g1))) (fun g1 => (tt_push (p_204_108 _ _)).mpr ((tt_goto (p_204_109 _ _)).mpr (tt_ret1 (p_204_113 _ _) (ifn h g1))))
theorem b_204_120 {Y : sY} {d : Nat} {s : sT} {K : Option Int32 → sT → Prop} {r0 : Nat} {x1 : Int32} {x2 : Int32} {x3 : Int32} {x4 : Int32} {t0 : Int32} (h : (if t0 = 0 then tT Y (d + 1) 204 134 [.ref r0, .int x1, .int x2, .int x3, .int x4, .null, .null, .null, .null] [] s K else (isO Y r0 11 ∧ tT Y d 182 0 [.ref r0, .int (1 : Int32), .int x3, .null] [] s (fun r s1 => tT Y (d + 1) 204 129 [.ref r0, .int x1, .int x2, .int x3, .int x4, .null, .null, .null, .null] ((r.map Value.int).toList ++ []) s1 K)))) : tT Y (d + 1) 204 120 [.ref r0, .int x1, .int x2, .int x3, .int x4, .null, .null, .null, .null] [.int t0] s K :=
  t3_if (p := t0 = 0) (p_204_120 _ _) rfl (fun g1 => (ifp h g1)) (fun g1 => (tt_aload (p_204_123 _ _) rfl).mpr ((tt_push (p_204_124 _ _)).mpr ((tt_iload (p_204_125 _ _) rfl).mpr (t2_callv (z := 182) (k := 3) (i := r0) (as := [.int (1 : Int32), .int x3]) (rest := []) (p_204_126 _ _) mK_182 mL_182 rfl rfl (Nat.le_of_ble_eq_true rfl) rfl (Nat.le_of_ble_eq_true rfl) (ifn h g1).1 (ifn h g1).2))))
theorem b_204_129 {Y : sY} {d : Nat} {s : sT} {K : Option Int32 → sT → Prop} {r0 : Nat} {x1 : Int32} {x2 : Int32} {x3 : Int32} {x4 : Int32} {t0 : Int32} (h : (if ¬ t0 = 0 then tT Y (d + 1) 204 134 [.ref r0, .int x1, .int x2, .int x3, .int x4, .null, .null, .null, .null] [] s K else K (some (3 : Int32)) s)) : tT Y (d + 1) 204 129 [.ref r0, .int x1, .int x2, .int x3, .int x4, .null, .null, .null, .null] [.int t0] s K :=
  t3_if (p := ¬ t0 = 0) (p_204_129 _ _) rfl (fun g1 => (ifp h g1)) (fun g1 => (tt_push (p_204_132 _ _)).mpr (tt_ret1 (p_204_133 _ _) (ifn h g1)))
theorem b_204_134 {Y : sY} {d : Nat} {s : sT} {K : Option Int32 → sT → Prop} {r0 : Nat} {x1 : Int32} {x2 : Int32} {x3 : Int32} {x4 : Int32} (h : tT Y (d + 1) 204 137 [.ref r0, .int x1, .int x2, .int x3, .int x4, .int (0 : Int32), .null, .null, .null] [] s K) : tT Y (d + 1) 204 134 [.ref r0, .int x1, .int x2, .int x3, .int x4, .null, .null, .null, .null] [] s K :=
  (tt_push (p_204_134 _ _)).mpr ((tt_istore (p_204_135 _ _) (Nat.le_of_ble_eq_true rfl) rfl rfl).mpr (h))
theorem b_204_137 {Y : sY} {d : Nat} {s : sT} {K : Option Int32 → sT → Prop} {r0 : Nat} {x1 : Int32} {x2 : Int32} {x3 : Int32} {x4 : Int32} {x5 : Int32} (h : (∃ a1, (isO Y r0 11 ∧ s.2 r0 0 = some a1) ∧ (∃ m3, (isA Y a1 0 m3 ∧ inR ((1087 : Int32) + x1) m3) ∧ (if (s.1 a1 (((1087 : Int32) + x1)).toNatClampNeg) ≤ x5 then tT Y (d + 1) 204 205 [.ref r0, .int x1, .int x2, .int x3, .int x4, .int (0 : Int32), .null, .null, .null] [] s K else (∃ a6, (isO Y r0 11 ∧ s.2 r0 0 = some a6) ∧ (∃ m8, (isA Y a6 0 m8 ∧ inR (((1387 : Int32) + ((30 : Int32) * x1)) + x5) m8) ∧ (∃ a10, (isO Y r0 11 ∧ s.2 r0 0 = some a10) ∧ (∃ m12, (isA Y a10 0 m12 ∧ inR (186 : Int32) m12) ∧ tT Y d 151 0 [.int (s.1 a6 ((((1387 : Int32) + ((30 : Int32) * x1)) + x5)).toNatClampNeg), .int (0 : Int32), .int ((s.1 a10 ((186 : Int32)).toNatClampNeg) - (1 : Int32))] [] s (fun r s1 => tT Y (d + 1) 204 182 [.ref r0, .int x1, .int x2, .int x3, .int x4, .int x5, .null, .null, .null] ((r.map Value.int).toList ++ []) s1 K))))))))) : tT Y (d + 1) 204 137 [.ref r0, .int x1, .int x2, .int x3, .int x4, .int x5, .null, .null, .null] [] s K :=
  (tt_iload (p_204_137 _ _) rfl).mpr ((tt_aload (p_204_139 _ _) rfl).mpr (Exists.elim h (fun a1 h2 => t3_getr (p_204_140 _ _) (isI_11_0) h2.1.1 h2.1.2 ((tt_push (p_204_143 _ _)).mpr ((tt_iload (p_204_146 _ _) rfl).mpr ((tt_bin (p_204_147 _ _)).mpr (Exists.elim h2.2 (fun m3 h4 => t3_ald (p_204_148 _ _) h4.1.1 h4.1.2 (t3_cmp (p := (s.1 a1 (((1087 : Int32) + x1)).toNatClampNeg) ≤ x5) (p_204_149 _ _) rfl (fun g5 => (tt_push (p_204_202 _ _)).mpr ((tt_istore (p_204_203 _ _) (Nat.le_of_ble_eq_true rfl) rfl rfl).mpr ((ifp h4.2 g5)))) (fun g5 => (tt_aload (p_204_152 _ _) rfl).mpr (Exists.elim (ifn h4.2 g5) (fun a6 h7 => t3_getr (p_204_153 _ _) (isI_11_0) h7.1.1 h7.1.2 ((tt_push (p_204_156 _ _)).mpr ((tt_push (p_204_159 _ _)).mpr ((tt_iload (p_204_161 _ _) rfl).mpr ((tt_bin (p_204_162 _ _)).mpr ((tt_bin (p_204_163 _ _)).mpr ((tt_iload (p_204_164 _ _) rfl).mpr ((tt_bin (p_204_166 _ _)).mpr (Exists.elim h7.2 (fun m8 h9 => t3_ald (p_204_167 _ _) h9.1.1 h9.1.2 ((tt_push (p_204_168 _ _)).mpr ((tt_aload (p_204_169 _ _) rfl).mpr (Exists.elim h9.2 (fun a10 h11 => t3_getr (p_204_170 _ _) (isI_11_0) h11.1.1 h11.1.2 ((tt_push (p_204_173 _ _)).mpr (Exists.elim h11.2 (fun m12 h13 => t3_ald (p_204_176 _ _) h13.1.1 h13.1.2 ((tt_push (p_204_177 _ _)).mpr ((tt_bin (p_204_178 _ _)).mpr (t2_calls (z := 151) (k := 3) (as := [.int (s.1 a6 ((((1387 : Int32) + ((30 : Int32) * x1)) + x5)).toNatClampNeg), .int (0 : Int32), .int ((s.1 a10 ((186 : Int32)).toNatClampNeg) - (1 : Int32))]) (rest := []) (p_204_179 _ _) mK_151 mL_151 rfl rfl (Nat.le_of_ble_eq_true rfl) rfl (Nat.le_of_ble_eq_true rfl) h13.2)))))))))))))))))))))))))))))))
theorem b_204_182 {Y : sY} {d : Nat} {s : sT} {K : Option Int32 → sT → Prop} {r0 : Nat} {x1 : Int32} {x2 : Int32} {x3 : Int32} {x4 : Int32} {x5 : Int32} {t0 : Int32} (h : (if t0 = 0 then (isO Y r0 11 ∧ K (some (4 : Int32)) (pV s r0 43 x5)) else tT Y (d + 1) 204 137 [.ref r0, .int x1, .int x2, .int x3, .int x4, .int (x5 + 1), .null, .null, .null] [] s K)) : tT Y (d + 1) 204 182 [.ref r0, .int x1, .int x2, .int x3, .int x4, .int x5, .null, .null, .null] [.int t0] s K :=
  t3_if (p := t0 = 0) (p_204_182 _ _) rfl (fun g1 => (tt_aload (p_204_188 _ _) rfl).mpr ((tt_iload (p_204_189 _ _) rfl).mpr ((t2_puti (p_204_191 _ _) isI_11_43 (ifp h g1).1).mpr ((tt_push (p_204_194 _ _)).mpr (tt_ret1 (p_204_195 _ _) (ifp h g1).2))))) (fun g1 => (tt_goto (p_204_185 _ _)).mpr ((tt_iinc (p_204_196 _ _) rfl rfl rfl).mpr ((tt_goto (p_204_199 _ _)).mpr ((ifn h g1)))))
theorem b_204_205 {Y : sY} {d : Nat} {s : sT} {K : Option Int32 → sT → Prop} {r0 : Nat} {x1 : Int32} {x2 : Int32} {x3 : Int32} {x4 : Int32} {x5 : Int32} {u6 : Value} {u7 : Value} {u8 : Value} (h : (if (3 : Int32) ≤ x5 then K (some (0 : Int32)) s else (isO Y r0 11 ∧ tT Y d 183 0 [.ref r0, .int (1 : Int32), .int x3, .int x5, .null, .null] [] s (fun r s1 => tT Y (d + 1) 204 219 [.ref r0, .int x1, .int x2, .int x3, .int x4, .int x5, u6, u7, u8] ((r.map Value.int).toList ++ []) s1 K)))) : tT Y (d + 1) 204 205 [.ref r0, .int x1, .int x2, .int x3, .int x4, .int x5, u6, u7, u8] [] s K :=
  (tt_iload (p_204_205 _ _) rfl).mpr ((tt_push (p_204_207 _ _)).mpr (t3_cmp (p := (3 : Int32) ≤ x5) (p_204_208 _ _) rfl (fun g1 => (tt_push (p_204_302 _ _)).mpr (tt_ret1 (p_204_303 _ _) (ifp h g1))) (fun g1 => (tt_aload (p_204_211 _ _) rfl).mpr ((tt_push (p_204_212 _ _)).mpr ((tt_iload (p_204_213 _ _) rfl).mpr ((tt_iload (p_204_214 _ _) rfl).mpr (t2_callv (z := 183) (k := 4) (i := r0) (as := [.int (1 : Int32), .int x3, .int x5]) (rest := []) (p_204_216 _ _) mK_183 mL_183 rfl rfl (Nat.le_of_ble_eq_true rfl) rfl (Nat.le_of_ble_eq_true rfl) (ifn h g1).1 (ifn h g1).2)))))))
theorem b_204_219 {Y : sY} {d : Nat} {s : sT} {K : Option Int32 → sT → Prop} {r0 : Nat} {x1 : Int32} {x2 : Int32} {x3 : Int32} {x4 : Int32} {x5 : Int32} {u6 : Value} {u7 : Value} {u8 : Value} {t0 : Int32} (h : tT Y (d + 1) 204 224 [.ref r0, .int x1, .int x2, .int x3, .int x4, .int x5, .int t0, .int (0 : Int32), u8] [] s K) : tT Y (d + 1) 204 219 [.ref r0, .int x1, .int x2, .int x3, .int x4, .int x5, u6, u7, u8] [.int t0] s K :=
  (tt_istore (p_204_219 _ _) (Nat.le_of_ble_eq_true rfl) rfl rfl).mpr ((tt_push (p_204_221 _ _)).mpr ((tt_istore (p_204_222 _ _) (Nat.le_of_ble_eq_true rfl) rfl rfl).mpr (h)))
theorem b_204_224 {Y : sY} {d : Nat} {s : sT} {K : Option Int32 → sT → Prop} {r0 : Nat} {x1 : Int32} {x2 : Int32} {x3 : Int32} {x4 : Int32} {x5 : Int32} {x6 : Int32} {x7 : Int32} {u8 : Value} (h : (∃ a1, (isO Y r0 11 ∧ s.2 r0 38 = some a1) ∧ (∃ m3, (isA Y a1 0 m3 ∧ inR (((3 : Int32) * x2) + x5) m3) ∧ (if (s.1 a1 ((((3 : Int32) * x2) + x5)).toNatClampNeg) ≤ x7 then tT Y (d + 1) 204 205 [.ref r0, .int x1, .int x2, .int x3, .int x4, .int (x5 + 1), .int x6, .int x7, u8] [] s K else (∃ a6, (isO Y r0 11 ∧ s.2 r0 37 = some a6) ∧ (∃ m8, (isA Y a6 0 m8 ∧ inR (((31 : Int32) * (((3 : Int32) * x2) + x5)) + x7) m8) ∧ (isO Y r0 11 ∧ tT Y d 203 0 [.ref r0, .int x1, .int (s.1 a6 ((((31 : Int32) * (((3 : Int32) * x2) + x5)) + x7)).toNatClampNeg), .int x6, .null, .null] [] s (fun r s1 => tT Y (d + 1) 204 268 [.ref r0, .int x1, .int x2, .int x3, .int x4, .int x5, .int x6, .int x7, .int (s.1 a6 ((((31 : Int32) * (((3 : Int32) * x2) + x5)) + x7)).toNatClampNeg)] ((r.map Value.int).toList ++ []) s1 K)))))))) : tT Y (d + 1) 204 224 [.ref r0, .int x1, .int x2, .int x3, .int x4, .int x5, .int x6, .int x7, u8] [] s K :=
  (tt_iload (p_204_224 _ _) rfl).mpr ((tt_aload (p_204_226 _ _) rfl).mpr (Exists.elim h (fun a1 h2 => t3_getr (p_204_227 _ _) (isI_11_38) h2.1.1 h2.1.2 ((tt_push (p_204_230 _ _)).mpr ((tt_iload (p_204_231 _ _) rfl).mpr ((tt_bin (p_204_232 _ _)).mpr ((tt_iload (p_204_233 _ _) rfl).mpr ((tt_bin (p_204_235 _ _)).mpr (Exists.elim h2.2 (fun m3 h4 => t3_ald (p_204_236 _ _) h4.1.1 h4.1.2 (t3_cmp (p := (s.1 a1 ((((3 : Int32) * x2) + x5)).toNatClampNeg) ≤ x7) (p_204_237 _ _) rfl (fun g5 => (tt_iinc (p_204_296 _ _) rfl rfl rfl).mpr ((tt_goto (p_204_299 _ _)).mpr ((ifp h4.2 g5)))) (fun g5 => (tt_aload (p_204_240 _ _) rfl).mpr (Exists.elim (ifn h4.2 g5) (fun a6 h7 => t3_getr (p_204_241 _ _) (isI_11_37) h7.1.1 h7.1.2 ((tt_push (p_204_244 _ _)).mpr ((tt_push (p_204_246 _ _)).mpr ((tt_iload (p_204_247 _ _) rfl).mpr ((tt_bin (p_204_248 _ _)).mpr ((tt_iload (p_204_249 _ _) rfl).mpr ((tt_bin (p_204_251 _ _)).mpr ((tt_bin (p_204_252 _ _)).mpr ((tt_iload (p_204_253 _ _) rfl).mpr ((tt_bin (p_204_255 _ _)).mpr (Exists.elim h7.2 (fun m8 h9 => t3_ald (p_204_256 _ _) h9.1.1 h9.1.2 ((tt_istore (p_204_257 _ _) (Nat.le_of_ble_eq_true rfl) rfl rfl).mpr ((tt_aload (p_204_259 _ _) rfl).mpr ((tt_iload (p_204_260 _ _) rfl).mpr ((tt_iload (p_204_261 _ _) rfl).mpr ((tt_iload (p_204_263 _ _) rfl).mpr (t2_callv (z := 203) (k := 4) (i := r0) (as := [.int x1, .int (s.1 a6 ((((31 : Int32) * (((3 : Int32) * x2) + x5)) + x7)).toNatClampNeg), .int x6]) (rest := []) (p_204_265 _ _) mK_203 mL_203 rfl rfl (Nat.le_of_ble_eq_true rfl) rfl (Nat.le_of_ble_eq_true rfl) h9.2.1 h9.2.2)))))))))))))))))))))))))))))))
theorem b_204_268 {Y : sY} {d : Nat} {s : sT} {K : Option Int32 → sT → Prop} {r0 : Nat} {x1 : Int32} {x2 : Int32} {x3 : Int32} {x4 : Int32} {x5 : Int32} {x6 : Int32} {x7 : Int32} {x8 : Int32} {t0 : Int32} (h : (if t0 = 0 then (isO Y r0 11 ∧ (isO Y r0 11 ∧ K (some (5 : Int32)) (pV (pV s r0 42 (x5 + (1 : Int32))) r0 43 x8))) else tT Y (d + 1) 204 224 [.ref r0, .int x1, .int x2, .int x3, .int x4, .int x5, .int x6, .int (x7 + 1), .int x8] [] s K)) : tT Y (d + 1) 204 268 [.ref r0, .int x1, .int x2, .int x3, .int x4, .int x5, .int x6, .int x7, .int x8] [.int t0] s K :=
  t3_if (p := t0 = 0) (p_204_268 _ _) rfl (fun g1 => (tt_aload (p_204_274 _ _) rfl).mpr ((tt_iload (p_204_275 _ _) rfl).mpr ((tt_push (p_204_277 _ _)).mpr ((tt_bin (p_204_278 _ _)).mpr ((t2_puti (p_204_279 _ _) isI_11_42 (ifp h g1).1).mpr ((tt_aload (p_204_282 _ _) rfl).mpr ((tt_iload (p_204_283 _ _) rfl).mpr ((t2_puti (p_204_285 _ _) isI_11_43 (ifp h g1).2.1).mpr ((tt_push (p_204_288 _ _)).mpr (tt_ret1 (p_204_289 _ _) (ifp h g1).2.2)))))))))) (fun g1 => (tt_goto (p_204_271 _ _)).mpr ((tt_iinc (p_204_290 _ _) rfl rfl rfl).mpr ((tt_goto (p_204_293 _ _)).mpr ((ifn h g1)))))
/-! InclusionProverModel.bad.()I -/
theorem p_205_0 (L : Nat) (xs : Nat → Int32) : ll_P L xs 205 0 = some (.inl (lo_aload 1 0)) := (P_205 L xs 0).trans rfl
theorem p_205_1 (L : Nat) (xs : Nat → Int32) : ll_P L xs 205 1 = some (.inl (lo_push 2 (.int 0))) := (P_205 L xs 1).trans rfl
theorem p_205_2 (L : Nat) (xs : Nat → Int32) : ll_P L xs 205 2 = some (.inl (lo_push 4 (.int 31))) := (P_205 L xs 2).trans rfl
theorem p_205_4 (L : Nat) (xs : Nat → Int32) : ll_P L xs 205 4 = some (.inr (.inl (180, 3, 7))) := (P_205 L xs 4).trans rfl
theorem p_205_7 (L : Nat) (xs : Nat → Int32) : ll_P L xs 205 7 = some (.inl (lo_push 8 (.int 0))) := (P_205 L xs 7).trans rfl
theorem p_205_8 (L : Nat) (xs : Nat → Int32) : ll_P L xs 205 8 = some (.inl (lo_istore 9 1)) := (P_205 L xs 8).trans rfl
theorem p_205_9 (L : Nat) (xs : Nat → Int32) : ll_P L xs 205 9 = some (.inl (lo_iload 10 1)) := (P_205 L xs 9).trans rfl
theorem p_205_10 (L : Nat) (xs : Nat → Int32) : ll_P L xs 205 10 = some (.inl (lo_aload 11 0)) := (P_205 L xs 10).trans rfl
theorem p_205_11 (L : Nat) (xs : Nat → Int32) : ll_P L xs 205 11 = some (.inl (lo_getf 14 11 0)) := (P_205 L xs 11).trans rfl
theorem p_205_14 (L : Nat) (xs : Nat → Int32) : ll_P L xs 205 14 = some (.inl (lo_push 17 (.int 186))) := (P_205 L xs 14).trans rfl
theorem p_205_17 (L : Nat) (xs : Nat → Int32) : ll_P L xs 205 17 = some (.inl (lo_ald 18 0)) := (P_205 L xs 17).trans rfl
theorem p_205_18 (L : Nat) (xs : Nat → Int32) : ll_P L xs 205 18 = some (.inl (lo_cmp 45 21 (fun x y => decide (y ≤ x)))) := (P_205 L xs 18).trans rfl
theorem p_205_21 (L : Nat) (xs : Nat → Int32) : ll_P L xs 205 21 = some (.inl (lo_aload 22 0)) := (P_205 L xs 21).trans rfl
theorem p_205_22 (L : Nat) (xs : Nat → Int32) : ll_P L xs 205 22 = some (.inl (lo_aload 23 0)) := (P_205 L xs 22).trans rfl
theorem p_205_23 (L : Nat) (xs : Nat → Int32) : ll_P L xs 205 23 = some (.inl (lo_iload 24 1)) := (P_205 L xs 23).trans rfl
theorem p_205_24 (L : Nat) (xs : Nat → Int32) : ll_P L xs 205 24 = some (.inr (.inl (204, 2, 27))) := (P_205 L xs 24).trans rfl
theorem p_205_27 (L : Nat) (xs : Nat → Int32) : ll_P L xs 205 27 = some (.inl (lo_putf 30 11 44 0)) := (P_205 L xs 27).trans rfl
theorem p_205_30 (L : Nat) (xs : Nat → Int32) : ll_P L xs 205 30 = some (.inl (lo_aload 31 0)) := (P_205 L xs 30).trans rfl
theorem p_205_31 (L : Nat) (xs : Nat → Int32) : ll_P L xs 205 31 = some (.inl (lo_getf 34 11 44)) := (P_205 L xs 31).trans rfl
theorem p_205_34 (L : Nat) (xs : Nat → Int32) : ll_P L xs 205 34 = some (.inl (lo_if 39 37 (fun x => decide (x ≤ 0)))) := (P_205 L xs 34).trans rfl
theorem p_205_37 (L : Nat) (xs : Nat → Int32) : ll_P L xs 205 37 = some (.inl (lo_iload 38 1)) := (P_205 L xs 37).trans rfl
theorem p_205_38 (L : Nat) (xs : Nat → Int32) : ll_P L xs 205 38 = some (.inr (.inr 1)) := (P_205 L xs 38).trans rfl
theorem p_205_39 (L : Nat) (xs : Nat → Int32) : ll_P L xs 205 39 = some (.inl (lo_iinc 42 1 1)) := (P_205 L xs 39).trans rfl
theorem p_205_42 (L : Nat) (xs : Nat → Int32) : ll_P L xs 205 42 = some (.inl (lo_goto 9)) := (P_205 L xs 42).trans rfl
theorem p_205_45 (L : Nat) (xs : Nat → Int32) : ll_P L xs 205 45 = some (.inl (lo_aload 46 0)) := (P_205 L xs 45).trans rfl
theorem p_205_46 (L : Nat) (xs : Nat → Int32) : ll_P L xs 205 46 = some (.inl (lo_getf 49 11 0)) := (P_205 L xs 46).trans rfl
theorem p_205_49 (L : Nat) (xs : Nat → Int32) : ll_P L xs 205 49 = some (.inl (lo_push 52 (.int 186))) := (P_205 L xs 49).trans rfl
theorem p_205_52 (L : Nat) (xs : Nat → Int32) : ll_P L xs 205 52 = some (.inl (lo_ald 53 0)) := (P_205 L xs 52).trans rfl
theorem p_205_53 (L : Nat) (xs : Nat → Int32) : ll_P L xs 205 53 = some (.inl (lo_if 81 56 (fun x => decide (x = 0)))) := (P_205 L xs 53).trans rfl
theorem p_205_56 (L : Nat) (xs : Nat → Int32) : ll_P L xs 205 56 = some (.inl (lo_aload 57 0)) := (P_205 L xs 56).trans rfl
theorem p_205_57 (L : Nat) (xs : Nat → Int32) : ll_P L xs 205 57 = some (.inl (lo_getf 60 11 0)) := (P_205 L xs 57).trans rfl
theorem p_205_60 (L : Nat) (xs : Nat → Int32) : ll_P L xs 205 60 = some (.inl (lo_push 63 (.int 187))) := (P_205 L xs 60).trans rfl
theorem p_205_63 (L : Nat) (xs : Nat → Int32) : ll_P L xs 205 63 = some (.inl (lo_ald 64 0)) := (P_205 L xs 63).trans rfl
theorem p_205_64 (L : Nat) (xs : Nat → Int32) : ll_P L xs 205 64 = some (.inl (lo_if 85 67 (fun x => decide (¬ x = 0)))) := (P_205 L xs 64).trans rfl
theorem p_205_67 (L : Nat) (xs : Nat → Int32) : ll_P L xs 205 67 = some (.inl (lo_aload 68 0)) := (P_205 L xs 67).trans rfl
theorem p_205_68 (L : Nat) (xs : Nat → Int32) : ll_P L xs 205 68 = some (.inl (lo_getf 71 11 0)) := (P_205 L xs 68).trans rfl
theorem p_205_71 (L : Nat) (xs : Nat → Int32) : ll_P L xs 205 71 = some (.inl (lo_push 74 (.int 487))) := (P_205 L xs 71).trans rfl
theorem p_205_74 (L : Nat) (xs : Nat → Int32) : ll_P L xs 205 74 = some (.inl (lo_ald 75 0)) := (P_205 L xs 74).trans rfl
theorem p_205_75 (L : Nat) (xs : Nat → Int32) : ll_P L xs 205 75 = some (.inl (lo_push 77 (.int (-2)))) := (P_205 L xs 75).trans rfl
theorem p_205_77 (L : Nat) (xs : Nat → Int32) : ll_P L xs 205 77 = some (.inl (lo_bin 78 (fun x y => x &&& y))) := (P_205 L xs 77).trans rfl
theorem p_205_78 (L : Nat) (xs : Nat → Int32) : ll_P L xs 205 78 = some (.inl (lo_if 85 81 (fun x => decide (¬ x = 0)))) := (P_205 L xs 78).trans rfl
theorem p_205_81 (L : Nat) (xs : Nat → Int32) : ll_P L xs 205 81 = some (.inl (lo_push 82 (.int 1))) := (P_205 L xs 81).trans rfl
theorem p_205_82 (L : Nat) (xs : Nat → Int32) : ll_P L xs 205 82 = some (.inl (lo_goto 86)) := (P_205 L xs 82).trans rfl
theorem p_205_85 (L : Nat) (xs : Nat → Int32) : ll_P L xs 205 85 = some (.inl (lo_push 86 (.int 0))) := (P_205 L xs 85).trans rfl
theorem p_205_86 (L : Nat) (xs : Nat → Int32) : ll_P L xs 205 86 = some (.inl (lo_istore 87 1)) := (P_205 L xs 86).trans rfl
theorem p_205_87 (L : Nat) (xs : Nat → Int32) : ll_P L xs 205 87 = some (.inl (lo_aload 88 0)) := (P_205 L xs 87).trans rfl
theorem p_205_88 (L : Nat) (xs : Nat → Int32) : ll_P L xs 205 88 = some (.inl (lo_push 89 (.int (-1)))) := (P_205 L xs 88).trans rfl
theorem p_205_89 (L : Nat) (xs : Nat → Int32) : ll_P L xs 205 89 = some (.inl (lo_putf 92 11 42 0)) := (P_205 L xs 89).trans rfl
theorem p_205_92 (L : Nat) (xs : Nat → Int32) : ll_P L xs 205 92 = some (.inl (lo_aload 93 0)) := (P_205 L xs 92).trans rfl
theorem p_205_93 (L : Nat) (xs : Nat → Int32) : ll_P L xs 205 93 = some (.inl (lo_push 94 (.int (-1)))) := (P_205 L xs 93).trans rfl
theorem p_205_94 (L : Nat) (xs : Nat → Int32) : ll_P L xs 205 94 = some (.inl (lo_putf 97 11 43 0)) := (P_205 L xs 94).trans rfl
theorem p_205_97 (L : Nat) (xs : Nat → Int32) : ll_P L xs 205 97 = some (.inl (lo_aload 98 0)) := (P_205 L xs 97).trans rfl
theorem p_205_98 (L : Nat) (xs : Nat → Int32) : ll_P L xs 205 98 = some (.inl (lo_iload 99 1)) := (P_205 L xs 98).trans rfl
theorem p_205_99 (L : Nat) (xs : Nat → Int32) : ll_P L xs 205 99 = some (.inl (lo_if 106 102 (fun x => decide (x = 0)))) := (P_205 L xs 99).trans rfl
theorem p_205_102 (L : Nat) (xs : Nat → Int32) : ll_P L xs 205 102 = some (.inl (lo_push 103 (.int 0))) := (P_205 L xs 102).trans rfl
theorem p_205_103 (L : Nat) (xs : Nat → Int32) : ll_P L xs 205 103 = some (.inl (lo_goto 108)) := (P_205 L xs 103).trans rfl
theorem p_205_106 (L : Nat) (xs : Nat → Int32) : ll_P L xs 205 106 = some (.inl (lo_push 108 (.int 6))) := (P_205 L xs 106).trans rfl
theorem p_205_108 (L : Nat) (xs : Nat → Int32) : ll_P L xs 205 108 = some (.inl (lo_putf 111 11 44 0)) := (P_205 L xs 108).trans rfl
theorem p_205_111 (L : Nat) (xs : Nat → Int32) : ll_P L xs 205 111 = some (.inl (lo_iload 112 1)) := (P_205 L xs 111).trans rfl
theorem p_205_112 (L : Nat) (xs : Nat → Int32) : ll_P L xs 205 112 = some (.inl (lo_if 119 115 (fun x => decide (x = 0)))) := (P_205 L xs 112).trans rfl
theorem p_205_115 (L : Nat) (xs : Nat → Int32) : ll_P L xs 205 115 = some (.inl (lo_push 116 (.int (-1)))) := (P_205 L xs 115).trans rfl
theorem p_205_116 (L : Nat) (xs : Nat → Int32) : ll_P L xs 205 116 = some (.inl (lo_goto 120)) := (P_205 L xs 116).trans rfl
theorem p_205_119 (L : Nat) (xs : Nat → Int32) : ll_P L xs 205 119 = some (.inl (lo_push 120 (.int 0))) := (P_205 L xs 119).trans rfl
theorem p_205_120 (L : Nat) (xs : Nat → Int32) : ll_P L xs 205 120 = some (.inr (.inr 1)) := (P_205 L xs 120).trans rfl
theorem b_205_0 {Y : sY} {d : Nat} {s : sT} {K : Option Int32 → sT → Prop} {r0 : Nat} (h : (isO Y r0 11 ∧ tT Y d 180 0 [.ref r0, .int (0 : Int32), .int (31 : Int32), .null, .null] [] s (fun r s1 => tT Y (d + 1) 205 7 [.ref r0, .null] ((r.map Value.int).toList ++ []) s1 K))) : tT Y (d + 1) 205 0 [.ref r0, .null] [] s K :=
  (tt_aload (p_205_0 _ _) rfl).mpr ((tt_push (p_205_1 _ _)).mpr ((tt_push (p_205_2 _ _)).mpr (t2_callv (z := 180) (k := 3) (i := r0) (as := [.int (0 : Int32), .int (31 : Int32)]) (rest := []) (p_205_4 _ _) mK_180 mL_180 rfl rfl (Nat.le_of_ble_eq_true rfl) rfl (Nat.le_of_ble_eq_true rfl) h.1 h.2)))
theorem b_205_7 {Y : sY} {d : Nat} {s : sT} {K : Option Int32 → sT → Prop} {r0 : Nat} (h : tT Y (d + 1) 205 9 [.ref r0, .int (0 : Int32)] [] s K) : tT Y (d + 1) 205 7 [.ref r0, .null] [] s K :=
  (tt_push (p_205_7 _ _)).mpr ((tt_istore (p_205_8 _ _) (Nat.le_of_ble_eq_true rfl) rfl rfl).mpr (h))
theorem b_205_9 {Y : sY} {d : Nat} {s : sT} {K : Option Int32 → sT → Prop} {r0 : Nat} {x1 : Int32} (h : (∃ a1, (isO Y r0 11 ∧ s.2 r0 0 = some a1) ∧ (∃ m3, (isA Y a1 0 m3 ∧ inR (186 : Int32) m3) ∧ (if (s.1 a1 ((186 : Int32)).toNatClampNeg) ≤ x1 then (∃ a6, (isO Y r0 11 ∧ s.2 r0 0 = some a6) ∧ (∃ m8, (isA Y a6 0 m8 ∧ inR (186 : Int32) m8) ∧ (if (s.1 a6 ((186 : Int32)).toNatClampNeg) = 0 then tT Y (d + 1) 205 81 [.ref r0, .int x1] [] s K else (∃ a11, (isO Y r0 11 ∧ s.2 r0 0 = some a11) ∧ (∃ m13, (isA Y a11 0 m13 ∧ inR (187 : Int32) m13) ∧ (if ¬ (s.1 a11 ((187 : Int32)).toNatClampNeg) = 0 then tT Y (d + 1) 205 85 [.ref r0, .int x1] [] s K else (∃ a16, (isO Y r0 11 ∧ s.2 r0 0 = some a16) ∧ (∃ m18, (isA Y a16 0 m18 ∧ inR (487 : Int32) m18) ∧ (if ¬ ((s.1 a16 ((487 : Int32)).toNatClampNeg) &&& (-2 : Int32)) = 0 then tT Y (d + 1) 205 85 [.ref r0, .int x1] [] s K else tT Y (d + 1) 205 81 [.ref r0, .int x1] [] s K))))))))) else (isO Y r0 11 ∧ tT Y d 204 0 [.ref r0, .int x1, .null, .null, .null, .null, .null, .null, .null] [] s (fun r s1 => tT Y (d + 1) 205 27 [.ref r0, .int x1] ((r.map Value.int).toList ++ [.ref r0]) s1 K)))))) : tT Y (d + 1) 205 9 [.ref r0, .int x1] [] s K :=
  (tt_iload (p_205_9 _ _) rfl).mpr ((tt_aload (p_205_10 _ _) rfl).mpr (Exists.elim h (fun a1 h2 => t3_getr (p_205_11 _ _) (isI_11_0) h2.1.1 h2.1.2 ((tt_push (p_205_14 _ _)).mpr (Exists.elim h2.2 (fun m3 h4 => t3_ald (p_205_17 _ _) h4.1.1 h4.1.2 (t3_cmp (p := (s.1 a1 ((186 : Int32)).toNatClampNeg) ≤ x1) (p_205_18 _ _) rfl (fun g5 => (tt_aload (p_205_45 _ _) rfl).mpr (Exists.elim (ifp h4.2 g5) (fun a6 h7 => t3_getr (p_205_46 _ _) (isI_11_0) h7.1.1 h7.1.2 ((tt_push (p_205_49 _ _)).mpr (Exists.elim h7.2 (fun m8 h9 => t3_ald (p_205_52 _ _) h9.1.1 h9.1.2 (t3_if (p := (s.1 a6 ((186 : Int32)).toNatClampNeg) = 0) (p_205_53 _ _) rfl (fun g10 => (ifp h9.2 g10)) (fun g10 => (tt_aload (p_205_56 _ _) rfl).mpr (Exists.elim (ifn h9.2 g10) (fun a11 h12 => t3_getr (p_205_57 _ _) (isI_11_0) h12.1.1 h12.1.2 ((tt_push (p_205_60 _ _)).mpr (Exists.elim h12.2 (fun m13 h14 => t3_ald (p_205_63 _ _) h14.1.1 h14.1.2 (t3_if (p := ¬ (s.1 a11 ((187 : Int32)).toNatClampNeg) = 0) (p_205_64 _ _) rfl (fun g15 => (ifp h14.2 g15)) (fun g15 => (tt_aload (p_205_67 _ _) rfl).mpr (Exists.elim (ifn h14.2 g15) (fun a16 h17 => t3_getr (p_205_68 _ _) (isI_11_0) h17.1.1 h17.1.2 ((tt_push (p_205_71 _ _)).mpr (Exists.elim h17.2 (fun m18 h19 => t3_ald (p_205_74 _ _) h19.1.1 h19.1.2 ((tt_push (p_205_75 _ _)).mpr ((tt_bin (p_205_77 _ _)).mpr (t3_if (p := ¬ ((s.1 a16 ((487 : Int32)).toNatClampNeg) &&& (-2 : Int32)) = 0) (p_205_78 _ _) rfl (fun g20 => (ifp h19.2 g20)) (fun g20 => (ifn h19.2 g20))))))))))))))))))))))))) (fun g5 => (tt_aload (p_205_21 _ _) rfl).mpr ((tt_aload (p_205_22 _ _) rfl).mpr ((tt_iload (p_205_23 _ _) rfl).mpr (t2_callv (z := 204) (k := 2) (i := r0) (as := [.int x1]) (rest := [.ref r0]) (p_205_24 _ _) mK_204 mL_204 rfl rfl (Nat.le_of_ble_eq_true rfl) rfl (Nat.le_of_ble_eq_true rfl) (ifn h4.2 g5).1 (ifn h4.2 g5).2)))))))))))
theorem b_205_27 {Y : sY} {d : Nat} {s : sT} {K : Option Int32 → sT → Prop} {r0 : Nat} {x1 : Int32} {t0 : Nat} {t1 : Int32} (h : (isO Y t0 11 ∧ (isO Y r0 11 ∧ (if ((pV s t0 44 t1).1 r0 44) ≤ 0 then tT Y (d + 1) 205 9 [.ref r0, .int (x1 + 1)] [] (pV s t0 44 t1) K else K (some x1) (pV s t0 44 t1))))) : tT Y (d + 1) 205 27 [.ref r0, .int x1] [.int t1, .ref t0] s K :=
  (t2_puti (p_205_27 _ _) isI_11_44 h.1).mpr ((tt_aload (p_205_30 _ _) rfl).mpr (t3_geti (p_205_31 _ _) (isI_11_44) h.2.1 (t3_if (p := ((pV s t0 44 t1).1 r0 44) ≤ 0) (p_205_34 _ _) rfl (fun g1 => (tt_iinc (p_205_39 _ _) rfl rfl rfl).mpr ((tt_goto (p_205_42 _ _)).mpr ((ifp h.2.2 g1)))) (fun g1 => (tt_iload (p_205_37 _ _) rfl).mpr (tt_ret1 (p_205_38 _ _) (ifn h.2.2 g1))))))
theorem b_205_81 {Y : sY} {d : Nat} {s : sT} {K : Option Int32 → sT → Prop} {r0 : Nat} {x1 : Int32} (h : tT Y (d + 1) 205 86 [.ref r0, .int x1] [.int (1 : Int32)] s K) : tT Y (d + 1) 205 81 [.ref r0, .int x1] [] s K :=
  (tt_push (p_205_81 _ _)).mpr ((tt_goto (p_205_82 _ _)).mpr (h))
theorem b_205_85 {Y : sY} {d : Nat} {s : sT} {K : Option Int32 → sT → Prop} {r0 : Nat} {x1 : Int32} (h : tT Y (d + 1) 205 86 [.ref r0, .int x1] [.int (0 : Int32)] s K) : tT Y (d + 1) 205 85 [.ref r0, .int x1] [] s K :=
  (tt_push (p_205_85 _ _)).mpr (h)
theorem b_205_86 {Y : sY} {d : Nat} {s : sT} {K : Option Int32 → sT → Prop} {r0 : Nat} {x1 : Int32} {t0 : Int32} (h : (isO Y r0 11 ∧ (isO Y r0 11 ∧ (if t0 = 0 then tT Y (d + 1) 205 108 [.ref r0, .int t0] [.int (6 : Int32), .ref r0] (pV (pV s r0 42 (-1 : Int32)) r0 43 (-1 : Int32)) K else tT Y (d + 1) 205 108 [.ref r0, .int t0] [.int (0 : Int32), .ref r0] (pV (pV s r0 42 (-1 : Int32)) r0 43 (-1 : Int32)) K)))) : tT Y (d + 1) 205 86 [.ref r0, .int x1] [.int t0] s K :=
  (tt_istore (p_205_86 _ _) (Nat.le_of_ble_eq_true rfl) rfl rfl).mpr ((tt_aload (p_205_87 _ _) rfl).mpr ((tt_push (p_205_88 _ _)).mpr ((t2_puti (p_205_89 _ _) isI_11_42 h.1).mpr ((tt_aload (p_205_92 _ _) rfl).mpr ((tt_push (p_205_93 _ _)).mpr ((t2_puti (p_205_94 _ _) isI_11_43 h.2.1).mpr ((tt_aload (p_205_97 _ _) rfl).mpr ((tt_iload (p_205_98 _ _) rfl).mpr (t3_if (p := t0 = 0) (p_205_99 _ _) rfl (fun g1 => (tt_push (p_205_106 _ _)).mpr ((ifp h.2.2 g1))) (fun g1 => (tt_push (p_205_102 _ _)).mpr ((tt_goto (p_205_103 _ _)).mpr ((ifn h.2.2 g1)))))))))))))
theorem b_205_108 {Y : sY} {d : Nat} {s : sT} {K : Option Int32 → sT → Prop} {r0 : Nat} {x1 : Int32} {t0 : Nat} {t1 : Int32} (h : (isO Y t0 11 ∧ (if x1 = 0 then K (some (0 : Int32)) (pV s t0 44 t1) else K (some (-1 : Int32)) (pV s t0 44 t1)))) : tT Y (d + 1) 205 108 [.ref r0, .int x1] [.int t1, .ref t0] s K :=
  (t2_puti (p_205_108 _ _) isI_11_44 h.1).mpr ((tt_iload (p_205_111 _ _) rfl).mpr (t3_if (p := x1 = 0) (p_205_112 _ _) rfl (fun g1 => (tt_push (p_205_119 _ _)).mpr (tt_ret1 (p_205_120 _ _) (ifp h.2 g1))) (fun g1 => (tt_push (p_205_115 _ _)).mpr ((tt_goto (p_205_116 _ _)).mpr (tt_ret1 (p_205_120 _ _) (ifn h.2 g1))))))
