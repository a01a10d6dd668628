/-! BLOCKS (written by wip/whole/blocks.py) -/
/-! InclusionProverModel.check.()I -/
theorem p_206_0 (L : Nat) (xs : Nat → Int32) : ll_P L xs 206 0 = some (.inl (lo_aload 1 0)) := (P_206 L xs 0).trans rfl
theorem p_206_1 (L : Nat) (xs : Nat → Int32) : ll_P L xs 206 1 = some (.inl (lo_getf 4 11 0)) := (P_206 L xs 1).trans rfl
theorem p_206_4 (L : Nat) (xs : Nat → Int32) : ll_P L xs 206 4 = some (.inl (lo_push 7 (.int 186))) := (P_206 L xs 4).trans rfl
theorem p_206_7 (L : Nat) (xs : Nat → Int32) : ll_P L xs 206 7 = some (.inl (lo_ald 8 0)) := (P_206 L xs 7).trans rfl
theorem p_206_8 (L : Nat) (xs : Nat → Int32) : ll_P L xs 206 8 = some (.inl (lo_if 16 11 (fun x => decide (¬ x = 0)))) := (P_206 L xs 8).trans rfl
theorem p_206_11 (L : Nat) (xs : Nat → Int32) : ll_P L xs 206 11 = some (.inl (lo_push 13 (.int (-2)))) := (P_206 L xs 11).trans rfl
theorem p_206_13 (L : Nat) (xs : Nat → Int32) : ll_P L xs 206 13 = some (.inl (lo_goto 20)) := (P_206 L xs 13).trans rfl
theorem p_206_16 (L : Nat) (xs : Nat → Int32) : ll_P L xs 206 16 = some (.inl (lo_aload 17 0)) := (P_206 L xs 16).trans rfl
theorem p_206_17 (L : Nat) (xs : Nat → Int32) : ll_P L xs 206 17 = some (.inr (.inl (205, 1, 20))) := (P_206 L xs 17).trans rfl
theorem p_206_20 (L : Nat) (xs : Nat → Int32) : ll_P L xs 206 20 = some (.inr (.inr 1)) := (P_206 L xs 20).trans rfl
theorem b_206_0 {Y : sY} {d : Nat} {s : sT} {K : Option Int32 → sT → Prop} {r0 : Nat} (h : (∃ a1, (isO Y r0 11 ∧ s.2 r0 0 = some a1) ∧ (∃ m3, (isA Y a1 0 m3 ∧ inR (186 : Int32) m3) ∧ (if ¬ (s.1 a1 ((186 : Int32)).toNatClampNeg) = 0 then (isO Y r0 11 ∧ tT Y d 205 0 [.ref r0, .null] [] s (fun r s1 => tT Y (d + 1) 206 20 [.ref r0] ((r.map Value.int).toList ++ []) s1 K)) else tT Y (d + 1) 206 20 [.ref r0] [.int (-2 : Int32)] s K)))) : tT Y (d + 1) 206 0 [.ref r0] [] s K :=
  (tt_aload (p_206_0 _ _) rfl).mpr (Exists.elim h (fun a1 h2 => t3_getr (p_206_1 _ _) (isI_11_0) h2.1.1 h2.1.2 ((tt_push (p_206_4 _ _)).mpr (Exists.elim h2.2 (fun m3 h4 => t3_ald (p_206_7 _ _) h4.1.1 h4.1.2 (t3_if (p := ¬ (s.1 a1 ((186 : Int32)).toNatClampNeg) = 0) (p_206_8 _ _) rfl (fun g5 => (tt_aload (p_206_16 _ _) rfl).mpr (t2_callv (z := 205) (k := 1) (i := r0) (as := []) (rest := []) (p_206_17 _ _) mK_205 mL_205 rfl rfl (Nat.le_of_ble_eq_true rfl) rfl (Nat.le_of_ble_eq_true rfl) (ifp h4.2 g5).1 (ifp h4.2 g5).2)) (fun g5 => (tt_push (p_206_11 _ _)).mpr ((tt_goto (p_206_13 _ _)).mpr ((ifn h4.2 g5))))))))))
theorem b_206_20 {Y : sY} {d : Nat} {s : sT} {K : Option Int32 → sT → Prop} {r0 : Nat} {t0 : Int32} (h : K (some t0) s) : tT Y (d + 1) 206 20 [.ref r0] [.int t0] s K :=
  tt_ret1 (p_206_20 _ _) h
/-! InclusionProverModel.why.(I)I -/
theorem p_207_0 (L : Nat) (xs : Nat → Int32) : ll_P L xs 207 0 = some (.inl (lo_iload 1 1)) := (P_207 L xs 0).trans rfl
theorem p_207_1 (L : Nat) (xs : Nat → Int32) : ll_P L xs 207 1 = some (.inl (lo_push 2 (.int 0))) := (P_207 L xs 1).trans rfl
theorem p_207_2 (L : Nat) (xs : Nat → Int32) : ll_P L xs 207 2 = some (.inl (lo_push 3 (.int 2))) := (P_207 L xs 2).trans rfl
theorem p_207_3 (L : Nat) (xs : Nat → Int32) : ll_P L xs 207 3 = some (.inr (.inl (151, 3, 6))) := (P_207 L xs 3).trans rfl
theorem p_207_6 (L : Nat) (xs : Nat → Int32) : ll_P L xs 207 6 = some (.inl (lo_if 11 9 (fun x => decide (¬ x = 0)))) := (P_207 L xs 6).trans rfl
theorem p_207_9 (L : Nat) (xs : Nat → Int32) : ll_P L xs 207 9 = some (.inl (lo_push 10 (.int (-1)))) := (P_207 L xs 9).trans rfl
theorem p_207_10 (L : Nat) (xs : Nat → Int32) : ll_P L xs 207 10 = some (.inr (.inr 1)) := (P_207 L xs 10).trans rfl
theorem p_207_11 (L : Nat) (xs : Nat → Int32) : ll_P L xs 207 11 = some (.inl (lo_aload 12 0)) := (P_207 L xs 11).trans rfl
theorem p_207_12 (L : Nat) (xs : Nat → Int32) : ll_P L xs 207 12 = some (.inl (lo_getf 15 11 0)) := (P_207 L xs 12).trans rfl
theorem p_207_15 (L : Nat) (xs : Nat → Int32) : ll_P L xs 207 15 = some (.inl (lo_push 18 (.int 186))) := (P_207 L xs 15).trans rfl
theorem p_207_18 (L : Nat) (xs : Nat → Int32) : ll_P L xs 207 18 = some (.inl (lo_ald 19 0)) := (P_207 L xs 18).trans rfl
theorem p_207_19 (L : Nat) (xs : Nat → Int32) : ll_P L xs 207 19 = some (.inl (lo_if 24 22 (fun x => decide (¬ x = 0)))) := (P_207 L xs 19).trans rfl
theorem p_207_22 (L : Nat) (xs : Nat → Int32) : ll_P L xs 207 22 = some (.inl (lo_push 23 (.int 0))) := (P_207 L xs 22).trans rfl
theorem p_207_23 (L : Nat) (xs : Nat → Int32) : ll_P L xs 207 23 = some (.inr (.inr 1)) := (P_207 L xs 23).trans rfl
theorem p_207_24 (L : Nat) (xs : Nat → Int32) : ll_P L xs 207 24 = some (.inl (lo_aload 25 0)) := (P_207 L xs 24).trans rfl
theorem p_207_25 (L : Nat) (xs : Nat → Int32) : ll_P L xs 207 25 = some (.inr (.inl (205, 1, 28))) := (P_207 L xs 25).trans rfl
theorem p_207_28 (L : Nat) (xs : Nat → Int32) : ll_P L xs 207 28 = some (.inl (lo_istore 29 2)) := (P_207 L xs 28).trans rfl
theorem p_207_29 (L : Nat) (xs : Nat → Int32) : ll_P L xs 207 29 = some (.inl (lo_iload 30 2)) := (P_207 L xs 29).trans rfl
theorem p_207_30 (L : Nat) (xs : Nat → Int32) : ll_P L xs 207 30 = some (.inl (lo_push 31 (.int (-1)))) := (P_207 L xs 30).trans rfl
theorem p_207_31 (L : Nat) (xs : Nat → Int32) : ll_P L xs 207 31 = some (.inl (lo_cmp 38 34 (fun x y => decide (¬ x = y)))) := (P_207 L xs 31).trans rfl
theorem p_207_34 (L : Nat) (xs : Nat → Int32) : ll_P L xs 207 34 = some (.inl (lo_push 35 (.int 0))) := (P_207 L xs 34).trans rfl
theorem p_207_35 (L : Nat) (xs : Nat → Int32) : ll_P L xs 207 35 = some (.inl (lo_goto 65)) := (P_207 L xs 35).trans rfl
theorem p_207_38 (L : Nat) (xs : Nat → Int32) : ll_P L xs 207 38 = some (.inl (lo_iload 39 1)) := (P_207 L xs 38).trans rfl
theorem p_207_39 (L : Nat) (xs : Nat → Int32) : ll_P L xs 207 39 = some (.inl (lo_if 49 42 (fun x => decide (¬ x = 0)))) := (P_207 L xs 39).trans rfl
theorem p_207_42 (L : Nat) (xs : Nat → Int32) : ll_P L xs 207 42 = some (.inl (lo_aload 43 0)) := (P_207 L xs 42).trans rfl
theorem p_207_43 (L : Nat) (xs : Nat → Int32) : ll_P L xs 207 43 = some (.inl (lo_getf 46 11 44)) := (P_207 L xs 43).trans rfl
theorem p_207_46 (L : Nat) (xs : Nat → Int32) : ll_P L xs 207 46 = some (.inl (lo_goto 65)) := (P_207 L xs 46).trans rfl
theorem p_207_49 (L : Nat) (xs : Nat → Int32) : ll_P L xs 207 49 = some (.inl (lo_iload 50 1)) := (P_207 L xs 49).trans rfl
theorem p_207_50 (L : Nat) (xs : Nat → Int32) : ll_P L xs 207 50 = some (.inl (lo_push 51 (.int 1))) := (P_207 L xs 50).trans rfl
theorem p_207_51 (L : Nat) (xs : Nat → Int32) : ll_P L xs 207 51 = some (.inl (lo_cmp 61 54 (fun x y => decide (¬ x = y)))) := (P_207 L xs 51).trans rfl
theorem p_207_54 (L : Nat) (xs : Nat → Int32) : ll_P L xs 207 54 = some (.inl (lo_aload 55 0)) := (P_207 L xs 54).trans rfl
theorem p_207_55 (L : Nat) (xs : Nat → Int32) : ll_P L xs 207 55 = some (.inl (lo_getf 58 11 42)) := (P_207 L xs 55).trans rfl
theorem p_207_58 (L : Nat) (xs : Nat → Int32) : ll_P L xs 207 58 = some (.inl (lo_goto 65)) := (P_207 L xs 58).trans rfl
theorem p_207_61 (L : Nat) (xs : Nat → Int32) : ll_P L xs 207 61 = some (.inl (lo_aload 62 0)) := (P_207 L xs 61).trans rfl
theorem p_207_62 (L : Nat) (xs : Nat → Int32) : ll_P L xs 207 62 = some (.inl (lo_getf 65 11 43)) := (P_207 L xs 62).trans rfl
theorem p_207_65 (L : Nat) (xs : Nat → Int32) : ll_P L xs 207 65 = some (.inr (.inr 1)) := (P_207 L xs 65).trans rfl
theorem b_207_0 {Y : sY} {d : Nat} {s : sT} {K : Option Int32 → sT → Prop} {r0 : Nat} {x1 : Int32} (h : tT Y d 151 0 [.int x1, .int (0 : Int32), .int (2 : Int32)] [] s (fun r s1 => tT Y (d + 1) 207 6 [.ref r0, .int x1, .null] ((r.map Value.int).toList ++ []) s1 K)) : tT Y (d + 1) 207 0 [.ref r0, .int x1, .null] [] s K :=
  (tt_iload (p_207_0 _ _) rfl).mpr ((tt_push (p_207_1 _ _)).mpr ((tt_push (p_207_2 _ _)).mpr (t2_calls (z := 151) (k := 3) (as := [.int x1, .int (0 : Int32), .int (2 : Int32)]) (rest := []) (p_207_3 _ _) mK_151 mL_151 rfl rfl (Nat.le_of_ble_eq_true rfl) rfl (Nat.le_of_ble_eq_true rfl) h)))
theorem b_207_6 {Y : sY} {d : Nat} {s : sT} {K : Option Int32 → sT → Prop} {r0 : Nat} {x1 : Int32} {t0 : Int32} (h : (if ¬ t0 = 0 then (∃ a2, (isO Y r0 11 ∧ s.2 r0 0 = some a2) ∧ (∃ m4, (isA Y a2 0 m4 ∧ inR (186 : Int32) m4) ∧ (if ¬ (s.1 a2 ((186 : Int32)).toNatClampNeg) = 0 then (isO Y r0 11 ∧ tT Y d 205 0 [.ref r0, .null] [] s (fun r s1 => tT Y (d + 1) 207 28 [.ref r0, .int x1, .null] ((r.map Value.int).toList ++ []) s1 K)) else K (some (0 : Int32)) s))) else K (some (-1 : Int32)) s)) : tT Y (d + 1) 207 6 [.ref r0, .int x1, .null] [.int t0] s K :=
  t3_if (p := ¬ t0 = 0) (p_207_6 _ _) rfl (fun g1 => (tt_aload (p_207_11 _ _) rfl).mpr (Exists.elim (ifp h g1) (fun a2 h3 => t3_getr (p_207_12 _ _) (isI_11_0) h3.1.1 h3.1.2 ((tt_push (p_207_15 _ _)).mpr (Exists.elim h3.2 (fun m4 h5 => t3_ald (p_207_18 _ _) h5.1.1 h5.1.2 (t3_if (p := ¬ (s.1 a2 ((186 : Int32)).toNatClampNeg) = 0) (p_207_19 _ _) rfl (fun g6 => (tt_aload (p_207_24 _ _) rfl).mpr (t2_callv (z := 205) (k := 1) (i := r0) (as := []) (rest := []) (p_207_25 _ _) mK_205 mL_205 rfl rfl (Nat.le_of_ble_eq_true rfl) rfl (Nat.le_of_ble_eq_true rfl) (ifp h5.2 g6).1 (ifp h5.2 g6).2)) (fun g6 => (tt_push (p_207_22 _ _)).mpr (tt_ret1 (p_207_23 _ _) (ifn h5.2 g6)))))))))) (fun g1 => (tt_push (p_207_9 _ _)).mpr (tt_ret1 (p_207_10 _ _) (ifn h g1)))
theorem b_207_28 {Y : sY} {d : Nat} {s : sT} {K : Option Int32 → sT → Prop} {r0 : Nat} {x1 : Int32} {t0 : Int32} (h : (if ¬ t0 = (-1 : Int32) then (if ¬ x1 = 0 then (if ¬ x1 = (1 : Int32) then (isO Y r0 11 ∧ K (some (s.1 r0 43)) s) else (isO Y r0 11 ∧ K (some (s.1 r0 42)) s)) else (isO Y r0 11 ∧ K (some (s.1 r0 44)) s)) else K (some (0 : Int32)) s)) : tT Y (d + 1) 207 28 [.ref r0, .int x1, .null] [.int t0] s K :=
  (tt_istore (p_207_28 _ _) (Nat.le_of_ble_eq_true rfl) rfl rfl).mpr ((tt_iload (p_207_29 _ _) rfl).mpr ((tt_push (p_207_30 _ _)).mpr (t3_cmp (p := ¬ t0 = (-1 : Int32)) (p_207_31 _ _) rfl (fun g1 => (tt_iload (p_207_38 _ _) rfl).mpr (t3_if (p := ¬ x1 = 0) (p_207_39 _ _) rfl (fun g2 => (tt_iload (p_207_49 _ _) rfl).mpr ((tt_push (p_207_50 _ _)).mpr (t3_cmp (p := ¬ x1 = (1 : Int32)) (p_207_51 _ _) rfl (fun g3 => (tt_aload (p_207_61 _ _) rfl).mpr (t3_geti (p_207_62 _ _) (isI_11_43) (ifp (ifp (ifp h g1) g2) g3).1 (tt_ret1 (p_207_65 _ _) (ifp (ifp (ifp h g1) g2) g3).2))) (fun g3 => (tt_aload (p_207_54 _ _) rfl).mpr (t3_geti (p_207_55 _ _) (isI_11_42) (ifn (ifp (ifp h g1) g2) g3).1 ((tt_goto (p_207_58 _ _)).mpr (tt_ret1 (p_207_65 _ _) (ifn (ifp (ifp h g1) g2) g3).2))))))) (fun g2 => (tt_aload (p_207_42 _ _) rfl).mpr (t3_geti (p_207_43 _ _) (isI_11_44) (ifn (ifp h g1) g2).1 ((tt_goto (p_207_46 _ _)).mpr (tt_ret1 (p_207_65 _ _) (ifn (ifp h g1) g2).2)))))) (fun g1 => (tt_push (p_207_34 _ _)).mpr ((tt_goto (p_207_35 _ _)).mpr (tt_ret1 (p_207_65 _ _) (ifn h g1)))))))
/-! InclusionProverModel.write.(J)I -/
theorem p_208_0 (L : Nat) (xs : Nat → Int32) : ll_P L xs 208 0 = some (.inl (lo_push 1 (.int 0))) := (P_208 L xs 0).trans rfl
theorem p_208_1 (L : Nat) (xs : Nat → Int32) : ll_P L xs 208 1 = some (.inl (lo_istore 2 3)) := (P_208 L xs 1).trans rfl
theorem p_208_2 (L : Nat) (xs : Nat → Int32) : ll_P L xs 208 2 = some (.inl (lo_iload 3 3)) := (P_208 L xs 2).trans rfl
theorem p_208_3 (L : Nat) (xs : Nat → Int32) : ll_P L xs 208 3 = some (.inl (lo_push 5 (.int 8))) := (P_208 L xs 3).trans rfl
theorem p_208_5 (L : Nat) (xs : Nat → Int32) : ll_P L xs 208 5 = some (.inl (lo_cmp 32 8 (fun x y => decide (y ≤ x)))) := (P_208 L xs 5).trans rfl
theorem p_208_8 (L : Nat) (xs : Nat → Int32) : ll_P L xs 208 8 = some (.inl (lo_lload 9 1)) := (P_208 L xs 8).trans rfl
theorem p_208_9 (L : Nat) (xs : Nat → Int32) : ll_P L xs 208 9 = some (.inl (lo_push 11 (.int 56))) := (P_208 L xs 9).trans rfl
theorem p_208_11 (L : Nat) (xs : Nat → Int32) : ll_P L xs 208 11 = some (.inl (lo_push 13 (.int 8))) := (P_208 L xs 11).trans rfl
theorem p_208_13 (L : Nat) (xs : Nat → Int32) : ll_P L xs 208 13 = some (.inl (lo_iload 14 3)) := (P_208 L xs 13).trans rfl
theorem p_208_14 (L : Nat) (xs : Nat → Int32) : ll_P L xs 208 14 = some (.inl (lo_bin 15 (fun x y => x * y))) := (P_208 L xs 14).trans rfl
theorem p_208_15 (L : Nat) (xs : Nat → Int32) : ll_P L xs 208 15 = some (.inl (lo_bin 16 (fun x y => x - y))) := (P_208 L xs 15).trans rfl
theorem p_208_16 (L : Nat) (xs : Nat → Int32) : ll_P L xs 208 16 = some (.inl (lo_lsh 17 (fun x y => (x.toUInt64 >>> (y.toInt64.toUInt64 &&& Int64.toUInt64 63)).toInt64))) := (P_208 L xs 16).trans rfl
theorem p_208_17 (L : Nat) (xs : Nat → Int32) : ll_P L xs 208 17 = some (.inl (lo_push 20 (.long 255))) := (P_208 L xs 17).trans rfl
theorem p_208_20 (L : Nat) (xs : Nat → Int32) : ll_P L xs 208 20 = some (.inl (lo_lbin 21 (fun x y => x &&& y))) := (P_208 L xs 20).trans rfl
theorem p_208_21 (L : Nat) (xs : Nat → Int32) : ll_P L xs 208 21 = some (.inl (lo_push 22 (.long 0))) := (P_208 L xs 21).trans rfl
theorem p_208_22 (L : Nat) (xs : Nat → Int32) : ll_P L xs 208 22 = some (.inl (lo_lcmp 23)) := (P_208 L xs 22).trans rfl
theorem p_208_23 (L : Nat) (xs : Nat → Int32) : ll_P L xs 208 23 = some (.inl (lo_if 32 26 (fun x => decide (x = 0)))) := (P_208 L xs 23).trans rfl
theorem p_208_26 (L : Nat) (xs : Nat → Int32) : ll_P L xs 208 26 = some (.inl (lo_iinc 29 3 1)) := (P_208 L xs 26).trans rfl
theorem p_208_29 (L : Nat) (xs : Nat → Int32) : ll_P L xs 208 29 = some (.inl (lo_goto 2)) := (P_208 L xs 29).trans rfl
theorem p_208_32 (L : Nat) (xs : Nat → Int32) : ll_P L xs 208 32 = some (.inl (lo_aload 33 0)) := (P_208 L xs 32).trans rfl
theorem p_208_33 (L : Nat) (xs : Nat → Int32) : ll_P L xs 208 33 = some (.inl (lo_getf 36 11 3)) := (P_208 L xs 33).trans rfl
theorem p_208_36 (L : Nat) (xs : Nat → Int32) : ll_P L xs 208 36 = some (.inl (lo_iload 37 3)) := (P_208 L xs 36).trans rfl
theorem p_208_37 (L : Nat) (xs : Nat → Int32) : ll_P L xs 208 37 = some (.inl (lo_bin 38 (fun x y => x + y))) := (P_208 L xs 37).trans rfl
theorem p_208_38 (L : Nat) (xs : Nat → Int32) : ll_P L xs 208 38 = some (.inl (lo_push 40 (.int 60))) := (P_208 L xs 38).trans rfl
theorem p_208_40 (L : Nat) (xs : Nat → Int32) : ll_P L xs 208 40 = some (.inl (lo_cmp 45 43 (fun x y => decide (x ≤ y)))) := (P_208 L xs 40).trans rfl
theorem p_208_43 (L : Nat) (xs : Nat → Int32) : ll_P L xs 208 43 = some (.inl (lo_push 44 (.int (-1)))) := (P_208 L xs 43).trans rfl
theorem p_208_44 (L : Nat) (xs : Nat → Int32) : ll_P L xs 208 44 = some (.inr (.inr 1)) := (P_208 L xs 44).trans rfl
theorem p_208_45 (L : Nat) (xs : Nat → Int32) : ll_P L xs 208 45 = some (.inl (lo_push 46 (.int 0))) := (P_208 L xs 45).trans rfl
theorem p_208_46 (L : Nat) (xs : Nat → Int32) : ll_P L xs 208 46 = some (.inl (lo_istore 48 4)) := (P_208 L xs 46).trans rfl
theorem p_208_48 (L : Nat) (xs : Nat → Int32) : ll_P L xs 208 48 = some (.inl (lo_iload 50 4)) := (P_208 L xs 48).trans rfl
theorem p_208_50 (L : Nat) (xs : Nat → Int32) : ll_P L xs 208 50 = some (.inl (lo_iload 51 3)) := (P_208 L xs 50).trans rfl
theorem p_208_51 (L : Nat) (xs : Nat → Int32) : ll_P L xs 208 51 = some (.inl (lo_cmp 87 54 (fun x y => decide (y ≤ x)))) := (P_208 L xs 51).trans rfl
theorem p_208_54 (L : Nat) (xs : Nat → Int32) : ll_P L xs 208 54 = some (.inl (lo_aload 55 0)) := (P_208 L xs 54).trans rfl
theorem p_208_55 (L : Nat) (xs : Nat → Int32) : ll_P L xs 208 55 = some (.inl (lo_getf 58 11 1)) := (P_208 L xs 55).trans rfl
theorem p_208_58 (L : Nat) (xs : Nat → Int32) : ll_P L xs 208 58 = some (.inl (lo_aload 59 0)) := (P_208 L xs 58).trans rfl
theorem p_208_59 (L : Nat) (xs : Nat → Int32) : ll_P L xs 208 59 = some (.inl (lo_getf 62 11 3)) := (P_208 L xs 59).trans rfl
theorem p_208_62 (L : Nat) (xs : Nat → Int32) : ll_P L xs 208 62 = some (.inl (lo_iload 64 4)) := (P_208 L xs 62).trans rfl
theorem p_208_64 (L : Nat) (xs : Nat → Int32) : ll_P L xs 208 64 = some (.inl (lo_bin 65 (fun x y => x + y))) := (P_208 L xs 64).trans rfl
theorem p_208_65 (L : Nat) (xs : Nat → Int32) : ll_P L xs 208 65 = some (.inl (lo_lload 66 1)) := (P_208 L xs 65).trans rfl
theorem p_208_66 (L : Nat) (xs : Nat → Int32) : ll_P L xs 208 66 = some (.inl (lo_push 68 (.int 56))) := (P_208 L xs 66).trans rfl
theorem p_208_68 (L : Nat) (xs : Nat → Int32) : ll_P L xs 208 68 = some (.inl (lo_push 70 (.int 8))) := (P_208 L xs 68).trans rfl
theorem p_208_70 (L : Nat) (xs : Nat → Int32) : ll_P L xs 208 70 = some (.inl (lo_iload 72 4)) := (P_208 L xs 70).trans rfl
theorem p_208_72 (L : Nat) (xs : Nat → Int32) : ll_P L xs 208 72 = some (.inl (lo_bin 73 (fun x y => x * y))) := (P_208 L xs 72).trans rfl
theorem p_208_73 (L : Nat) (xs : Nat → Int32) : ll_P L xs 208 73 = some (.inl (lo_bin 74 (fun x y => x - y))) := (P_208 L xs 73).trans rfl
theorem p_208_74 (L : Nat) (xs : Nat → Int32) : ll_P L xs 208 74 = some (.inl (lo_lsh 75 (fun x y => (x.toUInt64 >>> (y.toInt64.toUInt64 &&& Int64.toUInt64 63)).toInt64))) := (P_208 L xs 74).trans rfl
theorem p_208_75 (L : Nat) (xs : Nat → Int32) : ll_P L xs 208 75 = some (.inl (lo_push 78 (.long 255))) := (P_208 L xs 75).trans rfl
theorem p_208_78 (L : Nat) (xs : Nat → Int32) : ll_P L xs 208 78 = some (.inl (lo_lbin 79 (fun x y => x &&& y))) := (P_208 L xs 78).trans rfl
theorem p_208_79 (L : Nat) (xs : Nat → Int32) : ll_P L xs 208 79 = some (.inl (lo_l2i 80)) := (P_208 L xs 79).trans rfl
theorem p_208_80 (L : Nat) (xs : Nat → Int32) : ll_P L xs 208 80 = some (.inl (lo_ast 81 0)) := (P_208 L xs 80).trans rfl
theorem p_208_81 (L : Nat) (xs : Nat → Int32) : ll_P L xs 208 81 = some (.inl (lo_iinc 84 4 1)) := (P_208 L xs 81).trans rfl
theorem p_208_84 (L : Nat) (xs : Nat → Int32) : ll_P L xs 208 84 = some (.inl (lo_goto 48)) := (P_208 L xs 84).trans rfl
theorem p_208_87 (L : Nat) (xs : Nat → Int32) : ll_P L xs 208 87 = some (.inl (lo_aload 88 0)) := (P_208 L xs 87).trans rfl
theorem p_208_88 (L : Nat) (xs : Nat → Int32) : ll_P L xs 208 88 = some (.inl (lo_dup 89)) := (P_208 L xs 88).trans rfl
theorem p_208_89 (L : Nat) (xs : Nat → Int32) : ll_P L xs 208 89 = some (.inl (lo_getf 92 11 3)) := (P_208 L xs 89).trans rfl
theorem p_208_92 (L : Nat) (xs : Nat → Int32) : ll_P L xs 208 92 = some (.inl (lo_iload 93 3)) := (P_208 L xs 92).trans rfl
theorem p_208_93 (L : Nat) (xs : Nat → Int32) : ll_P L xs 208 93 = some (.inl (lo_bin 94 (fun x y => x + y))) := (P_208 L xs 93).trans rfl
theorem p_208_94 (L : Nat) (xs : Nat → Int32) : ll_P L xs 208 94 = some (.inl (lo_putf 97 11 3 0)) := (P_208 L xs 94).trans rfl
theorem p_208_97 (L : Nat) (xs : Nat → Int32) : ll_P L xs 208 97 = some (.inl (lo_aload 98 0)) := (P_208 L xs 97).trans rfl
theorem p_208_98 (L : Nat) (xs : Nat → Int32) : ll_P L xs 208 98 = some (.inl (lo_getf 101 11 3)) := (P_208 L xs 98).trans rfl
theorem p_208_101 (L : Nat) (xs : Nat → Int32) : ll_P L xs 208 101 = some (.inr (.inr 1)) := (P_208 L xs 101).trans rfl
theorem b_208_0 {Y : sY} {d : Nat} {s : sT} {K : Option Int32 → sT → Prop} {r0 : Nat} {w1 : Int64} (h : tT Y d 208 2 [.ref r0, .long w1, .null, .int (0 : Int32), .null] [] s K) : tT Y d 208 0 [.ref r0, .long w1, .null, .null, .null] [] s K :=
  (tt_push (p_208_0 _ _)).mpr ((tt_istore (p_208_1 _ _) (Nat.le_of_ble_eq_true rfl) rfl rfl).mpr (h))
theorem b_208_2 {Y : sY} {d : Nat} {s : sT} {K : Option Int32 → sT → Prop} {r0 : Nat} {w1 : Int64} {x3 : Int32} (h : (if (8 : Int32) ≤ x3 then tT Y d 208 32 [.ref r0, .long w1, .null, .int x3, .null] [] s K else (if (lg_cmp ((w1.toUInt64 >>> ((((56 : Int32) - ((8 : Int32) * x3)) : Int32).toInt64.toUInt64 &&& Int64.toUInt64 63)).toInt64 &&& (255 : Int64)) (0 : Int64)) = 0 then tT Y d 208 32 [.ref r0, .long w1, .null, .int x3, .null] [] s K else tT Y d 208 2 [.ref r0, .long w1, .null, .int (x3 + 1), .null] [] s K))) : tT Y d 208 2 [.ref r0, .long w1, .null, .int x3, .null] [] s K :=
  (tt_iload (p_208_2 _ _) rfl).mpr ((tt_push (p_208_3 _ _)).mpr (t3_cmp (p := (8 : Int32) ≤ x3) (p_208_5 _ _) rfl (fun g1 => (ifp h g1)) (fun g1 => (tt_lload (p_208_8 _ _) rfl).mpr ((tt_push (p_208_9 _ _)).mpr ((tt_push (p_208_11 _ _)).mpr ((tt_iload (p_208_13 _ _) rfl).mpr ((tt_bin (p_208_14 _ _)).mpr ((tt_bin (p_208_15 _ _)).mpr ((tt_lsh (p_208_16 _ _)).mpr ((tt_push (p_208_17 _ _)).mpr ((tt_lbin (p_208_20 _ _)).mpr ((tt_push (p_208_21 _ _)).mpr ((tt_lcmp (p_208_22 _ _)).mpr (t3_if (p := (lg_cmp ((w1.toUInt64 >>> ((((56 : Int32) - ((8 : Int32) * x3)) : Int32).toInt64.toUInt64 &&& Int64.toUInt64 63)).toInt64 &&& (255 : Int64)) (0 : Int64)) = 0) (p_208_23 _ _) rfl (fun g2 => (ifp (ifn h g1) g2)) (fun g2 => (tt_iinc (p_208_26 _ _) rfl rfl rfl).mpr ((tt_goto (p_208_29 _ _)).mpr ((ifn (ifn h g1) g2))))))))))))))))))
theorem b_208_32 {Y : sY} {d : Nat} {s : sT} {K : Option Int32 → sT → Prop} {r0 : Nat} {w1 : Int64} {x3 : Int32} (h : (isO Y r0 11 ∧ (if ((s.1 r0 3) + x3) ≤ (60 : Int32) then tT Y d 208 48 [.ref r0, .long w1, .null, .int x3, .int (0 : Int32)] [] s K else K (some (-1 : Int32)) s))) : tT Y d 208 32 [.ref r0, .long w1, .null, .int x3, .null] [] s K :=
  (tt_aload (p_208_32 _ _) rfl).mpr (t3_geti (p_208_33 _ _) (isI_11_3) h.1 ((tt_iload (p_208_36 _ _) rfl).mpr ((tt_bin (p_208_37 _ _)).mpr ((tt_push (p_208_38 _ _)).mpr (t3_cmp (p := ((s.1 r0 3) + x3) ≤ (60 : Int32)) (p_208_40 _ _) rfl (fun g1 => (tt_push (p_208_45 _ _)).mpr ((tt_istore (p_208_46 _ _) (Nat.le_of_ble_eq_true rfl) rfl rfl).mpr ((ifp h.2 g1)))) (fun g1 => (tt_push (p_208_43 _ _)).mpr (tt_ret1 (p_208_44 _ _) (ifn h.2 g1))))))))
theorem b_208_48 {Y : sY} {d : Nat} {s : sT} {K : Option Int32 → sT → Prop} {r0 : Nat} {w1 : Int64} {x3 : Int32} {x4 : Int32} (h : (if x3 ≤ x4 then (isO Y r0 11 ∧ (isO Y r0 11 ∧ (isO Y r0 11 ∧ K (some ((pV s r0 3 ((s.1 r0 3) + x3)).1 r0 3)) (pV s r0 3 ((s.1 r0 3) + x3))))) else (∃ a2, (isO Y r0 11 ∧ s.2 r0 1 = some a2) ∧ (isO Y r0 11 ∧ (∃ m4, (isA Y a2 0 m4 ∧ inR ((s.1 r0 3) + x4) m4) ∧ tT Y d 208 48 [.ref r0, .long w1, .null, .int x3, .int (x4 + 1)] [] (pV s a2 (((s.1 r0 3) + x4)).toNatClampNeg (((w1.toUInt64 >>> ((((56 : Int32) - ((8 : Int32) * x4)) : Int32).toInt64.toUInt64 &&& Int64.toUInt64 63)).toInt64 &&& (255 : Int64)) : Int64).toInt32) K))))) : tT Y d 208 48 [.ref r0, .long w1, .null, .int x3, .int x4] [] s K :=
  (tt_iload (p_208_48 _ _) rfl).mpr ((tt_iload (p_208_50 _ _) rfl).mpr (t3_cmp (p := x3 ≤ x4) (p_208_51 _ _) rfl (fun g1 => (tt_aload (p_208_87 _ _) rfl).mpr ((tt_dupr (p_208_88 _ _)).mpr (t3_geti (p_208_89 _ _) (isI_11_3) (ifp h g1).1 ((tt_iload (p_208_92 _ _) rfl).mpr ((tt_bin (p_208_93 _ _)).mpr ((t2_puti (p_208_94 _ _) isI_11_3 (ifp h g1).2.1).mpr ((tt_aload (p_208_97 _ _) rfl).mpr (t3_geti (p_208_98 _ _) (isI_11_3) (ifp h g1).2.2.1 (tt_ret1 (p_208_101 _ _) (ifp h g1).2.2.2))))))))) (fun g1 => (tt_aload (p_208_54 _ _) rfl).mpr (Exists.elim (ifn h g1) (fun a2 h3 => t3_getr (p_208_55 _ _) (isI_11_1) h3.1.1 h3.1.2 ((tt_aload (p_208_58 _ _) rfl).mpr (t3_geti (p_208_59 _ _) (isI_11_3) h3.2.1 ((tt_iload (p_208_62 _ _) rfl).mpr ((tt_bin (p_208_64 _ _)).mpr ((tt_lload (p_208_65 _ _) rfl).mpr ((tt_push (p_208_66 _ _)).mpr ((tt_push (p_208_68 _ _)).mpr ((tt_iload (p_208_70 _ _) rfl).mpr ((tt_bin (p_208_72 _ _)).mpr ((tt_bin (p_208_73 _ _)).mpr ((tt_lsh (p_208_74 _ _)).mpr ((tt_push (p_208_75 _ _)).mpr ((tt_lbin (p_208_78 _ _)).mpr ((tt_l2i (p_208_79 _ _)).mpr (Exists.elim h3.2.2 (fun m4 h5 => t3_ast (p_208_80 _ _) h5.1.1 h5.1.2 ((tt_iinc (p_208_81 _ _) rfl rfl rfl).mpr ((tt_goto (p_208_84 _ _)).mpr (h5.2))))))))))))))))))))))))
/-! InclusionProverModel.isSide.(I)Z -/
theorem p_209_0 (L : Nat) (xs : Nat → Int32) : ll_P L xs 209 0 = some (.inl (lo_iload 1 0)) := (P_209 L xs 0).trans rfl
theorem p_209_1 (L : Nat) (xs : Nat → Int32) : ll_P L xs 209 1 = some (.inl (lo_if 9 4 (fun x => decide (x = 0)))) := (P_209 L xs 1).trans rfl
theorem p_209_4 (L : Nat) (xs : Nat → Int32) : ll_P L xs 209 4 = some (.inl (lo_iload 5 0)) := (P_209 L xs 4).trans rfl
theorem p_209_5 (L : Nat) (xs : Nat → Int32) : ll_P L xs 209 5 = some (.inl (lo_push 6 (.int 1))) := (P_209 L xs 5).trans rfl
theorem p_209_6 (L : Nat) (xs : Nat → Int32) : ll_P L xs 209 6 = some (.inl (lo_cmp 13 9 (fun x y => decide (¬ x = y)))) := (P_209 L xs 6).trans rfl
theorem p_209_9 (L : Nat) (xs : Nat → Int32) : ll_P L xs 209 9 = some (.inl (lo_push 10 (.int 1))) := (P_209 L xs 9).trans rfl
theorem p_209_10 (L : Nat) (xs : Nat → Int32) : ll_P L xs 209 10 = some (.inl (lo_goto 14)) := (P_209 L xs 10).trans rfl
theorem p_209_13 (L : Nat) (xs : Nat → Int32) : ll_P L xs 209 13 = some (.inl (lo_push 14 (.int 0))) := (P_209 L xs 13).trans rfl
theorem p_209_14 (L : Nat) (xs : Nat → Int32) : ll_P L xs 209 14 = some (.inr (.inr 2)) := (P_209 L xs 14).trans rfl
theorem b_209_0 {Y : sY} {d : Nat} {s : sT} {K : Option Int32 → sT → Prop} {x0 : Int32} (h : (if x0 = 0 then K (some (1 : Int32)) s else (if ¬ x0 = (1 : Int32) then K (some (0 : Int32)) s else K (some (1 : Int32)) s))) : tT Y d 209 0 [.int x0] [] s K :=
  (tt_iload (p_209_0 _ _) rfl).mpr (t3_if (p := x0 = 0) (p_209_1 _ _) rfl (fun g1 => (tt_push (p_209_9 _ _)).mpr ((tt_goto (p_209_10 _ _)).mpr (tt_ret2 (p_209_14 _ _) (Or.inr rfl) (ifp h g1)))) (fun g1 => (tt_iload (p_209_4 _ _) rfl).mpr ((tt_push (p_209_5 _ _)).mpr (t3_cmp (p := ¬ x0 = (1 : Int32)) (p_209_6 _ _) rfl (fun g2 => (tt_push (p_209_13 _ _)).mpr (tt_ret2 (p_209_14 _ _) (Or.inl rfl) (ifp (ifn h g1) g2))) (fun g2 => (tt_push (p_209_9 _ _)).mpr ((tt_goto (p_209_10 _ _)).mpr (tt_ret2 (p_209_14 _ _) (Or.inr rfl) (ifn (ifn h g1) g2))))))))
/-! InclusionProverModel.becomes.(II)I -/
theorem p_210_0 (L : Nat) (xs : Nat → Int32) : ll_P L xs 210 0 = some (.inl (lo_aload 1 0)) := (P_210 L xs 0).trans rfl
theorem p_210_1 (L : Nat) (xs : Nat → Int32) : ll_P L xs 210 1 = some (.inl (lo_iload 2 2)) := (P_210 L xs 1).trans rfl
theorem p_210_2 (L : Nat) (xs : Nat → Int32) : ll_P L xs 210 2 = some (.inr (.inl (169, 2, 5))) := (P_210 L xs 2).trans rfl
theorem p_210_5 (L : Nat) (xs : Nat → Int32) : ll_P L xs 210 5 = some (.inl (lo_aload 6 0)) := (P_210 L xs 5).trans rfl
theorem p_210_6 (L : Nat) (xs : Nat → Int32) : ll_P L xs 210 6 = some (.inl (lo_getf 9 11 30)) := (P_210 L xs 6).trans rfl
theorem p_210_9 (L : Nat) (xs : Nat → Int32) : ll_P L xs 210 9 = some (.inl (lo_push 11 (.int 30))) := (P_210 L xs 9).trans rfl
theorem p_210_11 (L : Nat) (xs : Nat → Int32) : ll_P L xs 210 11 = some (.inl (lo_cmp 16 14 (fun x y => decide (x ≤ y)))) := (P_210 L xs 11).trans rfl
theorem p_210_14 (L : Nat) (xs : Nat → Int32) : ll_P L xs 210 14 = some (.inl (lo_push 15 (.int (-1)))) := (P_210 L xs 14).trans rfl
theorem p_210_15 (L : Nat) (xs : Nat → Int32) : ll_P L xs 210 15 = some (.inr (.inr 1)) := (P_210 L xs 15).trans rfl
theorem p_210_16 (L : Nat) (xs : Nat → Int32) : ll_P L xs 210 16 = some (.inl (lo_aload 17 0)) := (P_210 L xs 16).trans rfl
theorem p_210_17 (L : Nat) (xs : Nat → Int32) : ll_P L xs 210 17 = some (.inl (lo_getf 20 11 0)) := (P_210 L xs 17).trans rfl
theorem p_210_20 (L : Nat) (xs : Nat → Int32) : ll_P L xs 210 20 = some (.inl (lo_push 22 (.int 31))) := (P_210 L xs 20).trans rfl
theorem p_210_22 (L : Nat) (xs : Nat → Int32) : ll_P L xs 210 22 = some (.inl (lo_iload 23 1)) := (P_210 L xs 22).trans rfl
theorem p_210_23 (L : Nat) (xs : Nat → Int32) : ll_P L xs 210 23 = some (.inl (lo_bin 24 (fun x y => x * y))) := (P_210 L xs 23).trans rfl
theorem p_210_24 (L : Nat) (xs : Nat → Int32) : ll_P L xs 210 24 = some (.inl (lo_aload 25 0)) := (P_210 L xs 24).trans rfl
theorem p_210_25 (L : Nat) (xs : Nat → Int32) : ll_P L xs 210 25 = some (.inl (lo_getf 28 11 30)) := (P_210 L xs 25).trans rfl
theorem p_210_28 (L : Nat) (xs : Nat → Int32) : ll_P L xs 210 28 = some (.inl (lo_ast 29 0)) := (P_210 L xs 28).trans rfl
theorem p_210_29 (L : Nat) (xs : Nat → Int32) : ll_P L xs 210 29 = some (.inl (lo_push 30 (.int 0))) := (P_210 L xs 29).trans rfl
theorem p_210_30 (L : Nat) (xs : Nat → Int32) : ll_P L xs 210 30 = some (.inl (lo_istore 31 3)) := (P_210 L xs 30).trans rfl
theorem p_210_31 (L : Nat) (xs : Nat → Int32) : ll_P L xs 210 31 = some (.inl (lo_iload 32 3)) := (P_210 L xs 31).trans rfl
theorem p_210_32 (L : Nat) (xs : Nat → Int32) : ll_P L xs 210 32 = some (.inl (lo_aload 33 0)) := (P_210 L xs 32).trans rfl
theorem p_210_33 (L : Nat) (xs : Nat → Int32) : ll_P L xs 210 33 = some (.inl (lo_getf 36 11 30)) := (P_210 L xs 33).trans rfl
theorem p_210_36 (L : Nat) (xs : Nat → Int32) : ll_P L xs 210 36 = some (.inl (lo_cmp 64 39 (fun x y => decide (y ≤ x)))) := (P_210 L xs 36).trans rfl
theorem p_210_39 (L : Nat) (xs : Nat → Int32) : ll_P L xs 210 39 = some (.inl (lo_aload 40 0)) := (P_210 L xs 39).trans rfl
theorem p_210_40 (L : Nat) (xs : Nat → Int32) : ll_P L xs 210 40 = some (.inl (lo_getf 43 11 0)) := (P_210 L xs 40).trans rfl
theorem p_210_43 (L : Nat) (xs : Nat → Int32) : ll_P L xs 210 43 = some (.inl (lo_push 45 (.int 31))) := (P_210 L xs 43).trans rfl
theorem p_210_45 (L : Nat) (xs : Nat → Int32) : ll_P L xs 210 45 = some (.inl (lo_iload 46 1)) := (P_210 L xs 45).trans rfl
theorem p_210_46 (L : Nat) (xs : Nat → Int32) : ll_P L xs 210 46 = some (.inl (lo_bin 47 (fun x y => x * y))) := (P_210 L xs 46).trans rfl
theorem p_210_47 (L : Nat) (xs : Nat → Int32) : ll_P L xs 210 47 = some (.inl (lo_push 48 (.int 1))) := (P_210 L xs 47).trans rfl
theorem p_210_48 (L : Nat) (xs : Nat → Int32) : ll_P L xs 210 48 = some (.inl (lo_bin 49 (fun x y => x + y))) := (P_210 L xs 48).trans rfl
theorem p_210_49 (L : Nat) (xs : Nat → Int32) : ll_P L xs 210 49 = some (.inl (lo_iload 50 3)) := (P_210 L xs 49).trans rfl
theorem p_210_50 (L : Nat) (xs : Nat → Int32) : ll_P L xs 210 50 = some (.inl (lo_bin 51 (fun x y => x + y))) := (P_210 L xs 50).trans rfl
theorem p_210_51 (L : Nat) (xs : Nat → Int32) : ll_P L xs 210 51 = some (.inl (lo_aload 52 0)) := (P_210 L xs 51).trans rfl
theorem p_210_52 (L : Nat) (xs : Nat → Int32) : ll_P L xs 210 52 = some (.inl (lo_getf 55 11 28)) := (P_210 L xs 52).trans rfl
theorem p_210_55 (L : Nat) (xs : Nat → Int32) : ll_P L xs 210 55 = some (.inl (lo_iload 56 3)) := (P_210 L xs 55).trans rfl
theorem p_210_56 (L : Nat) (xs : Nat → Int32) : ll_P L xs 210 56 = some (.inl (lo_ald 57 0)) := (P_210 L xs 56).trans rfl
theorem p_210_57 (L : Nat) (xs : Nat → Int32) : ll_P L xs 210 57 = some (.inl (lo_ast 58 0)) := (P_210 L xs 57).trans rfl
theorem p_210_58 (L : Nat) (xs : Nat → Int32) : ll_P L xs 210 58 = some (.inl (lo_iinc 61 3 1)) := (P_210 L xs 58).trans rfl
theorem p_210_61 (L : Nat) (xs : Nat → Int32) : ll_P L xs 210 61 = some (.inl (lo_goto 31)) := (P_210 L xs 61).trans rfl
theorem p_210_64 (L : Nat) (xs : Nat → Int32) : ll_P L xs 210 64 = some (.inl (lo_aload 65 0)) := (P_210 L xs 64).trans rfl
theorem p_210_65 (L : Nat) (xs : Nat → Int32) : ll_P L xs 210 65 = some (.inl (lo_push 66 (.int 0))) := (P_210 L xs 65).trans rfl
theorem p_210_66 (L : Nat) (xs : Nat → Int32) : ll_P L xs 210 66 = some (.inr (.inl (190, 2, 69))) := (P_210 L xs 66).trans rfl
theorem p_210_69 (L : Nat) (xs : Nat → Int32) : ll_P L xs 210 69 = some (.inl (lo_aload 70 0)) := (P_210 L xs 69).trans rfl
theorem p_210_70 (L : Nat) (xs : Nat → Int32) : ll_P L xs 210 70 = some (.inl (lo_push 71 (.int 0))) := (P_210 L xs 70).trans rfl
theorem p_210_71 (L : Nat) (xs : Nat → Int32) : ll_P L xs 210 71 = some (.inl (lo_push 73 (.int 31))) := (P_210 L xs 71).trans rfl
theorem p_210_73 (L : Nat) (xs : Nat → Int32) : ll_P L xs 210 73 = some (.inr (.inl (180, 3, 76))) := (P_210 L xs 73).trans rfl
theorem p_210_76 (L : Nat) (xs : Nat → Int32) : ll_P L xs 210 76 = some (.inl (lo_aload 77 0)) := (P_210 L xs 76).trans rfl
theorem p_210_77 (L : Nat) (xs : Nat → Int32) : ll_P L xs 210 77 = some (.inl (lo_getf 80 11 35)) := (P_210 L xs 77).trans rfl
theorem p_210_80 (L : Nat) (xs : Nat → Int32) : ll_P L xs 210 80 = some (.inl (lo_iload 81 1)) := (P_210 L xs 80).trans rfl
theorem p_210_81 (L : Nat) (xs : Nat → Int32) : ll_P L xs 210 81 = some (.inl (lo_ald 82 0)) := (P_210 L xs 81).trans rfl
theorem p_210_82 (L : Nat) (xs : Nat → Int32) : ll_P L xs 210 82 = some (.inr (.inr 1)) := (P_210 L xs 82).trans rfl
theorem b_210_0 {Y : sY} {d : Nat} {s : sT} {K : Option Int32 → sT → Prop} {r0 : Nat} {x1 : Int32} {x2 : Int32} (h : (isO Y r0 11 ∧ tT Y d 169 0 [.ref r0, .int x2, .null] [] s (fun r s1 => tT Y (d + 1) 210 5 [.ref r0, .int x1, .int x2, .null] ((r.map Value.int).toList ++ []) s1 K))) : tT Y (d + 1) 210 0 [.ref r0, .int x1, .int x2, .null] [] s K :=
  (tt_aload (p_210_0 _ _) rfl).mpr ((tt_iload (p_210_1 _ _) rfl).mpr (t2_callv (z := 169) (k := 2) (i := r0) (as := [.int x2]) (rest := []) (p_210_2 _ _) mK_169 mL_169 rfl rfl (Nat.le_of_ble_eq_true rfl) rfl (Nat.le_of_ble_eq_true rfl) h.1 h.2))
theorem b_210_5 {Y : sY} {d : Nat} {s : sT} {K : Option Int32 → sT → Prop} {r0 : Nat} {x1 : Int32} {x2 : Int32} (h : (isO Y r0 11 ∧ (if (s.1 r0 30) ≤ (30 : Int32) then (∃ a2, (isO Y r0 11 ∧ s.2 r0 0 = some a2) ∧ (isO Y r0 11 ∧ (∃ m4, (isA Y a2 0 m4 ∧ inR ((31 : Int32) * x1) m4) ∧ tT Y (d + 1) 210 31 [.ref r0, .int x1, .int x2, .int (0 : Int32)] [] (pV s a2 (((31 : Int32) * x1)).toNatClampNeg (s.1 r0 30)) K))) else K (some (-1 : Int32)) s))) : tT Y (d + 1) 210 5 [.ref r0, .int x1, .int x2, .null] [] s K :=
  (tt_aload (p_210_5 _ _) rfl).mpr (t3_geti (p_210_6 _ _) (isI_11_30) h.1 ((tt_push (p_210_9 _ _)).mpr (t3_cmp (p := (s.1 r0 30) ≤ (30 : Int32)) (p_210_11 _ _) rfl (fun g1 => (tt_aload (p_210_16 _ _) rfl).mpr (Exists.elim (ifp h.2 g1) (fun a2 h3 => t3_getr (p_210_17 _ _) (isI_11_0) h3.1.1 h3.1.2 ((tt_push (p_210_20 _ _)).mpr ((tt_iload (p_210_22 _ _) rfl).mpr ((tt_bin (p_210_23 _ _)).mpr ((tt_aload (p_210_24 _ _) rfl).mpr (t3_geti (p_210_25 _ _) (isI_11_30) h3.2.1 (Exists.elim h3.2.2 (fun m4 h5 => t3_ast (p_210_28 _ _) h5.1.1 h5.1.2 ((tt_push (p_210_29 _ _)).mpr ((tt_istore (p_210_30 _ _) (Nat.le_of_ble_eq_true rfl) rfl rfl).mpr (h5.2))))))))))))) (fun g1 => (tt_push (p_210_14 _ _)).mpr (tt_ret1 (p_210_15 _ _) (ifn h.2 g1))))))
theorem b_210_31 {Y : sY} {d : Nat} {s : sT} {K : Option Int32 → sT → Prop} {r0 : Nat} {x1 : Int32} {x2 : Int32} {x3 : Int32} (h : (isO Y r0 11 ∧ (if (s.1 r0 30) ≤ x3 then (isO Y r0 11 ∧ tT Y d 190 0 [.ref r0, .int (0 : Int32)] [] s (fun r s1 => tT Y (d + 1) 210 69 [.ref r0, .int x1, .int x2, .int x3] ((r.map Value.int).toList ++ []) s1 K)) else (∃ a2, (isO Y r0 11 ∧ s.2 r0 0 = some a2) ∧ (∃ a4, (isO Y r0 11 ∧ s.2 r0 28 = some a4) ∧ (∃ m6, (isA Y a4 0 m6 ∧ inR x3 m6) ∧ (∃ m8, (isA Y a2 0 m8 ∧ inR ((((31 : Int32) * x1) + (1 : Int32)) + x3) m8) ∧ tT Y (d + 1) 210 31 [.ref r0, .int x1, .int x2, .int (x3 + 1)] [] (pV s a2 (((((31 : Int32) * x1) + (1 : Int32)) + x3)).toNatClampNeg (s.1 a4 (x3).toNatClampNeg)) K))))))) : tT Y (d + 1) 210 31 [.ref r0, .int x1, .int x2, .int x3] [] s K :=
  (tt_iload (p_210_31 _ _) rfl).mpr ((tt_aload (p_210_32 _ _) rfl).mpr (t3_geti (p_210_33 _ _) (isI_11_30) h.1 (t3_cmp (p := (s.1 r0 30) ≤ x3) (p_210_36 _ _) rfl (fun g1 => (tt_aload (p_210_64 _ _) rfl).mpr ((tt_push (p_210_65 _ _)).mpr (t2_callv (z := 190) (k := 2) (i := r0) (as := [.int (0 : Int32)]) (rest := []) (p_210_66 _ _) mK_190 mL_190 rfl rfl (Nat.le_of_ble_eq_true rfl) rfl (Nat.le_of_ble_eq_true rfl) (ifp h.2 g1).1 (ifp h.2 g1).2))) (fun g1 => (tt_aload (p_210_39 _ _) rfl).mpr (Exists.elim (ifn h.2 g1) (fun a2 h3 => t3_getr (p_210_40 _ _) (isI_11_0) h3.1.1 h3.1.2 ((tt_push (p_210_43 _ _)).mpr ((tt_iload (p_210_45 _ _) rfl).mpr ((tt_bin (p_210_46 _ _)).mpr ((tt_push (p_210_47 _ _)).mpr ((tt_bin (p_210_48 _ _)).mpr ((tt_iload (p_210_49 _ _) rfl).mpr ((tt_bin (p_210_50 _ _)).mpr ((tt_aload (p_210_51 _ _) rfl).mpr (Exists.elim h3.2 (fun a4 h5 => t3_getr (p_210_52 _ _) (isI_11_28) h5.1.1 h5.1.2 ((tt_iload (p_210_55 _ _) rfl).mpr (Exists.elim h5.2 (fun m6 h7 => t3_ald (p_210_56 _ _) h7.1.1 h7.1.2 (Exists.elim h7.2 (fun m8 h9 => t3_ast (p_210_57 _ _) h9.1.1 h9.1.2 ((tt_iinc (p_210_58 _ _) rfl rfl rfl).mpr ((tt_goto (p_210_61 _ _)).mpr (h9.2))))))))))))))))))))))))
theorem b_210_69 {Y : sY} {d : Nat} {s : sT} {K : Option Int32 → sT → Prop} {r0 : Nat} {x1 : Int32} {x2 : Int32} {x3 : Int32} (h : (isO Y r0 11 ∧ tT Y d 180 0 [.ref r0, .int (0 : Int32), .int (31 : Int32), .null, .null] [] s (fun r s1 => tT Y (d + 1) 210 76 [.ref r0, .int x1, .int x2, .int x3] ((r.map Value.int).toList ++ []) s1 K))) : tT Y (d + 1) 210 69 [.ref r0, .int x1, .int x2, .int x3] [] s K :=
  (tt_aload (p_210_69 _ _) rfl).mpr ((tt_push (p_210_70 _ _)).mpr ((tt_push (p_210_71 _ _)).mpr (t2_callv (z := 180) (k := 3) (i := r0) (as := [.int (0 : Int32), .int (31 : Int32)]) (rest := []) (p_210_73 _ _) mK_180 mL_180 rfl rfl (Nat.le_of_ble_eq_true rfl) rfl (Nat.le_of_ble_eq_true rfl) h.1 h.2)))
theorem b_210_76 {Y : sY} {d : Nat} {s : sT} {K : Option Int32 → sT → Prop} {r0 : Nat} {x1 : Int32} {x2 : Int32} {x3 : Int32} (h : (∃ a1, (isO Y r0 11 ∧ s.2 r0 35 = some a1) ∧ (∃ m3, (isA Y a1 0 m3 ∧ inR x1 m3) ∧ K (some (s.1 a1 (x1).toNatClampNeg)) s))) : tT Y (d + 1) 210 76 [.ref r0, .int x1, .int x2, .int x3] [] s K :=
  (tt_aload (p_210_76 _ _) rfl).mpr (Exists.elim h (fun a1 h2 => t3_getr (p_210_77 _ _) (isI_11_35) h2.1.1 h2.1.2 ((tt_iload (p_210_80 _ _) rfl).mpr (Exists.elim h2.2 (fun m3 h4 => t3_ald (p_210_81 _ _) h4.1.1 h4.1.2 (tt_ret1 (p_210_82 _ _) h4.2))))))
/-! InclusionProverModel.side.(I)I -/
theorem p_211_0 (L : Nat) (xs : Nat → Int32) : ll_P L xs 211 0 = some (.inl (lo_aload 1 0)) := (P_211 L xs 0).trans rfl
theorem p_211_1 (L : Nat) (xs : Nat → Int32) : ll_P L xs 211 1 = some (.inl (lo_getf 4 11 3)) := (P_211 L xs 1).trans rfl
theorem p_211_4 (L : Nat) (xs : Nat → Int32) : ll_P L xs 211 4 = some (.inl (lo_istore 5 2)) := (P_211 L xs 4).trans rfl
theorem p_211_5 (L : Nat) (xs : Nat → Int32) : ll_P L xs 211 5 = some (.inl (lo_aload 6 0)) := (P_211 L xs 5).trans rfl
theorem p_211_6 (L : Nat) (xs : Nat → Int32) : ll_P L xs 211 6 = some (.inl (lo_push 7 (.int 0))) := (P_211 L xs 6).trans rfl
theorem p_211_7 (L : Nat) (xs : Nat → Int32) : ll_P L xs 211 7 = some (.inl (lo_putf 10 11 3 0)) := (P_211 L xs 7).trans rfl
theorem p_211_10 (L : Nat) (xs : Nat → Int32) : ll_P L xs 211 10 = some (.inl (lo_aload 11 0)) := (P_211 L xs 10).trans rfl
theorem p_211_11 (L : Nat) (xs : Nat → Int32) : ll_P L xs 211 11 = some (.inl (lo_push 12 (.int (-1)))) := (P_211 L xs 11).trans rfl
theorem p_211_12 (L : Nat) (xs : Nat → Int32) : ll_P L xs 211 12 = some (.inl (lo_putf 15 11 4 0)) := (P_211 L xs 12).trans rfl
theorem p_211_15 (L : Nat) (xs : Nat → Int32) : ll_P L xs 211 15 = some (.inl (lo_iload 16 1)) := (P_211 L xs 15).trans rfl
theorem p_211_16 (L : Nat) (xs : Nat → Int32) : ll_P L xs 211 16 = some (.inr (.inl (209, 1, 19))) := (P_211 L xs 16).trans rfl
theorem p_211_19 (L : Nat) (xs : Nat → Int32) : ll_P L xs 211 19 = some (.inl (lo_if 24 22 (fun x => decide (¬ x = 0)))) := (P_211 L xs 19).trans rfl
theorem p_211_22 (L : Nat) (xs : Nat → Int32) : ll_P L xs 211 22 = some (.inl (lo_push 23 (.int (-1)))) := (P_211 L xs 22).trans rfl
theorem p_211_23 (L : Nat) (xs : Nat → Int32) : ll_P L xs 211 23 = some (.inr (.inr 1)) := (P_211 L xs 23).trans rfl
theorem p_211_24 (L : Nat) (xs : Nat → Int32) : ll_P L xs 211 24 = some (.inl (lo_aload 25 0)) := (P_211 L xs 24).trans rfl
theorem p_211_25 (L : Nat) (xs : Nat → Int32) : ll_P L xs 211 25 = some (.inr (.inl (153, 1, 28))) := (P_211 L xs 25).trans rfl
theorem p_211_28 (L : Nat) (xs : Nat → Int32) : ll_P L xs 211 28 = some (.inl (lo_aload 29 0)) := (P_211 L xs 28).trans rfl
theorem p_211_29 (L : Nat) (xs : Nat → Int32) : ll_P L xs 211 29 = some (.inl (lo_aload 30 0)) := (P_211 L xs 29).trans rfl
theorem p_211_30 (L : Nat) (xs : Nat → Int32) : ll_P L xs 211 30 = some (.inl (lo_getf 33 11 1)) := (P_211 L xs 30).trans rfl
theorem p_211_33 (L : Nat) (xs : Nat → Int32) : ll_P L xs 211 33 = some (.inl (lo_push 34 (.int 0))) := (P_211 L xs 33).trans rfl
theorem p_211_34 (L : Nat) (xs : Nat → Int32) : ll_P L xs 211 34 = some (.inl (lo_iload 35 2)) := (P_211 L xs 34).trans rfl
theorem p_211_35 (L : Nat) (xs : Nat → Int32) : ll_P L xs 211 35 = some (.inl (lo_push 37 (.int 30))) := (P_211 L xs 35).trans rfl
theorem p_211_37 (L : Nat) (xs : Nat → Int32) : ll_P L xs 211 37 = some (.inl (lo_cmp 45 40 (fun x y => decide (x ≤ y)))) := (P_211 L xs 37).trans rfl
theorem p_211_40 (L : Nat) (xs : Nat → Int32) : ll_P L xs 211 40 = some (.inl (lo_push 42 (.int 30))) := (P_211 L xs 40).trans rfl
theorem p_211_42 (L : Nat) (xs : Nat → Int32) : ll_P L xs 211 42 = some (.inl (lo_goto 46)) := (P_211 L xs 42).trans rfl
theorem p_211_45 (L : Nat) (xs : Nat → Int32) : ll_P L xs 211 45 = some (.inl (lo_iload 46 2)) := (P_211 L xs 45).trans rfl
theorem p_211_46 (L : Nat) (xs : Nat → Int32) : ll_P L xs 211 46 = some (.inr (.inl (166, 4, 49))) := (P_211 L xs 46).trans rfl
theorem p_211_49 (L : Nat) (xs : Nat → Int32) : ll_P L xs 211 49 = some (.inl (lo_istore 50 3)) := (P_211 L xs 49).trans rfl
theorem p_211_50 (L : Nat) (xs : Nat → Int32) : ll_P L xs 211 50 = some (.inl (lo_iload 51 2)) := (P_211 L xs 50).trans rfl
theorem p_211_51 (L : Nat) (xs : Nat → Int32) : ll_P L xs 211 51 = some (.inl (lo_push 53 (.int 30))) := (P_211 L xs 51).trans rfl
theorem p_211_53 (L : Nat) (xs : Nat → Int32) : ll_P L xs 211 53 = some (.inl (lo_cmp 70 56 (fun x y => decide (x ≤ y)))) := (P_211 L xs 53).trans rfl
theorem p_211_56 (L : Nat) (xs : Nat → Int32) : ll_P L xs 211 56 = some (.inl (lo_aload 57 0)) := (P_211 L xs 56).trans rfl
theorem p_211_57 (L : Nat) (xs : Nat → Int32) : ll_P L xs 211 57 = some (.inl (lo_getf 60 11 26)) := (P_211 L xs 57).trans rfl
theorem p_211_60 (L : Nat) (xs : Nat → Int32) : ll_P L xs 211 60 = some (.inl (lo_push 61 (.int (-1)))) := (P_211 L xs 60).trans rfl
theorem p_211_61 (L : Nat) (xs : Nat → Int32) : ll_P L xs 211 61 = some (.inl (lo_cmp 70 64 (fun x y => decide (¬ x = y)))) := (P_211 L xs 61).trans rfl
theorem p_211_64 (L : Nat) (xs : Nat → Int32) : ll_P L xs 211 64 = some (.inl (lo_aload 65 0)) := (P_211 L xs 64).trans rfl
theorem p_211_65 (L : Nat) (xs : Nat → Int32) : ll_P L xs 211 65 = some (.inl (lo_push 67 (.int 30))) := (P_211 L xs 65).trans rfl
theorem p_211_67 (L : Nat) (xs : Nat → Int32) : ll_P L xs 211 67 = some (.inl (lo_putf 70 11 26 0)) := (P_211 L xs 67).trans rfl
theorem p_211_70 (L : Nat) (xs : Nat → Int32) : ll_P L xs 211 70 = some (.inl (lo_aload 71 0)) := (P_211 L xs 70).trans rfl
theorem p_211_71 (L : Nat) (xs : Nat → Int32) : ll_P L xs 211 71 = some (.inl (lo_aload 72 0)) := (P_211 L xs 71).trans rfl
theorem p_211_72 (L : Nat) (xs : Nat → Int32) : ll_P L xs 211 72 = some (.inl (lo_getf 75 11 26)) := (P_211 L xs 72).trans rfl
theorem p_211_75 (L : Nat) (xs : Nat → Int32) : ll_P L xs 211 75 = some (.inl (lo_putf 78 11 4 0)) := (P_211 L xs 75).trans rfl
theorem p_211_78 (L : Nat) (xs : Nat → Int32) : ll_P L xs 211 78 = some (.inl (lo_aload 79 0)) := (P_211 L xs 78).trans rfl
theorem p_211_79 (L : Nat) (xs : Nat → Int32) : ll_P L xs 211 79 = some (.inl (lo_getf 82 11 26)) := (P_211 L xs 79).trans rfl
theorem p_211_82 (L : Nat) (xs : Nat → Int32) : ll_P L xs 211 82 = some (.inl (lo_push 83 (.int (-1)))) := (P_211 L xs 82).trans rfl
theorem p_211_83 (L : Nat) (xs : Nat → Int32) : ll_P L xs 211 83 = some (.inl (lo_cmp 95 86 (fun x y => decide (¬ x = y)))) := (P_211 L xs 83).trans rfl
theorem p_211_86 (L : Nat) (xs : Nat → Int32) : ll_P L xs 211 86 = some (.inl (lo_aload 87 0)) := (P_211 L xs 86).trans rfl
theorem p_211_87 (L : Nat) (xs : Nat → Int32) : ll_P L xs 211 87 = some (.inl (lo_iload 88 1)) := (P_211 L xs 87).trans rfl
theorem p_211_88 (L : Nat) (xs : Nat → Int32) : ll_P L xs 211 88 = some (.inl (lo_iload 89 3)) := (P_211 L xs 88).trans rfl
theorem p_211_89 (L : Nat) (xs : Nat → Int32) : ll_P L xs 211 89 = some (.inr (.inl (210, 3, 92))) := (P_211 L xs 89).trans rfl
theorem p_211_92 (L : Nat) (xs : Nat → Int32) : ll_P L xs 211 92 = some (.inl (lo_goto 96)) := (P_211 L xs 92).trans rfl
theorem p_211_95 (L : Nat) (xs : Nat → Int32) : ll_P L xs 211 95 = some (.inl (lo_push 96 (.int (-1)))) := (P_211 L xs 95).trans rfl
theorem p_211_96 (L : Nat) (xs : Nat → Int32) : ll_P L xs 211 96 = some (.inr (.inr 1)) := (P_211 L xs 96).trans rfl
theorem b_211_0 {Y : sY} {d : Nat} {s : sT} {K : Option Int32 → sT → Prop} {r0 : Nat} {x1 : Int32} (h : (isO Y r0 11 ∧ (isO Y r0 11 ∧ (isO Y r0 11 ∧ tT Y d 209 0 [.int x1] [] (pV (pV s r0 3 (0 : Int32)) r0 4 (-1 : Int32)) (fun r s1 => tT Y (d + 1) 211 19 [.ref r0, .int x1, .int (s.1 r0 3), .null] ((r.map Value.int).toList ++ []) s1 K))))) : tT Y (d + 1) 211 0 [.ref r0, .int x1, .null, .null] [] s K :=
  (tt_aload (p_211_0 _ _) rfl).mpr (t3_geti (p_211_1 _ _) (isI_11_3) h.1 ((tt_istore (p_211_4 _ _) (Nat.le_of_ble_eq_true rfl) rfl rfl).mpr ((tt_aload (p_211_5 _ _) rfl).mpr ((tt_push (p_211_6 _ _)).mpr ((t2_puti (p_211_7 _ _) isI_11_3 h.2.1).mpr ((tt_aload (p_211_10 _ _) rfl).mpr ((tt_push (p_211_11 _ _)).mpr ((t2_puti (p_211_12 _ _) isI_11_4 h.2.2.1).mpr ((tt_iload (p_211_15 _ _) rfl).mpr (t2_calls (z := 209) (k := 1) (as := [.int x1]) (rest := []) (p_211_16 _ _) mK_209 mL_209 rfl rfl (Nat.le_of_ble_eq_true rfl) rfl (Nat.le_of_ble_eq_true rfl) h.2.2.2))))))))))
theorem b_211_19 {Y : sY} {d : Nat} {s : sT} {K : Option Int32 → sT → Prop} {r0 : Nat} {x1 : Int32} {x2 : Int32} {t0 : Int32} (h : (if ¬ t0 = 0 then (isO Y r0 11 ∧ tT Y d 153 0 [.ref r0, .null] [] s (fun r s1 => tT Y (d + 1) 211 28 [.ref r0, .int x1, .int x2, .null] ((r.map Value.int).toList ++ []) s1 K)) else K (some (-1 : Int32)) s)) : tT Y (d + 1) 211 19 [.ref r0, .int x1, .int x2, .null] [.int t0] s K :=
  t3_if (p := ¬ t0 = 0) (p_211_19 _ _) rfl (fun g1 => (tt_aload (p_211_24 _ _) rfl).mpr (t2_callv (z := 153) (k := 1) (i := r0) (as := []) (rest := []) (p_211_25 _ _) mK_153 mL_153 rfl rfl (Nat.le_of_ble_eq_true rfl) rfl (Nat.le_of_ble_eq_true rfl) (ifp h g1).1 (ifp h g1).2)) (fun g1 => (tt_push (p_211_22 _ _)).mpr (tt_ret1 (p_211_23 _ _) (ifn h g1)))
theorem b_211_28 {Y : sY} {d : Nat} {s : sT} {K : Option Int32 → sT → Prop} {r0 : Nat} {x1 : Int32} {x2 : Int32} (h : (∃ a1, (isO Y r0 11 ∧ s.2 r0 1 = some a1) ∧ (if x2 ≤ (30 : Int32) then tT Y (d + 1) 211 46 [.ref r0, .int x1, .int x2, .null] [.int x2, .int (0 : Int32), .ref a1, .ref r0] s K else tT Y (d + 1) 211 46 [.ref r0, .int x1, .int x2, .null] [.int (30 : Int32), .int (0 : Int32), .ref a1, .ref r0] s K))) : tT Y (d + 1) 211 28 [.ref r0, .int x1, .int x2, .null] [] s K :=
  (tt_aload (p_211_28 _ _) rfl).mpr ((tt_aload (p_211_29 _ _) rfl).mpr (Exists.elim h (fun a1 h2 => t3_getr (p_211_30 _ _) (isI_11_1) h2.1.1 h2.1.2 ((tt_push (p_211_33 _ _)).mpr ((tt_iload (p_211_34 _ _) rfl).mpr ((tt_push (p_211_35 _ _)).mpr (t3_cmp (p := x2 ≤ (30 : Int32)) (p_211_37 _ _) rfl (fun g3 => (tt_iload (p_211_45 _ _) rfl).mpr ((ifp h2.2 g3))) (fun g3 => (tt_push (p_211_40 _ _)).mpr ((tt_goto (p_211_42 _ _)).mpr ((ifn h2.2 g3)))))))))))
theorem b_211_46 {Y : sY} {d : Nat} {s : sT} {K : Option Int32 → sT → Prop} {r0 : Nat} {x1 : Int32} {x2 : Int32} {t0 : Nat} {t1 : Nat} {t2 : Int32} {t3 : Int32} (h : (isO Y t0 11 ∧ tT Y d 166 0 [.ref t0, .ref t1, .int t2, .int t3, .null, .null, .null, .null, .null] [] s (fun r s1 => tT Y (d + 1) 211 49 [.ref r0, .int x1, .int x2, .null] ((r.map Value.int).toList ++ []) s1 K))) : tT Y (d + 1) 211 46 [.ref r0, .int x1, .int x2, .null] [.int t3, .int t2, .ref t1, .ref t0] s K :=
  t2_callv (z := 166) (k := 4) (i := t0) (as := [.ref t1, .int t2, .int t3]) (rest := []) (p_211_46 _ _) mK_166 mL_166 rfl rfl (Nat.le_of_ble_eq_true rfl) rfl (Nat.le_of_ble_eq_true rfl) h.1 h.2
theorem b_211_49 {Y : sY} {d : Nat} {s : sT} {K : Option Int32 → sT → Prop} {r0 : Nat} {x1 : Int32} {x2 : Int32} {t0 : Int32} (h : (if x2 ≤ (30 : Int32) then tT Y (d + 1) 211 70 [.ref r0, .int x1, .int x2, .int t0] [] s K else (isO Y r0 11 ∧ (if ¬ (s.1 r0 26) = (-1 : Int32) then tT Y (d + 1) 211 70 [.ref r0, .int x1, .int x2, .int t0] [] s K else (isO Y r0 11 ∧ tT Y (d + 1) 211 70 [.ref r0, .int x1, .int x2, .int t0] [] (pV s r0 26 (30 : Int32)) K))))) : tT Y (d + 1) 211 49 [.ref r0, .int x1, .int x2, .null] [.int t0] s K :=
  (tt_istore (p_211_49 _ _) (Nat.le_of_ble_eq_true rfl) rfl rfl).mpr ((tt_iload (p_211_50 _ _) rfl).mpr ((tt_push (p_211_51 _ _)).mpr (t3_cmp (p := x2 ≤ (30 : Int32)) (p_211_53 _ _) rfl (fun g1 => (ifp h g1)) (fun g1 => (tt_aload (p_211_56 _ _) rfl).mpr (t3_geti (p_211_57 _ _) (isI_11_26) (ifn h g1).1 ((tt_push (p_211_60 _ _)).mpr (t3_cmp (p := ¬ (s.1 r0 26) = (-1 : Int32)) (p_211_61 _ _) rfl (fun g2 => (ifp (ifn h g1).2 g2)) (fun g2 => (tt_aload (p_211_64 _ _) rfl).mpr ((tt_push (p_211_65 _ _)).mpr ((t2_puti (p_211_67 _ _) isI_11_26 (ifn (ifn h g1).2 g2).1).mpr ((ifn (ifn h g1).2 g2).2)))))))))))
theorem b_211_70 {Y : sY} {d : Nat} {s : sT} {K : Option Int32 → sT → Prop} {r0 : Nat} {x1 : Int32} {x2 : Int32} {x3 : Int32} (h : (isO Y r0 11 ∧ (isO Y r0 11 ∧ (isO Y r0 11 ∧ (if ¬ ((pV s r0 4 (s.1 r0 26)).1 r0 26) = (-1 : Int32) then K (some (-1 : Int32)) (pV s r0 4 (s.1 r0 26)) else (isO Y r0 11 ∧ tT Y d 210 0 [.ref r0, .int x1, .int x3, .null] [] (pV s r0 4 (s.1 r0 26)) (fun r s1 => tT Y (d + 1) 211 92 [.ref r0, .int x1, .int x2, .int x3] ((r.map Value.int).toList ++ []) s1 K))))))) : tT Y (d + 1) 211 70 [.ref r0, .int x1, .int x2, .int x3] [] s K :=
  (tt_aload (p_211_70 _ _) rfl).mpr ((tt_aload (p_211_71 _ _) rfl).mpr (t3_geti (p_211_72 _ _) (isI_11_26) h.1 ((t2_puti (p_211_75 _ _) isI_11_4 h.2.1).mpr ((tt_aload (p_211_78 _ _) rfl).mpr (t3_geti (p_211_79 _ _) (isI_11_26) h.2.2.1 ((tt_push (p_211_82 _ _)).mpr (t3_cmp (p := ¬ ((pV s r0 4 (s.1 r0 26)).1 r0 26) = (-1 : Int32)) (p_211_83 _ _) rfl (fun g1 => (tt_push (p_211_95 _ _)).mpr (tt_ret1 (p_211_96 _ _) (ifp h.2.2.2 g1))) (fun g1 => (tt_aload (p_211_86 _ _) rfl).mpr ((tt_iload (p_211_87 _ _) rfl).mpr ((tt_iload (p_211_88 _ _) rfl).mpr (t2_callv (z := 210) (k := 3) (i := r0) (as := [.int x1, .int x3]) (rest := []) (p_211_89 _ _) mK_210 mL_210 rfl rfl (Nat.le_of_ble_eq_true rfl) rfl (Nat.le_of_ble_eq_true rfl) (ifn h.2.2.2 g1).1 (ifn h.2.2.2 g1).2)))))))))))
theorem b_211_92 {Y : sY} {d : Nat} {s : sT} {K : Option Int32 → sT → Prop} {r0 : Nat} {x1 : Int32} {x2 : Int32} {x3 : Int32} {t0 : Int32} (h : K (some t0) s) : tT Y (d + 1) 211 92 [.ref r0, .int x1, .int x2, .int x3] [.int t0] s K :=
  (tt_goto (p_211_92 _ _)).mpr (tt_ret1 (p_211_96 _ _) h)
/-! InclusionProverModel.fault.()I -/
theorem p_212_0 (L : Nat) (xs : Nat → Int32) : ll_P L xs 212 0 = some (.inl (lo_aload 1 0)) := (P_212 L xs 0).trans rfl
theorem p_212_1 (L : Nat) (xs : Nat → Int32) : ll_P L xs 212 1 = some (.inl (lo_getf 4 11 4)) := (P_212 L xs 1).trans rfl
theorem p_212_4 (L : Nat) (xs : Nat → Int32) : ll_P L xs 212 4 = some (.inr (.inr 1)) := (P_212 L xs 4).trans rfl
theorem b_212_0 {Y : sY} {d : Nat} {s : sT} {K : Option Int32 → sT → Prop} {r0 : Nat} (h : (isO Y r0 11 ∧ K (some (s.1 r0 4)) s)) : tT Y d 212 0 [.ref r0] [] s K :=
  (tt_aload (p_212_0 _ _) rfl).mpr (t3_geti (p_212_1 _ _) (isI_11_4) h.1 (tt_ret1 (p_212_4 _ _) h.2))
/-! InclusionProverModel.swap.()V -/
theorem p_213_0 (L : Nat) (xs : Nat → Int32) : ll_P L xs 213 0 = some (.inl (lo_aload 1 0)) := (P_213 L xs 0).trans rfl
theorem p_213_1 (L : Nat) (xs : Nat → Int32) : ll_P L xs 213 1 = some (.inl (lo_push 2 (.int 0))) := (P_213 L xs 1).trans rfl
theorem p_213_2 (L : Nat) (xs : Nat → Int32) : ll_P L xs 213 2 = some (.inl (lo_push 5 (.int 10689))) := (P_213 L xs 2).trans rfl
theorem p_213_5 (L : Nat) (xs : Nat → Int32) : ll_P L xs 213 5 = some (.inl (lo_push 7 (.int 31))) := (P_213 L xs 5).trans rfl
theorem p_213_7 (L : Nat) (xs : Nat → Int32) : ll_P L xs 213 7 = some (.inr (.inl (152, 4, 10))) := (P_213 L xs 7).trans rfl
theorem p_213_10 (L : Nat) (xs : Nat → Int32) : ll_P L xs 213 10 = some (.inl (lo_aload 11 0)) := (P_213 L xs 10).trans rfl
theorem p_213_11 (L : Nat) (xs : Nat → Int32) : ll_P L xs 213 11 = some (.inl (lo_push 13 (.int 31))) := (P_213 L xs 11).trans rfl
theorem p_213_13 (L : Nat) (xs : Nat → Int32) : ll_P L xs 213 13 = some (.inl (lo_push 14 (.int 0))) := (P_213 L xs 13).trans rfl
theorem p_213_14 (L : Nat) (xs : Nat → Int32) : ll_P L xs 213 14 = some (.inl (lo_push 16 (.int 31))) := (P_213 L xs 14).trans rfl
theorem p_213_16 (L : Nat) (xs : Nat → Int32) : ll_P L xs 213 16 = some (.inr (.inl (152, 4, 19))) := (P_213 L xs 16).trans rfl
theorem p_213_19 (L : Nat) (xs : Nat → Int32) : ll_P L xs 213 19 = some (.inl (lo_aload 20 0)) := (P_213 L xs 19).trans rfl
theorem p_213_20 (L : Nat) (xs : Nat → Int32) : ll_P L xs 213 20 = some (.inl (lo_push 23 (.int 10689))) := (P_213 L xs 20).trans rfl
theorem p_213_23 (L : Nat) (xs : Nat → Int32) : ll_P L xs 213 23 = some (.inl (lo_push 25 (.int 31))) := (P_213 L xs 23).trans rfl
theorem p_213_25 (L : Nat) (xs : Nat → Int32) : ll_P L xs 213 25 = some (.inl (lo_push 27 (.int 31))) := (P_213 L xs 25).trans rfl
theorem p_213_27 (L : Nat) (xs : Nat → Int32) : ll_P L xs 213 27 = some (.inr (.inl (152, 4, 30))) := (P_213 L xs 27).trans rfl
theorem p_213_30 (L : Nat) (xs : Nat → Int32) : ll_P L xs 213 30 = some (.inl (lo_aload 31 0)) := (P_213 L xs 30).trans rfl
theorem p_213_31 (L : Nat) (xs : Nat → Int32) : ll_P L xs 213 31 = some (.inl (lo_push 32 (.int 0))) := (P_213 L xs 31).trans rfl
theorem p_213_32 (L : Nat) (xs : Nat → Int32) : ll_P L xs 213 32 = some (.inr (.inl (190, 2, 35))) := (P_213 L xs 32).trans rfl
theorem p_213_35 (L : Nat) (xs : Nat → Int32) : ll_P L xs 213 35 = some (.inr (.inr 0)) := (P_213 L xs 35).trans rfl
theorem b_213_0 {Y : sY} {d : Nat} {s : sT} {K : Option Int32 → sT → Prop} {r0 : Nat} (h : (isO Y r0 11 ∧ tT Y d 152 0 [.ref r0, .int (0 : Int32), .int (10689 : Int32), .int (31 : Int32), .null] [] s (fun r s1 => tT Y (d + 1) 213 10 [.ref r0] ((r.map Value.int).toList ++ []) s1 K))) : tT Y (d + 1) 213 0 [.ref r0] [] s K :=
  (tt_aload (p_213_0 _ _) rfl).mpr ((tt_push (p_213_1 _ _)).mpr ((tt_push (p_213_2 _ _)).mpr ((tt_push (p_213_5 _ _)).mpr (t2_callv (z := 152) (k := 4) (i := r0) (as := [.int (0 : Int32), .int (10689 : Int32), .int (31 : Int32)]) (rest := []) (p_213_7 _ _) mK_152 mL_152 rfl rfl (Nat.le_of_ble_eq_true rfl) rfl (Nat.le_of_ble_eq_true rfl) h.1 h.2))))
theorem b_213_10 {Y : sY} {d : Nat} {s : sT} {K : Option Int32 → sT → Prop} {r0 : Nat} (h : (isO Y r0 11 ∧ tT Y d 152 0 [.ref r0, .int (31 : Int32), .int (0 : Int32), .int (31 : Int32), .null] [] s (fun r s1 => tT Y (d + 1) 213 19 [.ref r0] ((r.map Value.int).toList ++ []) s1 K))) : tT Y (d + 1) 213 10 [.ref r0] [] s K :=
  (tt_aload (p_213_10 _ _) rfl).mpr ((tt_push (p_213_11 _ _)).mpr ((tt_push (p_213_13 _ _)).mpr ((tt_push (p_213_14 _ _)).mpr (t2_callv (z := 152) (k := 4) (i := r0) (as := [.int (31 : Int32), .int (0 : Int32), .int (31 : Int32)]) (rest := []) (p_213_16 _ _) mK_152 mL_152 rfl rfl (Nat.le_of_ble_eq_true rfl) rfl (Nat.le_of_ble_eq_true rfl) h.1 h.2))))
theorem b_213_19 {Y : sY} {d : Nat} {s : sT} {K : Option Int32 → sT → Prop} {r0 : Nat} (h : (isO Y r0 11 ∧ tT Y d 152 0 [.ref r0, .int (10689 : Int32), .int (31 : Int32), .int (31 : Int32), .null] [] s (fun r s1 => tT Y (d + 1) 213 30 [.ref r0] ((r.map Value.int).toList ++ []) s1 K))) : tT Y (d + 1) 213 19 [.ref r0] [] s K :=
  (tt_aload (p_213_19 _ _) rfl).mpr ((tt_push (p_213_20 _ _)).mpr ((tt_push (p_213_23 _ _)).mpr ((tt_push (p_213_25 _ _)).mpr (t2_callv (z := 152) (k := 4) (i := r0) (as := [.int (10689 : Int32), .int (31 : Int32), .int (31 : Int32)]) (rest := []) (p_213_27 _ _) mK_152 mL_152 rfl rfl (Nat.le_of_ble_eq_true rfl) rfl (Nat.le_of_ble_eq_true rfl) h.1 h.2))))
theorem b_213_30 {Y : sY} {d : Nat} {s : sT} {K : Option Int32 → sT → Prop} {r0 : Nat} (h : (isO Y r0 11 ∧ tT Y d 190 0 [.ref r0, .int (0 : Int32)] [] s (fun r s1 => tT Y (d + 1) 213 35 [.ref r0] ((r.map Value.int).toList ++ []) s1 K))) : tT Y (d + 1) 213 30 [.ref r0] [] s K :=
  (tt_aload (p_213_30 _ _) rfl).mpr ((tt_push (p_213_31 _ _)).mpr (t2_callv (z := 190) (k := 2) (i := r0) (as := [.int (0 : Int32)]) (rest := []) (p_213_32 _ _) mK_190 mL_190 rfl rfl (Nat.le_of_ble_eq_true rfl) rfl (Nat.le_of_ble_eq_true rfl) h.1 h.2))
theorem b_213_35 {Y : sY} {d : Nat} {s : sT} {K : Option Int32 → sT → Prop} {r0 : Nat} (h : K none s) : tT Y (d + 1) 213 35 [.ref r0] [] s K :=
  tt_ret0 (p_213_35 _ _) h
/-! InclusionProverModel.keep.(II)Z -/
theorem p_214_0 (L : Nat) (xs : Nat → Int32) : ll_P L xs 214 0 = some (.inl (lo_iload 1 1)) := (P_214 L xs 0).trans rfl
theorem p_214_1 (L : Nat) (xs : Nat → Int32) : ll_P L xs 214 1 = some (.inr (.inl (209, 1, 4))) := (P_214 L xs 1).trans rfl
theorem p_214_4 (L : Nat) (xs : Nat → Int32) : ll_P L xs 214 4 = some (.inl (lo_if 14 7 (fun x => decide (x = 0)))) := (P_214 L xs 4).trans rfl
theorem p_214_7 (L : Nat) (xs : Nat → Int32) : ll_P L xs 214 7 = some (.inl (lo_iload 8 2)) := (P_214 L xs 7).trans rfl
theorem p_214_8 (L : Nat) (xs : Nat → Int32) : ll_P L xs 214 8 = some (.inr (.inl (194, 1, 11))) := (P_214 L xs 8).trans rfl
theorem p_214_11 (L : Nat) (xs : Nat → Int32) : ll_P L xs 214 11 = some (.inl (lo_if 16 14 (fun x => decide (¬ x = 0)))) := (P_214 L xs 11).trans rfl
theorem p_214_14 (L : Nat) (xs : Nat → Int32) : ll_P L xs 214 14 = some (.inl (lo_push 15 (.int 0))) := (P_214 L xs 14).trans rfl
theorem p_214_15 (L : Nat) (xs : Nat → Int32) : ll_P L xs 214 15 = some (.inr (.inr 2)) := (P_214 L xs 15).trans rfl
theorem p_214_16 (L : Nat) (xs : Nat → Int32) : ll_P L xs 214 16 = some (.inl (lo_aload 17 0)) := (P_214 L xs 16).trans rfl
theorem p_214_17 (L : Nat) (xs : Nat → Int32) : ll_P L xs 214 17 = some (.inl (lo_push 19 (.int 31))) := (P_214 L xs 17).trans rfl
theorem p_214_19 (L : Nat) (xs : Nat → Int32) : ll_P L xs 214 19 = some (.inl (lo_iload 20 1)) := (P_214 L xs 19).trans rfl
theorem p_214_20 (L : Nat) (xs : Nat → Int32) : ll_P L xs 214 20 = some (.inl (lo_bin 21 (fun x y => x * y))) := (P_214 L xs 20).trans rfl
theorem p_214_21 (L : Nat) (xs : Nat → Int32) : ll_P L xs 214 21 = some (.inl (lo_push 23 (.int 62))) := (P_214 L xs 21).trans rfl
theorem p_214_23 (L : Nat) (xs : Nat → Int32) : ll_P L xs 214 23 = some (.inl (lo_push 25 (.int 31))) := (P_214 L xs 23).trans rfl
theorem p_214_25 (L : Nat) (xs : Nat → Int32) : ll_P L xs 214 25 = some (.inl (lo_iload 26 2)) := (P_214 L xs 25).trans rfl
theorem p_214_26 (L : Nat) (xs : Nat → Int32) : ll_P L xs 214 26 = some (.inl (lo_bin 27 (fun x y => x * y))) := (P_214 L xs 26).trans rfl
theorem p_214_27 (L : Nat) (xs : Nat → Int32) : ll_P L xs 214 27 = some (.inl (lo_bin 28 (fun x y => x + y))) := (P_214 L xs 27).trans rfl
theorem p_214_28 (L : Nat) (xs : Nat → Int32) : ll_P L xs 214 28 = some (.inl (lo_push 30 (.int 31))) := (P_214 L xs 28).trans rfl
theorem p_214_30 (L : Nat) (xs : Nat → Int32) : ll_P L xs 214 30 = some (.inr (.inl (152, 4, 33))) := (P_214 L xs 30).trans rfl
theorem p_214_33 (L : Nat) (xs : Nat → Int32) : ll_P L xs 214 33 = some (.inl (lo_push 34 (.int 1))) := (P_214 L xs 33).trans rfl
theorem p_214_34 (L : Nat) (xs : Nat → Int32) : ll_P L xs 214 34 = some (.inr (.inr 2)) := (P_214 L xs 34).trans rfl
theorem b_214_0 {Y : sY} {d : Nat} {s : sT} {K : Option Int32 → sT → Prop} {r0 : Nat} {x1 : Int32} {x2 : Int32} (h : tT Y d 209 0 [.int x1] [] s (fun r s1 => tT Y (d + 1) 214 4 [.ref r0, .int x1, .int x2] ((r.map Value.int).toList ++ []) s1 K)) : tT Y (d + 1) 214 0 [.ref r0, .int x1, .int x2] [] s K :=
  (tt_iload (p_214_0 _ _) rfl).mpr (t2_calls (z := 209) (k := 1) (as := [.int x1]) (rest := []) (p_214_1 _ _) mK_209 mL_209 rfl rfl (Nat.le_of_ble_eq_true rfl) rfl (Nat.le_of_ble_eq_true rfl) h)
theorem b_214_4 {Y : sY} {d : Nat} {s : sT} {K : Option Int32 → sT → Prop} {r0 : Nat} {x1 : Int32} {x2 : Int32} {t0 : Int32} (h : (if t0 = 0 then K (some (0 : Int32)) s else tT Y d 194 0 [.int x2] [] s (fun r s1 => tT Y (d + 1) 214 11 [.ref r0, .int x1, .int x2] ((r.map Value.int).toList ++ []) s1 K))) : tT Y (d + 1) 214 4 [.ref r0, .int x1, .int x2] [.int t0] s K :=
  t3_if (p := t0 = 0) (p_214_4 _ _) rfl (fun g1 => (tt_push (p_214_14 _ _)).mpr (tt_ret2 (p_214_15 _ _) (Or.inl rfl) (ifp h g1))) (fun g1 => (tt_iload (p_214_7 _ _) rfl).mpr (t2_calls (z := 194) (k := 1) (as := [.int x2]) (rest := []) (p_214_8 _ _) mK_194 mL_194 rfl rfl (Nat.le_of_ble_eq_true rfl) rfl (Nat.le_of_ble_eq_true rfl) (ifn h g1)))
theorem b_214_11 {Y : sY} {d : Nat} {s : sT} {K : Option Int32 → sT → Prop} {r0 : Nat} {x1 : Int32} {x2 : Int32} {t0 : Int32} (h : (if ¬ t0 = 0 then (isO Y r0 11 ∧ tT Y d 152 0 [.ref r0, .int ((31 : Int32) * x1), .int ((62 : Int32) + ((31 : Int32) * x2)), .int (31 : Int32), .null] [] s (fun r s1 => tT Y (d + 1) 214 33 [.ref r0, .int x1, .int x2] ((r.map Value.int).toList ++ []) s1 K)) else K (some (0 : Int32)) s)) : tT Y (d + 1) 214 11 [.ref r0, .int x1, .int x2] [.int t0] s K :=
  t3_if (p := ¬ t0 = 0) (p_214_11 _ _) rfl (fun g1 => (tt_aload (p_214_16 _ _) rfl).mpr ((tt_push (p_214_17 _ _)).mpr ((tt_iload (p_214_19 _ _) rfl).mpr ((tt_bin (p_214_20 _ _)).mpr ((tt_push (p_214_21 _ _)).mpr ((tt_push (p_214_23 _ _)).mpr ((tt_iload (p_214_25 _ _) rfl).mpr ((tt_bin (p_214_26 _ _)).mpr ((tt_bin (p_214_27 _ _)).mpr ((tt_push (p_214_28 _ _)).mpr (t2_callv (z := 152) (k := 4) (i := r0) (as := [.int ((31 : Int32) * x1), .int ((62 : Int32) + ((31 : Int32) * x2)), .int (31 : Int32)]) (rest := []) (p_214_30 _ _) mK_152 mL_152 rfl rfl (Nat.le_of_ble_eq_true rfl) rfl (Nat.le_of_ble_eq_true rfl) (ifp h g1).1 (ifp h g1).2))))))))))) (fun g1 => (tt_push (p_214_14 _ _)).mpr (tt_ret2 (p_214_15 _ _) (Or.inl rfl) (ifn h g1)))
theorem b_214_33 {Y : sY} {d : Nat} {s : sT} {K : Option Int32 → sT → Prop} {r0 : Nat} {x1 : Int32} {x2 : Int32} (h : K (some (1 : Int32)) s) : tT Y (d + 1) 214 33 [.ref r0, .int x1, .int x2] [] s K :=
  (tt_push (p_214_33 _ _)).mpr (tt_ret2 (p_214_34 _ _) (Or.inr rfl) h)
/-! InclusionProverModel.make.(IIII)I -/
theorem p_215_0 (L : Nat) (xs : Nat → Int32) : ll_P L xs 215 0 = some (.inl (lo_iload 1 1)) := (P_215 L xs 0).trans rfl
theorem p_215_1 (L : Nat) (xs : Nat → Int32) : ll_P L xs 215 1 = some (.inr (.inl (209, 1, 4))) := (P_215 L xs 1).trans rfl
theorem p_215_4 (L : Nat) (xs : Nat → Int32) : ll_P L xs 215 4 = some (.inl (lo_if 41 7 (fun x => decide (x = 0)))) := (P_215 L xs 4).trans rfl
theorem p_215_7 (L : Nat) (xs : Nat → Int32) : ll_P L xs 215 7 = some (.inl (lo_iload 8 2)) := (P_215 L xs 7).trans rfl
theorem p_215_8 (L : Nat) (xs : Nat → Int32) : ll_P L xs 215 8 = some (.inl (lo_push 9 (.int 0))) := (P_215 L xs 8).trans rfl
theorem p_215_9 (L : Nat) (xs : Nat → Int32) : ll_P L xs 215 9 = some (.inl (lo_push 10 (.int 3))) := (P_215 L xs 9).trans rfl
theorem p_215_10 (L : Nat) (xs : Nat → Int32) : ll_P L xs 215 10 = some (.inr (.inl (151, 3, 13))) := (P_215 L xs 10).trans rfl
theorem p_215_13 (L : Nat) (xs : Nat → Int32) : ll_P L xs 215 13 = some (.inl (lo_if 41 16 (fun x => decide (x = 0)))) := (P_215 L xs 13).trans rfl
theorem p_215_16 (L : Nat) (xs : Nat → Int32) : ll_P L xs 215 16 = some (.inl (lo_iload 17 3)) := (P_215 L xs 16).trans rfl
theorem p_215_17 (L : Nat) (xs : Nat → Int32) : ll_P L xs 215 17 = some (.inr (.inl (194, 1, 20))) := (P_215 L xs 17).trans rfl
theorem p_215_20 (L : Nat) (xs : Nat → Int32) : ll_P L xs 215 20 = some (.inl (lo_if 41 23 (fun x => decide (x = 0)))) := (P_215 L xs 20).trans rfl
theorem p_215_23 (L : Nat) (xs : Nat → Int32) : ll_P L xs 215 23 = some (.inl (lo_iload 24 2)) := (P_215 L xs 23).trans rfl
theorem p_215_24 (L : Nat) (xs : Nat → Int32) : ll_P L xs 215 24 = some (.inl (lo_push 25 (.int 1))) := (P_215 L xs 24).trans rfl
theorem p_215_25 (L : Nat) (xs : Nat → Int32) : ll_P L xs 215 25 = some (.inl (lo_cmp 33 28 (fun x y => decide (x = y)))) := (P_215 L xs 25).trans rfl
theorem p_215_28 (L : Nat) (xs : Nat → Int32) : ll_P L xs 215 28 = some (.inl (lo_iload 29 2)) := (P_215 L xs 28).trans rfl
theorem p_215_29 (L : Nat) (xs : Nat → Int32) : ll_P L xs 215 29 = some (.inl (lo_push 30 (.int 2))) := (P_215 L xs 29).trans rfl
theorem p_215_30 (L : Nat) (xs : Nat → Int32) : ll_P L xs 215 30 = some (.inl (lo_cmp 43 33 (fun x y => decide (¬ x = y)))) := (P_215 L xs 30).trans rfl
theorem p_215_33 (L : Nat) (xs : Nat → Int32) : ll_P L xs 215 33 = some (.inl (lo_iload 35 4)) := (P_215 L xs 33).trans rfl
theorem p_215_35 (L : Nat) (xs : Nat → Int32) : ll_P L xs 215 35 = some (.inr (.inl (194, 1, 38))) := (P_215 L xs 35).trans rfl
theorem p_215_38 (L : Nat) (xs : Nat → Int32) : ll_P L xs 215 38 = some (.inl (lo_if 43 41 (fun x => decide (¬ x = 0)))) := (P_215 L xs 38).trans rfl
theorem p_215_41 (L : Nat) (xs : Nat → Int32) : ll_P L xs 215 41 = some (.inl (lo_push 42 (.int (-1)))) := (P_215 L xs 41).trans rfl
theorem p_215_42 (L : Nat) (xs : Nat → Int32) : ll_P L xs 215 42 = some (.inr (.inr 1)) := (P_215 L xs 42).trans rfl
theorem p_215_43 (L : Nat) (xs : Nat → Int32) : ll_P L xs 215 43 = some (.inl (lo_aload 44 0)) := (P_215 L xs 43).trans rfl
theorem p_215_44 (L : Nat) (xs : Nat → Int32) : ll_P L xs 215 44 = some (.inr (.inl (153, 1, 47))) := (P_215 L xs 44).trans rfl
theorem p_215_47 (L : Nat) (xs : Nat → Int32) : ll_P L xs 215 47 = some (.inl (lo_aload 48 0)) := (P_215 L xs 47).trans rfl
theorem p_215_48 (L : Nat) (xs : Nat → Int32) : ll_P L xs 215 48 = some (.inl (lo_aload 49 0)) := (P_215 L xs 48).trans rfl
theorem p_215_49 (L : Nat) (xs : Nat → Int32) : ll_P L xs 215 49 = some (.inl (lo_getf 52 11 0)) := (P_215 L xs 49).trans rfl
theorem p_215_52 (L : Nat) (xs : Nat → Int32) : ll_P L xs 215 52 = some (.inl (lo_push 54 (.int 62))) := (P_215 L xs 52).trans rfl
theorem p_215_54 (L : Nat) (xs : Nat → Int32) : ll_P L xs 215 54 = some (.inl (lo_push 56 (.int 31))) := (P_215 L xs 54).trans rfl
theorem p_215_56 (L : Nat) (xs : Nat → Int32) : ll_P L xs 215 56 = some (.inl (lo_iload 57 3)) := (P_215 L xs 56).trans rfl
theorem p_215_57 (L : Nat) (xs : Nat → Int32) : ll_P L xs 215 57 = some (.inl (lo_bin 58 (fun x y => x * y))) := (P_215 L xs 57).trans rfl
theorem p_215_58 (L : Nat) (xs : Nat → Int32) : ll_P L xs 215 58 = some (.inl (lo_bin 59 (fun x y => x + y))) := (P_215 L xs 58).trans rfl
theorem p_215_59 (L : Nat) (xs : Nat → Int32) : ll_P L xs 215 59 = some (.inl (lo_push 60 (.int 1))) := (P_215 L xs 59).trans rfl
theorem p_215_60 (L : Nat) (xs : Nat → Int32) : ll_P L xs 215 60 = some (.inl (lo_bin 61 (fun x y => x + y))) := (P_215 L xs 60).trans rfl
theorem p_215_61 (L : Nat) (xs : Nat → Int32) : ll_P L xs 215 61 = some (.inl (lo_aload 62 0)) := (P_215 L xs 61).trans rfl
theorem p_215_62 (L : Nat) (xs : Nat → Int32) : ll_P L xs 215 62 = some (.inl (lo_getf 65 11 0)) := (P_215 L xs 62).trans rfl
theorem p_215_65 (L : Nat) (xs : Nat → Int32) : ll_P L xs 215 65 = some (.inl (lo_push 67 (.int 62))) := (P_215 L xs 65).trans rfl
theorem p_215_67 (L : Nat) (xs : Nat → Int32) : ll_P L xs 215 67 = some (.inl (lo_push 69 (.int 31))) := (P_215 L xs 67).trans rfl
theorem p_215_69 (L : Nat) (xs : Nat → Int32) : ll_P L xs 215 69 = some (.inl (lo_iload 70 3)) := (P_215 L xs 69).trans rfl
theorem p_215_70 (L : Nat) (xs : Nat → Int32) : ll_P L xs 215 70 = some (.inl (lo_bin 71 (fun x y => x * y))) := (P_215 L xs 70).trans rfl
theorem p_215_71 (L : Nat) (xs : Nat → Int32) : ll_P L xs 215 71 = some (.inl (lo_bin 72 (fun x y => x + y))) := (P_215 L xs 71).trans rfl
theorem p_215_72 (L : Nat) (xs : Nat → Int32) : ll_P L xs 215 72 = some (.inl (lo_ald 73 0)) := (P_215 L xs 72).trans rfl
theorem p_215_73 (L : Nat) (xs : Nat → Int32) : ll_P L xs 215 73 = some (.inr (.inl (166, 4, 76))) := (P_215 L xs 73).trans rfl
theorem p_215_76 (L : Nat) (xs : Nat → Int32) : ll_P L xs 215 76 = some (.inl (lo_istore 78 5)) := (P_215 L xs 76).trans rfl
theorem p_215_78 (L : Nat) (xs : Nat → Int32) : ll_P L xs 215 78 = some (.inl (lo_iload 79 2)) := (P_215 L xs 78).trans rfl
theorem p_215_79 (L : Nat) (xs : Nat → Int32) : ll_P L xs 215 79 = some (.inl (lo_push 80 (.int 1))) := (P_215 L xs 79).trans rfl
theorem p_215_80 (L : Nat) (xs : Nat → Int32) : ll_P L xs 215 80 = some (.inl (lo_cmp 88 83 (fun x y => decide (x = y)))) := (P_215 L xs 80).trans rfl
theorem p_215_83 (L : Nat) (xs : Nat → Int32) : ll_P L xs 215 83 = some (.inl (lo_iload 84 2)) := (P_215 L xs 83).trans rfl
theorem p_215_84 (L : Nat) (xs : Nat → Int32) : ll_P L xs 215 84 = some (.inl (lo_push 85 (.int 2))) := (P_215 L xs 84).trans rfl
theorem p_215_85 (L : Nat) (xs : Nat → Int32) : ll_P L xs 215 85 = some (.inl (lo_cmp 122 88 (fun x y => decide (¬ x = y)))) := (P_215 L xs 85).trans rfl
theorem p_215_88 (L : Nat) (xs : Nat → Int32) : ll_P L xs 215 88 = some (.inl (lo_aload 89 0)) := (P_215 L xs 88).trans rfl
theorem p_215_89 (L : Nat) (xs : Nat → Int32) : ll_P L xs 215 89 = some (.inl (lo_aload 90 0)) := (P_215 L xs 89).trans rfl
theorem p_215_90 (L : Nat) (xs : Nat → Int32) : ll_P L xs 215 90 = some (.inl (lo_getf 93 11 0)) := (P_215 L xs 90).trans rfl
theorem p_215_93 (L : Nat) (xs : Nat → Int32) : ll_P L xs 215 93 = some (.inl (lo_push 95 (.int 62))) := (P_215 L xs 93).trans rfl
theorem p_215_95 (L : Nat) (xs : Nat → Int32) : ll_P L xs 215 95 = some (.inl (lo_push 97 (.int 31))) := (P_215 L xs 95).trans rfl
theorem p_215_97 (L : Nat) (xs : Nat → Int32) : ll_P L xs 215 97 = some (.inl (lo_iload 99 4)) := (P_215 L xs 97).trans rfl
theorem p_215_99 (L : Nat) (xs : Nat → Int32) : ll_P L xs 215 99 = some (.inl (lo_bin 100 (fun x y => x * y))) := (P_215 L xs 99).trans rfl
theorem p_215_100 (L : Nat) (xs : Nat → Int32) : ll_P L xs 215 100 = some (.inl (lo_bin 101 (fun x y => x + y))) := (P_215 L xs 100).trans rfl
theorem p_215_101 (L : Nat) (xs : Nat → Int32) : ll_P L xs 215 101 = some (.inl (lo_push 102 (.int 1))) := (P_215 L xs 101).trans rfl
theorem p_215_102 (L : Nat) (xs : Nat → Int32) : ll_P L xs 215 102 = some (.inl (lo_bin 103 (fun x y => x + y))) := (P_215 L xs 102).trans rfl
theorem p_215_103 (L : Nat) (xs : Nat → Int32) : ll_P L xs 215 103 = some (.inl (lo_aload 104 0)) := (P_215 L xs 103).trans rfl
theorem p_215_104 (L : Nat) (xs : Nat → Int32) : ll_P L xs 215 104 = some (.inl (lo_getf 107 11 0)) := (P_215 L xs 104).trans rfl
theorem p_215_107 (L : Nat) (xs : Nat → Int32) : ll_P L xs 215 107 = some (.inl (lo_push 109 (.int 62))) := (P_215 L xs 107).trans rfl
theorem p_215_109 (L : Nat) (xs : Nat → Int32) : ll_P L xs 215 109 = some (.inl (lo_push 111 (.int 31))) := (P_215 L xs 109).trans rfl
theorem p_215_111 (L : Nat) (xs : Nat → Int32) : ll_P L xs 215 111 = some (.inl (lo_iload 113 4)) := (P_215 L xs 111).trans rfl
theorem p_215_113 (L : Nat) (xs : Nat → Int32) : ll_P L xs 215 113 = some (.inl (lo_bin 114 (fun x y => x * y))) := (P_215 L xs 113).trans rfl
theorem p_215_114 (L : Nat) (xs : Nat → Int32) : ll_P L xs 215 114 = some (.inl (lo_bin 115 (fun x y => x + y))) := (P_215 L xs 114).trans rfl
theorem p_215_115 (L : Nat) (xs : Nat → Int32) : ll_P L xs 215 115 = some (.inl (lo_ald 116 0)) := (P_215 L xs 115).trans rfl
theorem p_215_116 (L : Nat) (xs : Nat → Int32) : ll_P L xs 215 116 = some (.inr (.inl (166, 4, 119))) := (P_215 L xs 116).trans rfl
theorem p_215_119 (L : Nat) (xs : Nat → Int32) : ll_P L xs 215 119 = some (.inl (lo_goto 123)) := (P_215 L xs 119).trans rfl
theorem p_215_122 (L : Nat) (xs : Nat → Int32) : ll_P L xs 215 122 = some (.inl (lo_push 123 (.int 0))) := (P_215 L xs 122).trans rfl
theorem p_215_123 (L : Nat) (xs : Nat → Int32) : ll_P L xs 215 123 = some (.inl (lo_istore 125 6)) := (P_215 L xs 123).trans rfl
theorem p_215_125 (L : Nat) (xs : Nat → Int32) : ll_P L xs 215 125 = some (.inl (lo_aload 126 0)) := (P_215 L xs 125).trans rfl
theorem p_215_126 (L : Nat) (xs : Nat → Int32) : ll_P L xs 215 126 = some (.inl (lo_getf 129 11 20)) := (P_215 L xs 126).trans rfl
theorem p_215_129 (L : Nat) (xs : Nat → Int32) : ll_P L xs 215 129 = some (.inl (lo_push 130 (.int 0))) := (P_215 L xs 129).trans rfl
theorem p_215_130 (L : Nat) (xs : Nat → Int32) : ll_P L xs 215 130 = some (.inl (lo_iload 132 5)) := (P_215 L xs 130).trans rfl
theorem p_215_132 (L : Nat) (xs : Nat → Int32) : ll_P L xs 215 132 = some (.inl (lo_ast 133 0)) := (P_215 L xs 132).trans rfl
theorem p_215_133 (L : Nat) (xs : Nat → Int32) : ll_P L xs 215 133 = some (.inl (lo_aload 134 0)) := (P_215 L xs 133).trans rfl
theorem p_215_134 (L : Nat) (xs : Nat → Int32) : ll_P L xs 215 134 = some (.inl (lo_getf 137 11 20)) := (P_215 L xs 134).trans rfl
theorem p_215_137 (L : Nat) (xs : Nat → Int32) : ll_P L xs 215 137 = some (.inl (lo_push 138 (.int 1))) := (P_215 L xs 137).trans rfl
theorem p_215_138 (L : Nat) (xs : Nat → Int32) : ll_P L xs 215 138 = some (.inl (lo_iload 140 6)) := (P_215 L xs 138).trans rfl
theorem p_215_140 (L : Nat) (xs : Nat → Int32) : ll_P L xs 215 140 = some (.inl (lo_ast 141 0)) := (P_215 L xs 140).trans rfl
theorem p_215_141 (L : Nat) (xs : Nat → Int32) : ll_P L xs 215 141 = some (.inl (lo_iload 142 2)) := (P_215 L xs 141).trans rfl
theorem p_215_142 (L : Nat) (xs : Nat → Int32) : ll_P L xs 215 142 = some (.inl (lo_if 150 145 (fun x => decide (¬ x = 0)))) := (P_215 L xs 142).trans rfl
theorem p_215_145 (L : Nat) (xs : Nat → Int32) : ll_P L xs 215 145 = some (.inl (lo_iload 147 5)) := (P_215 L xs 145).trans rfl
theorem p_215_147 (L : Nat) (xs : Nat → Int32) : ll_P L xs 215 147 = some (.inl (lo_goto 192)) := (P_215 L xs 147).trans rfl
theorem p_215_150 (L : Nat) (xs : Nat → Int32) : ll_P L xs 215 150 = some (.inl (lo_iload 151 2)) := (P_215 L xs 150).trans rfl
theorem p_215_151 (L : Nat) (xs : Nat → Int32) : ll_P L xs 215 151 = some (.inl (lo_push 152 (.int 1))) := (P_215 L xs 151).trans rfl
theorem p_215_152 (L : Nat) (xs : Nat → Int32) : ll_P L xs 215 152 = some (.inl (lo_cmp 168 155 (fun x y => decide (¬ x = y)))) := (P_215 L xs 152).trans rfl
theorem p_215_155 (L : Nat) (xs : Nat → Int32) : ll_P L xs 215 155 = some (.inl (lo_aload 156 0)) := (P_215 L xs 155).trans rfl
theorem p_215_156 (L : Nat) (xs : Nat → Int32) : ll_P L xs 215 156 = some (.inl (lo_aload 157 0)) := (P_215 L xs 156).trans rfl
theorem p_215_157 (L : Nat) (xs : Nat → Int32) : ll_P L xs 215 157 = some (.inl (lo_getf 160 11 20)) := (P_215 L xs 157).trans rfl
theorem p_215_160 (L : Nat) (xs : Nat → Int32) : ll_P L xs 215 160 = some (.inl (lo_push 161 (.int 0))) := (P_215 L xs 160).trans rfl
theorem p_215_161 (L : Nat) (xs : Nat → Int32) : ll_P L xs 215 161 = some (.inl (lo_push 162 (.int 2))) := (P_215 L xs 161).trans rfl
theorem p_215_162 (L : Nat) (xs : Nat → Int32) : ll_P L xs 215 162 = some (.inr (.inl (158, 4, 165))) := (P_215 L xs 162).trans rfl
theorem p_215_165 (L : Nat) (xs : Nat → Int32) : ll_P L xs 215 165 = some (.inl (lo_goto 192)) := (P_215 L xs 165).trans rfl
theorem p_215_168 (L : Nat) (xs : Nat → Int32) : ll_P L xs 215 168 = some (.inl (lo_iload 169 2)) := (P_215 L xs 168).trans rfl
theorem p_215_169 (L : Nat) (xs : Nat → Int32) : ll_P L xs 215 169 = some (.inl (lo_push 170 (.int 2))) := (P_215 L xs 169).trans rfl
theorem p_215_170 (L : Nat) (xs : Nat → Int32) : ll_P L xs 215 170 = some (.inl (lo_cmp 186 173 (fun x y => decide (¬ x = y)))) := (P_215 L xs 170).trans rfl
theorem p_215_173 (L : Nat) (xs : Nat → Int32) : ll_P L xs 215 173 = some (.inl (lo_aload 174 0)) := (P_215 L xs 173).trans rfl
theorem p_215_174 (L : Nat) (xs : Nat → Int32) : ll_P L xs 215 174 = some (.inl (lo_aload 175 0)) := (P_215 L xs 174).trans rfl
theorem p_215_175 (L : Nat) (xs : Nat → Int32) : ll_P L xs 215 175 = some (.inl (lo_getf 178 11 20)) := (P_215 L xs 175).trans rfl
theorem p_215_178 (L : Nat) (xs : Nat → Int32) : ll_P L xs 215 178 = some (.inl (lo_push 179 (.int 0))) := (P_215 L xs 178).trans rfl
theorem p_215_179 (L : Nat) (xs : Nat → Int32) : ll_P L xs 215 179 = some (.inl (lo_push 180 (.int 2))) := (P_215 L xs 179).trans rfl
theorem p_215_180 (L : Nat) (xs : Nat → Int32) : ll_P L xs 215 180 = some (.inr (.inl (159, 4, 183))) := (P_215 L xs 180).trans rfl
theorem p_215_183 (L : Nat) (xs : Nat → Int32) : ll_P L xs 215 183 = some (.inl (lo_goto 192)) := (P_215 L xs 183).trans rfl
theorem p_215_186 (L : Nat) (xs : Nat → Int32) : ll_P L xs 215 186 = some (.inl (lo_aload 187 0)) := (P_215 L xs 186).trans rfl
theorem p_215_187 (L : Nat) (xs : Nat → Int32) : ll_P L xs 215 187 = some (.inl (lo_iload 189 5)) := (P_215 L xs 187).trans rfl
theorem p_215_189 (L : Nat) (xs : Nat → Int32) : ll_P L xs 215 189 = some (.inr (.inl (160, 2, 192))) := (P_215 L xs 189).trans rfl
theorem p_215_192 (L : Nat) (xs : Nat → Int32) : ll_P L xs 215 192 = some (.inl (lo_istore 194 7)) := (P_215 L xs 192).trans rfl
theorem p_215_194 (L : Nat) (xs : Nat → Int32) : ll_P L xs 215 194 = some (.inl (lo_aload 195 0)) := (P_215 L xs 194).trans rfl
theorem p_215_195 (L : Nat) (xs : Nat → Int32) : ll_P L xs 215 195 = some (.inl (lo_iload 196 1)) := (P_215 L xs 195).trans rfl
theorem p_215_196 (L : Nat) (xs : Nat → Int32) : ll_P L xs 215 196 = some (.inl (lo_iload 198 7)) := (P_215 L xs 196).trans rfl
theorem p_215_198 (L : Nat) (xs : Nat → Int32) : ll_P L xs 215 198 = some (.inr (.inl (210, 3, 201))) := (P_215 L xs 198).trans rfl
theorem p_215_201 (L : Nat) (xs : Nat → Int32) : ll_P L xs 215 201 = some (.inr (.inr 1)) := (P_215 L xs 201).trans rfl
theorem b_215_0 {Y : sY} {d : Nat} {s : sT} {K : Option Int32 → sT → Prop} {r0 : Nat} {x1 : Int32} {x2 : Int32} {x3 : Int32} {x4 : Int32} (h : tT Y d 209 0 [.int x1] [] s (fun r s1 => tT Y (d + 1) 215 4 [.ref r0, .int x1, .int x2, .int x3, .int x4, .null, .null, .null] ((r.map Value.int).toList ++ []) s1 K)) : tT Y (d + 1) 215 0 [.ref r0, .int x1, .int x2, .int x3, .int x4, .null, .null, .null] [] s K :=
  (tt_iload (p_215_0 _ _) rfl).mpr (t2_calls (z := 209) (k := 1) (as := [.int x1]) (rest := []) (p_215_1 _ _) mK_209 mL_209 rfl rfl (Nat.le_of_ble_eq_true rfl) rfl (Nat.le_of_ble_eq_true rfl) h)
theorem b_215_4 {Y : sY} {d : Nat} {s : sT} {K : Option Int32 → sT → Prop} {r0 : Nat} {x1 : Int32} {x2 : Int32} {x3 : Int32} {x4 : Int32} {t0 : Int32} (h : (if t0 = 0 then K (some (-1 : Int32)) s else tT Y d 151 0 [.int x2, .int (0 : Int32), .int (3 : Int32)] [] s (fun r s1 => tT Y (d + 1) 215 13 [.ref r0, .int x1, .int x2, .int x3, .int x4, .null, .null, .null] ((r.map Value.int).toList ++ []) s1 K))) : tT Y (d + 1) 215 4 [.ref r0, .int x1, .int x2, .int x3, .int x4, .null, .null, .null] [.int t0] s K :=
  t3_if (p := t0 = 0) (p_215_4 _ _) rfl (fun g1 => (tt_push (p_215_41 _ _)).mpr (tt_ret1 (p_215_42 _ _) (ifp h g1))) (fun g1 => (tt_iload (p_215_7 _ _) rfl).mpr ((tt_push (p_215_8 _ _)).mpr ((tt_push (p_215_9 _ _)).mpr (t2_calls (z := 151) (k := 3) (as := [.int x2, .int (0 : Int32), .int (3 : Int32)]) (rest := []) (p_215_10 _ _) mK_151 mL_151 rfl rfl (Nat.le_of_ble_eq_true rfl) rfl (Nat.le_of_ble_eq_true rfl) (ifn h g1)))))
theorem b_215_13 {Y : sY} {d : Nat} {s : sT} {K : Option Int32 → sT → Prop} {r0 : Nat} {x1 : Int32} {x2 : Int32} {x3 : Int32} {x4 : Int32} {t0 : Int32} (h : (if t0 = 0 then K (some (-1 : Int32)) s else tT Y d 194 0 [.int x3] [] s (fun r s1 => tT Y (d + 1) 215 20 [.ref r0, .int x1, .int x2, .int x3, .int x4, .null, .null, .null] ((r.map Value.int).toList ++ []) s1 K))) : tT Y (d + 1) 215 13 [.ref r0, .int x1, .int x2, .int x3, .int x4, .null, .null, .null] [.int t0] s K :=
  t3_if (p := t0 = 0) (p_215_13 _ _) rfl (fun g1 => (tt_push (p_215_41 _ _)).mpr (tt_ret1 (p_215_42 _ _) (ifp h g1))) (fun g1 => (tt_iload (p_215_16 _ _) rfl).mpr (t2_calls (z := 194) (k := 1) (as := [.int x3]) (rest := []) (p_215_17 _ _) mK_194 mL_194 rfl rfl (Nat.le_of_ble_eq_true rfl) rfl (Nat.le_of_ble_eq_true rfl) (ifn h g1)))
theorem b_215_20 {Y : sY} {d : Nat} {s : sT} {K : Option Int32 → sT → Prop} {r0 : Nat} {x1 : Int32} {x2 : Int32} {x3 : Int32} {x4 : Int32} {t0 : Int32} (h : (if t0 = 0 then K (some (-1 : Int32)) s else (if x2 = (1 : Int32) then tT Y (d + 1) 215 33 [.ref r0, .int x1, .int x2, .int x3, .int x4, .null, .null, .null] [] s K else (if ¬ x2 = (2 : Int32) then tT Y (d + 1) 215 43 [.ref r0, .int x1, .int x2, .int x3, .int x4, .null, .null, .null] [] s K else tT Y (d + 1) 215 33 [.ref r0, .int x1, .int x2, .int x3, .int x4, .null, .null, .null] [] s K)))) : tT Y (d + 1) 215 20 [.ref r0, .int x1, .int x2, .int x3, .int x4, .null, .null, .null] [.int t0] s K :=
  t3_if (p := t0 = 0) (p_215_20 _ _) rfl (fun g1 => (tt_push (p_215_41 _ _)).mpr (tt_ret1 (p_215_42 _ _) (ifp h g1))) (fun g1 => (tt_iload (p_215_23 _ _) rfl).mpr ((tt_push (p_215_24 _ _)).mpr (t3_cmp (p := x2 = (1 : Int32)) (p_215_25 _ _) rfl (fun g2 => (ifp (ifn h g1) g2)) (fun g2 => (tt_iload (p_215_28 _ _) rfl).mpr ((tt_push (p_215_29 _ _)).mpr (t3_cmp (p := ¬ x2 = (2 : Int32)) (p_215_30 _ _) rfl (fun g3 => (ifp (ifn (ifn h g1) g2) g3)) (fun g3 => (ifn (ifn (ifn h g1) g2) g3))))))))
theorem b_215_33 {Y : sY} {d : Nat} {s : sT} {K : Option Int32 → sT → Prop} {r0 : Nat} {x1 : Int32} {x2 : Int32} {x3 : Int32} {x4 : Int32} (h : tT Y d 194 0 [.int x4] [] s (fun r s1 => tT Y (d + 1) 215 38 [.ref r0, .int x1, .int x2, .int x3, .int x4, .null, .null, .null] ((r.map Value.int).toList ++ []) s1 K)) : tT Y (d + 1) 215 33 [.ref r0, .int x1, .int x2, .int x3, .int x4, .null, .null, .null] [] s K :=
  (tt_iload (p_215_33 _ _) rfl).mpr (t2_calls (z := 194) (k := 1) (as := [.int x4]) (rest := []) (p_215_35 _ _) mK_194 mL_194 rfl rfl (Nat.le_of_ble_eq_true rfl) rfl (Nat.le_of_ble_eq_true rfl) h)
theorem b_215_38 {Y : sY} {d : Nat} {s : sT} {K : Option Int32 → sT → Prop} {r0 : Nat} {x1 : Int32} {x2 : Int32} {x3 : Int32} {x4 : Int32} {t0 : Int32} (h : (if ¬ t0 = 0 then tT Y (d + 1) 215 43 [.ref r0, .int x1, .int x2, .int x3, .int x4, .null, .null, .null] [] s K else K (some (-1 : Int32)) s)) : tT Y (d + 1) 215 38 [.ref r0, .int x1, .int x2, .int x3, .int x4, .null, .null, .null] [.int t0] s K :=
  t3_if (p := ¬ t0 = 0) (p_215_38 _ _) rfl (fun g1 => (ifp h g1)) (fun g1 => (tt_push (p_215_41 _ _)).mpr (tt_ret1 (p_215_42 _ _) (ifn h g1)))
theorem b_215_43 {Y : sY} {d : Nat} {s : sT} {K : Option Int32 → sT → Prop} {r0 : Nat} {x1 : Int32} {x2 : Int32} {x3 : Int32} {x4 : Int32} (h : (isO Y r0 11 ∧ tT Y d 153 0 [.ref r0, .null] [] s (fun r s1 => tT Y (d + 1) 215 47 [.ref r0, .int x1, .int x2, .int x3, .int x4, .null, .null, .null] ((r.map Value.int).toList ++ []) s1 K))) : tT Y (d + 1) 215 43 [.ref r0, .int x1, .int x2, .int x3, .int x4, .null, .null, .null] [] s K :=
  (tt_aload (p_215_43 _ _) rfl).mpr (t2_callv (z := 153) (k := 1) (i := r0) (as := []) (rest := []) (p_215_44 _ _) mK_153 mL_153 rfl rfl (Nat.le_of_ble_eq_true rfl) rfl (Nat.le_of_ble_eq_true rfl) h.1 h.2)
theorem b_215_47 {Y : sY} {d : Nat} {s : sT} {K : Option Int32 → sT → Prop} {r0 : Nat} {x1 : Int32} {x2 : Int32} {x3 : Int32} {x4 : Int32} (h : (∃ a1, (isO Y r0 11 ∧ s.2 r0 0 = some a1) ∧ (∃ a3, (isO Y r0 11 ∧ s.2 r0 0 = some a3) ∧ (∃ m5, (isA Y a3 0 m5 ∧ inR ((62 : Int32) + ((31 : Int32) * x3)) m5) ∧ (isO Y r0 11 ∧ tT Y d 166 0 [.ref r0, .ref a1, .int (((62 : Int32) + ((31 : Int32) * x3)) + (1 : Int32)), .int (s.1 a3 (((62 : Int32) + ((31 : Int32) * x3))).toNatClampNeg), .null, .null, .null, .null, .null] [] s (fun r s1 => tT Y (d + 1) 215 76 [.ref r0, .int x1, .int x2, .int x3, .int x4, .null, .null, .null] ((r.map Value.int).toList ++ []) s1 K)))))) : tT Y (d + 1) 215 47 [.ref r0, .int x1, .int x2, .int x3, .int x4, .null, .null, .null] [] s K :=
  (tt_aload (p_215_47 _ _) rfl).mpr ((tt_aload (p_215_48 _ _) rfl).mpr (Exists.elim h (fun a1 h2 => t3_getr (p_215_49 _ _) (isI_11_0) h2.1.1 h2.1.2 ((tt_push (p_215_52 _ _)).mpr ((tt_push (p_215_54 _ _)).mpr ((tt_iload (p_215_56 _ _) rfl).mpr ((tt_bin (p_215_57 _ _)).mpr ((tt_bin (p_215_58 _ _)).mpr ((tt_push (p_215_59 _ _)).mpr ((tt_bin (p_215_60 _ _)).mpr ((tt_aload (p_215_61 _ _) rfl).mpr (Exists.elim h2.2 (fun a3 h4 => t3_getr (p_215_62 _ _) (isI_11_0) h4.1.1 h4.1.2 ((tt_push (p_215_65 _ _)).mpr ((tt_push (p_215_67 _ _)).mpr ((tt_iload (p_215_69 _ _) rfl).mpr ((tt_bin (p_215_70 _ _)).mpr ((tt_bin (p_215_71 _ _)).mpr (Exists.elim h4.2 (fun m5 h6 => t3_ald (p_215_72 _ _) h6.1.1 h6.1.2 (t2_callv (z := 166) (k := 4) (i := r0) (as := [.ref a1, .int (((62 : Int32) + ((31 : Int32) * x3)) + (1 : Int32)), .int (s.1 a3 (((62 : Int32) + ((31 : Int32) * x3))).toNatClampNeg)]) (rest := []) (p_215_73 _ _) mK_166 mL_166 rfl rfl (Nat.le_of_ble_eq_true rfl) rfl (Nat.le_of_ble_eq_true rfl) h6.2.1 h6.2.2)))))))))))))))))))))
theorem b_215_76 {Y : sY} {d : Nat} {s : sT} {K : Option Int32 → sT → Prop} {r0 : Nat} {x1 : Int32} {x2 : Int32} {x3 : Int32} {x4 : Int32} {t0 : Int32} (h : (if x2 = (1 : Int32) then tT Y (d + 1) 215 88 [.ref r0, .int x1, .int x2, .int x3, .int x4, .int t0, .null, .null] [] s K else (if ¬ x2 = (2 : Int32) then tT Y (d + 1) 215 123 [.ref r0, .int x1, .int x2, .int x3, .int x4, .int t0, .null, .null] [.int (0 : Int32)] s K else tT Y (d + 1) 215 88 [.ref r0, .int x1, .int x2, .int x3, .int x4, .int t0, .null, .null] [] s K))) : tT Y (d + 1) 215 76 [.ref r0, .int x1, .int x2, .int x3, .int x4, .null, .null, .null] [.int t0] s K :=
  (tt_istore (p_215_76 _ _) (Nat.le_of_ble_eq_true rfl) rfl rfl).mpr ((tt_iload (p_215_78 _ _) rfl).mpr ((tt_push (p_215_79 _ _)).mpr (t3_cmp (p := x2 = (1 : Int32)) (p_215_80 _ _) rfl (fun g1 => (ifp h g1)) (fun g1 => (tt_iload (p_215_83 _ _) rfl).mpr ((tt_push (p_215_84 _ _)).mpr (t3_cmp (p := ¬ x2 = (2 : Int32)) (p_215_85 _ _) rfl (fun g2 => (tt_push (p_215_122 _ _)).mpr ((ifp (ifn h g1) g2))) (fun g2 => (ifn (ifn h g1) g2))))))))
theorem b_215_88 {Y : sY} {d : Nat} {s : sT} {K : Option Int32 → sT → Prop} {r0 : Nat} {x1 : Int32} {x2 : Int32} {x3 : Int32} {x4 : Int32} {x5 : Int32} (h : (∃ a1, (isO Y r0 11 ∧ s.2 r0 0 = some a1) ∧ (∃ a3, (isO Y r0 11 ∧ s.2 r0 0 = some a3) ∧ (∃ m5, (isA Y a3 0 m5 ∧ inR ((62 : Int32) + ((31 : Int32) * x4)) m5) ∧ (isO Y r0 11 ∧ tT Y d 166 0 [.ref r0, .ref a1, .int (((62 : Int32) + ((31 : Int32) * x4)) + (1 : Int32)), .int (s.1 a3 (((62 : Int32) + ((31 : Int32) * x4))).toNatClampNeg), .null, .null, .null, .null, .null] [] s (fun r s1 => tT Y (d + 1) 215 119 [.ref r0, .int x1, .int x2, .int x3, .int x4, .int x5, .null, .null] ((r.map Value.int).toList ++ []) s1 K)))))) : tT Y (d + 1) 215 88 [.ref r0, .int x1, .int x2, .int x3, .int x4, .int x5, .null, .null] [] s K :=
  (tt_aload (p_215_88 _ _) rfl).mpr ((tt_aload (p_215_89 _ _) rfl).mpr (Exists.elim h (fun a1 h2 => t3_getr (p_215_90 _ _) (isI_11_0) h2.1.1 h2.1.2 ((tt_push (p_215_93 _ _)).mpr ((tt_push (p_215_95 _ _)).mpr ((tt_iload (p_215_97 _ _) rfl).mpr ((tt_bin (p_215_99 _ _)).mpr ((tt_bin (p_215_100 _ _)).mpr ((tt_push (p_215_101 _ _)).mpr ((tt_bin (p_215_102 _ _)).mpr ((tt_aload (p_215_103 _ _) rfl).mpr (Exists.elim h2.2 (fun a3 h4 => t3_getr (p_215_104 _ _) (isI_11_0) h4.1.1 h4.1.2 ((tt_push (p_215_107 _ _)).mpr ((tt_push (p_215_109 _ _)).mpr ((tt_iload (p_215_111 _ _) rfl).mpr ((tt_bin (p_215_113 _ _)).mpr ((tt_bin (p_215_114 _ _)).mpr (Exists.elim h4.2 (fun m5 h6 => t3_ald (p_215_115 _ _) h6.1.1 h6.1.2 (t2_callv (z := 166) (k := 4) (i := r0) (as := [.ref a1, .int (((62 : Int32) + ((31 : Int32) * x4)) + (1 : Int32)), .int (s.1 a3 (((62 : Int32) + ((31 : Int32) * x4))).toNatClampNeg)]) (rest := []) (p_215_116 _ _) mK_166 mL_166 rfl rfl (Nat.le_of_ble_eq_true rfl) rfl (Nat.le_of_ble_eq_true rfl) h6.2.1 h6.2.2)))))))))))))))))))))
theorem b_215_119 {Y : sY} {d : Nat} {s : sT} {K : Option Int32 → sT → Prop} {r0 : Nat} {x1 : Int32} {x2 : Int32} {x3 : Int32} {x4 : Int32} {x5 : Int32} {t0 : Int32} (h : tT Y (d + 1) 215 123 [.ref r0, .int x1, .int x2, .int x3, .int x4, .int x5, .null, .null] [.int t0] s K) : tT Y (d + 1) 215 119 [.ref r0, .int x1, .int x2, .int x3, .int x4, .int x5, .null, .null] [.int t0] s K :=
  (tt_goto (p_215_119 _ _)).mpr (h)
theorem b_215_123 {Y : sY} {d : Nat} {s : sT} {K : Option Int32 → sT → Prop} {r0 : Nat} {x1 : Int32} {x2 : Int32} {x3 : Int32} {x4 : Int32} {x5 : Int32} {t0 : Int32} (h : (∃ a1, (isO Y r0 11 ∧ s.2 r0 20 = some a1) ∧ (∃ m3, (isA Y a1 0 m3 ∧ inR (0 : Int32) m3) ∧ (∃ a5, (isO Y r0 11 ∧ (pV s a1 ((0 : Int32)).toNatClampNeg x5).2 r0 20 = some a5) ∧ (∃ m7, (isA Y a5 0 m7 ∧ inR (1 : Int32) m7) ∧ (if ¬ x2 = 0 then (if ¬ x2 = (1 : Int32) then (if ¬ x2 = (2 : Int32) then (isO Y r0 11 ∧ tT Y d 160 0 [.ref r0, .int x5] [] (pV (pV s a1 ((0 : Int32)).toNatClampNeg x5) a5 ((1 : Int32)).toNatClampNeg t0) (fun r s1 => tT Y (d + 1) 215 192 [.ref r0, .int x1, .int x2, .int x3, .int x4, .int x5, .int t0, .null] ((r.map Value.int).toList ++ []) s1 K)) else (∃ a12, (isO Y r0 11 ∧ (pV (pV s a1 ((0 : Int32)).toNatClampNeg x5) a5 ((1 : Int32)).toNatClampNeg t0).2 r0 20 = some a12) ∧ (isO Y r0 11 ∧ tT Y d 159 0 [.ref r0, .ref a12, .int (0 : Int32), .int (2 : Int32), .null, .null, .null] [] (pV (pV s a1 ((0 : Int32)).toNatClampNeg x5) a5 ((1 : Int32)).toNatClampNeg t0) (fun r s1 => tT Y (d + 1) 215 183 [.ref r0, .int x1, .int x2, .int x3, .int x4, .int x5, .int t0, .null] ((r.map Value.int).toList ++ []) s1 K)))) else (∃ a14, (isO Y r0 11 ∧ (pV (pV s a1 ((0 : Int32)).toNatClampNeg x5) a5 ((1 : Int32)).toNatClampNeg t0).2 r0 20 = some a14) ∧ (isO Y r0 11 ∧ tT Y d 158 0 [.ref r0, .ref a14, .int (0 : Int32), .int (2 : Int32), .null, .null, .null] [] (pV (pV s a1 ((0 : Int32)).toNatClampNeg x5) a5 ((1 : Int32)).toNatClampNeg t0) (fun r s1 => tT Y (d + 1) 215 165 [.ref r0, .int x1, .int x2, .int x3, .int x4, .int x5, .int t0, .null] ((r.map Value.int).toList ++ []) s1 K)))) else tT Y (d + 1) 215 192 [.ref r0, .int x1, .int x2, .int x3, .int x4, .int x5, .int t0, .null] [.int x5] (pV (pV s a1 ((0 : Int32)).toNatClampNeg x5) a5 ((1 : Int32)).toNatClampNeg t0) K)))))) : tT Y (d + 1) 215 123 [.ref r0, .int x1, .int x2, .int x3, .int x4, .int x5, .null, .null] [.int t0] s K :=
  (tt_istore (p_215_123 _ _) (Nat.le_of_ble_eq_true rfl) rfl rfl).mpr ((tt_aload (p_215_125 _ _) rfl).mpr (Exists.elim h (fun a1 h2 => t3_getr (p_215_126 _ _) (isI_11_20) h2.1.1 h2.1.2 ((tt_push (p_215_129 _ _)).mpr ((tt_iload (p_215_130 _ _) rfl).mpr (Exists.elim h2.2 (fun m3 h4 => t3_ast (p_215_132 _ _) h4.1.1 h4.1.2 ((tt_aload (p_215_133 _ _) rfl).mpr (Exists.elim h4.2 (fun a5 h6 => t3_getr (p_215_134 _ _) (isI_11_20) h6.1.1 h6.1.2 ((tt_push (p_215_137 _ _)).mpr ((tt_iload (p_215_138 _ _) rfl).mpr (Exists.elim h6.2 (fun m7 h8 => t3_ast (p_215_140 _ _) h8.1.1 h8.1.2 ((tt_iload (p_215_141 _ _) rfl).mpr (t3_if (p := ¬ x2 = 0) (p_215_142 _ _) rfl (fun g9 => (tt_iload (p_215_150 _ _) rfl).mpr ((tt_push (p_215_151 _ _)).mpr (t3_cmp (p := ¬ x2 = (1 : Int32)) (p_215_152 _ _) rfl (fun g10 => (tt_iload (p_215_168 _ _) rfl).mpr ((tt_push (p_215_169 _ _)).mpr (t3_cmp (p := ¬ x2 = (2 : Int32)) (p_215_170 _ _) rfl (fun g11 => (tt_aload (p_215_186 _ _) rfl).mpr ((tt_iload (p_215_187 _ _) rfl).mpr (t2_callv (z := 160) (k := 2) (i := r0) (as := [.int x5]) (rest := []) (p_215_189 _ _) mK_160 mL_160 rfl rfl (Nat.le_of_ble_eq_true rfl) rfl (Nat.le_of_ble_eq_true rfl) (ifp (ifp (ifp h8.2 g9) g10) g11).1 (ifp (ifp (ifp h8.2 g9) g10) g11).2))) (fun g11 => (tt_aload (p_215_173 _ _) rfl).mpr ((tt_aload (p_215_174 _ _) rfl).mpr (Exists.elim (ifn (ifp (ifp h8.2 g9) g10) g11) (fun a12 h13 => t3_getr (p_215_175 _ _) (isI_11_20) h13.1.1 h13.1.2 ((tt_push (p_215_178 _ _)).mpr ((tt_push (p_215_179 _ _)).mpr (t2_callv (z := 159) (k := 4) (i := r0) (as := [.ref a12, .int (0 : Int32), .int (2 : Int32)]) (rest := []) (p_215_180 _ _) mK_159 mL_159 rfl rfl (Nat.le_of_ble_eq_true rfl) rfl (Nat.le_of_ble_eq_true rfl) h13.2.1 h13.2.2)))))))))) (fun g10 => (tt_aload (p_215_155 _ _) rfl).mpr ((tt_aload (p_215_156 _ _) rfl).mpr (Exists.elim (ifn (ifp h8.2 g9) g10) (fun a14 h15 => t3_getr (p_215_157 _ _) (isI_11_20) h15.1.1 h15.1.2 ((tt_push (p_215_160 _ _)).mpr ((tt_push (p_215_161 _ _)).mpr (t2_callv (z := 158) (k := 4) (i := r0) (as := [.ref a14, .int (0 : Int32), .int (2 : Int32)]) (rest := []) (p_215_162 _ _) mK_158 mL_158 rfl rfl (Nat.le_of_ble_eq_true rfl) rfl (Nat.le_of_ble_eq_true rfl) h15.2.1 h15.2.2)))))))))) (fun g9 => (tt_iload (p_215_145 _ _) rfl).mpr ((tt_goto (p_215_147 _ _)).mpr ((ifn h8.2 g9))))))))))))))))))))
theorem b_215_165 {Y : sY} {d : Nat} {s : sT} {K : Option Int32 → sT → Prop} {r0 : Nat} {x1 : Int32} {x2 : Int32} {x3 : Int32} {x4 : Int32} {x5 : Int32} {x6 : Int32} {t0 : Int32} (h : tT Y (d + 1) 215 192 [.ref r0, .int x1, .int x2, .int x3, .int x4, .int x5, .int x6, .null] [.int t0] s K) : tT Y (d + 1) 215 165 [.ref r0, .int x1, .int x2, .int x3, .int x4, .int x5, .int x6, .null] [.int t0] s K :=
  (tt_goto (p_215_165 _ _)).mpr (h)
theorem b_215_183 {Y : sY} {d : Nat} {s : sT} {K : Option Int32 → sT → Prop} {r0 : Nat} {x1 : Int32} {x2 : Int32} {x3 : Int32} {x4 : Int32} {x5 : Int32} {x6 : Int32} {t0 : Int32} (h : tT Y (d + 1) 215 192 [.ref r0, .int x1, .int x2, .int x3, .int x4, .int x5, .int x6, .null] [.int t0] s K) : tT Y (d + 1) 215 183 [.ref r0, .int x1, .int x2, .int x3, .int x4, .int x5, .int x6, .null] [.int t0] s K :=
  (tt_goto (p_215_183 _ _)).mpr (h)
theorem b_215_192 {Y : sY} {d : Nat} {s : sT} {K : Option Int32 → sT → Prop} {r0 : Nat} {x1 : Int32} {x2 : Int32} {x3 : Int32} {x4 : Int32} {x5 : Int32} {x6 : Int32} {t0 : Int32} (h : (isO Y r0 11 ∧ tT Y d 210 0 [.ref r0, .int x1, .int t0, .null] [] s (fun r s1 => tT Y (d + 1) 215 201 [.ref r0, .int x1, .int x2, .int x3, .int x4, .int x5, .int x6, .int t0] ((r.map Value.int).toList ++ []) s1 K))) : tT Y (d + 1) 215 192 [.ref r0, .int x1, .int x2, .int x3, .int x4, .int x5, .int x6, .null] [.int t0] s K :=
  (tt_istore (p_215_192 _ _) (Nat.le_of_ble_eq_true rfl) rfl rfl).mpr ((tt_aload (p_215_194 _ _) rfl).mpr ((tt_iload (p_215_195 _ _) rfl).mpr ((tt_iload (p_215_196 _ _) rfl).mpr (t2_callv (z := 210) (k := 3) (i := r0) (as := [.int x1, .int t0]) (rest := []) (p_215_198 _ _) mK_210 mL_210 rfl rfl (Nat.le_of_ble_eq_true rfl) rfl (Nat.le_of_ble_eq_true rfl) h.1 h.2))))
theorem b_215_201 {Y : sY} {d : Nat} {s : sT} {K : Option Int32 → sT → Prop} {r0 : Nat} {x1 : Int32} {x2 : Int32} {x3 : Int32} {x4 : Int32} {x5 : Int32} {x6 : Int32} {x7 : Int32} {t0 : Int32} (h : K (some t0) s) : tT Y (d + 1) 215 201 [.ref r0, .int x1, .int x2, .int x3, .int x4, .int x5, .int x6, .int x7] [.int t0] s K :=
  tt_ret1 (p_215_201 _ _) h
/-! InclusionProverModel.spelled.(I)I -/
theorem p_216_0 (L : Nat) (xs : Nat → Int32) : ll_P L xs 216 0 = some (.inl (lo_push 1 (.int 0))) := (P_216 L xs 0).trans rfl
theorem p_216_1 (L : Nat) (xs : Nat → Int32) : ll_P L xs 216 1 = some (.inl (lo_istore 2 2)) := (P_216 L xs 1).trans rfl
theorem p_216_2 (L : Nat) (xs : Nat → Int32) : ll_P L xs 216 2 = some (.inl (lo_push 3 (.int 0))) := (P_216 L xs 2).trans rfl
theorem p_216_3 (L : Nat) (xs : Nat → Int32) : ll_P L xs 216 3 = some (.inl (lo_istore 4 3)) := (P_216 L xs 3).trans rfl
theorem p_216_4 (L : Nat) (xs : Nat → Int32) : ll_P L xs 216 4 = some (.inl (lo_iload 5 3)) := (P_216 L xs 4).trans rfl
theorem p_216_5 (L : Nat) (xs : Nat → Int32) : ll_P L xs 216 5 = some (.inl (lo_aload 6 0)) := (P_216 L xs 5).trans rfl
theorem p_216_6 (L : Nat) (xs : Nat → Int32) : ll_P L xs 216 6 = some (.inl (lo_getf 9 11 30)) := (P_216 L xs 6).trans rfl
theorem p_216_9 (L : Nat) (xs : Nat → Int32) : ll_P L xs 216 9 = some (.inl (lo_cmp 66 12 (fun x y => decide (y ≤ x)))) := (P_216 L xs 9).trans rfl
theorem p_216_12 (L : Nat) (xs : Nat → Int32) : ll_P L xs 216 12 = some (.inl (lo_iload 13 2)) := (P_216 L xs 12).trans rfl
theorem p_216_13 (L : Nat) (xs : Nat → Int32) : ll_P L xs 216 13 = some (.inl (lo_iload 14 1)) := (P_216 L xs 13).trans rfl
theorem p_216_14 (L : Nat) (xs : Nat → Int32) : ll_P L xs 216 14 = some (.inl (lo_push 15 (.int 3))) := (P_216 L xs 14).trans rfl
theorem p_216_15 (L : Nat) (xs : Nat → Int32) : ll_P L xs 216 15 = some (.inl (lo_cmp 42 18 (fun x y => decide (¬ x = y)))) := (P_216 L xs 15).trans rfl
theorem p_216_18 (L : Nat) (xs : Nat → Int32) : ll_P L xs 216 18 = some (.inl (lo_aload 19 0)) := (P_216 L xs 18).trans rfl
theorem p_216_19 (L : Nat) (xs : Nat → Int32) : ll_P L xs 216 19 = some (.inl (lo_getf 22 11 28)) := (P_216 L xs 19).trans rfl
theorem p_216_22 (L : Nat) (xs : Nat → Int32) : ll_P L xs 216 22 = some (.inl (lo_iload 23 3)) := (P_216 L xs 22).trans rfl
theorem p_216_23 (L : Nat) (xs : Nat → Int32) : ll_P L xs 216 23 = some (.inl (lo_ald 24 0)) := (P_216 L xs 23).trans rfl
theorem p_216_24 (L : Nat) (xs : Nat → Int32) : ll_P L xs 216 24 = some (.inl (lo_push 26 (.int 97))) := (P_216 L xs 24).trans rfl
theorem p_216_26 (L : Nat) (xs : Nat → Int32) : ll_P L xs 216 26 = some (.inl (lo_push 28 (.int 99))) := (P_216 L xs 26).trans rfl
theorem p_216_28 (L : Nat) (xs : Nat → Int32) : ll_P L xs 216 28 = some (.inr (.inl (151, 3, 31))) := (P_216 L xs 28).trans rfl
theorem p_216_31 (L : Nat) (xs : Nat → Int32) : ll_P L xs 216 31 = some (.inl (lo_if 38 34 (fun x => decide (x = 0)))) := (P_216 L xs 31).trans rfl
theorem p_216_34 (L : Nat) (xs : Nat → Int32) : ll_P L xs 216 34 = some (.inl (lo_push 35 (.int 1))) := (P_216 L xs 34).trans rfl
theorem p_216_35 (L : Nat) (xs : Nat → Int32) : ll_P L xs 216 35 = some (.inl (lo_goto 58)) := (P_216 L xs 35).trans rfl
theorem p_216_38 (L : Nat) (xs : Nat → Int32) : ll_P L xs 216 38 = some (.inl (lo_push 39 (.int 0))) := (P_216 L xs 38).trans rfl
theorem p_216_39 (L : Nat) (xs : Nat → Int32) : ll_P L xs 216 39 = some (.inl (lo_goto 58)) := (P_216 L xs 39).trans rfl
theorem p_216_42 (L : Nat) (xs : Nat → Int32) : ll_P L xs 216 42 = some (.inl (lo_aload 43 0)) := (P_216 L xs 42).trans rfl
theorem p_216_43 (L : Nat) (xs : Nat → Int32) : ll_P L xs 216 43 = some (.inl (lo_getf 46 11 28)) := (P_216 L xs 43).trans rfl
theorem p_216_46 (L : Nat) (xs : Nat → Int32) : ll_P L xs 216 46 = some (.inl (lo_iload 47 3)) := (P_216 L xs 46).trans rfl
theorem p_216_47 (L : Nat) (xs : Nat → Int32) : ll_P L xs 216 47 = some (.inl (lo_ald 48 0)) := (P_216 L xs 47).trans rfl
theorem p_216_48 (L : Nat) (xs : Nat → Int32) : ll_P L xs 216 48 = some (.inl (lo_push 50 (.int 42))) := (P_216 L xs 48).trans rfl
theorem p_216_50 (L : Nat) (xs : Nat → Int32) : ll_P L xs 216 50 = some (.inl (lo_cmp 57 53 (fun x y => decide (¬ x = y)))) := (P_216 L xs 50).trans rfl
theorem p_216_53 (L : Nat) (xs : Nat → Int32) : ll_P L xs 216 53 = some (.inl (lo_push 54 (.int 1))) := (P_216 L xs 53).trans rfl
theorem p_216_54 (L : Nat) (xs : Nat → Int32) : ll_P L xs 216 54 = some (.inl (lo_goto 58)) := (P_216 L xs 54).trans rfl
theorem p_216_57 (L : Nat) (xs : Nat → Int32) : ll_P L xs 216 57 = some (.inl (lo_push 58 (.int 0))) := (P_216 L xs 57).trans rfl
theorem p_216_58 (L : Nat) (xs : Nat → Int32) : ll_P L xs 216 58 = some (.inl (lo_bin 59 (fun x y => x + y))) := (P_216 L xs 58).trans rfl
theorem p_216_59 (L : Nat) (xs : Nat → Int32) : ll_P L xs 216 59 = some (.inl (lo_istore 60 2)) := (P_216 L xs 59).trans rfl
theorem p_216_60 (L : Nat) (xs : Nat → Int32) : ll_P L xs 216 60 = some (.inl (lo_iinc 63 3 1)) := (P_216 L xs 60).trans rfl
theorem p_216_63 (L : Nat) (xs : Nat → Int32) : ll_P L xs 216 63 = some (.inl (lo_goto 4)) := (P_216 L xs 63).trans rfl
theorem p_216_66 (L : Nat) (xs : Nat → Int32) : ll_P L xs 216 66 = some (.inl (lo_iload 67 2)) := (P_216 L xs 66).trans rfl
theorem p_216_67 (L : Nat) (xs : Nat → Int32) : ll_P L xs 216 67 = some (.inr (.inr 1)) := (P_216 L xs 67).trans rfl
theorem b_216_0 {Y : sY} {d : Nat} {s : sT} {K : Option Int32 → sT → Prop} {r0 : Nat} {x1 : Int32} (h : tT Y (d + 1) 216 4 [.ref r0, .int x1, .int (0 : Int32), .int (0 : Int32)] [] s K) : tT Y (d + 1) 216 0 [.ref r0, .int x1, .null, .null] [] s K :=
  (tt_push (p_216_0 _ _)).mpr ((tt_istore (p_216_1 _ _) (Nat.le_of_ble_eq_true rfl) rfl rfl).mpr ((tt_push (p_216_2 _ _)).mpr ((tt_istore (p_216_3 _ _) (Nat.le_of_ble_eq_true rfl) rfl rfl).mpr (h))))
theorem b_216_4 {Y : sY} {d : Nat} {s : sT} {K : Option Int32 → sT → Prop} {r0 : Nat} {x1 : Int32} {x2 : Int32} {x3 : Int32} (h : (isO Y r0 11 ∧ (if (s.1 r0 30) ≤ x3 then K (some x2) s else (if ¬ x1 = (3 : Int32) then (∃ a3, (isO Y r0 11 ∧ s.2 r0 28 = some a3) ∧ (∃ m5, (isA Y a3 0 m5 ∧ inR x3 m5) ∧ (if ¬ (s.1 a3 (x3).toNatClampNeg) = (42 : Int32) then tT Y (d + 1) 216 58 [.ref r0, .int x1, .int x2, .int x3] [.int (0 : Int32), .int x2] s K else tT Y (d + 1) 216 58 [.ref r0, .int x1, .int x2, .int x3] [.int (1 : Int32), .int x2] s K))) else (∃ a8, (isO Y r0 11 ∧ s.2 r0 28 = some a8) ∧ (∃ m10, (isA Y a8 0 m10 ∧ inR x3 m10) ∧ tT Y d 151 0 [.int (s.1 a8 (x3).toNatClampNeg), .int (97 : Int32), .int (99 : Int32)] [] s (fun r s1 => tT Y (d + 1) 216 31 [.ref r0, .int x1, .int x2, .int x3] ((r.map Value.int).toList ++ [.int x2]) s1 K))))))) : tT Y (d + 1) 216 4 [.ref r0, .int x1, .int x2, .int x3] [] s K :=
  (tt_iload (p_216_4 _ _) rfl).mpr ((tt_aload (p_216_5 _ _) rfl).mpr (t3_geti (p_216_6 _ _) (isI_11_30) h.1 (t3_cmp (p := (s.1 r0 30) ≤ x3) (p_216_9 _ _) rfl (fun g1 => (tt_iload (p_216_66 _ _) rfl).mpr (tt_ret1 (p_216_67 _ _) (ifp h.2 g1))) (fun g1 => (tt_iload (p_216_12 _ _) rfl).mpr ((tt_iload (p_216_13 _ _) rfl).mpr ((tt_push (p_216_14 _ _)).mpr (t3_cmp (p := ¬ x1 = (3 : Int32)) (p_216_15 _ _) rfl (fun g2 => (tt_aload (p_216_42 _ _) rfl).mpr (Exists.elim (ifp (ifn h.2 g1) g2) (fun a3 h4 => t3_getr (p_216_43 _ _) (isI_11_28) h4.1.1 h4.1.2 ((tt_iload (p_216_46 _ _) rfl).mpr (Exists.elim h4.2 (fun m5 h6 => t3_ald (p_216_47 _ _) h6.1.1 h6.1.2 ((tt_push (p_216_48 _ _)).mpr (t3_cmp (p := ¬ (s.1 a3 (x3).toNatClampNeg) = (42 : Int32)) (p_216_50 _ _) rfl (fun g7 => (tt_push (p_216_57 _ _)).mpr ((ifp h6.2 g7))) (fun g7 => (tt_push (p_216_53 _ _)).mpr ((tt_goto (p_216_54 _ _)).mpr ((ifn h6.2 g7)))))))))))) (fun g2 => (tt_aload (p_216_18 _ _) rfl).mpr (Exists.elim (ifn (ifn h.2 g1) g2) (fun a8 h9 => t3_getr (p_216_19 _ _) (isI_11_28) h9.1.1 h9.1.2 ((tt_iload (p_216_22 _ _) rfl).mpr (Exists.elim h9.2 (fun m10 h11 => t3_ald (p_216_23 _ _) h11.1.1 h11.1.2 ((tt_push (p_216_24 _ _)).mpr ((tt_push (p_216_26 _ _)).mpr (t2_calls (z := 151) (k := 3) (as := [.int (s.1 a8 (x3).toNatClampNeg), .int (97 : Int32), .int (99 : Int32)]) (rest := [.int x2]) (p_216_28 _ _) mK_151 mL_151 rfl rfl (Nat.le_of_ble_eq_true rfl) rfl (Nat.le_of_ble_eq_true rfl) h11.2))))))))))))))))
theorem b_216_31 {Y : sY} {d : Nat} {s : sT} {K : Option Int32 → sT → Prop} {r0 : Nat} {x1 : Int32} {x2 : Int32} {x3 : Int32} {t0 : Int32} {t1 : Int32} (h : (if t1 = 0 then tT Y (d + 1) 216 58 [.ref r0, .int x1, .int x2, .int x3] [.int (0 : Int32), .int t0] s K else tT Y (d + 1) 216 58 [.ref r0, .int x1, .int x2, .int x3] [.int (1 : Int32), .int t0] s K)) : tT Y (d + 1) 216 31 [.ref r0, .int x1, .int x2, .int x3] [.int t1, .int t0] s K :=
  t3_if (p := t1 = 0) (p_216_31 _ _) rfl (fun g1 => (tt_push (p_216_38 _ _)).mpr ((tt_goto (p_216_39 _ _)).mpr ((ifp h g1)))) (fun g1 => (tt_push (p_216_34 _ _)).mpr ((tt_goto (p_216_35 _ _)).mpr ((ifn h g1))))
theorem b_216_58 {Y : sY} {d : Nat} {s : sT} {K : Option Int32 → sT → Prop} {r0 : Nat} {x1 : Int32} {x2 : Int32} {x3 : Int32} {t0 : Int32} {t1 : Int32} (h : tT Y (d + 1) 216 4 [.ref r0, .int x1, .int (t0 + t1), .int (x3 + 1)] [] s K) : tT Y (d + 1) 216 58 [.ref r0, .int x1, .int x2, .int x3] [.int t1, .int t0] s K :=
  (tt_bin (p_216_58 _ _)).mpr ((tt_istore (p_216_59 _ _) (Nat.le_of_ble_eq_true rfl) rfl rfl).mpr ((tt_iinc (p_216_60 _ _) rfl rfl rfl).mpr ((tt_goto (p_216_63 _ _)).mpr (h))))
/-! InclusionProverModel.byteAt.(I)I -/
theorem p_217_0 (L : Nat) (xs : Nat → Int32) : ll_P L xs 217 0 = some (.inl (lo_iload 1 1)) := (P_217 L xs 0).trans rfl
theorem p_217_1 (L : Nat) (xs : Nat → Int32) : ll_P L xs 217 1 = some (.inl (lo_push 2 (.int 0))) := (P_217 L xs 1).trans rfl
theorem p_217_2 (L : Nat) (xs : Nat → Int32) : ll_P L xs 217 2 = some (.inl (lo_aload 3 0)) := (P_217 L xs 2).trans rfl
theorem p_217_3 (L : Nat) (xs : Nat → Int32) : ll_P L xs 217 3 = some (.inl (lo_getf 6 11 30)) := (P_217 L xs 3).trans rfl
theorem p_217_6 (L : Nat) (xs : Nat → Int32) : ll_P L xs 217 6 = some (.inl (lo_push 7 (.int 1))) := (P_217 L xs 6).trans rfl
theorem p_217_7 (L : Nat) (xs : Nat → Int32) : ll_P L xs 217 7 = some (.inl (lo_bin 8 (fun x y => x - y))) := (P_217 L xs 7).trans rfl
theorem p_217_8 (L : Nat) (xs : Nat → Int32) : ll_P L xs 217 8 = some (.inr (.inl (151, 3, 11))) := (P_217 L xs 8).trans rfl
theorem p_217_11 (L : Nat) (xs : Nat → Int32) : ll_P L xs 217 11 = some (.inl (lo_if 23 14 (fun x => decide (x = 0)))) := (P_217 L xs 11).trans rfl
theorem p_217_14 (L : Nat) (xs : Nat → Int32) : ll_P L xs 217 14 = some (.inl (lo_aload 15 0)) := (P_217 L xs 14).trans rfl
theorem p_217_15 (L : Nat) (xs : Nat → Int32) : ll_P L xs 217 15 = some (.inl (lo_getf 18 11 28)) := (P_217 L xs 15).trans rfl
theorem p_217_18 (L : Nat) (xs : Nat → Int32) : ll_P L xs 217 18 = some (.inl (lo_iload 19 1)) := (P_217 L xs 18).trans rfl
theorem p_217_19 (L : Nat) (xs : Nat → Int32) : ll_P L xs 217 19 = some (.inl (lo_ald 20 0)) := (P_217 L xs 19).trans rfl
theorem p_217_20 (L : Nat) (xs : Nat → Int32) : ll_P L xs 217 20 = some (.inl (lo_goto 24)) := (P_217 L xs 20).trans rfl
theorem p_217_23 (L : Nat) (xs : Nat → Int32) : ll_P L xs 217 23 = some (.inl (lo_push 24 (.int (-1)))) := (P_217 L xs 23).trans rfl
theorem p_217_24 (L : Nat) (xs : Nat → Int32) : ll_P L xs 217 24 = some (.inr (.inr 1)) := (P_217 L xs 24).trans rfl
theorem b_217_0 {Y : sY} {d : Nat} {s : sT} {K : Option Int32 → sT → Prop} {r0 : Nat} {x1 : Int32} (h : (isO Y r0 11 ∧ tT Y d 151 0 [.int x1, .int (0 : Int32), .int ((s.1 r0 30) - (1 : Int32))] [] s (fun r s1 => tT Y (d + 1) 217 11 [.ref r0, .int x1] ((r.map Value.int).toList ++ []) s1 K))) : tT Y (d + 1) 217 0 [.ref r0, .int x1] [] s K :=
  (tt_iload (p_217_0 _ _) rfl).mpr ((tt_push (p_217_1 _ _)).mpr ((tt_aload (p_217_2 _ _) rfl).mpr (t3_geti (p_217_3 _ _) (isI_11_30) h.1 ((tt_push (p_217_6 _ _)).mpr ((tt_bin (p_217_7 _ _)).mpr (t2_calls (z := 151) (k := 3) (as := [.int x1, .int (0 : Int32), .int ((s.1 r0 30) - (1 : Int32))]) (rest := []) (p_217_8 _ _) mK_151 mL_151 rfl rfl (Nat.le_of_ble_eq_true rfl) rfl (Nat.le_of_ble_eq_true rfl) h.2))))))
theorem b_217_11 {Y : sY} {d : Nat} {s : sT} {K : Option Int32 → sT → Prop} {r0 : Nat} {x1 : Int32} {t0 : Int32} (h : (if t0 = 0 then K (some (-1 : Int32)) s else (∃ a2, (isO Y r0 11 ∧ s.2 r0 28 = some a2) ∧ (∃ m4, (isA Y a2 0 m4 ∧ inR x1 m4) ∧ K (some (s.1 a2 (x1).toNatClampNeg)) s)))) : tT Y (d + 1) 217 11 [.ref r0, .int x1] [.int t0] s K :=
  t3_if (p := t0 = 0) (p_217_11 _ _) rfl (fun g1 => (tt_push (p_217_23 _ _)).mpr (tt_ret1 (p_217_24 _ _) (ifp h g1))) (fun g1 => (tt_aload (p_217_14 _ _) rfl).mpr (Exists.elim (ifn h g1) (fun a2 h3 => t3_getr (p_217_15 _ _) (isI_11_28) h3.1.1 h3.1.2 ((tt_iload (p_217_18 _ _) rfl).mpr (Exists.elim h3.2 (fun m4 h5 => t3_ald (p_217_19 _ _) h5.1.1 h5.1.2 ((tt_goto (p_217_20 _ _)).mpr (tt_ret1 (p_217_24 _ _) h5.2))))))))
/-! InclusionProverModel.shape.(II)I -/
theorem p_218_0 (L : Nat) (xs : Nat → Int32) : ll_P L xs 218 0 = some (.inl (lo_iload 1 1)) := (P_218 L xs 0).trans rfl
theorem p_218_1 (L : Nat) (xs : Nat → Int32) : ll_P L xs 218 1 = some (.inr (.inl (209, 1, 4))) := (P_218 L xs 1).trans rfl
theorem p_218_4 (L : Nat) (xs : Nat → Int32) : ll_P L xs 218 4 = some (.inl (lo_if 9 7 (fun x => decide (¬ x = 0)))) := (P_218 L xs 4).trans rfl
theorem p_218_7 (L : Nat) (xs : Nat → Int32) : ll_P L xs 218 7 = some (.inl (lo_push 8 (.int (-1)))) := (P_218 L xs 7).trans rfl
theorem p_218_8 (L : Nat) (xs : Nat → Int32) : ll_P L xs 218 8 = some (.inr (.inr 1)) := (P_218 L xs 8).trans rfl
theorem p_218_9 (L : Nat) (xs : Nat → Int32) : ll_P L xs 218 9 = some (.inl (lo_aload 10 0)) := (P_218 L xs 9).trans rfl
theorem p_218_10 (L : Nat) (xs : Nat → Int32) : ll_P L xs 218 10 = some (.inl (lo_push 11 (.int 0))) := (P_218 L xs 10).trans rfl
theorem p_218_11 (L : Nat) (xs : Nat → Int32) : ll_P L xs 218 11 = some (.inl (lo_push 13 (.int 31))) := (P_218 L xs 11).trans rfl
theorem p_218_13 (L : Nat) (xs : Nat → Int32) : ll_P L xs 218 13 = some (.inr (.inl (180, 3, 16))) := (P_218 L xs 13).trans rfl
theorem p_218_16 (L : Nat) (xs : Nat → Int32) : ll_P L xs 218 16 = some (.inl (lo_aload 17 0)) := (P_218 L xs 16).trans rfl
theorem p_218_17 (L : Nat) (xs : Nat → Int32) : ll_P L xs 218 17 = some (.inl (lo_getf 20 11 34)) := (P_218 L xs 17).trans rfl
theorem p_218_20 (L : Nat) (xs : Nat → Int32) : ll_P L xs 218 20 = some (.inl (lo_push 22 (.int 31))) := (P_218 L xs 20).trans rfl
theorem p_218_22 (L : Nat) (xs : Nat → Int32) : ll_P L xs 218 22 = some (.inl (lo_iload 23 1)) := (P_218 L xs 22).trans rfl
theorem p_218_23 (L : Nat) (xs : Nat → Int32) : ll_P L xs 218 23 = some (.inl (lo_bin 24 (fun x y => x * y))) := (P_218 L xs 23).trans rfl
theorem p_218_24 (L : Nat) (xs : Nat → Int32) : ll_P L xs 218 24 = some (.inl (lo_ald 25 0)) := (P_218 L xs 24).trans rfl
theorem p_218_25 (L : Nat) (xs : Nat → Int32) : ll_P L xs 218 25 = some (.inl (lo_istore 26 3)) := (P_218 L xs 25).trans rfl
theorem p_218_26 (L : Nat) (xs : Nat → Int32) : ll_P L xs 218 26 = some (.inl (lo_aload 27 0)) := (P_218 L xs 26).trans rfl
theorem p_218_27 (L : Nat) (xs : Nat → Int32) : ll_P L xs 218 27 = some (.inl (lo_iload 28 3)) := (P_218 L xs 27).trans rfl
theorem p_218_28 (L : Nat) (xs : Nat → Int32) : ll_P L xs 218 28 = some (.inr (.inl (169, 2, 31))) := (P_218 L xs 28).trans rfl
theorem p_218_31 (L : Nat) (xs : Nat → Int32) : ll_P L xs 218 31 = some (.inl (lo_iload 32 2)) := (P_218 L xs 31).trans rfl
theorem p_218_32 (L : Nat) (xs : Nat → Int32) : ll_P L xs 218 32 = some (.inl (lo_tab 0 [84, 91, 106, 111, 117, 123, 133, 147, 154] 161)) := (P_218 L xs 32).trans rfl
theorem p_218_84 (L : Nat) (xs : Nat → Int32) : ll_P L xs 218 84 = some (.inl (lo_aload 85 0)) := (P_218 L xs 84).trans rfl
theorem p_218_85 (L : Nat) (xs : Nat → Int32) : ll_P L xs 218 85 = some (.inl (lo_getf 88 11 35)) := (P_218 L xs 85).trans rfl
theorem p_218_88 (L : Nat) (xs : Nat → Int32) : ll_P L xs 218 88 = some (.inl (lo_iload 89 1)) := (P_218 L xs 88).trans rfl
theorem p_218_89 (L : Nat) (xs : Nat → Int32) : ll_P L xs 218 89 = some (.inl (lo_ald 90 0)) := (P_218 L xs 89).trans rfl
theorem p_218_90 (L : Nat) (xs : Nat → Int32) : ll_P L xs 218 90 = some (.inr (.inr 1)) := (P_218 L xs 90).trans rfl
theorem p_218_91 (L : Nat) (xs : Nat → Int32) : ll_P L xs 218 91 = some (.inl (lo_aload 92 0)) := (P_218 L xs 91).trans rfl
theorem p_218_92 (L : Nat) (xs : Nat → Int32) : ll_P L xs 218 92 = some (.inl (lo_getf 95 11 11)) := (P_218 L xs 92).trans rfl
theorem p_218_95 (L : Nat) (xs : Nat → Int32) : ll_P L xs 218 95 = some (.inl (lo_iload 96 3)) := (P_218 L xs 95).trans rfl
theorem p_218_96 (L : Nat) (xs : Nat → Int32) : ll_P L xs 218 96 = some (.inl (lo_ald 97 1)) := (P_218 L xs 96).trans rfl
theorem p_218_97 (L : Nat) (xs : Nat → Int32) : ll_P L xs 218 97 = some (.inl (lo_if 104 100 (fun x => decide (x = 0)))) := (P_218 L xs 97).trans rfl
theorem p_218_100 (L : Nat) (xs : Nat → Int32) : ll_P L xs 218 100 = some (.inl (lo_push 101 (.int 1))) := (P_218 L xs 100).trans rfl
theorem p_218_101 (L : Nat) (xs : Nat → Int32) : ll_P L xs 218 101 = some (.inl (lo_goto 105)) := (P_218 L xs 101).trans rfl
theorem p_218_104 (L : Nat) (xs : Nat → Int32) : ll_P L xs 218 104 = some (.inl (lo_push 105 (.int 0))) := (P_218 L xs 104).trans rfl
theorem p_218_105 (L : Nat) (xs : Nat → Int32) : ll_P L xs 218 105 = some (.inr (.inr 1)) := (P_218 L xs 105).trans rfl
theorem p_218_106 (L : Nat) (xs : Nat → Int32) : ll_P L xs 218 106 = some (.inl (lo_aload 107 0)) := (P_218 L xs 106).trans rfl
theorem p_218_107 (L : Nat) (xs : Nat → Int32) : ll_P L xs 218 107 = some (.inl (lo_getf 110 11 30)) := (P_218 L xs 107).trans rfl
theorem p_218_110 (L : Nat) (xs : Nat → Int32) : ll_P L xs 218 110 = some (.inr (.inr 1)) := (P_218 L xs 110).trans rfl
theorem p_218_111 (L : Nat) (xs : Nat → Int32) : ll_P L xs 218 111 = some (.inl (lo_aload 112 0)) := (P_218 L xs 111).trans rfl
theorem p_218_112 (L : Nat) (xs : Nat → Int32) : ll_P L xs 218 112 = some (.inl (lo_push 113 (.int 3))) := (P_218 L xs 112).trans rfl
theorem p_218_113 (L : Nat) (xs : Nat → Int32) : ll_P L xs 218 113 = some (.inr (.inl (216, 2, 116))) := (P_218 L xs 113).trans rfl
theorem p_218_116 (L : Nat) (xs : Nat → Int32) : ll_P L xs 218 116 = some (.inr (.inr 1)) := (P_218 L xs 116).trans rfl
theorem p_218_117 (L : Nat) (xs : Nat → Int32) : ll_P L xs 218 117 = some (.inl (lo_aload 118 0)) := (P_218 L xs 117).trans rfl
theorem p_218_118 (L : Nat) (xs : Nat → Int32) : ll_P L xs 218 118 = some (.inl (lo_push 119 (.int 4))) := (P_218 L xs 118).trans rfl
theorem p_218_119 (L : Nat) (xs : Nat → Int32) : ll_P L xs 218 119 = some (.inr (.inl (216, 2, 122))) := (P_218 L xs 119).trans rfl
theorem p_218_122 (L : Nat) (xs : Nat → Int32) : ll_P L xs 218 122 = some (.inr (.inr 1)) := (P_218 L xs 122).trans rfl
theorem p_218_123 (L : Nat) (xs : Nat → Int32) : ll_P L xs 218 123 = some (.inl (lo_iload 124 3)) := (P_218 L xs 123).trans rfl
theorem p_218_124 (L : Nat) (xs : Nat → Int32) : ll_P L xs 218 124 = some (.inl (lo_if 131 127 (fun x => decide (¬ x = 0)))) := (P_218 L xs 124).trans rfl
theorem p_218_127 (L : Nat) (xs : Nat → Int32) : ll_P L xs 218 127 = some (.inl (lo_push 128 (.int 1))) := (P_218 L xs 127).trans rfl
theorem p_218_128 (L : Nat) (xs : Nat → Int32) : ll_P L xs 218 128 = some (.inl (lo_goto 132)) := (P_218 L xs 128).trans rfl
theorem p_218_131 (L : Nat) (xs : Nat → Int32) : ll_P L xs 218 131 = some (.inl (lo_push 132 (.int 0))) := (P_218 L xs 131).trans rfl
theorem p_218_132 (L : Nat) (xs : Nat → Int32) : ll_P L xs 218 132 = some (.inr (.inr 1)) := (P_218 L xs 132).trans rfl
theorem p_218_133 (L : Nat) (xs : Nat → Int32) : ll_P L xs 218 133 = some (.inl (lo_aload 134 0)) := (P_218 L xs 133).trans rfl
theorem p_218_134 (L : Nat) (xs : Nat → Int32) : ll_P L xs 218 134 = some (.inl (lo_push 135 (.int 4))) := (P_218 L xs 134).trans rfl
theorem p_218_135 (L : Nat) (xs : Nat → Int32) : ll_P L xs 218 135 = some (.inr (.inl (216, 2, 138))) := (P_218 L xs 135).trans rfl
theorem p_218_138 (L : Nat) (xs : Nat → Int32) : ll_P L xs 218 138 = some (.inl (lo_if 145 141 (fun x => decide (¬ x = 0)))) := (P_218 L xs 138).trans rfl
theorem p_218_141 (L : Nat) (xs : Nat → Int32) : ll_P L xs 218 141 = some (.inl (lo_push 142 (.int 1))) := (P_218 L xs 141).trans rfl
theorem p_218_142 (L : Nat) (xs : Nat → Int32) : ll_P L xs 218 142 = some (.inl (lo_goto 146)) := (P_218 L xs 142).trans rfl
theorem p_218_145 (L : Nat) (xs : Nat → Int32) : ll_P L xs 218 145 = some (.inl (lo_push 146 (.int 0))) := (P_218 L xs 145).trans rfl
theorem p_218_146 (L : Nat) (xs : Nat → Int32) : ll_P L xs 218 146 = some (.inr (.inr 1)) := (P_218 L xs 146).trans rfl
theorem p_218_147 (L : Nat) (xs : Nat → Int32) : ll_P L xs 218 147 = some (.inl (lo_aload 148 0)) := (P_218 L xs 147).trans rfl
theorem p_218_148 (L : Nat) (xs : Nat → Int32) : ll_P L xs 218 148 = some (.inl (lo_getf 151 11 8)) := (P_218 L xs 148).trans rfl
theorem p_218_151 (L : Nat) (xs : Nat → Int32) : ll_P L xs 218 151 = some (.inl (lo_iload 152 3)) := (P_218 L xs 151).trans rfl
theorem p_218_152 (L : Nat) (xs : Nat → Int32) : ll_P L xs 218 152 = some (.inl (lo_ald 153 0)) := (P_218 L xs 152).trans rfl
theorem p_218_153 (L : Nat) (xs : Nat → Int32) : ll_P L xs 218 153 = some (.inr (.inr 1)) := (P_218 L xs 153).trans rfl
theorem p_218_154 (L : Nat) (xs : Nat → Int32) : ll_P L xs 218 154 = some (.inl (lo_aload 155 0)) := (P_218 L xs 154).trans rfl
theorem p_218_155 (L : Nat) (xs : Nat → Int32) : ll_P L xs 218 155 = some (.inl (lo_getf 158 11 9)) := (P_218 L xs 155).trans rfl
theorem p_218_158 (L : Nat) (xs : Nat → Int32) : ll_P L xs 218 158 = some (.inl (lo_iload 159 3)) := (P_218 L xs 158).trans rfl
theorem p_218_159 (L : Nat) (xs : Nat → Int32) : ll_P L xs 218 159 = some (.inl (lo_ald 160 0)) := (P_218 L xs 159).trans rfl
theorem p_218_160 (L : Nat) (xs : Nat → Int32) : ll_P L xs 218 160 = some (.inr (.inr 1)) := (P_218 L xs 160).trans rfl
theorem p_218_161 (L : Nat) (xs : Nat → Int32) : ll_P L xs 218 161 = some (.inl (lo_aload 162 0)) := (P_218 L xs 161).trans rfl
theorem p_218_162 (L : Nat) (xs : Nat → Int32) : ll_P L xs 218 162 = some (.inl (lo_iload 163 2)) := (P_218 L xs 162).trans rfl
theorem p_218_163 (L : Nat) (xs : Nat → Int32) : ll_P L xs 218 163 = some (.inl (lo_push 165 (.int 10))) := (P_218 L xs 163).trans rfl
theorem p_218_165 (L : Nat) (xs : Nat → Int32) : ll_P L xs 218 165 = some (.inl (lo_bin 166 (fun x y => x - y))) := (P_218 L xs 165).trans rfl
theorem p_218_166 (L : Nat) (xs : Nat → Int32) : ll_P L xs 218 166 = some (.inr (.inl (217, 2, 169))) := (P_218 L xs 166).trans rfl
theorem p_218_169 (L : Nat) (xs : Nat → Int32) : ll_P L xs 218 169 = some (.inr (.inr 1)) := (P_218 L xs 169).trans rfl
theorem b_218_0 {Y : sY} {d : Nat} {s : sT} {K : Option Int32 → sT → Prop} {r0 : Nat} {x1 : Int32} {x2 : Int32} (h : tT Y d 209 0 [.int x1] [] s (fun r s1 => tT Y (d + 1) 218 4 [.ref r0, .int x1, .int x2, .null] ((r.map Value.int).toList ++ []) s1 K)) : tT Y (d + 1) 218 0 [.ref r0, .int x1, .int x2, .null] [] s K :=
  (tt_iload (p_218_0 _ _) rfl).mpr (t2_calls (z := 209) (k := 1) (as := [.int x1]) (rest := []) (p_218_1 _ _) mK_209 mL_209 rfl rfl (Nat.le_of_ble_eq_true rfl) rfl (Nat.le_of_ble_eq_true rfl) h)
theorem b_218_4 {Y : sY} {d : Nat} {s : sT} {K : Option Int32 → sT → Prop} {r0 : Nat} {x1 : Int32} {x2 : Int32} {t0 : Int32} (h : (if ¬ t0 = 0 then (isO Y r0 11 ∧ tT Y d 180 0 [.ref r0, .int (0 : Int32), .int (31 : Int32), .null, .null] [] s (fun r s1 => tT Y (d + 1) 218 16 [.ref r0, .int x1, .int x2, .null] ((r.map Value.int).toList ++ []) s1 K)) else K (some (-1 : Int32)) s)) : tT Y (d + 1) 218 4 [.ref r0, .int x1, .int x2, .null] [.int t0] s K :=
  t3_if (p := ¬ t0 = 0) (p_218_4 _ _) rfl (fun g1 => (tt_aload (p_218_9 _ _) rfl).mpr ((tt_push (p_218_10 _ _)).mpr ((tt_push (p_218_11 _ _)).mpr (t2_callv (z := 180) (k := 3) (i := r0) (as := [.int (0 : Int32), .int (31 : Int32)]) (rest := []) (p_218_13 _ _) mK_180 mL_180 rfl rfl (Nat.le_of_ble_eq_true rfl) rfl (Nat.le_of_ble_eq_true rfl) (ifp h g1).1 (ifp h g1).2)))) (fun g1 => (tt_push (p_218_7 _ _)).mpr (tt_ret1 (p_218_8 _ _) (ifn h g1)))
theorem b_218_16 {Y : sY} {d : Nat} {s : sT} {K : Option Int32 → sT → Prop} {r0 : Nat} {x1 : Int32} {x2 : Int32} (h : (∃ a1, (isO Y r0 11 ∧ s.2 r0 34 = some a1) ∧ (∃ m3, (isA Y a1 0 m3 ∧ inR ((31 : Int32) * x1) m3) ∧ (isO Y r0 11 ∧ tT Y d 169 0 [.ref r0, .int (s.1 a1 (((31 : Int32) * x1)).toNatClampNeg), .null] [] s (fun r s1 => tT Y (d + 1) 218 31 [.ref r0, .int x1, .int x2, .int (s.1 a1 (((31 : Int32) * x1)).toNatClampNeg)] ((r.map Value.int).toList ++ []) s1 K))))) : tT Y (d + 1) 218 16 [.ref r0, .int x1, .int x2, .null] [] s K :=
  (tt_aload (p_218_16 _ _) rfl).mpr (Exists.elim h (fun a1 h2 => t3_getr (p_218_17 _ _) (isI_11_34) h2.1.1 h2.1.2 ((tt_push (p_218_20 _ _)).mpr ((tt_iload (p_218_22 _ _) rfl).mpr ((tt_bin (p_218_23 _ _)).mpr (Exists.elim h2.2 (fun m3 h4 => t3_ald (p_218_24 _ _) h4.1.1 h4.1.2 ((tt_istore (p_218_25 _ _) (Nat.le_of_ble_eq_true rfl) rfl rfl).mpr ((tt_aload (p_218_26 _ _) rfl).mpr ((tt_iload (p_218_27 _ _) rfl).mpr (t2_callv (z := 169) (k := 2) (i := r0) (as := [.int (s.1 a1 (((31 : Int32) * x1)).toNatClampNeg)]) (rest := []) (p_218_28 _ _) mK_169 mL_169 rfl rfl (Nat.le_of_ble_eq_true rfl) rfl (Nat.le_of_ble_eq_true rfl) h4.2.1 h4.2.2)))))))))))
theorem b_218_31 {Y : sY} {d : Nat} {s : sT} {K : Option Int32 → sT → Prop} {r0 : Nat} {x1 : Int32} {x2 : Int32} {x3 : Int32} (h : ((x2 = 0 → (∃ a2, (isO Y r0 11 ∧ s.2 r0 35 = some a2) ∧ (∃ m4, (isA Y a2 0 m4 ∧ inR x1 m4) ∧ K (some (s.1 a2 (x1).toNatClampNeg)) s))) ∧ (x2 = 1 → (∃ a7, (isO Y r0 11 ∧ s.2 r0 11 = some a7) ∧ (∃ m9, (isA Y a7 1 m9 ∧ inR x3 m9) ∧ (if (s.1 a7 (x3).toNatClampNeg) = 0 then K (some (0 : Int32)) s else K (some (1 : Int32)) s)))) ∧ (x2 = 2 → (isO Y r0 11 ∧ K (some (s.1 r0 30)) s)) ∧ (x2 = 3 → (isO Y r0 11 ∧ tT Y d 216 0 [.ref r0, .int (3 : Int32), .null, .null] [] s (fun r s1 => tT Y (d + 1) 218 116 [.ref r0, .int x1, .int x2, .int x3] ((r.map Value.int).toList ++ []) s1 K))) ∧ (x2 = 4 → (isO Y r0 11 ∧ tT Y d 216 0 [.ref r0, .int (4 : Int32), .null, .null] [] s (fun r s1 => tT Y (d + 1) 218 122 [.ref r0, .int x1, .int x2, .int x3] ((r.map Value.int).toList ++ []) s1 K))) ∧ (x2 = 5 → (if ¬ x3 = 0 then K (some (0 : Int32)) s else K (some (1 : Int32)) s)) ∧ (x2 = 6 → (isO Y r0 11 ∧ tT Y d 216 0 [.ref r0, .int (4 : Int32), .null, .null] [] s (fun r s1 => tT Y (d + 1) 218 138 [.ref r0, .int x1, .int x2, .int x3] ((r.map Value.int).toList ++ []) s1 K))) ∧ (x2 = 7 → (∃ a19, (isO Y r0 11 ∧ s.2 r0 8 = some a19) ∧ (∃ m21, (isA Y a19 0 m21 ∧ inR x3 m21) ∧ K (some (s.1 a19 (x3).toNatClampNeg)) s))) ∧ (x2 = 8 → (∃ a24, (isO Y r0 11 ∧ s.2 r0 9 = some a24) ∧ (∃ m26, (isA Y a24 0 m26 ∧ inR x3 m26) ∧ K (some (s.1 a24 (x3).toNatClampNeg)) s))) ∧ (¬ x2 = 0 ∧ ¬ x2 = 1 ∧ ¬ x2 = 2 ∧ ¬ x2 = 3 ∧ ¬ x2 = 4 ∧ ¬ x2 = 5 ∧ ¬ x2 = 6 ∧ ¬ x2 = 7 ∧ ¬ x2 = 8 → (isO Y r0 11 ∧ tT Y d 217 0 [.ref r0, .int (x2 - (10 : Int32))] [] s (fun r s1 => tT Y (d + 1) 218 169 [.ref r0, .int x1, .int x2, .int x3] ((r.map Value.int).toList ++ []) s1 K))))) : tT Y (d + 1) 218 31 [.ref r0, .int x1, .int x2, .int x3] [] s K :=
  (tt_iload (p_218_31 _ _) rfl).mpr (Decidable.byCases (p := x2 = 0) (fun g1 => t3_tab (t := 84) (p_218_32 _ _) (by rw [g1]; rfl) ((tt_aload (p_218_84 _ _) rfl).mpr (Exists.elim (h.1 g1) (fun a2 h3 => t3_getr (p_218_85 _ _) (isI_11_35) h3.1.1 h3.1.2 ((tt_iload (p_218_88 _ _) rfl).mpr (Exists.elim h3.2 (fun m4 h5 => t3_ald (p_218_89 _ _) h5.1.1 h5.1.2 (tt_ret1 (p_218_90 _ _) h5.2)))))))) (fun g1n => Decidable.byCases (p := x2 = 1) (fun g6 => t3_tab (t := 91) (p_218_32 _ _) (by rw [g6]; rfl) ((tt_aload (p_218_91 _ _) rfl).mpr (Exists.elim (h.2.1 g6) (fun a7 h8 => t3_getr (p_218_92 _ _) (isI_11_11) h8.1.1 h8.1.2 ((tt_iload (p_218_95 _ _) rfl).mpr (Exists.elim h8.2 (fun m9 h10 => t3_ald (p_218_96 _ _) h10.1.1 h10.1.2 (t3_if (p := (s.1 a7 (x3).toNatClampNeg) = 0) (p_218_97 _ _) rfl (fun g11 => (tt_push (p_218_104 _ _)).mpr (tt_ret1 (p_218_105 _ _) (ifp h10.2 g11))) (fun g11 => (tt_push (p_218_100 _ _)).mpr ((tt_goto (p_218_101 _ _)).mpr (tt_ret1 (p_218_105 _ _) (ifn h10.2 g11)))))))))))) (fun g6n => Decidable.byCases (p := x2 = 2) (fun g12 => t3_tab (t := 106) (p_218_32 _ _) (by rw [g12]; rfl) ((tt_aload (p_218_106 _ _) rfl).mpr (t3_geti (p_218_107 _ _) (isI_11_30) (h.2.2.1 g12).1 (tt_ret1 (p_218_110 _ _) (h.2.2.1 g12).2)))) (fun g12n => Decidable.byCases (p := x2 = 3) (fun g13 => t3_tab (t := 111) (p_218_32 _ _) (by rw [g13]; rfl) ((tt_aload (p_218_111 _ _) rfl).mpr ((tt_push (p_218_112 _ _)).mpr (t2_callv (z := 216) (k := 2) (i := r0) (as := [.int (3 : Int32)]) (rest := []) (p_218_113 _ _) mK_216 mL_216 rfl rfl (Nat.le_of_ble_eq_true rfl) rfl (Nat.le_of_ble_eq_true rfl) (h.2.2.2.1 g13).1 (h.2.2.2.1 g13).2)))) (fun g13n => Decidable.byCases (p := x2 = 4) (fun g14 => t3_tab (t := 117) (p_218_32 _ _) (by rw [g14]; rfl) ((tt_aload (p_218_117 _ _) rfl).mpr ((tt_push (p_218_118 _ _)).mpr (t2_callv (z := 216) (k := 2) (i := r0) (as := [.int (4 : Int32)]) (rest := []) (p_218_119 _ _) mK_216 mL_216 rfl rfl (Nat.le_of_ble_eq_true rfl) rfl (Nat.le_of_ble_eq_true rfl) (h.2.2.2.2.1 g14).1 (h.2.2.2.2.1 g14).2)))) (fun g14n => Decidable.byCases (p := x2 = 5) (fun g15 => t3_tab (t := 123) (p_218_32 _ _) (by rw [g15]; rfl) ((tt_iload (p_218_123 _ _) rfl).mpr (t3_if (p := ¬ x3 = 0) (p_218_124 _ _) rfl (fun g16 => (tt_push (p_218_131 _ _)).mpr (tt_ret1 (p_218_132 _ _) (ifp (h.2.2.2.2.2.1 g15) g16))) (fun g16 => (tt_push (p_218_127 _ _)).mpr ((tt_goto (p_218_128 _ _)).mpr (tt_ret1 (p_218_132 _ _) (ifn (h.2.2.2.2.2.1 g15) g16))))))) (fun g15n => Decidable.byCases (p := x2 = 6) (fun g17 => t3_tab (t := 133) (p_218_32 _ _) (by rw [g17]; rfl) ((tt_aload (p_218_133 _ _) rfl).mpr ((tt_push (p_218_134 _ _)).mpr (t2_callv (z := 216) (k := 2) (i := r0) (as := [.int (4 : Int32)]) (rest := []) (p_218_135 _ _) mK_216 mL_216 rfl rfl (Nat.le_of_ble_eq_true rfl) rfl (Nat.le_of_ble_eq_true rfl) (h.2.2.2.2.2.2.1 g17).1 (h.2.2.2.2.2.2.1 g17).2)))) (fun g17n => Decidable.byCases (p := x2 = 7) (fun g18 => t3_tab (t := 147) (p_218_32 _ _) (by rw [g18]; rfl) ((tt_aload (p_218_147 _ _) rfl).mpr (Exists.elim (h.2.2.2.2.2.2.2.1 g18) (fun a19 h20 => t3_getr (p_218_148 _ _) (isI_11_8) h20.1.1 h20.1.2 ((tt_iload (p_218_151 _ _) rfl).mpr (Exists.elim h20.2 (fun m21 h22 => t3_ald (p_218_152 _ _) h22.1.1 h22.1.2 (tt_ret1 (p_218_153 _ _) h22.2)))))))) (fun g18n => Decidable.byCases (p := x2 = 8) (fun g23 => t3_tab (t := 154) (p_218_32 _ _) (by rw [g23]; rfl) ((tt_aload (p_218_154 _ _) rfl).mpr (Exists.elim (h.2.2.2.2.2.2.2.2.1 g23) (fun a24 h25 => t3_getr (p_218_155 _ _) (isI_11_9) h25.1.1 h25.1.2 ((tt_iload (p_218_158 _ _) rfl).mpr (Exists.elim h25.2 (fun m26 h27 => t3_ald (p_218_159 _ _) h27.1.1 h27.1.2 (tt_ret1 (p_218_160 _ _) h27.2)))))))) (fun g23n => t3_tab (t := 161) (p_218_32 _ _) (t3_tabd (fun k hk => t3_tabk (lo := 0) (n := 9) (fun j (hj : j < 9) => by rcases (show j = 0 ∨ j = 1 ∨ j = 2 ∨ j = 3 ∨ j = 4 ∨ j = 5 ∨ j = 6 ∨ j = 7 ∨ j = 8 by omega) with rfl | rfl | rfl | rfl | rfl | rfl | rfl | rfl | rfl <;> assumption) k hk)) ((tt_aload (p_218_161 _ _) rfl).mpr ((tt_iload (p_218_162 _ _) rfl).mpr ((tt_push (p_218_163 _ _)).mpr ((tt_bin (p_218_165 _ _)).mpr (t2_callv (z := 217) (k := 2) (i := r0) (as := [.int (x2 - (10 : Int32))]) (rest := []) (p_218_166 _ _) mK_217 mL_217 rfl rfl (Nat.le_of_ble_eq_true rfl) rfl (Nat.le_of_ble_eq_true rfl) (h.2.2.2.2.2.2.2.2.2 ⟨g1n, g6n, g12n, g13n, g14n, g15n, g17n, g18n, g23n⟩).1 (h.2.2.2.2.2.2.2.2.2 ⟨g1n, g6n, g12n, g13n, g14n, g15n, g17n, g18n, g23n⟩).2)))))))))))))))
theorem b_218_116 {Y : sY} {d : Nat} {s : sT} {K : Option Int32 → sT → Prop} {r0 : Nat} {x1 : Int32} {x2 : Int32} {x3 : Int32} {t0 : Int32} (h : K (some t0) s) : tT Y (d + 1) 218 116 [.ref r0, .int x1, .int x2, .int x3] [.int t0] s K :=
  tt_ret1 (p_218_116 _ _) h
theorem b_218_122 {Y : sY} {d : Nat} {s : sT} {K : Option Int32 → sT → Prop} {r0 : Nat} {x1 : Int32} {x2 : Int32} {x3 : Int32} {t0 : Int32} (h : K (some t0) s) : tT Y (d + 1) 218 122 [.ref r0, .int x1, .int x2, .int x3] [.int t0] s K :=
  tt_ret1 (p_218_122 _ _) h
theorem b_218_138 {Y : sY} {d : Nat} {s : sT} {K : Option Int32 → sT → Prop} {r0 : Nat} {x1 : Int32} {x2 : Int32} {x3 : Int32} {t0 : Int32} (h : (if ¬ t0 = 0 then K (some (0 : Int32)) s else K (some (1 : Int32)) s)) : tT Y (d + 1) 218 138 [.ref r0, .int x1, .int x2, .int x3] [.int t0] s K :=
  t3_if (p := ¬ t0 = 0) (p_218_138 _ _) rfl (fun g1 => (tt_push (p_218_145 _ _)).mpr (tt_ret1 (p_218_146 _ _) (ifp h g1))) (fun g1 => (tt_push (p_218_141 _ _)).mpr ((tt_goto (p_218_142 _ _)).mpr (tt_ret1 (p_218_146 _ _) (ifn h g1))))
theorem b_218_169 {Y : sY} {d : Nat} {s : sT} {K : Option Int32 → sT → Prop} {r0 : Nat} {x1 : Int32} {x2 : Int32} {x3 : Int32} {t0 : Int32} (h : K (some t0) s) : tT Y (d + 1) 218 169 [.ref r0, .int x1, .int x2, .int x3] [.int t0] s K :=
  tt_ret1 (p_218_169 _ _) h
/-! InclusionProverModel.term.(III)I -/
theorem p_219_0 (L : Nat) (xs : Nat → Int32) : ll_P L xs 219 0 = some (.inl (lo_iload 1 1)) := (P_219 L xs 0).trans rfl
theorem p_219_1 (L : Nat) (xs : Nat → Int32) : ll_P L xs 219 1 = some (.inr (.inl (209, 1, 4))) := (P_219 L xs 1).trans rfl
theorem p_219_4 (L : Nat) (xs : Nat → Int32) : ll_P L xs 219 4 = some (.inl (lo_if 9 7 (fun x => decide (¬ x = 0)))) := (P_219 L xs 4).trans rfl
theorem p_219_7 (L : Nat) (xs : Nat → Int32) : ll_P L xs 219 7 = some (.inl (lo_push 8 (.int (-1)))) := (P_219 L xs 7).trans rfl
theorem p_219_8 (L : Nat) (xs : Nat → Int32) : ll_P L xs 219 8 = some (.inr (.inr 1)) := (P_219 L xs 8).trans rfl
theorem p_219_9 (L : Nat) (xs : Nat → Int32) : ll_P L xs 219 9 = some (.inl (lo_aload 10 0)) := (P_219 L xs 9).trans rfl
theorem p_219_10 (L : Nat) (xs : Nat → Int32) : ll_P L xs 219 10 = some (.inl (lo_push 11 (.int 0))) := (P_219 L xs 10).trans rfl
theorem p_219_11 (L : Nat) (xs : Nat → Int32) : ll_P L xs 219 11 = some (.inl (lo_push 13 (.int 31))) := (P_219 L xs 11).trans rfl
theorem p_219_13 (L : Nat) (xs : Nat → Int32) : ll_P L xs 219 13 = some (.inr (.inl (180, 3, 16))) := (P_219 L xs 13).trans rfl
theorem p_219_16 (L : Nat) (xs : Nat → Int32) : ll_P L xs 219 16 = some (.inl (lo_iload 17 2)) := (P_219 L xs 16).trans rfl
theorem p_219_17 (L : Nat) (xs : Nat → Int32) : ll_P L xs 219 17 = some (.inl (lo_push 18 (.int 0))) := (P_219 L xs 17).trans rfl
theorem p_219_18 (L : Nat) (xs : Nat → Int32) : ll_P L xs 219 18 = some (.inl (lo_aload 19 0)) := (P_219 L xs 18).trans rfl
theorem p_219_19 (L : Nat) (xs : Nat → Int32) : ll_P L xs 219 19 = some (.inl (lo_getf 22 11 35)) := (P_219 L xs 19).trans rfl
theorem p_219_22 (L : Nat) (xs : Nat → Int32) : ll_P L xs 219 22 = some (.inl (lo_iload 23 1)) := (P_219 L xs 22).trans rfl
theorem p_219_23 (L : Nat) (xs : Nat → Int32) : ll_P L xs 219 23 = some (.inl (lo_ald 24 0)) := (P_219 L xs 23).trans rfl
theorem p_219_24 (L : Nat) (xs : Nat → Int32) : ll_P L xs 219 24 = some (.inl (lo_push 25 (.int 1))) := (P_219 L xs 24).trans rfl
theorem p_219_25 (L : Nat) (xs : Nat → Int32) : ll_P L xs 219 25 = some (.inl (lo_bin 26 (fun x y => x - y))) := (P_219 L xs 25).trans rfl
theorem p_219_26 (L : Nat) (xs : Nat → Int32) : ll_P L xs 219 26 = some (.inr (.inl (151, 3, 29))) := (P_219 L xs 26).trans rfl
theorem p_219_29 (L : Nat) (xs : Nat → Int32) : ll_P L xs 219 29 = some (.inl (lo_if 34 32 (fun x => decide (¬ x = 0)))) := (P_219 L xs 29).trans rfl
theorem p_219_32 (L : Nat) (xs : Nat → Int32) : ll_P L xs 219 32 = some (.inl (lo_push 33 (.int (-1)))) := (P_219 L xs 32).trans rfl
theorem p_219_33 (L : Nat) (xs : Nat → Int32) : ll_P L xs 219 33 = some (.inr (.inr 1)) := (P_219 L xs 33).trans rfl
theorem p_219_34 (L : Nat) (xs : Nat → Int32) : ll_P L xs 219 34 = some (.inl (lo_iload 35 3)) := (P_219 L xs 34).trans rfl
theorem p_219_35 (L : Nat) (xs : Nat → Int32) : ll_P L xs 219 35 = some (.inl (lo_push 36 (.int 2))) := (P_219 L xs 35).trans rfl
theorem p_219_36 (L : Nat) (xs : Nat → Int32) : ll_P L xs 219 36 = some (.inl (lo_push 37 (.int 4))) := (P_219 L xs 36).trans rfl
theorem p_219_37 (L : Nat) (xs : Nat → Int32) : ll_P L xs 219 37 = some (.inr (.inl (151, 3, 40))) := (P_219 L xs 37).trans rfl
theorem p_219_40 (L : Nat) (xs : Nat → Int32) : ll_P L xs 219 40 = some (.inl (lo_if 61 43 (fun x => decide (x = 0)))) := (P_219 L xs 40).trans rfl
theorem p_219_43 (L : Nat) (xs : Nat → Int32) : ll_P L xs 219 43 = some (.inl (lo_aload 44 0)) := (P_219 L xs 43).trans rfl
theorem p_219_44 (L : Nat) (xs : Nat → Int32) : ll_P L xs 219 44 = some (.inl (lo_getf 47 11 36)) := (P_219 L xs 44).trans rfl
theorem p_219_47 (L : Nat) (xs : Nat → Int32) : ll_P L xs 219 47 = some (.inl (lo_push 48 (.int 3))) := (P_219 L xs 47).trans rfl
theorem p_219_48 (L : Nat) (xs : Nat → Int32) : ll_P L xs 219 48 = some (.inl (lo_push 50 (.int 31))) := (P_219 L xs 48).trans rfl
theorem p_219_50 (L : Nat) (xs : Nat → Int32) : ll_P L xs 219 50 = some (.inl (lo_iload 51 1)) := (P_219 L xs 50).trans rfl
theorem p_219_51 (L : Nat) (xs : Nat → Int32) : ll_P L xs 219 51 = some (.inl (lo_bin 52 (fun x y => x * y))) := (P_219 L xs 51).trans rfl
theorem p_219_52 (L : Nat) (xs : Nat → Int32) : ll_P L xs 219 52 = some (.inl (lo_iload 53 2)) := (P_219 L xs 52).trans rfl
theorem p_219_53 (L : Nat) (xs : Nat → Int32) : ll_P L xs 219 53 = some (.inl (lo_bin 54 (fun x y => x + y))) := (P_219 L xs 53).trans rfl
theorem p_219_54 (L : Nat) (xs : Nat → Int32) : ll_P L xs 219 54 = some (.inl (lo_bin 55 (fun x y => x * y))) := (P_219 L xs 54).trans rfl
theorem p_219_55 (L : Nat) (xs : Nat → Int32) : ll_P L xs 219 55 = some (.inl (lo_iload 56 3)) := (P_219 L xs 55).trans rfl
theorem p_219_56 (L : Nat) (xs : Nat → Int32) : ll_P L xs 219 56 = some (.inl (lo_bin 57 (fun x y => x + y))) := (P_219 L xs 56).trans rfl
theorem p_219_57 (L : Nat) (xs : Nat → Int32) : ll_P L xs 219 57 = some (.inl (lo_push 58 (.int 2))) := (P_219 L xs 57).trans rfl
theorem p_219_58 (L : Nat) (xs : Nat → Int32) : ll_P L xs 219 58 = some (.inl (lo_bin 59 (fun x y => x - y))) := (P_219 L xs 58).trans rfl
theorem p_219_59 (L : Nat) (xs : Nat → Int32) : ll_P L xs 219 59 = some (.inl (lo_ald 60 0)) := (P_219 L xs 59).trans rfl
theorem p_219_60 (L : Nat) (xs : Nat → Int32) : ll_P L xs 219 60 = some (.inr (.inr 1)) := (P_219 L xs 60).trans rfl
theorem p_219_61 (L : Nat) (xs : Nat → Int32) : ll_P L xs 219 61 = some (.inl (lo_aload 62 0)) := (P_219 L xs 61).trans rfl
theorem p_219_62 (L : Nat) (xs : Nat → Int32) : ll_P L xs 219 62 = some (.inl (lo_aload 63 0)) := (P_219 L xs 62).trans rfl
theorem p_219_63 (L : Nat) (xs : Nat → Int32) : ll_P L xs 219 63 = some (.inl (lo_getf 66 11 34)) := (P_219 L xs 63).trans rfl
theorem p_219_66 (L : Nat) (xs : Nat → Int32) : ll_P L xs 219 66 = some (.inl (lo_push 68 (.int 31))) := (P_219 L xs 66).trans rfl
theorem p_219_68 (L : Nat) (xs : Nat → Int32) : ll_P L xs 219 68 = some (.inl (lo_iload 69 1)) := (P_219 L xs 68).trans rfl
theorem p_219_69 (L : Nat) (xs : Nat → Int32) : ll_P L xs 219 69 = some (.inl (lo_bin 70 (fun x y => x * y))) := (P_219 L xs 69).trans rfl
theorem p_219_70 (L : Nat) (xs : Nat → Int32) : ll_P L xs 219 70 = some (.inl (lo_iload 71 2)) := (P_219 L xs 70).trans rfl
theorem p_219_71 (L : Nat) (xs : Nat → Int32) : ll_P L xs 219 71 = some (.inl (lo_bin 72 (fun x y => x + y))) := (P_219 L xs 71).trans rfl
theorem p_219_72 (L : Nat) (xs : Nat → Int32) : ll_P L xs 219 72 = some (.inl (lo_ald 73 0)) := (P_219 L xs 72).trans rfl
theorem p_219_73 (L : Nat) (xs : Nat → Int32) : ll_P L xs 219 73 = some (.inr (.inl (169, 2, 76))) := (P_219 L xs 73).trans rfl
theorem p_219_76 (L : Nat) (xs : Nat → Int32) : ll_P L xs 219 76 = some (.inl (lo_iload 77 3)) := (P_219 L xs 76).trans rfl
theorem p_219_77 (L : Nat) (xs : Nat → Int32) : ll_P L xs 219 77 = some (.inl (lo_if 97 80 (fun x => decide (¬ x = 0)))) := (P_219 L xs 77).trans rfl
theorem p_219_80 (L : Nat) (xs : Nat → Int32) : ll_P L xs 219 80 = some (.inl (lo_aload 81 0)) := (P_219 L xs 80).trans rfl
theorem p_219_81 (L : Nat) (xs : Nat → Int32) : ll_P L xs 219 81 = some (.inl (lo_iload 82 1)) := (P_219 L xs 81).trans rfl
theorem p_219_82 (L : Nat) (xs : Nat → Int32) : ll_P L xs 219 82 = some (.inl (lo_iload 83 2)) := (P_219 L xs 82).trans rfl
theorem p_219_83 (L : Nat) (xs : Nat → Int32) : ll_P L xs 219 83 = some (.inr (.inl (181, 3, 86))) := (P_219 L xs 83).trans rfl
theorem p_219_86 (L : Nat) (xs : Nat → Int32) : ll_P L xs 219 86 = some (.inl (lo_if 93 89 (fun x => decide (x = 0)))) := (P_219 L xs 86).trans rfl
theorem p_219_89 (L : Nat) (xs : Nat → Int32) : ll_P L xs 219 89 = some (.inl (lo_push 90 (.int 1))) := (P_219 L xs 89).trans rfl
theorem p_219_90 (L : Nat) (xs : Nat → Int32) : ll_P L xs 219 90 = some (.inl (lo_goto 117)) := (P_219 L xs 90).trans rfl
theorem p_219_93 (L : Nat) (xs : Nat → Int32) : ll_P L xs 219 93 = some (.inl (lo_push 94 (.int 0))) := (P_219 L xs 93).trans rfl
theorem p_219_94 (L : Nat) (xs : Nat → Int32) : ll_P L xs 219 94 = some (.inl (lo_goto 117)) := (P_219 L xs 94).trans rfl
theorem p_219_97 (L : Nat) (xs : Nat → Int32) : ll_P L xs 219 97 = some (.inl (lo_iload 98 3)) := (P_219 L xs 97).trans rfl
theorem p_219_98 (L : Nat) (xs : Nat → Int32) : ll_P L xs 219 98 = some (.inl (lo_push 99 (.int 1))) := (P_219 L xs 98).trans rfl
theorem p_219_99 (L : Nat) (xs : Nat → Int32) : ll_P L xs 219 99 = some (.inl (lo_cmp 109 102 (fun x y => decide (¬ x = y)))) := (P_219 L xs 99).trans rfl
theorem p_219_102 (L : Nat) (xs : Nat → Int32) : ll_P L xs 219 102 = some (.inl (lo_aload 103 0)) := (P_219 L xs 102).trans rfl
theorem p_219_103 (L : Nat) (xs : Nat → Int32) : ll_P L xs 219 103 = some (.inl (lo_getf 106 11 30)) := (P_219 L xs 103).trans rfl
theorem p_219_106 (L : Nat) (xs : Nat → Int32) : ll_P L xs 219 106 = some (.inl (lo_goto 117)) := (P_219 L xs 106).trans rfl
theorem p_219_109 (L : Nat) (xs : Nat → Int32) : ll_P L xs 219 109 = some (.inl (lo_aload 110 0)) := (P_219 L xs 109).trans rfl
theorem p_219_110 (L : Nat) (xs : Nat → Int32) : ll_P L xs 219 110 = some (.inl (lo_iload 111 3)) := (P_219 L xs 110).trans rfl
theorem p_219_111 (L : Nat) (xs : Nat → Int32) : ll_P L xs 219 111 = some (.inl (lo_push 113 (.int 10))) := (P_219 L xs 111).trans rfl
theorem p_219_113 (L : Nat) (xs : Nat → Int32) : ll_P L xs 219 113 = some (.inl (lo_bin 114 (fun x y => x - y))) := (P_219 L xs 113).trans rfl
theorem p_219_114 (L : Nat) (xs : Nat → Int32) : ll_P L xs 219 114 = some (.inr (.inl (217, 2, 117))) := (P_219 L xs 114).trans rfl
theorem p_219_117 (L : Nat) (xs : Nat → Int32) : ll_P L xs 219 117 = some (.inr (.inr 1)) := (P_219 L xs 117).trans rfl
theorem b_219_0 {Y : sY} {d : Nat} {s : sT} {K : Option Int32 → sT → Prop} {r0 : Nat} {x1 : Int32} {x2 : Int32} {x3 : Int32} (h : tT Y d 209 0 [.int x1] [] s (fun r s1 => tT Y (d + 1) 219 4 [.ref r0, .int x1, .int x2, .int x3] ((r.map Value.int).toList ++ []) s1 K)) : tT Y (d + 1) 219 0 [.ref r0, .int x1, .int x2, .int x3] [] s K :=
  (tt_iload (p_219_0 _ _) rfl).mpr (t2_calls (z := 209) (k := 1) (as := [.int x1]) (rest := []) (p_219_1 _ _) mK_209 mL_209 rfl rfl (Nat.le_of_ble_eq_true rfl) rfl (Nat.le_of_ble_eq_true rfl) h)
theorem b_219_4 {Y : sY} {d : Nat} {s : sT} {K : Option Int32 → sT → Prop} {r0 : Nat} {x1 : Int32} {x2 : Int32} {x3 : Int32} {t0 : Int32} (h : (if ¬ t0 = 0 then (isO Y r0 11 ∧ tT Y d 180 0 [.ref r0, .int (0 : Int32), .int (31 : Int32), .null, .null] [] s (fun r s1 => tT Y (d + 1) 219 16 [.ref r0, .int x1, .int x2, .int x3] ((r.map Value.int).toList ++ []) s1 K)) else K (some (-1 : Int32)) s)) : tT Y (d + 1) 219 4 [.ref r0, .int x1, .int x2, .int x3] [.int t0] s K :=
  t3_if (p := ¬ t0 = 0) (p_219_4 _ _) rfl (fun g1 => (tt_aload (p_219_9 _ _) rfl).mpr ((tt_push (p_219_10 _ _)).mpr ((tt_push (p_219_11 _ _)).mpr (t2_callv (z := 180) (k := 3) (i := r0) (as := [.int (0 : Int32), .int (31 : Int32)]) (rest := []) (p_219_13 _ _) mK_180 mL_180 rfl rfl (Nat.le_of_ble_eq_true rfl) rfl (Nat.le_of_ble_eq_true rfl) (ifp h g1).1 (ifp h g1).2)))) (fun g1 => (tt_push (p_219_7 _ _)).mpr (tt_ret1 (p_219_8 _ _) (ifn h g1)))
theorem b_219_16 {Y : sY} {d : Nat} {s : sT} {K : Option Int32 → sT → Prop} {r0 : Nat} {x1 : Int32} {x2 : Int32} {x3 : Int32} (h : (∃ a1, (isO Y r0 11 ∧ s.2 r0 35 = some a1) ∧ (∃ m3, (isA Y a1 0 m3 ∧ inR x1 m3) ∧ tT Y d 151 0 [.int x2, .int (0 : Int32), .int ((s.1 a1 (x1).toNatClampNeg) - (1 : Int32))] [] s (fun r s1 => tT Y (d + 1) 219 29 [.ref r0, .int x1, .int x2, .int x3] ((r.map Value.int).toList ++ []) s1 K)))) : tT Y (d + 1) 219 16 [.ref r0, .int x1, .int x2, .int x3] [] s K :=
  (tt_iload (p_219_16 _ _) rfl).mpr ((tt_push (p_219_17 _ _)).mpr ((tt_aload (p_219_18 _ _) rfl).mpr (Exists.elim h (fun a1 h2 => t3_getr (p_219_19 _ _) (isI_11_35) h2.1.1 h2.1.2 ((tt_iload (p_219_22 _ _) rfl).mpr (Exists.elim h2.2 (fun m3 h4 => t3_ald (p_219_23 _ _) h4.1.1 h4.1.2 ((tt_push (p_219_24 _ _)).mpr ((tt_bin (p_219_25 _ _)).mpr (t2_calls (z := 151) (k := 3) (as := [.int x2, .int (0 : Int32), .int ((s.1 a1 (x1).toNatClampNeg) - (1 : Int32))]) (rest := []) (p_219_26 _ _) mK_151 mL_151 rfl rfl (Nat.le_of_ble_eq_true rfl) rfl (Nat.le_of_ble_eq_true rfl) h4.2))))))))))
theorem b_219_29 {Y : sY} {d : Nat} {s : sT} {K : Option Int32 → sT → Prop} {r0 : Nat} {x1 : Int32} {x2 : Int32} {x3 : Int32} {t0 : Int32} (h : (if ¬ t0 = 0 then tT Y d 151 0 [.int x3, .int (2 : Int32), .int (4 : Int32)] [] s (fun r s1 => tT Y (d + 1) 219 40 [.ref r0, .int x1, .int x2, .int x3] ((r.map Value.int).toList ++ []) s1 K) else K (some (-1 : Int32)) s)) : tT Y (d + 1) 219 29 [.ref r0, .int x1, .int x2, .int x3] [.int t0] s K :=
  t3_if (p := ¬ t0 = 0) (p_219_29 _ _) rfl (fun g1 => (tt_iload (p_219_34 _ _) rfl).mpr ((tt_push (p_219_35 _ _)).mpr ((tt_push (p_219_36 _ _)).mpr (t2_calls (z := 151) (k := 3) (as := [.int x3, .int (2 : Int32), .int (4 : Int32)]) (rest := []) (p_219_37 _ _) mK_151 mL_151 rfl rfl (Nat.le_of_ble_eq_true rfl) rfl (Nat.le_of_ble_eq_true rfl) (ifp h g1))))) (fun g1 => (tt_push (p_219_32 _ _)).mpr (tt_ret1 (p_219_33 _ _) (ifn h g1)))
theorem b_219_40 {Y : sY} {d : Nat} {s : sT} {K : Option Int32 → sT → Prop} {r0 : Nat} {x1 : Int32} {x2 : Int32} {x3 : Int32} {t0 : Int32} (h : (if t0 = 0 then (∃ a2, (isO Y r0 11 ∧ s.2 r0 34 = some a2) ∧ (∃ m4, (isA Y a2 0 m4 ∧ inR (((31 : Int32) * x1) + x2) m4) ∧ (isO Y r0 11 ∧ tT Y d 169 0 [.ref r0, .int (s.1 a2 ((((31 : Int32) * x1) + x2)).toNatClampNeg), .null] [] s (fun r s1 => tT Y (d + 1) 219 76 [.ref r0, .int x1, .int x2, .int x3] ((r.map Value.int).toList ++ []) s1 K)))) else (∃ a6, (isO Y r0 11 ∧ s.2 r0 36 = some a6) ∧ (∃ m8, (isA Y a6 0 m8 ∧ inR ((((3 : Int32) * (((31 : Int32) * x1) + x2)) + x3) - (2 : Int32)) m8) ∧ K (some (s.1 a6 (((((3 : Int32) * (((31 : Int32) * x1) + x2)) + x3) - (2 : Int32))).toNatClampNeg)) s)))) : tT Y (d + 1) 219 40 [.ref r0, .int x1, .int x2, .int x3] [.int t0] s K :=
  t3_if (p := t0 = 0) (p_219_40 _ _) rfl (fun g1 => (tt_aload (p_219_61 _ _) rfl).mpr ((tt_aload (p_219_62 _ _) rfl).mpr (Exists.elim (ifp h g1) (fun a2 h3 => t3_getr (p_219_63 _ _) (isI_11_34) h3.1.1 h3.1.2 ((tt_push (p_219_66 _ _)).mpr ((tt_iload (p_219_68 _ _) rfl).mpr ((tt_bin (p_219_69 _ _)).mpr ((tt_iload (p_219_70 _ _) rfl).mpr ((tt_bin (p_219_71 _ _)).mpr (Exists.elim h3.2 (fun m4 h5 => t3_ald (p_219_72 _ _) h5.1.1 h5.1.2 (t2_callv (z := 169) (k := 2) (i := r0) (as := [.int (s.1 a2 ((((31 : Int32) * x1) + x2)).toNatClampNeg)]) (rest := []) (p_219_73 _ _) mK_169 mL_169 rfl rfl (Nat.le_of_ble_eq_true rfl) rfl (Nat.le_of_ble_eq_true rfl) h5.2.1 h5.2.2)))))))))))) (fun g1 => (tt_aload (p_219_43 _ _) rfl).mpr (Exists.elim (ifn h g1) (fun a6 h7 => t3_getr (p_219_44 _ _) (isI_11_36) h7.1.1 h7.1.2 ((tt_push (p_219_47 _ _)).mpr ((tt_push (p_219_48 _ _)).mpr ((tt_iload (p_219_50 _ _) rfl).mpr ((tt_bin (p_219_51 _ _)).mpr ((tt_iload (p_219_52 _ _) rfl).mpr ((tt_bin (p_219_53 _ _)).mpr ((tt_bin (p_219_54 _ _)).mpr ((tt_iload (p_219_55 _ _) rfl).mpr ((tt_bin (p_219_56 _ _)).mpr ((tt_push (p_219_57 _ _)).mpr ((tt_bin (p_219_58 _ _)).mpr (Exists.elim h7.2 (fun m8 h9 => t3_ald (p_219_59 _ _) h9.1.1 h9.1.2 (tt_ret1 (p_219_60 _ _) h9.2)))))))))))))))))
theorem b_219_76 {Y : sY} {d : Nat} {s : sT} {K : Option Int32 → sT → Prop} {r0 : Nat} {x1 : Int32} {x2 : Int32} {x3 : Int32} (h : (if ¬ x3 = 0 then (if ¬ x3 = (1 : Int32) then (isO Y r0 11 ∧ tT Y d 217 0 [.ref r0, .int (x3 - (10 : Int32))] [] s (fun r s1 => tT Y (d + 1) 219 117 [.ref r0, .int x1, .int x2, .int x3] ((r.map Value.int).toList ++ []) s1 K)) else (isO Y r0 11 ∧ tT Y (d + 1) 219 117 [.ref r0, .int x1, .int x2, .int x3] [.int (s.1 r0 30)] s K)) else (isO Y r0 11 ∧ tT Y d 181 0 [.ref r0, .int x1, .int x2] [] s (fun r s1 => tT Y (d + 1) 219 86 [.ref r0, .int x1, .int x2, .int x3] ((r.map Value.int).toList ++ []) s1 K)))) : tT Y (d + 1) 219 76 [.ref r0, .int x1, .int x2, .int x3] [] s K :=
  (tt_iload (p_219_76 _ _) rfl).mpr (t3_if (p := ¬ x3 = 0) (p_219_77 _ _) rfl (fun g1 => (tt_iload (p_219_97 _ _) rfl).mpr ((tt_push (p_219_98 _ _)).mpr (t3_cmp (p := ¬ x3 = (1 : Int32)) (p_219_99 _ _) rfl (fun g2 => (tt_aload (p_219_109 _ _) rfl).mpr ((tt_iload (p_219_110 _ _) rfl).mpr ((tt_push (p_219_111 _ _)).mpr ((tt_bin (p_219_113 _ _)).mpr (t2_callv (z := 217) (k := 2) (i := r0) (as := [.int (x3 - (10 : Int32))]) (rest := []) (p_219_114 _ _) mK_217 mL_217 rfl rfl (Nat.le_of_ble_eq_true rfl) rfl (Nat.le_of_ble_eq_true rfl) (ifp (ifp h g1) g2).1 (ifp (ifp h g1) g2).2))))) (fun g2 => (tt_aload (p_219_102 _ _) rfl).mpr (t3_geti (p_219_103 _ _) (isI_11_30) (ifn (ifp h g1) g2).1 ((tt_goto (p_219_106 _ _)).mpr ((ifn (ifp h g1) g2).2))))))) (fun g1 => (tt_aload (p_219_80 _ _) rfl).mpr ((tt_iload (p_219_81 _ _) rfl).mpr ((tt_iload (p_219_82 _ _) rfl).mpr (t2_callv (z := 181) (k := 3) (i := r0) (as := [.int x1, .int x2]) (rest := []) (p_219_83 _ _) mK_181 mL_181 rfl rfl (Nat.le_of_ble_eq_true rfl) rfl (Nat.le_of_ble_eq_true rfl) (ifn h g1).1 (ifn h g1).2)))))
theorem b_219_86 {Y : sY} {d : Nat} {s : sT} {K : Option Int32 → sT → Prop} {r0 : Nat} {x1 : Int32} {x2 : Int32} {x3 : Int32} {t0 : Int32} (h : (if t0 = 0 then tT Y (d + 1) 219 117 [.ref r0, .int x1, .int x2, .int x3] [.int (0 : Int32)] s K else tT Y (d + 1) 219 117 [.ref r0, .int x1, .int x2, .int x3] [.int (1 : Int32)] s K)) : tT Y (d + 1) 219 86 [.ref r0, .int x1, .int x2, .int x3] [.int t0] s K :=
  t3_if (p := t0 = 0) (p_219_86 _ _) rfl (fun g1 => (tt_push (p_219_93 _ _)).mpr ((tt_goto (p_219_94 _ _)).mpr ((ifp h g1)))) (fun g1 => (tt_push (p_219_89 _ _)).mpr ((tt_goto (p_219_90 _ _)).mpr ((ifn h g1))))
theorem b_219_117 {Y : sY} {d : Nat} {s : sT} {K : Option Int32 → sT → Prop} {r0 : Nat} {x1 : Int32} {x2 : Int32} {x3 : Int32} {t0 : Int32} (h : K (some t0) s) : tT Y (d + 1) 219 117 [.ref r0, .int x1, .int x2, .int x3] [.int t0] s K :=
  tt_ret1 (p_219_117 _ _) h
/-! InclusionProverModel.like.(II)I -/
theorem p_220_0 (L : Nat) (xs : Nat → Int32) : ll_P L xs 220 0 = some (.inl (lo_iload 1 1)) := (P_220 L xs 0).trans rfl
theorem p_220_1 (L : Nat) (xs : Nat → Int32) : ll_P L xs 220 1 = some (.inr (.inl (209, 1, 4))) := (P_220 L xs 1).trans rfl
theorem p_220_4 (L : Nat) (xs : Nat → Int32) : ll_P L xs 220 4 = some (.inl (lo_if 9 7 (fun x => decide (¬ x = 0)))) := (P_220 L xs 4).trans rfl
theorem p_220_7 (L : Nat) (xs : Nat → Int32) : ll_P L xs 220 7 = some (.inl (lo_push 8 (.int (-1)))) := (P_220 L xs 7).trans rfl
theorem p_220_8 (L : Nat) (xs : Nat → Int32) : ll_P L xs 220 8 = some (.inr (.inr 1)) := (P_220 L xs 8).trans rfl
theorem p_220_9 (L : Nat) (xs : Nat → Int32) : ll_P L xs 220 9 = some (.inl (lo_aload 10 0)) := (P_220 L xs 9).trans rfl
theorem p_220_10 (L : Nat) (xs : Nat → Int32) : ll_P L xs 220 10 = some (.inl (lo_push 11 (.int 0))) := (P_220 L xs 10).trans rfl
theorem p_220_11 (L : Nat) (xs : Nat → Int32) : ll_P L xs 220 11 = some (.inl (lo_push 13 (.int 31))) := (P_220 L xs 11).trans rfl
theorem p_220_13 (L : Nat) (xs : Nat → Int32) : ll_P L xs 220 13 = some (.inr (.inl (180, 3, 16))) := (P_220 L xs 13).trans rfl
theorem p_220_16 (L : Nat) (xs : Nat → Int32) : ll_P L xs 220 16 = some (.inl (lo_iload 17 2)) := (P_220 L xs 16).trans rfl
theorem p_220_17 (L : Nat) (xs : Nat → Int32) : ll_P L xs 220 17 = some (.inl (lo_push 18 (.int 0))) := (P_220 L xs 17).trans rfl
theorem p_220_18 (L : Nat) (xs : Nat → Int32) : ll_P L xs 220 18 = some (.inl (lo_aload 19 0)) := (P_220 L xs 18).trans rfl
theorem p_220_19 (L : Nat) (xs : Nat → Int32) : ll_P L xs 220 19 = some (.inl (lo_getf 22 11 35)) := (P_220 L xs 19).trans rfl
theorem p_220_22 (L : Nat) (xs : Nat → Int32) : ll_P L xs 220 22 = some (.inl (lo_push 23 (.int 1))) := (P_220 L xs 22).trans rfl
theorem p_220_23 (L : Nat) (xs : Nat → Int32) : ll_P L xs 220 23 = some (.inl (lo_iload 24 1)) := (P_220 L xs 23).trans rfl
theorem p_220_24 (L : Nat) (xs : Nat → Int32) : ll_P L xs 220 24 = some (.inl (lo_bin 25 (fun x y => x - y))) := (P_220 L xs 24).trans rfl
theorem p_220_25 (L : Nat) (xs : Nat → Int32) : ll_P L xs 220 25 = some (.inl (lo_ald 26 0)) := (P_220 L xs 25).trans rfl
theorem p_220_26 (L : Nat) (xs : Nat → Int32) : ll_P L xs 220 26 = some (.inl (lo_push 27 (.int 1))) := (P_220 L xs 26).trans rfl
theorem p_220_27 (L : Nat) (xs : Nat → Int32) : ll_P L xs 220 27 = some (.inl (lo_bin 28 (fun x y => x - y))) := (P_220 L xs 27).trans rfl
theorem p_220_28 (L : Nat) (xs : Nat → Int32) : ll_P L xs 220 28 = some (.inr (.inl (151, 3, 31))) := (P_220 L xs 28).trans rfl
theorem p_220_31 (L : Nat) (xs : Nat → Int32) : ll_P L xs 220 31 = some (.inl (lo_if 55 34 (fun x => decide (x = 0)))) := (P_220 L xs 31).trans rfl
theorem p_220_34 (L : Nat) (xs : Nat → Int32) : ll_P L xs 220 34 = some (.inl (lo_aload 35 0)) := (P_220 L xs 34).trans rfl
theorem p_220_35 (L : Nat) (xs : Nat → Int32) : ll_P L xs 220 35 = some (.inl (lo_iload 36 1)) := (P_220 L xs 35).trans rfl
theorem p_220_36 (L : Nat) (xs : Nat → Int32) : ll_P L xs 220 36 = some (.inl (lo_aload 37 0)) := (P_220 L xs 36).trans rfl
theorem p_220_37 (L : Nat) (xs : Nat → Int32) : ll_P L xs 220 37 = some (.inl (lo_getf 40 11 34)) := (P_220 L xs 37).trans rfl
theorem p_220_40 (L : Nat) (xs : Nat → Int32) : ll_P L xs 220 40 = some (.inl (lo_push 42 (.int 31))) := (P_220 L xs 40).trans rfl
theorem p_220_42 (L : Nat) (xs : Nat → Int32) : ll_P L xs 220 42 = some (.inl (lo_push 43 (.int 1))) := (P_220 L xs 42).trans rfl
theorem p_220_43 (L : Nat) (xs : Nat → Int32) : ll_P L xs 220 43 = some (.inl (lo_iload 44 1)) := (P_220 L xs 43).trans rfl
theorem p_220_44 (L : Nat) (xs : Nat → Int32) : ll_P L xs 220 44 = some (.inl (lo_bin 45 (fun x y => x - y))) := (P_220 L xs 44).trans rfl
theorem p_220_45 (L : Nat) (xs : Nat → Int32) : ll_P L xs 220 45 = some (.inl (lo_bin 46 (fun x y => x * y))) := (P_220 L xs 45).trans rfl
theorem p_220_46 (L : Nat) (xs : Nat → Int32) : ll_P L xs 220 46 = some (.inl (lo_iload 47 2)) := (P_220 L xs 46).trans rfl
theorem p_220_47 (L : Nat) (xs : Nat → Int32) : ll_P L xs 220 47 = some (.inl (lo_bin 48 (fun x y => x + y))) := (P_220 L xs 47).trans rfl
theorem p_220_48 (L : Nat) (xs : Nat → Int32) : ll_P L xs 220 48 = some (.inl (lo_ald 49 0)) := (P_220 L xs 48).trans rfl
theorem p_220_49 (L : Nat) (xs : Nat → Int32) : ll_P L xs 220 49 = some (.inr (.inl (177, 3, 52))) := (P_220 L xs 49).trans rfl
theorem p_220_52 (L : Nat) (xs : Nat → Int32) : ll_P L xs 220 52 = some (.inl (lo_goto 56)) := (P_220 L xs 52).trans rfl
theorem p_220_55 (L : Nat) (xs : Nat → Int32) : ll_P L xs 220 55 = some (.inl (lo_push 56 (.int (-1)))) := (P_220 L xs 55).trans rfl
theorem p_220_56 (L : Nat) (xs : Nat → Int32) : ll_P L xs 220 56 = some (.inr (.inr 1)) := (P_220 L xs 56).trans rfl
theorem b_220_0 {Y : sY} {d : Nat} {s : sT} {K : Option Int32 → sT → Prop} {r0 : Nat} {x1 : Int32} {x2 : Int32} (h : tT Y d 209 0 [.int x1] [] s (fun r s1 => tT Y (d + 1) 220 4 [.ref r0, .int x1, .int x2] ((r.map Value.int).toList ++ []) s1 K)) : tT Y (d + 1) 220 0 [.ref r0, .int x1, .int x2] [] s K :=
  (tt_iload (p_220_0 _ _) rfl).mpr (t2_calls (z := 209) (k := 1) (as := [.int x1]) (rest := []) (p_220_1 _ _) mK_209 mL_209 rfl rfl (Nat.le_of_ble_eq_true rfl) rfl (Nat.le_of_ble_eq_true rfl) h)
theorem b_220_4 {Y : sY} {d : Nat} {s : sT} {K : Option Int32 → sT → Prop} {r0 : Nat} {x1 : Int32} {x2 : Int32} {t0 : Int32} (h : (if ¬ t0 = 0 then (isO Y r0 11 ∧ tT Y d 180 0 [.ref r0, .int (0 : Int32), .int (31 : Int32), .null, .null] [] s (fun r s1 => tT Y (d + 1) 220 16 [.ref r0, .int x1, .int x2] ((r.map Value.int).toList ++ []) s1 K)) else K (some (-1 : Int32)) s)) : tT Y (d + 1) 220 4 [.ref r0, .int x1, .int x2] [.int t0] s K :=
  t3_if (p := ¬ t0 = 0) (p_220_4 _ _) rfl (fun g1 => (tt_aload (p_220_9 _ _) rfl).mpr ((tt_push (p_220_10 _ _)).mpr ((tt_push (p_220_11 _ _)).mpr (t2_callv (z := 180) (k := 3) (i := r0) (as := [.int (0 : Int32), .int (31 : Int32)]) (rest := []) (p_220_13 _ _) mK_180 mL_180 rfl rfl (Nat.le_of_ble_eq_true rfl) rfl (Nat.le_of_ble_eq_true rfl) (ifp h g1).1 (ifp h g1).2)))) (fun g1 => (tt_push (p_220_7 _ _)).mpr (tt_ret1 (p_220_8 _ _) (ifn h g1)))
theorem b_220_16 {Y : sY} {d : Nat} {s : sT} {K : Option Int32 → sT → Prop} {r0 : Nat} {x1 : Int32} {x2 : Int32} (h : (∃ a1, (isO Y r0 11 ∧ s.2 r0 35 = some a1) ∧ (∃ m3, (isA Y a1 0 m3 ∧ inR ((1 : Int32) - x1) m3) ∧ tT Y d 151 0 [.int x2, .int (0 : Int32), .int ((s.1 a1 (((1 : Int32) - x1)).toNatClampNeg) - (1 : Int32))] [] s (fun r s1 => tT Y (d + 1) 220 31 [.ref r0, .int x1, .int x2] ((r.map Value.int).toList ++ []) s1 K)))) : tT Y (d + 1) 220 16 [.ref r0, .int x1, .int x2] [] s K :=
  (tt_iload (p_220_16 _ _) rfl).mpr ((tt_push (p_220_17 _ _)).mpr ((tt_aload (p_220_18 _ _) rfl).mpr (Exists.elim h (fun a1 h2 => t3_getr (p_220_19 _ _) (isI_11_35) h2.1.1 h2.1.2 ((tt_push (p_220_22 _ _)).mpr ((tt_iload (p_220_23 _ _) rfl).mpr ((tt_bin (p_220_24 _ _)).mpr (Exists.elim h2.2 (fun m3 h4 => t3_ald (p_220_25 _ _) h4.1.1 h4.1.2 ((tt_push (p_220_26 _ _)).mpr ((tt_bin (p_220_27 _ _)).mpr (t2_calls (z := 151) (k := 3) (as := [.int x2, .int (0 : Int32), .int ((s.1 a1 (((1 : Int32) - x1)).toNatClampNeg) - (1 : Int32))]) (rest := []) (p_220_28 _ _) mK_151 mL_151 rfl rfl (Nat.le_of_ble_eq_true rfl) rfl (Nat.le_of_ble_eq_true rfl) h4.2))))))))))))
theorem b_220_31 {Y : sY} {d : Nat} {s : sT} {K : Option Int32 → sT → Prop} {r0 : Nat} {x1 : Int32} {x2 : Int32} {t0 : Int32} (h : (if t0 = 0 then K (some (-1 : Int32)) s else (∃ a2, (isO Y r0 11 ∧ s.2 r0 34 = some a2) ∧ (∃ m4, (isA Y a2 0 m4 ∧ inR (((31 : Int32) * ((1 : Int32) - x1)) + x2) m4) ∧ (isO Y r0 11 ∧ tT Y d 177 0 [.ref r0, .int x1, .int (s.1 a2 ((((31 : Int32) * ((1 : Int32) - x1)) + x2)).toNatClampNeg), .null] [] s (fun r s1 => tT Y (d + 1) 220 52 [.ref r0, .int x1, .int x2] ((r.map Value.int).toList ++ []) s1 K)))))) : tT Y (d + 1) 220 31 [.ref r0, .int x1, .int x2] [.int t0] s K :=
  t3_if (p := t0 = 0) (p_220_31 _ _) rfl (fun g1 => (tt_push (p_220_55 _ _)).mpr (tt_ret1 (p_220_56 _ _) (ifp h g1))) (fun g1 => (tt_aload (p_220_34 _ _) rfl).mpr ((tt_iload (p_220_35 _ _) rfl).mpr ((tt_aload (p_220_36 _ _) rfl).mpr (Exists.elim (ifn h g1) (fun a2 h3 => t3_getr (p_220_37 _ _) (isI_11_34) h3.1.1 h3.1.2 ((tt_push (p_220_40 _ _)).mpr ((tt_push (p_220_42 _ _)).mpr ((tt_iload (p_220_43 _ _) rfl).mpr ((tt_bin (p_220_44 _ _)).mpr ((tt_bin (p_220_45 _ _)).mpr ((tt_iload (p_220_46 _ _) rfl).mpr ((tt_bin (p_220_47 _ _)).mpr (Exists.elim h3.2 (fun m4 h5 => t3_ald (p_220_48 _ _) h5.1.1 h5.1.2 (t2_callv (z := 177) (k := 3) (i := r0) (as := [.int x1, .int (s.1 a2 ((((31 : Int32) * ((1 : Int32) - x1)) + x2)).toNatClampNeg)]) (rest := []) (p_220_49 _ _) mK_177 mL_177 rfl rfl (Nat.le_of_ble_eq_true rfl) rfl (Nat.le_of_ble_eq_true rfl) h5.2.1 h5.2.2)))))))))))))))
theorem b_220_52 {Y : sY} {d : Nat} {s : sT} {K : Option Int32 → sT → Prop} {r0 : Nat} {x1 : Int32} {x2 : Int32} {t0 : Int32} (h : K (some t0) s) : tT Y (d + 1) 220 52 [.ref r0, .int x1, .int x2] [.int t0] s K :=
  (tt_goto (p_220_52 _ _)).mpr (tt_ret1 (p_220_56 _ _) h)
/-! InclusionProverModel.has.(I)Z -/
theorem p_221_0 (L : Nat) (xs : Nat → Int32) : ll_P L xs 221 0 = some (.inl (lo_aload 1 0)) := (P_221 L xs 0).trans rfl
theorem p_221_1 (L : Nat) (xs : Nat → Int32) : ll_P L xs 221 1 = some (.inl (lo_getf 4 11 3)) := (P_221 L xs 1).trans rfl
theorem p_221_4 (L : Nat) (xs : Nat → Int32) : ll_P L xs 221 4 = some (.inl (lo_istore 5 2)) := (P_221 L xs 4).trans rfl
theorem p_221_5 (L : Nat) (xs : Nat → Int32) : ll_P L xs 221 5 = some (.inl (lo_aload 6 0)) := (P_221 L xs 5).trans rfl
theorem p_221_6 (L : Nat) (xs : Nat → Int32) : ll_P L xs 221 6 = some (.inl (lo_push 7 (.int 0))) := (P_221 L xs 6).trans rfl
theorem p_221_7 (L : Nat) (xs : Nat → Int32) : ll_P L xs 221 7 = some (.inl (lo_putf 10 11 3 0)) := (P_221 L xs 7).trans rfl
theorem p_221_10 (L : Nat) (xs : Nat → Int32) : ll_P L xs 221 10 = some (.inl (lo_iload 11 1)) := (P_221 L xs 10).trans rfl
theorem p_221_11 (L : Nat) (xs : Nat → Int32) : ll_P L xs 221 11 = some (.inr (.inl (209, 1, 14))) := (P_221 L xs 11).trans rfl
theorem p_221_14 (L : Nat) (xs : Nat → Int32) : ll_P L xs 221 14 = some (.inl (lo_if 23 17 (fun x => decide (x = 0)))) := (P_221 L xs 14).trans rfl
theorem p_221_17 (L : Nat) (xs : Nat → Int32) : ll_P L xs 221 17 = some (.inl (lo_iload 18 2)) := (P_221 L xs 17).trans rfl
theorem p_221_18 (L : Nat) (xs : Nat → Int32) : ll_P L xs 221 18 = some (.inl (lo_push 20 (.int 30))) := (P_221 L xs 18).trans rfl
theorem p_221_20 (L : Nat) (xs : Nat → Int32) : ll_P L xs 221 20 = some (.inl (lo_cmp 25 23 (fun x y => decide (x ≤ y)))) := (P_221 L xs 20).trans rfl
theorem p_221_23 (L : Nat) (xs : Nat → Int32) : ll_P L xs 221 23 = some (.inl (lo_push 24 (.int 0))) := (P_221 L xs 23).trans rfl
theorem p_221_24 (L : Nat) (xs : Nat → Int32) : ll_P L xs 221 24 = some (.inr (.inr 2)) := (P_221 L xs 24).trans rfl
theorem p_221_25 (L : Nat) (xs : Nat → Int32) : ll_P L xs 221 25 = some (.inl (lo_aload 26 0)) := (P_221 L xs 25).trans rfl
theorem p_221_26 (L : Nat) (xs : Nat → Int32) : ll_P L xs 221 26 = some (.inl (lo_push 27 (.int 0))) := (P_221 L xs 26).trans rfl
theorem p_221_27 (L : Nat) (xs : Nat → Int32) : ll_P L xs 221 27 = some (.inl (lo_push 29 (.int 31))) := (P_221 L xs 27).trans rfl
theorem p_221_29 (L : Nat) (xs : Nat → Int32) : ll_P L xs 221 29 = some (.inr (.inl (180, 3, 32))) := (P_221 L xs 29).trans rfl
theorem p_221_32 (L : Nat) (xs : Nat → Int32) : ll_P L xs 221 32 = some (.inl (lo_push 33 (.int 1))) := (P_221 L xs 32).trans rfl
theorem p_221_33 (L : Nat) (xs : Nat → Int32) : ll_P L xs 221 33 = some (.inl (lo_istore 34 3)) := (P_221 L xs 33).trans rfl
theorem p_221_34 (L : Nat) (xs : Nat → Int32) : ll_P L xs 221 34 = some (.inl (lo_push 35 (.int 0))) := (P_221 L xs 34).trans rfl
theorem p_221_35 (L : Nat) (xs : Nat → Int32) : ll_P L xs 221 35 = some (.inl (lo_istore 37 4)) := (P_221 L xs 35).trans rfl
theorem p_221_37 (L : Nat) (xs : Nat → Int32) : ll_P L xs 221 37 = some (.inl (lo_iload 39 4)) := (P_221 L xs 37).trans rfl
theorem p_221_39 (L : Nat) (xs : Nat → Int32) : ll_P L xs 221 39 = some (.inl (lo_iload 40 2)) := (P_221 L xs 39).trans rfl
theorem p_221_40 (L : Nat) (xs : Nat → Int32) : ll_P L xs 221 40 = some (.inl (lo_cmp 85 43 (fun x y => decide (y ≤ x)))) := (P_221 L xs 40).trans rfl
theorem p_221_43 (L : Nat) (xs : Nat → Int32) : ll_P L xs 221 43 = some (.inl (lo_aload 44 0)) := (P_221 L xs 43).trans rfl
theorem p_221_44 (L : Nat) (xs : Nat → Int32) : ll_P L xs 221 44 = some (.inl (lo_getf 47 11 1)) := (P_221 L xs 44).trans rfl
theorem p_221_47 (L : Nat) (xs : Nat → Int32) : ll_P L xs 221 47 = some (.inl (lo_iload 49 4)) := (P_221 L xs 47).trans rfl
theorem p_221_49 (L : Nat) (xs : Nat → Int32) : ll_P L xs 221 49 = some (.inl (lo_ald 50 0)) := (P_221 L xs 49).trans rfl
theorem p_221_50 (L : Nat) (xs : Nat → Int32) : ll_P L xs 221 50 = some (.inl (lo_push 52 (.int 97))) := (P_221 L xs 50).trans rfl
theorem p_221_52 (L : Nat) (xs : Nat → Int32) : ll_P L xs 221 52 = some (.inl (lo_push 54 (.int 99))) := (P_221 L xs 52).trans rfl
theorem p_221_54 (L : Nat) (xs : Nat → Int32) : ll_P L xs 221 54 = some (.inr (.inl (151, 3, 57))) := (P_221 L xs 54).trans rfl
theorem p_221_57 (L : Nat) (xs : Nat → Int32) : ll_P L xs 221 57 = some (.inl (lo_if 62 60 (fun x => decide (¬ x = 0)))) := (P_221 L xs 57).trans rfl
theorem p_221_60 (L : Nat) (xs : Nat → Int32) : ll_P L xs 221 60 = some (.inl (lo_push 61 (.int 0))) := (P_221 L xs 60).trans rfl
theorem p_221_61 (L : Nat) (xs : Nat → Int32) : ll_P L xs 221 61 = some (.inr (.inr 2)) := (P_221 L xs 61).trans rfl
theorem p_221_62 (L : Nat) (xs : Nat → Int32) : ll_P L xs 221 62 = some (.inl (lo_aload 63 0)) := (P_221 L xs 62).trans rfl
theorem p_221_63 (L : Nat) (xs : Nat → Int32) : ll_P L xs 221 63 = some (.inl (lo_iload 64 1)) := (P_221 L xs 63).trans rfl
theorem p_221_64 (L : Nat) (xs : Nat → Int32) : ll_P L xs 221 64 = some (.inl (lo_iload 65 3)) := (P_221 L xs 64).trans rfl
theorem p_221_65 (L : Nat) (xs : Nat → Int32) : ll_P L xs 221 65 = some (.inl (lo_aload 66 0)) := (P_221 L xs 65).trans rfl
theorem p_221_66 (L : Nat) (xs : Nat → Int32) : ll_P L xs 221 66 = some (.inl (lo_getf 69 11 1)) := (P_221 L xs 66).trans rfl
theorem p_221_69 (L : Nat) (xs : Nat → Int32) : ll_P L xs 221 69 = some (.inl (lo_iload 71 4)) := (P_221 L xs 69).trans rfl
theorem p_221_71 (L : Nat) (xs : Nat → Int32) : ll_P L xs 221 71 = some (.inl (lo_ald 72 0)) := (P_221 L xs 71).trans rfl
theorem p_221_72 (L : Nat) (xs : Nat → Int32) : ll_P L xs 221 72 = some (.inl (lo_push 74 (.int 97))) := (P_221 L xs 72).trans rfl
theorem p_221_74 (L : Nat) (xs : Nat → Int32) : ll_P L xs 221 74 = some (.inl (lo_bin 75 (fun x y => x - y))) := (P_221 L xs 74).trans rfl
theorem p_221_75 (L : Nat) (xs : Nat → Int32) : ll_P L xs 221 75 = some (.inr (.inl (183, 4, 78))) := (P_221 L xs 75).trans rfl
theorem p_221_78 (L : Nat) (xs : Nat → Int32) : ll_P L xs 221 78 = some (.inl (lo_istore 79 3)) := (P_221 L xs 78).trans rfl
theorem p_221_79 (L : Nat) (xs : Nat → Int32) : ll_P L xs 221 79 = some (.inl (lo_iinc 82 4 1)) := (P_221 L xs 79).trans rfl
theorem p_221_82 (L : Nat) (xs : Nat → Int32) : ll_P L xs 221 82 = some (.inl (lo_goto 37)) := (P_221 L xs 82).trans rfl
theorem p_221_85 (L : Nat) (xs : Nat → Int32) : ll_P L xs 221 85 = some (.inl (lo_aload 86 0)) := (P_221 L xs 85).trans rfl
theorem p_221_86 (L : Nat) (xs : Nat → Int32) : ll_P L xs 221 86 = some (.inl (lo_iload 87 1)) := (P_221 L xs 86).trans rfl
theorem p_221_87 (L : Nat) (xs : Nat → Int32) : ll_P L xs 221 87 = some (.inl (lo_iload 88 3)) := (P_221 L xs 87).trans rfl
theorem p_221_88 (L : Nat) (xs : Nat → Int32) : ll_P L xs 221 88 = some (.inr (.inl (182, 3, 91))) := (P_221 L xs 88).trans rfl
theorem p_221_91 (L : Nat) (xs : Nat → Int32) : ll_P L xs 221 91 = some (.inr (.inr 2)) := (P_221 L xs 91).trans rfl
theorem b_221_0 {Y : sY} {d : Nat} {s : sT} {K : Option Int32 → sT → Prop} {r0 : Nat} {x1 : Int32} (h : (isO Y r0 11 ∧ (isO Y r0 11 ∧ tT Y d 209 0 [.int x1] [] (pV s r0 3 (0 : Int32)) (fun r s1 => tT Y (d + 1) 221 14 [.ref r0, .int x1, .int (s.1 r0 3), .null, .null] ((r.map Value.int).toList ++ []) s1 K)))) : tT Y (d + 1) 221 0 [.ref r0, .int x1, .null, .null, .null] [] s K :=
  (tt_aload (p_221_0 _ _) rfl).mpr (t3_geti (p_221_1 _ _) (isI_11_3) h.1 ((tt_istore (p_221_4 _ _) (Nat.le_of_ble_eq_true rfl) rfl rfl).mpr ((tt_aload (p_221_5 _ _) rfl).mpr ((tt_push (p_221_6 _ _)).mpr ((t2_puti (p_221_7 _ _) isI_11_3 h.2.1).mpr ((tt_iload (p_221_10 _ _) rfl).mpr (t2_calls (z := 209) (k := 1) (as := [.int x1]) (rest := []) (p_221_11 _ _) mK_209 mL_209 rfl rfl (Nat.le_of_ble_eq_true rfl) rfl (Nat.le_of_ble_eq_true rfl) h.2.2)))))))
theorem b_221_14 {Y : sY} {d : Nat} {s : sT} {K : Option Int32 → sT → Prop} {r0 : Nat} {x1 : Int32} {x2 : Int32} {t0 : Int32} (h : (if t0 = 0 then K (some (0 : Int32)) s else (if x2 ≤ (30 : Int32) then (isO Y r0 11 ∧ tT Y d 180 0 [.ref r0, .int (0 : Int32), .int (31 : Int32), .null, .null] [] s (fun r s1 => tT Y (d + 1) 221 32 [.ref r0, .int x1, .int x2, .null, .null] ((r.map Value.int).toList ++ []) s1 K)) else K (some (0 : Int32)) s))) : tT Y (d + 1) 221 14 [.ref r0, .int x1, .int x2, .null, .null] [.int t0] s K :=
  t3_if (p := t0 = 0) (p_221_14 _ _) rfl (fun g1 => (tt_push (p_221_23 _ _)).mpr (tt_ret2 (p_221_24 _ _) (Or.inl rfl) (ifp h g1))) (fun g1 => (tt_iload (p_221_17 _ _) rfl).mpr ((tt_push (p_221_18 _ _)).mpr (t3_cmp (p := x2 ≤ (30 : Int32)) (p_221_20 _ _) rfl (fun g2 => (tt_aload (p_221_25 _ _) rfl).mpr ((tt_push (p_221_26 _ _)).mpr ((tt_push (p_221_27 _ _)).mpr (t2_callv (z := 180) (k := 3) (i := r0) (as := [.int (0 : Int32), .int (31 : Int32)]) (rest := []) (p_221_29 _ _) mK_180 mL_180 rfl rfl (Nat.le_of_ble_eq_true rfl) rfl (Nat.le_of_ble_eq_true rfl) (ifp (ifn h g1) g2).1 (ifp (ifn h g1) g2).2)))) (fun g2 => (tt_push (p_221_23 _ _)).mpr (tt_ret2 (p_221_24 _ _) (Or.inl rfl) (ifn (ifn h g1) g2))))))
theorem b_221_32 {Y : sY} {d : Nat} {s : sT} {K : Option Int32 → sT → Prop} {r0 : Nat} {x1 : Int32} {x2 : Int32} (h : tT Y (d + 1) 221 37 [.ref r0, .int x1, .int x2, .int (1 : Int32), .int (0 : Int32)] [] s K) : tT Y (d + 1) 221 32 [.ref r0, .int x1, .int x2, .null, .null] [] s K :=
  (tt_push (p_221_32 _ _)).mpr ((tt_istore (p_221_33 _ _) (Nat.le_of_ble_eq_true rfl) rfl rfl).mpr ((tt_push (p_221_34 _ _)).mpr ((tt_istore (p_221_35 _ _) (Nat.le_of_ble_eq_true rfl) rfl rfl).mpr (h))))
theorem b_221_37 {Y : sY} {d : Nat} {s : sT} {K : Option Int32 → sT → Prop} {r0 : Nat} {x1 : Int32} {x2 : Int32} {x3 : Int32} {x4 : Int32} (h : (if x2 ≤ x4 then (isO Y r0 11 ∧ tT Y d 182 0 [.ref r0, .int x1, .int x3, .null] [] s (fun r s1 => tT Y (d + 1) 221 91 [.ref r0, .int x1, .int x2, .int x3, .int x4] ((r.map Value.int).toList ++ []) s1 K)) else (∃ a2, (isO Y r0 11 ∧ s.2 r0 1 = some a2) ∧ (∃ m4, (isA Y a2 0 m4 ∧ inR x4 m4) ∧ tT Y d 151 0 [.int (s.1 a2 (x4).toNatClampNeg), .int (97 : Int32), .int (99 : Int32)] [] s (fun r s1 => tT Y (d + 1) 221 57 [.ref r0, .int x1, .int x2, .int x3, .int x4] ((r.map Value.int).toList ++ []) s1 K))))) : tT Y (d + 1) 221 37 [.ref r0, .int x1, .int x2, .int x3, .int x4] [] s K :=
  (tt_iload (p_221_37 _ _) rfl).mpr ((tt_iload (p_221_39 _ _) rfl).mpr (t3_cmp (p := x2 ≤ x4) (p_221_40 _ _) rfl (fun g1 => (tt_aload (p_221_85 _ _) rfl).mpr ((tt_iload (p_221_86 _ _) rfl).mpr ((tt_iload (p_221_87 _ _) rfl).mpr (t2_callv (z := 182) (k := 3) (i := r0) (as := [.int x1, .int x3]) (rest := []) (p_221_88 _ _) mK_182 mL_182 rfl rfl (Nat.le_of_ble_eq_true rfl) rfl (Nat.le_of_ble_eq_true rfl) (ifp h g1).1 (ifp h g1).2)))) (fun g1 => (tt_aload (p_221_43 _ _) rfl).mpr (Exists.elim (ifn h g1) (fun a2 h3 => t3_getr (p_221_44 _ _) (isI_11_1) h3.1.1 h3.1.2 ((tt_iload (p_221_47 _ _) rfl).mpr (Exists.elim h3.2 (fun m4 h5 => t3_ald (p_221_49 _ _) h5.1.1 h5.1.2 ((tt_push (p_221_50 _ _)).mpr ((tt_push (p_221_52 _ _)).mpr (t2_calls (z := 151) (k := 3) (as := [.int (s.1 a2 (x4).toNatClampNeg), .int (97 : Int32), .int (99 : Int32)]) (rest := []) (p_221_54 _ _) mK_151 mL_151 rfl rfl (Nat.le_of_ble_eq_true rfl) rfl (Nat.le_of_ble_eq_true rfl) h5.2)))))))))))
theorem b_221_57 {Y : sY} {d : Nat} {s : sT} {K : Option Int32 → sT → Prop} {r0 : Nat} {x1 : Int32} {x2 : Int32} {x3 : Int32} {x4 : Int32} {t0 : Int32} (h : (if ¬ t0 = 0 then (∃ a2, (isO Y r0 11 ∧ s.2 r0 1 = some a2) ∧ (∃ m4, (isA Y a2 0 m4 ∧ inR x4 m4) ∧ (isO Y r0 11 ∧ tT Y d 183 0 [.ref r0, .int x1, .int x3, .int ((s.1 a2 (x4).toNatClampNeg) - (97 : Int32)), .null, .null] [] s (fun r s1 => tT Y (d + 1) 221 78 [.ref r0, .int x1, .int x2, .int x3, .int x4] ((r.map Value.int).toList ++ []) s1 K)))) else K (some (0 : Int32)) s)) : tT Y (d + 1) 221 57 [.ref r0, .int x1, .int x2, .int x3, .int x4] [.int t0] s K :=
  t3_if (p := ¬ t0 = 0) (p_221_57 _ _) rfl (fun g1 => (tt_aload (p_221_62 _ _) rfl).mpr ((tt_iload (p_221_63 _ _) rfl).mpr ((tt_iload (p_221_64 _ _) rfl).mpr ((tt_aload (p_221_65 _ _) rfl).mpr (Exists.elim (ifp h g1) (fun a2 h3 => t3_getr (p_221_66 _ _) (isI_11_1) h3.1.1 h3.1.2 ((tt_iload (p_221_69 _ _) rfl).mpr (Exists.elim h3.2 (fun m4 h5 => t3_ald (p_221_71 _ _) h5.1.1 h5.1.2 ((tt_push (p_221_72 _ _)).mpr ((tt_bin (p_221_74 _ _)).mpr (t2_callv (z := 183) (k := 4) (i := r0) (as := [.int x1, .int x3, .int ((s.1 a2 (x4).toNatClampNeg) - (97 : Int32))]) (rest := []) (p_221_75 _ _) mK_183 mL_183 rfl rfl (Nat.le_of_ble_eq_true rfl) rfl (Nat.le_of_ble_eq_true rfl) h5.2.1 h5.2.2)))))))))))) (fun g1 => (tt_push (p_221_60 _ _)).mpr (tt_ret2 (p_221_61 _ _) (Or.inl rfl) (ifn h g1)))
theorem b_221_78 {Y : sY} {d : Nat} {s : sT} {K : Option Int32 → sT → Prop} {r0 : Nat} {x1 : Int32} {x2 : Int32} {x3 : Int32} {x4 : Int32} {t0 : Int32} (h : tT Y (d + 1) 221 37 [.ref r0, .int x1, .int x2, .int t0, .int (x4 + 1)] [] s K) : tT Y (d + 1) 221 78 [.ref r0, .int x1, .int x2, .int x3, .int x4] [.int t0] s K :=
  (tt_istore (p_221_78 _ _) (Nat.le_of_ble_eq_true rfl) rfl rfl).mpr ((tt_iinc (p_221_79 _ _) rfl rfl rfl).mpr ((tt_goto (p_221_82 _ _)).mpr (h)))
theorem b_221_91 {Y : sY} {d : Nat} {s : sT} {K : Option Int32 → sT → Prop} {r0 : Nat} {x1 : Int32} {x2 : Int32} {x3 : Int32} {x4 : Int32} {t0 : Int32} (h : ((t0 = 0 ∨ t0 = 1) ∧ K (some t0) s)) : tT Y (d + 1) 221 91 [.ref r0, .int x1, .int x2, .int x3, .int x4] [.int t0] s K :=
  tt_ret2 (p_221_91 _ _) h.1 h.2
/-! InclusionProverModel.isWord.(II)Z -/
theorem p_222_0 (L : Nat) (xs : Nat → Int32) : ll_P L xs 222 0 = some (.inl (lo_push 1 (.int 1))) := (P_222 L xs 0).trans rfl
theorem p_222_1 (L : Nat) (xs : Nat → Int32) : ll_P L xs 222 1 = some (.inl (lo_istore 2 3)) := (P_222 L xs 1).trans rfl
theorem p_222_2 (L : Nat) (xs : Nat → Int32) : ll_P L xs 222 2 = some (.inl (lo_push 3 (.int 0))) := (P_222 L xs 2).trans rfl
theorem p_222_3 (L : Nat) (xs : Nat → Int32) : ll_P L xs 222 3 = some (.inl (lo_istore 5 4)) := (P_222 L xs 3).trans rfl
theorem p_222_5 (L : Nat) (xs : Nat → Int32) : ll_P L xs 222 5 = some (.inl (lo_iload 7 4)) := (P_222 L xs 5).trans rfl
theorem p_222_7 (L : Nat) (xs : Nat → Int32) : ll_P L xs 222 7 = some (.inl (lo_iload 8 2)) := (P_222 L xs 7).trans rfl
theorem p_222_8 (L : Nat) (xs : Nat → Int32) : ll_P L xs 222 8 = some (.inl (lo_cmp 31 11 (fun x y => decide (y ≤ x)))) := (P_222 L xs 8).trans rfl
theorem p_222_11 (L : Nat) (xs : Nat → Int32) : ll_P L xs 222 11 = some (.inl (lo_aload 12 0)) := (P_222 L xs 11).trans rfl
theorem p_222_12 (L : Nat) (xs : Nat → Int32) : ll_P L xs 222 12 = some (.inl (lo_iload 13 1)) := (P_222 L xs 12).trans rfl
theorem p_222_13 (L : Nat) (xs : Nat → Int32) : ll_P L xs 222 13 = some (.inl (lo_iload 14 3)) := (P_222 L xs 13).trans rfl
theorem p_222_14 (L : Nat) (xs : Nat → Int32) : ll_P L xs 222 14 = some (.inl (lo_aload 15 0)) := (P_222 L xs 14).trans rfl
theorem p_222_15 (L : Nat) (xs : Nat → Int32) : ll_P L xs 222 15 = some (.inl (lo_getf 18 11 45)) := (P_222 L xs 15).trans rfl
theorem p_222_18 (L : Nat) (xs : Nat → Int32) : ll_P L xs 222 18 = some (.inl (lo_iload 20 4)) := (P_222 L xs 18).trans rfl
theorem p_222_20 (L : Nat) (xs : Nat → Int32) : ll_P L xs 222 20 = some (.inl (lo_ald 21 0)) := (P_222 L xs 20).trans rfl
theorem p_222_21 (L : Nat) (xs : Nat → Int32) : ll_P L xs 222 21 = some (.inr (.inl (183, 4, 24))) := (P_222 L xs 21).trans rfl
theorem p_222_24 (L : Nat) (xs : Nat → Int32) : ll_P L xs 222 24 = some (.inl (lo_istore 25 3)) := (P_222 L xs 24).trans rfl
theorem p_222_25 (L : Nat) (xs : Nat → Int32) : ll_P L xs 222 25 = some (.inl (lo_iinc 28 4 1)) := (P_222 L xs 25).trans rfl
theorem p_222_28 (L : Nat) (xs : Nat → Int32) : ll_P L xs 222 28 = some (.inl (lo_goto 5)) := (P_222 L xs 28).trans rfl
theorem p_222_31 (L : Nat) (xs : Nat → Int32) : ll_P L xs 222 31 = some (.inl (lo_aload 32 0)) := (P_222 L xs 31).trans rfl
theorem p_222_32 (L : Nat) (xs : Nat → Int32) : ll_P L xs 222 32 = some (.inl (lo_iload 33 1)) := (P_222 L xs 32).trans rfl
theorem p_222_33 (L : Nat) (xs : Nat → Int32) : ll_P L xs 222 33 = some (.inl (lo_iload 34 3)) := (P_222 L xs 33).trans rfl
theorem p_222_34 (L : Nat) (xs : Nat → Int32) : ll_P L xs 222 34 = some (.inr (.inl (182, 3, 37))) := (P_222 L xs 34).trans rfl
theorem p_222_37 (L : Nat) (xs : Nat → Int32) : ll_P L xs 222 37 = some (.inr (.inr 2)) := (P_222 L xs 37).trans rfl
theorem b_222_0 {Y : sY} {d : Nat} {s : sT} {K : Option Int32 → sT → Prop} {r0 : Nat} {x1 : Int32} {x2 : Int32} (h : tT Y (d + 1) 222 5 [.ref r0, .int x1, .int x2, .int (1 : Int32), .int (0 : Int32)] [] s K) : tT Y (d + 1) 222 0 [.ref r0, .int x1, .int x2, .null, .null] [] s K :=
  (tt_push (p_222_0 _ _)).mpr ((tt_istore (p_222_1 _ _) (Nat.le_of_ble_eq_true rfl) rfl rfl).mpr ((tt_push (p_222_2 _ _)).mpr ((tt_istore (p_222_3 _ _) (Nat.le_of_ble_eq_true rfl) rfl rfl).mpr (h))))
theorem b_222_5 {Y : sY} {d : Nat} {s : sT} {K : Option Int32 → sT → Prop} {r0 : Nat} {x1 : Int32} {x2 : Int32} {x3 : Int32} {x4 : Int32} (h : (if x2 ≤ x4 then (isO Y r0 11 ∧ tT Y d 182 0 [.ref r0, .int x1, .int x3, .null] [] s (fun r s1 => tT Y (d + 1) 222 37 [.ref r0, .int x1, .int x2, .int x3, .int x4] ((r.map Value.int).toList ++ []) s1 K)) else (∃ a2, (isO Y r0 11 ∧ s.2 r0 45 = some a2) ∧ (∃ m4, (isA Y a2 0 m4 ∧ inR x4 m4) ∧ (isO Y r0 11 ∧ tT Y d 183 0 [.ref r0, .int x1, .int x3, .int (s.1 a2 (x4).toNatClampNeg), .null, .null] [] s (fun r s1 => tT Y (d + 1) 222 24 [.ref r0, .int x1, .int x2, .int x3, .int x4] ((r.map Value.int).toList ++ []) s1 K)))))) : tT Y (d + 1) 222 5 [.ref r0, .int x1, .int x2, .int x3, .int x4] [] s K :=
  (tt_iload (p_222_5 _ _) rfl).mpr ((tt_iload (p_222_7 _ _) rfl).mpr (t3_cmp (p := x2 ≤ x4) (p_222_8 _ _) rfl (fun g1 => (tt_aload (p_222_31 _ _) rfl).mpr ((tt_iload (p_222_32 _ _) rfl).mpr ((tt_iload (p_222_33 _ _) rfl).mpr (t2_callv (z := 182) (k := 3) (i := r0) (as := [.int x1, .int x3]) (rest := []) (p_222_34 _ _) mK_182 mL_182 rfl rfl (Nat.le_of_ble_eq_true rfl) rfl (Nat.le_of_ble_eq_true rfl) (ifp h g1).1 (ifp h g1).2)))) (fun g1 => (tt_aload (p_222_11 _ _) rfl).mpr ((tt_iload (p_222_12 _ _) rfl).mpr ((tt_iload (p_222_13 _ _) rfl).mpr ((tt_aload (p_222_14 _ _) rfl).mpr (Exists.elim (ifn h g1) (fun a2 h3 => t3_getr (p_222_15 _ _) (isI_11_45) h3.1.1 h3.1.2 ((tt_iload (p_222_18 _ _) rfl).mpr (Exists.elim h3.2 (fun m4 h5 => t3_ald (p_222_20 _ _) h5.1.1 h5.1.2 (t2_callv (z := 183) (k := 4) (i := r0) (as := [.int x1, .int x3, .int (s.1 a2 (x4).toNatClampNeg)]) (rest := []) (p_222_21 _ _) mK_183 mL_183 rfl rfl (Nat.le_of_ble_eq_true rfl) rfl (Nat.le_of_ble_eq_true rfl) h5.2.1 h5.2.2))))))))))))
theorem b_222_24 {Y : sY} {d : Nat} {s : sT} {K : Option Int32 → sT → Prop} {r0 : Nat} {x1 : Int32} {x2 : Int32} {x3 : Int32} {x4 : Int32} {t0 : Int32} (h : tT Y (d + 1) 222 5 [.ref r0, .int x1, .int x2, .int t0, .int (x4 + 1)] [] s K) : tT Y (d + 1) 222 24 [.ref r0, .int x1, .int x2, .int x3, .int x4] [.int t0] s K :=
  (tt_istore (p_222_24 _ _) (Nat.le_of_ble_eq_true rfl) rfl rfl).mpr ((tt_iinc (p_222_25 _ _) rfl rfl rfl).mpr ((tt_goto (p_222_28 _ _)).mpr (h)))
theorem b_222_37 {Y : sY} {d : Nat} {s : sT} {K : Option Int32 → sT → Prop} {r0 : Nat} {x1 : Int32} {x2 : Int32} {x3 : Int32} {x4 : Int32} {t0 : Int32} (h : ((t0 = 0 ∨ t0 = 1) ∧ K (some t0) s)) : tT Y (d + 1) 222 37 [.ref r0, .int x1, .int x2, .int x3, .int x4] [.int t0] s K :=
  tt_ret2 (p_222_37 _ _) h.1 h.2
/-! InclusionProverModel.isOne.(II)Z -/
theorem p_223_0 (L : Nat) (xs : Nat → Int32) : ll_P L xs 223 0 = some (.inl (lo_aload 1 0)) := (P_223 L xs 0).trans rfl
theorem p_223_1 (L : Nat) (xs : Nat → Int32) : ll_P L xs 223 1 = some (.inl (lo_push 2 (.int 0))) := (P_223 L xs 1).trans rfl
theorem p_223_2 (L : Nat) (xs : Nat → Int32) : ll_P L xs 223 2 = some (.inl (lo_iload 3 2)) := (P_223 L xs 2).trans rfl
theorem p_223_3 (L : Nat) (xs : Nat → Int32) : ll_P L xs 223 3 = some (.inr (.inl (222, 3, 6))) := (P_223 L xs 3).trans rfl
theorem p_223_6 (L : Nat) (xs : Nat → Int32) : ll_P L xs 223 6 = some (.inl (lo_istore 7 3)) := (P_223 L xs 6).trans rfl
theorem p_223_7 (L : Nat) (xs : Nat → Int32) : ll_P L xs 223 7 = some (.inl (lo_aload 8 0)) := (P_223 L xs 7).trans rfl
theorem p_223_8 (L : Nat) (xs : Nat → Int32) : ll_P L xs 223 8 = some (.inl (lo_push 9 (.int 1))) := (P_223 L xs 8).trans rfl
theorem p_223_9 (L : Nat) (xs : Nat → Int32) : ll_P L xs 223 9 = some (.inl (lo_iload 10 2)) := (P_223 L xs 9).trans rfl
theorem p_223_10 (L : Nat) (xs : Nat → Int32) : ll_P L xs 223 10 = some (.inr (.inl (222, 3, 13))) := (P_223 L xs 10).trans rfl
theorem p_223_13 (L : Nat) (xs : Nat → Int32) : ll_P L xs 223 13 = some (.inl (lo_istore 15 4)) := (P_223 L xs 13).trans rfl
theorem p_223_15 (L : Nat) (xs : Nat → Int32) : ll_P L xs 223 15 = some (.inl (lo_iload 16 1)) := (P_223 L xs 15).trans rfl
theorem p_223_16 (L : Nat) (xs : Nat → Int32) : ll_P L xs 223 16 = some (.inl (lo_tab 0 [52, 54, 57, 72, 87] 102)) := (P_223 L xs 16).trans rfl
theorem p_223_52 (L : Nat) (xs : Nat → Int32) : ll_P L xs 223 52 = some (.inl (lo_iload 53 3)) := (P_223 L xs 52).trans rfl
theorem p_223_53 (L : Nat) (xs : Nat → Int32) : ll_P L xs 223 53 = some (.inr (.inr 2)) := (P_223 L xs 53).trans rfl
theorem p_223_54 (L : Nat) (xs : Nat → Int32) : ll_P L xs 223 54 = some (.inl (lo_iload 56 4)) := (P_223 L xs 54).trans rfl
theorem p_223_56 (L : Nat) (xs : Nat → Int32) : ll_P L xs 223 56 = some (.inr (.inr 2)) := (P_223 L xs 56).trans rfl
theorem p_223_57 (L : Nat) (xs : Nat → Int32) : ll_P L xs 223 57 = some (.inl (lo_iload 58 3)) := (P_223 L xs 57).trans rfl
theorem p_223_58 (L : Nat) (xs : Nat → Int32) : ll_P L xs 223 58 = some (.inl (lo_if 70 61 (fun x => decide (x = 0)))) := (P_223 L xs 58).trans rfl
theorem p_223_61 (L : Nat) (xs : Nat → Int32) : ll_P L xs 223 61 = some (.inl (lo_iload 63 4)) := (P_223 L xs 61).trans rfl
theorem p_223_63 (L : Nat) (xs : Nat → Int32) : ll_P L xs 223 63 = some (.inl (lo_if 70 66 (fun x => decide (x = 0)))) := (P_223 L xs 63).trans rfl
theorem p_223_66 (L : Nat) (xs : Nat → Int32) : ll_P L xs 223 66 = some (.inl (lo_push 67 (.int 1))) := (P_223 L xs 66).trans rfl
theorem p_223_67 (L : Nat) (xs : Nat → Int32) : ll_P L xs 223 67 = some (.inl (lo_goto 71)) := (P_223 L xs 67).trans rfl
theorem p_223_70 (L : Nat) (xs : Nat → Int32) : ll_P L xs 223 70 = some (.inl (lo_push 71 (.int 0))) := (P_223 L xs 70).trans rfl
theorem p_223_71 (L : Nat) (xs : Nat → Int32) : ll_P L xs 223 71 = some (.inr (.inr 2)) := (P_223 L xs 71).trans rfl
theorem p_223_72 (L : Nat) (xs : Nat → Int32) : ll_P L xs 223 72 = some (.inl (lo_iload 73 3)) := (P_223 L xs 72).trans rfl
theorem p_223_73 (L : Nat) (xs : Nat → Int32) : ll_P L xs 223 73 = some (.inl (lo_if 85 76 (fun x => decide (x = 0)))) := (P_223 L xs 73).trans rfl
theorem p_223_76 (L : Nat) (xs : Nat → Int32) : ll_P L xs 223 76 = some (.inl (lo_iload 78 4)) := (P_223 L xs 76).trans rfl
theorem p_223_78 (L : Nat) (xs : Nat → Int32) : ll_P L xs 223 78 = some (.inl (lo_if 85 81 (fun x => decide (¬ x = 0)))) := (P_223 L xs 78).trans rfl
theorem p_223_81 (L : Nat) (xs : Nat → Int32) : ll_P L xs 223 81 = some (.inl (lo_push 82 (.int 1))) := (P_223 L xs 81).trans rfl
theorem p_223_82 (L : Nat) (xs : Nat → Int32) : ll_P L xs 223 82 = some (.inl (lo_goto 86)) := (P_223 L xs 82).trans rfl
theorem p_223_85 (L : Nat) (xs : Nat → Int32) : ll_P L xs 223 85 = some (.inl (lo_push 86 (.int 0))) := (P_223 L xs 85).trans rfl
theorem p_223_86 (L : Nat) (xs : Nat → Int32) : ll_P L xs 223 86 = some (.inr (.inr 2)) := (P_223 L xs 86).trans rfl
theorem p_223_87 (L : Nat) (xs : Nat → Int32) : ll_P L xs 223 87 = some (.inl (lo_iload 89 4)) := (P_223 L xs 87).trans rfl
theorem p_223_89 (L : Nat) (xs : Nat → Int32) : ll_P L xs 223 89 = some (.inl (lo_if 100 92 (fun x => decide (x = 0)))) := (P_223 L xs 89).trans rfl
theorem p_223_92 (L : Nat) (xs : Nat → Int32) : ll_P L xs 223 92 = some (.inl (lo_iload 93 3)) := (P_223 L xs 92).trans rfl
theorem p_223_93 (L : Nat) (xs : Nat → Int32) : ll_P L xs 223 93 = some (.inl (lo_if 100 96 (fun x => decide (¬ x = 0)))) := (P_223 L xs 93).trans rfl
theorem p_223_96 (L : Nat) (xs : Nat → Int32) : ll_P L xs 223 96 = some (.inl (lo_push 97 (.int 1))) := (P_223 L xs 96).trans rfl
theorem p_223_97 (L : Nat) (xs : Nat → Int32) : ll_P L xs 223 97 = some (.inl (lo_goto 101)) := (P_223 L xs 97).trans rfl
theorem p_223_100 (L : Nat) (xs : Nat → Int32) : ll_P L xs 223 100 = some (.inl (lo_push 101 (.int 0))) := (P_223 L xs 100).trans rfl
theorem p_223_101 (L : Nat) (xs : Nat → Int32) : ll_P L xs 223 101 = some (.inr (.inr 2)) := (P_223 L xs 101).trans rfl
theorem p_223_102 (L : Nat) (xs : Nat → Int32) : ll_P L xs 223 102 = some (.inl (lo_iload 103 3)) := (P_223 L xs 102).trans rfl
theorem p_223_103 (L : Nat) (xs : Nat → Int32) : ll_P L xs 223 103 = some (.inl (lo_if 115 106 (fun x => decide (¬ x = 0)))) := (P_223 L xs 103).trans rfl
theorem p_223_106 (L : Nat) (xs : Nat → Int32) : ll_P L xs 223 106 = some (.inl (lo_iload 108 4)) := (P_223 L xs 106).trans rfl
theorem p_223_108 (L : Nat) (xs : Nat → Int32) : ll_P L xs 223 108 = some (.inl (lo_if 115 111 (fun x => decide (¬ x = 0)))) := (P_223 L xs 108).trans rfl
theorem p_223_111 (L : Nat) (xs : Nat → Int32) : ll_P L xs 223 111 = some (.inl (lo_push 112 (.int 1))) := (P_223 L xs 111).trans rfl
theorem p_223_112 (L : Nat) (xs : Nat → Int32) : ll_P L xs 223 112 = some (.inl (lo_goto 116)) := (P_223 L xs 112).trans rfl
theorem p_223_115 (L : Nat) (xs : Nat → Int32) : ll_P L xs 223 115 = some (.inl (lo_push 116 (.int 0))) := (P_223 L xs 115).trans rfl
theorem p_223_116 (L : Nat) (xs : Nat → Int32) : ll_P L xs 223 116 = some (.inr (.inr 2)) := (P_223 L xs 116).trans rfl
theorem b_223_0 {Y : sY} {d : Nat} {s : sT} {K : Option Int32 → sT → Prop} {r0 : Nat} {x1 : Int32} {x2 : Int32} (h : (isO Y r0 11 ∧ tT Y d 222 0 [.ref r0, .int (0 : Int32), .int x2, .null, .null] [] s (fun r s1 => tT Y (d + 1) 223 6 [.ref r0, .int x1, .int x2, .null, .null] ((r.map Value.int).toList ++ []) s1 K))) : tT Y (d + 1) 223 0 [.ref r0, .int x1, .int x2, .null, .null] [] s K :=
  (tt_aload (p_223_0 _ _) rfl).mpr ((tt_push (p_223_1 _ _)).mpr ((tt_iload (p_223_2 _ _) rfl).mpr (t2_callv (z := 222) (k := 3) (i := r0) (as := [.int (0 : Int32), .int x2]) (rest := []) (p_223_3 _ _) mK_222 mL_222 rfl rfl (Nat.le_of_ble_eq_true rfl) rfl (Nat.le_of_ble_eq_true rfl) h.1 h.2)))
theorem b_223_6 {Y : sY} {d : Nat} {s : sT} {K : Option Int32 → sT → Prop} {r0 : Nat} {x1 : Int32} {x2 : Int32} {t0 : Int32} (h : (isO Y r0 11 ∧ tT Y d 222 0 [.ref r0, .int (1 : Int32), .int x2, .null, .null] [] s (fun r s1 => tT Y (d + 1) 223 13 [.ref r0, .int x1, .int x2, .int t0, .null] ((r.map Value.int).toList ++ []) s1 K))) : tT Y (d + 1) 223 6 [.ref r0, .int x1, .int x2, .null, .null] [.int t0] s K :=
  (tt_istore (p_223_6 _ _) (Nat.le_of_ble_eq_true rfl) rfl rfl).mpr ((tt_aload (p_223_7 _ _) rfl).mpr ((tt_push (p_223_8 _ _)).mpr ((tt_iload (p_223_9 _ _) rfl).mpr (t2_callv (z := 222) (k := 3) (i := r0) (as := [.int (1 : Int32), .int x2]) (rest := []) (p_223_10 _ _) mK_222 mL_222 rfl rfl (Nat.le_of_ble_eq_true rfl) rfl (Nat.le_of_ble_eq_true rfl) h.1 h.2))))
theorem b_223_13 {Y : sY} {d : Nat} {s : sT} {K : Option Int32 → sT → Prop} {r0 : Nat} {x1 : Int32} {x2 : Int32} {x3 : Int32} {t0 : Int32} (h : ((x1 = 0 → ((x3 = 0 ∨ x3 = 1) ∧ K (some x3) s)) ∧ (x1 = 1 → ((t0 = 0 ∨ t0 = 1) ∧ K (some t0) s)) ∧ (x1 = 2 → (if x3 = 0 then K (some (0 : Int32)) s else (if t0 = 0 then K (some (0 : Int32)) s else K (some (1 : Int32)) s))) ∧ (x1 = 3 → (if x3 = 0 then K (some (0 : Int32)) s else (if ¬ t0 = 0 then K (some (0 : Int32)) s else K (some (1 : Int32)) s))) ∧ (x1 = 4 → (if t0 = 0 then K (some (0 : Int32)) s else (if ¬ x3 = 0 then K (some (0 : Int32)) s else K (some (1 : Int32)) s))) ∧ (¬ x1 = 0 ∧ ¬ x1 = 1 ∧ ¬ x1 = 2 ∧ ¬ x1 = 3 ∧ ¬ x1 = 4 → (if ¬ x3 = 0 then K (some (0 : Int32)) s else (if ¬ t0 = 0 then K (some (0 : Int32)) s else K (some (1 : Int32)) s))))) : tT Y (d + 1) 223 13 [.ref r0, .int x1, .int x2, .int x3, .null] [.int t0] s K :=
  (tt_istore (p_223_13 _ _) (Nat.le_of_ble_eq_true rfl) rfl rfl).mpr ((tt_iload (p_223_15 _ _) rfl).mpr (Decidable.byCases (p := x1 = 0) (fun g1 => t3_tab (t := 52) (p_223_16 _ _) (by rw [g1]; rfl) ((tt_iload (p_223_52 _ _) rfl).mpr (tt_ret2 (p_223_53 _ _) (h.1 g1).1 (h.1 g1).2))) (fun g1n => Decidable.byCases (p := x1 = 1) (fun g2 => t3_tab (t := 54) (p_223_16 _ _) (by rw [g2]; rfl) ((tt_iload (p_223_54 _ _) rfl).mpr (tt_ret2 (p_223_56 _ _) (h.2.1 g2).1 (h.2.1 g2).2))) (fun g2n => Decidable.byCases (p := x1 = 2) (fun g3 => t3_tab (t := 57) (p_223_16 _ _) (by rw [g3]; rfl) ((tt_iload (p_223_57 _ _) rfl).mpr (t3_if (p := x3 = 0) (p_223_58 _ _) rfl (fun g4 => (tt_push (p_223_70 _ _)).mpr (tt_ret2 (p_223_71 _ _) (Or.inl rfl) (ifp (h.2.2.1 g3) g4))) (fun g4 => (tt_iload (p_223_61 _ _) rfl).mpr (t3_if (p := t0 = 0) (p_223_63 _ _) rfl (fun g5 => (tt_push (p_223_70 _ _)).mpr (tt_ret2 (p_223_71 _ _) (Or.inl rfl) (ifp (ifn (h.2.2.1 g3) g4) g5))) (fun g5 => (tt_push (p_223_66 _ _)).mpr ((tt_goto (p_223_67 _ _)).mpr (tt_ret2 (p_223_71 _ _) (Or.inr rfl) (ifn (ifn (h.2.2.1 g3) g4) g5))))))))) (fun g3n => Decidable.byCases (p := x1 = 3) (fun g6 => t3_tab (t := 72) (p_223_16 _ _) (by rw [g6]; rfl) ((tt_iload (p_223_72 _ _) rfl).mpr (t3_if (p := x3 = 0) (p_223_73 _ _) rfl (fun g7 => (tt_push (p_223_85 _ _)).mpr (tt_ret2 (p_223_86 _ _) (Or.inl rfl) (ifp (h.2.2.2.1 g6) g7))) (fun g7 => (tt_iload (p_223_76 _ _) rfl).mpr (t3_if (p := ¬ t0 = 0) (p_223_78 _ _) rfl (fun g8 => (tt_push (p_223_85 _ _)).mpr (tt_ret2 (p_223_86 _ _) (Or.inl rfl) (ifp (ifn (h.2.2.2.1 g6) g7) g8))) (fun g8 => (tt_push (p_223_81 _ _)).mpr ((tt_goto (p_223_82 _ _)).mpr (tt_ret2 (p_223_86 _ _) (Or.inr rfl) (ifn (ifn (h.2.2.2.1 g6) g7) g8))))))))) (fun g6n => Decidable.byCases (p := x1 = 4) (fun g9 => t3_tab (t := 87) (p_223_16 _ _) (by rw [g9]; rfl) ((tt_iload (p_223_87 _ _) rfl).mpr (t3_if (p := t0 = 0) (p_223_89 _ _) rfl (fun g10 => (tt_push (p_223_100 _ _)).mpr (tt_ret2 (p_223_101 _ _) (Or.inl rfl) (ifp (h.2.2.2.2.1 g9) g10))) (fun g10 => (tt_iload (p_223_92 _ _) rfl).mpr (t3_if (p := ¬ x3 = 0) (p_223_93 _ _) rfl (fun g11 => (tt_push (p_223_100 _ _)).mpr (tt_ret2 (p_223_101 _ _) (Or.inl rfl) (ifp (ifn (h.2.2.2.2.1 g9) g10) g11))) (fun g11 => (tt_push (p_223_96 _ _)).mpr ((tt_goto (p_223_97 _ _)).mpr (tt_ret2 (p_223_101 _ _) (Or.inr rfl) (ifn (ifn (h.2.2.2.2.1 g9) g10) g11))))))))) (fun g9n => t3_tab (t := 102) (p_223_16 _ _) (t3_tabd (fun k hk => t3_tabk (lo := 0) (n := 5) (fun j (hj : j < 5) => by rcases (show j = 0 ∨ j = 1 ∨ j = 2 ∨ j = 3 ∨ j = 4 by omega) with rfl | rfl | rfl | rfl | rfl <;> assumption) k hk)) ((tt_iload (p_223_102 _ _) rfl).mpr (t3_if (p := ¬ x3 = 0) (p_223_103 _ _) rfl (fun g12 => (tt_push (p_223_115 _ _)).mpr (tt_ret2 (p_223_116 _ _) (Or.inl rfl) (ifp (h.2.2.2.2.2 ⟨g1n, g2n, g3n, g6n, g9n⟩) g12))) (fun g12 => (tt_iload (p_223_106 _ _) rfl).mpr (t3_if (p := ¬ t0 = 0) (p_223_108 _ _) rfl (fun g13 => (tt_push (p_223_115 _ _)).mpr (tt_ret2 (p_223_116 _ _) (Or.inl rfl) (ifp (ifn (h.2.2.2.2.2 ⟨g1n, g2n, g3n, g6n, g9n⟩) g12) g13))) (fun g13 => (tt_push (p_223_111 _ _)).mpr ((tt_goto (p_223_112 _ _)).mpr (tt_ret2 (p_223_116 _ _) (Or.inr rfl) (ifn (ifn (h.2.2.2.2.2 ⟨g1n, g2n, g3n, g6n, g9n⟩) g12) g13)))))))))))))))
/-! InclusionProverModel.goesOn.(I)Z -/
theorem p_224_0 (L : Nat) (xs : Nat → Int32) : ll_P L xs 224 0 = some (.inl (lo_iload 1 1)) := (P_224 L xs 0).trans rfl
theorem p_224_1 (L : Nat) (xs : Nat → Int32) : ll_P L xs 224 1 = some (.inl (lo_push 2 (.int 1))) := (P_224 L xs 1).trans rfl
theorem p_224_2 (L : Nat) (xs : Nat → Int32) : ll_P L xs 224 2 = some (.inl (lo_bin 3 (fun x y => x - y))) := (P_224 L xs 2).trans rfl
theorem p_224_3 (L : Nat) (xs : Nat → Int32) : ll_P L xs 224 3 = some (.inl (lo_istore 4 2)) := (P_224 L xs 3).trans rfl
theorem p_224_4 (L : Nat) (xs : Nat → Int32) : ll_P L xs 224 4 = some (.inl (lo_iload 5 2)) := (P_224 L xs 4).trans rfl
theorem p_224_5 (L : Nat) (xs : Nat → Int32) : ll_P L xs 224 5 = some (.inl (lo_if 31 8 (fun x => decide (x < 0)))) := (P_224 L xs 5).trans rfl
theorem p_224_8 (L : Nat) (xs : Nat → Int32) : ll_P L xs 224 8 = some (.inl (lo_aload 9 0)) := (P_224 L xs 8).trans rfl
theorem p_224_9 (L : Nat) (xs : Nat → Int32) : ll_P L xs 224 9 = some (.inl (lo_getf 12 11 45)) := (P_224 L xs 9).trans rfl
theorem p_224_12 (L : Nat) (xs : Nat → Int32) : ll_P L xs 224 12 = some (.inl (lo_iload 13 2)) := (P_224 L xs 12).trans rfl
theorem p_224_13 (L : Nat) (xs : Nat → Int32) : ll_P L xs 224 13 = some (.inl (lo_ald 14 0)) := (P_224 L xs 13).trans rfl
theorem p_224_14 (L : Nat) (xs : Nat → Int32) : ll_P L xs 224 14 = some (.inl (lo_push 15 (.int 2))) := (P_224 L xs 14).trans rfl
theorem p_224_15 (L : Nat) (xs : Nat → Int32) : ll_P L xs 224 15 = some (.inl (lo_cmp 31 18 (fun x y => decide (¬ x = y)))) := (P_224 L xs 15).trans rfl
theorem p_224_18 (L : Nat) (xs : Nat → Int32) : ll_P L xs 224 18 = some (.inl (lo_aload 19 0)) := (P_224 L xs 18).trans rfl
theorem p_224_19 (L : Nat) (xs : Nat → Int32) : ll_P L xs 224 19 = some (.inl (lo_getf 22 11 45)) := (P_224 L xs 19).trans rfl
theorem p_224_22 (L : Nat) (xs : Nat → Int32) : ll_P L xs 224 22 = some (.inl (lo_iload 23 2)) := (P_224 L xs 22).trans rfl
theorem p_224_23 (L : Nat) (xs : Nat → Int32) : ll_P L xs 224 23 = some (.inl (lo_push 24 (.int 0))) := (P_224 L xs 23).trans rfl
theorem p_224_24 (L : Nat) (xs : Nat → Int32) : ll_P L xs 224 24 = some (.inl (lo_ast 25 0)) := (P_224 L xs 24).trans rfl
theorem p_224_25 (L : Nat) (xs : Nat → Int32) : ll_P L xs 224 25 = some (.inl (lo_iinc 28 2 (-1))) := (P_224 L xs 25).trans rfl
theorem p_224_28 (L : Nat) (xs : Nat → Int32) : ll_P L xs 224 28 = some (.inl (lo_goto 4)) := (P_224 L xs 28).trans rfl
theorem p_224_31 (L : Nat) (xs : Nat → Int32) : ll_P L xs 224 31 = some (.inl (lo_iload 32 2)) := (P_224 L xs 31).trans rfl
theorem p_224_32 (L : Nat) (xs : Nat → Int32) : ll_P L xs 224 32 = some (.inl (lo_if 45 35 (fun x => decide (x < 0)))) := (P_224 L xs 32).trans rfl
theorem p_224_35 (L : Nat) (xs : Nat → Int32) : ll_P L xs 224 35 = some (.inl (lo_aload 36 0)) := (P_224 L xs 35).trans rfl
theorem p_224_36 (L : Nat) (xs : Nat → Int32) : ll_P L xs 224 36 = some (.inl (lo_getf 39 11 45)) := (P_224 L xs 36).trans rfl
theorem p_224_39 (L : Nat) (xs : Nat → Int32) : ll_P L xs 224 39 = some (.inl (lo_iload 40 2)) := (P_224 L xs 39).trans rfl
theorem p_224_40 (L : Nat) (xs : Nat → Int32) : ll_P L xs 224 40 = some (.inl (lo_dup2 41)) := (P_224 L xs 40).trans rfl
theorem p_224_41 (L : Nat) (xs : Nat → Int32) : ll_P L xs 224 41 = some (.inl (lo_ald 42 0)) := (P_224 L xs 41).trans rfl
theorem p_224_42 (L : Nat) (xs : Nat → Int32) : ll_P L xs 224 42 = some (.inl (lo_push 43 (.int 1))) := (P_224 L xs 42).trans rfl
theorem p_224_43 (L : Nat) (xs : Nat → Int32) : ll_P L xs 224 43 = some (.inl (lo_bin 44 (fun x y => x + y))) := (P_224 L xs 43).trans rfl
theorem p_224_44 (L : Nat) (xs : Nat → Int32) : ll_P L xs 224 44 = some (.inl (lo_ast 45 0)) := (P_224 L xs 44).trans rfl
theorem p_224_45 (L : Nat) (xs : Nat → Int32) : ll_P L xs 224 45 = some (.inl (lo_iload 46 2)) := (P_224 L xs 45).trans rfl
theorem p_224_46 (L : Nat) (xs : Nat → Int32) : ll_P L xs 224 46 = some (.inl (lo_if 53 49 (fun x => decide (x < 0)))) := (P_224 L xs 46).trans rfl
theorem p_224_49 (L : Nat) (xs : Nat → Int32) : ll_P L xs 224 49 = some (.inl (lo_push 50 (.int 1))) := (P_224 L xs 49).trans rfl
theorem p_224_50 (L : Nat) (xs : Nat → Int32) : ll_P L xs 224 50 = some (.inl (lo_goto 54)) := (P_224 L xs 50).trans rfl
theorem p_224_53 (L : Nat) (xs : Nat → Int32) : ll_P L xs 224 53 = some (.inl (lo_push 54 (.int 0))) := (P_224 L xs 53).trans rfl
theorem p_224_54 (L : Nat) (xs : Nat → Int32) : ll_P L xs 224 54 = some (.inr (.inr 2)) := (P_224 L xs 54).trans rfl
theorem b_224_0 {Y : sY} {d : Nat} {s : sT} {K : Option Int32 → sT → Prop} {r0 : Nat} {x1 : Int32} (h : tT Y d 224 4 [.ref r0, .int x1, .int (x1 - (1 : Int32))] [] s K) : tT Y d 224 0 [.ref r0, .int x1, .null] [] s K :=
  (tt_iload (p_224_0 _ _) rfl).mpr ((tt_push (p_224_1 _ _)).mpr ((tt_bin (p_224_2 _ _)).mpr ((tt_istore (p_224_3 _ _) (Nat.le_of_ble_eq_true rfl) rfl rfl).mpr (h))))
theorem b_224_4 {Y : sY} {d : Nat} {s : sT} {K : Option Int32 → sT → Prop} {r0 : Nat} {x1 : Int32} {x2 : Int32} (h : (if x2 < 0 then tT Y d 224 31 [.ref r0, .int x1, .int x2] [] s K else (∃ a2, (isO Y r0 11 ∧ s.2 r0 45 = some a2) ∧ (∃ m4, (isA Y a2 0 m4 ∧ inR x2 m4) ∧ (if ¬ (s.1 a2 (x2).toNatClampNeg) = (2 : Int32) then tT Y d 224 31 [.ref r0, .int x1, .int x2] [] s K else (∃ a7, (isO Y r0 11 ∧ s.2 r0 45 = some a7) ∧ (∃ m9, (isA Y a7 0 m9 ∧ inR x2 m9) ∧ tT Y d 224 4 [.ref r0, .int x1, .int (x2 + (-1))] [] (pV s a7 (x2).toNatClampNeg (0 : Int32)) K))))))) : tT Y d 224 4 [.ref r0, .int x1, .int x2] [] s K :=
  (tt_iload (p_224_4 _ _) rfl).mpr (t3_if (p := x2 < 0) (p_224_5 _ _) rfl (fun g1 => (ifp h g1)) (fun g1 => (tt_aload (p_224_8 _ _) rfl).mpr (Exists.elim (ifn h g1) (fun a2 h3 => t3_getr (p_224_9 _ _) (isI_11_45) h3.1.1 h3.1.2 ((tt_iload (p_224_12 _ _) rfl).mpr (Exists.elim h3.2 (fun m4 h5 => t3_ald (p_224_13 _ _) h5.1.1 h5.1.2 ((tt_push (p_224_14 _ _)).mpr (t3_cmp (p := ¬ (s.1 a2 (x2).toNatClampNeg) = (2 : Int32)) (p_224_15 _ _) rfl (fun g6 => (ifp h5.2 g6)) (fun g6 => (tt_aload (p_224_18 _ _) rfl).mpr (Exists.elim (ifn h5.2 g6) (fun a7 h8 => t3_getr (p_224_19 _ _) (isI_11_45) h8.1.1 h8.1.2 ((tt_iload (p_224_22 _ _) rfl).mpr ((tt_push (p_224_23 _ _)).mpr (Exists.elim h8.2 (fun m9 h10 => t3_ast (p_224_24 _ _) h10.1.1 h10.1.2 ((tt_iinc (p_224_25 _ _) rfl rfl rfl).mpr ((tt_goto (p_224_28 _ _)).mpr (h10.2)))))))))))))))))))
theorem b_224_31 {Y : sY} {d : Nat} {s : sT} {K : Option Int32 → sT → Prop} {r0 : Nat} {x1 : Int32} {x2 : Int32} (h : (if x2 < 0 then tT Y d 224 45 [.ref r0, .int x1, .int x2] [] s K else (∃ a2, (isO Y r0 11 ∧ s.2 r0 45 = some a2) ∧ (∃ m4, (isA Y a2 0 m4 ∧ inR x2 m4) ∧ (∃ m6, (isA Y a2 0 m6 ∧ inR x2 m6) ∧ tT Y d 224 45 [.ref r0, .int x1, .int x2] [] (pV s a2 (x2).toNatClampNeg ((s.1 a2 (x2).toNatClampNeg) + (1 : Int32))) K))))) : tT Y d 224 31 [.ref r0, .int x1, .int x2] [] s K :=
  (tt_iload (p_224_31 _ _) rfl).mpr (t3_if (p := x2 < 0) (p_224_32 _ _) rfl (fun g1 => (ifp h g1)) (fun g1 => (tt_aload (p_224_35 _ _) rfl).mpr (Exists.elim (ifn h g1) (fun a2 h3 => t3_getr (p_224_36 _ _) (isI_11_45) h3.1.1 h3.1.2 ((tt_iload (p_224_39 _ _) rfl).mpr ((tt_dup2 (p_224_40 _ _)).mpr (Exists.elim h3.2 (fun m4 h5 => t3_ald (p_224_41 _ _) h5.1.1 h5.1.2 ((tt_push (p_224_42 _ _)).mpr ((tt_bin (p_224_43 _ _)).mpr (Exists.elim h5.2 (fun m6 h7 => t3_ast (p_224_44 _ _) h7.1.1 h7.1.2 (h7.2)))))))))))))
theorem b_224_45 {Y : sY} {d : Nat} {s : sT} {K : Option Int32 → sT → Prop} {r0 : Nat} {x1 : Int32} {x2 : Int32} (h : (if x2 < 0 then K (some (0 : Int32)) s else K (some (1 : Int32)) s)) : tT Y d 224 45 [.ref r0, .int x1, .int x2] [] s K :=
  (tt_iload (p_224_45 _ _) rfl).mpr (t3_if (p := x2 < 0) (p_224_46 _ _) rfl (fun g1 => (tt_push (p_224_53 _ _)).mpr (tt_ret2 (p_224_54 _ _) (Or.inl rfl) (ifp h g1))) (fun g1 => (tt_push (p_224_49 _ _)).mpr ((tt_goto (p_224_50 _ _)).mpr (tt_ret2 (p_224_54 _ _) (Or.inr rfl) (ifn h g1)))))
/-! InclusionProverModel.number.(I)I -/
theorem p_225_0 (L : Nat) (xs : Nat → Int32) : ll_P L xs 225 0 = some (.inl (lo_push 1 (.int 0))) := (P_225 L xs 0).trans rfl
theorem p_225_1 (L : Nat) (xs : Nat → Int32) : ll_P L xs 225 1 = some (.inl (lo_istore 2 2)) := (P_225 L xs 1).trans rfl
theorem p_225_2 (L : Nat) (xs : Nat → Int32) : ll_P L xs 225 2 = some (.inl (lo_push 3 (.int 0))) := (P_225 L xs 2).trans rfl
theorem p_225_3 (L : Nat) (xs : Nat → Int32) : ll_P L xs 225 3 = some (.inl (lo_istore 4 3)) := (P_225 L xs 3).trans rfl
theorem p_225_4 (L : Nat) (xs : Nat → Int32) : ll_P L xs 225 4 = some (.inl (lo_iload 5 3)) := (P_225 L xs 4).trans rfl
theorem p_225_5 (L : Nat) (xs : Nat → Int32) : ll_P L xs 225 5 = some (.inl (lo_iload 6 1)) := (P_225 L xs 5).trans rfl
theorem p_225_6 (L : Nat) (xs : Nat → Int32) : ll_P L xs 225 6 = some (.inl (lo_cmp 28 9 (fun x y => decide (y ≤ x)))) := (P_225 L xs 6).trans rfl
theorem p_225_9 (L : Nat) (xs : Nat → Int32) : ll_P L xs 225 9 = some (.inl (lo_push 10 (.int 4))) := (P_225 L xs 9).trans rfl
theorem p_225_10 (L : Nat) (xs : Nat → Int32) : ll_P L xs 225 10 = some (.inl (lo_iload 11 2)) := (P_225 L xs 10).trans rfl
theorem p_225_11 (L : Nat) (xs : Nat → Int32) : ll_P L xs 225 11 = some (.inl (lo_bin 12 (fun x y => x * y))) := (P_225 L xs 11).trans rfl
theorem p_225_12 (L : Nat) (xs : Nat → Int32) : ll_P L xs 225 12 = some (.inl (lo_aload 13 0)) := (P_225 L xs 12).trans rfl
theorem p_225_13 (L : Nat) (xs : Nat → Int32) : ll_P L xs 225 13 = some (.inl (lo_getf 16 11 45)) := (P_225 L xs 13).trans rfl
theorem p_225_16 (L : Nat) (xs : Nat → Int32) : ll_P L xs 225 16 = some (.inl (lo_iload 17 3)) := (P_225 L xs 16).trans rfl
theorem p_225_17 (L : Nat) (xs : Nat → Int32) : ll_P L xs 225 17 = some (.inl (lo_ald 18 0)) := (P_225 L xs 17).trans rfl
theorem p_225_18 (L : Nat) (xs : Nat → Int32) : ll_P L xs 225 18 = some (.inl (lo_bin 19 (fun x y => x + y))) := (P_225 L xs 18).trans rfl
theorem p_225_19 (L : Nat) (xs : Nat → Int32) : ll_P L xs 225 19 = some (.inl (lo_push 20 (.int 1))) := (P_225 L xs 19).trans rfl
theorem p_225_20 (L : Nat) (xs : Nat → Int32) : ll_P L xs 225 20 = some (.inl (lo_bin 21 (fun x y => x + y))) := (P_225 L xs 20).trans rfl
theorem p_225_21 (L : Nat) (xs : Nat → Int32) : ll_P L xs 225 21 = some (.inl (lo_istore 22 2)) := (P_225 L xs 21).trans rfl
theorem p_225_22 (L : Nat) (xs : Nat → Int32) : ll_P L xs 225 22 = some (.inl (lo_iinc 25 3 1)) := (P_225 L xs 22).trans rfl
theorem p_225_25 (L : Nat) (xs : Nat → Int32) : ll_P L xs 225 25 = some (.inl (lo_goto 4)) := (P_225 L xs 25).trans rfl
theorem p_225_28 (L : Nat) (xs : Nat → Int32) : ll_P L xs 225 28 = some (.inl (lo_iload 29 2)) := (P_225 L xs 28).trans rfl
theorem p_225_29 (L : Nat) (xs : Nat → Int32) : ll_P L xs 225 29 = some (.inr (.inr 1)) := (P_225 L xs 29).trans rfl
theorem b_225_0 {Y : sY} {d : Nat} {s : sT} {K : Option Int32 → sT → Prop} {r0 : Nat} {x1 : Int32} (h : tT Y d 225 4 [.ref r0, .int x1, .int (0 : Int32), .int (0 : Int32)] [] s K) : tT Y d 225 0 [.ref r0, .int x1, .null, .null] [] s K :=
  (tt_push (p_225_0 _ _)).mpr ((tt_istore (p_225_1 _ _) (Nat.le_of_ble_eq_true rfl) rfl rfl).mpr ((tt_push (p_225_2 _ _)).mpr ((tt_istore (p_225_3 _ _) (Nat.le_of_ble_eq_true rfl) rfl rfl).mpr (h))))
theorem b_225_4 {Y : sY} {d : Nat} {s : sT} {K : Option Int32 → sT → Prop} {r0 : Nat} {x1 : Int32} {x2 : Int32} {x3 : Int32} (h : (if x1 ≤ x3 then K (some x2) s else (∃ a2, (isO Y r0 11 ∧ s.2 r0 45 = some a2) ∧ (∃ m4, (isA Y a2 0 m4 ∧ inR x3 m4) ∧ tT Y d 225 4 [.ref r0, .int x1, .int ((((4 : Int32) * x2) + (s.1 a2 (x3).toNatClampNeg)) + (1 : Int32)), .int (x3 + 1)] [] s K)))) : tT Y d 225 4 [.ref r0, .int x1, .int x2, .int x3] [] s K :=
  (tt_iload (p_225_4 _ _) rfl).mpr ((tt_iload (p_225_5 _ _) rfl).mpr (t3_cmp (p := x1 ≤ x3) (p_225_6 _ _) rfl (fun g1 => (tt_iload (p_225_28 _ _) rfl).mpr (tt_ret1 (p_225_29 _ _) (ifp h g1))) (fun g1 => (tt_push (p_225_9 _ _)).mpr ((tt_iload (p_225_10 _ _) rfl).mpr ((tt_bin (p_225_11 _ _)).mpr ((tt_aload (p_225_12 _ _) rfl).mpr (Exists.elim (ifn h g1) (fun a2 h3 => t3_getr (p_225_13 _ _) (isI_11_45) h3.1.1 h3.1.2 ((tt_iload (p_225_16 _ _) rfl).mpr (Exists.elim h3.2 (fun m4 h5 => t3_ald (p_225_17 _ _) h5.1.1 h5.1.2 ((tt_bin (p_225_18 _ _)).mpr ((tt_push (p_225_19 _ _)).mpr ((tt_bin (p_225_20 _ _)).mpr ((tt_istore (p_225_21 _ _) (Nat.le_of_ble_eq_true rfl) rfl rfl).mpr ((tt_iinc (p_225_22 _ _) rfl rfl rfl).mpr ((tt_goto (p_225_25 _ _)).mpr (h5.2))))))))))))))))))
/-! InclusionProverModel.listed.(III)I -/
theorem p_226_0 (L : Nat) (xs : Nat → Int32) : ll_P L xs 226 0 = some (.inl (lo_iload 1 1)) := (P_226 L xs 0).trans rfl
theorem p_226_1 (L : Nat) (xs : Nat → Int32) : ll_P L xs 226 1 = some (.inl (lo_push 2 (.int 0))) := (P_226 L xs 1).trans rfl
theorem p_226_2 (L : Nat) (xs : Nat → Int32) : ll_P L xs 226 2 = some (.inl (lo_push 3 (.int 5))) := (P_226 L xs 2).trans rfl
theorem p_226_3 (L : Nat) (xs : Nat → Int32) : ll_P L xs 226 3 = some (.inr (.inl (151, 3, 6))) := (P_226 L xs 3).trans rfl
theorem p_226_6 (L : Nat) (xs : Nat → Int32) : ll_P L xs 226 6 = some (.inl (lo_if 19 9 (fun x => decide (x = 0)))) := (P_226 L xs 6).trans rfl
theorem p_226_9 (L : Nat) (xs : Nat → Int32) : ll_P L xs 226 9 = some (.inl (lo_iload 10 2)) := (P_226 L xs 9).trans rfl
theorem p_226_10 (L : Nat) (xs : Nat → Int32) : ll_P L xs 226 10 = some (.inl (lo_push 11 (.int 0))) := (P_226 L xs 10).trans rfl
theorem p_226_11 (L : Nat) (xs : Nat → Int32) : ll_P L xs 226 11 = some (.inl (lo_push 13 (.int 8))) := (P_226 L xs 11).trans rfl
theorem p_226_13 (L : Nat) (xs : Nat → Int32) : ll_P L xs 226 13 = some (.inr (.inl (151, 3, 16))) := (P_226 L xs 13).trans rfl
theorem p_226_16 (L : Nat) (xs : Nat → Int32) : ll_P L xs 226 16 = some (.inl (lo_if 21 19 (fun x => decide (¬ x = 0)))) := (P_226 L xs 16).trans rfl
theorem p_226_19 (L : Nat) (xs : Nat → Int32) : ll_P L xs 226 19 = some (.inl (lo_push 20 (.int (-1)))) := (P_226 L xs 19).trans rfl
theorem p_226_20 (L : Nat) (xs : Nat → Int32) : ll_P L xs 226 20 = some (.inr (.inr 1)) := (P_226 L xs 20).trans rfl
theorem p_226_21 (L : Nat) (xs : Nat → Int32) : ll_P L xs 226 21 = some (.inl (lo_aload 22 0)) := (P_226 L xs 21).trans rfl
theorem p_226_22 (L : Nat) (xs : Nat → Int32) : ll_P L xs 226 22 = some (.inl (lo_push 23 (.int 0))) := (P_226 L xs 22).trans rfl
theorem p_226_23 (L : Nat) (xs : Nat → Int32) : ll_P L xs 226 23 = some (.inl (lo_push 25 (.int 31))) := (P_226 L xs 23).trans rfl
theorem p_226_25 (L : Nat) (xs : Nat → Int32) : ll_P L xs 226 25 = some (.inr (.inl (180, 3, 28))) := (P_226 L xs 25).trans rfl
theorem p_226_28 (L : Nat) (xs : Nat → Int32) : ll_P L xs 226 28 = some (.inl (lo_push 29 (.int 0))) := (P_226 L xs 28).trans rfl
theorem p_226_29 (L : Nat) (xs : Nat → Int32) : ll_P L xs 226 29 = some (.inl (lo_istore 31 4)) := (P_226 L xs 29).trans rfl
theorem p_226_31 (L : Nat) (xs : Nat → Int32) : ll_P L xs 226 31 = some (.inl (lo_iload 33 4)) := (P_226 L xs 31).trans rfl
theorem p_226_33 (L : Nat) (xs : Nat → Int32) : ll_P L xs 226 33 = some (.inl (lo_iload 34 2)) := (P_226 L xs 33).trans rfl
theorem p_226_34 (L : Nat) (xs : Nat → Int32) : ll_P L xs 226 34 = some (.inl (lo_cmp 51 37 (fun x y => decide (y ≤ x)))) := (P_226 L xs 34).trans rfl
theorem p_226_37 (L : Nat) (xs : Nat → Int32) : ll_P L xs 226 37 = some (.inl (lo_aload 38 0)) := (P_226 L xs 37).trans rfl
theorem p_226_38 (L : Nat) (xs : Nat → Int32) : ll_P L xs 226 38 = some (.inl (lo_getf 41 11 45)) := (P_226 L xs 38).trans rfl
theorem p_226_41 (L : Nat) (xs : Nat → Int32) : ll_P L xs 226 41 = some (.inl (lo_iload 43 4)) := (P_226 L xs 41).trans rfl
theorem p_226_43 (L : Nat) (xs : Nat → Int32) : ll_P L xs 226 43 = some (.inl (lo_push 44 (.int 0))) := (P_226 L xs 43).trans rfl
theorem p_226_44 (L : Nat) (xs : Nat → Int32) : ll_P L xs 226 44 = some (.inl (lo_ast 45 0)) := (P_226 L xs 44).trans rfl
theorem p_226_45 (L : Nat) (xs : Nat → Int32) : ll_P L xs 226 45 = some (.inl (lo_iinc 48 4 1)) := (P_226 L xs 45).trans rfl
theorem p_226_48 (L : Nat) (xs : Nat → Int32) : ll_P L xs 226 48 = some (.inl (lo_goto 31)) := (P_226 L xs 48).trans rfl
theorem p_226_51 (L : Nat) (xs : Nat → Int32) : ll_P L xs 226 51 = some (.inl (lo_push 52 (.int 0))) := (P_226 L xs 51).trans rfl
theorem p_226_52 (L : Nat) (xs : Nat → Int32) : ll_P L xs 226 52 = some (.inl (lo_istore 54 4)) := (P_226 L xs 52).trans rfl
theorem p_226_54 (L : Nat) (xs : Nat → Int32) : ll_P L xs 226 54 = some (.inl (lo_push 55 (.int 1))) := (P_226 L xs 54).trans rfl
theorem p_226_55 (L : Nat) (xs : Nat → Int32) : ll_P L xs 226 55 = some (.inl (lo_istore 57 5)) := (P_226 L xs 55).trans rfl
theorem p_226_57 (L : Nat) (xs : Nat → Int32) : ll_P L xs 226 57 = some (.inl (lo_iload 59 5)) := (P_226 L xs 57).trans rfl
theorem p_226_59 (L : Nat) (xs : Nat → Int32) : ll_P L xs 226 59 = some (.inl (lo_if 96 62 (fun x => decide (x = 0)))) := (P_226 L xs 59).trans rfl
theorem p_226_62 (L : Nat) (xs : Nat → Int32) : ll_P L xs 226 62 = some (.inl (lo_aload 63 0)) := (P_226 L xs 62).trans rfl
theorem p_226_63 (L : Nat) (xs : Nat → Int32) : ll_P L xs 226 63 = some (.inl (lo_iload 64 1)) := (P_226 L xs 63).trans rfl
theorem p_226_64 (L : Nat) (xs : Nat → Int32) : ll_P L xs 226 64 = some (.inl (lo_iload 65 2)) := (P_226 L xs 64).trans rfl
theorem p_226_65 (L : Nat) (xs : Nat → Int32) : ll_P L xs 226 65 = some (.inr (.inl (223, 3, 68))) := (P_226 L xs 65).trans rfl
theorem p_226_68 (L : Nat) (xs : Nat → Int32) : ll_P L xs 226 68 = some (.inl (lo_if 86 71 (fun x => decide (x = 0)))) := (P_226 L xs 68).trans rfl
theorem p_226_71 (L : Nat) (xs : Nat → Int32) : ll_P L xs 226 71 = some (.inl (lo_iload 73 4)) := (P_226 L xs 71).trans rfl
theorem p_226_73 (L : Nat) (xs : Nat → Int32) : ll_P L xs 226 73 = some (.inl (lo_iload 74 3)) := (P_226 L xs 73).trans rfl
theorem p_226_74 (L : Nat) (xs : Nat → Int32) : ll_P L xs 226 74 = some (.inl (lo_cmp 83 77 (fun x y => decide (¬ x = y)))) := (P_226 L xs 74).trans rfl
theorem p_226_77 (L : Nat) (xs : Nat → Int32) : ll_P L xs 226 77 = some (.inl (lo_aload 78 0)) := (P_226 L xs 77).trans rfl
theorem p_226_78 (L : Nat) (xs : Nat → Int32) : ll_P L xs 226 78 = some (.inl (lo_iload 79 2)) := (P_226 L xs 78).trans rfl
theorem p_226_79 (L : Nat) (xs : Nat → Int32) : ll_P L xs 226 79 = some (.inr (.inl (225, 2, 82))) := (P_226 L xs 79).trans rfl
theorem p_226_82 (L : Nat) (xs : Nat → Int32) : ll_P L xs 226 82 = some (.inr (.inr 1)) := (P_226 L xs 82).trans rfl
theorem p_226_83 (L : Nat) (xs : Nat → Int32) : ll_P L xs 226 83 = some (.inl (lo_iinc 86 4 1)) := (P_226 L xs 83).trans rfl
theorem p_226_86 (L : Nat) (xs : Nat → Int32) : ll_P L xs 226 86 = some (.inl (lo_aload 87 0)) := (P_226 L xs 86).trans rfl
theorem p_226_87 (L : Nat) (xs : Nat → Int32) : ll_P L xs 226 87 = some (.inl (lo_iload 88 2)) := (P_226 L xs 87).trans rfl
theorem p_226_88 (L : Nat) (xs : Nat → Int32) : ll_P L xs 226 88 = some (.inr (.inl (224, 2, 91))) := (P_226 L xs 88).trans rfl
theorem p_226_91 (L : Nat) (xs : Nat → Int32) : ll_P L xs 226 91 = some (.inl (lo_istore 93 5)) := (P_226 L xs 91).trans rfl
theorem p_226_93 (L : Nat) (xs : Nat → Int32) : ll_P L xs 226 93 = some (.inl (lo_goto 57)) := (P_226 L xs 93).trans rfl
theorem p_226_96 (L : Nat) (xs : Nat → Int32) : ll_P L xs 226 96 = some (.inl (lo_iload 97 3)) := (P_226 L xs 96).trans rfl
theorem p_226_97 (L : Nat) (xs : Nat → Int32) : ll_P L xs 226 97 = some (.inl (lo_push 98 (.int (-1)))) := (P_226 L xs 97).trans rfl
theorem p_226_98 (L : Nat) (xs : Nat → Int32) : ll_P L xs 226 98 = some (.inl (lo_cmp 106 101 (fun x y => decide (¬ x = y)))) := (P_226 L xs 98).trans rfl
theorem p_226_101 (L : Nat) (xs : Nat → Int32) : ll_P L xs 226 101 = some (.inl (lo_iload 103 4)) := (P_226 L xs 101).trans rfl
theorem p_226_103 (L : Nat) (xs : Nat → Int32) : ll_P L xs 226 103 = some (.inl (lo_goto 107)) := (P_226 L xs 103).trans rfl
theorem p_226_106 (L : Nat) (xs : Nat → Int32) : ll_P L xs 226 106 = some (.inl (lo_push 107 (.int (-1)))) := (P_226 L xs 106).trans rfl
theorem p_226_107 (L : Nat) (xs : Nat → Int32) : ll_P L xs 226 107 = some (.inr (.inr 1)) := (P_226 L xs 107).trans rfl
theorem b_226_0 {Y : sY} {d : Nat} {s : sT} {K : Option Int32 → sT → Prop} {r0 : Nat} {x1 : Int32} {x2 : Int32} {x3 : Int32} (h : tT Y d 151 0 [.int x1, .int (0 : Int32), .int (5 : Int32)] [] s (fun r s1 => tT Y (d + 1) 226 6 [.ref r0, .int x1, .int x2, .int x3, .null, .null] ((r.map Value.int).toList ++ []) s1 K)) : tT Y (d + 1) 226 0 [.ref r0, .int x1, .int x2, .int x3, .null, .null] [] s K :=
  (tt_iload (p_226_0 _ _) rfl).mpr ((tt_push (p_226_1 _ _)).mpr ((tt_push (p_226_2 _ _)).mpr (t2_calls (z := 151) (k := 3) (as := [.int x1, .int (0 : Int32), .int (5 : Int32)]) (rest := []) (p_226_3 _ _) mK_151 mL_151 rfl rfl (Nat.le_of_ble_eq_true rfl) rfl (Nat.le_of_ble_eq_true rfl) h)))
theorem b_226_6 {Y : sY} {d : Nat} {s : sT} {K : Option Int32 → sT → Prop} {r0 : Nat} {x1 : Int32} {x2 : Int32} {x3 : Int32} {t0 : Int32} (h : (if t0 = 0 then K (some (-1 : Int32)) s else tT Y d 151 0 [.int x2, .int (0 : Int32), .int (8 : Int32)] [] s (fun r s1 => tT Y (d + 1) 226 16 [.ref r0, .int x1, .int x2, .int x3, .null, .null] ((r.map Value.int).toList ++ []) s1 K))) : tT Y (d + 1) 226 6 [.ref r0, .int x1, .int x2, .int x3, .null, .null] [.int t0] s K :=
  t3_if (p := t0 = 0) (p_226_6 _ _) rfl (fun g1 => (tt_push (p_226_19 _ _)).mpr (tt_ret1 (p_226_20 _ _) (ifp h g1))) (fun g1 => (tt_iload (p_226_9 _ _) rfl).mpr ((tt_push (p_226_10 _ _)).mpr ((tt_push (p_226_11 _ _)).mpr (t2_calls (z := 151) (k := 3) (as := [.int x2, .int (0 : Int32), .int (8 : Int32)]) (rest := []) (p_226_13 _ _) mK_151 mL_151 rfl rfl (Nat.le_of_ble_eq_true rfl) rfl (Nat.le_of_ble_eq_true rfl) (ifn h g1)))))
theorem b_226_16 {Y : sY} {d : Nat} {s : sT} {K : Option Int32 → sT → Prop} {r0 : Nat} {x1 : Int32} {x2 : Int32} {x3 : Int32} {t0 : Int32} (h : (if ¬ t0 = 0 then (isO Y r0 11 ∧ tT Y d 180 0 [.ref r0, .int (0 : Int32), .int (31 : Int32), .null, .null] [] s (fun r s1 => tT Y (d + 1) 226 28 [.ref r0, .int x1, .int x2, .int x3, .null, .null] ((r.map Value.int).toList ++ []) s1 K)) else K (some (-1 : Int32)) s)) : tT Y (d + 1) 226 16 [.ref r0, .int x1, .int x2, .int x3, .null, .null] [.int t0] s K :=
  t3_if (p := ¬ t0 = 0) (p_226_16 _ _) rfl (fun g1 => (tt_aload (p_226_21 _ _) rfl).mpr ((tt_push (p_226_22 _ _)).mpr ((tt_push (p_226_23 _ _)).mpr (t2_callv (z := 180) (k := 3) (i := r0) (as := [.int (0 : Int32), .int (31 : Int32)]) (rest := []) (p_226_25 _ _) mK_180 mL_180 rfl rfl (Nat.le_of_ble_eq_true rfl) rfl (Nat.le_of_ble_eq_true rfl) (ifp h g1).1 (ifp h g1).2)))) (fun g1 => (tt_push (p_226_19 _ _)).mpr (tt_ret1 (p_226_20 _ _) (ifn h g1)))
theorem b_226_28 {Y : sY} {d : Nat} {s : sT} {K : Option Int32 → sT → Prop} {r0 : Nat} {x1 : Int32} {x2 : Int32} {x3 : Int32} (h : tT Y (d + 1) 226 31 [.ref r0, .int x1, .int x2, .int x3, .int (0 : Int32), .null] [] s K) : tT Y (d + 1) 226 28 [.ref r0, .int x1, .int x2, .int x3, .null, .null] [] s K :=
  (tt_push (p_226_28 _ _)).mpr ((tt_istore (p_226_29 _ _) (Nat.le_of_ble_eq_true rfl) rfl rfl).mpr (h))
theorem b_226_31 {Y : sY} {d : Nat} {s : sT} {K : Option Int32 → sT → Prop} {r0 : Nat} {x1 : Int32} {x2 : Int32} {x3 : Int32} {x4 : Int32} (h : (if x2 ≤ x4 then tT Y (d + 1) 226 57 [.ref r0, .int x1, .int x2, .int x3, .int (0 : Int32), .int (1 : Int32)] [] s K else (∃ a2, (isO Y r0 11 ∧ s.2 r0 45 = some a2) ∧ (∃ m4, (isA Y a2 0 m4 ∧ inR x4 m4) ∧ tT Y (d + 1) 226 31 [.ref r0, .int x1, .int x2, .int x3, .int (x4 + 1), .null] [] (pV s a2 (x4).toNatClampNeg (0 : Int32)) K)))) : tT Y (d + 1) 226 31 [.ref r0, .int x1, .int x2, .int x3, .int x4, .null] [] s K :=
  (tt_iload (p_226_31 _ _) rfl).mpr ((tt_iload (p_226_33 _ _) rfl).mpr (t3_cmp (p := x2 ≤ x4) (p_226_34 _ _) rfl (fun g1 => (tt_push (p_226_51 _ _)).mpr ((tt_istore (p_226_52 _ _) (Nat.le_of_ble_eq_true rfl) rfl rfl).mpr ((tt_push (p_226_54 _ _)).mpr ((tt_istore (p_226_55 _ _) (Nat.le_of_ble_eq_true rfl) rfl rfl).mpr ((ifp h g1)))))) (fun g1 => (tt_aload (p_226_37 _ _) rfl).mpr (Exists.elim (ifn h g1) (fun a2 h3 => t3_getr (p_226_38 _ _) (isI_11_45) h3.1.1 h3.1.2 ((tt_iload (p_226_41 _ _) rfl).mpr ((tt_push (p_226_43 _ _)).mpr (Exists.elim h3.2 (fun m4 h5 => t3_ast (p_226_44 _ _) h5.1.1 h5.1.2 ((tt_iinc (p_226_45 _ _) rfl rfl rfl).mpr ((tt_goto (p_226_48 _ _)).mpr (h5.2))))))))))))
theorem b_226_57 {Y : sY} {d : Nat} {s : sT} {K : Option Int32 → sT → Prop} {r0 : Nat} {x1 : Int32} {x2 : Int32} {x3 : Int32} {x4 : Int32} {x5 : Int32} (h : (if x5 = 0 then (if ¬ x3 = (-1 : Int32) then K (some (-1 : Int32)) s else K (some x4) s) else (isO Y r0 11 ∧ tT Y d 223 0 [.ref r0, .int x1, .int x2, .null, .null] [] s (fun r s1 => tT Y (d + 1) 226 68 [.ref r0, .int x1, .int x2, .int x3, .int x4, .int x5] ((r.map Value.int).toList ++ []) s1 K)))) : tT Y (d + 1) 226 57 [.ref r0, .int x1, .int x2, .int x3, .int x4, .int x5] [] s K :=
  (tt_iload (p_226_57 _ _) rfl).mpr (t3_if (p := x5 = 0) (p_226_59 _ _) rfl (fun g1 => (tt_iload (p_226_96 _ _) rfl).mpr ((tt_push (p_226_97 _ _)).mpr (t3_cmp (p := ¬ x3 = (-1 : Int32)) (p_226_98 _ _) rfl (fun g2 => (tt_push (p_226_106 _ _)).mpr (tt_ret1 (p_226_107 _ _) (ifp (ifp h g1) g2))) (fun g2 => (tt_iload (p_226_101 _ _) rfl).mpr ((tt_goto (p_226_103 _ _)).mpr (tt_ret1 (p_226_107 _ _) (ifn (ifp h g1) g2))))))) (fun g1 => (tt_aload (p_226_62 _ _) rfl).mpr ((tt_iload (p_226_63 _ _) rfl).mpr ((tt_iload (p_226_64 _ _) rfl).mpr (t2_callv (z := 223) (k := 3) (i := r0) (as := [.int x1, .int x2]) (rest := []) (p_226_65 _ _) mK_223 mL_223 rfl rfl (Nat.le_of_ble_eq_true rfl) rfl (Nat.le_of_ble_eq_true rfl) (ifn h g1).1 (ifn h g1).2)))))
theorem b_226_68 {Y : sY} {d : Nat} {s : sT} {K : Option Int32 → sT → Prop} {r0 : Nat} {x1 : Int32} {x2 : Int32} {x3 : Int32} {x4 : Int32} {x5 : Int32} {t0 : Int32} (h : (if t0 = 0 then tT Y (d + 1) 226 86 [.ref r0, .int x1, .int x2, .int x3, .int x4, .int x5] [] s K else (if ¬ x4 = x3 then tT Y (d + 1) 226 86 [.ref r0, .int x1, .int x2, .int x3, .int (x4 + 1), .int x5] [] s K else (isO Y r0 11 ∧ tT Y d 225 0 [.ref r0, .int x2, .null, .null] [] s (fun r s1 => tT Y (d + 1) 226 82 [.ref r0, .int x1, .int x2, .int x3, .int x4, .int x5] ((r.map Value.int).toList ++ []) s1 K))))) : tT Y (d + 1) 226 68 [.ref r0, .int x1, .int x2, .int x3, .int x4, .int x5] [.int t0] s K :=
  t3_if (p := t0 = 0) (p_226_68 _ _) rfl (fun g1 => (ifp h g1)) (fun g1 => (tt_iload (p_226_71 _ _) rfl).mpr ((tt_iload (p_226_73 _ _) rfl).mpr (t3_cmp (p := ¬ x4 = x3) (p_226_74 _ _) rfl (fun g2 => (tt_iinc (p_226_83 _ _) rfl rfl rfl).mpr ((ifp (ifn h g1) g2))) (fun g2 => (tt_aload (p_226_77 _ _) rfl).mpr ((tt_iload (p_226_78 _ _) rfl).mpr (t2_callv (z := 225) (k := 2) (i := r0) (as := [.int x2]) (rest := []) (p_226_79 _ _) mK_225 mL_225 rfl rfl (Nat.le_of_ble_eq_true rfl) rfl (Nat.le_of_ble_eq_true rfl) (ifn (ifn h g1) g2).1 (ifn (ifn h g1) g2).2))))))
theorem b_226_82 {Y : sY} {d : Nat} {s : sT} {K : Option Int32 → sT → Prop} {r0 : Nat} {x1 : Int32} {x2 : Int32} {x3 : Int32} {x4 : Int32} {x5 : Int32} {t0 : Int32} (h : K (some t0) s) : tT Y (d + 1) 226 82 [.ref r0, .int x1, .int x2, .int x3, .int x4, .int x5] [.int t0] s K :=
  tt_ret1 (p_226_82 _ _) h
theorem b_226_86 {Y : sY} {d : Nat} {s : sT} {K : Option Int32 → sT → Prop} {r0 : Nat} {x1 : Int32} {x2 : Int32} {x3 : Int32} {x4 : Int32} {x5 : Int32} (h : (isO Y r0 11 ∧ tT Y d 224 0 [.ref r0, .int x2, .null] [] s (fun r s1 => tT Y (d + 1) 226 91 [.ref r0, .int x1, .int x2, .int x3, .int x4, .int x5] ((r.map Value.int).toList ++ []) s1 K))) : tT Y (d + 1) 226 86 [.ref r0, .int x1, .int x2, .int x3, .int x4, .int x5] [] s K :=
  (tt_aload (p_226_86 _ _) rfl).mpr ((tt_iload (p_226_87 _ _) rfl).mpr (t2_callv (z := 224) (k := 2) (i := r0) (as := [.int x2]) (rest := []) (p_226_88 _ _) mK_224 mL_224 rfl rfl (Nat.le_of_ble_eq_true rfl) rfl (Nat.le_of_ble_eq_true rfl) h.1 h.2))
theorem b_226_91 {Y : sY} {d : Nat} {s : sT} {K : Option Int32 → sT → Prop} {r0 : Nat} {x1 : Int32} {x2 : Int32} {x3 : Int32} {x4 : Int32} {x5 : Int32} {t0 : Int32} (h : tT Y (d + 1) 226 57 [.ref r0, .int x1, .int x2, .int x3, .int x4, .int t0] [] s K) : tT Y (d + 1) 226 91 [.ref r0, .int x1, .int x2, .int x3, .int x4, .int x5] [.int t0] s K :=
  (tt_istore (p_226_91 _ _) (Nat.le_of_ble_eq_true rfl) rfl rfl).mpr ((tt_goto (p_226_93 _ _)).mpr (h))
/-! InclusionProverModel.words.(II)I -/
theorem p_227_0 (L : Nat) (xs : Nat → Int32) : ll_P L xs 227 0 = some (.inl (lo_aload 1 0)) := (P_227 L xs 0).trans rfl
theorem p_227_1 (L : Nat) (xs : Nat → Int32) : ll_P L xs 227 1 = some (.inl (lo_iload 2 1)) := (P_227 L xs 1).trans rfl
theorem p_227_2 (L : Nat) (xs : Nat → Int32) : ll_P L xs 227 2 = some (.inl (lo_iload 3 2)) := (P_227 L xs 2).trans rfl
theorem p_227_3 (L : Nat) (xs : Nat → Int32) : ll_P L xs 227 3 = some (.inl (lo_push 4 (.int (-1)))) := (P_227 L xs 3).trans rfl
theorem p_227_4 (L : Nat) (xs : Nat → Int32) : ll_P L xs 227 4 = some (.inr (.inl (226, 4, 7))) := (P_227 L xs 4).trans rfl
theorem p_227_7 (L : Nat) (xs : Nat → Int32) : ll_P L xs 227 7 = some (.inr (.inr 1)) := (P_227 L xs 7).trans rfl
theorem b_227_0 {Y : sY} {d : Nat} {s : sT} {K : Option Int32 → sT → Prop} {r0 : Nat} {x1 : Int32} {x2 : Int32} (h : (isO Y r0 11 ∧ tT Y d 226 0 [.ref r0, .int x1, .int x2, .int (-1 : Int32), .null, .null] [] s (fun r s1 => tT Y (d + 1) 227 7 [.ref r0, .int x1, .int x2] ((r.map Value.int).toList ++ []) s1 K))) : tT Y (d + 1) 227 0 [.ref r0, .int x1, .int x2] [] s K :=
  (tt_aload (p_227_0 _ _) rfl).mpr ((tt_iload (p_227_1 _ _) rfl).mpr ((tt_iload (p_227_2 _ _) rfl).mpr ((tt_push (p_227_3 _ _)).mpr (t2_callv (z := 226) (k := 4) (i := r0) (as := [.int x1, .int x2, .int (-1 : Int32)]) (rest := []) (p_227_4 _ _) mK_226 mL_226 rfl rfl (Nat.le_of_ble_eq_true rfl) rfl (Nat.le_of_ble_eq_true rfl) h.1 h.2))))
theorem b_227_7 {Y : sY} {d : Nat} {s : sT} {K : Option Int32 → sT → Prop} {r0 : Nat} {x1 : Int32} {x2 : Int32} {t0 : Int32} (h : K (some t0) s) : tT Y (d + 1) 227 7 [.ref r0, .int x1, .int x2] [.int t0] s K :=
  tt_ret1 (p_227_7 _ _) h
/-! InclusionProverModel.word.(III)I -/
theorem p_228_0 (L : Nat) (xs : Nat → Int32) : ll_P L xs 228 0 = some (.inl (lo_iload 1 3)) := (P_228 L xs 0).trans rfl
theorem p_228_1 (L : Nat) (xs : Nat → Int32) : ll_P L xs 228 1 = some (.inl (lo_if 8 4 (fun x => decide (0 ≤ x)))) := (P_228 L xs 1).trans rfl
theorem p_228_4 (L : Nat) (xs : Nat → Int32) : ll_P L xs 228 4 = some (.inl (lo_push 5 (.int (-1)))) := (P_228 L xs 4).trans rfl
theorem p_228_5 (L : Nat) (xs : Nat → Int32) : ll_P L xs 228 5 = some (.inl (lo_goto 15)) := (P_228 L xs 5).trans rfl
theorem p_228_8 (L : Nat) (xs : Nat → Int32) : ll_P L xs 228 8 = some (.inl (lo_aload 9 0)) := (P_228 L xs 8).trans rfl
theorem p_228_9 (L : Nat) (xs : Nat → Int32) : ll_P L xs 228 9 = some (.inl (lo_iload 10 1)) := (P_228 L xs 9).trans rfl
theorem p_228_10 (L : Nat) (xs : Nat → Int32) : ll_P L xs 228 10 = some (.inl (lo_iload 11 2)) := (P_228 L xs 10).trans rfl
theorem p_228_11 (L : Nat) (xs : Nat → Int32) : ll_P L xs 228 11 = some (.inl (lo_iload 12 3)) := (P_228 L xs 11).trans rfl
theorem p_228_12 (L : Nat) (xs : Nat → Int32) : ll_P L xs 228 12 = some (.inr (.inl (226, 4, 15))) := (P_228 L xs 12).trans rfl
theorem p_228_15 (L : Nat) (xs : Nat → Int32) : ll_P L xs 228 15 = some (.inr (.inr 1)) := (P_228 L xs 15).trans rfl
theorem b_228_0 {Y : sY} {d : Nat} {s : sT} {K : Option Int32 → sT → Prop} {r0 : Nat} {x1 : Int32} {x2 : Int32} {x3 : Int32} (h : (if 0 ≤ x3 then (isO Y r0 11 ∧ tT Y d 226 0 [.ref r0, .int x1, .int x2, .int x3, .null, .null] [] s (fun r s1 => tT Y (d + 1) 228 15 [.ref r0, .int x1, .int x2, .int x3] ((r.map Value.int).toList ++ []) s1 K)) else tT Y (d + 1) 228 15 [.ref r0, .int x1, .int x2, .int x3] [.int (-1 : Int32)] s K)) : tT Y (d + 1) 228 0 [.ref r0, .int x1, .int x2, .int x3] [] s K :=
  (tt_iload (p_228_0 _ _) rfl).mpr (t3_if (p := 0 ≤ x3) (p_228_1 _ _) rfl (fun g1 => (tt_aload (p_228_8 _ _) rfl).mpr ((tt_iload (p_228_9 _ _) rfl).mpr ((tt_iload (p_228_10 _ _) rfl).mpr ((tt_iload (p_228_11 _ _) rfl).mpr (t2_callv (z := 226) (k := 4) (i := r0) (as := [.int x1, .int x2, .int x3]) (rest := []) (p_228_12 _ _) mK_226 mL_226 rfl rfl (Nat.le_of_ble_eq_true rfl) rfl (Nat.le_of_ble_eq_true rfl) (ifp h g1).1 (ifp h g1).2))))) (fun g1 => (tt_push (p_228_4 _ _)).mpr ((tt_goto (p_228_5 _ _)).mpr ((ifn h g1)))))
theorem b_228_15 {Y : sY} {d : Nat} {s : sT} {K : Option Int32 → sT → Prop} {r0 : Nat} {x1 : Int32} {x2 : Int32} {x3 : Int32} {t0 : Int32} (h : K (some t0) s) : tT Y (d + 1) 228 15 [.ref r0, .int x1, .int x2, .int x3] [.int t0] s K :=
  tt_ret1 (p_228_15 _ _) h
/-! InclusionProverModel.image.(I)Z -/
theorem p_229_0 (L : Nat) (xs : Nat → Int32) : ll_P L xs 229 0 = some (.inl (lo_iload 1 1)) := (P_229 L xs 0).trans rfl
theorem p_229_1 (L : Nat) (xs : Nat → Int32) : ll_P L xs 229 1 = some (.inl (lo_push 2 (.int 0))) := (P_229 L xs 1).trans rfl
theorem p_229_2 (L : Nat) (xs : Nat → Int32) : ll_P L xs 229 2 = some (.inl (lo_push 3 (.int 1))) := (P_229 L xs 2).trans rfl
theorem p_229_3 (L : Nat) (xs : Nat → Int32) : ll_P L xs 229 3 = some (.inr (.inl (151, 3, 6))) := (P_229 L xs 3).trans rfl
theorem p_229_6 (L : Nat) (xs : Nat → Int32) : ll_P L xs 229 6 = some (.inl (lo_if 11 9 (fun x => decide (¬ x = 0)))) := (P_229 L xs 6).trans rfl
theorem p_229_9 (L : Nat) (xs : Nat → Int32) : ll_P L xs 229 9 = some (.inl (lo_push 10 (.int 0))) := (P_229 L xs 9).trans rfl
theorem p_229_10 (L : Nat) (xs : Nat → Int32) : ll_P L xs 229 10 = some (.inr (.inr 2)) := (P_229 L xs 10).trans rfl
theorem p_229_11 (L : Nat) (xs : Nat → Int32) : ll_P L xs 229 11 = some (.inl (lo_push 14 (.int 21378))) := (P_229 L xs 11).trans rfl
theorem p_229_14 (L : Nat) (xs : Nat → Int32) : ll_P L xs 229 14 = some (.inl (lo_push 17 (.int 10752))) := (P_229 L xs 14).trans rfl
theorem p_229_17 (L : Nat) (xs : Nat → Int32) : ll_P L xs 229 17 = some (.inl (lo_iload 18 1)) := (P_229 L xs 17).trans rfl
theorem p_229_18 (L : Nat) (xs : Nat → Int32) : ll_P L xs 229 18 = some (.inl (lo_bin 19 (fun x y => x * y))) := (P_229 L xs 18).trans rfl
theorem p_229_19 (L : Nat) (xs : Nat → Int32) : ll_P L xs 229 19 = some (.inl (lo_bin 20 (fun x y => x + y))) := (P_229 L xs 19).trans rfl
theorem p_229_20 (L : Nat) (xs : Nat → Int32) : ll_P L xs 229 20 = some (.inl (lo_istore 21 2)) := (P_229 L xs 20).trans rfl
theorem p_229_21 (L : Nat) (xs : Nat → Int32) : ll_P L xs 229 21 = some (.inl (lo_aload 22 0)) := (P_229 L xs 21).trans rfl
theorem p_229_22 (L : Nat) (xs : Nat → Int32) : ll_P L xs 229 22 = some (.inl (lo_push 23 (.int 0))) := (P_229 L xs 22).trans rfl
theorem p_229_23 (L : Nat) (xs : Nat → Int32) : ll_P L xs 229 23 = some (.inl (lo_iload 24 2)) := (P_229 L xs 23).trans rfl
theorem p_229_24 (L : Nat) (xs : Nat → Int32) : ll_P L xs 229 24 = some (.inl (lo_push 27 (.int 10689))) := (P_229 L xs 24).trans rfl
theorem p_229_27 (L : Nat) (xs : Nat → Int32) : ll_P L xs 229 27 = some (.inr (.inl (152, 4, 30))) := (P_229 L xs 27).trans rfl
theorem p_229_30 (L : Nat) (xs : Nat → Int32) : ll_P L xs 229 30 = some (.inl (lo_push 31 (.int 0))) := (P_229 L xs 30).trans rfl
theorem p_229_31 (L : Nat) (xs : Nat → Int32) : ll_P L xs 229 31 = some (.inl (lo_istore 32 3)) := (P_229 L xs 31).trans rfl
theorem p_229_32 (L : Nat) (xs : Nat → Int32) : ll_P L xs 229 32 = some (.inl (lo_iload 33 3)) := (P_229 L xs 32).trans rfl
theorem p_229_33 (L : Nat) (xs : Nat → Int32) : ll_P L xs 229 33 = some (.inl (lo_push 35 (.int 60))) := (P_229 L xs 33).trans rfl
theorem p_229_35 (L : Nat) (xs : Nat → Int32) : ll_P L xs 229 35 = some (.inl (lo_cmp 62 38 (fun x y => decide (y ≤ x)))) := (P_229 L xs 35).trans rfl
theorem p_229_38 (L : Nat) (xs : Nat → Int32) : ll_P L xs 229 38 = some (.inl (lo_aload 39 0)) := (P_229 L xs 38).trans rfl
theorem p_229_39 (L : Nat) (xs : Nat → Int32) : ll_P L xs 229 39 = some (.inl (lo_getf 42 11 0)) := (P_229 L xs 39).trans rfl
theorem p_229_42 (L : Nat) (xs : Nat → Int32) : ll_P L xs 229 42 = some (.inl (lo_iload 43 2)) := (P_229 L xs 42).trans rfl
theorem p_229_43 (L : Nat) (xs : Nat → Int32) : ll_P L xs 229 43 = some (.inl (lo_push 46 (.int 10689))) := (P_229 L xs 43).trans rfl
theorem p_229_46 (L : Nat) (xs : Nat → Int32) : ll_P L xs 229 46 = some (.inl (lo_bin 47 (fun x y => x + y))) := (P_229 L xs 46).trans rfl
theorem p_229_47 (L : Nat) (xs : Nat → Int32) : ll_P L xs 229 47 = some (.inl (lo_iload 48 3)) := (P_229 L xs 47).trans rfl
theorem p_229_48 (L : Nat) (xs : Nat → Int32) : ll_P L xs 229 48 = some (.inl (lo_bin 49 (fun x y => x + y))) := (P_229 L xs 48).trans rfl
theorem p_229_49 (L : Nat) (xs : Nat → Int32) : ll_P L xs 229 49 = some (.inl (lo_aload 50 0)) := (P_229 L xs 49).trans rfl
theorem p_229_50 (L : Nat) (xs : Nat → Int32) : ll_P L xs 229 50 = some (.inl (lo_getf 53 11 1)) := (P_229 L xs 50).trans rfl
theorem p_229_53 (L : Nat) (xs : Nat → Int32) : ll_P L xs 229 53 = some (.inl (lo_iload 54 3)) := (P_229 L xs 53).trans rfl
theorem p_229_54 (L : Nat) (xs : Nat → Int32) : ll_P L xs 229 54 = some (.inl (lo_ald 55 0)) := (P_229 L xs 54).trans rfl
theorem p_229_55 (L : Nat) (xs : Nat → Int32) : ll_P L xs 229 55 = some (.inl (lo_ast 56 0)) := (P_229 L xs 55).trans rfl
theorem p_229_56 (L : Nat) (xs : Nat → Int32) : ll_P L xs 229 56 = some (.inl (lo_iinc 59 3 1)) := (P_229 L xs 56).trans rfl
theorem p_229_59 (L : Nat) (xs : Nat → Int32) : ll_P L xs 229 59 = some (.inl (lo_goto 32)) := (P_229 L xs 59).trans rfl
theorem p_229_62 (L : Nat) (xs : Nat → Int32) : ll_P L xs 229 62 = some (.inl (lo_aload 63 0)) := (P_229 L xs 62).trans rfl
theorem p_229_63 (L : Nat) (xs : Nat → Int32) : ll_P L xs 229 63 = some (.inl (lo_getf 66 11 0)) := (P_229 L xs 63).trans rfl
theorem p_229_66 (L : Nat) (xs : Nat → Int32) : ll_P L xs 229 66 = some (.inl (lo_iload 67 2)) := (P_229 L xs 66).trans rfl
theorem p_229_67 (L : Nat) (xs : Nat → Int32) : ll_P L xs 229 67 = some (.inl (lo_push 70 (.int 10689))) := (P_229 L xs 67).trans rfl
theorem p_229_70 (L : Nat) (xs : Nat → Int32) : ll_P L xs 229 70 = some (.inl (lo_bin 71 (fun x y => x + y))) := (P_229 L xs 70).trans rfl
theorem p_229_71 (L : Nat) (xs : Nat → Int32) : ll_P L xs 229 71 = some (.inl (lo_push 73 (.int 60))) := (P_229 L xs 71).trans rfl
theorem p_229_73 (L : Nat) (xs : Nat → Int32) : ll_P L xs 229 73 = some (.inl (lo_bin 74 (fun x y => x + y))) := (P_229 L xs 73).trans rfl
theorem p_229_74 (L : Nat) (xs : Nat → Int32) : ll_P L xs 229 74 = some (.inl (lo_aload 75 0)) := (P_229 L xs 74).trans rfl
theorem p_229_75 (L : Nat) (xs : Nat → Int32) : ll_P L xs 229 75 = some (.inl (lo_getf 78 11 3)) := (P_229 L xs 75).trans rfl
theorem p_229_78 (L : Nat) (xs : Nat → Int32) : ll_P L xs 229 78 = some (.inl (lo_ast 79 0)) := (P_229 L xs 78).trans rfl
theorem p_229_79 (L : Nat) (xs : Nat → Int32) : ll_P L xs 229 79 = some (.inl (lo_aload 80 0)) := (P_229 L xs 79).trans rfl
theorem p_229_80 (L : Nat) (xs : Nat → Int32) : ll_P L xs 229 80 = some (.inl (lo_getf 83 11 0)) := (P_229 L xs 80).trans rfl
theorem p_229_83 (L : Nat) (xs : Nat → Int32) : ll_P L xs 229 83 = some (.inl (lo_iload 84 2)) := (P_229 L xs 83).trans rfl
theorem p_229_84 (L : Nat) (xs : Nat → Int32) : ll_P L xs 229 84 = some (.inl (lo_push 87 (.int 10689))) := (P_229 L xs 84).trans rfl
theorem p_229_87 (L : Nat) (xs : Nat → Int32) : ll_P L xs 229 87 = some (.inl (lo_bin 88 (fun x y => x + y))) := (P_229 L xs 87).trans rfl
theorem p_229_88 (L : Nat) (xs : Nat → Int32) : ll_P L xs 229 88 = some (.inl (lo_push 90 (.int 60))) := (P_229 L xs 88).trans rfl
theorem p_229_90 (L : Nat) (xs : Nat → Int32) : ll_P L xs 229 90 = some (.inl (lo_bin 91 (fun x y => x + y))) := (P_229 L xs 90).trans rfl
theorem p_229_91 (L : Nat) (xs : Nat → Int32) : ll_P L xs 229 91 = some (.inl (lo_push 92 (.int 1))) := (P_229 L xs 91).trans rfl
theorem p_229_92 (L : Nat) (xs : Nat → Int32) : ll_P L xs 229 92 = some (.inl (lo_bin 93 (fun x y => x + y))) := (P_229 L xs 92).trans rfl
theorem p_229_93 (L : Nat) (xs : Nat → Int32) : ll_P L xs 229 93 = some (.inl (lo_aload 94 0)) := (P_229 L xs 93).trans rfl
theorem p_229_94 (L : Nat) (xs : Nat → Int32) : ll_P L xs 229 94 = some (.inl (lo_getf 97 11 4)) := (P_229 L xs 94).trans rfl
theorem p_229_97 (L : Nat) (xs : Nat → Int32) : ll_P L xs 229 97 = some (.inl (lo_ast 98 0)) := (P_229 L xs 97).trans rfl
theorem p_229_98 (L : Nat) (xs : Nat → Int32) : ll_P L xs 229 98 = some (.inl (lo_aload 99 0)) := (P_229 L xs 98).trans rfl
theorem p_229_99 (L : Nat) (xs : Nat → Int32) : ll_P L xs 229 99 = some (.inl (lo_getf 102 11 2)) := (P_229 L xs 99).trans rfl
theorem p_229_102 (L : Nat) (xs : Nat → Int32) : ll_P L xs 229 102 = some (.inl (lo_iload 103 1)) := (P_229 L xs 102).trans rfl
theorem p_229_103 (L : Nat) (xs : Nat → Int32) : ll_P L xs 229 103 = some (.inl (lo_push 104 (.int 1))) := (P_229 L xs 103).trans rfl
theorem p_229_104 (L : Nat) (xs : Nat → Int32) : ll_P L xs 229 104 = some (.inl (lo_ast 105 1)) := (P_229 L xs 104).trans rfl
theorem p_229_105 (L : Nat) (xs : Nat → Int32) : ll_P L xs 229 105 = some (.inl (lo_push 106 (.int 1))) := (P_229 L xs 105).trans rfl
theorem p_229_106 (L : Nat) (xs : Nat → Int32) : ll_P L xs 229 106 = some (.inr (.inr 2)) := (P_229 L xs 106).trans rfl
theorem b_229_0 {Y : sY} {d : Nat} {s : sT} {K : Option Int32 → sT → Prop} {r0 : Nat} {x1 : Int32} (h : tT Y d 151 0 [.int x1, .int (0 : Int32), .int (1 : Int32)] [] s (fun r s1 => tT Y (d + 1) 229 6 [.ref r0, .int x1, .null, .null] ((r.map Value.int).toList ++ []) s1 K)) : tT Y (d + 1) 229 0 [.ref r0, .int x1, .null, .null] [] s K :=
  (tt_iload (p_229_0 _ _) rfl).mpr ((tt_push (p_229_1 _ _)).mpr ((tt_push (p_229_2 _ _)).mpr (t2_calls (z := 151) (k := 3) (as := [.int x1, .int (0 : Int32), .int (1 : Int32)]) (rest := []) (p_229_3 _ _) mK_151 mL_151 rfl rfl (Nat.le_of_ble_eq_true rfl) rfl (Nat.le_of_ble_eq_true rfl) h)))
theorem b_229_6 {Y : sY} {d : Nat} {s : sT} {K : Option Int32 → sT → Prop} {r0 : Nat} {x1 : Int32} {t0 : Int32} (h : (if ¬ t0 = 0 then (isO Y r0 11 ∧ tT Y d 152 0 [.ref r0, .int (0 : Int32), .int ((21378 : Int32) + ((10752 : Int32) * x1)), .int (10689 : Int32), .null] [] s (fun r s1 => tT Y (d + 1) 229 30 [.ref r0, .int x1, .int ((21378 : Int32) + ((10752 : Int32) * x1)), .null] ((r.map Value.int).toList ++ []) s1 K)) else K (some (0 : Int32)) s)) : tT Y (d + 1) 229 6 [.ref r0, .int x1, .null, .null] [.int t0] s K :=
  t3_if (p := ¬ t0 = 0) (p_229_6 _ _) rfl (fun g1 => (tt_push (p_229_11 _ _)).mpr ((tt_push (p_229_14 _ _)).mpr ((tt_iload (p_229_17 _ _) rfl).mpr ((tt_bin (p_229_18 _ _)).mpr ((tt_bin (p_229_19 _ _)).mpr ((tt_istore (p_229_20 _ _) (Nat.le_of_ble_eq_true rfl) rfl rfl).mpr ((tt_aload (p_229_21 _ _) rfl).mpr ((tt_push (p_229_22 _ _)).mpr ((tt_iload (p_229_23 _ _) rfl).mpr ((tt_push (p_229_24 _ _)).mpr (t2_callv (z := 152) (k := 4) (i := r0) (as := [.int (0 : Int32), .int ((21378 : Int32) + ((10752 : Int32) * x1)), .int (10689 : Int32)]) (rest := []) (p_229_27 _ _) mK_152 mL_152 rfl rfl (Nat.le_of_ble_eq_true rfl) rfl (Nat.le_of_ble_eq_true rfl) (ifp h g1).1 (ifp h g1).2))))))))))) (fun g1 => (tt_push (p_229_9 _ _)).mpr (tt_ret2 (p_229_10 _ _) (Or.inl rfl) (ifn h g1)))
theorem b_229_30 {Y : sY} {d : Nat} {s : sT} {K : Option Int32 → sT → Prop} {r0 : Nat} {x1 : Int32} {x2 : Int32} (h : tT Y (d + 1) 229 32 [.ref r0, .int x1, .int x2, .int (0 : Int32)] [] s K) : tT Y (d + 1) 229 30 [.ref r0, .int x1, .int x2, .null] [] s K :=
  (tt_push (p_229_30 _ _)).mpr ((tt_istore (p_229_31 _ _) (Nat.le_of_ble_eq_true rfl) rfl rfl).mpr (h))
theorem b_229_32 {Y : sY} {d : Nat} {s : sT} {K : Option Int32 → sT → Prop} {r0 : Nat} {x1 : Int32} {x2 : Int32} {x3 : Int32} (h : (if (60 : Int32) ≤ x3 then (∃ a2, (isO Y r0 11 ∧ s.2 r0 0 = some a2) ∧ (isO Y r0 11 ∧ (∃ m4, (isA Y a2 0 m4 ∧ inR ((x2 + (10689 : Int32)) + (60 : Int32)) m4) ∧ (∃ a6, (isO Y r0 11 ∧ (pV s a2 (((x2 + (10689 : Int32)) + (60 : Int32))).toNatClampNeg (s.1 r0 3)).2 r0 0 = some a6) ∧ (isO Y r0 11 ∧ (∃ m8, (isA Y a6 0 m8 ∧ inR (((x2 + (10689 : Int32)) + (60 : Int32)) + (1 : Int32)) m8) ∧ (∃ a10, (isO Y r0 11 ∧ (pV (pV s a2 (((x2 + (10689 : Int32)) + (60 : Int32))).toNatClampNeg (s.1 r0 3)) a6 ((((x2 + (10689 : Int32)) + (60 : Int32)) + (1 : Int32))).toNatClampNeg ((pV s a2 (((x2 + (10689 : Int32)) + (60 : Int32))).toNatClampNeg (s.1 r0 3)).1 r0 4)).2 r0 2 = some a10) ∧ (∃ m12, (isA Y a10 1 m12 ∧ inR x1 m12 ∧ ((1 : Int32) = 0 ∨ (1 : Int32) = 1)) ∧ K (some (1 : Int32)) (pV (pV (pV s a2 (((x2 + (10689 : Int32)) + (60 : Int32))).toNatClampNeg (s.1 r0 3)) a6 ((((x2 + (10689 : Int32)) + (60 : Int32)) + (1 : Int32))).toNatClampNeg ((pV s a2 (((x2 + (10689 : Int32)) + (60 : Int32))).toNatClampNeg (s.1 r0 3)).1 r0 4)) a10 (x1).toNatClampNeg (1 : Int32)))))))))) else (∃ a14, (isO Y r0 11 ∧ s.2 r0 0 = some a14) ∧ (∃ a16, (isO Y r0 11 ∧ s.2 r0 1 = some a16) ∧ (∃ m18, (isA Y a16 0 m18 ∧ inR x3 m18) ∧ (∃ m20, (isA Y a14 0 m20 ∧ inR ((x2 + (10689 : Int32)) + x3) m20) ∧ tT Y (d + 1) 229 32 [.ref r0, .int x1, .int x2, .int (x3 + 1)] [] (pV s a14 (((x2 + (10689 : Int32)) + x3)).toNatClampNeg (s.1 a16 (x3).toNatClampNeg)) K)))))) : tT Y (d + 1) 229 32 [.ref r0, .int x1, .int x2, .int x3] [] s K :=
  (tt_iload (p_229_32 _ _) rfl).mpr ((tt_push (p_229_33 _ _)).mpr (t3_cmp (p := (60 : Int32) ≤ x3) (p_229_35 _ _) rfl (fun g1 => (tt_aload (p_229_62 _ _) rfl).mpr (Exists.elim (ifp h g1) (fun a2 h3 => t3_getr (p_229_63 _ _) (isI_11_0) h3.1.1 h3.1.2 ((tt_iload (p_229_66 _ _) rfl).mpr ((tt_push (p_229_67 _ _)).mpr ((tt_bin (p_229_70 _ _)).mpr ((tt_push (p_229_71 _ _)).mpr ((tt_bin (p_229_73 _ _)).mpr ((tt_aload (p_229_74 _ _) rfl).mpr (t3_geti (p_229_75 _ _) (isI_11_3) h3.2.1 (Exists.elim h3.2.2 (fun m4 h5 => t3_ast (p_229_78 _ _) h5.1.1 h5.1.2 ((tt_aload (p_229_79 _ _) rfl).mpr (Exists.elim h5.2 (fun a6 h7 => t3_getr (p_229_80 _ _) (isI_11_0) h7.1.1 h7.1.2 ((tt_iload (p_229_83 _ _) rfl).mpr ((tt_push (p_229_84 _ _)).mpr ((tt_bin (p_229_87 _ _)).mpr ((tt_push (p_229_88 _ _)).mpr ((tt_bin (p_229_90 _ _)).mpr ((tt_push (p_229_91 _ _)).mpr ((tt_bin (p_229_92 _ _)).mpr ((tt_aload (p_229_93 _ _) rfl).mpr (t3_geti (p_229_94 _ _) (isI_11_4) h7.2.1 (Exists.elim h7.2.2 (fun m8 h9 => t3_ast (p_229_97 _ _) h9.1.1 h9.1.2 ((tt_aload (p_229_98 _ _) rfl).mpr (Exists.elim h9.2 (fun a10 h11 => t3_getr (p_229_99 _ _) (isI_11_2) h11.1.1 h11.1.2 ((tt_iload (p_229_102 _ _) rfl).mpr ((tt_push (p_229_103 _ _)).mpr (Exists.elim h11.2 (fun m12 h13 => t3_zst (p_229_104 _ _) h13.1.1 h13.1.2.1 h13.1.2.2 ((tt_push (p_229_105 _ _)).mpr (tt_ret2 (p_229_106 _ _) (Or.inr rfl) h13.2))))))))))))))))))))))))))))))))))) (fun g1 => (tt_aload (p_229_38 _ _) rfl).mpr (Exists.elim (ifn h g1) (fun a14 h15 => t3_getr (p_229_39 _ _) (isI_11_0) h15.1.1 h15.1.2 ((tt_iload (p_229_42 _ _) rfl).mpr ((tt_push (p_229_43 _ _)).mpr ((tt_bin (p_229_46 _ _)).mpr ((tt_iload (p_229_47 _ _) rfl).mpr ((tt_bin (p_229_48 _ _)).mpr ((tt_aload (p_229_49 _ _) rfl).mpr (Exists.elim h15.2 (fun a16 h17 => t3_getr (p_229_50 _ _) (isI_11_1) h17.1.1 h17.1.2 ((tt_iload (p_229_53 _ _) rfl).mpr (Exists.elim h17.2 (fun m18 h19 => t3_ald (p_229_54 _ _) h19.1.1 h19.1.2 (Exists.elim h19.2 (fun m20 h21 => t3_ast (p_229_55 _ _) h21.1.1 h21.1.2 ((tt_iinc (p_229_56 _ _) rfl rfl rfl).mpr ((tt_goto (p_229_59 _ _)).mpr (h21.2)))))))))))))))))))))
/-! InclusionProverModel.again.(I)Z -/
theorem p_230_0 (L : Nat) (xs : Nat → Int32) : ll_P L xs 230 0 = some (.inl (lo_iload 1 1)) := (P_230 L xs 0).trans rfl
theorem p_230_1 (L : Nat) (xs : Nat → Int32) : ll_P L xs 230 1 = some (.inl (lo_push 2 (.int 0))) := (P_230 L xs 1).trans rfl
theorem p_230_2 (L : Nat) (xs : Nat → Int32) : ll_P L xs 230 2 = some (.inl (lo_push 3 (.int 1))) := (P_230 L xs 2).trans rfl
theorem p_230_3 (L : Nat) (xs : Nat → Int32) : ll_P L xs 230 3 = some (.inr (.inl (151, 3, 6))) := (P_230 L xs 3).trans rfl
theorem p_230_6 (L : Nat) (xs : Nat → Int32) : ll_P L xs 230 6 = some (.inl (lo_if 18 9 (fun x => decide (x = 0)))) := (P_230 L xs 6).trans rfl
theorem p_230_9 (L : Nat) (xs : Nat → Int32) : ll_P L xs 230 9 = some (.inl (lo_aload 10 0)) := (P_230 L xs 9).trans rfl
theorem p_230_10 (L : Nat) (xs : Nat → Int32) : ll_P L xs 230 10 = some (.inl (lo_getf 13 11 2)) := (P_230 L xs 10).trans rfl
theorem p_230_13 (L : Nat) (xs : Nat → Int32) : ll_P L xs 230 13 = some (.inl (lo_iload 14 1)) := (P_230 L xs 13).trans rfl
theorem p_230_14 (L : Nat) (xs : Nat → Int32) : ll_P L xs 230 14 = some (.inl (lo_ald 15 1)) := (P_230 L xs 14).trans rfl
theorem p_230_15 (L : Nat) (xs : Nat → Int32) : ll_P L xs 230 15 = some (.inl (lo_if 20 18 (fun x => decide (¬ x = 0)))) := (P_230 L xs 15).trans rfl
theorem p_230_18 (L : Nat) (xs : Nat → Int32) : ll_P L xs 230 18 = some (.inl (lo_push 19 (.int 0))) := (P_230 L xs 18).trans rfl
theorem p_230_19 (L : Nat) (xs : Nat → Int32) : ll_P L xs 230 19 = some (.inr (.inr 2)) := (P_230 L xs 19).trans rfl
theorem p_230_20 (L : Nat) (xs : Nat → Int32) : ll_P L xs 230 20 = some (.inl (lo_push 23 (.int 21378))) := (P_230 L xs 20).trans rfl
theorem p_230_23 (L : Nat) (xs : Nat → Int32) : ll_P L xs 230 23 = some (.inl (lo_push 26 (.int 10752))) := (P_230 L xs 23).trans rfl
theorem p_230_26 (L : Nat) (xs : Nat → Int32) : ll_P L xs 230 26 = some (.inl (lo_iload 27 1)) := (P_230 L xs 26).trans rfl
theorem p_230_27 (L : Nat) (xs : Nat → Int32) : ll_P L xs 230 27 = some (.inl (lo_bin 28 (fun x y => x * y))) := (P_230 L xs 27).trans rfl
theorem p_230_28 (L : Nat) (xs : Nat → Int32) : ll_P L xs 230 28 = some (.inl (lo_bin 29 (fun x y => x + y))) := (P_230 L xs 28).trans rfl
theorem p_230_29 (L : Nat) (xs : Nat → Int32) : ll_P L xs 230 29 = some (.inl (lo_istore 30 2)) := (P_230 L xs 29).trans rfl
theorem p_230_30 (L : Nat) (xs : Nat → Int32) : ll_P L xs 230 30 = some (.inl (lo_aload 31 0)) := (P_230 L xs 30).trans rfl
theorem p_230_31 (L : Nat) (xs : Nat → Int32) : ll_P L xs 230 31 = some (.inl (lo_iload 32 2)) := (P_230 L xs 31).trans rfl
theorem p_230_32 (L : Nat) (xs : Nat → Int32) : ll_P L xs 230 32 = some (.inl (lo_push 33 (.int 0))) := (P_230 L xs 32).trans rfl
theorem p_230_33 (L : Nat) (xs : Nat → Int32) : ll_P L xs 230 33 = some (.inl (lo_push 36 (.int 10689))) := (P_230 L xs 33).trans rfl
theorem p_230_36 (L : Nat) (xs : Nat → Int32) : ll_P L xs 230 36 = some (.inr (.inl (152, 4, 39))) := (P_230 L xs 36).trans rfl
theorem p_230_39 (L : Nat) (xs : Nat → Int32) : ll_P L xs 230 39 = some (.inl (lo_push 40 (.int 0))) := (P_230 L xs 39).trans rfl
theorem p_230_40 (L : Nat) (xs : Nat → Int32) : ll_P L xs 230 40 = some (.inl (lo_istore 41 3)) := (P_230 L xs 40).trans rfl
theorem p_230_41 (L : Nat) (xs : Nat → Int32) : ll_P L xs 230 41 = some (.inl (lo_iload 42 3)) := (P_230 L xs 41).trans rfl
theorem p_230_42 (L : Nat) (xs : Nat → Int32) : ll_P L xs 230 42 = some (.inl (lo_push 44 (.int 60))) := (P_230 L xs 42).trans rfl
theorem p_230_44 (L : Nat) (xs : Nat → Int32) : ll_P L xs 230 44 = some (.inl (lo_cmp 71 47 (fun x y => decide (y ≤ x)))) := (P_230 L xs 44).trans rfl
theorem p_230_47 (L : Nat) (xs : Nat → Int32) : ll_P L xs 230 47 = some (.inl (lo_aload 48 0)) := (P_230 L xs 47).trans rfl
theorem p_230_48 (L : Nat) (xs : Nat → Int32) : ll_P L xs 230 48 = some (.inl (lo_getf 51 11 1)) := (P_230 L xs 48).trans rfl
theorem p_230_51 (L : Nat) (xs : Nat → Int32) : ll_P L xs 230 51 = some (.inl (lo_iload 52 3)) := (P_230 L xs 51).trans rfl
theorem p_230_52 (L : Nat) (xs : Nat → Int32) : ll_P L xs 230 52 = some (.inl (lo_aload 53 0)) := (P_230 L xs 52).trans rfl
theorem p_230_53 (L : Nat) (xs : Nat → Int32) : ll_P L xs 230 53 = some (.inl (lo_getf 56 11 0)) := (P_230 L xs 53).trans rfl
theorem p_230_56 (L : Nat) (xs : Nat → Int32) : ll_P L xs 230 56 = some (.inl (lo_iload 57 2)) := (P_230 L xs 56).trans rfl
theorem p_230_57 (L : Nat) (xs : Nat → Int32) : ll_P L xs 230 57 = some (.inl (lo_push 60 (.int 10689))) := (P_230 L xs 57).trans rfl
theorem p_230_60 (L : Nat) (xs : Nat → Int32) : ll_P L xs 230 60 = some (.inl (lo_bin 61 (fun x y => x + y))) := (P_230 L xs 60).trans rfl
theorem p_230_61 (L : Nat) (xs : Nat → Int32) : ll_P L xs 230 61 = some (.inl (lo_iload 62 3)) := (P_230 L xs 61).trans rfl
theorem p_230_62 (L : Nat) (xs : Nat → Int32) : ll_P L xs 230 62 = some (.inl (lo_bin 63 (fun x y => x + y))) := (P_230 L xs 62).trans rfl
theorem p_230_63 (L : Nat) (xs : Nat → Int32) : ll_P L xs 230 63 = some (.inl (lo_ald 64 0)) := (P_230 L xs 63).trans rfl
theorem p_230_64 (L : Nat) (xs : Nat → Int32) : ll_P L xs 230 64 = some (.inl (lo_ast 65 0)) := (P_230 L xs 64).trans rfl
theorem p_230_65 (L : Nat) (xs : Nat → Int32) : ll_P L xs 230 65 = some (.inl (lo_iinc 68 3 1)) := (P_230 L xs 65).trans rfl
theorem p_230_68 (L : Nat) (xs : Nat → Int32) : ll_P L xs 230 68 = some (.inl (lo_goto 41)) := (P_230 L xs 68).trans rfl
theorem p_230_71 (L : Nat) (xs : Nat → Int32) : ll_P L xs 230 71 = some (.inl (lo_aload 72 0)) := (P_230 L xs 71).trans rfl
theorem p_230_72 (L : Nat) (xs : Nat → Int32) : ll_P L xs 230 72 = some (.inl (lo_aload 73 0)) := (P_230 L xs 72).trans rfl
theorem p_230_73 (L : Nat) (xs : Nat → Int32) : ll_P L xs 230 73 = some (.inl (lo_getf 76 11 0)) := (P_230 L xs 73).trans rfl
theorem p_230_76 (L : Nat) (xs : Nat → Int32) : ll_P L xs 230 76 = some (.inl (lo_iload 77 2)) := (P_230 L xs 76).trans rfl
theorem p_230_77 (L : Nat) (xs : Nat → Int32) : ll_P L xs 230 77 = some (.inl (lo_push 80 (.int 10689))) := (P_230 L xs 77).trans rfl
theorem p_230_80 (L : Nat) (xs : Nat → Int32) : ll_P L xs 230 80 = some (.inl (lo_bin 81 (fun x y => x + y))) := (P_230 L xs 80).trans rfl
theorem p_230_81 (L : Nat) (xs : Nat → Int32) : ll_P L xs 230 81 = some (.inl (lo_push 83 (.int 60))) := (P_230 L xs 81).trans rfl
theorem p_230_83 (L : Nat) (xs : Nat → Int32) : ll_P L xs 230 83 = some (.inl (lo_bin 84 (fun x y => x + y))) := (P_230 L xs 83).trans rfl
theorem p_230_84 (L : Nat) (xs : Nat → Int32) : ll_P L xs 230 84 = some (.inl (lo_ald 85 0)) := (P_230 L xs 84).trans rfl
theorem p_230_85 (L : Nat) (xs : Nat → Int32) : ll_P L xs 230 85 = some (.inl (lo_putf 88 11 3 0)) := (P_230 L xs 85).trans rfl
theorem p_230_88 (L : Nat) (xs : Nat → Int32) : ll_P L xs 230 88 = some (.inl (lo_aload 89 0)) := (P_230 L xs 88).trans rfl
theorem p_230_89 (L : Nat) (xs : Nat → Int32) : ll_P L xs 230 89 = some (.inl (lo_aload 90 0)) := (P_230 L xs 89).trans rfl
theorem p_230_90 (L : Nat) (xs : Nat → Int32) : ll_P L xs 230 90 = some (.inl (lo_getf 93 11 0)) := (P_230 L xs 90).trans rfl
theorem p_230_93 (L : Nat) (xs : Nat → Int32) : ll_P L xs 230 93 = some (.inl (lo_iload 94 2)) := (P_230 L xs 93).trans rfl
theorem p_230_94 (L : Nat) (xs : Nat → Int32) : ll_P L xs 230 94 = some (.inl (lo_push 97 (.int 10689))) := (P_230 L xs 94).trans rfl
theorem p_230_97 (L : Nat) (xs : Nat → Int32) : ll_P L xs 230 97 = some (.inl (lo_bin 98 (fun x y => x + y))) := (P_230 L xs 97).trans rfl
theorem p_230_98 (L : Nat) (xs : Nat → Int32) : ll_P L xs 230 98 = some (.inl (lo_push 100 (.int 60))) := (P_230 L xs 98).trans rfl
theorem p_230_100 (L : Nat) (xs : Nat → Int32) : ll_P L xs 230 100 = some (.inl (lo_bin 101 (fun x y => x + y))) := (P_230 L xs 100).trans rfl
theorem p_230_101 (L : Nat) (xs : Nat → Int32) : ll_P L xs 230 101 = some (.inl (lo_push 102 (.int 1))) := (P_230 L xs 101).trans rfl
theorem p_230_102 (L : Nat) (xs : Nat → Int32) : ll_P L xs 230 102 = some (.inl (lo_bin 103 (fun x y => x + y))) := (P_230 L xs 102).trans rfl
theorem p_230_103 (L : Nat) (xs : Nat → Int32) : ll_P L xs 230 103 = some (.inl (lo_ald 104 0)) := (P_230 L xs 103).trans rfl
theorem p_230_104 (L : Nat) (xs : Nat → Int32) : ll_P L xs 230 104 = some (.inl (lo_putf 107 11 4 0)) := (P_230 L xs 104).trans rfl
theorem p_230_107 (L : Nat) (xs : Nat → Int32) : ll_P L xs 230 107 = some (.inl (lo_push 108 (.int 1))) := (P_230 L xs 107).trans rfl
theorem p_230_108 (L : Nat) (xs : Nat → Int32) : ll_P L xs 230 108 = some (.inr (.inr 2)) := (P_230 L xs 108).trans rfl
theorem b_230_0 {Y : sY} {d : Nat} {s : sT} {K : Option Int32 → sT → Prop} {r0 : Nat} {x1 : Int32} (h : tT Y d 151 0 [.int x1, .int (0 : Int32), .int (1 : Int32)] [] s (fun r s1 => tT Y (d + 1) 230 6 [.ref r0, .int x1, .null, .null] ((r.map Value.int).toList ++ []) s1 K)) : tT Y (d + 1) 230 0 [.ref r0, .int x1, .null, .null] [] s K :=
  (tt_iload (p_230_0 _ _) rfl).mpr ((tt_push (p_230_1 _ _)).mpr ((tt_push (p_230_2 _ _)).mpr (t2_calls (z := 151) (k := 3) (as := [.int x1, .int (0 : Int32), .int (1 : Int32)]) (rest := []) (p_230_3 _ _) mK_151 mL_151 rfl rfl (Nat.le_of_ble_eq_true rfl) rfl (Nat.le_of_ble_eq_true rfl) h)))
theorem b_230_6 {Y : sY} {d : Nat} {s : sT} {K : Option Int32 → sT → Prop} {r0 : Nat} {x1 : Int32} {t0 : Int32} (h : (if t0 = 0 then K (some (0 : Int32)) s else (∃ a2, (isO Y r0 11 ∧ s.2 r0 2 = some a2) ∧ (∃ m4, (isA Y a2 1 m4 ∧ inR x1 m4) ∧ (if ¬ (s.1 a2 (x1).toNatClampNeg) = 0 then (isO Y r0 11 ∧ tT Y d 152 0 [.ref r0, .int ((21378 : Int32) + ((10752 : Int32) * x1)), .int (0 : Int32), .int (10689 : Int32), .null] [] s (fun r s1 => tT Y (d + 1) 230 39 [.ref r0, .int x1, .int ((21378 : Int32) + ((10752 : Int32) * x1)), .null] ((r.map Value.int).toList ++ []) s1 K)) else K (some (0 : Int32)) s))))) : tT Y (d + 1) 230 6 [.ref r0, .int x1, .null, .null] [.int t0] s K :=
  t3_if (p := t0 = 0) (p_230_6 _ _) rfl (fun g1 => (tt_push (p_230_18 _ _)).mpr (tt_ret2 (p_230_19 _ _) (Or.inl rfl) (ifp h g1))) (fun g1 => (tt_aload (p_230_9 _ _) rfl).mpr (Exists.elim (ifn h g1) (fun a2 h3 => t3_getr (p_230_10 _ _) (isI_11_2) h3.1.1 h3.1.2 ((tt_iload (p_230_13 _ _) rfl).mpr (Exists.elim h3.2 (fun m4 h5 => t3_ald (p_230_14 _ _) h5.1.1 h5.1.2 (t3_if (p := ¬ (s.1 a2 (x1).toNatClampNeg) = 0) (p_230_15 _ _) rfl (fun g6 => (tt_push (p_230_20 _ _)).mpr ((tt_push (p_230_23 _ _)).mpr ((tt_iload (p_230_26 _ _) rfl).mpr ((tt_bin (p_230_27 _ _)).mpr ((tt_bin (p_230_28 _ _)).mpr ((tt_istore (p_230_29 _ _) (Nat.le_of_ble_eq_true rfl) rfl rfl).mpr ((tt_aload (p_230_30 _ _) rfl).mpr ((tt_iload (p_230_31 _ _) rfl).mpr ((tt_push (p_230_32 _ _)).mpr ((tt_push (p_230_33 _ _)).mpr (t2_callv (z := 152) (k := 4) (i := r0) (as := [.int ((21378 : Int32) + ((10752 : Int32) * x1)), .int (0 : Int32), .int (10689 : Int32)]) (rest := []) (p_230_36 _ _) mK_152 mL_152 rfl rfl (Nat.le_of_ble_eq_true rfl) rfl (Nat.le_of_ble_eq_true rfl) (ifp h5.2 g6).1 (ifp h5.2 g6).2))))))))))) (fun g6 => (tt_push (p_230_18 _ _)).mpr (tt_ret2 (p_230_19 _ _) (Or.inl rfl) (ifn h5.2 g6))))))))))
theorem b_230_39 {Y : sY} {d : Nat} {s : sT} {K : Option Int32 → sT → Prop} {r0 : Nat} {x1 : Int32} {x2 : Int32} (h : tT Y (d + 1) 230 41 [.ref r0, .int x1, .int x2, .int (0 : Int32)] [] s K) : tT Y (d + 1) 230 39 [.ref r0, .int x1, .int x2, .null] [] s K :=
  (tt_push (p_230_39 _ _)).mpr ((tt_istore (p_230_40 _ _) (Nat.le_of_ble_eq_true rfl) rfl rfl).mpr (h))
theorem b_230_41 {Y : sY} {d : Nat} {s : sT} {K : Option Int32 → sT → Prop} {r0 : Nat} {x1 : Int32} {x2 : Int32} {x3 : Int32} (h : (if (60 : Int32) ≤ x3 then (∃ a2, (isO Y r0 11 ∧ s.2 r0 0 = some a2) ∧ (∃ m4, (isA Y a2 0 m4 ∧ inR ((x2 + (10689 : Int32)) + (60 : Int32)) m4) ∧ (isO Y r0 11 ∧ (∃ a6, (isO Y r0 11 ∧ (pV s r0 3 (s.1 a2 (((x2 + (10689 : Int32)) + (60 : Int32))).toNatClampNeg)).2 r0 0 = some a6) ∧ (∃ m8, (isA Y a6 0 m8 ∧ inR (((x2 + (10689 : Int32)) + (60 : Int32)) + (1 : Int32)) m8) ∧ (isO Y r0 11 ∧ K (some (1 : Int32)) (pV (pV s r0 3 (s.1 a2 (((x2 + (10689 : Int32)) + (60 : Int32))).toNatClampNeg)) r0 4 ((pV s r0 3 (s.1 a2 (((x2 + (10689 : Int32)) + (60 : Int32))).toNatClampNeg)).1 a6 ((((x2 + (10689 : Int32)) + (60 : Int32)) + (1 : Int32))).toNatClampNeg)))))))) else (∃ a10, (isO Y r0 11 ∧ s.2 r0 1 = some a10) ∧ (∃ a12, (isO Y r0 11 ∧ s.2 r0 0 = some a12) ∧ (∃ m14, (isA Y a12 0 m14 ∧ inR ((x2 + (10689 : Int32)) + x3) m14) ∧ (∃ m16, (isA Y a10 0 m16 ∧ inR x3 m16) ∧ tT Y (d + 1) 230 41 [.ref r0, .int x1, .int x2, .int (x3 + 1)] [] (pV s a10 (x3).toNatClampNeg (s.1 a12 (((x2 + (10689 : Int32)) + x3)).toNatClampNeg)) K)))))) : tT Y (d + 1) 230 41 [.ref r0, .int x1, .int x2, .int x3] [] s K :=
  (tt_iload (p_230_41 _ _) rfl).mpr ((tt_push (p_230_42 _ _)).mpr (t3_cmp (p := (60 : Int32) ≤ x3) (p_230_44 _ _) rfl (fun g1 => (tt_aload (p_230_71 _ _) rfl).mpr ((tt_aload (p_230_72 _ _) rfl).mpr (Exists.elim (ifp h g1) (fun a2 h3 => t3_getr (p_230_73 _ _) (isI_11_0) h3.1.1 h3.1.2 ((tt_iload (p_230_76 _ _) rfl).mpr ((tt_push (p_230_77 _ _)).mpr ((tt_bin (p_230_80 _ _)).mpr ((tt_push (p_230_81 _ _)).mpr ((tt_bin (p_230_83 _ _)).mpr (Exists.elim h3.2 (fun m4 h5 => t3_ald (p_230_84 _ _) h5.1.1 h5.1.2 ((t2_puti (p_230_85 _ _) isI_11_3 h5.2.1).mpr ((tt_aload (p_230_88 _ _) rfl).mpr ((tt_aload (p_230_89 _ _) rfl).mpr (Exists.elim h5.2.2 (fun a6 h7 => t3_getr (p_230_90 _ _) (isI_11_0) h7.1.1 h7.1.2 ((tt_iload (p_230_93 _ _) rfl).mpr ((tt_push (p_230_94 _ _)).mpr ((tt_bin (p_230_97 _ _)).mpr ((tt_push (p_230_98 _ _)).mpr ((tt_bin (p_230_100 _ _)).mpr ((tt_push (p_230_101 _ _)).mpr ((tt_bin (p_230_102 _ _)).mpr (Exists.elim h7.2 (fun m8 h9 => t3_ald (p_230_103 _ _) h9.1.1 h9.1.2 ((t2_puti (p_230_104 _ _) isI_11_4 h9.2.1).mpr ((tt_push (p_230_107 _ _)).mpr (tt_ret2 (p_230_108 _ _) (Or.inr rfl) h9.2.2)))))))))))))))))))))))))))) (fun g1 => (tt_aload (p_230_47 _ _) rfl).mpr (Exists.elim (ifn h g1) (fun a10 h11 => t3_getr (p_230_48 _ _) (isI_11_1) h11.1.1 h11.1.2 ((tt_iload (p_230_51 _ _) rfl).mpr ((tt_aload (p_230_52 _ _) rfl).mpr (Exists.elim h11.2 (fun a12 h13 => t3_getr (p_230_53 _ _) (isI_11_0) h13.1.1 h13.1.2 ((tt_iload (p_230_56 _ _) rfl).mpr ((tt_push (p_230_57 _ _)).mpr ((tt_bin (p_230_60 _ _)).mpr ((tt_iload (p_230_61 _ _) rfl).mpr ((tt_bin (p_230_62 _ _)).mpr (Exists.elim h13.2 (fun m14 h15 => t3_ald (p_230_63 _ _) h15.1.1 h15.1.2 (Exists.elim h15.2 (fun m16 h17 => t3_ast (p_230_64 _ _) h17.1.1 h17.1.2 ((tt_iinc (p_230_65 _ _) rfl rfl rfl).mpr ((tt_goto (p_230_68 _ _)).mpr (h17.2)))))))))))))))))))))
/-! java/util/Arrays.fill.([II)V -/
theorem p_231_0 (L : Nat) (xs : Nat → Int32) : ll_P L xs 231 0 = some (.inl (lo_push 1 (.int 0))) := (P_231 L xs 0).trans rfl
theorem p_231_1 (L : Nat) (xs : Nat → Int32) : ll_P L xs 231 1 = some (.inl (lo_istore 2 2)) := (P_231 L xs 1).trans rfl
theorem p_231_2 (L : Nat) (xs : Nat → Int32) : ll_P L xs 231 2 = some (.inl (lo_aload 3 0)) := (P_231 L xs 2).trans rfl
theorem p_231_3 (L : Nat) (xs : Nat → Int32) : ll_P L xs 231 3 = some (.inl (lo_alen 4)) := (P_231 L xs 3).trans rfl
theorem p_231_4 (L : Nat) (xs : Nat → Int32) : ll_P L xs 231 4 = some (.inl (lo_istore 5 3)) := (P_231 L xs 4).trans rfl
theorem p_231_5 (L : Nat) (xs : Nat → Int32) : ll_P L xs 231 5 = some (.inl (lo_iload 6 2)) := (P_231 L xs 5).trans rfl
theorem p_231_6 (L : Nat) (xs : Nat → Int32) : ll_P L xs 231 6 = some (.inl (lo_iload 7 3)) := (P_231 L xs 6).trans rfl
theorem p_231_7 (L : Nat) (xs : Nat → Int32) : ll_P L xs 231 7 = some (.inl (lo_cmp 20 10 (fun x y => decide (y ≤ x)))) := (P_231 L xs 7).trans rfl
theorem p_231_10 (L : Nat) (xs : Nat → Int32) : ll_P L xs 231 10 = some (.inl (lo_aload 11 0)) := (P_231 L xs 10).trans rfl
theorem p_231_11 (L : Nat) (xs : Nat → Int32) : ll_P L xs 231 11 = some (.inl (lo_iload 12 2)) := (P_231 L xs 11).trans rfl
theorem p_231_12 (L : Nat) (xs : Nat → Int32) : ll_P L xs 231 12 = some (.inl (lo_iload 13 1)) := (P_231 L xs 12).trans rfl
theorem p_231_13 (L : Nat) (xs : Nat → Int32) : ll_P L xs 231 13 = some (.inl (lo_ast 14 0)) := (P_231 L xs 13).trans rfl
theorem p_231_14 (L : Nat) (xs : Nat → Int32) : ll_P L xs 231 14 = some (.inl (lo_iinc 17 2 1)) := (P_231 L xs 14).trans rfl
theorem p_231_17 (L : Nat) (xs : Nat → Int32) : ll_P L xs 231 17 = some (.inl (lo_goto 5)) := (P_231 L xs 17).trans rfl
theorem p_231_20 (L : Nat) (xs : Nat → Int32) : ll_P L xs 231 20 = some (.inr (.inr 0)) := (P_231 L xs 20).trans rfl
theorem b_231_0 {Y : sY} {d : Nat} {s : sT} {K : Option Int32 → sT → Prop} {r0 : Nat} {x1 : Int32} (h : (∃ c2 m1, isA Y r0 c2 m1 ∧ tT Y d 231 5 [.ref r0, .int x1, .int (0 : Int32), .int (Int32.ofNat m1)] [] s K)) : tT Y d 231 0 [.ref r0, .int x1, .null, .null] [] s K :=
  (tt_push (p_231_0 _ _)).mpr ((tt_istore (p_231_1 _ _) (Nat.le_of_ble_eq_true rfl) rfl rfl).mpr ((tt_aload (p_231_2 _ _) rfl).mpr (Exists.elim h (fun c2 h3q0 => Exists.elim h3q0 (fun m1 h3 => t3_alen (p_231_3 _ _) h3.1 ((tt_istore (p_231_4 _ _) (Nat.le_of_ble_eq_true rfl) rfl rfl).mpr (h3.2)))))))
theorem b_231_5 {Y : sY} {d : Nat} {s : sT} {K : Option Int32 → sT → Prop} {r0 : Nat} {x1 : Int32} {x2 : Int32} {x3 : Int32} (h : (if x3 ≤ x2 then K none s else (∃ m2, (isA Y r0 0 m2 ∧ inR x2 m2) ∧ tT Y d 231 5 [.ref r0, .int x1, .int (x2 + 1), .int x3] [] (pV s r0 (x2).toNatClampNeg x1) K))) : tT Y d 231 5 [.ref r0, .int x1, .int x2, .int x3] [] s K :=
  (tt_iload (p_231_5 _ _) rfl).mpr ((tt_iload (p_231_6 _ _) rfl).mpr (t3_cmp (p := x3 ≤ x2) (p_231_7 _ _) rfl (fun g1 => tt_ret0 (p_231_20 _ _) (ifp h g1)) (fun g1 => (tt_aload (p_231_10 _ _) rfl).mpr ((tt_iload (p_231_11 _ _) rfl).mpr ((tt_iload (p_231_12 _ _) rfl).mpr (Exists.elim (ifn h g1) (fun m2 h3 => t3_ast (p_231_13 _ _) h3.1.1 h3.1.2 ((tt_iinc (p_231_14 _ _) rfl rfl rfl).mpr ((tt_goto (p_231_17 _ _)).mpr (h3.2))))))))))
/-! InclusionProverLaw.law.([I)Z -/
theorem p_232_0 (L : Nat) (xs : Nat → Int32) : ll_P L xs 232 0 = some (.inl (lo_new 3 10 11 [.null, .null, .null, .null, .null, .null, .null, .null, .null, .null, .null])) := (P_232 L xs 0).trans rfl
theorem p_232_3 (L : Nat) (xs : Nat → Int32) : ll_P L xs 232 3 = some (.inl (lo_dup 4)) := (P_232 L xs 3).trans rfl
theorem p_232_4 (L : Nat) (xs : Nat → Int32) : ll_P L xs 232 4 = some (.inr (.inl (113, 1, 7))) := (P_232 L xs 4).trans rfl
theorem p_232_7 (L : Nat) (xs : Nat → Int32) : ll_P L xs 232 7 = some (.inl (lo_astore 8 1)) := (P_232 L xs 7).trans rfl
theorem p_232_8 (L : Nat) (xs : Nat → Int32) : ll_P L xs 232 8 = some (.inl (lo_new 11 11 46 [.null, .null, .null, .int 0, .int 0, .null, .null, .null, .null, .null, .null, .null, .int 0, .int 0, .null, .null, .null, .int 0, .null, .int 0, .null, .null, .null, .null, .null, .int 0, .int 0, .null, .null, .int 0, .int 0, .null, .null, .int 0, .null, .null, .null, .null, .null, .null, .null, .null, .int 0, .int 0, .int 0, .null])) := (P_232 L xs 8).trans rfl
theorem p_232_11 (L : Nat) (xs : Nat → Int32) : ll_P L xs 232 11 = some (.inl (lo_dup 12)) := (P_232 L xs 11).trans rfl
theorem p_232_12 (L : Nat) (xs : Nat → Int32) : ll_P L xs 232 12 = some (.inr (.inl (149, 1, 15))) := (P_232 L xs 12).trans rfl
theorem p_232_15 (L : Nat) (xs : Nat → Int32) : ll_P L xs 232 15 = some (.inl (lo_astore 16 2)) := (P_232 L xs 15).trans rfl
theorem p_232_16 (L : Nat) (xs : Nat → Int32) : ll_P L xs 232 16 = some (.inl (lo_push 17 (.int 0))) := (P_232 L xs 16).trans rfl
theorem p_232_17 (L : Nat) (xs : Nat → Int32) : ll_P L xs 232 17 = some (.inl (lo_istore 18 3)) := (P_232 L xs 17).trans rfl
theorem p_232_18 (L : Nat) (xs : Nat → Int32) : ll_P L xs 232 18 = some (.inl (lo_iload 19 3)) := (P_232 L xs 18).trans rfl
theorem p_232_19 (L : Nat) (xs : Nat → Int32) : ll_P L xs 232 19 = some (.inl (lo_aload 20 0)) := (P_232 L xs 19).trans rfl
theorem p_232_20 (L : Nat) (xs : Nat → Int32) : ll_P L xs 232 20 = some (.inl (lo_slen 21 L)) := (P_232 L xs 20).trans rfl
theorem p_232_21 (L : Nat) (xs : Nat → Int32) : ll_P L xs 232 21 = some (.inl (lo_push 22 (.int 5))) := (P_232 L xs 21).trans rfl
theorem p_232_22 (L : Nat) (xs : Nat → Int32) : ll_P L xs 232 22 = some (.inl (lo_bin 23 (fun x y => x - y))) := (P_232 L xs 22).trans rfl
theorem p_232_23 (L : Nat) (xs : Nat → Int32) : ll_P L xs 232 23 = some (.inl (lo_cmp 820 26 (fun x y => decide (y < x)))) := (P_232 L xs 23).trans rfl
theorem p_232_26 (L : Nat) (xs : Nat → Int32) : ll_P L xs 232 26 = some (.inl (lo_aload 27 0)) := (P_232 L xs 26).trans rfl
theorem p_232_27 (L : Nat) (xs : Nat → Int32) : ll_P L xs 232 27 = some (.inl (lo_iload 28 3)) := (P_232 L xs 27).trans rfl
theorem p_232_28 (L : Nat) (xs : Nat → Int32) : ll_P L xs 232 28 = some (.inl (lo_sld 29 L xs)) := (P_232 L xs 28).trans rfl
theorem p_232_29 (L : Nat) (xs : Nat → Int32) : ll_P L xs 232 29 = some (.inl (lo_push 31 (.int 31))) := (P_232 L xs 29).trans rfl
theorem p_232_31 (L : Nat) (xs : Nat → Int32) : ll_P L xs 232 31 = some (.inl (lo_bin 32 (fun x y => x &&& y))) := (P_232 L xs 31).trans rfl
theorem p_232_32 (L : Nat) (xs : Nat → Int32) : ll_P L xs 232 32 = some (.inl (lo_tab 0 [144, 197, 220, 233, 244, 277, 330, 363, 406, 439, 462, 495, 538, 551, 574, 597, 630, 673, 686, 699, 722, 735, 768, 791] 814)) := (P_232 L xs 32).trans rfl
theorem p_232_144 (L : Nat) (xs : Nat → Int32) : ll_P L xs 232 144 = some (.inl (lo_aload 145 1)) := (P_232 L xs 144).trans rfl
theorem p_232_145 (L : Nat) (xs : Nat → Int32) : ll_P L xs 232 145 = some (.inl (lo_aload 146 0)) := (P_232 L xs 145).trans rfl
theorem p_232_146 (L : Nat) (xs : Nat → Int32) : ll_P L xs 232 146 = some (.inl (lo_iload 147 3)) := (P_232 L xs 146).trans rfl
theorem p_232_147 (L : Nat) (xs : Nat → Int32) : ll_P L xs 232 147 = some (.inl (lo_push 148 (.int 1))) := (P_232 L xs 147).trans rfl
theorem p_232_148 (L : Nat) (xs : Nat → Int32) : ll_P L xs 232 148 = some (.inl (lo_bin 149 (fun x y => x + y))) := (P_232 L xs 148).trans rfl
theorem p_232_149 (L : Nat) (xs : Nat → Int32) : ll_P L xs 232 149 = some (.inl (lo_sld 150 L xs)) := (P_232 L xs 149).trans rfl
theorem p_232_150 (L : Nat) (xs : Nat → Int32) : ll_P L xs 232 150 = some (.inl (lo_i2l 151)) := (P_232 L xs 150).trans rfl
theorem p_232_151 (L : Nat) (xs : Nat → Int32) : ll_P L xs 232 151 = some (.inl (lo_push 153 (.int 32))) := (P_232 L xs 151).trans rfl
theorem p_232_153 (L : Nat) (xs : Nat → Int32) : ll_P L xs 232 153 = some (.inl (lo_lsh 154 (fun x y => x <<< (y.toInt64 &&& 63)))) := (P_232 L xs 153).trans rfl
theorem p_232_154 (L : Nat) (xs : Nat → Int32) : ll_P L xs 232 154 = some (.inl (lo_aload 155 0)) := (P_232 L xs 154).trans rfl
theorem p_232_155 (L : Nat) (xs : Nat → Int32) : ll_P L xs 232 155 = some (.inl (lo_iload 156 3)) := (P_232 L xs 155).trans rfl
theorem p_232_156 (L : Nat) (xs : Nat → Int32) : ll_P L xs 232 156 = some (.inl (lo_push 157 (.int 2))) := (P_232 L xs 156).trans rfl
theorem p_232_157 (L : Nat) (xs : Nat → Int32) : ll_P L xs 232 157 = some (.inl (lo_bin 158 (fun x y => x + y))) := (P_232 L xs 157).trans rfl
theorem p_232_158 (L : Nat) (xs : Nat → Int32) : ll_P L xs 232 158 = some (.inl (lo_sld 159 L xs)) := (P_232 L xs 158).trans rfl
theorem p_232_159 (L : Nat) (xs : Nat → Int32) : ll_P L xs 232 159 = some (.inl (lo_i2l 160)) := (P_232 L xs 159).trans rfl
theorem p_232_160 (L : Nat) (xs : Nat → Int32) : ll_P L xs 232 160 = some (.inl (lo_push 163 (.long 4294967295))) := (P_232 L xs 160).trans rfl
theorem p_232_163 (L : Nat) (xs : Nat → Int32) : ll_P L xs 232 163 = some (.inl (lo_lbin 164 (fun x y => x &&& y))) := (P_232 L xs 163).trans rfl
theorem p_232_164 (L : Nat) (xs : Nat → Int32) : ll_P L xs 232 164 = some (.inl (lo_lbin 165 (fun x y => x ||| y))) := (P_232 L xs 164).trans rfl
theorem p_232_165 (L : Nat) (xs : Nat → Int32) : ll_P L xs 232 165 = some (.inr (.inl (114, 2, 168))) := (P_232 L xs 165).trans rfl
theorem p_232_168 (L : Nat) (xs : Nat → Int32) : ll_P L xs 232 168 = some (.inl (lo_aload 169 2)) := (P_232 L xs 168).trans rfl
theorem p_232_169 (L : Nat) (xs : Nat → Int32) : ll_P L xs 232 169 = some (.inl (lo_aload 170 0)) := (P_232 L xs 169).trans rfl
theorem p_232_170 (L : Nat) (xs : Nat → Int32) : ll_P L xs 232 170 = some (.inl (lo_iload 171 3)) := (P_232 L xs 170).trans rfl
theorem p_232_171 (L : Nat) (xs : Nat → Int32) : ll_P L xs 232 171 = some (.inl (lo_push 172 (.int 1))) := (P_232 L xs 171).trans rfl
theorem p_232_172 (L : Nat) (xs : Nat → Int32) : ll_P L xs 232 172 = some (.inl (lo_bin 173 (fun x y => x + y))) := (P_232 L xs 172).trans rfl
theorem p_232_173 (L : Nat) (xs : Nat → Int32) : ll_P L xs 232 173 = some (.inl (lo_sld 174 L xs)) := (P_232 L xs 173).trans rfl
theorem p_232_174 (L : Nat) (xs : Nat → Int32) : ll_P L xs 232 174 = some (.inl (lo_i2l 175)) := (P_232 L xs 174).trans rfl
theorem p_232_175 (L : Nat) (xs : Nat → Int32) : ll_P L xs 232 175 = some (.inl (lo_push 177 (.int 32))) := (P_232 L xs 175).trans rfl
theorem p_232_177 (L : Nat) (xs : Nat → Int32) : ll_P L xs 232 177 = some (.inl (lo_lsh 178 (fun x y => x <<< (y.toInt64 &&& 63)))) := (P_232 L xs 177).trans rfl
theorem p_232_178 (L : Nat) (xs : Nat → Int32) : ll_P L xs 232 178 = some (.inl (lo_aload 179 0)) := (P_232 L xs 178).trans rfl
theorem p_232_179 (L : Nat) (xs : Nat → Int32) : ll_P L xs 232 179 = some (.inl (lo_iload 180 3)) := (P_232 L xs 179).trans rfl
theorem p_232_180 (L : Nat) (xs : Nat → Int32) : ll_P L xs 232 180 = some (.inl (lo_push 181 (.int 2))) := (P_232 L xs 180).trans rfl
theorem p_232_181 (L : Nat) (xs : Nat → Int32) : ll_P L xs 232 181 = some (.inl (lo_bin 182 (fun x y => x + y))) := (P_232 L xs 181).trans rfl
theorem p_232_182 (L : Nat) (xs : Nat → Int32) : ll_P L xs 232 182 = some (.inl (lo_sld 183 L xs)) := (P_232 L xs 182).trans rfl
theorem p_232_183 (L : Nat) (xs : Nat → Int32) : ll_P L xs 232 183 = some (.inl (lo_i2l 184)) := (P_232 L xs 183).trans rfl
theorem p_232_184 (L : Nat) (xs : Nat → Int32) : ll_P L xs 232 184 = some (.inl (lo_push 187 (.long 4294967295))) := (P_232 L xs 184).trans rfl
theorem p_232_187 (L : Nat) (xs : Nat → Int32) : ll_P L xs 232 187 = some (.inl (lo_lbin 188 (fun x y => x &&& y))) := (P_232 L xs 187).trans rfl
theorem p_232_188 (L : Nat) (xs : Nat → Int32) : ll_P L xs 232 188 = some (.inl (lo_lbin 189 (fun x y => x ||| y))) := (P_232 L xs 188).trans rfl
theorem p_232_189 (L : Nat) (xs : Nat → Int32) : ll_P L xs 232 189 = some (.inr (.inl (208, 2, 192))) := (P_232 L xs 189).trans rfl
theorem p_232_192 (L : Nat) (xs : Nat → Int32) : ll_P L xs 232 192 = some (.inl (lo_cmp 814 195 (fun x y => decide (x = y)))) := (P_232 L xs 192).trans rfl
theorem p_232_195 (L : Nat) (xs : Nat → Int32) : ll_P L xs 232 195 = some (.inl (lo_push 196 (.int 0))) := (P_232 L xs 195).trans rfl
theorem p_232_196 (L : Nat) (xs : Nat → Int32) : ll_P L xs 232 196 = some (.inr (.inr 2)) := (P_232 L xs 196).trans rfl
theorem p_232_197 (L : Nat) (xs : Nat → Int32) : ll_P L xs 232 197 = some (.inl (lo_aload 198 1)) := (P_232 L xs 197).trans rfl
theorem p_232_198 (L : Nat) (xs : Nat → Int32) : ll_P L xs 232 198 = some (.inl (lo_aload 199 0)) := (P_232 L xs 198).trans rfl
theorem p_232_199 (L : Nat) (xs : Nat → Int32) : ll_P L xs 232 199 = some (.inl (lo_iload 200 3)) := (P_232 L xs 199).trans rfl
theorem p_232_200 (L : Nat) (xs : Nat → Int32) : ll_P L xs 232 200 = some (.inl (lo_push 201 (.int 1))) := (P_232 L xs 200).trans rfl
theorem p_232_201 (L : Nat) (xs : Nat → Int32) : ll_P L xs 232 201 = some (.inl (lo_bin 202 (fun x y => x + y))) := (P_232 L xs 201).trans rfl
theorem p_232_202 (L : Nat) (xs : Nat → Int32) : ll_P L xs 232 202 = some (.inl (lo_sld 203 L xs)) := (P_232 L xs 202).trans rfl
theorem p_232_203 (L : Nat) (xs : Nat → Int32) : ll_P L xs 232 203 = some (.inr (.inl (115, 2, 206))) := (P_232 L xs 203).trans rfl
theorem p_232_206 (L : Nat) (xs : Nat → Int32) : ll_P L xs 232 206 = some (.inl (lo_aload 207 2)) := (P_232 L xs 206).trans rfl
theorem p_232_207 (L : Nat) (xs : Nat → Int32) : ll_P L xs 232 207 = some (.inl (lo_aload 208 0)) := (P_232 L xs 207).trans rfl
theorem p_232_208 (L : Nat) (xs : Nat → Int32) : ll_P L xs 232 208 = some (.inl (lo_iload 209 3)) := (P_232 L xs 208).trans rfl
theorem p_232_209 (L : Nat) (xs : Nat → Int32) : ll_P L xs 232 209 = some (.inl (lo_push 210 (.int 1))) := (P_232 L xs 209).trans rfl
theorem p_232_210 (L : Nat) (xs : Nat → Int32) : ll_P L xs 232 210 = some (.inl (lo_bin 211 (fun x y => x + y))) := (P_232 L xs 210).trans rfl
theorem p_232_211 (L : Nat) (xs : Nat → Int32) : ll_P L xs 232 211 = some (.inl (lo_sld 212 L xs)) := (P_232 L xs 211).trans rfl
theorem p_232_212 (L : Nat) (xs : Nat → Int32) : ll_P L xs 232 212 = some (.inr (.inl (211, 2, 215))) := (P_232 L xs 212).trans rfl
theorem p_232_215 (L : Nat) (xs : Nat → Int32) : ll_P L xs 232 215 = some (.inl (lo_cmp 814 218 (fun x y => decide (x = y)))) := (P_232 L xs 215).trans rfl
theorem p_232_218 (L : Nat) (xs : Nat → Int32) : ll_P L xs 232 218 = some (.inl (lo_push 219 (.int 0))) := (P_232 L xs 218).trans rfl
theorem p_232_219 (L : Nat) (xs : Nat → Int32) : ll_P L xs 232 219 = some (.inr (.inr 2)) := (P_232 L xs 219).trans rfl
theorem p_232_220 (L : Nat) (xs : Nat → Int32) : ll_P L xs 232 220 = some (.inl (lo_aload 221 1)) := (P_232 L xs 220).trans rfl
theorem p_232_221 (L : Nat) (xs : Nat → Int32) : ll_P L xs 232 221 = some (.inr (.inl (116, 1, 224))) := (P_232 L xs 221).trans rfl
theorem p_232_224 (L : Nat) (xs : Nat → Int32) : ll_P L xs 232 224 = some (.inl (lo_aload 225 2)) := (P_232 L xs 224).trans rfl
theorem p_232_225 (L : Nat) (xs : Nat → Int32) : ll_P L xs 232 225 = some (.inr (.inl (212, 1, 228))) := (P_232 L xs 225).trans rfl
theorem p_232_228 (L : Nat) (xs : Nat → Int32) : ll_P L xs 232 228 = some (.inl (lo_cmp 814 231 (fun x y => decide (x = y)))) := (P_232 L xs 228).trans rfl
theorem p_232_231 (L : Nat) (xs : Nat → Int32) : ll_P L xs 232 231 = some (.inl (lo_push 232 (.int 0))) := (P_232 L xs 231).trans rfl
theorem p_232_232 (L : Nat) (xs : Nat → Int32) : ll_P L xs 232 232 = some (.inr (.inr 2)) := (P_232 L xs 232).trans rfl
theorem p_232_233 (L : Nat) (xs : Nat → Int32) : ll_P L xs 232 233 = some (.inl (lo_aload 234 1)) := (P_232 L xs 233).trans rfl
theorem p_232_234 (L : Nat) (xs : Nat → Int32) : ll_P L xs 232 234 = some (.inr (.inl (117, 1, 237))) := (P_232 L xs 234).trans rfl
theorem p_232_237 (L : Nat) (xs : Nat → Int32) : ll_P L xs 232 237 = some (.inl (lo_aload 238 2)) := (P_232 L xs 237).trans rfl
theorem p_232_238 (L : Nat) (xs : Nat → Int32) : ll_P L xs 232 238 = some (.inr (.inl (213, 1, 241))) := (P_232 L xs 238).trans rfl
theorem p_232_241 (L : Nat) (xs : Nat → Int32) : ll_P L xs 232 241 = some (.inl (lo_goto 814)) := (P_232 L xs 241).trans rfl
theorem p_232_244 (L : Nat) (xs : Nat → Int32) : ll_P L xs 232 244 = some (.inl (lo_aload 245 1)) := (P_232 L xs 244).trans rfl
theorem p_232_245 (L : Nat) (xs : Nat → Int32) : ll_P L xs 232 245 = some (.inl (lo_aload 246 0)) := (P_232 L xs 245).trans rfl
theorem p_232_246 (L : Nat) (xs : Nat → Int32) : ll_P L xs 232 246 = some (.inl (lo_iload 247 3)) := (P_232 L xs 246).trans rfl
theorem p_232_247 (L : Nat) (xs : Nat → Int32) : ll_P L xs 232 247 = some (.inl (lo_push 248 (.int 1))) := (P_232 L xs 247).trans rfl
theorem p_232_248 (L : Nat) (xs : Nat → Int32) : ll_P L xs 232 248 = some (.inl (lo_bin 249 (fun x y => x + y))) := (P_232 L xs 248).trans rfl
theorem p_232_249 (L : Nat) (xs : Nat → Int32) : ll_P L xs 232 249 = some (.inl (lo_sld 250 L xs)) := (P_232 L xs 249).trans rfl
theorem p_232_250 (L : Nat) (xs : Nat → Int32) : ll_P L xs 232 250 = some (.inl (lo_aload 251 0)) := (P_232 L xs 250).trans rfl
theorem p_232_251 (L : Nat) (xs : Nat → Int32) : ll_P L xs 232 251 = some (.inl (lo_iload 252 3)) := (P_232 L xs 251).trans rfl
theorem p_232_252 (L : Nat) (xs : Nat → Int32) : ll_P L xs 232 252 = some (.inl (lo_push 253 (.int 2))) := (P_232 L xs 252).trans rfl
theorem p_232_253 (L : Nat) (xs : Nat → Int32) : ll_P L xs 232 253 = some (.inl (lo_bin 254 (fun x y => x + y))) := (P_232 L xs 253).trans rfl
theorem p_232_254 (L : Nat) (xs : Nat → Int32) : ll_P L xs 232 254 = some (.inl (lo_sld 255 L xs)) := (P_232 L xs 254).trans rfl
theorem p_232_255 (L : Nat) (xs : Nat → Int32) : ll_P L xs 232 255 = some (.inr (.inl (118, 3, 258))) := (P_232 L xs 255).trans rfl
theorem p_232_258 (L : Nat) (xs : Nat → Int32) : ll_P L xs 232 258 = some (.inl (lo_aload 259 2)) := (P_232 L xs 258).trans rfl
theorem p_232_259 (L : Nat) (xs : Nat → Int32) : ll_P L xs 232 259 = some (.inl (lo_aload 260 0)) := (P_232 L xs 259).trans rfl
theorem p_232_260 (L : Nat) (xs : Nat → Int32) : ll_P L xs 232 260 = some (.inl (lo_iload 261 3)) := (P_232 L xs 260).trans rfl
theorem p_232_261 (L : Nat) (xs : Nat → Int32) : ll_P L xs 232 261 = some (.inl (lo_push 262 (.int 1))) := (P_232 L xs 261).trans rfl
theorem p_232_262 (L : Nat) (xs : Nat → Int32) : ll_P L xs 232 262 = some (.inl (lo_bin 263 (fun x y => x + y))) := (P_232 L xs 262).trans rfl
theorem p_232_263 (L : Nat) (xs : Nat → Int32) : ll_P L xs 232 263 = some (.inl (lo_sld 264 L xs)) := (P_232 L xs 263).trans rfl
theorem p_232_264 (L : Nat) (xs : Nat → Int32) : ll_P L xs 232 264 = some (.inl (lo_aload 265 0)) := (P_232 L xs 264).trans rfl
theorem p_232_265 (L : Nat) (xs : Nat → Int32) : ll_P L xs 232 265 = some (.inl (lo_iload 266 3)) := (P_232 L xs 265).trans rfl
theorem p_232_266 (L : Nat) (xs : Nat → Int32) : ll_P L xs 232 266 = some (.inl (lo_push 267 (.int 2))) := (P_232 L xs 266).trans rfl
theorem p_232_267 (L : Nat) (xs : Nat → Int32) : ll_P L xs 232 267 = some (.inl (lo_bin 268 (fun x y => x + y))) := (P_232 L xs 267).trans rfl
theorem p_232_268 (L : Nat) (xs : Nat → Int32) : ll_P L xs 232 268 = some (.inl (lo_sld 269 L xs)) := (P_232 L xs 268).trans rfl
theorem p_232_269 (L : Nat) (xs : Nat → Int32) : ll_P L xs 232 269 = some (.inr (.inl (214, 3, 272))) := (P_232 L xs 269).trans rfl
theorem p_232_272 (L : Nat) (xs : Nat → Int32) : ll_P L xs 232 272 = some (.inl (lo_cmp 814 275 (fun x y => decide (x = y)))) := (P_232 L xs 272).trans rfl
theorem p_232_275 (L : Nat) (xs : Nat → Int32) : ll_P L xs 232 275 = some (.inl (lo_push 276 (.int 0))) := (P_232 L xs 275).trans rfl
theorem p_232_276 (L : Nat) (xs : Nat → Int32) : ll_P L xs 232 276 = some (.inr (.inr 2)) := (P_232 L xs 276).trans rfl
theorem p_232_277 (L : Nat) (xs : Nat → Int32) : ll_P L xs 232 277 = some (.inl (lo_aload 278 1)) := (P_232 L xs 277).trans rfl
theorem p_232_278 (L : Nat) (xs : Nat → Int32) : ll_P L xs 232 278 = some (.inl (lo_aload 279 0)) := (P_232 L xs 278).trans rfl
theorem p_232_279 (L : Nat) (xs : Nat → Int32) : ll_P L xs 232 279 = some (.inl (lo_iload 280 3)) := (P_232 L xs 279).trans rfl
theorem p_232_280 (L : Nat) (xs : Nat → Int32) : ll_P L xs 232 280 = some (.inl (lo_push 281 (.int 1))) := (P_232 L xs 280).trans rfl
theorem p_232_281 (L : Nat) (xs : Nat → Int32) : ll_P L xs 232 281 = some (.inl (lo_bin 282 (fun x y => x + y))) := (P_232 L xs 281).trans rfl
theorem p_232_282 (L : Nat) (xs : Nat → Int32) : ll_P L xs 232 282 = some (.inl (lo_sld 283 L xs)) := (P_232 L xs 282).trans rfl
theorem p_232_283 (L : Nat) (xs : Nat → Int32) : ll_P L xs 232 283 = some (.inl (lo_aload 284 0)) := (P_232 L xs 283).trans rfl
theorem p_232_284 (L : Nat) (xs : Nat → Int32) : ll_P L xs 232 284 = some (.inl (lo_iload 285 3)) := (P_232 L xs 284).trans rfl
theorem p_232_285 (L : Nat) (xs : Nat → Int32) : ll_P L xs 232 285 = some (.inl (lo_push 286 (.int 2))) := (P_232 L xs 285).trans rfl
theorem p_232_286 (L : Nat) (xs : Nat → Int32) : ll_P L xs 232 286 = some (.inl (lo_bin 287 (fun x y => x + y))) := (P_232 L xs 286).trans rfl
theorem p_232_287 (L : Nat) (xs : Nat → Int32) : ll_P L xs 232 287 = some (.inl (lo_sld 288 L xs)) := (P_232 L xs 287).trans rfl
theorem p_232_288 (L : Nat) (xs : Nat → Int32) : ll_P L xs 232 288 = some (.inl (lo_aload 289 0)) := (P_232 L xs 288).trans rfl
theorem p_232_289 (L : Nat) (xs : Nat → Int32) : ll_P L xs 232 289 = some (.inl (lo_iload 290 3)) := (P_232 L xs 289).trans rfl
theorem p_232_290 (L : Nat) (xs : Nat → Int32) : ll_P L xs 232 290 = some (.inl (lo_push 291 (.int 3))) := (P_232 L xs 290).trans rfl
theorem p_232_291 (L : Nat) (xs : Nat → Int32) : ll_P L xs 232 291 = some (.inl (lo_bin 292 (fun x y => x + y))) := (P_232 L xs 291).trans rfl
theorem p_232_292 (L : Nat) (xs : Nat → Int32) : ll_P L xs 232 292 = some (.inl (lo_sld 293 L xs)) := (P_232 L xs 292).trans rfl
theorem p_232_293 (L : Nat) (xs : Nat → Int32) : ll_P L xs 232 293 = some (.inl (lo_aload 294 0)) := (P_232 L xs 293).trans rfl
theorem p_232_294 (L : Nat) (xs : Nat → Int32) : ll_P L xs 232 294 = some (.inl (lo_iload 295 3)) := (P_232 L xs 294).trans rfl
theorem p_232_295 (L : Nat) (xs : Nat → Int32) : ll_P L xs 232 295 = some (.inl (lo_push 296 (.int 4))) := (P_232 L xs 295).trans rfl
theorem p_232_296 (L : Nat) (xs : Nat → Int32) : ll_P L xs 232 296 = some (.inl (lo_bin 297 (fun x y => x + y))) := (P_232 L xs 296).trans rfl
theorem p_232_297 (L : Nat) (xs : Nat → Int32) : ll_P L xs 232 297 = some (.inl (lo_sld 298 L xs)) := (P_232 L xs 297).trans rfl
theorem p_232_298 (L : Nat) (xs : Nat → Int32) : ll_P L xs 232 298 = some (.inr (.inl (119, 5, 301))) := (P_232 L xs 298).trans rfl
theorem p_232_301 (L : Nat) (xs : Nat → Int32) : ll_P L xs 232 301 = some (.inl (lo_aload 302 2)) := (P_232 L xs 301).trans rfl
theorem p_232_302 (L : Nat) (xs : Nat → Int32) : ll_P L xs 232 302 = some (.inl (lo_aload 303 0)) := (P_232 L xs 302).trans rfl
theorem p_232_303 (L : Nat) (xs : Nat → Int32) : ll_P L xs 232 303 = some (.inl (lo_iload 304 3)) := (P_232 L xs 303).trans rfl
theorem p_232_304 (L : Nat) (xs : Nat → Int32) : ll_P L xs 232 304 = some (.inl (lo_push 305 (.int 1))) := (P_232 L xs 304).trans rfl
theorem p_232_305 (L : Nat) (xs : Nat → Int32) : ll_P L xs 232 305 = some (.inl (lo_bin 306 (fun x y => x + y))) := (P_232 L xs 305).trans rfl
theorem p_232_306 (L : Nat) (xs : Nat → Int32) : ll_P L xs 232 306 = some (.inl (lo_sld 307 L xs)) := (P_232 L xs 306).trans rfl
theorem p_232_307 (L : Nat) (xs : Nat → Int32) : ll_P L xs 232 307 = some (.inl (lo_aload 308 0)) := (P_232 L xs 307).trans rfl
theorem p_232_308 (L : Nat) (xs : Nat → Int32) : ll_P L xs 232 308 = some (.inl (lo_iload 309 3)) := (P_232 L xs 308).trans rfl
theorem p_232_309 (L : Nat) (xs : Nat → Int32) : ll_P L xs 232 309 = some (.inl (lo_push 310 (.int 2))) := (P_232 L xs 309).trans rfl
theorem p_232_310 (L : Nat) (xs : Nat → Int32) : ll_P L xs 232 310 = some (.inl (lo_bin 311 (fun x y => x + y))) := (P_232 L xs 310).trans rfl
theorem p_232_311 (L : Nat) (xs : Nat → Int32) : ll_P L xs 232 311 = some (.inl (lo_sld 312 L xs)) := (P_232 L xs 311).trans rfl
theorem p_232_312 (L : Nat) (xs : Nat → Int32) : ll_P L xs 232 312 = some (.inl (lo_aload 313 0)) := (P_232 L xs 312).trans rfl
theorem p_232_313 (L : Nat) (xs : Nat → Int32) : ll_P L xs 232 313 = some (.inl (lo_iload 314 3)) := (P_232 L xs 313).trans rfl
theorem p_232_314 (L : Nat) (xs : Nat → Int32) : ll_P L xs 232 314 = some (.inl (lo_push 315 (.int 3))) := (P_232 L xs 314).trans rfl
theorem p_232_315 (L : Nat) (xs : Nat → Int32) : ll_P L xs 232 315 = some (.inl (lo_bin 316 (fun x y => x + y))) := (P_232 L xs 315).trans rfl
theorem p_232_316 (L : Nat) (xs : Nat → Int32) : ll_P L xs 232 316 = some (.inl (lo_sld 317 L xs)) := (P_232 L xs 316).trans rfl
theorem p_232_317 (L : Nat) (xs : Nat → Int32) : ll_P L xs 232 317 = some (.inl (lo_aload 318 0)) := (P_232 L xs 317).trans rfl
theorem p_232_318 (L : Nat) (xs : Nat → Int32) : ll_P L xs 232 318 = some (.inl (lo_iload 319 3)) := (P_232 L xs 318).trans rfl
theorem p_232_319 (L : Nat) (xs : Nat → Int32) : ll_P L xs 232 319 = some (.inl (lo_push 320 (.int 4))) := (P_232 L xs 319).trans rfl
theorem p_232_320 (L : Nat) (xs : Nat → Int32) : ll_P L xs 232 320 = some (.inl (lo_bin 321 (fun x y => x + y))) := (P_232 L xs 320).trans rfl
theorem p_232_321 (L : Nat) (xs : Nat → Int32) : ll_P L xs 232 321 = some (.inl (lo_sld 322 L xs)) := (P_232 L xs 321).trans rfl
theorem p_232_322 (L : Nat) (xs : Nat → Int32) : ll_P L xs 232 322 = some (.inr (.inl (215, 5, 325))) := (P_232 L xs 322).trans rfl
theorem p_232_325 (L : Nat) (xs : Nat → Int32) : ll_P L xs 232 325 = some (.inl (lo_cmp 814 328 (fun x y => decide (x = y)))) := (P_232 L xs 325).trans rfl
theorem p_232_328 (L : Nat) (xs : Nat → Int32) : ll_P L xs 232 328 = some (.inl (lo_push 329 (.int 0))) := (P_232 L xs 328).trans rfl
theorem p_232_329 (L : Nat) (xs : Nat → Int32) : ll_P L xs 232 329 = some (.inr (.inr 2)) := (P_232 L xs 329).trans rfl
theorem p_232_330 (L : Nat) (xs : Nat → Int32) : ll_P L xs 232 330 = some (.inl (lo_aload 331 1)) := (P_232 L xs 330).trans rfl
theorem p_232_331 (L : Nat) (xs : Nat → Int32) : ll_P L xs 232 331 = some (.inl (lo_aload 332 0)) := (P_232 L xs 331).trans rfl
theorem p_232_332 (L : Nat) (xs : Nat → Int32) : ll_P L xs 232 332 = some (.inl (lo_iload 333 3)) := (P_232 L xs 332).trans rfl
theorem p_232_333 (L : Nat) (xs : Nat → Int32) : ll_P L xs 232 333 = some (.inl (lo_push 334 (.int 1))) := (P_232 L xs 333).trans rfl
theorem p_232_334 (L : Nat) (xs : Nat → Int32) : ll_P L xs 232 334 = some (.inl (lo_bin 335 (fun x y => x + y))) := (P_232 L xs 334).trans rfl
theorem p_232_335 (L : Nat) (xs : Nat → Int32) : ll_P L xs 232 335 = some (.inl (lo_sld 336 L xs)) := (P_232 L xs 335).trans rfl
theorem p_232_336 (L : Nat) (xs : Nat → Int32) : ll_P L xs 232 336 = some (.inl (lo_aload 337 0)) := (P_232 L xs 336).trans rfl
theorem p_232_337 (L : Nat) (xs : Nat → Int32) : ll_P L xs 232 337 = some (.inl (lo_iload 338 3)) := (P_232 L xs 337).trans rfl
theorem p_232_338 (L : Nat) (xs : Nat → Int32) : ll_P L xs 232 338 = some (.inl (lo_push 339 (.int 2))) := (P_232 L xs 338).trans rfl
theorem p_232_339 (L : Nat) (xs : Nat → Int32) : ll_P L xs 232 339 = some (.inl (lo_bin 340 (fun x y => x + y))) := (P_232 L xs 339).trans rfl
theorem p_232_340 (L : Nat) (xs : Nat → Int32) : ll_P L xs 232 340 = some (.inl (lo_sld 341 L xs)) := (P_232 L xs 340).trans rfl
theorem p_232_341 (L : Nat) (xs : Nat → Int32) : ll_P L xs 232 341 = some (.inr (.inl (120, 3, 344))) := (P_232 L xs 341).trans rfl
theorem p_232_344 (L : Nat) (xs : Nat → Int32) : ll_P L xs 232 344 = some (.inl (lo_aload 345 2)) := (P_232 L xs 344).trans rfl
theorem p_232_345 (L : Nat) (xs : Nat → Int32) : ll_P L xs 232 345 = some (.inl (lo_aload 346 0)) := (P_232 L xs 345).trans rfl
theorem p_232_346 (L : Nat) (xs : Nat → Int32) : ll_P L xs 232 346 = some (.inl (lo_iload 347 3)) := (P_232 L xs 346).trans rfl
set_option maxRecDepth 100000 in
theorem p_232_347 (L : Nat) (xs : Nat → Int32) : ll_P L xs 232 347 = some (.inl (lo_push 348 (.int 1))) := (P_232 L xs 347).trans rfl
set_option maxRecDepth 100000 in
theorem p_232_348 (L : Nat) (xs : Nat → Int32) : ll_P L xs 232 348 = some (.inl (lo_bin 349 (fun x y => x + y))) := (P_232 L xs 348).trans rfl
set_option maxRecDepth 100000 in
theorem p_232_349 (L : Nat) (xs : Nat → Int32) : ll_P L xs 232 349 = some (.inl (lo_sld 350 L xs)) := (P_232 L xs 349).trans rfl
set_option maxRecDepth 100000 in
theorem p_232_350 (L : Nat) (xs : Nat → Int32) : ll_P L xs 232 350 = some (.inl (lo_aload 351 0)) := (P_232 L xs 350).trans rfl
set_option maxRecDepth 100000 in
theorem p_232_351 (L : Nat) (xs : Nat → Int32) : ll_P L xs 232 351 = some (.inl (lo_iload 352 3)) := (P_232 L xs 351).trans rfl
set_option maxRecDepth 100000 in
theorem p_232_352 (L : Nat) (xs : Nat → Int32) : ll_P L xs 232 352 = some (.inl (lo_push 353 (.int 2))) := (P_232 L xs 352).trans rfl
set_option maxRecDepth 100000 in
theorem p_232_353 (L : Nat) (xs : Nat → Int32) : ll_P L xs 232 353 = some (.inl (lo_bin 354 (fun x y => x + y))) := (P_232 L xs 353).trans rfl
set_option maxRecDepth 100000 in
theorem p_232_354 (L : Nat) (xs : Nat → Int32) : ll_P L xs 232 354 = some (.inl (lo_sld 355 L xs)) := (P_232 L xs 354).trans rfl
set_option maxRecDepth 100000 in
theorem p_232_355 (L : Nat) (xs : Nat → Int32) : ll_P L xs 232 355 = some (.inr (.inl (218, 3, 358))) := (P_232 L xs 355).trans rfl
set_option maxRecDepth 100000 in
theorem p_232_358 (L : Nat) (xs : Nat → Int32) : ll_P L xs 232 358 = some (.inl (lo_cmp 814 361 (fun x y => decide (x = y)))) := (P_232 L xs 358).trans rfl
set_option maxRecDepth 100000 in
theorem p_232_361 (L : Nat) (xs : Nat → Int32) : ll_P L xs 232 361 = some (.inl (lo_push 362 (.int 0))) := (P_232 L xs 361).trans rfl
set_option maxRecDepth 100000 in
theorem p_232_362 (L : Nat) (xs : Nat → Int32) : ll_P L xs 232 362 = some (.inr (.inr 2)) := (P_232 L xs 362).trans rfl
set_option maxRecDepth 100000 in
theorem p_232_363 (L : Nat) (xs : Nat → Int32) : ll_P L xs 232 363 = some (.inl (lo_aload 364 1)) := (P_232 L xs 363).trans rfl
set_option maxRecDepth 100000 in
theorem p_232_364 (L : Nat) (xs : Nat → Int32) : ll_P L xs 232 364 = some (.inl (lo_aload 365 0)) := (P_232 L xs 364).trans rfl
set_option maxRecDepth 100000 in
theorem p_232_365 (L : Nat) (xs : Nat → Int32) : ll_P L xs 232 365 = some (.inl (lo_iload 366 3)) := (P_232 L xs 365).trans rfl
set_option maxRecDepth 100000 in
theorem p_232_366 (L : Nat) (xs : Nat → Int32) : ll_P L xs 232 366 = some (.inl (lo_push 367 (.int 1))) := (P_232 L xs 366).trans rfl
set_option maxRecDepth 100000 in
theorem p_232_367 (L : Nat) (xs : Nat → Int32) : ll_P L xs 232 367 = some (.inl (lo_bin 368 (fun x y => x + y))) := (P_232 L xs 367).trans rfl
set_option maxRecDepth 100000 in
theorem p_232_368 (L : Nat) (xs : Nat → Int32) : ll_P L xs 232 368 = some (.inl (lo_sld 369 L xs)) := (P_232 L xs 368).trans rfl
set_option maxRecDepth 100000 in
theorem p_232_369 (L : Nat) (xs : Nat → Int32) : ll_P L xs 232 369 = some (.inl (lo_aload 370 0)) := (P_232 L xs 369).trans rfl
set_option maxRecDepth 100000 in
theorem p_232_370 (L : Nat) (xs : Nat → Int32) : ll_P L xs 232 370 = some (.inl (lo_iload 371 3)) := (P_232 L xs 370).trans rfl
set_option maxRecDepth 100000 in
theorem p_232_371 (L : Nat) (xs : Nat → Int32) : ll_P L xs 232 371 = some (.inl (lo_push 372 (.int 2))) := (P_232 L xs 371).trans rfl
set_option maxRecDepth 100000 in
theorem p_232_372 (L : Nat) (xs : Nat → Int32) : ll_P L xs 232 372 = some (.inl (lo_bin 373 (fun x y => x + y))) := (P_232 L xs 372).trans rfl
set_option maxRecDepth 100000 in
theorem p_232_373 (L : Nat) (xs : Nat → Int32) : ll_P L xs 232 373 = some (.inl (lo_sld 374 L xs)) := (P_232 L xs 373).trans rfl
set_option maxRecDepth 100000 in
theorem p_232_374 (L : Nat) (xs : Nat → Int32) : ll_P L xs 232 374 = some (.inl (lo_aload 375 0)) := (P_232 L xs 374).trans rfl
set_option maxRecDepth 100000 in
theorem p_232_375 (L : Nat) (xs : Nat → Int32) : ll_P L xs 232 375 = some (.inl (lo_iload 376 3)) := (P_232 L xs 375).trans rfl
set_option maxRecDepth 100000 in
theorem p_232_376 (L : Nat) (xs : Nat → Int32) : ll_P L xs 232 376 = some (.inl (lo_push 377 (.int 3))) := (P_232 L xs 376).trans rfl
set_option maxRecDepth 100000 in
theorem p_232_377 (L : Nat) (xs : Nat → Int32) : ll_P L xs 232 377 = some (.inl (lo_bin 378 (fun x y => x + y))) := (P_232 L xs 377).trans rfl
set_option maxRecDepth 100000 in
theorem p_232_378 (L : Nat) (xs : Nat → Int32) : ll_P L xs 232 378 = some (.inl (lo_sld 379 L xs)) := (P_232 L xs 378).trans rfl
set_option maxRecDepth 100000 in
theorem p_232_379 (L : Nat) (xs : Nat → Int32) : ll_P L xs 232 379 = some (.inr (.inl (121, 4, 382))) := (P_232 L xs 379).trans rfl
set_option maxRecDepth 100000 in
theorem p_232_382 (L : Nat) (xs : Nat → Int32) : ll_P L xs 232 382 = some (.inl (lo_aload 383 2)) := (P_232 L xs 382).trans rfl
set_option maxRecDepth 100000 in
theorem p_232_383 (L : Nat) (xs : Nat → Int32) : ll_P L xs 232 383 = some (.inl (lo_aload 384 0)) := (P_232 L xs 383).trans rfl
set_option maxRecDepth 100000 in
theorem p_232_384 (L : Nat) (xs : Nat → Int32) : ll_P L xs 232 384 = some (.inl (lo_iload 385 3)) := (P_232 L xs 384).trans rfl
set_option maxRecDepth 100000 in
theorem p_232_385 (L : Nat) (xs : Nat → Int32) : ll_P L xs 232 385 = some (.inl (lo_push 386 (.int 1))) := (P_232 L xs 385).trans rfl
set_option maxRecDepth 100000 in
theorem p_232_386 (L : Nat) (xs : Nat → Int32) : ll_P L xs 232 386 = some (.inl (lo_bin 387 (fun x y => x + y))) := (P_232 L xs 386).trans rfl
set_option maxRecDepth 100000 in
theorem p_232_387 (L : Nat) (xs : Nat → Int32) : ll_P L xs 232 387 = some (.inl (lo_sld 388 L xs)) := (P_232 L xs 387).trans rfl
set_option maxRecDepth 100000 in
theorem p_232_388 (L : Nat) (xs : Nat → Int32) : ll_P L xs 232 388 = some (.inl (lo_aload 389 0)) := (P_232 L xs 388).trans rfl
set_option maxRecDepth 100000 in
theorem p_232_389 (L : Nat) (xs : Nat → Int32) : ll_P L xs 232 389 = some (.inl (lo_iload 390 3)) := (P_232 L xs 389).trans rfl
set_option maxRecDepth 100000 in
theorem p_232_390 (L : Nat) (xs : Nat → Int32) : ll_P L xs 232 390 = some (.inl (lo_push 391 (.int 2))) := (P_232 L xs 390).trans rfl
set_option maxRecDepth 100000 in
theorem p_232_391 (L : Nat) (xs : Nat → Int32) : ll_P L xs 232 391 = some (.inl (lo_bin 392 (fun x y => x + y))) := (P_232 L xs 391).trans rfl
set_option maxRecDepth 100000 in
theorem p_232_392 (L : Nat) (xs : Nat → Int32) : ll_P L xs 232 392 = some (.inl (lo_sld 393 L xs)) := (P_232 L xs 392).trans rfl
set_option maxRecDepth 100000 in
theorem p_232_393 (L : Nat) (xs : Nat → Int32) : ll_P L xs 232 393 = some (.inl (lo_aload 394 0)) := (P_232 L xs 393).trans rfl
set_option maxRecDepth 100000 in
theorem p_232_394 (L : Nat) (xs : Nat → Int32) : ll_P L xs 232 394 = some (.inl (lo_iload 395 3)) := (P_232 L xs 394).trans rfl
set_option maxRecDepth 100000 in
theorem p_232_395 (L : Nat) (xs : Nat → Int32) : ll_P L xs 232 395 = some (.inl (lo_push 396 (.int 3))) := (P_232 L xs 395).trans rfl
set_option maxRecDepth 100000 in
theorem p_232_396 (L : Nat) (xs : Nat → Int32) : ll_P L xs 232 396 = some (.inl (lo_bin 397 (fun x y => x + y))) := (P_232 L xs 396).trans rfl
set_option maxRecDepth 100000 in
theorem p_232_397 (L : Nat) (xs : Nat → Int32) : ll_P L xs 232 397 = some (.inl (lo_sld 398 L xs)) := (P_232 L xs 397).trans rfl
set_option maxRecDepth 100000 in
theorem p_232_398 (L : Nat) (xs : Nat → Int32) : ll_P L xs 232 398 = some (.inr (.inl (219, 4, 401))) := (P_232 L xs 398).trans rfl
set_option maxRecDepth 100000 in
theorem p_232_401 (L : Nat) (xs : Nat → Int32) : ll_P L xs 232 401 = some (.inl (lo_cmp 814 404 (fun x y => decide (x = y)))) := (P_232 L xs 401).trans rfl
set_option maxRecDepth 100000 in
theorem p_232_404 (L : Nat) (xs : Nat → Int32) : ll_P L xs 232 404 = some (.inl (lo_push 405 (.int 0))) := (P_232 L xs 404).trans rfl
set_option maxRecDepth 100000 in
theorem p_232_405 (L : Nat) (xs : Nat → Int32) : ll_P L xs 232 405 = some (.inr (.inr 2)) := (P_232 L xs 405).trans rfl
set_option maxRecDepth 100000 in
theorem p_232_406 (L : Nat) (xs : Nat → Int32) : ll_P L xs 232 406 = some (.inl (lo_aload 407 1)) := (P_232 L xs 406).trans rfl
set_option maxRecDepth 100000 in
theorem p_232_407 (L : Nat) (xs : Nat → Int32) : ll_P L xs 232 407 = some (.inl (lo_aload 408 0)) := (P_232 L xs 407).trans rfl
set_option maxRecDepth 100000 in
theorem p_232_408 (L : Nat) (xs : Nat → Int32) : ll_P L xs 232 408 = some (.inl (lo_iload 409 3)) := (P_232 L xs 408).trans rfl
set_option maxRecDepth 100000 in
theorem p_232_409 (L : Nat) (xs : Nat → Int32) : ll_P L xs 232 409 = some (.inl (lo_push 410 (.int 1))) := (P_232 L xs 409).trans rfl
set_option maxRecDepth 100000 in
theorem p_232_410 (L : Nat) (xs : Nat → Int32) : ll_P L xs 232 410 = some (.inl (lo_bin 411 (fun x y => x + y))) := (P_232 L xs 410).trans rfl
set_option maxRecDepth 100000 in
theorem p_232_411 (L : Nat) (xs : Nat → Int32) : ll_P L xs 232 411 = some (.inl (lo_sld 412 L xs)) := (P_232 L xs 411).trans rfl
set_option maxRecDepth 100000 in
theorem p_232_412 (L : Nat) (xs : Nat → Int32) : ll_P L xs 232 412 = some (.inl (lo_aload 413 0)) := (P_232 L xs 412).trans rfl
set_option maxRecDepth 100000 in
theorem p_232_413 (L : Nat) (xs : Nat → Int32) : ll_P L xs 232 413 = some (.inl (lo_iload 414 3)) := (P_232 L xs 413).trans rfl
set_option maxRecDepth 100000 in
theorem p_232_414 (L : Nat) (xs : Nat → Int32) : ll_P L xs 232 414 = some (.inl (lo_push 415 (.int 2))) := (P_232 L xs 414).trans rfl
set_option maxRecDepth 100000 in
theorem p_232_415 (L : Nat) (xs : Nat → Int32) : ll_P L xs 232 415 = some (.inl (lo_bin 416 (fun x y => x + y))) := (P_232 L xs 415).trans rfl
set_option maxRecDepth 100000 in
theorem p_232_416 (L : Nat) (xs : Nat → Int32) : ll_P L xs 232 416 = some (.inl (lo_sld 417 L xs)) := (P_232 L xs 416).trans rfl
set_option maxRecDepth 100000 in
theorem p_232_417 (L : Nat) (xs : Nat → Int32) : ll_P L xs 232 417 = some (.inr (.inl (122, 3, 420))) := (P_232 L xs 417).trans rfl
set_option maxRecDepth 100000 in
theorem p_232_420 (L : Nat) (xs : Nat → Int32) : ll_P L xs 232 420 = some (.inl (lo_aload 421 2)) := (P_232 L xs 420).trans rfl
set_option maxRecDepth 100000 in
theorem p_232_421 (L : Nat) (xs : Nat → Int32) : ll_P L xs 232 421 = some (.inl (lo_aload 422 0)) := (P_232 L xs 421).trans rfl
set_option maxRecDepth 100000 in
theorem p_232_422 (L : Nat) (xs : Nat → Int32) : ll_P L xs 232 422 = some (.inl (lo_iload 423 3)) := (P_232 L xs 422).trans rfl
set_option maxRecDepth 100000 in
theorem p_232_423 (L : Nat) (xs : Nat → Int32) : ll_P L xs 232 423 = some (.inl (lo_push 424 (.int 1))) := (P_232 L xs 423).trans rfl
set_option maxRecDepth 100000 in
theorem p_232_424 (L : Nat) (xs : Nat → Int32) : ll_P L xs 232 424 = some (.inl (lo_bin 425 (fun x y => x + y))) := (P_232 L xs 424).trans rfl
set_option maxRecDepth 100000 in
theorem p_232_425 (L : Nat) (xs : Nat → Int32) : ll_P L xs 232 425 = some (.inl (lo_sld 426 L xs)) := (P_232 L xs 425).trans rfl
set_option maxRecDepth 100000 in
theorem p_232_426 (L : Nat) (xs : Nat → Int32) : ll_P L xs 232 426 = some (.inl (lo_aload 427 0)) := (P_232 L xs 426).trans rfl
set_option maxRecDepth 100000 in
theorem p_232_427 (L : Nat) (xs : Nat → Int32) : ll_P L xs 232 427 = some (.inl (lo_iload 428 3)) := (P_232 L xs 427).trans rfl
set_option maxRecDepth 100000 in
theorem p_232_428 (L : Nat) (xs : Nat → Int32) : ll_P L xs 232 428 = some (.inl (lo_push 429 (.int 2))) := (P_232 L xs 428).trans rfl
set_option maxRecDepth 100000 in
theorem p_232_429 (L : Nat) (xs : Nat → Int32) : ll_P L xs 232 429 = some (.inl (lo_bin 430 (fun x y => x + y))) := (P_232 L xs 429).trans rfl
set_option maxRecDepth 100000 in
theorem p_232_430 (L : Nat) (xs : Nat → Int32) : ll_P L xs 232 430 = some (.inl (lo_sld 431 L xs)) := (P_232 L xs 430).trans rfl
set_option maxRecDepth 100000 in
theorem p_232_431 (L : Nat) (xs : Nat → Int32) : ll_P L xs 232 431 = some (.inr (.inl (220, 3, 434))) := (P_232 L xs 431).trans rfl
set_option maxRecDepth 100000 in
theorem p_232_434 (L : Nat) (xs : Nat → Int32) : ll_P L xs 232 434 = some (.inl (lo_cmp 814 437 (fun x y => decide (x = y)))) := (P_232 L xs 434).trans rfl
set_option maxRecDepth 100000 in
theorem p_232_437 (L : Nat) (xs : Nat → Int32) : ll_P L xs 232 437 = some (.inl (lo_push 438 (.int 0))) := (P_232 L xs 437).trans rfl
set_option maxRecDepth 100000 in
theorem p_232_438 (L : Nat) (xs : Nat → Int32) : ll_P L xs 232 438 = some (.inr (.inr 2)) := (P_232 L xs 438).trans rfl
set_option maxRecDepth 100000 in
theorem p_232_439 (L : Nat) (xs : Nat → Int32) : ll_P L xs 232 439 = some (.inl (lo_aload 440 1)) := (P_232 L xs 439).trans rfl
set_option maxRecDepth 100000 in
theorem p_232_440 (L : Nat) (xs : Nat → Int32) : ll_P L xs 232 440 = some (.inl (lo_aload 441 0)) := (P_232 L xs 440).trans rfl
set_option maxRecDepth 100000 in
theorem p_232_441 (L : Nat) (xs : Nat → Int32) : ll_P L xs 232 441 = some (.inl (lo_iload 442 3)) := (P_232 L xs 441).trans rfl
set_option maxRecDepth 100000 in
theorem p_232_442 (L : Nat) (xs : Nat → Int32) : ll_P L xs 232 442 = some (.inl (lo_push 443 (.int 1))) := (P_232 L xs 442).trans rfl
set_option maxRecDepth 100000 in
theorem p_232_443 (L : Nat) (xs : Nat → Int32) : ll_P L xs 232 443 = some (.inl (lo_bin 444 (fun x y => x + y))) := (P_232 L xs 443).trans rfl
set_option maxRecDepth 100000 in
theorem p_232_444 (L : Nat) (xs : Nat → Int32) : ll_P L xs 232 444 = some (.inl (lo_sld 445 L xs)) := (P_232 L xs 444).trans rfl
set_option maxRecDepth 100000 in
theorem p_232_445 (L : Nat) (xs : Nat → Int32) : ll_P L xs 232 445 = some (.inr (.inl (123, 2, 448))) := (P_232 L xs 445).trans rfl
set_option maxRecDepth 100000 in
theorem p_232_448 (L : Nat) (xs : Nat → Int32) : ll_P L xs 232 448 = some (.inl (lo_aload 449 2)) := (P_232 L xs 448).trans rfl
set_option maxRecDepth 100000 in
theorem p_232_449 (L : Nat) (xs : Nat → Int32) : ll_P L xs 232 449 = some (.inl (lo_aload 450 0)) := (P_232 L xs 449).trans rfl
set_option maxRecDepth 100000 in
theorem p_232_450 (L : Nat) (xs : Nat → Int32) : ll_P L xs 232 450 = some (.inl (lo_iload 451 3)) := (P_232 L xs 450).trans rfl
set_option maxRecDepth 100000 in
theorem p_232_451 (L : Nat) (xs : Nat → Int32) : ll_P L xs 232 451 = some (.inl (lo_push 452 (.int 1))) := (P_232 L xs 451).trans rfl
set_option maxRecDepth 100000 in
theorem p_232_452 (L : Nat) (xs : Nat → Int32) : ll_P L xs 232 452 = some (.inl (lo_bin 453 (fun x y => x + y))) := (P_232 L xs 452).trans rfl
set_option maxRecDepth 100000 in
theorem p_232_453 (L : Nat) (xs : Nat → Int32) : ll_P L xs 232 453 = some (.inl (lo_sld 454 L xs)) := (P_232 L xs 453).trans rfl
set_option maxRecDepth 100000 in
theorem p_232_454 (L : Nat) (xs : Nat → Int32) : ll_P L xs 232 454 = some (.inr (.inl (221, 2, 457))) := (P_232 L xs 454).trans rfl
set_option maxRecDepth 100000 in
theorem p_232_457 (L : Nat) (xs : Nat → Int32) : ll_P L xs 232 457 = some (.inl (lo_cmp 814 460 (fun x y => decide (x = y)))) := (P_232 L xs 457).trans rfl
set_option maxRecDepth 100000 in
theorem p_232_460 (L : Nat) (xs : Nat → Int32) : ll_P L xs 232 460 = some (.inl (lo_push 461 (.int 0))) := (P_232 L xs 460).trans rfl
set_option maxRecDepth 100000 in
theorem p_232_461 (L : Nat) (xs : Nat → Int32) : ll_P L xs 232 461 = some (.inr (.inr 2)) := (P_232 L xs 461).trans rfl
set_option maxRecDepth 100000 in
theorem p_232_462 (L : Nat) (xs : Nat → Int32) : ll_P L xs 232 462 = some (.inl (lo_aload 463 1)) := (P_232 L xs 462).trans rfl
set_option maxRecDepth 100000 in
theorem p_232_463 (L : Nat) (xs : Nat → Int32) : ll_P L xs 232 463 = some (.inl (lo_aload 464 0)) := (P_232 L xs 463).trans rfl
set_option maxRecDepth 100000 in
theorem p_232_464 (L : Nat) (xs : Nat → Int32) : ll_P L xs 232 464 = some (.inl (lo_iload 465 3)) := (P_232 L xs 464).trans rfl
set_option maxRecDepth 100000 in
theorem p_232_465 (L : Nat) (xs : Nat → Int32) : ll_P L xs 232 465 = some (.inl (lo_push 466 (.int 1))) := (P_232 L xs 465).trans rfl
set_option maxRecDepth 100000 in
theorem p_232_466 (L : Nat) (xs : Nat → Int32) : ll_P L xs 232 466 = some (.inl (lo_bin 467 (fun x y => x + y))) := (P_232 L xs 466).trans rfl
set_option maxRecDepth 100000 in
theorem p_232_467 (L : Nat) (xs : Nat → Int32) : ll_P L xs 232 467 = some (.inl (lo_sld 468 L xs)) := (P_232 L xs 467).trans rfl
set_option maxRecDepth 100000 in
theorem p_232_468 (L : Nat) (xs : Nat → Int32) : ll_P L xs 232 468 = some (.inl (lo_aload 469 0)) := (P_232 L xs 468).trans rfl
set_option maxRecDepth 100000 in
theorem p_232_469 (L : Nat) (xs : Nat → Int32) : ll_P L xs 232 469 = some (.inl (lo_iload 470 3)) := (P_232 L xs 469).trans rfl
set_option maxRecDepth 100000 in
theorem p_232_470 (L : Nat) (xs : Nat → Int32) : ll_P L xs 232 470 = some (.inl (lo_push 471 (.int 2))) := (P_232 L xs 470).trans rfl
set_option maxRecDepth 100000 in
theorem p_232_471 (L : Nat) (xs : Nat → Int32) : ll_P L xs 232 471 = some (.inl (lo_bin 472 (fun x y => x + y))) := (P_232 L xs 471).trans rfl
set_option maxRecDepth 100000 in
theorem p_232_472 (L : Nat) (xs : Nat → Int32) : ll_P L xs 232 472 = some (.inl (lo_sld 473 L xs)) := (P_232 L xs 472).trans rfl
set_option maxRecDepth 100000 in
theorem p_232_473 (L : Nat) (xs : Nat → Int32) : ll_P L xs 232 473 = some (.inr (.inl (124, 3, 476))) := (P_232 L xs 473).trans rfl
set_option maxRecDepth 100000 in
theorem p_232_476 (L : Nat) (xs : Nat → Int32) : ll_P L xs 232 476 = some (.inl (lo_aload 477 2)) := (P_232 L xs 476).trans rfl
set_option maxRecDepth 100000 in
theorem p_232_477 (L : Nat) (xs : Nat → Int32) : ll_P L xs 232 477 = some (.inl (lo_aload 478 0)) := (P_232 L xs 477).trans rfl
set_option maxRecDepth 100000 in
theorem p_232_478 (L : Nat) (xs : Nat → Int32) : ll_P L xs 232 478 = some (.inl (lo_iload 479 3)) := (P_232 L xs 478).trans rfl
set_option maxRecDepth 100000 in
theorem p_232_479 (L : Nat) (xs : Nat → Int32) : ll_P L xs 232 479 = some (.inl (lo_push 480 (.int 1))) := (P_232 L xs 479).trans rfl
set_option maxRecDepth 100000 in
theorem p_232_480 (L : Nat) (xs : Nat → Int32) : ll_P L xs 232 480 = some (.inl (lo_bin 481 (fun x y => x + y))) := (P_232 L xs 480).trans rfl
set_option maxRecDepth 100000 in
theorem p_232_481 (L : Nat) (xs : Nat → Int32) : ll_P L xs 232 481 = some (.inl (lo_sld 482 L xs)) := (P_232 L xs 481).trans rfl
set_option maxRecDepth 100000 in
theorem p_232_482 (L : Nat) (xs : Nat → Int32) : ll_P L xs 232 482 = some (.inl (lo_aload 483 0)) := (P_232 L xs 482).trans rfl
set_option maxRecDepth 100000 in
theorem p_232_483 (L : Nat) (xs : Nat → Int32) : ll_P L xs 232 483 = some (.inl (lo_iload 484 3)) := (P_232 L xs 483).trans rfl
set_option maxRecDepth 100000 in
theorem p_232_484 (L : Nat) (xs : Nat → Int32) : ll_P L xs 232 484 = some (.inl (lo_push 485 (.int 2))) := (P_232 L xs 484).trans rfl
set_option maxRecDepth 100000 in
theorem p_232_485 (L : Nat) (xs : Nat → Int32) : ll_P L xs 232 485 = some (.inl (lo_bin 486 (fun x y => x + y))) := (P_232 L xs 485).trans rfl
set_option maxRecDepth 100000 in
theorem p_232_486 (L : Nat) (xs : Nat → Int32) : ll_P L xs 232 486 = some (.inl (lo_sld 487 L xs)) := (P_232 L xs 486).trans rfl
set_option maxRecDepth 100000 in
theorem p_232_487 (L : Nat) (xs : Nat → Int32) : ll_P L xs 232 487 = some (.inr (.inl (227, 3, 490))) := (P_232 L xs 487).trans rfl
set_option maxRecDepth 100000 in
theorem p_232_490 (L : Nat) (xs : Nat → Int32) : ll_P L xs 232 490 = some (.inl (lo_cmp 814 493 (fun x y => decide (x = y)))) := (P_232 L xs 490).trans rfl
set_option maxRecDepth 100000 in
theorem p_232_493 (L : Nat) (xs : Nat → Int32) : ll_P L xs 232 493 = some (.inl (lo_push 494 (.int 0))) := (P_232 L xs 493).trans rfl
set_option maxRecDepth 100000 in
theorem p_232_494 (L : Nat) (xs : Nat → Int32) : ll_P L xs 232 494 = some (.inr (.inr 2)) := (P_232 L xs 494).trans rfl
set_option maxRecDepth 100000 in
theorem p_232_495 (L : Nat) (xs : Nat → Int32) : ll_P L xs 232 495 = some (.inl (lo_aload 496 1)) := (P_232 L xs 495).trans rfl
set_option maxRecDepth 100000 in
theorem p_232_496 (L : Nat) (xs : Nat → Int32) : ll_P L xs 232 496 = some (.inl (lo_aload 497 0)) := (P_232 L xs 496).trans rfl
set_option maxRecDepth 100000 in
theorem p_232_497 (L : Nat) (xs : Nat → Int32) : ll_P L xs 232 497 = some (.inl (lo_iload 498 3)) := (P_232 L xs 497).trans rfl
set_option maxRecDepth 100000 in
theorem p_232_498 (L : Nat) (xs : Nat → Int32) : ll_P L xs 232 498 = some (.inl (lo_push 499 (.int 1))) := (P_232 L xs 498).trans rfl
set_option maxRecDepth 100000 in
theorem p_232_499 (L : Nat) (xs : Nat → Int32) : ll_P L xs 232 499 = some (.inl (lo_bin 500 (fun x y => x + y))) := (P_232 L xs 499).trans rfl
set_option maxRecDepth 100000 in
theorem p_232_500 (L : Nat) (xs : Nat → Int32) : ll_P L xs 232 500 = some (.inl (lo_sld 501 L xs)) := (P_232 L xs 500).trans rfl
set_option maxRecDepth 100000 in
theorem p_232_501 (L : Nat) (xs : Nat → Int32) : ll_P L xs 232 501 = some (.inl (lo_aload 502 0)) := (P_232 L xs 501).trans rfl
set_option maxRecDepth 100000 in
theorem p_232_502 (L : Nat) (xs : Nat → Int32) : ll_P L xs 232 502 = some (.inl (lo_iload 503 3)) := (P_232 L xs 502).trans rfl
set_option maxRecDepth 100000 in
theorem p_232_503 (L : Nat) (xs : Nat → Int32) : ll_P L xs 232 503 = some (.inl (lo_push 504 (.int 2))) := (P_232 L xs 503).trans rfl
set_option maxRecDepth 100000 in
theorem p_232_504 (L : Nat) (xs : Nat → Int32) : ll_P L xs 232 504 = some (.inl (lo_bin 505 (fun x y => x + y))) := (P_232 L xs 504).trans rfl
set_option maxRecDepth 100000 in
theorem p_232_505 (L : Nat) (xs : Nat → Int32) : ll_P L xs 232 505 = some (.inl (lo_sld 506 L xs)) := (P_232 L xs 505).trans rfl
set_option maxRecDepth 100000 in
theorem p_232_506 (L : Nat) (xs : Nat → Int32) : ll_P L xs 232 506 = some (.inl (lo_aload 507 0)) := (P_232 L xs 506).trans rfl
set_option maxRecDepth 100000 in
theorem p_232_507 (L : Nat) (xs : Nat → Int32) : ll_P L xs 232 507 = some (.inl (lo_iload 508 3)) := (P_232 L xs 507).trans rfl
set_option maxRecDepth 100000 in
theorem p_232_508 (L : Nat) (xs : Nat → Int32) : ll_P L xs 232 508 = some (.inl (lo_push 509 (.int 3))) := (P_232 L xs 508).trans rfl
set_option maxRecDepth 100000 in
theorem p_232_509 (L : Nat) (xs : Nat → Int32) : ll_P L xs 232 509 = some (.inl (lo_bin 510 (fun x y => x + y))) := (P_232 L xs 509).trans rfl
set_option maxRecDepth 100000 in
theorem p_232_510 (L : Nat) (xs : Nat → Int32) : ll_P L xs 232 510 = some (.inl (lo_sld 511 L xs)) := (P_232 L xs 510).trans rfl
set_option maxRecDepth 100000 in
theorem p_232_511 (L : Nat) (xs : Nat → Int32) : ll_P L xs 232 511 = some (.inr (.inl (125, 4, 514))) := (P_232 L xs 511).trans rfl
set_option maxRecDepth 100000 in
theorem p_232_514 (L : Nat) (xs : Nat → Int32) : ll_P L xs 232 514 = some (.inl (lo_aload 515 2)) := (P_232 L xs 514).trans rfl
set_option maxRecDepth 100000 in
theorem p_232_515 (L : Nat) (xs : Nat → Int32) : ll_P L xs 232 515 = some (.inl (lo_aload 516 0)) := (P_232 L xs 515).trans rfl
set_option maxRecDepth 100000 in
theorem p_232_516 (L : Nat) (xs : Nat → Int32) : ll_P L xs 232 516 = some (.inl (lo_iload 517 3)) := (P_232 L xs 516).trans rfl
set_option maxRecDepth 100000 in
theorem p_232_517 (L : Nat) (xs : Nat → Int32) : ll_P L xs 232 517 = some (.inl (lo_push 518 (.int 1))) := (P_232 L xs 517).trans rfl
set_option maxRecDepth 100000 in
theorem p_232_518 (L : Nat) (xs : Nat → Int32) : ll_P L xs 232 518 = some (.inl (lo_bin 519 (fun x y => x + y))) := (P_232 L xs 518).trans rfl
set_option maxRecDepth 100000 in
theorem p_232_519 (L : Nat) (xs : Nat → Int32) : ll_P L xs 232 519 = some (.inl (lo_sld 520 L xs)) := (P_232 L xs 519).trans rfl
set_option maxRecDepth 100000 in
theorem p_232_520 (L : Nat) (xs : Nat → Int32) : ll_P L xs 232 520 = some (.inl (lo_aload 521 0)) := (P_232 L xs 520).trans rfl
set_option maxRecDepth 100000 in
theorem p_232_521 (L : Nat) (xs : Nat → Int32) : ll_P L xs 232 521 = some (.inl (lo_iload 522 3)) := (P_232 L xs 521).trans rfl
set_option maxRecDepth 100000 in
theorem p_232_522 (L : Nat) (xs : Nat → Int32) : ll_P L xs 232 522 = some (.inl (lo_push 523 (.int 2))) := (P_232 L xs 522).trans rfl
set_option maxRecDepth 100000 in
theorem p_232_523 (L : Nat) (xs : Nat → Int32) : ll_P L xs 232 523 = some (.inl (lo_bin 524 (fun x y => x + y))) := (P_232 L xs 523).trans rfl
set_option maxRecDepth 100000 in
theorem p_232_524 (L : Nat) (xs : Nat → Int32) : ll_P L xs 232 524 = some (.inl (lo_sld 525 L xs)) := (P_232 L xs 524).trans rfl
set_option maxRecDepth 100000 in
theorem p_232_525 (L : Nat) (xs : Nat → Int32) : ll_P L xs 232 525 = some (.inl (lo_aload 526 0)) := (P_232 L xs 525).trans rfl
set_option maxRecDepth 100000 in
theorem p_232_526 (L : Nat) (xs : Nat → Int32) : ll_P L xs 232 526 = some (.inl (lo_iload 527 3)) := (P_232 L xs 526).trans rfl
set_option maxRecDepth 100000 in
theorem p_232_527 (L : Nat) (xs : Nat → Int32) : ll_P L xs 232 527 = some (.inl (lo_push 528 (.int 3))) := (P_232 L xs 527).trans rfl
set_option maxRecDepth 100000 in
theorem p_232_528 (L : Nat) (xs : Nat → Int32) : ll_P L xs 232 528 = some (.inl (lo_bin 529 (fun x y => x + y))) := (P_232 L xs 528).trans rfl
set_option maxRecDepth 100000 in
theorem p_232_529 (L : Nat) (xs : Nat → Int32) : ll_P L xs 232 529 = some (.inl (lo_sld 530 L xs)) := (P_232 L xs 529).trans rfl
set_option maxRecDepth 100000 in
theorem p_232_530 (L : Nat) (xs : Nat → Int32) : ll_P L xs 232 530 = some (.inr (.inl (228, 4, 533))) := (P_232 L xs 530).trans rfl
set_option maxRecDepth 100000 in
theorem p_232_533 (L : Nat) (xs : Nat → Int32) : ll_P L xs 232 533 = some (.inl (lo_cmp 814 536 (fun x y => decide (x = y)))) := (P_232 L xs 533).trans rfl
set_option maxRecDepth 100000 in
theorem p_232_536 (L : Nat) (xs : Nat → Int32) : ll_P L xs 232 536 = some (.inl (lo_push 537 (.int 0))) := (P_232 L xs 536).trans rfl
set_option maxRecDepth 100000 in
theorem p_232_537 (L : Nat) (xs : Nat → Int32) : ll_P L xs 232 537 = some (.inr (.inr 2)) := (P_232 L xs 537).trans rfl
set_option maxRecDepth 100000 in
theorem p_232_538 (L : Nat) (xs : Nat → Int32) : ll_P L xs 232 538 = some (.inl (lo_aload 539 1)) := (P_232 L xs 538).trans rfl
set_option maxRecDepth 100000 in
theorem p_232_539 (L : Nat) (xs : Nat → Int32) : ll_P L xs 232 539 = some (.inr (.inl (126, 1, 542))) := (P_232 L xs 539).trans rfl
set_option maxRecDepth 100000 in
theorem p_232_542 (L : Nat) (xs : Nat → Int32) : ll_P L xs 232 542 = some (.inl (lo_aload 543 2)) := (P_232 L xs 542).trans rfl
set_option maxRecDepth 100000 in
theorem p_232_543 (L : Nat) (xs : Nat → Int32) : ll_P L xs 232 543 = some (.inr (.inl (191, 1, 546))) := (P_232 L xs 543).trans rfl
set_option maxRecDepth 100000 in
theorem p_232_546 (L : Nat) (xs : Nat → Int32) : ll_P L xs 232 546 = some (.inl (lo_cmp 814 549 (fun x y => decide (x = y)))) := (P_232 L xs 546).trans rfl
set_option maxRecDepth 100000 in
theorem p_232_549 (L : Nat) (xs : Nat → Int32) : ll_P L xs 232 549 = some (.inl (lo_push 550 (.int 0))) := (P_232 L xs 549).trans rfl
set_option maxRecDepth 100000 in
theorem p_232_550 (L : Nat) (xs : Nat → Int32) : ll_P L xs 232 550 = some (.inr (.inr 2)) := (P_232 L xs 550).trans rfl
set_option maxRecDepth 100000 in
theorem p_232_551 (L : Nat) (xs : Nat → Int32) : ll_P L xs 232 551 = some (.inl (lo_aload 552 1)) := (P_232 L xs 551).trans rfl
set_option maxRecDepth 100000 in
theorem p_232_552 (L : Nat) (xs : Nat → Int32) : ll_P L xs 232 552 = some (.inl (lo_aload 553 0)) := (P_232 L xs 552).trans rfl
set_option maxRecDepth 100000 in
theorem p_232_553 (L : Nat) (xs : Nat → Int32) : ll_P L xs 232 553 = some (.inl (lo_iload 554 3)) := (P_232 L xs 553).trans rfl
set_option maxRecDepth 100000 in
theorem p_232_554 (L : Nat) (xs : Nat → Int32) : ll_P L xs 232 554 = some (.inl (lo_push 555 (.int 1))) := (P_232 L xs 554).trans rfl
set_option maxRecDepth 100000 in
theorem p_232_555 (L : Nat) (xs : Nat → Int32) : ll_P L xs 232 555 = some (.inl (lo_bin 556 (fun x y => x + y))) := (P_232 L xs 555).trans rfl
set_option maxRecDepth 100000 in
theorem p_232_556 (L : Nat) (xs : Nat → Int32) : ll_P L xs 232 556 = some (.inl (lo_sld 557 L xs)) := (P_232 L xs 556).trans rfl
set_option maxRecDepth 100000 in
theorem p_232_557 (L : Nat) (xs : Nat → Int32) : ll_P L xs 232 557 = some (.inr (.inl (127, 2, 560))) := (P_232 L xs 557).trans rfl
set_option maxRecDepth 100000 in
theorem p_232_560 (L : Nat) (xs : Nat → Int32) : ll_P L xs 232 560 = some (.inl (lo_aload 561 2)) := (P_232 L xs 560).trans rfl
set_option maxRecDepth 100000 in
theorem p_232_561 (L : Nat) (xs : Nat → Int32) : ll_P L xs 232 561 = some (.inl (lo_aload 562 0)) := (P_232 L xs 561).trans rfl
set_option maxRecDepth 100000 in
theorem p_232_562 (L : Nat) (xs : Nat → Int32) : ll_P L xs 232 562 = some (.inl (lo_iload 563 3)) := (P_232 L xs 562).trans rfl
set_option maxRecDepth 100000 in
theorem p_232_563 (L : Nat) (xs : Nat → Int32) : ll_P L xs 232 563 = some (.inl (lo_push 564 (.int 1))) := (P_232 L xs 563).trans rfl
set_option maxRecDepth 100000 in
theorem p_232_564 (L : Nat) (xs : Nat → Int32) : ll_P L xs 232 564 = some (.inl (lo_bin 565 (fun x y => x + y))) := (P_232 L xs 564).trans rfl
set_option maxRecDepth 100000 in
theorem p_232_565 (L : Nat) (xs : Nat → Int32) : ll_P L xs 232 565 = some (.inl (lo_sld 566 L xs)) := (P_232 L xs 565).trans rfl
set_option maxRecDepth 100000 in
theorem p_232_566 (L : Nat) (xs : Nat → Int32) : ll_P L xs 232 566 = some (.inr (.inl (196, 2, 569))) := (P_232 L xs 566).trans rfl
set_option maxRecDepth 100000 in
theorem p_232_569 (L : Nat) (xs : Nat → Int32) : ll_P L xs 232 569 = some (.inl (lo_cmp 814 572 (fun x y => decide (x = y)))) := (P_232 L xs 569).trans rfl
set_option maxRecDepth 100000 in
theorem p_232_572 (L : Nat) (xs : Nat → Int32) : ll_P L xs 232 572 = some (.inl (lo_push 573 (.int 0))) := (P_232 L xs 572).trans rfl
set_option maxRecDepth 100000 in
theorem p_232_573 (L : Nat) (xs : Nat → Int32) : ll_P L xs 232 573 = some (.inr (.inr 2)) := (P_232 L xs 573).trans rfl
set_option maxRecDepth 100000 in
theorem p_232_574 (L : Nat) (xs : Nat → Int32) : ll_P L xs 232 574 = some (.inl (lo_aload 575 1)) := (P_232 L xs 574).trans rfl
set_option maxRecDepth 100000 in
theorem p_232_575 (L : Nat) (xs : Nat → Int32) : ll_P L xs 232 575 = some (.inl (lo_aload 576 0)) := (P_232 L xs 575).trans rfl
set_option maxRecDepth 100000 in
theorem p_232_576 (L : Nat) (xs : Nat → Int32) : ll_P L xs 232 576 = some (.inl (lo_iload 577 3)) := (P_232 L xs 576).trans rfl
set_option maxRecDepth 100000 in
theorem p_232_577 (L : Nat) (xs : Nat → Int32) : ll_P L xs 232 577 = some (.inl (lo_push 578 (.int 1))) := (P_232 L xs 577).trans rfl
set_option maxRecDepth 100000 in
theorem p_232_578 (L : Nat) (xs : Nat → Int32) : ll_P L xs 232 578 = some (.inl (lo_bin 579 (fun x y => x + y))) := (P_232 L xs 578).trans rfl
set_option maxRecDepth 100000 in
theorem p_232_579 (L : Nat) (xs : Nat → Int32) : ll_P L xs 232 579 = some (.inl (lo_sld 580 L xs)) := (P_232 L xs 579).trans rfl
set_option maxRecDepth 100000 in
theorem p_232_580 (L : Nat) (xs : Nat → Int32) : ll_P L xs 232 580 = some (.inr (.inl (128, 2, 583))) := (P_232 L xs 580).trans rfl
set_option maxRecDepth 100000 in
theorem p_232_583 (L : Nat) (xs : Nat → Int32) : ll_P L xs 232 583 = some (.inl (lo_aload 584 2)) := (P_232 L xs 583).trans rfl
set_option maxRecDepth 100000 in
theorem p_232_584 (L : Nat) (xs : Nat → Int32) : ll_P L xs 232 584 = some (.inl (lo_aload 585 0)) := (P_232 L xs 584).trans rfl
set_option maxRecDepth 100000 in
theorem p_232_585 (L : Nat) (xs : Nat → Int32) : ll_P L xs 232 585 = some (.inl (lo_iload 586 3)) := (P_232 L xs 585).trans rfl
set_option maxRecDepth 100000 in
theorem p_232_586 (L : Nat) (xs : Nat → Int32) : ll_P L xs 232 586 = some (.inl (lo_push 587 (.int 1))) := (P_232 L xs 586).trans rfl
set_option maxRecDepth 100000 in
theorem p_232_587 (L : Nat) (xs : Nat → Int32) : ll_P L xs 232 587 = some (.inl (lo_bin 588 (fun x y => x + y))) := (P_232 L xs 587).trans rfl
set_option maxRecDepth 100000 in
theorem p_232_588 (L : Nat) (xs : Nat → Int32) : ll_P L xs 232 588 = some (.inl (lo_sld 589 L xs)) := (P_232 L xs 588).trans rfl
set_option maxRecDepth 100000 in
theorem p_232_589 (L : Nat) (xs : Nat → Int32) : ll_P L xs 232 589 = some (.inr (.inl (202, 2, 592))) := (P_232 L xs 589).trans rfl
set_option maxRecDepth 100000 in
theorem p_232_592 (L : Nat) (xs : Nat → Int32) : ll_P L xs 232 592 = some (.inl (lo_cmp 814 595 (fun x y => decide (x = y)))) := (P_232 L xs 592).trans rfl
set_option maxRecDepth 100000 in
theorem p_232_595 (L : Nat) (xs : Nat → Int32) : ll_P L xs 232 595 = some (.inl (lo_push 596 (.int 0))) := (P_232 L xs 595).trans rfl
set_option maxRecDepth 100000 in
theorem p_232_596 (L : Nat) (xs : Nat → Int32) : ll_P L xs 232 596 = some (.inr (.inr 2)) := (P_232 L xs 596).trans rfl
set_option maxRecDepth 100000 in
theorem p_232_597 (L : Nat) (xs : Nat → Int32) : ll_P L xs 232 597 = some (.inl (lo_aload 598 1)) := (P_232 L xs 597).trans rfl
set_option maxRecDepth 100000 in
theorem p_232_598 (L : Nat) (xs : Nat → Int32) : ll_P L xs 232 598 = some (.inl (lo_aload 599 0)) := (P_232 L xs 598).trans rfl
set_option maxRecDepth 100000 in
theorem p_232_599 (L : Nat) (xs : Nat → Int32) : ll_P L xs 232 599 = some (.inl (lo_iload 600 3)) := (P_232 L xs 599).trans rfl
set_option maxRecDepth 100000 in
theorem p_232_600 (L : Nat) (xs : Nat → Int32) : ll_P L xs 232 600 = some (.inl (lo_push 601 (.int 1))) := (P_232 L xs 600).trans rfl
set_option maxRecDepth 100000 in
theorem p_232_601 (L : Nat) (xs : Nat → Int32) : ll_P L xs 232 601 = some (.inl (lo_bin 602 (fun x y => x + y))) := (P_232 L xs 601).trans rfl
set_option maxRecDepth 100000 in
theorem p_232_602 (L : Nat) (xs : Nat → Int32) : ll_P L xs 232 602 = some (.inl (lo_sld 603 L xs)) := (P_232 L xs 602).trans rfl
set_option maxRecDepth 100000 in
theorem p_232_603 (L : Nat) (xs : Nat → Int32) : ll_P L xs 232 603 = some (.inl (lo_aload 604 0)) := (P_232 L xs 603).trans rfl
set_option maxRecDepth 100000 in
theorem p_232_604 (L : Nat) (xs : Nat → Int32) : ll_P L xs 232 604 = some (.inl (lo_iload 605 3)) := (P_232 L xs 604).trans rfl
set_option maxRecDepth 100000 in
theorem p_232_605 (L : Nat) (xs : Nat → Int32) : ll_P L xs 232 605 = some (.inl (lo_push 606 (.int 2))) := (P_232 L xs 605).trans rfl
set_option maxRecDepth 100000 in
theorem p_232_606 (L : Nat) (xs : Nat → Int32) : ll_P L xs 232 606 = some (.inl (lo_bin 607 (fun x y => x + y))) := (P_232 L xs 606).trans rfl
set_option maxRecDepth 100000 in
theorem p_232_607 (L : Nat) (xs : Nat → Int32) : ll_P L xs 232 607 = some (.inl (lo_sld 608 L xs)) := (P_232 L xs 607).trans rfl
set_option maxRecDepth 100000 in
theorem p_232_608 (L : Nat) (xs : Nat → Int32) : ll_P L xs 232 608 = some (.inr (.inl (129, 3, 611))) := (P_232 L xs 608).trans rfl
set_option maxRecDepth 100000 in
theorem p_232_611 (L : Nat) (xs : Nat → Int32) : ll_P L xs 232 611 = some (.inl (lo_aload 612 2)) := (P_232 L xs 611).trans rfl
set_option maxRecDepth 100000 in
theorem p_232_612 (L : Nat) (xs : Nat → Int32) : ll_P L xs 232 612 = some (.inl (lo_aload 613 0)) := (P_232 L xs 612).trans rfl
set_option maxRecDepth 100000 in
theorem p_232_613 (L : Nat) (xs : Nat → Int32) : ll_P L xs 232 613 = some (.inl (lo_iload 614 3)) := (P_232 L xs 613).trans rfl
set_option maxRecDepth 100000 in
theorem p_232_614 (L : Nat) (xs : Nat → Int32) : ll_P L xs 232 614 = some (.inl (lo_push 615 (.int 1))) := (P_232 L xs 614).trans rfl
set_option maxRecDepth 100000 in
theorem p_232_615 (L : Nat) (xs : Nat → Int32) : ll_P L xs 232 615 = some (.inl (lo_bin 616 (fun x y => x + y))) := (P_232 L xs 615).trans rfl
set_option maxRecDepth 100000 in
theorem p_232_616 (L : Nat) (xs : Nat → Int32) : ll_P L xs 232 616 = some (.inl (lo_sld 617 L xs)) := (P_232 L xs 616).trans rfl
set_option maxRecDepth 100000 in
theorem p_232_617 (L : Nat) (xs : Nat → Int32) : ll_P L xs 232 617 = some (.inl (lo_aload 618 0)) := (P_232 L xs 617).trans rfl
set_option maxRecDepth 100000 in
theorem p_232_618 (L : Nat) (xs : Nat → Int32) : ll_P L xs 232 618 = some (.inl (lo_iload 619 3)) := (P_232 L xs 618).trans rfl
set_option maxRecDepth 100000 in
theorem p_232_619 (L : Nat) (xs : Nat → Int32) : ll_P L xs 232 619 = some (.inl (lo_push 620 (.int 2))) := (P_232 L xs 619).trans rfl
set_option maxRecDepth 100000 in
theorem p_232_620 (L : Nat) (xs : Nat → Int32) : ll_P L xs 232 620 = some (.inl (lo_bin 621 (fun x y => x + y))) := (P_232 L xs 620).trans rfl
set_option maxRecDepth 100000 in
theorem p_232_621 (L : Nat) (xs : Nat → Int32) : ll_P L xs 232 621 = some (.inl (lo_sld 622 L xs)) := (P_232 L xs 621).trans rfl
set_option maxRecDepth 100000 in
theorem p_232_622 (L : Nat) (xs : Nat → Int32) : ll_P L xs 232 622 = some (.inr (.inl (197, 3, 625))) := (P_232 L xs 622).trans rfl
set_option maxRecDepth 100000 in
theorem p_232_625 (L : Nat) (xs : Nat → Int32) : ll_P L xs 232 625 = some (.inl (lo_cmp 814 628 (fun x y => decide (x = y)))) := (P_232 L xs 625).trans rfl
set_option maxRecDepth 100000 in
theorem p_232_628 (L : Nat) (xs : Nat → Int32) : ll_P L xs 232 628 = some (.inl (lo_push 629 (.int 0))) := (P_232 L xs 628).trans rfl
set_option maxRecDepth 100000 in
theorem p_232_629 (L : Nat) (xs : Nat → Int32) : ll_P L xs 232 629 = some (.inr (.inr 2)) := (P_232 L xs 629).trans rfl
set_option maxRecDepth 100000 in
theorem p_232_630 (L : Nat) (xs : Nat → Int32) : ll_P L xs 232 630 = some (.inl (lo_aload 631 1)) := (P_232 L xs 630).trans rfl
set_option maxRecDepth 100000 in
theorem p_232_631 (L : Nat) (xs : Nat → Int32) : ll_P L xs 232 631 = some (.inl (lo_aload 632 0)) := (P_232 L xs 631).trans rfl
set_option maxRecDepth 100000 in
theorem p_232_632 (L : Nat) (xs : Nat → Int32) : ll_P L xs 232 632 = some (.inl (lo_iload 633 3)) := (P_232 L xs 632).trans rfl
set_option maxRecDepth 100000 in
theorem p_232_633 (L : Nat) (xs : Nat → Int32) : ll_P L xs 232 633 = some (.inl (lo_push 634 (.int 1))) := (P_232 L xs 633).trans rfl
set_option maxRecDepth 100000 in
theorem p_232_634 (L : Nat) (xs : Nat → Int32) : ll_P L xs 232 634 = some (.inl (lo_bin 635 (fun x y => x + y))) := (P_232 L xs 634).trans rfl
set_option maxRecDepth 100000 in
theorem p_232_635 (L : Nat) (xs : Nat → Int32) : ll_P L xs 232 635 = some (.inl (lo_sld 636 L xs)) := (P_232 L xs 635).trans rfl
set_option maxRecDepth 100000 in
theorem p_232_636 (L : Nat) (xs : Nat → Int32) : ll_P L xs 232 636 = some (.inl (lo_aload 637 0)) := (P_232 L xs 636).trans rfl
set_option maxRecDepth 100000 in
theorem p_232_637 (L : Nat) (xs : Nat → Int32) : ll_P L xs 232 637 = some (.inl (lo_iload 638 3)) := (P_232 L xs 637).trans rfl
set_option maxRecDepth 100000 in
theorem p_232_638 (L : Nat) (xs : Nat → Int32) : ll_P L xs 232 638 = some (.inl (lo_push 639 (.int 2))) := (P_232 L xs 638).trans rfl
set_option maxRecDepth 100000 in
theorem p_232_639 (L : Nat) (xs : Nat → Int32) : ll_P L xs 232 639 = some (.inl (lo_bin 640 (fun x y => x + y))) := (P_232 L xs 639).trans rfl
set_option maxRecDepth 100000 in
theorem p_232_640 (L : Nat) (xs : Nat → Int32) : ll_P L xs 232 640 = some (.inl (lo_sld 641 L xs)) := (P_232 L xs 640).trans rfl
set_option maxRecDepth 100000 in
theorem p_232_641 (L : Nat) (xs : Nat → Int32) : ll_P L xs 232 641 = some (.inl (lo_aload 642 0)) := (P_232 L xs 641).trans rfl
set_option maxRecDepth 100000 in
theorem p_232_642 (L : Nat) (xs : Nat → Int32) : ll_P L xs 232 642 = some (.inl (lo_iload 643 3)) := (P_232 L xs 642).trans rfl
set_option maxRecDepth 100000 in
theorem p_232_643 (L : Nat) (xs : Nat → Int32) : ll_P L xs 232 643 = some (.inl (lo_push 644 (.int 3))) := (P_232 L xs 643).trans rfl
set_option maxRecDepth 100000 in
theorem p_232_644 (L : Nat) (xs : Nat → Int32) : ll_P L xs 232 644 = some (.inl (lo_bin 645 (fun x y => x + y))) := (P_232 L xs 644).trans rfl
set_option maxRecDepth 100000 in
theorem p_232_645 (L : Nat) (xs : Nat → Int32) : ll_P L xs 232 645 = some (.inl (lo_sld 646 L xs)) := (P_232 L xs 645).trans rfl
set_option maxRecDepth 100000 in
theorem p_232_646 (L : Nat) (xs : Nat → Int32) : ll_P L xs 232 646 = some (.inr (.inl (130, 4, 649))) := (P_232 L xs 646).trans rfl
set_option maxRecDepth 100000 in
theorem p_232_649 (L : Nat) (xs : Nat → Int32) : ll_P L xs 232 649 = some (.inl (lo_aload 650 2)) := (P_232 L xs 649).trans rfl
set_option maxRecDepth 100000 in
theorem p_232_650 (L : Nat) (xs : Nat → Int32) : ll_P L xs 232 650 = some (.inl (lo_aload 651 0)) := (P_232 L xs 650).trans rfl
set_option maxRecDepth 100000 in
theorem p_232_651 (L : Nat) (xs : Nat → Int32) : ll_P L xs 232 651 = some (.inl (lo_iload 652 3)) := (P_232 L xs 651).trans rfl
set_option maxRecDepth 100000 in
theorem p_232_652 (L : Nat) (xs : Nat → Int32) : ll_P L xs 232 652 = some (.inl (lo_push 653 (.int 1))) := (P_232 L xs 652).trans rfl
set_option maxRecDepth 100000 in
theorem p_232_653 (L : Nat) (xs : Nat → Int32) : ll_P L xs 232 653 = some (.inl (lo_bin 654 (fun x y => x + y))) := (P_232 L xs 653).trans rfl
set_option maxRecDepth 100000 in
theorem p_232_654 (L : Nat) (xs : Nat → Int32) : ll_P L xs 232 654 = some (.inl (lo_sld 655 L xs)) := (P_232 L xs 654).trans rfl
set_option maxRecDepth 100000 in
theorem p_232_655 (L : Nat) (xs : Nat → Int32) : ll_P L xs 232 655 = some (.inl (lo_aload 656 0)) := (P_232 L xs 655).trans rfl
set_option maxRecDepth 100000 in
theorem p_232_656 (L : Nat) (xs : Nat → Int32) : ll_P L xs 232 656 = some (.inl (lo_iload 657 3)) := (P_232 L xs 656).trans rfl
set_option maxRecDepth 100000 in
theorem p_232_657 (L : Nat) (xs : Nat → Int32) : ll_P L xs 232 657 = some (.inl (lo_push 658 (.int 2))) := (P_232 L xs 657).trans rfl
set_option maxRecDepth 100000 in
theorem p_232_658 (L : Nat) (xs : Nat → Int32) : ll_P L xs 232 658 = some (.inl (lo_bin 659 (fun x y => x + y))) := (P_232 L xs 658).trans rfl
set_option maxRecDepth 100000 in
theorem p_232_659 (L : Nat) (xs : Nat → Int32) : ll_P L xs 232 659 = some (.inl (lo_sld 660 L xs)) := (P_232 L xs 659).trans rfl
set_option maxRecDepth 100000 in
theorem p_232_660 (L : Nat) (xs : Nat → Int32) : ll_P L xs 232 660 = some (.inl (lo_aload 661 0)) := (P_232 L xs 660).trans rfl
set_option maxRecDepth 100000 in
theorem p_232_661 (L : Nat) (xs : Nat → Int32) : ll_P L xs 232 661 = some (.inl (lo_iload 662 3)) := (P_232 L xs 661).trans rfl
set_option maxRecDepth 100000 in
theorem p_232_662 (L : Nat) (xs : Nat → Int32) : ll_P L xs 232 662 = some (.inl (lo_push 663 (.int 3))) := (P_232 L xs 662).trans rfl
set_option maxRecDepth 100000 in
theorem p_232_663 (L : Nat) (xs : Nat → Int32) : ll_P L xs 232 663 = some (.inl (lo_bin 664 (fun x y => x + y))) := (P_232 L xs 663).trans rfl
set_option maxRecDepth 100000 in
theorem p_232_664 (L : Nat) (xs : Nat → Int32) : ll_P L xs 232 664 = some (.inl (lo_sld 665 L xs)) := (P_232 L xs 664).trans rfl
set_option maxRecDepth 100000 in
theorem p_232_665 (L : Nat) (xs : Nat → Int32) : ll_P L xs 232 665 = some (.inr (.inl (199, 4, 668))) := (P_232 L xs 665).trans rfl
set_option maxRecDepth 100000 in
theorem p_232_668 (L : Nat) (xs : Nat → Int32) : ll_P L xs 232 668 = some (.inl (lo_cmp 814 671 (fun x y => decide (x = y)))) := (P_232 L xs 668).trans rfl
set_option maxRecDepth 100000 in
theorem p_232_671 (L : Nat) (xs : Nat → Int32) : ll_P L xs 232 671 = some (.inl (lo_push 672 (.int 0))) := (P_232 L xs 671).trans rfl
set_option maxRecDepth 100000 in
theorem p_232_672 (L : Nat) (xs : Nat → Int32) : ll_P L xs 232 672 = some (.inr (.inr 2)) := (P_232 L xs 672).trans rfl
set_option maxRecDepth 100000 in
theorem p_232_673 (L : Nat) (xs : Nat → Int32) : ll_P L xs 232 673 = some (.inl (lo_aload 674 1)) := (P_232 L xs 673).trans rfl
set_option maxRecDepth 100000 in
theorem p_232_674 (L : Nat) (xs : Nat → Int32) : ll_P L xs 232 674 = some (.inr (.inl (131, 1, 677))) := (P_232 L xs 674).trans rfl
set_option maxRecDepth 100000 in
theorem p_232_677 (L : Nat) (xs : Nat → Int32) : ll_P L xs 232 677 = some (.inl (lo_aload 678 2)) := (P_232 L xs 677).trans rfl
set_option maxRecDepth 100000 in
theorem p_232_678 (L : Nat) (xs : Nat → Int32) : ll_P L xs 232 678 = some (.inr (.inl (200, 1, 681))) := (P_232 L xs 678).trans rfl
set_option maxRecDepth 100000 in
theorem p_232_681 (L : Nat) (xs : Nat → Int32) : ll_P L xs 232 681 = some (.inl (lo_cmp 814 684 (fun x y => decide (x = y)))) := (P_232 L xs 681).trans rfl
set_option maxRecDepth 100000 in
theorem p_232_684 (L : Nat) (xs : Nat → Int32) : ll_P L xs 232 684 = some (.inl (lo_push 685 (.int 0))) := (P_232 L xs 684).trans rfl
set_option maxRecDepth 100000 in
theorem p_232_685 (L : Nat) (xs : Nat → Int32) : ll_P L xs 232 685 = some (.inr (.inr 2)) := (P_232 L xs 685).trans rfl
set_option maxRecDepth 100000 in
theorem p_232_686 (L : Nat) (xs : Nat → Int32) : ll_P L xs 232 686 = some (.inl (lo_aload 687 1)) := (P_232 L xs 686).trans rfl
set_option maxRecDepth 100000 in
theorem p_232_687 (L : Nat) (xs : Nat → Int32) : ll_P L xs 232 687 = some (.inr (.inl (132, 1, 690))) := (P_232 L xs 687).trans rfl
set_option maxRecDepth 100000 in
theorem p_232_690 (L : Nat) (xs : Nat → Int32) : ll_P L xs 232 690 = some (.inl (lo_aload 691 2)) := (P_232 L xs 690).trans rfl
set_option maxRecDepth 100000 in
theorem p_232_691 (L : Nat) (xs : Nat → Int32) : ll_P L xs 232 691 = some (.inr (.inl (206, 1, 694))) := (P_232 L xs 691).trans rfl
set_option maxRecDepth 100000 in
theorem p_232_694 (L : Nat) (xs : Nat → Int32) : ll_P L xs 232 694 = some (.inl (lo_cmp 814 697 (fun x y => decide (x = y)))) := (P_232 L xs 694).trans rfl
set_option maxRecDepth 100000 in
theorem p_232_697 (L : Nat) (xs : Nat → Int32) : ll_P L xs 232 697 = some (.inl (lo_push 698 (.int 0))) := (P_232 L xs 697).trans rfl
set_option maxRecDepth 100000 in
theorem p_232_698 (L : Nat) (xs : Nat → Int32) : ll_P L xs 232 698 = some (.inr (.inr 2)) := (P_232 L xs 698).trans rfl
set_option maxRecDepth 100000 in
theorem p_232_699 (L : Nat) (xs : Nat → Int32) : ll_P L xs 232 699 = some (.inl (lo_aload 700 1)) := (P_232 L xs 699).trans rfl
set_option maxRecDepth 100000 in
theorem p_232_700 (L : Nat) (xs : Nat → Int32) : ll_P L xs 232 700 = some (.inl (lo_aload 701 0)) := (P_232 L xs 700).trans rfl
set_option maxRecDepth 100000 in
theorem p_232_701 (L : Nat) (xs : Nat → Int32) : ll_P L xs 232 701 = some (.inl (lo_iload 702 3)) := (P_232 L xs 701).trans rfl
set_option maxRecDepth 100000 in
theorem p_232_702 (L : Nat) (xs : Nat → Int32) : ll_P L xs 232 702 = some (.inl (lo_push 703 (.int 1))) := (P_232 L xs 702).trans rfl
set_option maxRecDepth 100000 in
theorem p_232_703 (L : Nat) (xs : Nat → Int32) : ll_P L xs 232 703 = some (.inl (lo_bin 704 (fun x y => x + y))) := (P_232 L xs 703).trans rfl
set_option maxRecDepth 100000 in
theorem p_232_704 (L : Nat) (xs : Nat → Int32) : ll_P L xs 232 704 = some (.inl (lo_sld 705 L xs)) := (P_232 L xs 704).trans rfl
set_option maxRecDepth 100000 in
theorem p_232_705 (L : Nat) (xs : Nat → Int32) : ll_P L xs 232 705 = some (.inr (.inl (133, 2, 708))) := (P_232 L xs 705).trans rfl
set_option maxRecDepth 100000 in
theorem p_232_708 (L : Nat) (xs : Nat → Int32) : ll_P L xs 232 708 = some (.inl (lo_aload 709 2)) := (P_232 L xs 708).trans rfl
set_option maxRecDepth 100000 in
theorem p_232_709 (L : Nat) (xs : Nat → Int32) : ll_P L xs 232 709 = some (.inl (lo_aload 710 0)) := (P_232 L xs 709).trans rfl
set_option maxRecDepth 100000 in
theorem p_232_710 (L : Nat) (xs : Nat → Int32) : ll_P L xs 232 710 = some (.inl (lo_iload 711 3)) := (P_232 L xs 710).trans rfl
set_option maxRecDepth 100000 in
theorem p_232_711 (L : Nat) (xs : Nat → Int32) : ll_P L xs 232 711 = some (.inl (lo_push 712 (.int 1))) := (P_232 L xs 711).trans rfl
set_option maxRecDepth 100000 in
theorem p_232_712 (L : Nat) (xs : Nat → Int32) : ll_P L xs 232 712 = some (.inl (lo_bin 713 (fun x y => x + y))) := (P_232 L xs 712).trans rfl
set_option maxRecDepth 100000 in
theorem p_232_713 (L : Nat) (xs : Nat → Int32) : ll_P L xs 232 713 = some (.inl (lo_sld 714 L xs)) := (P_232 L xs 713).trans rfl
set_option maxRecDepth 100000 in
theorem p_232_714 (L : Nat) (xs : Nat → Int32) : ll_P L xs 232 714 = some (.inr (.inl (207, 2, 717))) := (P_232 L xs 714).trans rfl
set_option maxRecDepth 100000 in
theorem p_232_717 (L : Nat) (xs : Nat → Int32) : ll_P L xs 232 717 = some (.inl (lo_cmp 814 720 (fun x y => decide (x = y)))) := (P_232 L xs 717).trans rfl
set_option maxRecDepth 100000 in
theorem p_232_720 (L : Nat) (xs : Nat → Int32) : ll_P L xs 232 720 = some (.inl (lo_push 721 (.int 0))) := (P_232 L xs 720).trans rfl
set_option maxRecDepth 100000 in
theorem p_232_721 (L : Nat) (xs : Nat → Int32) : ll_P L xs 232 721 = some (.inr (.inr 2)) := (P_232 L xs 721).trans rfl
set_option maxRecDepth 100000 in
theorem p_232_722 (L : Nat) (xs : Nat → Int32) : ll_P L xs 232 722 = some (.inl (lo_aload 723 1)) := (P_232 L xs 722).trans rfl
set_option maxRecDepth 100000 in
theorem p_232_723 (L : Nat) (xs : Nat → Int32) : ll_P L xs 232 723 = some (.inr (.inl (134, 1, 726))) := (P_232 L xs 723).trans rfl
set_option maxRecDepth 100000 in
theorem p_232_726 (L : Nat) (xs : Nat → Int32) : ll_P L xs 232 726 = some (.inl (lo_aload 727 2)) := (P_232 L xs 726).trans rfl
set_option maxRecDepth 100000 in
theorem p_232_727 (L : Nat) (xs : Nat → Int32) : ll_P L xs 232 727 = some (.inr (.inl (193, 1, 730))) := (P_232 L xs 727).trans rfl
set_option maxRecDepth 100000 in
theorem p_232_730 (L : Nat) (xs : Nat → Int32) : ll_P L xs 232 730 = some (.inl (lo_cmp 814 733 (fun x y => decide (x = y)))) := (P_232 L xs 730).trans rfl
set_option maxRecDepth 100000 in
theorem p_232_733 (L : Nat) (xs : Nat → Int32) : ll_P L xs 232 733 = some (.inl (lo_push 734 (.int 0))) := (P_232 L xs 733).trans rfl
set_option maxRecDepth 100000 in
theorem p_232_734 (L : Nat) (xs : Nat → Int32) : ll_P L xs 232 734 = some (.inr (.inr 2)) := (P_232 L xs 734).trans rfl
set_option maxRecDepth 100000 in
theorem p_232_735 (L : Nat) (xs : Nat → Int32) : ll_P L xs 232 735 = some (.inl (lo_aload 736 1)) := (P_232 L xs 735).trans rfl
set_option maxRecDepth 100000 in
theorem p_232_736 (L : Nat) (xs : Nat → Int32) : ll_P L xs 232 736 = some (.inl (lo_aload 737 0)) := (P_232 L xs 736).trans rfl
set_option maxRecDepth 100000 in
theorem p_232_737 (L : Nat) (xs : Nat → Int32) : ll_P L xs 232 737 = some (.inl (lo_iload 738 3)) := (P_232 L xs 737).trans rfl
set_option maxRecDepth 100000 in
theorem p_232_738 (L : Nat) (xs : Nat → Int32) : ll_P L xs 232 738 = some (.inl (lo_push 739 (.int 1))) := (P_232 L xs 738).trans rfl
set_option maxRecDepth 100000 in
theorem p_232_739 (L : Nat) (xs : Nat → Int32) : ll_P L xs 232 739 = some (.inl (lo_bin 740 (fun x y => x + y))) := (P_232 L xs 739).trans rfl
set_option maxRecDepth 100000 in
theorem p_232_740 (L : Nat) (xs : Nat → Int32) : ll_P L xs 232 740 = some (.inl (lo_sld 741 L xs)) := (P_232 L xs 740).trans rfl
set_option maxRecDepth 100000 in
theorem p_232_741 (L : Nat) (xs : Nat → Int32) : ll_P L xs 232 741 = some (.inl (lo_aload 742 0)) := (P_232 L xs 741).trans rfl
set_option maxRecDepth 100000 in
theorem p_232_742 (L : Nat) (xs : Nat → Int32) : ll_P L xs 232 742 = some (.inl (lo_iload 743 3)) := (P_232 L xs 742).trans rfl
set_option maxRecDepth 100000 in
theorem p_232_743 (L : Nat) (xs : Nat → Int32) : ll_P L xs 232 743 = some (.inl (lo_push 744 (.int 2))) := (P_232 L xs 743).trans rfl
set_option maxRecDepth 100000 in
theorem p_232_744 (L : Nat) (xs : Nat → Int32) : ll_P L xs 232 744 = some (.inl (lo_bin 745 (fun x y => x + y))) := (P_232 L xs 744).trans rfl
set_option maxRecDepth 100000 in
theorem p_232_745 (L : Nat) (xs : Nat → Int32) : ll_P L xs 232 745 = some (.inl (lo_sld 746 L xs)) := (P_232 L xs 745).trans rfl
set_option maxRecDepth 100000 in
theorem p_232_746 (L : Nat) (xs : Nat → Int32) : ll_P L xs 232 746 = some (.inr (.inl (135, 3, 749))) := (P_232 L xs 746).trans rfl
set_option maxRecDepth 100000 in
theorem p_232_749 (L : Nat) (xs : Nat → Int32) : ll_P L xs 232 749 = some (.inl (lo_aload 750 2)) := (P_232 L xs 749).trans rfl
set_option maxRecDepth 100000 in
theorem p_232_750 (L : Nat) (xs : Nat → Int32) : ll_P L xs 232 750 = some (.inl (lo_aload 751 0)) := (P_232 L xs 750).trans rfl
set_option maxRecDepth 100000 in
theorem p_232_751 (L : Nat) (xs : Nat → Int32) : ll_P L xs 232 751 = some (.inl (lo_iload 752 3)) := (P_232 L xs 751).trans rfl
set_option maxRecDepth 100000 in
theorem p_232_752 (L : Nat) (xs : Nat → Int32) : ll_P L xs 232 752 = some (.inl (lo_push 753 (.int 1))) := (P_232 L xs 752).trans rfl
set_option maxRecDepth 100000 in
theorem p_232_753 (L : Nat) (xs : Nat → Int32) : ll_P L xs 232 753 = some (.inl (lo_bin 754 (fun x y => x + y))) := (P_232 L xs 753).trans rfl
set_option maxRecDepth 100000 in
theorem p_232_754 (L : Nat) (xs : Nat → Int32) : ll_P L xs 232 754 = some (.inl (lo_sld 755 L xs)) := (P_232 L xs 754).trans rfl
set_option maxRecDepth 100000 in
theorem p_232_755 (L : Nat) (xs : Nat → Int32) : ll_P L xs 232 755 = some (.inl (lo_aload 756 0)) := (P_232 L xs 755).trans rfl
set_option maxRecDepth 100000 in
theorem p_232_756 (L : Nat) (xs : Nat → Int32) : ll_P L xs 232 756 = some (.inl (lo_iload 757 3)) := (P_232 L xs 756).trans rfl
set_option maxRecDepth 100000 in
theorem p_232_757 (L : Nat) (xs : Nat → Int32) : ll_P L xs 232 757 = some (.inl (lo_push 758 (.int 2))) := (P_232 L xs 757).trans rfl
set_option maxRecDepth 100000 in
theorem p_232_758 (L : Nat) (xs : Nat → Int32) : ll_P L xs 232 758 = some (.inl (lo_bin 759 (fun x y => x + y))) := (P_232 L xs 758).trans rfl
set_option maxRecDepth 100000 in
theorem p_232_759 (L : Nat) (xs : Nat → Int32) : ll_P L xs 232 759 = some (.inl (lo_sld 760 L xs)) := (P_232 L xs 759).trans rfl
set_option maxRecDepth 100000 in
theorem p_232_760 (L : Nat) (xs : Nat → Int32) : ll_P L xs 232 760 = some (.inr (.inl (195, 3, 763))) := (P_232 L xs 760).trans rfl
set_option maxRecDepth 100000 in
theorem p_232_763 (L : Nat) (xs : Nat → Int32) : ll_P L xs 232 763 = some (.inl (lo_cmp 814 766 (fun x y => decide (x = y)))) := (P_232 L xs 763).trans rfl
set_option maxRecDepth 100000 in
theorem p_232_766 (L : Nat) (xs : Nat → Int32) : ll_P L xs 232 766 = some (.inl (lo_push 767 (.int 0))) := (P_232 L xs 766).trans rfl
set_option maxRecDepth 100000 in
theorem p_232_767 (L : Nat) (xs : Nat → Int32) : ll_P L xs 232 767 = some (.inr (.inr 2)) := (P_232 L xs 767).trans rfl
set_option maxRecDepth 100000 in
theorem p_232_768 (L : Nat) (xs : Nat → Int32) : ll_P L xs 232 768 = some (.inl (lo_aload 769 1)) := (P_232 L xs 768).trans rfl
set_option maxRecDepth 100000 in
theorem p_232_769 (L : Nat) (xs : Nat → Int32) : ll_P L xs 232 769 = some (.inl (lo_aload 770 0)) := (P_232 L xs 769).trans rfl
set_option maxRecDepth 100000 in
theorem p_232_770 (L : Nat) (xs : Nat → Int32) : ll_P L xs 232 770 = some (.inl (lo_iload 771 3)) := (P_232 L xs 770).trans rfl
set_option maxRecDepth 100000 in
theorem p_232_771 (L : Nat) (xs : Nat → Int32) : ll_P L xs 232 771 = some (.inl (lo_push 772 (.int 1))) := (P_232 L xs 771).trans rfl
set_option maxRecDepth 100000 in
theorem p_232_772 (L : Nat) (xs : Nat → Int32) : ll_P L xs 232 772 = some (.inl (lo_bin 773 (fun x y => x + y))) := (P_232 L xs 772).trans rfl
set_option maxRecDepth 100000 in
theorem p_232_773 (L : Nat) (xs : Nat → Int32) : ll_P L xs 232 773 = some (.inl (lo_sld 774 L xs)) := (P_232 L xs 773).trans rfl
set_option maxRecDepth 100000 in
theorem p_232_774 (L : Nat) (xs : Nat → Int32) : ll_P L xs 232 774 = some (.inr (.inl (136, 2, 777))) := (P_232 L xs 774).trans rfl
set_option maxRecDepth 100000 in
theorem p_232_777 (L : Nat) (xs : Nat → Int32) : ll_P L xs 232 777 = some (.inl (lo_aload 778 2)) := (P_232 L xs 777).trans rfl
set_option maxRecDepth 100000 in
theorem p_232_778 (L : Nat) (xs : Nat → Int32) : ll_P L xs 232 778 = some (.inl (lo_aload 779 0)) := (P_232 L xs 778).trans rfl
set_option maxRecDepth 100000 in
theorem p_232_779 (L : Nat) (xs : Nat → Int32) : ll_P L xs 232 779 = some (.inl (lo_iload 780 3)) := (P_232 L xs 779).trans rfl
set_option maxRecDepth 100000 in
theorem p_232_780 (L : Nat) (xs : Nat → Int32) : ll_P L xs 232 780 = some (.inl (lo_push 781 (.int 1))) := (P_232 L xs 780).trans rfl
set_option maxRecDepth 100000 in
theorem p_232_781 (L : Nat) (xs : Nat → Int32) : ll_P L xs 232 781 = some (.inl (lo_bin 782 (fun x y => x + y))) := (P_232 L xs 781).trans rfl
set_option maxRecDepth 100000 in
theorem p_232_782 (L : Nat) (xs : Nat → Int32) : ll_P L xs 232 782 = some (.inl (lo_sld 783 L xs)) := (P_232 L xs 782).trans rfl
set_option maxRecDepth 100000 in
theorem p_232_783 (L : Nat) (xs : Nat → Int32) : ll_P L xs 232 783 = some (.inr (.inl (229, 2, 786))) := (P_232 L xs 783).trans rfl
set_option maxRecDepth 100000 in
theorem p_232_786 (L : Nat) (xs : Nat → Int32) : ll_P L xs 232 786 = some (.inl (lo_cmp 814 789 (fun x y => decide (x = y)))) := (P_232 L xs 786).trans rfl
set_option maxRecDepth 100000 in
theorem p_232_789 (L : Nat) (xs : Nat → Int32) : ll_P L xs 232 789 = some (.inl (lo_push 790 (.int 0))) := (P_232 L xs 789).trans rfl
set_option maxRecDepth 100000 in
theorem p_232_790 (L : Nat) (xs : Nat → Int32) : ll_P L xs 232 790 = some (.inr (.inr 2)) := (P_232 L xs 790).trans rfl
set_option maxRecDepth 100000 in
theorem p_232_791 (L : Nat) (xs : Nat → Int32) : ll_P L xs 232 791 = some (.inl (lo_aload 792 1)) := (P_232 L xs 791).trans rfl
set_option maxRecDepth 100000 in
theorem p_232_792 (L : Nat) (xs : Nat → Int32) : ll_P L xs 232 792 = some (.inl (lo_aload 793 0)) := (P_232 L xs 792).trans rfl
set_option maxRecDepth 100000 in
theorem p_232_793 (L : Nat) (xs : Nat → Int32) : ll_P L xs 232 793 = some (.inl (lo_iload 794 3)) := (P_232 L xs 793).trans rfl
set_option maxRecDepth 100000 in
theorem p_232_794 (L : Nat) (xs : Nat → Int32) : ll_P L xs 232 794 = some (.inl (lo_push 795 (.int 1))) := (P_232 L xs 794).trans rfl
set_option maxRecDepth 100000 in
theorem p_232_795 (L : Nat) (xs : Nat → Int32) : ll_P L xs 232 795 = some (.inl (lo_bin 796 (fun x y => x + y))) := (P_232 L xs 795).trans rfl
set_option maxRecDepth 100000 in
theorem p_232_796 (L : Nat) (xs : Nat → Int32) : ll_P L xs 232 796 = some (.inl (lo_sld 797 L xs)) := (P_232 L xs 796).trans rfl
set_option maxRecDepth 100000 in
theorem p_232_797 (L : Nat) (xs : Nat → Int32) : ll_P L xs 232 797 = some (.inr (.inl (137, 2, 800))) := (P_232 L xs 797).trans rfl
set_option maxRecDepth 100000 in
theorem p_232_800 (L : Nat) (xs : Nat → Int32) : ll_P L xs 232 800 = some (.inl (lo_aload 801 2)) := (P_232 L xs 800).trans rfl
set_option maxRecDepth 100000 in
theorem p_232_801 (L : Nat) (xs : Nat → Int32) : ll_P L xs 232 801 = some (.inl (lo_aload 802 0)) := (P_232 L xs 801).trans rfl
set_option maxRecDepth 100000 in
theorem p_232_802 (L : Nat) (xs : Nat → Int32) : ll_P L xs 232 802 = some (.inl (lo_iload 803 3)) := (P_232 L xs 802).trans rfl
set_option maxRecDepth 100000 in
theorem p_232_803 (L : Nat) (xs : Nat → Int32) : ll_P L xs 232 803 = some (.inl (lo_push 804 (.int 1))) := (P_232 L xs 803).trans rfl
set_option maxRecDepth 100000 in
theorem p_232_804 (L : Nat) (xs : Nat → Int32) : ll_P L xs 232 804 = some (.inl (lo_bin 805 (fun x y => x + y))) := (P_232 L xs 804).trans rfl
set_option maxRecDepth 100000 in
theorem p_232_805 (L : Nat) (xs : Nat → Int32) : ll_P L xs 232 805 = some (.inl (lo_sld 806 L xs)) := (P_232 L xs 805).trans rfl
set_option maxRecDepth 100000 in
theorem p_232_806 (L : Nat) (xs : Nat → Int32) : ll_P L xs 232 806 = some (.inr (.inl (230, 2, 809))) := (P_232 L xs 806).trans rfl
set_option maxRecDepth 100000 in
theorem p_232_809 (L : Nat) (xs : Nat → Int32) : ll_P L xs 232 809 = some (.inl (lo_cmp 814 812 (fun x y => decide (x = y)))) := (P_232 L xs 809).trans rfl
set_option maxRecDepth 100000 in
theorem p_232_812 (L : Nat) (xs : Nat → Int32) : ll_P L xs 232 812 = some (.inl (lo_push 813 (.int 0))) := (P_232 L xs 812).trans rfl
set_option maxRecDepth 100000 in
theorem p_232_813 (L : Nat) (xs : Nat → Int32) : ll_P L xs 232 813 = some (.inr (.inr 2)) := (P_232 L xs 813).trans rfl
set_option maxRecDepth 100000 in
theorem p_232_814 (L : Nat) (xs : Nat → Int32) : ll_P L xs 232 814 = some (.inl (lo_iinc 817 3 5)) := (P_232 L xs 814).trans rfl
set_option maxRecDepth 100000 in
theorem p_232_817 (L : Nat) (xs : Nat → Int32) : ll_P L xs 232 817 = some (.inl (lo_goto 18)) := (P_232 L xs 817).trans rfl
set_option maxRecDepth 100000 in
theorem p_232_820 (L : Nat) (xs : Nat → Int32) : ll_P L xs 232 820 = some (.inl (lo_push 821 (.int 1))) := (P_232 L xs 820).trans rfl
set_option maxRecDepth 100000 in
theorem p_232_821 (L : Nat) (xs : Nat → Int32) : ll_P L xs 232 821 = some (.inr (.inr 2)) := (P_232 L xs 821).trans rfl
theorem b_232_18 {Y : sY} {d : Nat} {s : sT} {K : Option Int32 → sT → Prop} {r1 : Nat} {r2 : Nat} {x3 : Int32} (h : (if ((Int32.ofNat Y.1) - (5 : Int32)) < x3 then K (some (1 : Int32)) s else (inR x3 Y.1 ∧ ((((Y.2.1 (x3).toNatClampNeg) &&& (31 : Int32)) = 0 → (inR (x3 + (1 : Int32)) Y.1 ∧ (inR (x3 + (2 : Int32)) Y.1 ∧ (isO Y r1 10 ∧ tT Y d 114 0 [.ref r1, .long ((((Y.2.1 ((x3 + (1 : Int32))).toNatClampNeg) : Int32).toInt64 <<< (((32 : Int32) : Int32).toInt64 &&& 63)) ||| (((Y.2.1 ((x3 + (2 : Int32))).toNatClampNeg) : Int32).toInt64 &&& (4294967295 : Int64))), .null, .null, .null, .null] [] s (fun r s1 => tT Y (d + 1) 232 168 [.float 0, .ref r1, .ref r2, .int x3] ((r.map Value.int).toList ++ []) s1 K))))) ∧ (((Y.2.1 (x3).toNatClampNeg) &&& (31 : Int32)) = 1 → (inR (x3 + (1 : Int32)) Y.1 ∧ (isO Y r1 10 ∧ tT Y d 115 0 [.ref r1, .int (Y.2.1 ((x3 + (1 : Int32))).toNatClampNeg), .null, .null, .null] [] s (fun r s1 => tT Y (d + 1) 232 206 [.float 0, .ref r1, .ref r2, .int x3] ((r.map Value.int).toList ++ []) s1 K)))) ∧ (((Y.2.1 (x3).toNatClampNeg) &&& (31 : Int32)) = 2 → (isO Y r1 10 ∧ tT Y d 116 0 [.ref r1] [] s (fun r s1 => tT Y (d + 1) 232 224 [.float 0, .ref r1, .ref r2, .int x3] ((r.map Value.int).toList ++ []) s1 K))) ∧ (((Y.2.1 (x3).toNatClampNeg) &&& (31 : Int32)) = 3 → (isO Y r1 10 ∧ tT Y d 117 0 [.ref r1, .null] [] s (fun r s1 => tT Y (d + 1) 232 237 [.float 0, .ref r1, .ref r2, .int x3] ((r.map Value.int).toList ++ []) s1 K))) ∧ (((Y.2.1 (x3).toNatClampNeg) &&& (31 : Int32)) = 4 → (inR (x3 + (1 : Int32)) Y.1 ∧ (inR (x3 + (2 : Int32)) Y.1 ∧ (isO Y r1 10 ∧ tT Y d 118 0 [.ref r1, .int (Y.2.1 ((x3 + (1 : Int32))).toNatClampNeg), .int (Y.2.1 ((x3 + (2 : Int32))).toNatClampNeg)] [] s (fun r s1 => tT Y (d + 1) 232 258 [.float 0, .ref r1, .ref r2, .int x3] ((r.map Value.int).toList ++ []) s1 K))))) ∧ (((Y.2.1 (x3).toNatClampNeg) &&& (31 : Int32)) = 5 → (inR (x3 + (1 : Int32)) Y.1 ∧ (inR (x3 + (2 : Int32)) Y.1 ∧ (inR (x3 + (3 : Int32)) Y.1 ∧ (inR (x3 + (4 : Int32)) Y.1 ∧ (isO Y r1 10 ∧ tT Y d 119 0 [.ref r1, .int (Y.2.1 ((x3 + (1 : Int32))).toNatClampNeg), .int (Y.2.1 ((x3 + (2 : Int32))).toNatClampNeg), .int (Y.2.1 ((x3 + (3 : Int32))).toNatClampNeg), .int (Y.2.1 ((x3 + (4 : Int32))).toNatClampNeg), .null, .null] [] s (fun r s1 => tT Y (d + 1) 232 301 [.float 0, .ref r1, .ref r2, .int x3] ((r.map Value.int).toList ++ []) s1 K))))))) ∧ (((Y.2.1 (x3).toNatClampNeg) &&& (31 : Int32)) = 6 → (inR (x3 + (1 : Int32)) Y.1 ∧ (inR (x3 + (2 : Int32)) Y.1 ∧ (isO Y r1 10 ∧ tT Y d 120 0 [.ref r1, .int (Y.2.1 ((x3 + (1 : Int32))).toNatClampNeg), .int (Y.2.1 ((x3 + (2 : Int32))).toNatClampNeg), .null] [] s (fun r s1 => tT Y (d + 1) 232 344 [.float 0, .ref r1, .ref r2, .int x3] ((r.map Value.int).toList ++ []) s1 K))))) ∧ (((Y.2.1 (x3).toNatClampNeg) &&& (31 : Int32)) = 7 → (inR (x3 + (1 : Int32)) Y.1 ∧ (inR (x3 + (2 : Int32)) Y.1 ∧ (inR (x3 + (3 : Int32)) Y.1 ∧ (isO Y r1 10 ∧ tT Y d 121 0 [.ref r1, .int (Y.2.1 ((x3 + (1 : Int32))).toNatClampNeg), .int (Y.2.1 ((x3 + (2 : Int32))).toNatClampNeg), .int (Y.2.1 ((x3 + (3 : Int32))).toNatClampNeg), .null] [] s (fun r s1 => tT Y (d + 1) 232 382 [.float 0, .ref r1, .ref r2, .int x3] ((r.map Value.int).toList ++ []) s1 K)))))) ∧ (((Y.2.1 (x3).toNatClampNeg) &&& (31 : Int32)) = 8 → (inR (x3 + (1 : Int32)) Y.1 ∧ (inR (x3 + (2 : Int32)) Y.1 ∧ (isO Y r1 10 ∧ tT Y d 122 0 [.ref r1, .int (Y.2.1 ((x3 + (1 : Int32))).toNatClampNeg), .int (Y.2.1 ((x3 + (2 : Int32))).toNatClampNeg)] [] s (fun r s1 => tT Y (d + 1) 232 420 [.float 0, .ref r1, .ref r2, .int x3] ((r.map Value.int).toList ++ []) s1 K))))) ∧ (((Y.2.1 (x3).toNatClampNeg) &&& (31 : Int32)) = 9 → (inR (x3 + (1 : Int32)) Y.1 ∧ (isO Y r1 10 ∧ tT Y d 123 0 [.ref r1, .int (Y.2.1 ((x3 + (1 : Int32))).toNatClampNeg), .null] [] s (fun r s1 => tT Y (d + 1) 232 448 [.float 0, .ref r1, .ref r2, .int x3] ((r.map Value.int).toList ++ []) s1 K)))) ∧ (((Y.2.1 (x3).toNatClampNeg) &&& (31 : Int32)) = 10 → (inR (x3 + (1 : Int32)) Y.1 ∧ (inR (x3 + (2 : Int32)) Y.1 ∧ (isO Y r1 10 ∧ tT Y d 124 0 [.ref r1, .int (Y.2.1 ((x3 + (1 : Int32))).toNatClampNeg), .int (Y.2.1 ((x3 + (2 : Int32))).toNatClampNeg)] [] s (fun r s1 => tT Y (d + 1) 232 476 [.float 0, .ref r1, .ref r2, .int x3] ((r.map Value.int).toList ++ []) s1 K))))) ∧ (((Y.2.1 (x3).toNatClampNeg) &&& (31 : Int32)) = 11 → (inR (x3 + (1 : Int32)) Y.1 ∧ (inR (x3 + (2 : Int32)) Y.1 ∧ (inR (x3 + (3 : Int32)) Y.1 ∧ (isO Y r1 10 ∧ tT Y d 125 0 [.ref r1, .int (Y.2.1 ((x3 + (1 : Int32))).toNatClampNeg), .int (Y.2.1 ((x3 + (2 : Int32))).toNatClampNeg), .int (Y.2.1 ((x3 + (3 : Int32))).toNatClampNeg)] [] s (fun r s1 => tT Y (d + 1) 232 514 [.float 0, .ref r1, .ref r2, .int x3] ((r.map Value.int).toList ++ []) s1 K)))))) ∧ (((Y.2.1 (x3).toNatClampNeg) &&& (31 : Int32)) = 12 → (isO Y r1 10 ∧ tT Y d 126 0 [.ref r1] [] s (fun r s1 => tT Y (d + 1) 232 542 [.float 0, .ref r1, .ref r2, .int x3] ((r.map Value.int).toList ++ []) s1 K))) ∧ (((Y.2.1 (x3).toNatClampNeg) &&& (31 : Int32)) = 13 → (inR (x3 + (1 : Int32)) Y.1 ∧ (isO Y r1 10 ∧ tT Y d 127 0 [.ref r1, .int (Y.2.1 ((x3 + (1 : Int32))).toNatClampNeg), .null] [] s (fun r s1 => tT Y (d + 1) 232 560 [.float 0, .ref r1, .ref r2, .int x3] ((r.map Value.int).toList ++ []) s1 K)))) ∧ (((Y.2.1 (x3).toNatClampNeg) &&& (31 : Int32)) = 14 → (inR (x3 + (1 : Int32)) Y.1 ∧ (isO Y r1 10 ∧ tT Y d 128 0 [.ref r1, .int (Y.2.1 ((x3 + (1 : Int32))).toNatClampNeg), .null] [] s (fun r s1 => tT Y (d + 1) 232 583 [.float 0, .ref r1, .ref r2, .int x3] ((r.map Value.int).toList ++ []) s1 K)))) ∧ (((Y.2.1 (x3).toNatClampNeg) &&& (31 : Int32)) = 15 → (inR (x3 + (1 : Int32)) Y.1 ∧ (inR (x3 + (2 : Int32)) Y.1 ∧ (isO Y r1 10 ∧ tT Y d 129 0 [.ref r1, .int (Y.2.1 ((x3 + (1 : Int32))).toNatClampNeg), .int (Y.2.1 ((x3 + (2 : Int32))).toNatClampNeg), .null] [] s (fun r s1 => tT Y (d + 1) 232 611 [.float 0, .ref r1, .ref r2, .int x3] ((r.map Value.int).toList ++ []) s1 K))))) ∧ (((Y.2.1 (x3).toNatClampNeg) &&& (31 : Int32)) = 16 → (inR (x3 + (1 : Int32)) Y.1 ∧ (inR (x3 + (2 : Int32)) Y.1 ∧ (inR (x3 + (3 : Int32)) Y.1 ∧ (isO Y r1 10 ∧ tT Y d 130 0 [.ref r1, .int (Y.2.1 ((x3 + (1 : Int32))).toNatClampNeg), .int (Y.2.1 ((x3 + (2 : Int32))).toNatClampNeg), .int (Y.2.1 ((x3 + (3 : Int32))).toNatClampNeg), .null] [] s (fun r s1 => tT Y (d + 1) 232 649 [.float 0, .ref r1, .ref r2, .int x3] ((r.map Value.int).toList ++ []) s1 K)))))) ∧ (((Y.2.1 (x3).toNatClampNeg) &&& (31 : Int32)) = 17 → (isO Y r1 10 ∧ tT Y d 131 0 [.ref r1] [] s (fun r s1 => tT Y (d + 1) 232 677 [.float 0, .ref r1, .ref r2, .int x3] ((r.map Value.int).toList ++ []) s1 K))) ∧ (((Y.2.1 (x3).toNatClampNeg) &&& (31 : Int32)) = 18 → (isO Y r1 10 ∧ tT Y d 132 0 [.ref r1] [] s (fun r s1 => tT Y (d + 1) 232 690 [.float 0, .ref r1, .ref r2, .int x3] ((r.map Value.int).toList ++ []) s1 K))) ∧ (((Y.2.1 (x3).toNatClampNeg) &&& (31 : Int32)) = 19 → (inR (x3 + (1 : Int32)) Y.1 ∧ (isO Y r1 10 ∧ tT Y d 133 0 [.ref r1, .int (Y.2.1 ((x3 + (1 : Int32))).toNatClampNeg)] [] s (fun r s1 => tT Y (d + 1) 232 708 [.float 0, .ref r1, .ref r2, .int x3] ((r.map Value.int).toList ++ []) s1 K)))) ∧ (((Y.2.1 (x3).toNatClampNeg) &&& (31 : Int32)) = 20 → (isO Y r1 10 ∧ tT Y d 134 0 [.ref r1, .null, .null] [] s (fun r s1 => tT Y (d + 1) 232 726 [.float 0, .ref r1, .ref r2, .int x3] ((r.map Value.int).toList ++ []) s1 K))) ∧ (((Y.2.1 (x3).toNatClampNeg) &&& (31 : Int32)) = 21 → (inR (x3 + (1 : Int32)) Y.1 ∧ (inR (x3 + (2 : Int32)) Y.1 ∧ (isO Y r1 10 ∧ tT Y d 135 0 [.ref r1, .int (Y.2.1 ((x3 + (1 : Int32))).toNatClampNeg), .int (Y.2.1 ((x3 + (2 : Int32))).toNatClampNeg)] [] s (fun r s1 => tT Y (d + 1) 232 749 [.float 0, .ref r1, .ref r2, .int x3] ((r.map Value.int).toList ++ []) s1 K))))) ∧ (((Y.2.1 (x3).toNatClampNeg) &&& (31 : Int32)) = 22 → (inR (x3 + (1 : Int32)) Y.1 ∧ (isO Y r1 10 ∧ tT Y d 136 0 [.ref r1, .int (Y.2.1 ((x3 + (1 : Int32))).toNatClampNeg)] [] s (fun r s1 => tT Y (d + 1) 232 777 [.float 0, .ref r1, .ref r2, .int x3] ((r.map Value.int).toList ++ []) s1 K)))) ∧ (((Y.2.1 (x3).toNatClampNeg) &&& (31 : Int32)) = 23 → (inR (x3 + (1 : Int32)) Y.1 ∧ (isO Y r1 10 ∧ tT Y d 137 0 [.ref r1, .int (Y.2.1 ((x3 + (1 : Int32))).toNatClampNeg)] [] s (fun r s1 => tT Y (d + 1) 232 800 [.float 0, .ref r1, .ref r2, .int x3] ((r.map Value.int).toList ++ []) s1 K)))) ∧ (¬ ((Y.2.1 (x3).toNatClampNeg) &&& (31 : Int32)) = 0 ∧ ¬ ((Y.2.1 (x3).toNatClampNeg) &&& (31 : Int32)) = 1 ∧ ¬ ((Y.2.1 (x3).toNatClampNeg) &&& (31 : Int32)) = 2 ∧ ¬ ((Y.2.1 (x3).toNatClampNeg) &&& (31 : Int32)) = 3 ∧ ¬ ((Y.2.1 (x3).toNatClampNeg) &&& (31 : Int32)) = 4 ∧ ¬ ((Y.2.1 (x3).toNatClampNeg) &&& (31 : Int32)) = 5 ∧ ¬ ((Y.2.1 (x3).toNatClampNeg) &&& (31 : Int32)) = 6 ∧ ¬ ((Y.2.1 (x3).toNatClampNeg) &&& (31 : Int32)) = 7 ∧ ¬ ((Y.2.1 (x3).toNatClampNeg) &&& (31 : Int32)) = 8 ∧ ¬ ((Y.2.1 (x3).toNatClampNeg) &&& (31 : Int32)) = 9 ∧ ¬ ((Y.2.1 (x3).toNatClampNeg) &&& (31 : Int32)) = 10 ∧ ¬ ((Y.2.1 (x3).toNatClampNeg) &&& (31 : Int32)) = 11 ∧ ¬ ((Y.2.1 (x3).toNatClampNeg) &&& (31 : Int32)) = 12 ∧ ¬ ((Y.2.1 (x3).toNatClampNeg) &&& (31 : Int32)) = 13 ∧ ¬ ((Y.2.1 (x3).toNatClampNeg) &&& (31 : Int32)) = 14 ∧ ¬ ((Y.2.1 (x3).toNatClampNeg) &&& (31 : Int32)) = 15 ∧ ¬ ((Y.2.1 (x3).toNatClampNeg) &&& (31 : Int32)) = 16 ∧ ¬ ((Y.2.1 (x3).toNatClampNeg) &&& (31 : Int32)) = 17 ∧ ¬ ((Y.2.1 (x3).toNatClampNeg) &&& (31 : Int32)) = 18 ∧ ¬ ((Y.2.1 (x3).toNatClampNeg) &&& (31 : Int32)) = 19 ∧ ¬ ((Y.2.1 (x3).toNatClampNeg) &&& (31 : Int32)) = 20 ∧ ¬ ((Y.2.1 (x3).toNatClampNeg) &&& (31 : Int32)) = 21 ∧ ¬ ((Y.2.1 (x3).toNatClampNeg) &&& (31 : Int32)) = 22 ∧ ¬ ((Y.2.1 (x3).toNatClampNeg) &&& (31 : Int32)) = 23 → tT Y (d + 1) 232 814 [.float 0, .ref r1, .ref r2, .int x3] [] s K))))) : tT Y (d + 1) 232 18 [.float 0, .ref r1, .ref r2, .int x3] [] s K :=
  (tt_iload (p_232_18 _ _) rfl).mpr ((tt_aloadf (p_232_19 _ _) rfl).mpr ((tt_slen (p_232_20 _ _)).mpr ((tt_push (p_232_21 _ _)).mpr ((tt_bin (p_232_22 _ _)).mpr (t3_cmp (p := ((Int32.ofNat Y.1) - (5 : Int32)) < x3) (p_232_23 _ _) rfl (fun g1 => (tt_push (p_232_820 _ _)).mpr (tt_ret2 (p_232_821 _ _) (Or.inr rfl) (ifp h g1))) (fun g1 => (tt_aloadf (p_232_26 _ _) rfl).mpr ((tt_iload (p_232_27 _ _) rfl).mpr (t3_sld (p_232_28 _ _) (ifn h g1).1 ((tt_push (p_232_29 _ _)).mpr ((tt_bin (p_232_31 _ _)).mpr (Decidable.byCases (p := ((Y.2.1 (x3).toNatClampNeg) &&& (31 : Int32)) = 0) (fun g2 => t3_tab (t := 144) (p_232_32 _ _) (by rw [g2]; rfl) ((tt_aload (p_232_144 _ _) rfl).mpr ((tt_aloadf (p_232_145 _ _) rfl).mpr ((tt_iload (p_232_146 _ _) rfl).mpr ((tt_push (p_232_147 _ _)).mpr ((tt_bin (p_232_148 _ _)).mpr (t3_sld (p_232_149 _ _) ((ifn h g1).2.1 g2).1 ((tt_i2l (p_232_150 _ _)).mpr ((tt_push (p_232_151 _ _)).mpr ((tt_lsh (p_232_153 _ _)).mpr ((tt_aloadf (p_232_154 _ _) rfl).mpr ((tt_iload (p_232_155 _ _) rfl).mpr ((tt_push (p_232_156 _ _)).mpr ((tt_bin (p_232_157 _ _)).mpr (t3_sld (p_232_158 _ _) ((ifn h g1).2.1 g2).2.1 ((tt_i2l (p_232_159 _ _)).mpr ((tt_push (p_232_160 _ _)).mpr ((tt_lbin (p_232_163 _ _)).mpr ((tt_lbin (p_232_164 _ _)).mpr (t2_callv (z := 114) (k := 2) (i := r1) (as := [.long ((((Y.2.1 ((x3 + (1 : Int32))).toNatClampNeg) : Int32).toInt64 <<< (((32 : Int32) : Int32).toInt64 &&& 63)) ||| (((Y.2.1 ((x3 + (2 : Int32))).toNatClampNeg) : Int32).toInt64 &&& (4294967295 : Int64)))]) (rest := []) (p_232_165 _ _) mK_114 mL_114 rfl rfl (Nat.le_of_ble_eq_true rfl) rfl (Nat.le_of_ble_eq_true rfl) ((ifn h g1).2.1 g2).2.2.1 ((ifn h g1).2.1 g2).2.2.2)))))))))))))))))))) (fun g2n => Decidable.byCases (p := ((Y.2.1 (x3).toNatClampNeg) &&& (31 : Int32)) = 1) (fun g3 => t3_tab (t := 197) (p_232_32 _ _) (by rw [g3]; rfl) ((tt_aload (p_232_197 _ _) rfl).mpr ((tt_aloadf (p_232_198 _ _) rfl).mpr ((tt_iload (p_232_199 _ _) rfl).mpr ((tt_push (p_232_200 _ _)).mpr ((tt_bin (p_232_201 _ _)).mpr (t3_sld (p_232_202 _ _) ((ifn h g1).2.2.1 g3).1 (t2_callv (z := 115) (k := 2) (i := r1) (as := [.int (Y.2.1 ((x3 + (1 : Int32))).toNatClampNeg)]) (rest := []) (p_232_203 _ _) mK_115 mL_115 rfl rfl (Nat.le_of_ble_eq_true rfl) rfl (Nat.le_of_ble_eq_true rfl) ((ifn h g1).2.2.1 g3).2.1 ((ifn h g1).2.2.1 g3).2.2)))))))) (fun g3n => Decidable.byCases (p := ((Y.2.1 (x3).toNatClampNeg) &&& (31 : Int32)) = 2) (fun g4 => t3_tab (t := 220) (p_232_32 _ _) (by rw [g4]; rfl) ((tt_aload (p_232_220 _ _) rfl).mpr (t2_callv (z := 116) (k := 1) (i := r1) (as := []) (rest := []) (p_232_221 _ _) mK_116 mL_116 rfl rfl (Nat.le_of_ble_eq_true rfl) rfl (Nat.le_of_ble_eq_true rfl) ((ifn h g1).2.2.2.1 g4).1 ((ifn h g1).2.2.2.1 g4).2))) (fun g4n => Decidable.byCases (p := ((Y.2.1 (x3).toNatClampNeg) &&& (31 : Int32)) = 3) (fun g5 => t3_tab (t := 233) (p_232_32 _ _) (by rw [g5]; rfl) ((tt_aload (p_232_233 _ _) rfl).mpr (t2_callv (z := 117) (k := 1) (i := r1) (as := []) (rest := []) (p_232_234 _ _) mK_117 mL_117 rfl rfl (Nat.le_of_ble_eq_true rfl) rfl (Nat.le_of_ble_eq_true rfl) ((ifn h g1).2.2.2.2.1 g5).1 ((ifn h g1).2.2.2.2.1 g5).2))) (fun g5n => Decidable.byCases (p := ((Y.2.1 (x3).toNatClampNeg) &&& (31 : Int32)) = 4) (fun g6 => t3_tab (t := 244) (p_232_32 _ _) (by rw [g6]; rfl) ((tt_aload (p_232_244 _ _) rfl).mpr ((tt_aloadf (p_232_245 _ _) rfl).mpr ((tt_iload (p_232_246 _ _) rfl).mpr ((tt_push (p_232_247 _ _)).mpr ((tt_bin (p_232_248 _ _)).mpr (t3_sld (p_232_249 _ _) ((ifn h g1).2.2.2.2.2.1 g6).1 ((tt_aloadf (p_232_250 _ _) rfl).mpr ((tt_iload (p_232_251 _ _) rfl).mpr ((tt_push (p_232_252 _ _)).mpr ((tt_bin (p_232_253 _ _)).mpr (t3_sld (p_232_254 _ _) ((ifn h g1).2.2.2.2.2.1 g6).2.1 (t2_callv (z := 118) (k := 3) (i := r1) (as := [.int (Y.2.1 ((x3 + (1 : Int32))).toNatClampNeg), .int (Y.2.1 ((x3 + (2 : Int32))).toNatClampNeg)]) (rest := []) (p_232_255 _ _) mK_118 mL_118 rfl rfl (Nat.le_of_ble_eq_true rfl) rfl (Nat.le_of_ble_eq_true rfl) ((ifn h g1).2.2.2.2.2.1 g6).2.2.1 ((ifn h g1).2.2.2.2.2.1 g6).2.2.2))))))))))))) (fun g6n => Decidable.byCases (p := ((Y.2.1 (x3).toNatClampNeg) &&& (31 : Int32)) = 5) (fun g7 => t3_tab (t := 277) (p_232_32 _ _) (by rw [g7]; rfl) ((tt_aload (p_232_277 _ _) rfl).mpr ((tt_aloadf (p_232_278 _ _) rfl).mpr ((tt_iload (p_232_279 _ _) rfl).mpr ((tt_push (p_232_280 _ _)).mpr ((tt_bin (p_232_281 _ _)).mpr (t3_sld (p_232_282 _ _) ((ifn h g1).2.2.2.2.2.2.1 g7).1 ((tt_aloadf (p_232_283 _ _) rfl).mpr ((tt_iload (p_232_284 _ _) rfl).mpr ((tt_push (p_232_285 _ _)).mpr ((tt_bin (p_232_286 _ _)).mpr (t3_sld (p_232_287 _ _) ((ifn h g1).2.2.2.2.2.2.1 g7).2.1 ((tt_aloadf (p_232_288 _ _) rfl).mpr ((tt_iload (p_232_289 _ _) rfl).mpr ((tt_push (p_232_290 _ _)).mpr ((tt_bin (p_232_291 _ _)).mpr (t3_sld (p_232_292 _ _) ((ifn h g1).2.2.2.2.2.2.1 g7).2.2.1 ((tt_aloadf (p_232_293 _ _) rfl).mpr ((tt_iload (p_232_294 _ _) rfl).mpr ((tt_push (p_232_295 _ _)).mpr ((tt_bin (p_232_296 _ _)).mpr (t3_sld (p_232_297 _ _) ((ifn h g1).2.2.2.2.2.2.1 g7).2.2.2.1 (t2_callv (z := 119) (k := 5) (i := r1) (as := [.int (Y.2.1 ((x3 + (1 : Int32))).toNatClampNeg), .int (Y.2.1 ((x3 + (2 : Int32))).toNatClampNeg), .int (Y.2.1 ((x3 + (3 : Int32))).toNatClampNeg), .int (Y.2.1 ((x3 + (4 : Int32))).toNatClampNeg)]) (rest := []) (p_232_298 _ _) mK_119 mL_119 rfl rfl (Nat.le_of_ble_eq_true rfl) rfl (Nat.le_of_ble_eq_true rfl) ((ifn h g1).2.2.2.2.2.2.1 g7).2.2.2.2.1 ((ifn h g1).2.2.2.2.2.2.1 g7).2.2.2.2.2))))))))))))))))))))))) (fun g7n => Decidable.byCases (p := ((Y.2.1 (x3).toNatClampNeg) &&& (31 : Int32)) = 6) (fun g8 => t3_tab (t := 330) (p_232_32 _ _) (by rw [g8]; rfl) ((tt_aload (p_232_330 _ _) rfl).mpr ((tt_aloadf (p_232_331 _ _) rfl).mpr ((tt_iload (p_232_332 _ _) rfl).mpr ((tt_push (p_232_333 _ _)).mpr ((tt_bin (p_232_334 _ _)).mpr (t3_sld (p_232_335 _ _) ((ifn h g1).2.2.2.2.2.2.2.1 g8).1 ((tt_aloadf (p_232_336 _ _) rfl).mpr ((tt_iload (p_232_337 _ _) rfl).mpr ((tt_push (p_232_338 _ _)).mpr ((tt_bin (p_232_339 _ _)).mpr (t3_sld (p_232_340 _ _) ((ifn h g1).2.2.2.2.2.2.2.1 g8).2.1 (t2_callv (z := 120) (k := 3) (i := r1) (as := [.int (Y.2.1 ((x3 + (1 : Int32))).toNatClampNeg), .int (Y.2.1 ((x3 + (2 : Int32))).toNatClampNeg)]) (rest := []) (p_232_341 _ _) mK_120 mL_120 rfl rfl (Nat.le_of_ble_eq_true rfl) rfl (Nat.le_of_ble_eq_true rfl) ((ifn h g1).2.2.2.2.2.2.2.1 g8).2.2.1 ((ifn h g1).2.2.2.2.2.2.2.1 g8).2.2.2))))))))))))) (fun g8n => Decidable.byCases (p := ((Y.2.1 (x3).toNatClampNeg) &&& (31 : Int32)) = 7) (fun g9 => t3_tab (t := 363) (p_232_32 _ _) (by rw [g9]; rfl) ((tt_aload (p_232_363 _ _) rfl).mpr ((tt_aloadf (p_232_364 _ _) rfl).mpr ((tt_iload (p_232_365 _ _) rfl).mpr ((tt_push (p_232_366 _ _)).mpr ((tt_bin (p_232_367 _ _)).mpr (t3_sld (p_232_368 _ _) ((ifn h g1).2.2.2.2.2.2.2.2.1 g9).1 ((tt_aloadf (p_232_369 _ _) rfl).mpr ((tt_iload (p_232_370 _ _) rfl).mpr ((tt_push (p_232_371 _ _)).mpr ((tt_bin (p_232_372 _ _)).mpr (t3_sld (p_232_373 _ _) ((ifn h g1).2.2.2.2.2.2.2.2.1 g9).2.1 ((tt_aloadf (p_232_374 _ _) rfl).mpr ((tt_iload (p_232_375 _ _) rfl).mpr ((tt_push (p_232_376 _ _)).mpr ((tt_bin (p_232_377 _ _)).mpr (t3_sld (p_232_378 _ _) ((ifn h g1).2.2.2.2.2.2.2.2.1 g9).2.2.1 (t2_callv (z := 121) (k := 4) (i := r1) (as := [.int (Y.2.1 ((x3 + (1 : Int32))).toNatClampNeg), .int (Y.2.1 ((x3 + (2 : Int32))).toNatClampNeg), .int (Y.2.1 ((x3 + (3 : Int32))).toNatClampNeg)]) (rest := []) (p_232_379 _ _) mK_121 mL_121 rfl rfl (Nat.le_of_ble_eq_true rfl) rfl (Nat.le_of_ble_eq_true rfl) ((ifn h g1).2.2.2.2.2.2.2.2.1 g9).2.2.2.1 ((ifn h g1).2.2.2.2.2.2.2.2.1 g9).2.2.2.2)))))))))))))))))) (fun g9n => Decidable.byCases (p := ((Y.2.1 (x3).toNatClampNeg) &&& (31 : Int32)) = 8) (fun g10 => t3_tab (t := 406) (p_232_32 _ _) (by rw [g10]; rfl) ((tt_aload (p_232_406 _ _) rfl).mpr ((tt_aloadf (p_232_407 _ _) rfl).mpr ((tt_iload (p_232_408 _ _) rfl).mpr ((tt_push (p_232_409 _ _)).mpr ((tt_bin (p_232_410 _ _)).mpr (t3_sld (p_232_411 _ _) ((ifn h g1).2.2.2.2.2.2.2.2.2.1 g10).1 ((tt_aloadf (p_232_412 _ _) rfl).mpr ((tt_iload (p_232_413 _ _) rfl).mpr ((tt_push (p_232_414 _ _)).mpr ((tt_bin (p_232_415 _ _)).mpr (t3_sld (p_232_416 _ _) ((ifn h g1).2.2.2.2.2.2.2.2.2.1 g10).2.1 (t2_callv (z := 122) (k := 3) (i := r1) (as := [.int (Y.2.1 ((x3 + (1 : Int32))).toNatClampNeg), .int (Y.2.1 ((x3 + (2 : Int32))).toNatClampNeg)]) (rest := []) (p_232_417 _ _) mK_122 mL_122 rfl rfl (Nat.le_of_ble_eq_true rfl) rfl (Nat.le_of_ble_eq_true rfl) ((ifn h g1).2.2.2.2.2.2.2.2.2.1 g10).2.2.1 ((ifn h g1).2.2.2.2.2.2.2.2.2.1 g10).2.2.2))))))))))))) (fun g10n => Decidable.byCases (p := ((Y.2.1 (x3).toNatClampNeg) &&& (31 : Int32)) = 9) (fun g11 => t3_tab (t := 439) (p_232_32 _ _) (by rw [g11]; rfl) ((tt_aload (p_232_439 _ _) rfl).mpr ((tt_aloadf (p_232_440 _ _) rfl).mpr ((tt_iload (p_232_441 _ _) rfl).mpr ((tt_push (p_232_442 _ _)).mpr ((tt_bin (p_232_443 _ _)).mpr (t3_sld (p_232_444 _ _) ((ifn h g1).2.2.2.2.2.2.2.2.2.2.1 g11).1 (t2_callv (z := 123) (k := 2) (i := r1) (as := [.int (Y.2.1 ((x3 + (1 : Int32))).toNatClampNeg)]) (rest := []) (p_232_445 _ _) mK_123 mL_123 rfl rfl (Nat.le_of_ble_eq_true rfl) rfl (Nat.le_of_ble_eq_true rfl) ((ifn h g1).2.2.2.2.2.2.2.2.2.2.1 g11).2.1 ((ifn h g1).2.2.2.2.2.2.2.2.2.2.1 g11).2.2)))))))) (fun g11n => Decidable.byCases (p := ((Y.2.1 (x3).toNatClampNeg) &&& (31 : Int32)) = 10) (fun g12 => t3_tab (t := 462) (p_232_32 _ _) (by rw [g12]; rfl) ((tt_aload (p_232_462 _ _) rfl).mpr ((tt_aloadf (p_232_463 _ _) rfl).mpr ((tt_iload (p_232_464 _ _) rfl).mpr ((tt_push (p_232_465 _ _)).mpr ((tt_bin (p_232_466 _ _)).mpr (t3_sld (p_232_467 _ _) ((ifn h g1).2.2.2.2.2.2.2.2.2.2.2.1 g12).1 ((tt_aloadf (p_232_468 _ _) rfl).mpr ((tt_iload (p_232_469 _ _) rfl).mpr ((tt_push (p_232_470 _ _)).mpr ((tt_bin (p_232_471 _ _)).mpr (t3_sld (p_232_472 _ _) ((ifn h g1).2.2.2.2.2.2.2.2.2.2.2.1 g12).2.1 (t2_callv (z := 124) (k := 3) (i := r1) (as := [.int (Y.2.1 ((x3 + (1 : Int32))).toNatClampNeg), .int (Y.2.1 ((x3 + (2 : Int32))).toNatClampNeg)]) (rest := []) (p_232_473 _ _) mK_124 mL_124 rfl rfl (Nat.le_of_ble_eq_true rfl) rfl (Nat.le_of_ble_eq_true rfl) ((ifn h g1).2.2.2.2.2.2.2.2.2.2.2.1 g12).2.2.1 ((ifn h g1).2.2.2.2.2.2.2.2.2.2.2.1 g12).2.2.2))))))))))))) (fun g12n => Decidable.byCases (p := ((Y.2.1 (x3).toNatClampNeg) &&& (31 : Int32)) = 11) (fun g13 => t3_tab (t := 495) (p_232_32 _ _) (by rw [g13]; rfl) ((tt_aload (p_232_495 _ _) rfl).mpr ((tt_aloadf (p_232_496 _ _) rfl).mpr ((tt_iload (p_232_497 _ _) rfl).mpr ((tt_push (p_232_498 _ _)).mpr ((tt_bin (p_232_499 _ _)).mpr (t3_sld (p_232_500 _ _) ((ifn h g1).2.2.2.2.2.2.2.2.2.2.2.2.1 g13).1 ((tt_aloadf (p_232_501 _ _) rfl).mpr ((tt_iload (p_232_502 _ _) rfl).mpr ((tt_push (p_232_503 _ _)).mpr ((tt_bin (p_232_504 _ _)).mpr (t3_sld (p_232_505 _ _) ((ifn h g1).2.2.2.2.2.2.2.2.2.2.2.2.1 g13).2.1 ((tt_aloadf (p_232_506 _ _) rfl).mpr ((tt_iload (p_232_507 _ _) rfl).mpr ((tt_push (p_232_508 _ _)).mpr ((tt_bin (p_232_509 _ _)).mpr (t3_sld (p_232_510 _ _) ((ifn h g1).2.2.2.2.2.2.2.2.2.2.2.2.1 g13).2.2.1 (t2_callv (z := 125) (k := 4) (i := r1) (as := [.int (Y.2.1 ((x3 + (1 : Int32))).toNatClampNeg), .int (Y.2.1 ((x3 + (2 : Int32))).toNatClampNeg), .int (Y.2.1 ((x3 + (3 : Int32))).toNatClampNeg)]) (rest := []) (p_232_511 _ _) mK_125 mL_125 rfl rfl (Nat.le_of_ble_eq_true rfl) rfl (Nat.le_of_ble_eq_true rfl) ((ifn h g1).2.2.2.2.2.2.2.2.2.2.2.2.1 g13).2.2.2.1 ((ifn h g1).2.2.2.2.2.2.2.2.2.2.2.2.1 g13).2.2.2.2)))))))))))))))))) (fun g13n => Decidable.byCases (p := ((Y.2.1 (x3).toNatClampNeg) &&& (31 : Int32)) = 12) (fun g14 => t3_tab (t := 538) (p_232_32 _ _) (by rw [g14]; rfl) ((tt_aload (p_232_538 _ _) rfl).mpr (t2_callv (z := 126) (k := 1) (i := r1) (as := []) (rest := []) (p_232_539 _ _) mK_126 mL_126 rfl rfl (Nat.le_of_ble_eq_true rfl) rfl (Nat.le_of_ble_eq_true rfl) ((ifn h g1).2.2.2.2.2.2.2.2.2.2.2.2.2.1 g14).1 ((ifn h g1).2.2.2.2.2.2.2.2.2.2.2.2.2.1 g14).2))) (fun g14n => Decidable.byCases (p := ((Y.2.1 (x3).toNatClampNeg) &&& (31 : Int32)) = 13) (fun g15 => t3_tab (t := 551) (p_232_32 _ _) (by rw [g15]; rfl) ((tt_aload (p_232_551 _ _) rfl).mpr ((tt_aloadf (p_232_552 _ _) rfl).mpr ((tt_iload (p_232_553 _ _) rfl).mpr ((tt_push (p_232_554 _ _)).mpr ((tt_bin (p_232_555 _ _)).mpr (t3_sld (p_232_556 _ _) ((ifn h g1).2.2.2.2.2.2.2.2.2.2.2.2.2.2.1 g15).1 (t2_callv (z := 127) (k := 2) (i := r1) (as := [.int (Y.2.1 ((x3 + (1 : Int32))).toNatClampNeg)]) (rest := []) (p_232_557 _ _) mK_127 mL_127 rfl rfl (Nat.le_of_ble_eq_true rfl) rfl (Nat.le_of_ble_eq_true rfl) ((ifn h g1).2.2.2.2.2.2.2.2.2.2.2.2.2.2.1 g15).2.1 ((ifn h g1).2.2.2.2.2.2.2.2.2.2.2.2.2.2.1 g15).2.2)))))))) (fun g15n => Decidable.byCases (p := ((Y.2.1 (x3).toNatClampNeg) &&& (31 : Int32)) = 14) (fun g16 => t3_tab (t := 574) (p_232_32 _ _) (by rw [g16]; rfl) ((tt_aload (p_232_574 _ _) rfl).mpr ((tt_aloadf (p_232_575 _ _) rfl).mpr ((tt_iload (p_232_576 _ _) rfl).mpr ((tt_push (p_232_577 _ _)).mpr ((tt_bin (p_232_578 _ _)).mpr (t3_sld (p_232_579 _ _) ((ifn h g1).2.2.2.2.2.2.2.2.2.2.2.2.2.2.2.1 g16).1 (t2_callv (z := 128) (k := 2) (i := r1) (as := [.int (Y.2.1 ((x3 + (1 : Int32))).toNatClampNeg)]) (rest := []) (p_232_580 _ _) mK_128 mL_128 rfl rfl (Nat.le_of_ble_eq_true rfl) rfl (Nat.le_of_ble_eq_true rfl) ((ifn h g1).2.2.2.2.2.2.2.2.2.2.2.2.2.2.2.1 g16).2.1 ((ifn h g1).2.2.2.2.2.2.2.2.2.2.2.2.2.2.2.1 g16).2.2)))))))) (fun g16n => Decidable.byCases (p := ((Y.2.1 (x3).toNatClampNeg) &&& (31 : Int32)) = 15) (fun g17 => t3_tab (t := 597) (p_232_32 _ _) (by rw [g17]; rfl) ((tt_aload (p_232_597 _ _) rfl).mpr ((tt_aloadf (p_232_598 _ _) rfl).mpr ((tt_iload (p_232_599 _ _) rfl).mpr ((tt_push (p_232_600 _ _)).mpr ((tt_bin (p_232_601 _ _)).mpr (t3_sld (p_232_602 _ _) ((ifn h g1).2.2.2.2.2.2.2.2.2.2.2.2.2.2.2.2.1 g17).1 ((tt_aloadf (p_232_603 _ _) rfl).mpr ((tt_iload (p_232_604 _ _) rfl).mpr ((tt_push (p_232_605 _ _)).mpr ((tt_bin (p_232_606 _ _)).mpr (t3_sld (p_232_607 _ _) ((ifn h g1).2.2.2.2.2.2.2.2.2.2.2.2.2.2.2.2.1 g17).2.1 (t2_callv (z := 129) (k := 3) (i := r1) (as := [.int (Y.2.1 ((x3 + (1 : Int32))).toNatClampNeg), .int (Y.2.1 ((x3 + (2 : Int32))).toNatClampNeg)]) (rest := []) (p_232_608 _ _) mK_129 mL_129 rfl rfl (Nat.le_of_ble_eq_true rfl) rfl (Nat.le_of_ble_eq_true rfl) ((ifn h g1).2.2.2.2.2.2.2.2.2.2.2.2.2.2.2.2.1 g17).2.2.1 ((ifn h g1).2.2.2.2.2.2.2.2.2.2.2.2.2.2.2.2.1 g17).2.2.2))))))))))))) (fun g17n => Decidable.byCases (p := ((Y.2.1 (x3).toNatClampNeg) &&& (31 : Int32)) = 16) (fun g18 => t3_tab (t := 630) (p_232_32 _ _) (by rw [g18]; rfl) ((tt_aload (p_232_630 _ _) rfl).mpr ((tt_aloadf (p_232_631 _ _) rfl).mpr ((tt_iload (p_232_632 _ _) rfl).mpr ((tt_push (p_232_633 _ _)).mpr ((tt_bin (p_232_634 _ _)).mpr (t3_sld (p_232_635 _ _) ((ifn h g1).2.2.2.2.2.2.2.2.2.2.2.2.2.2.2.2.2.1 g18).1 ((tt_aloadf (p_232_636 _ _) rfl).mpr ((tt_iload (p_232_637 _ _) rfl).mpr ((tt_push (p_232_638 _ _)).mpr ((tt_bin (p_232_639 _ _)).mpr (t3_sld (p_232_640 _ _) ((ifn h g1).2.2.2.2.2.2.2.2.2.2.2.2.2.2.2.2.2.1 g18).2.1 ((tt_aloadf (p_232_641 _ _) rfl).mpr ((tt_iload (p_232_642 _ _) rfl).mpr ((tt_push (p_232_643 _ _)).mpr ((tt_bin (p_232_644 _ _)).mpr (t3_sld (p_232_645 _ _) ((ifn h g1).2.2.2.2.2.2.2.2.2.2.2.2.2.2.2.2.2.1 g18).2.2.1 (t2_callv (z := 130) (k := 4) (i := r1) (as := [.int (Y.2.1 ((x3 + (1 : Int32))).toNatClampNeg), .int (Y.2.1 ((x3 + (2 : Int32))).toNatClampNeg), .int (Y.2.1 ((x3 + (3 : Int32))).toNatClampNeg)]) (rest := []) (p_232_646 _ _) mK_130 mL_130 rfl rfl (Nat.le_of_ble_eq_true rfl) rfl (Nat.le_of_ble_eq_true rfl) ((ifn h g1).2.2.2.2.2.2.2.2.2.2.2.2.2.2.2.2.2.1 g18).2.2.2.1 ((ifn h g1).2.2.2.2.2.2.2.2.2.2.2.2.2.2.2.2.2.1 g18).2.2.2.2)))))))))))))))))) (fun g18n => Decidable.byCases (p := ((Y.2.1 (x3).toNatClampNeg) &&& (31 : Int32)) = 17) (fun g19 => t3_tab (t := 673) (p_232_32 _ _) (by rw [g19]; rfl) ((tt_aload (p_232_673 _ _) rfl).mpr (t2_callv (z := 131) (k := 1) (i := r1) (as := []) (rest := []) (p_232_674 _ _) mK_131 mL_131 rfl rfl (Nat.le_of_ble_eq_true rfl) rfl (Nat.le_of_ble_eq_true rfl) ((ifn h g1).2.2.2.2.2.2.2.2.2.2.2.2.2.2.2.2.2.2.1 g19).1 ((ifn h g1).2.2.2.2.2.2.2.2.2.2.2.2.2.2.2.2.2.2.1 g19).2))) (fun g19n => Decidable.byCases (p := ((Y.2.1 (x3).toNatClampNeg) &&& (31 : Int32)) = 18) (fun g20 => t3_tab (t := 686) (p_232_32 _ _) (by rw [g20]; rfl) ((tt_aload (p_232_686 _ _) rfl).mpr (t2_callv (z := 132) (k := 1) (i := r1) (as := []) (rest := []) (p_232_687 _ _) mK_132 mL_132 rfl rfl (Nat.le_of_ble_eq_true rfl) rfl (Nat.le_of_ble_eq_true rfl) ((ifn h g1).2.2.2.2.2.2.2.2.2.2.2.2.2.2.2.2.2.2.2.1 g20).1 ((ifn h g1).2.2.2.2.2.2.2.2.2.2.2.2.2.2.2.2.2.2.2.1 g20).2))) (fun g20n => Decidable.byCases (p := ((Y.2.1 (x3).toNatClampNeg) &&& (31 : Int32)) = 19) (fun g21 => t3_tab (t := 699) (p_232_32 _ _) (by rw [g21]; rfl) ((tt_aload (p_232_699 _ _) rfl).mpr ((tt_aloadf (p_232_700 _ _) rfl).mpr ((tt_iload (p_232_701 _ _) rfl).mpr ((tt_push (p_232_702 _ _)).mpr ((tt_bin (p_232_703 _ _)).mpr (t3_sld (p_232_704 _ _) ((ifn h g1).2.2.2.2.2.2.2.2.2.2.2.2.2.2.2.2.2.2.2.2.1 g21).1 (t2_callv (z := 133) (k := 2) (i := r1) (as := [.int (Y.2.1 ((x3 + (1 : Int32))).toNatClampNeg)]) (rest := []) (p_232_705 _ _) mK_133 mL_133 rfl rfl (Nat.le_of_ble_eq_true rfl) rfl (Nat.le_of_ble_eq_true rfl) ((ifn h g1).2.2.2.2.2.2.2.2.2.2.2.2.2.2.2.2.2.2.2.2.1 g21).2.1 ((ifn h g1).2.2.2.2.2.2.2.2.2.2.2.2.2.2.2.2.2.2.2.2.1 g21).2.2)))))))) (fun g21n => Decidable.byCases (p := ((Y.2.1 (x3).toNatClampNeg) &&& (31 : Int32)) = 20) (fun g22 => t3_tab (t := 722) (p_232_32 _ _) (by rw [g22]; rfl) ((tt_aload (p_232_722 _ _) rfl).mpr (t2_callv (z := 134) (k := 1) (i := r1) (as := []) (rest := []) (p_232_723 _ _) mK_134 mL_134 rfl rfl (Nat.le_of_ble_eq_true rfl) rfl (Nat.le_of_ble_eq_true rfl) ((ifn h g1).2.2.2.2.2.2.2.2.2.2.2.2.2.2.2.2.2.2.2.2.2.1 g22).1 ((ifn h g1).2.2.2.2.2.2.2.2.2.2.2.2.2.2.2.2.2.2.2.2.2.1 g22).2))) (fun g22n => Decidable.byCases (p := ((Y.2.1 (x3).toNatClampNeg) &&& (31 : Int32)) = 21) (fun g23 => t3_tab (t := 735) (p_232_32 _ _) (by rw [g23]; rfl) ((tt_aload (p_232_735 _ _) rfl).mpr ((tt_aloadf (p_232_736 _ _) rfl).mpr ((tt_iload (p_232_737 _ _) rfl).mpr ((tt_push (p_232_738 _ _)).mpr ((tt_bin (p_232_739 _ _)).mpr (t3_sld (p_232_740 _ _) ((ifn h g1).2.2.2.2.2.2.2.2.2.2.2.2.2.2.2.2.2.2.2.2.2.2.1 g23).1 ((tt_aloadf (p_232_741 _ _) rfl).mpr ((tt_iload (p_232_742 _ _) rfl).mpr ((tt_push (p_232_743 _ _)).mpr ((tt_bin (p_232_744 _ _)).mpr (t3_sld (p_232_745 _ _) ((ifn h g1).2.2.2.2.2.2.2.2.2.2.2.2.2.2.2.2.2.2.2.2.2.2.1 g23).2.1 (t2_callv (z := 135) (k := 3) (i := r1) (as := [.int (Y.2.1 ((x3 + (1 : Int32))).toNatClampNeg), .int (Y.2.1 ((x3 + (2 : Int32))).toNatClampNeg)]) (rest := []) (p_232_746 _ _) mK_135 mL_135 rfl rfl (Nat.le_of_ble_eq_true rfl) rfl (Nat.le_of_ble_eq_true rfl) ((ifn h g1).2.2.2.2.2.2.2.2.2.2.2.2.2.2.2.2.2.2.2.2.2.2.1 g23).2.2.1 ((ifn h g1).2.2.2.2.2.2.2.2.2.2.2.2.2.2.2.2.2.2.2.2.2.2.1 g23).2.2.2))))))))))))) (fun g23n => Decidable.byCases (p := ((Y.2.1 (x3).toNatClampNeg) &&& (31 : Int32)) = 22) (fun g24 => t3_tab (t := 768) (p_232_32 _ _) (by rw [g24]; rfl) ((tt_aload (p_232_768 _ _) rfl).mpr ((tt_aloadf (p_232_769 _ _) rfl).mpr ((tt_iload (p_232_770 _ _) rfl).mpr ((tt_push (p_232_771 _ _)).mpr ((tt_bin (p_232_772 _ _)).mpr (t3_sld (p_232_773 _ _) ((ifn h g1).2.2.2.2.2.2.2.2.2.2.2.2.2.2.2.2.2.2.2.2.2.2.2.1 g24).1 (t2_callv (z := 136) (k := 2) (i := r1) (as := [.int (Y.2.1 ((x3 + (1 : Int32))).toNatClampNeg)]) (rest := []) (p_232_774 _ _) mK_136 mL_136 rfl rfl (Nat.le_of_ble_eq_true rfl) rfl (Nat.le_of_ble_eq_true rfl) ((ifn h g1).2.2.2.2.2.2.2.2.2.2.2.2.2.2.2.2.2.2.2.2.2.2.2.1 g24).2.1 ((ifn h g1).2.2.2.2.2.2.2.2.2.2.2.2.2.2.2.2.2.2.2.2.2.2.2.1 g24).2.2)))))))) (fun g24n => Decidable.byCases (p := ((Y.2.1 (x3).toNatClampNeg) &&& (31 : Int32)) = 23) (fun g25 => t3_tab (t := 791) (p_232_32 _ _) (by rw [g25]; rfl) ((tt_aload (p_232_791 _ _) rfl).mpr ((tt_aloadf (p_232_792 _ _) rfl).mpr ((tt_iload (p_232_793 _ _) rfl).mpr ((tt_push (p_232_794 _ _)).mpr ((tt_bin (p_232_795 _ _)).mpr (t3_sld (p_232_796 _ _) ((ifn h g1).2.2.2.2.2.2.2.2.2.2.2.2.2.2.2.2.2.2.2.2.2.2.2.2.1 g25).1 (t2_callv (z := 137) (k := 2) (i := r1) (as := [.int (Y.2.1 ((x3 + (1 : Int32))).toNatClampNeg)]) (rest := []) (p_232_797 _ _) mK_137 mL_137 rfl rfl (Nat.le_of_ble_eq_true rfl) rfl (Nat.le_of_ble_eq_true rfl) ((ifn h g1).2.2.2.2.2.2.2.2.2.2.2.2.2.2.2.2.2.2.2.2.2.2.2.2.1 g25).2.1 ((ifn h g1).2.2.2.2.2.2.2.2.2.2.2.2.2.2.2.2.2.2.2.2.2.2.2.2.1 g25).2.2)))))))) (fun g25n => t3_tab (t := 814) (p_232_32 _ _) (t3_tabd (fun k hk => t3_tabk (lo := 0) (n := 24) (fun j (hj : j < 24) => by rcases (show j = 0 ∨ j = 1 ∨ j = 2 ∨ j = 3 ∨ j = 4 ∨ j = 5 ∨ j = 6 ∨ j = 7 ∨ j = 8 ∨ j = 9 ∨ j = 10 ∨ j = 11 ∨ j = 12 ∨ j = 13 ∨ j = 14 ∨ j = 15 ∨ j = 16 ∨ j = 17 ∨ j = 18 ∨ j = 19 ∨ j = 20 ∨ j = 21 ∨ j = 22 ∨ j = 23 by omega) with rfl | rfl | rfl | rfl | rfl | rfl | rfl | rfl | rfl | rfl | rfl | rfl | rfl | rfl | rfl | rfl | rfl | rfl | rfl | rfl | rfl | rfl | rfl | rfl <;> assumption) k hk)) (((ifn h g1).2.2.2.2.2.2.2.2.2.2.2.2.2.2.2.2.2.2.2.2.2.2.2.2.2 ⟨g2n, g3n, g4n, g5n, g6n, g7n, g8n, g9n, g10n, g11n, g12n, g13n, g14n, g15n, g16n, g17n, g18n, g19n, g20n, g21n, g22n, g23n, g24n, g25n⟩)))))))))))))))))))))))))))))))))))))
theorem b_232_168 {Y : sY} {d : Nat} {s : sT} {K : Option Int32 → sT → Prop} {r1 : Nat} {r2 : Nat} {x3 : Int32} {t0 : Int32} (h : (inR (x3 + (1 : Int32)) Y.1 ∧ (inR (x3 + (2 : Int32)) Y.1 ∧ (isO Y r2 11 ∧ tT Y d 208 0 [.ref r2, .long ((((Y.2.1 ((x3 + (1 : Int32))).toNatClampNeg) : Int32).toInt64 <<< (((32 : Int32) : Int32).toInt64 &&& 63)) ||| (((Y.2.1 ((x3 + (2 : Int32))).toNatClampNeg) : Int32).toInt64 &&& (4294967295 : Int64))), .null, .null, .null] [] s (fun r s1 => tT Y (d + 1) 232 192 [.float 0, .ref r1, .ref r2, .int x3] ((r.map Value.int).toList ++ [.int t0]) s1 K))))) : tT Y (d + 1) 232 168 [.float 0, .ref r1, .ref r2, .int x3] [.int t0] s K :=
  (tt_aload (p_232_168 _ _) rfl).mpr ((tt_aloadf (p_232_169 _ _) rfl).mpr ((tt_iload (p_232_170 _ _) rfl).mpr ((tt_push (p_232_171 _ _)).mpr ((tt_bin (p_232_172 _ _)).mpr (t3_sld (p_232_173 _ _) h.1 ((tt_i2l (p_232_174 _ _)).mpr ((tt_push (p_232_175 _ _)).mpr ((tt_lsh (p_232_177 _ _)).mpr ((tt_aloadf (p_232_178 _ _) rfl).mpr ((tt_iload (p_232_179 _ _) rfl).mpr ((tt_push (p_232_180 _ _)).mpr ((tt_bin (p_232_181 _ _)).mpr (t3_sld (p_232_182 _ _) h.2.1 ((tt_i2l (p_232_183 _ _)).mpr ((tt_push (p_232_184 _ _)).mpr ((tt_lbin (p_232_187 _ _)).mpr ((tt_lbin (p_232_188 _ _)).mpr (t2_callv (z := 208) (k := 2) (i := r2) (as := [.long ((((Y.2.1 ((x3 + (1 : Int32))).toNatClampNeg) : Int32).toInt64 <<< (((32 : Int32) : Int32).toInt64 &&& 63)) ||| (((Y.2.1 ((x3 + (2 : Int32))).toNatClampNeg) : Int32).toInt64 &&& (4294967295 : Int64)))]) (rest := [.int t0]) (p_232_189 _ _) mK_208 mL_208 rfl rfl (Nat.le_of_ble_eq_true rfl) rfl (Nat.le_of_ble_eq_true rfl) h.2.2.1 h.2.2.2))))))))))))))))))
theorem b_232_192 {Y : sY} {d : Nat} {s : sT} {K : Option Int32 → sT → Prop} {r1 : Nat} {r2 : Nat} {x3 : Int32} {t0 : Int32} {t1 : Int32} (h : (if t0 = t1 then tT Y (d + 1) 232 814 [.float 0, .ref r1, .ref r2, .int x3] [] s K else K (some (0 : Int32)) s)) : tT Y (d + 1) 232 192 [.float 0, .ref r1, .ref r2, .int x3] [.int t1, .int t0] s K :=
  t3_cmp (p := t0 = t1) (p_232_192 _ _) rfl (fun g1 => (ifp h g1)) (fun g1 => (tt_push (p_232_195 _ _)).mpr (tt_ret2 (p_232_196 _ _) (Or.inl rfl) (ifn h g1)))
theorem b_232_206 {Y : sY} {d : Nat} {s : sT} {K : Option Int32 → sT → Prop} {r1 : Nat} {r2 : Nat} {x3 : Int32} {t0 : Int32} (h : (inR (x3 + (1 : Int32)) Y.1 ∧ (isO Y r2 11 ∧ tT Y d 211 0 [.ref r2, .int (Y.2.1 ((x3 + (1 : Int32))).toNatClampNeg), .null, .null] [] s (fun r s1 => tT Y (d + 1) 232 215 [.float 0, .ref r1, .ref r2, .int x3] ((r.map Value.int).toList ++ [.int t0]) s1 K)))) : tT Y (d + 1) 232 206 [.float 0, .ref r1, .ref r2, .int x3] [.int t0] s K :=
  (tt_aload (p_232_206 _ _) rfl).mpr ((tt_aloadf (p_232_207 _ _) rfl).mpr ((tt_iload (p_232_208 _ _) rfl).mpr ((tt_push (p_232_209 _ _)).mpr ((tt_bin (p_232_210 _ _)).mpr (t3_sld (p_232_211 _ _) h.1 (t2_callv (z := 211) (k := 2) (i := r2) (as := [.int (Y.2.1 ((x3 + (1 : Int32))).toNatClampNeg)]) (rest := [.int t0]) (p_232_212 _ _) mK_211 mL_211 rfl rfl (Nat.le_of_ble_eq_true rfl) rfl (Nat.le_of_ble_eq_true rfl) h.2.1 h.2.2))))))
theorem b_232_215 {Y : sY} {d : Nat} {s : sT} {K : Option Int32 → sT → Prop} {r1 : Nat} {r2 : Nat} {x3 : Int32} {t0 : Int32} {t1 : Int32} (h : (if t0 = t1 then tT Y (d + 1) 232 814 [.float 0, .ref r1, .ref r2, .int x3] [] s K else K (some (0 : Int32)) s)) : tT Y (d + 1) 232 215 [.float 0, .ref r1, .ref r2, .int x3] [.int t1, .int t0] s K :=
  t3_cmp (p := t0 = t1) (p_232_215 _ _) rfl (fun g1 => (ifp h g1)) (fun g1 => (tt_push (p_232_218 _ _)).mpr (tt_ret2 (p_232_219 _ _) (Or.inl rfl) (ifn h g1)))
theorem b_232_224 {Y : sY} {d : Nat} {s : sT} {K : Option Int32 → sT → Prop} {r1 : Nat} {r2 : Nat} {x3 : Int32} {t0 : Int32} (h : (isO Y r2 11 ∧ tT Y d 212 0 [.ref r2] [] s (fun r s1 => tT Y (d + 1) 232 228 [.float 0, .ref r1, .ref r2, .int x3] ((r.map Value.int).toList ++ [.int t0]) s1 K))) : tT Y (d + 1) 232 224 [.float 0, .ref r1, .ref r2, .int x3] [.int t0] s K :=
  (tt_aload (p_232_224 _ _) rfl).mpr (t2_callv (z := 212) (k := 1) (i := r2) (as := []) (rest := [.int t0]) (p_232_225 _ _) mK_212 mL_212 rfl rfl (Nat.le_of_ble_eq_true rfl) rfl (Nat.le_of_ble_eq_true rfl) h.1 h.2)
theorem b_232_228 {Y : sY} {d : Nat} {s : sT} {K : Option Int32 → sT → Prop} {r1 : Nat} {r2 : Nat} {x3 : Int32} {t0 : Int32} {t1 : Int32} (h : (if t0 = t1 then tT Y (d + 1) 232 814 [.float 0, .ref r1, .ref r2, .int x3] [] s K else K (some (0 : Int32)) s)) : tT Y (d + 1) 232 228 [.float 0, .ref r1, .ref r2, .int x3] [.int t1, .int t0] s K :=
  t3_cmp (p := t0 = t1) (p_232_228 _ _) rfl (fun g1 => (ifp h g1)) (fun g1 => (tt_push (p_232_231 _ _)).mpr (tt_ret2 (p_232_232 _ _) (Or.inl rfl) (ifn h g1)))
theorem b_232_237 {Y : sY} {d : Nat} {s : sT} {K : Option Int32 → sT → Prop} {r1 : Nat} {r2 : Nat} {x3 : Int32} (h : (isO Y r2 11 ∧ tT Y d 213 0 [.ref r2] [] s (fun r s1 => tT Y (d + 1) 232 241 [.float 0, .ref r1, .ref r2, .int x3] ((r.map Value.int).toList ++ []) s1 K))) : tT Y (d + 1) 232 237 [.float 0, .ref r1, .ref r2, .int x3] [] s K :=
  (tt_aload (p_232_237 _ _) rfl).mpr (t2_callv (z := 213) (k := 1) (i := r2) (as := []) (rest := []) (p_232_238 _ _) mK_213 mL_213 rfl rfl (Nat.le_of_ble_eq_true rfl) rfl (Nat.le_of_ble_eq_true rfl) h.1 h.2)
theorem b_232_241 {Y : sY} {d : Nat} {s : sT} {K : Option Int32 → sT → Prop} {r1 : Nat} {r2 : Nat} {x3 : Int32} (h : tT Y (d + 1) 232 814 [.float 0, .ref r1, .ref r2, .int x3] [] s K) : tT Y (d + 1) 232 241 [.float 0, .ref r1, .ref r2, .int x3] [] s K :=
  (tt_goto (p_232_241 _ _)).mpr (h)
theorem b_232_258 {Y : sY} {d : Nat} {s : sT} {K : Option Int32 → sT → Prop} {r1 : Nat} {r2 : Nat} {x3 : Int32} {t0 : Int32} (h : (inR (x3 + (1 : Int32)) Y.1 ∧ (inR (x3 + (2 : Int32)) Y.1 ∧ (isO Y r2 11 ∧ tT Y d 214 0 [.ref r2, .int (Y.2.1 ((x3 + (1 : Int32))).toNatClampNeg), .int (Y.2.1 ((x3 + (2 : Int32))).toNatClampNeg)] [] s (fun r s1 => tT Y (d + 1) 232 272 [.float 0, .ref r1, .ref r2, .int x3] ((r.map Value.int).toList ++ [.int t0]) s1 K))))) : tT Y (d + 1) 232 258 [.float 0, .ref r1, .ref r2, .int x3] [.int t0] s K :=
  (tt_aload (p_232_258 _ _) rfl).mpr ((tt_aloadf (p_232_259 _ _) rfl).mpr ((tt_iload (p_232_260 _ _) rfl).mpr ((tt_push (p_232_261 _ _)).mpr ((tt_bin (p_232_262 _ _)).mpr (t3_sld (p_232_263 _ _) h.1 ((tt_aloadf (p_232_264 _ _) rfl).mpr ((tt_iload (p_232_265 _ _) rfl).mpr ((tt_push (p_232_266 _ _)).mpr ((tt_bin (p_232_267 _ _)).mpr (t3_sld (p_232_268 _ _) h.2.1 (t2_callv (z := 214) (k := 3) (i := r2) (as := [.int (Y.2.1 ((x3 + (1 : Int32))).toNatClampNeg), .int (Y.2.1 ((x3 + (2 : Int32))).toNatClampNeg)]) (rest := [.int t0]) (p_232_269 _ _) mK_214 mL_214 rfl rfl (Nat.le_of_ble_eq_true rfl) rfl (Nat.le_of_ble_eq_true rfl) h.2.2.1 h.2.2.2)))))))))))
theorem b_232_272 {Y : sY} {d : Nat} {s : sT} {K : Option Int32 → sT → Prop} {r1 : Nat} {r2 : Nat} {x3 : Int32} {t0 : Int32} {t1 : Int32} (h : (if t0 = t1 then tT Y (d + 1) 232 814 [.float 0, .ref r1, .ref r2, .int x3] [] s K else K (some (0 : Int32)) s)) : tT Y (d + 1) 232 272 [.float 0, .ref r1, .ref r2, .int x3] [.int t1, .int t0] s K :=
  t3_cmp (p := t0 = t1) (p_232_272 _ _) rfl (fun g1 => (ifp h g1)) (fun g1 => (tt_push (p_232_275 _ _)).mpr (tt_ret2 (p_232_276 _ _) (Or.inl rfl) (ifn h g1)))
theorem b_232_301 {Y : sY} {d : Nat} {s : sT} {K : Option Int32 → sT → Prop} {r1 : Nat} {r2 : Nat} {x3 : Int32} {t0 : Int32} (h : (inR (x3 + (1 : Int32)) Y.1 ∧ (inR (x3 + (2 : Int32)) Y.1 ∧ (inR (x3 + (3 : Int32)) Y.1 ∧ (inR (x3 + (4 : Int32)) Y.1 ∧ (isO Y r2 11 ∧ tT Y d 215 0 [.ref r2, .int (Y.2.1 ((x3 + (1 : Int32))).toNatClampNeg), .int (Y.2.1 ((x3 + (2 : Int32))).toNatClampNeg), .int (Y.2.1 ((x3 + (3 : Int32))).toNatClampNeg), .int (Y.2.1 ((x3 + (4 : Int32))).toNatClampNeg), .null, .null, .null] [] s (fun r s1 => tT Y (d + 1) 232 325 [.float 0, .ref r1, .ref r2, .int x3] ((r.map Value.int).toList ++ [.int t0]) s1 K))))))) : tT Y (d + 1) 232 301 [.float 0, .ref r1, .ref r2, .int x3] [.int t0] s K :=
  (tt_aload (p_232_301 _ _) rfl).mpr ((tt_aloadf (p_232_302 _ _) rfl).mpr ((tt_iload (p_232_303 _ _) rfl).mpr ((tt_push (p_232_304 _ _)).mpr ((tt_bin (p_232_305 _ _)).mpr (t3_sld (p_232_306 _ _) h.1 ((tt_aloadf (p_232_307 _ _) rfl).mpr ((tt_iload (p_232_308 _ _) rfl).mpr ((tt_push (p_232_309 _ _)).mpr ((tt_bin (p_232_310 _ _)).mpr (t3_sld (p_232_311 _ _) h.2.1 ((tt_aloadf (p_232_312 _ _) rfl).mpr ((tt_iload (p_232_313 _ _) rfl).mpr ((tt_push (p_232_314 _ _)).mpr ((tt_bin (p_232_315 _ _)).mpr (t3_sld (p_232_316 _ _) h.2.2.1 ((tt_aloadf (p_232_317 _ _) rfl).mpr ((tt_iload (p_232_318 _ _) rfl).mpr ((tt_push (p_232_319 _ _)).mpr ((tt_bin (p_232_320 _ _)).mpr (t3_sld (p_232_321 _ _) h.2.2.2.1 (t2_callv (z := 215) (k := 5) (i := r2) (as := [.int (Y.2.1 ((x3 + (1 : Int32))).toNatClampNeg), .int (Y.2.1 ((x3 + (2 : Int32))).toNatClampNeg), .int (Y.2.1 ((x3 + (3 : Int32))).toNatClampNeg), .int (Y.2.1 ((x3 + (4 : Int32))).toNatClampNeg)]) (rest := [.int t0]) (p_232_322 _ _) mK_215 mL_215 rfl rfl (Nat.le_of_ble_eq_true rfl) rfl (Nat.le_of_ble_eq_true rfl) h.2.2.2.2.1 h.2.2.2.2.2)))))))))))))))))))))
theorem b_232_325 {Y : sY} {d : Nat} {s : sT} {K : Option Int32 → sT → Prop} {r1 : Nat} {r2 : Nat} {x3 : Int32} {t0 : Int32} {t1 : Int32} (h : (if t0 = t1 then tT Y (d + 1) 232 814 [.float 0, .ref r1, .ref r2, .int x3] [] s K else K (some (0 : Int32)) s)) : tT Y (d + 1) 232 325 [.float 0, .ref r1, .ref r2, .int x3] [.int t1, .int t0] s K :=
  t3_cmp (p := t0 = t1) (p_232_325 _ _) rfl (fun g1 => (ifp h g1)) (fun g1 => (tt_push (p_232_328 _ _)).mpr (tt_ret2 (p_232_329 _ _) (Or.inl rfl) (ifn h g1)))
theorem b_232_344 {Y : sY} {d : Nat} {s : sT} {K : Option Int32 → sT → Prop} {r1 : Nat} {r2 : Nat} {x3 : Int32} {t0 : Int32} (h : (inR (x3 + (1 : Int32)) Y.1 ∧ (inR (x3 + (2 : Int32)) Y.1 ∧ (isO Y r2 11 ∧ tT Y d 218 0 [.ref r2, .int (Y.2.1 ((x3 + (1 : Int32))).toNatClampNeg), .int (Y.2.1 ((x3 + (2 : Int32))).toNatClampNeg), .null] [] s (fun r s1 => tT Y (d + 1) 232 358 [.float 0, .ref r1, .ref r2, .int x3] ((r.map Value.int).toList ++ [.int t0]) s1 K))))) : tT Y (d + 1) 232 344 [.float 0, .ref r1, .ref r2, .int x3] [.int t0] s K :=
  (tt_aload (p_232_344 _ _) rfl).mpr ((tt_aloadf (p_232_345 _ _) rfl).mpr ((tt_iload (p_232_346 _ _) rfl).mpr ((tt_push (p_232_347 _ _)).mpr ((tt_bin (p_232_348 _ _)).mpr (t3_sld (p_232_349 _ _) h.1 ((tt_aloadf (p_232_350 _ _) rfl).mpr ((tt_iload (p_232_351 _ _) rfl).mpr ((tt_push (p_232_352 _ _)).mpr ((tt_bin (p_232_353 _ _)).mpr (t3_sld (p_232_354 _ _) h.2.1 (t2_callv (z := 218) (k := 3) (i := r2) (as := [.int (Y.2.1 ((x3 + (1 : Int32))).toNatClampNeg), .int (Y.2.1 ((x3 + (2 : Int32))).toNatClampNeg)]) (rest := [.int t0]) (p_232_355 _ _) mK_218 mL_218 rfl rfl (Nat.le_of_ble_eq_true rfl) rfl (Nat.le_of_ble_eq_true rfl) h.2.2.1 h.2.2.2)))))))))))
theorem b_232_358 {Y : sY} {d : Nat} {s : sT} {K : Option Int32 → sT → Prop} {r1 : Nat} {r2 : Nat} {x3 : Int32} {t0 : Int32} {t1 : Int32} (h : (if t0 = t1 then tT Y (d + 1) 232 814 [.float 0, .ref r1, .ref r2, .int x3] [] s K else K (some (0 : Int32)) s)) : tT Y (d + 1) 232 358 [.float 0, .ref r1, .ref r2, .int x3] [.int t1, .int t0] s K :=
  t3_cmp (p := t0 = t1) (p_232_358 _ _) rfl (fun g1 => (ifp h g1)) (fun g1 => (tt_push (p_232_361 _ _)).mpr (tt_ret2 (p_232_362 _ _) (Or.inl rfl) (ifn h g1)))
theorem b_232_382 {Y : sY} {d : Nat} {s : sT} {K : Option Int32 → sT → Prop} {r1 : Nat} {r2 : Nat} {x3 : Int32} {t0 : Int32} (h : (inR (x3 + (1 : Int32)) Y.1 ∧ (inR (x3 + (2 : Int32)) Y.1 ∧ (inR (x3 + (3 : Int32)) Y.1 ∧ (isO Y r2 11 ∧ tT Y d 219 0 [.ref r2, .int (Y.2.1 ((x3 + (1 : Int32))).toNatClampNeg), .int (Y.2.1 ((x3 + (2 : Int32))).toNatClampNeg), .int (Y.2.1 ((x3 + (3 : Int32))).toNatClampNeg)] [] s (fun r s1 => tT Y (d + 1) 232 401 [.float 0, .ref r1, .ref r2, .int x3] ((r.map Value.int).toList ++ [.int t0]) s1 K)))))) : tT Y (d + 1) 232 382 [.float 0, .ref r1, .ref r2, .int x3] [.int t0] s K :=
  (tt_aload (p_232_382 _ _) rfl).mpr ((tt_aloadf (p_232_383 _ _) rfl).mpr ((tt_iload (p_232_384 _ _) rfl).mpr ((tt_push (p_232_385 _ _)).mpr ((tt_bin (p_232_386 _ _)).mpr (t3_sld (p_232_387 _ _) h.1 ((tt_aloadf (p_232_388 _ _) rfl).mpr ((tt_iload (p_232_389 _ _) rfl).mpr ((tt_push (p_232_390 _ _)).mpr ((tt_bin (p_232_391 _ _)).mpr (t3_sld (p_232_392 _ _) h.2.1 ((tt_aloadf (p_232_393 _ _) rfl).mpr ((tt_iload (p_232_394 _ _) rfl).mpr ((tt_push (p_232_395 _ _)).mpr ((tt_bin (p_232_396 _ _)).mpr (t3_sld (p_232_397 _ _) h.2.2.1 (t2_callv (z := 219) (k := 4) (i := r2) (as := [.int (Y.2.1 ((x3 + (1 : Int32))).toNatClampNeg), .int (Y.2.1 ((x3 + (2 : Int32))).toNatClampNeg), .int (Y.2.1 ((x3 + (3 : Int32))).toNatClampNeg)]) (rest := [.int t0]) (p_232_398 _ _) mK_219 mL_219 rfl rfl (Nat.le_of_ble_eq_true rfl) rfl (Nat.le_of_ble_eq_true rfl) h.2.2.2.1 h.2.2.2.2))))))))))))))))
theorem b_232_401 {Y : sY} {d : Nat} {s : sT} {K : Option Int32 → sT → Prop} {r1 : Nat} {r2 : Nat} {x3 : Int32} {t0 : Int32} {t1 : Int32} (h : (if t0 = t1 then tT Y (d + 1) 232 814 [.float 0, .ref r1, .ref r2, .int x3] [] s K else K (some (0 : Int32)) s)) : tT Y (d + 1) 232 401 [.float 0, .ref r1, .ref r2, .int x3] [.int t1, .int t0] s K :=
  t3_cmp (p := t0 = t1) (p_232_401 _ _) rfl (fun g1 => (ifp h g1)) (fun g1 => (tt_push (p_232_404 _ _)).mpr (tt_ret2 (p_232_405 _ _) (Or.inl rfl) (ifn h g1)))
theorem b_232_420 {Y : sY} {d : Nat} {s : sT} {K : Option Int32 → sT → Prop} {r1 : Nat} {r2 : Nat} {x3 : Int32} {t0 : Int32} (h : (inR (x3 + (1 : Int32)) Y.1 ∧ (inR (x3 + (2 : Int32)) Y.1 ∧ (isO Y r2 11 ∧ tT Y d 220 0 [.ref r2, .int (Y.2.1 ((x3 + (1 : Int32))).toNatClampNeg), .int (Y.2.1 ((x3 + (2 : Int32))).toNatClampNeg)] [] s (fun r s1 => tT Y (d + 1) 232 434 [.float 0, .ref r1, .ref r2, .int x3] ((r.map Value.int).toList ++ [.int t0]) s1 K))))) : tT Y (d + 1) 232 420 [.float 0, .ref r1, .ref r2, .int x3] [.int t0] s K :=
  (tt_aload (p_232_420 _ _) rfl).mpr ((tt_aloadf (p_232_421 _ _) rfl).mpr ((tt_iload (p_232_422 _ _) rfl).mpr ((tt_push (p_232_423 _ _)).mpr ((tt_bin (p_232_424 _ _)).mpr (t3_sld (p_232_425 _ _) h.1 ((tt_aloadf (p_232_426 _ _) rfl).mpr ((tt_iload (p_232_427 _ _) rfl).mpr ((tt_push (p_232_428 _ _)).mpr ((tt_bin (p_232_429 _ _)).mpr (t3_sld (p_232_430 _ _) h.2.1 (t2_callv (z := 220) (k := 3) (i := r2) (as := [.int (Y.2.1 ((x3 + (1 : Int32))).toNatClampNeg), .int (Y.2.1 ((x3 + (2 : Int32))).toNatClampNeg)]) (rest := [.int t0]) (p_232_431 _ _) mK_220 mL_220 rfl rfl (Nat.le_of_ble_eq_true rfl) rfl (Nat.le_of_ble_eq_true rfl) h.2.2.1 h.2.2.2)))))))))))
theorem b_232_434 {Y : sY} {d : Nat} {s : sT} {K : Option Int32 → sT → Prop} {r1 : Nat} {r2 : Nat} {x3 : Int32} {t0 : Int32} {t1 : Int32} (h : (if t0 = t1 then tT Y (d + 1) 232 814 [.float 0, .ref r1, .ref r2, .int x3] [] s K else K (some (0 : Int32)) s)) : tT Y (d + 1) 232 434 [.float 0, .ref r1, .ref r2, .int x3] [.int t1, .int t0] s K :=
  t3_cmp (p := t0 = t1) (p_232_434 _ _) rfl (fun g1 => (ifp h g1)) (fun g1 => (tt_push (p_232_437 _ _)).mpr (tt_ret2 (p_232_438 _ _) (Or.inl rfl) (ifn h g1)))
theorem b_232_448 {Y : sY} {d : Nat} {s : sT} {K : Option Int32 → sT → Prop} {r1 : Nat} {r2 : Nat} {x3 : Int32} {t0 : Int32} (h : (inR (x3 + (1 : Int32)) Y.1 ∧ (isO Y r2 11 ∧ tT Y d 221 0 [.ref r2, .int (Y.2.1 ((x3 + (1 : Int32))).toNatClampNeg), .null, .null, .null] [] s (fun r s1 => tT Y (d + 1) 232 457 [.float 0, .ref r1, .ref r2, .int x3] ((r.map Value.int).toList ++ [.int t0]) s1 K)))) : tT Y (d + 1) 232 448 [.float 0, .ref r1, .ref r2, .int x3] [.int t0] s K :=
  (tt_aload (p_232_448 _ _) rfl).mpr ((tt_aloadf (p_232_449 _ _) rfl).mpr ((tt_iload (p_232_450 _ _) rfl).mpr ((tt_push (p_232_451 _ _)).mpr ((tt_bin (p_232_452 _ _)).mpr (t3_sld (p_232_453 _ _) h.1 (t2_callv (z := 221) (k := 2) (i := r2) (as := [.int (Y.2.1 ((x3 + (1 : Int32))).toNatClampNeg)]) (rest := [.int t0]) (p_232_454 _ _) mK_221 mL_221 rfl rfl (Nat.le_of_ble_eq_true rfl) rfl (Nat.le_of_ble_eq_true rfl) h.2.1 h.2.2))))))
theorem b_232_457 {Y : sY} {d : Nat} {s : sT} {K : Option Int32 → sT → Prop} {r1 : Nat} {r2 : Nat} {x3 : Int32} {t0 : Int32} {t1 : Int32} (h : (if t0 = t1 then tT Y (d + 1) 232 814 [.float 0, .ref r1, .ref r2, .int x3] [] s K else K (some (0 : Int32)) s)) : tT Y (d + 1) 232 457 [.float 0, .ref r1, .ref r2, .int x3] [.int t1, .int t0] s K :=
  t3_cmp (p := t0 = t1) (p_232_457 _ _) rfl (fun g1 => (ifp h g1)) (fun g1 => (tt_push (p_232_460 _ _)).mpr (tt_ret2 (p_232_461 _ _) (Or.inl rfl) (ifn h g1)))
theorem b_232_476 {Y : sY} {d : Nat} {s : sT} {K : Option Int32 → sT → Prop} {r1 : Nat} {r2 : Nat} {x3 : Int32} {t0 : Int32} (h : (inR (x3 + (1 : Int32)) Y.1 ∧ (inR (x3 + (2 : Int32)) Y.1 ∧ (isO Y r2 11 ∧ tT Y d 227 0 [.ref r2, .int (Y.2.1 ((x3 + (1 : Int32))).toNatClampNeg), .int (Y.2.1 ((x3 + (2 : Int32))).toNatClampNeg)] [] s (fun r s1 => tT Y (d + 1) 232 490 [.float 0, .ref r1, .ref r2, .int x3] ((r.map Value.int).toList ++ [.int t0]) s1 K))))) : tT Y (d + 1) 232 476 [.float 0, .ref r1, .ref r2, .int x3] [.int t0] s K :=
  (tt_aload (p_232_476 _ _) rfl).mpr ((tt_aloadf (p_232_477 _ _) rfl).mpr ((tt_iload (p_232_478 _ _) rfl).mpr ((tt_push (p_232_479 _ _)).mpr ((tt_bin (p_232_480 _ _)).mpr (t3_sld (p_232_481 _ _) h.1 ((tt_aloadf (p_232_482 _ _) rfl).mpr ((tt_iload (p_232_483 _ _) rfl).mpr ((tt_push (p_232_484 _ _)).mpr ((tt_bin (p_232_485 _ _)).mpr (t3_sld (p_232_486 _ _) h.2.1 (t2_callv (z := 227) (k := 3) (i := r2) (as := [.int (Y.2.1 ((x3 + (1 : Int32))).toNatClampNeg), .int (Y.2.1 ((x3 + (2 : Int32))).toNatClampNeg)]) (rest := [.int t0]) (p_232_487 _ _) mK_227 mL_227 rfl rfl (Nat.le_of_ble_eq_true rfl) rfl (Nat.le_of_ble_eq_true rfl) h.2.2.1 h.2.2.2)))))))))))
theorem b_232_490 {Y : sY} {d : Nat} {s : sT} {K : Option Int32 → sT → Prop} {r1 : Nat} {r2 : Nat} {x3 : Int32} {t0 : Int32} {t1 : Int32} (h : (if t0 = t1 then tT Y (d + 1) 232 814 [.float 0, .ref r1, .ref r2, .int x3] [] s K else K (some (0 : Int32)) s)) : tT Y (d + 1) 232 490 [.float 0, .ref r1, .ref r2, .int x3] [.int t1, .int t0] s K :=
  t3_cmp (p := t0 = t1) (p_232_490 _ _) rfl (fun g1 => (ifp h g1)) (fun g1 => (tt_push (p_232_493 _ _)).mpr (tt_ret2 (p_232_494 _ _) (Or.inl rfl) (ifn h g1)))
theorem b_232_514 {Y : sY} {d : Nat} {s : sT} {K : Option Int32 → sT → Prop} {r1 : Nat} {r2 : Nat} {x3 : Int32} {t0 : Int32} (h : (inR (x3 + (1 : Int32)) Y.1 ∧ (inR (x3 + (2 : Int32)) Y.1 ∧ (inR (x3 + (3 : Int32)) Y.1 ∧ (isO Y r2 11 ∧ tT Y d 228 0 [.ref r2, .int (Y.2.1 ((x3 + (1 : Int32))).toNatClampNeg), .int (Y.2.1 ((x3 + (2 : Int32))).toNatClampNeg), .int (Y.2.1 ((x3 + (3 : Int32))).toNatClampNeg)] [] s (fun r s1 => tT Y (d + 1) 232 533 [.float 0, .ref r1, .ref r2, .int x3] ((r.map Value.int).toList ++ [.int t0]) s1 K)))))) : tT Y (d + 1) 232 514 [.float 0, .ref r1, .ref r2, .int x3] [.int t0] s K :=
  (tt_aload (p_232_514 _ _) rfl).mpr ((tt_aloadf (p_232_515 _ _) rfl).mpr ((tt_iload (p_232_516 _ _) rfl).mpr ((tt_push (p_232_517 _ _)).mpr ((tt_bin (p_232_518 _ _)).mpr (t3_sld (p_232_519 _ _) h.1 ((tt_aloadf (p_232_520 _ _) rfl).mpr ((tt_iload (p_232_521 _ _) rfl).mpr ((tt_push (p_232_522 _ _)).mpr ((tt_bin (p_232_523 _ _)).mpr (t3_sld (p_232_524 _ _) h.2.1 ((tt_aloadf (p_232_525 _ _) rfl).mpr ((tt_iload (p_232_526 _ _) rfl).mpr ((tt_push (p_232_527 _ _)).mpr ((tt_bin (p_232_528 _ _)).mpr (t3_sld (p_232_529 _ _) h.2.2.1 (t2_callv (z := 228) (k := 4) (i := r2) (as := [.int (Y.2.1 ((x3 + (1 : Int32))).toNatClampNeg), .int (Y.2.1 ((x3 + (2 : Int32))).toNatClampNeg), .int (Y.2.1 ((x3 + (3 : Int32))).toNatClampNeg)]) (rest := [.int t0]) (p_232_530 _ _) mK_228 mL_228 rfl rfl (Nat.le_of_ble_eq_true rfl) rfl (Nat.le_of_ble_eq_true rfl) h.2.2.2.1 h.2.2.2.2))))))))))))))))
theorem b_232_533 {Y : sY} {d : Nat} {s : sT} {K : Option Int32 → sT → Prop} {r1 : Nat} {r2 : Nat} {x3 : Int32} {t0 : Int32} {t1 : Int32} (h : (if t0 = t1 then tT Y (d + 1) 232 814 [.float 0, .ref r1, .ref r2, .int x3] [] s K else K (some (0 : Int32)) s)) : tT Y (d + 1) 232 533 [.float 0, .ref r1, .ref r2, .int x3] [.int t1, .int t0] s K :=
  t3_cmp (p := t0 = t1) (p_232_533 _ _) rfl (fun g1 => (ifp h g1)) (fun g1 => (tt_push (p_232_536 _ _)).mpr (tt_ret2 (p_232_537 _ _) (Or.inl rfl) (ifn h g1)))
theorem b_232_542 {Y : sY} {d : Nat} {s : sT} {K : Option Int32 → sT → Prop} {r1 : Nat} {r2 : Nat} {x3 : Int32} {t0 : Int32} (h : (isO Y r2 11 ∧ tT Y d 191 0 [.ref r2] [] s (fun r s1 => tT Y (d + 1) 232 546 [.float 0, .ref r1, .ref r2, .int x3] ((r.map Value.int).toList ++ [.int t0]) s1 K))) : tT Y (d + 1) 232 542 [.float 0, .ref r1, .ref r2, .int x3] [.int t0] s K :=
  (tt_aload (p_232_542 _ _) rfl).mpr (t2_callv (z := 191) (k := 1) (i := r2) (as := []) (rest := [.int t0]) (p_232_543 _ _) mK_191 mL_191 rfl rfl (Nat.le_of_ble_eq_true rfl) rfl (Nat.le_of_ble_eq_true rfl) h.1 h.2)
theorem b_232_546 {Y : sY} {d : Nat} {s : sT} {K : Option Int32 → sT → Prop} {r1 : Nat} {r2 : Nat} {x3 : Int32} {t0 : Int32} {t1 : Int32} (h : (if t0 = t1 then tT Y (d + 1) 232 814 [.float 0, .ref r1, .ref r2, .int x3] [] s K else K (some (0 : Int32)) s)) : tT Y (d + 1) 232 546 [.float 0, .ref r1, .ref r2, .int x3] [.int t1, .int t0] s K :=
  t3_cmp (p := t0 = t1) (p_232_546 _ _) rfl (fun g1 => (ifp h g1)) (fun g1 => (tt_push (p_232_549 _ _)).mpr (tt_ret2 (p_232_550 _ _) (Or.inl rfl) (ifn h g1)))
theorem b_232_560 {Y : sY} {d : Nat} {s : sT} {K : Option Int32 → sT → Prop} {r1 : Nat} {r2 : Nat} {x3 : Int32} {t0 : Int32} (h : (inR (x3 + (1 : Int32)) Y.1 ∧ (isO Y r2 11 ∧ tT Y d 196 0 [.ref r2, .int (Y.2.1 ((x3 + (1 : Int32))).toNatClampNeg)] [] s (fun r s1 => tT Y (d + 1) 232 569 [.float 0, .ref r1, .ref r2, .int x3] ((r.map Value.int).toList ++ [.int t0]) s1 K)))) : tT Y (d + 1) 232 560 [.float 0, .ref r1, .ref r2, .int x3] [.int t0] s K :=
  (tt_aload (p_232_560 _ _) rfl).mpr ((tt_aloadf (p_232_561 _ _) rfl).mpr ((tt_iload (p_232_562 _ _) rfl).mpr ((tt_push (p_232_563 _ _)).mpr ((tt_bin (p_232_564 _ _)).mpr (t3_sld (p_232_565 _ _) h.1 (t2_callv (z := 196) (k := 2) (i := r2) (as := [.int (Y.2.1 ((x3 + (1 : Int32))).toNatClampNeg)]) (rest := [.int t0]) (p_232_566 _ _) mK_196 mL_196 rfl rfl (Nat.le_of_ble_eq_true rfl) rfl (Nat.le_of_ble_eq_true rfl) h.2.1 h.2.2))))))
theorem b_232_569 {Y : sY} {d : Nat} {s : sT} {K : Option Int32 → sT → Prop} {r1 : Nat} {r2 : Nat} {x3 : Int32} {t0 : Int32} {t1 : Int32} (h : (if t0 = t1 then tT Y (d + 1) 232 814 [.float 0, .ref r1, .ref r2, .int x3] [] s K else K (some (0 : Int32)) s)) : tT Y (d + 1) 232 569 [.float 0, .ref r1, .ref r2, .int x3] [.int t1, .int t0] s K :=
  t3_cmp (p := t0 = t1) (p_232_569 _ _) rfl (fun g1 => (ifp h g1)) (fun g1 => (tt_push (p_232_572 _ _)).mpr (tt_ret2 (p_232_573 _ _) (Or.inl rfl) (ifn h g1)))
theorem b_232_583 {Y : sY} {d : Nat} {s : sT} {K : Option Int32 → sT → Prop} {r1 : Nat} {r2 : Nat} {x3 : Int32} {t0 : Int32} (h : (inR (x3 + (1 : Int32)) Y.1 ∧ (isO Y r2 11 ∧ tT Y d 202 0 [.ref r2, .int (Y.2.1 ((x3 + (1 : Int32))).toNatClampNeg), .null, .null] [] s (fun r s1 => tT Y (d + 1) 232 592 [.float 0, .ref r1, .ref r2, .int x3] ((r.map Value.int).toList ++ [.int t0]) s1 K)))) : tT Y (d + 1) 232 583 [.float 0, .ref r1, .ref r2, .int x3] [.int t0] s K :=
  (tt_aload (p_232_583 _ _) rfl).mpr ((tt_aloadf (p_232_584 _ _) rfl).mpr ((tt_iload (p_232_585 _ _) rfl).mpr ((tt_push (p_232_586 _ _)).mpr ((tt_bin (p_232_587 _ _)).mpr (t3_sld (p_232_588 _ _) h.1 (t2_callv (z := 202) (k := 2) (i := r2) (as := [.int (Y.2.1 ((x3 + (1 : Int32))).toNatClampNeg)]) (rest := [.int t0]) (p_232_589 _ _) mK_202 mL_202 rfl rfl (Nat.le_of_ble_eq_true rfl) rfl (Nat.le_of_ble_eq_true rfl) h.2.1 h.2.2))))))
theorem b_232_592 {Y : sY} {d : Nat} {s : sT} {K : Option Int32 → sT → Prop} {r1 : Nat} {r2 : Nat} {x3 : Int32} {t0 : Int32} {t1 : Int32} (h : (if t0 = t1 then tT Y (d + 1) 232 814 [.float 0, .ref r1, .ref r2, .int x3] [] s K else K (some (0 : Int32)) s)) : tT Y (d + 1) 232 592 [.float 0, .ref r1, .ref r2, .int x3] [.int t1, .int t0] s K :=
  t3_cmp (p := t0 = t1) (p_232_592 _ _) rfl (fun g1 => (ifp h g1)) (fun g1 => (tt_push (p_232_595 _ _)).mpr (tt_ret2 (p_232_596 _ _) (Or.inl rfl) (ifn h g1)))
theorem b_232_611 {Y : sY} {d : Nat} {s : sT} {K : Option Int32 → sT → Prop} {r1 : Nat} {r2 : Nat} {x3 : Int32} {t0 : Int32} (h : (inR (x3 + (1 : Int32)) Y.1 ∧ (inR (x3 + (2 : Int32)) Y.1 ∧ (isO Y r2 11 ∧ tT Y d 197 0 [.ref r2, .int (Y.2.1 ((x3 + (1 : Int32))).toNatClampNeg), .int (Y.2.1 ((x3 + (2 : Int32))).toNatClampNeg)] [] s (fun r s1 => tT Y (d + 1) 232 625 [.float 0, .ref r1, .ref r2, .int x3] ((r.map Value.int).toList ++ [.int t0]) s1 K))))) : tT Y (d + 1) 232 611 [.float 0, .ref r1, .ref r2, .int x3] [.int t0] s K :=
  (tt_aload (p_232_611 _ _) rfl).mpr ((tt_aloadf (p_232_612 _ _) rfl).mpr ((tt_iload (p_232_613 _ _) rfl).mpr ((tt_push (p_232_614 _ _)).mpr ((tt_bin (p_232_615 _ _)).mpr (t3_sld (p_232_616 _ _) h.1 ((tt_aloadf (p_232_617 _ _) rfl).mpr ((tt_iload (p_232_618 _ _) rfl).mpr ((tt_push (p_232_619 _ _)).mpr ((tt_bin (p_232_620 _ _)).mpr (t3_sld (p_232_621 _ _) h.2.1 (t2_callv (z := 197) (k := 3) (i := r2) (as := [.int (Y.2.1 ((x3 + (1 : Int32))).toNatClampNeg), .int (Y.2.1 ((x3 + (2 : Int32))).toNatClampNeg)]) (rest := [.int t0]) (p_232_622 _ _) mK_197 mL_197 rfl rfl (Nat.le_of_ble_eq_true rfl) rfl (Nat.le_of_ble_eq_true rfl) h.2.2.1 h.2.2.2)))))))))))
theorem b_232_625 {Y : sY} {d : Nat} {s : sT} {K : Option Int32 → sT → Prop} {r1 : Nat} {r2 : Nat} {x3 : Int32} {t0 : Int32} {t1 : Int32} (h : (if t0 = t1 then tT Y (d + 1) 232 814 [.float 0, .ref r1, .ref r2, .int x3] [] s K else K (some (0 : Int32)) s)) : tT Y (d + 1) 232 625 [.float 0, .ref r1, .ref r2, .int x3] [.int t1, .int t0] s K :=
  t3_cmp (p := t0 = t1) (p_232_625 _ _) rfl (fun g1 => (ifp h g1)) (fun g1 => (tt_push (p_232_628 _ _)).mpr (tt_ret2 (p_232_629 _ _) (Or.inl rfl) (ifn h g1)))
theorem b_232_649 {Y : sY} {d : Nat} {s : sT} {K : Option Int32 → sT → Prop} {r1 : Nat} {r2 : Nat} {x3 : Int32} {t0 : Int32} (h : (inR (x3 + (1 : Int32)) Y.1 ∧ (inR (x3 + (2 : Int32)) Y.1 ∧ (inR (x3 + (3 : Int32)) Y.1 ∧ (isO Y r2 11 ∧ tT Y d 199 0 [.ref r2, .int (Y.2.1 ((x3 + (1 : Int32))).toNatClampNeg), .int (Y.2.1 ((x3 + (2 : Int32))).toNatClampNeg), .int (Y.2.1 ((x3 + (3 : Int32))).toNatClampNeg), .null, .null] [] s (fun r s1 => tT Y (d + 1) 232 668 [.float 0, .ref r1, .ref r2, .int x3] ((r.map Value.int).toList ++ [.int t0]) s1 K)))))) : tT Y (d + 1) 232 649 [.float 0, .ref r1, .ref r2, .int x3] [.int t0] s K :=
  (tt_aload (p_232_649 _ _) rfl).mpr ((tt_aloadf (p_232_650 _ _) rfl).mpr ((tt_iload (p_232_651 _ _) rfl).mpr ((tt_push (p_232_652 _ _)).mpr ((tt_bin (p_232_653 _ _)).mpr (t3_sld (p_232_654 _ _) h.1 ((tt_aloadf (p_232_655 _ _) rfl).mpr ((tt_iload (p_232_656 _ _) rfl).mpr ((tt_push (p_232_657 _ _)).mpr ((tt_bin (p_232_658 _ _)).mpr (t3_sld (p_232_659 _ _) h.2.1 ((tt_aloadf (p_232_660 _ _) rfl).mpr ((tt_iload (p_232_661 _ _) rfl).mpr ((tt_push (p_232_662 _ _)).mpr ((tt_bin (p_232_663 _ _)).mpr (t3_sld (p_232_664 _ _) h.2.2.1 (t2_callv (z := 199) (k := 4) (i := r2) (as := [.int (Y.2.1 ((x3 + (1 : Int32))).toNatClampNeg), .int (Y.2.1 ((x3 + (2 : Int32))).toNatClampNeg), .int (Y.2.1 ((x3 + (3 : Int32))).toNatClampNeg)]) (rest := [.int t0]) (p_232_665 _ _) mK_199 mL_199 rfl rfl (Nat.le_of_ble_eq_true rfl) rfl (Nat.le_of_ble_eq_true rfl) h.2.2.2.1 h.2.2.2.2))))))))))))))))
theorem b_232_668 {Y : sY} {d : Nat} {s : sT} {K : Option Int32 → sT → Prop} {r1 : Nat} {r2 : Nat} {x3 : Int32} {t0 : Int32} {t1 : Int32} (h : (if t0 = t1 then tT Y (d + 1) 232 814 [.float 0, .ref r1, .ref r2, .int x3] [] s K else K (some (0 : Int32)) s)) : tT Y (d + 1) 232 668 [.float 0, .ref r1, .ref r2, .int x3] [.int t1, .int t0] s K :=
  t3_cmp (p := t0 = t1) (p_232_668 _ _) rfl (fun g1 => (ifp h g1)) (fun g1 => (tt_push (p_232_671 _ _)).mpr (tt_ret2 (p_232_672 _ _) (Or.inl rfl) (ifn h g1)))
theorem b_232_677 {Y : sY} {d : Nat} {s : sT} {K : Option Int32 → sT → Prop} {r1 : Nat} {r2 : Nat} {x3 : Int32} {t0 : Int32} (h : (isO Y r2 11 ∧ tT Y d 200 0 [.ref r2] [] s (fun r s1 => tT Y (d + 1) 232 681 [.float 0, .ref r1, .ref r2, .int x3] ((r.map Value.int).toList ++ [.int t0]) s1 K))) : tT Y (d + 1) 232 677 [.float 0, .ref r1, .ref r2, .int x3] [.int t0] s K :=
  (tt_aload (p_232_677 _ _) rfl).mpr (t2_callv (z := 200) (k := 1) (i := r2) (as := []) (rest := [.int t0]) (p_232_678 _ _) mK_200 mL_200 rfl rfl (Nat.le_of_ble_eq_true rfl) rfl (Nat.le_of_ble_eq_true rfl) h.1 h.2)
theorem b_232_681 {Y : sY} {d : Nat} {s : sT} {K : Option Int32 → sT → Prop} {r1 : Nat} {r2 : Nat} {x3 : Int32} {t0 : Int32} {t1 : Int32} (h : (if t0 = t1 then tT Y (d + 1) 232 814 [.float 0, .ref r1, .ref r2, .int x3] [] s K else K (some (0 : Int32)) s)) : tT Y (d + 1) 232 681 [.float 0, .ref r1, .ref r2, .int x3] [.int t1, .int t0] s K :=
  t3_cmp (p := t0 = t1) (p_232_681 _ _) rfl (fun g1 => (ifp h g1)) (fun g1 => (tt_push (p_232_684 _ _)).mpr (tt_ret2 (p_232_685 _ _) (Or.inl rfl) (ifn h g1)))
theorem b_232_690 {Y : sY} {d : Nat} {s : sT} {K : Option Int32 → sT → Prop} {r1 : Nat} {r2 : Nat} {x3 : Int32} {t0 : Int32} (h : (isO Y r2 11 ∧ tT Y d 206 0 [.ref r2] [] s (fun r s1 => tT Y (d + 1) 232 694 [.float 0, .ref r1, .ref r2, .int x3] ((r.map Value.int).toList ++ [.int t0]) s1 K))) : tT Y (d + 1) 232 690 [.float 0, .ref r1, .ref r2, .int x3] [.int t0] s K :=
  (tt_aload (p_232_690 _ _) rfl).mpr (t2_callv (z := 206) (k := 1) (i := r2) (as := []) (rest := [.int t0]) (p_232_691 _ _) mK_206 mL_206 rfl rfl (Nat.le_of_ble_eq_true rfl) rfl (Nat.le_of_ble_eq_true rfl) h.1 h.2)
theorem b_232_694 {Y : sY} {d : Nat} {s : sT} {K : Option Int32 → sT → Prop} {r1 : Nat} {r2 : Nat} {x3 : Int32} {t0 : Int32} {t1 : Int32} (h : (if t0 = t1 then tT Y (d + 1) 232 814 [.float 0, .ref r1, .ref r2, .int x3] [] s K else K (some (0 : Int32)) s)) : tT Y (d + 1) 232 694 [.float 0, .ref r1, .ref r2, .int x3] [.int t1, .int t0] s K :=
  t3_cmp (p := t0 = t1) (p_232_694 _ _) rfl (fun g1 => (ifp h g1)) (fun g1 => (tt_push (p_232_697 _ _)).mpr (tt_ret2 (p_232_698 _ _) (Or.inl rfl) (ifn h g1)))
theorem b_232_708 {Y : sY} {d : Nat} {s : sT} {K : Option Int32 → sT → Prop} {r1 : Nat} {r2 : Nat} {x3 : Int32} {t0 : Int32} (h : (inR (x3 + (1 : Int32)) Y.1 ∧ (isO Y r2 11 ∧ tT Y d 207 0 [.ref r2, .int (Y.2.1 ((x3 + (1 : Int32))).toNatClampNeg), .null] [] s (fun r s1 => tT Y (d + 1) 232 717 [.float 0, .ref r1, .ref r2, .int x3] ((r.map Value.int).toList ++ [.int t0]) s1 K)))) : tT Y (d + 1) 232 708 [.float 0, .ref r1, .ref r2, .int x3] [.int t0] s K :=
  (tt_aload (p_232_708 _ _) rfl).mpr ((tt_aloadf (p_232_709 _ _) rfl).mpr ((tt_iload (p_232_710 _ _) rfl).mpr ((tt_push (p_232_711 _ _)).mpr ((tt_bin (p_232_712 _ _)).mpr (t3_sld (p_232_713 _ _) h.1 (t2_callv (z := 207) (k := 2) (i := r2) (as := [.int (Y.2.1 ((x3 + (1 : Int32))).toNatClampNeg)]) (rest := [.int t0]) (p_232_714 _ _) mK_207 mL_207 rfl rfl (Nat.le_of_ble_eq_true rfl) rfl (Nat.le_of_ble_eq_true rfl) h.2.1 h.2.2))))))
theorem b_232_717 {Y : sY} {d : Nat} {s : sT} {K : Option Int32 → sT → Prop} {r1 : Nat} {r2 : Nat} {x3 : Int32} {t0 : Int32} {t1 : Int32} (h : (if t0 = t1 then tT Y (d + 1) 232 814 [.float 0, .ref r1, .ref r2, .int x3] [] s K else K (some (0 : Int32)) s)) : tT Y (d + 1) 232 717 [.float 0, .ref r1, .ref r2, .int x3] [.int t1, .int t0] s K :=
  t3_cmp (p := t0 = t1) (p_232_717 _ _) rfl (fun g1 => (ifp h g1)) (fun g1 => (tt_push (p_232_720 _ _)).mpr (tt_ret2 (p_232_721 _ _) (Or.inl rfl) (ifn h g1)))
theorem b_232_726 {Y : sY} {d : Nat} {s : sT} {K : Option Int32 → sT → Prop} {r1 : Nat} {r2 : Nat} {x3 : Int32} {t0 : Int32} (h : (isO Y r2 11 ∧ tT Y d 193 0 [.ref r2, .null, .null] [] s (fun r s1 => tT Y (d + 1) 232 730 [.float 0, .ref r1, .ref r2, .int x3] ((r.map Value.int).toList ++ [.int t0]) s1 K))) : tT Y (d + 1) 232 726 [.float 0, .ref r1, .ref r2, .int x3] [.int t0] s K :=
  (tt_aload (p_232_726 _ _) rfl).mpr (t2_callv (z := 193) (k := 1) (i := r2) (as := []) (rest := [.int t0]) (p_232_727 _ _) mK_193 mL_193 rfl rfl (Nat.le_of_ble_eq_true rfl) rfl (Nat.le_of_ble_eq_true rfl) h.1 h.2)
theorem b_232_730 {Y : sY} {d : Nat} {s : sT} {K : Option Int32 → sT → Prop} {r1 : Nat} {r2 : Nat} {x3 : Int32} {t0 : Int32} {t1 : Int32} (h : (if t0 = t1 then tT Y (d + 1) 232 814 [.float 0, .ref r1, .ref r2, .int x3] [] s K else K (some (0 : Int32)) s)) : tT Y (d + 1) 232 730 [.float 0, .ref r1, .ref r2, .int x3] [.int t1, .int t0] s K :=
  t3_cmp (p := t0 = t1) (p_232_730 _ _) rfl (fun g1 => (ifp h g1)) (fun g1 => (tt_push (p_232_733 _ _)).mpr (tt_ret2 (p_232_734 _ _) (Or.inl rfl) (ifn h g1)))
theorem b_232_749 {Y : sY} {d : Nat} {s : sT} {K : Option Int32 → sT → Prop} {r1 : Nat} {r2 : Nat} {x3 : Int32} {t0 : Int32} (h : (inR (x3 + (1 : Int32)) Y.1 ∧ (inR (x3 + (2 : Int32)) Y.1 ∧ (isO Y r2 11 ∧ tT Y d 195 0 [.ref r2, .int (Y.2.1 ((x3 + (1 : Int32))).toNatClampNeg), .int (Y.2.1 ((x3 + (2 : Int32))).toNatClampNeg)] [] s (fun r s1 => tT Y (d + 1) 232 763 [.float 0, .ref r1, .ref r2, .int x3] ((r.map Value.int).toList ++ [.int t0]) s1 K))))) : tT Y (d + 1) 232 749 [.float 0, .ref r1, .ref r2, .int x3] [.int t0] s K :=
  (tt_aload (p_232_749 _ _) rfl).mpr ((tt_aloadf (p_232_750 _ _) rfl).mpr ((tt_iload (p_232_751 _ _) rfl).mpr ((tt_push (p_232_752 _ _)).mpr ((tt_bin (p_232_753 _ _)).mpr (t3_sld (p_232_754 _ _) h.1 ((tt_aloadf (p_232_755 _ _) rfl).mpr ((tt_iload (p_232_756 _ _) rfl).mpr ((tt_push (p_232_757 _ _)).mpr ((tt_bin (p_232_758 _ _)).mpr (t3_sld (p_232_759 _ _) h.2.1 (t2_callv (z := 195) (k := 3) (i := r2) (as := [.int (Y.2.1 ((x3 + (1 : Int32))).toNatClampNeg), .int (Y.2.1 ((x3 + (2 : Int32))).toNatClampNeg)]) (rest := [.int t0]) (p_232_760 _ _) mK_195 mL_195 rfl rfl (Nat.le_of_ble_eq_true rfl) rfl (Nat.le_of_ble_eq_true rfl) h.2.2.1 h.2.2.2)))))))))))
theorem b_232_763 {Y : sY} {d : Nat} {s : sT} {K : Option Int32 → sT → Prop} {r1 : Nat} {r2 : Nat} {x3 : Int32} {t0 : Int32} {t1 : Int32} (h : (if t0 = t1 then tT Y (d + 1) 232 814 [.float 0, .ref r1, .ref r2, .int x3] [] s K else K (some (0 : Int32)) s)) : tT Y (d + 1) 232 763 [.float 0, .ref r1, .ref r2, .int x3] [.int t1, .int t0] s K :=
  t3_cmp (p := t0 = t1) (p_232_763 _ _) rfl (fun g1 => (ifp h g1)) (fun g1 => (tt_push (p_232_766 _ _)).mpr (tt_ret2 (p_232_767 _ _) (Or.inl rfl) (ifn h g1)))
theorem b_232_777 {Y : sY} {d : Nat} {s : sT} {K : Option Int32 → sT → Prop} {r1 : Nat} {r2 : Nat} {x3 : Int32} {t0 : Int32} (h : (inR (x3 + (1 : Int32)) Y.1 ∧ (isO Y r2 11 ∧ tT Y d 229 0 [.ref r2, .int (Y.2.1 ((x3 + (1 : Int32))).toNatClampNeg), .null, .null] [] s (fun r s1 => tT Y (d + 1) 232 786 [.float 0, .ref r1, .ref r2, .int x3] ((r.map Value.int).toList ++ [.int t0]) s1 K)))) : tT Y (d + 1) 232 777 [.float 0, .ref r1, .ref r2, .int x3] [.int t0] s K :=
  (tt_aload (p_232_777 _ _) rfl).mpr ((tt_aloadf (p_232_778 _ _) rfl).mpr ((tt_iload (p_232_779 _ _) rfl).mpr ((tt_push (p_232_780 _ _)).mpr ((tt_bin (p_232_781 _ _)).mpr (t3_sld (p_232_782 _ _) h.1 (t2_callv (z := 229) (k := 2) (i := r2) (as := [.int (Y.2.1 ((x3 + (1 : Int32))).toNatClampNeg)]) (rest := [.int t0]) (p_232_783 _ _) mK_229 mL_229 rfl rfl (Nat.le_of_ble_eq_true rfl) rfl (Nat.le_of_ble_eq_true rfl) h.2.1 h.2.2))))))
theorem b_232_786 {Y : sY} {d : Nat} {s : sT} {K : Option Int32 → sT → Prop} {r1 : Nat} {r2 : Nat} {x3 : Int32} {t0 : Int32} {t1 : Int32} (h : (if t0 = t1 then tT Y (d + 1) 232 814 [.float 0, .ref r1, .ref r2, .int x3] [] s K else K (some (0 : Int32)) s)) : tT Y (d + 1) 232 786 [.float 0, .ref r1, .ref r2, .int x3] [.int t1, .int t0] s K :=
  t3_cmp (p := t0 = t1) (p_232_786 _ _) rfl (fun g1 => (ifp h g1)) (fun g1 => (tt_push (p_232_789 _ _)).mpr (tt_ret2 (p_232_790 _ _) (Or.inl rfl) (ifn h g1)))
theorem b_232_800 {Y : sY} {d : Nat} {s : sT} {K : Option Int32 → sT → Prop} {r1 : Nat} {r2 : Nat} {x3 : Int32} {t0 : Int32} (h : (inR (x3 + (1 : Int32)) Y.1 ∧ (isO Y r2 11 ∧ tT Y d 230 0 [.ref r2, .int (Y.2.1 ((x3 + (1 : Int32))).toNatClampNeg), .null, .null] [] s (fun r s1 => tT Y (d + 1) 232 809 [.float 0, .ref r1, .ref r2, .int x3] ((r.map Value.int).toList ++ [.int t0]) s1 K)))) : tT Y (d + 1) 232 800 [.float 0, .ref r1, .ref r2, .int x3] [.int t0] s K :=
  (tt_aload (p_232_800 _ _) rfl).mpr ((tt_aloadf (p_232_801 _ _) rfl).mpr ((tt_iload (p_232_802 _ _) rfl).mpr ((tt_push (p_232_803 _ _)).mpr ((tt_bin (p_232_804 _ _)).mpr (t3_sld (p_232_805 _ _) h.1 (t2_callv (z := 230) (k := 2) (i := r2) (as := [.int (Y.2.1 ((x3 + (1 : Int32))).toNatClampNeg)]) (rest := [.int t0]) (p_232_806 _ _) mK_230 mL_230 rfl rfl (Nat.le_of_ble_eq_true rfl) rfl (Nat.le_of_ble_eq_true rfl) h.2.1 h.2.2))))))
theorem b_232_809 {Y : sY} {d : Nat} {s : sT} {K : Option Int32 → sT → Prop} {r1 : Nat} {r2 : Nat} {x3 : Int32} {t0 : Int32} {t1 : Int32} (h : (if t0 = t1 then tT Y (d + 1) 232 814 [.float 0, .ref r1, .ref r2, .int x3] [] s K else K (some (0 : Int32)) s)) : tT Y (d + 1) 232 809 [.float 0, .ref r1, .ref r2, .int x3] [.int t1, .int t0] s K :=
  t3_cmp (p := t0 = t1) (p_232_809 _ _) rfl (fun g1 => (ifp h g1)) (fun g1 => (tt_push (p_232_812 _ _)).mpr (tt_ret2 (p_232_813 _ _) (Or.inl rfl) (ifn h g1)))
theorem b_232_814 {Y : sY} {d : Nat} {s : sT} {K : Option Int32 → sT → Prop} {r1 : Nat} {r2 : Nat} {x3 : Int32} (h : tT Y (d + 1) 232 18 [.float 0, .ref r1, .ref r2, .int (x3 + 5)] [] s K) : tT Y (d + 1) 232 814 [.float 0, .ref r1, .ref r2, .int x3] [] s K :=
  (tt_iinc (p_232_814 _ _) rfl rfl rfl).mpr ((tt_goto (p_232_817 _ _)).mpr (h))
