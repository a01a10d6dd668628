/-! BLOCKS (written by wip/whole/blocks.py) -/
/-! InclusionProver.image.(I)Z -/
theorem p_136_0 (L : Nat) (xs : Nat → Int32) : ll_P L xs 136 0 = some (.inl (lo_iload 1 1)) := (P_136 L xs 0).trans rfl
theorem p_136_1 (L : Nat) (xs : Nat → Int32) : ll_P L xs 136 1 = some (.inl (lo_if 9 4 (fun x => decide (x < 0)))) := (P_136 L xs 1).trans rfl
theorem p_136_4 (L : Nat) (xs : Nat → Int32) : ll_P L xs 136 4 = some (.inl (lo_iload 5 1)) := (P_136 L xs 4).trans rfl
theorem p_136_5 (L : Nat) (xs : Nat → Int32) : ll_P L xs 136 5 = some (.inl (lo_push 6 (.int 2))) := (P_136 L xs 5).trans rfl
theorem p_136_6 (L : Nat) (xs : Nat → Int32) : ll_P L xs 136 6 = some (.inl (lo_cmp 11 9 (fun x y => decide (x < y)))) := (P_136 L xs 6).trans rfl
theorem p_136_9 (L : Nat) (xs : Nat → Int32) : ll_P L xs 136 9 = some (.inl (lo_push 10 (.int 0))) := (P_136 L xs 9).trans rfl
theorem p_136_10 (L : Nat) (xs : Nat → Int32) : ll_P L xs 136 10 = some (.inr (.inr 2)) := (P_136 L xs 10).trans rfl
theorem p_136_11 (L : Nat) (xs : Nat → Int32) : ll_P L xs 136 11 = some (.inl (lo_aload 12 0)) := (P_136 L xs 11).trans rfl
theorem p_136_12 (L : Nat) (xs : Nat → Int32) : ll_P L xs 136 12 = some (.inl (lo_getf 15 10 9)) := (P_136 L xs 12).trans rfl
theorem p_136_15 (L : Nat) (xs : Nat → Int32) : ll_P L xs 136 15 = some (.inl (lo_iload 16 1)) := (P_136 L xs 15).trans rfl
theorem p_136_16 (L : Nat) (xs : Nat → Int32) : ll_P L xs 136 16 = some (.inl (lo_aald 17)) := (P_136 L xs 16).trans rfl
theorem p_136_17 (L : Nat) (xs : Nat → Int32) : ll_P L xs 136 17 = some (.inl (lo_aload 18 0)) := (P_136 L xs 17).trans rfl
theorem p_136_18 (L : Nat) (xs : Nat → Int32) : ll_P L xs 136 18 = some (.inl (lo_getf 21 10 8)) := (P_136 L xs 18).trans rfl
theorem p_136_21 (L : Nat) (xs : Nat → Int32) : ll_P L xs 136 21 = some (.inr (.inl (30, 2, 24))) := (P_136 L xs 21).trans rfl
theorem p_136_24 (L : Nat) (xs : Nat → Int32) : ll_P L xs 136 24 = some (.inl (lo_aload 25 0)) := (P_136 L xs 24).trans rfl
theorem p_136_25 (L : Nat) (xs : Nat → Int32) : ll_P L xs 136 25 = some (.inl (lo_getf 28 10 10)) := (P_136 L xs 25).trans rfl
theorem p_136_28 (L : Nat) (xs : Nat → Int32) : ll_P L xs 136 28 = some (.inl (lo_iload 29 1)) := (P_136 L xs 28).trans rfl
theorem p_136_29 (L : Nat) (xs : Nat → Int32) : ll_P L xs 136 29 = some (.inl (lo_push 30 (.int 1))) := (P_136 L xs 29).trans rfl
theorem p_136_30 (L : Nat) (xs : Nat → Int32) : ll_P L xs 136 30 = some (.inl (lo_ast 31 1)) := (P_136 L xs 30).trans rfl
theorem p_136_31 (L : Nat) (xs : Nat → Int32) : ll_P L xs 136 31 = some (.inl (lo_push 32 (.int 1))) := (P_136 L xs 31).trans rfl
theorem p_136_32 (L : Nat) (xs : Nat → Int32) : ll_P L xs 136 32 = some (.inr (.inr 2)) := (P_136 L xs 32).trans rfl
theorem b_136_0 {Y : sY} {d : Nat} {s : sT} {K : Option Int32 → sT → Prop} {r0 : Nat} {x1 : Int32} (h : (if x1 < 0 then K (some (0 : Int32)) s else (if x1 < (2 : Int32) then (∃ a3, (isO Y r0 10 ∧ s.2 r0 9 = some a3) ∧ (∃ c7 m5 a6, (isQ Y a3 c7 m5 ∧ inR x1 m5 ∧ s.2 a3 (x1).toNatClampNeg = some a6) ∧ (∃ a9, (isO Y r0 10 ∧ s.2 r0 8 = some a9) ∧ (isO Y a6 3 ∧ tT Y d 30 0 [.ref a6, .ref a9, .null] [] s (fun r s1 => tT Y (d + 1) 136 24 [.ref r0, .int x1] ((r.map Value.int).toList ++ []) s1 K))))) else K (some (0 : Int32)) s))) : tT Y (d + 1) 136 0 [.ref r0, .int x1] [] s K :=
  (tt_iload (p_136_0 _ _) rfl).mpr (t3_if (p := x1 < 0) (p_136_1 _ _) rfl (fun g1 => (tt_push (p_136_9 _ _)).mpr (tt_ret2 (p_136_10 _ _) (Or.inl rfl) (ifp h g1))) (fun g1 => (tt_iload (p_136_4 _ _) rfl).mpr ((tt_push (p_136_5 _ _)).mpr (t3_cmp (p := x1 < (2 : Int32)) (p_136_6 _ _) rfl (fun g2 => (tt_aload (p_136_11 _ _) rfl).mpr (Exists.elim (ifp (ifn h g1) g2) (fun a3 h4 => t3_getr (p_136_12 _ _) (isI_10_9) h4.1.1 h4.1.2 ((tt_iload (p_136_15 _ _) rfl).mpr (Exists.elim h4.2 (fun c7 h8q0 => Exists.elim h8q0 (fun m5 h8q1 => Exists.elim h8q1 (fun a6 h8 => t3_aald (p_136_16 _ _) h8.1.1 h8.1.2.1 h8.1.2.2 ((tt_aload (p_136_17 _ _) rfl).mpr (Exists.elim h8.2 (fun a9 h10 => t3_getr (p_136_18 _ _) (isI_10_8) h10.1.1 h10.1.2 (t2_callv (z := 30) (k := 2) (i := a6) (as := [.ref a9]) (rest := []) (p_136_21 _ _) mK_30 mL_30 rfl rfl (Nat.le_of_ble_eq_true rfl) rfl (Nat.le_of_ble_eq_true rfl) h10.2.1 h10.2.2)))))))))))) (fun g2 => (tt_push (p_136_9 _ _)).mpr (tt_ret2 (p_136_10 _ _) (Or.inl rfl) (ifn (ifn h g1) g2)))))))
theorem b_136_24 {Y : sY} {d : Nat} {s : sT} {K : Option Int32 → sT → Prop} {r0 : Nat} {x1 : Int32} (h : (∃ a1, (isO Y r0 10 ∧ s.2 r0 10 = some a1) ∧ (∃ m3, (isA Y a1 1 m3 ∧ inR x1 m3 ∧ ((1 : Int32) = 0 ∨ (1 : Int32) = 1)) ∧ K (some (1 : Int32)) (pV s a1 (x1).toNatClampNeg (1 : Int32))))) : tT Y (d + 1) 136 24 [.ref r0, .int x1] [] s K :=
  (tt_aload (p_136_24 _ _) rfl).mpr (Exists.elim h (fun a1 h2 => t3_getr (p_136_25 _ _) (isI_10_10) h2.1.1 h2.1.2 ((tt_iload (p_136_28 _ _) rfl).mpr ((tt_push (p_136_29 _ _)).mpr (Exists.elim h2.2 (fun m3 h4 => t3_zst (p_136_30 _ _) h4.1.1 h4.1.2.1 h4.1.2.2 ((tt_push (p_136_31 _ _)).mpr (tt_ret2 (p_136_32 _ _) (Or.inr rfl) h4.2))))))))
/-! InclusionProver.again.(I)Z -/
theorem p_137_0 (L : Nat) (xs : Nat → Int32) : ll_P L xs 137 0 = some (.inl (lo_iload 1 1)) := (P_137 L xs 0).trans rfl
theorem p_137_1 (L : Nat) (xs : Nat → Int32) : ll_P L xs 137 1 = some (.inl (lo_if 18 4 (fun x => decide (x < 0)))) := (P_137 L xs 1).trans rfl
theorem p_137_4 (L : Nat) (xs : Nat → Int32) : ll_P L xs 137 4 = some (.inl (lo_iload 5 1)) := (P_137 L xs 4).trans rfl
theorem p_137_5 (L : Nat) (xs : Nat → Int32) : ll_P L xs 137 5 = some (.inl (lo_push 6 (.int 2))) := (P_137 L xs 5).trans rfl
theorem p_137_6 (L : Nat) (xs : Nat → Int32) : ll_P L xs 137 6 = some (.inl (lo_cmp 18 9 (fun x y => decide (y ≤ x)))) := (P_137 L xs 6).trans rfl
theorem p_137_9 (L : Nat) (xs : Nat → Int32) : ll_P L xs 137 9 = some (.inl (lo_aload 10 0)) := (P_137 L xs 9).trans rfl
theorem p_137_10 (L : Nat) (xs : Nat → Int32) : ll_P L xs 137 10 = some (.inl (lo_getf 13 10 10)) := (P_137 L xs 10).trans rfl
theorem p_137_13 (L : Nat) (xs : Nat → Int32) : ll_P L xs 137 13 = some (.inl (lo_iload 14 1)) := (P_137 L xs 13).trans rfl
theorem p_137_14 (L : Nat) (xs : Nat → Int32) : ll_P L xs 137 14 = some (.inl (lo_ald 15 1)) := (P_137 L xs 14).trans rfl
theorem p_137_15 (L : Nat) (xs : Nat → Int32) : ll_P L xs 137 15 = some (.inl (lo_if 20 18 (fun x => decide (¬ x = 0)))) := (P_137 L xs 15).trans rfl
theorem p_137_18 (L : Nat) (xs : Nat → Int32) : ll_P L xs 137 18 = some (.inl (lo_push 19 (.int 0))) := (P_137 L xs 18).trans rfl
theorem p_137_19 (L : Nat) (xs : Nat → Int32) : ll_P L xs 137 19 = some (.inr (.inr 2)) := (P_137 L xs 19).trans rfl
theorem p_137_20 (L : Nat) (xs : Nat → Int32) : ll_P L xs 137 20 = some (.inl (lo_aload 21 0)) := (P_137 L xs 20).trans rfl
theorem p_137_21 (L : Nat) (xs : Nat → Int32) : ll_P L xs 137 21 = some (.inl (lo_getf 24 10 8)) := (P_137 L xs 21).trans rfl
theorem p_137_24 (L : Nat) (xs : Nat → Int32) : ll_P L xs 137 24 = some (.inl (lo_aload 25 0)) := (P_137 L xs 24).trans rfl
theorem p_137_25 (L : Nat) (xs : Nat → Int32) : ll_P L xs 137 25 = some (.inl (lo_getf 28 10 9)) := (P_137 L xs 25).trans rfl
theorem p_137_28 (L : Nat) (xs : Nat → Int32) : ll_P L xs 137 28 = some (.inl (lo_iload 29 1)) := (P_137 L xs 28).trans rfl
theorem p_137_29 (L : Nat) (xs : Nat → Int32) : ll_P L xs 137 29 = some (.inl (lo_aald 30)) := (P_137 L xs 29).trans rfl
theorem p_137_30 (L : Nat) (xs : Nat → Int32) : ll_P L xs 137 30 = some (.inr (.inl (30, 2, 33))) := (P_137 L xs 30).trans rfl
theorem p_137_33 (L : Nat) (xs : Nat → Int32) : ll_P L xs 137 33 = some (.inl (lo_push 34 (.int 1))) := (P_137 L xs 33).trans rfl
theorem p_137_34 (L : Nat) (xs : Nat → Int32) : ll_P L xs 137 34 = some (.inr (.inr 2)) := (P_137 L xs 34).trans rfl
theorem b_137_0 {Y : sY} {d : Nat} {s : sT} {K : Option Int32 → sT → Prop} {r0 : Nat} {x1 : Int32} (h : (if x1 < 0 then K (some (0 : Int32)) s else (if (2 : Int32) ≤ x1 then K (some (0 : Int32)) s else (∃ a3, (isO Y r0 10 ∧ s.2 r0 10 = some a3) ∧ (∃ m5, (isA Y a3 1 m5 ∧ inR x1 m5) ∧ (if ¬ (s.1 a3 (x1).toNatClampNeg) = 0 then (∃ a8, (isO Y r0 10 ∧ s.2 r0 8 = some a8) ∧ (∃ a10, (isO Y r0 10 ∧ s.2 r0 9 = some a10) ∧ (∃ c14 m12 a13, (isQ Y a10 c14 m12 ∧ inR x1 m12 ∧ s.2 a10 (x1).toNatClampNeg = some a13) ∧ (isO Y a8 3 ∧ tT Y d 30 0 [.ref a8, .ref a13, .null] [] s (fun r s1 => tT Y (d + 1) 137 33 [.ref r0, .int x1] ((r.map Value.int).toList ++ []) s1 K))))) else K (some (0 : Int32)) s)))))) : tT Y (d + 1) 137 0 [.ref r0, .int x1] [] s K :=
  (tt_iload (p_137_0 _ _) rfl).mpr (t3_if (p := x1 < 0) (p_137_1 _ _) rfl (fun g1 => (tt_push (p_137_18 _ _)).mpr (tt_ret2 (p_137_19 _ _) (Or.inl rfl) (ifp h g1))) (fun g1 => (tt_iload (p_137_4 _ _) rfl).mpr ((tt_push (p_137_5 _ _)).mpr (t3_cmp (p := (2 : Int32) ≤ x1) (p_137_6 _ _) rfl (fun g2 => (tt_push (p_137_18 _ _)).mpr (tt_ret2 (p_137_19 _ _) (Or.inl rfl) (ifp (ifn h g1) g2))) (fun g2 => (tt_aload (p_137_9 _ _) rfl).mpr (Exists.elim (ifn (ifn h g1) g2) (fun a3 h4 => t3_getr (p_137_10 _ _) (isI_10_10) h4.1.1 h4.1.2 ((tt_iload (p_137_13 _ _) rfl).mpr (Exists.elim h4.2 (fun m5 h6 => t3_ald (p_137_14 _ _) h6.1.1 h6.1.2 (t3_if (p := ¬ (s.1 a3 (x1).toNatClampNeg) = 0) (p_137_15 _ _) rfl (fun g7 => (tt_aload (p_137_20 _ _) rfl).mpr (Exists.elim (ifp h6.2 g7) (fun a8 h9 => t3_getr (p_137_21 _ _) (isI_10_8) h9.1.1 h9.1.2 ((tt_aload (p_137_24 _ _) rfl).mpr (Exists.elim h9.2 (fun a10 h11 => t3_getr (p_137_25 _ _) (isI_10_9) h11.1.1 h11.1.2 ((tt_iload (p_137_28 _ _) rfl).mpr (Exists.elim h11.2 (fun c14 h15q0 => Exists.elim h15q0 (fun m12 h15q1 => Exists.elim h15q1 (fun a13 h15 => t3_aald (p_137_29 _ _) h15.1.1 h15.1.2.1 h15.1.2.2 (t2_callv (z := 30) (k := 2) (i := a8) (as := [.ref a13]) (rest := []) (p_137_30 _ _) mK_30 mL_30 rfl rfl (Nat.le_of_ble_eq_true rfl) rfl (Nat.le_of_ble_eq_true rfl) h15.2.1 h15.2.2)))))))))))) (fun g7 => (tt_push (p_137_18 _ _)).mpr (tt_ret2 (p_137_19 _ _) (Or.inl rfl) (ifn h6.2 g7))))))))))))))
theorem b_137_33 {Y : sY} {d : Nat} {s : sT} {K : Option Int32 → sT → Prop} {r0 : Nat} {x1 : Int32} (h : K (some (1 : Int32)) s) : tT Y (d + 1) 137 33 [.ref r0, .int x1] [] s K :=
  (tt_push (p_137_33 _ _)).mpr (tt_ret2 (p_137_34 _ _) (Or.inr rfl) h)
/-! InclusionProver.isSide.(I)Z -/
theorem p_138_0 (L : Nat) (xs : Nat → Int32) : ll_P L xs 138 0 = some (.inl (lo_iload 1 0)) := (P_138 L xs 0).trans rfl
theorem p_138_1 (L : Nat) (xs : Nat → Int32) : ll_P L xs 138 1 = some (.inl (lo_if 13 4 (fun x => decide (x < 0)))) := (P_138 L xs 1).trans rfl
theorem p_138_4 (L : Nat) (xs : Nat → Int32) : ll_P L xs 138 4 = some (.inl (lo_iload 5 0)) := (P_138 L xs 4).trans rfl
theorem p_138_5 (L : Nat) (xs : Nat → Int32) : ll_P L xs 138 5 = some (.inl (lo_push 6 (.int 2))) := (P_138 L xs 5).trans rfl
theorem p_138_6 (L : Nat) (xs : Nat → Int32) : ll_P L xs 138 6 = some (.inl (lo_cmp 13 9 (fun x y => decide (y ≤ x)))) := (P_138 L xs 6).trans rfl
theorem p_138_9 (L : Nat) (xs : Nat → Int32) : ll_P L xs 138 9 = some (.inl (lo_push 10 (.int 1))) := (P_138 L xs 9).trans rfl
theorem p_138_10 (L : Nat) (xs : Nat → Int32) : ll_P L xs 138 10 = some (.inl (lo_goto 14)) := (P_138 L xs 10).trans rfl
theorem p_138_13 (L : Nat) (xs : Nat → Int32) : ll_P L xs 138 13 = some (.inl (lo_push 14 (.int 0))) := (P_138 L xs 13).trans rfl
theorem p_138_14 (L : Nat) (xs : Nat → Int32) : ll_P L xs 138 14 = some (.inr (.inr 2)) := (P_138 L xs 14).trans rfl
theorem b_138_0 {Y : sY} {d : Nat} {s : sT} {K : Option Int32 → sT → Prop} {x0 : Int32} (h : (if x0 < 0 then K (some (0 : Int32)) s else (if (2 : Int32) ≤ x0 then K (some (0 : Int32)) s else K (some (1 : Int32)) s))) : tT Y d 138 0 [.int x0] [] s K :=
  (tt_iload (p_138_0 _ _) rfl).mpr (t3_if (p := x0 < 0) (p_138_1 _ _) rfl (fun g1 => (tt_push (p_138_13 _ _)).mpr (tt_ret2 (p_138_14 _ _) (Or.inl rfl) (ifp h g1))) (fun g1 => (tt_iload (p_138_4 _ _) rfl).mpr ((tt_push (p_138_5 _ _)).mpr (t3_cmp (p := (2 : Int32) ≤ x0) (p_138_6 _ _) rfl (fun g2 => (tt_push (p_138_13 _ _)).mpr (tt_ret2 (p_138_14 _ _) (Or.inl rfl) (ifp (ifn h g1) g2))) (fun g2 => (tt_push (p_138_9 _ _)).mpr ((tt_goto (p_138_10 _ _)).mpr (tt_ret2 (p_138_14 _ _) (Or.inr rfl) (ifn (ifn h g1) g2))))))))
/-! InclusionProver.isSlot.(I)Z -/
theorem p_139_0 (L : Nat) (xs : Nat → Int32) : ll_P L xs 139 0 = some (.inl (lo_iload 1 0)) := (P_139 L xs 0).trans rfl
theorem p_139_1 (L : Nat) (xs : Nat → Int32) : ll_P L xs 139 1 = some (.inl (lo_if 13 4 (fun x => decide (x < 0)))) := (P_139 L xs 1).trans rfl
theorem p_139_4 (L : Nat) (xs : Nat → Int32) : ll_P L xs 139 4 = some (.inl (lo_iload 5 0)) := (P_139 L xs 4).trans rfl
theorem p_139_5 (L : Nat) (xs : Nat → Int32) : ll_P L xs 139 5 = some (.inl (lo_push 6 (.int 4))) := (P_139 L xs 5).trans rfl
theorem p_139_6 (L : Nat) (xs : Nat → Int32) : ll_P L xs 139 6 = some (.inl (lo_cmp 13 9 (fun x y => decide (y ≤ x)))) := (P_139 L xs 6).trans rfl
theorem p_139_9 (L : Nat) (xs : Nat → Int32) : ll_P L xs 139 9 = some (.inl (lo_push 10 (.int 1))) := (P_139 L xs 9).trans rfl
theorem p_139_10 (L : Nat) (xs : Nat → Int32) : ll_P L xs 139 10 = some (.inl (lo_goto 14)) := (P_139 L xs 10).trans rfl
theorem p_139_13 (L : Nat) (xs : Nat → Int32) : ll_P L xs 139 13 = some (.inl (lo_push 14 (.int 0))) := (P_139 L xs 13).trans rfl
theorem p_139_14 (L : Nat) (xs : Nat → Int32) : ll_P L xs 139 14 = some (.inr (.inr 2)) := (P_139 L xs 14).trans rfl
theorem b_139_0 {Y : sY} {d : Nat} {s : sT} {K : Option Int32 → sT → Prop} {x0 : Int32} (h : (if x0 < 0 then K (some (0 : Int32)) s else (if (4 : Int32) ≤ x0 then K (some (0 : Int32)) s else K (some (1 : Int32)) s))) : tT Y d 139 0 [.int x0] [] s K :=
  (tt_iload (p_139_0 _ _) rfl).mpr (t3_if (p := x0 < 0) (p_139_1 _ _) rfl (fun g1 => (tt_push (p_139_13 _ _)).mpr (tt_ret2 (p_139_14 _ _) (Or.inl rfl) (ifp h g1))) (fun g1 => (tt_iload (p_139_4 _ _) rfl).mpr ((tt_push (p_139_5 _ _)).mpr (t3_cmp (p := (4 : Int32) ≤ x0) (p_139_6 _ _) rfl (fun g2 => (tt_push (p_139_13 _ _)).mpr (tt_ret2 (p_139_14 _ _) (Or.inl rfl) (ifp (ifn h g1) g2))) (fun g2 => (tt_push (p_139_9 _ _)).mpr ((tt_goto (p_139_10 _ _)).mpr (tt_ret2 (p_139_14 _ _) (Or.inr rfl) (ifn (ifn h g1) g2))))))))
/-! InclusionProver.canCount.(II)Z -/
theorem p_140_0 (L : Nat) (xs : Nat → Int32) : ll_P L xs 140 0 = some (.inl (lo_iload 1 0)) := (P_140 L xs 0).trans rfl
theorem p_140_1 (L : Nat) (xs : Nat → Int32) : ll_P L xs 140 1 = some (.inl (lo_if 24 4 (fun x => decide (x < 0)))) := (P_140 L xs 1).trans rfl
theorem p_140_4 (L : Nat) (xs : Nat → Int32) : ll_P L xs 140 4 = some (.inl (lo_iload 5 0)) := (P_140 L xs 4).trans rfl
theorem p_140_5 (L : Nat) (xs : Nat → Int32) : ll_P L xs 140 5 = some (.inl (lo_push 7 (.int 6))) := (P_140 L xs 5).trans rfl
theorem p_140_7 (L : Nat) (xs : Nat → Int32) : ll_P L xs 140 7 = some (.inl (lo_cmp 24 10 (fun x y => decide (y ≤ x)))) := (P_140 L xs 7).trans rfl
theorem p_140_10 (L : Nat) (xs : Nat → Int32) : ll_P L xs 140 10 = some (.inl (lo_iload 11 1)) := (P_140 L xs 10).trans rfl
theorem p_140_11 (L : Nat) (xs : Nat → Int32) : ll_P L xs 140 11 = some (.inl (lo_if 24 14 (fun x => decide (x < 0)))) := (P_140 L xs 11).trans rfl
theorem p_140_14 (L : Nat) (xs : Nat → Int32) : ll_P L xs 140 14 = some (.inl (lo_iload 15 1)) := (P_140 L xs 14).trans rfl
theorem p_140_15 (L : Nat) (xs : Nat → Int32) : ll_P L xs 140 15 = some (.inl (lo_push 17 (.int 8))) := (P_140 L xs 15).trans rfl
theorem p_140_17 (L : Nat) (xs : Nat → Int32) : ll_P L xs 140 17 = some (.inl (lo_cmp 24 20 (fun x y => decide (y < x)))) := (P_140 L xs 17).trans rfl
theorem p_140_20 (L : Nat) (xs : Nat → Int32) : ll_P L xs 140 20 = some (.inl (lo_push 21 (.int 1))) := (P_140 L xs 20).trans rfl
theorem p_140_21 (L : Nat) (xs : Nat → Int32) : ll_P L xs 140 21 = some (.inl (lo_goto 25)) := (P_140 L xs 21).trans rfl
theorem p_140_24 (L : Nat) (xs : Nat → Int32) : ll_P L xs 140 24 = some (.inl (lo_push 25 (.int 0))) := (P_140 L xs 24).trans rfl
theorem p_140_25 (L : Nat) (xs : Nat → Int32) : ll_P L xs 140 25 = some (.inr (.inr 2)) := (P_140 L xs 25).trans rfl
theorem b_140_0 {Y : sY} {d : Nat} {s : sT} {K : Option Int32 → sT → Prop} {x0 : Int32} {x1 : Int32} (h : (if x0 < 0 then K (some (0 : Int32)) s else (if (6 : Int32) ≤ x0 then K (some (0 : Int32)) s else (if x1 < 0 then K (some (0 : Int32)) s else (if (8 : Int32) < x1 then K (some (0 : Int32)) s else K (some (1 : Int32)) s))))) : tT Y d 140 0 [.int x0, .int x1] [] s K :=
  (tt_iload (p_140_0 _ _) rfl).mpr (t3_if (p := x0 < 0) (p_140_1 _ _) rfl (fun g1 => (tt_push (p_140_24 _ _)).mpr (tt_ret2 (p_140_25 _ _) (Or.inl rfl) (ifp h g1))) (fun g1 => (tt_iload (p_140_4 _ _) rfl).mpr ((tt_push (p_140_5 _ _)).mpr (t3_cmp (p := (6 : Int32) ≤ x0) (p_140_7 _ _) rfl (fun g2 => (tt_push (p_140_24 _ _)).mpr (tt_ret2 (p_140_25 _ _) (Or.inl rfl) (ifp (ifn h g1) g2))) (fun g2 => (tt_iload (p_140_10 _ _) rfl).mpr (t3_if (p := x1 < 0) (p_140_11 _ _) rfl (fun g3 => (tt_push (p_140_24 _ _)).mpr (tt_ret2 (p_140_25 _ _) (Or.inl rfl) (ifp (ifn (ifn h g1) g2) g3))) (fun g3 => (tt_iload (p_140_14 _ _) rfl).mpr ((tt_push (p_140_15 _ _)).mpr (t3_cmp (p := (8 : Int32) < x1) (p_140_17 _ _) rfl (fun g4 => (tt_push (p_140_24 _ _)).mpr (tt_ret2 (p_140_25 _ _) (Or.inl rfl) (ifp (ifn (ifn (ifn h g1) g2) g3) g4))) (fun g4 => (tt_push (p_140_20 _ _)).mpr ((tt_goto (p_140_21 _ _)).mpr (tt_ret2 (p_140_25 _ _) (Or.inr rfl) (ifn (ifn (ifn (ifn h g1) g2) g3) g4)))))))))))))
/-! InclusionProver.byteOf.(JI)I -/
theorem p_141_0 (L : Nat) (xs : Nat → Int32) : ll_P L xs 141 0 = some (.inl (lo_lload 1 0)) := (P_141 L xs 0).trans rfl
theorem p_141_1 (L : Nat) (xs : Nat → Int32) : ll_P L xs 141 1 = some (.inl (lo_push 3 (.int 56))) := (P_141 L xs 1).trans rfl
theorem p_141_3 (L : Nat) (xs : Nat → Int32) : ll_P L xs 141 3 = some (.inl (lo_push 5 (.int 8))) := (P_141 L xs 3).trans rfl
theorem p_141_5 (L : Nat) (xs : Nat → Int32) : ll_P L xs 141 5 = some (.inl (lo_iload 6 2)) := (P_141 L xs 5).trans rfl
theorem p_141_6 (L : Nat) (xs : Nat → Int32) : ll_P L xs 141 6 = some (.inl (lo_bin 7 (fun x y => x * y))) := (P_141 L xs 6).trans rfl
theorem p_141_7 (L : Nat) (xs : Nat → Int32) : ll_P L xs 141 7 = some (.inl (lo_bin 8 (fun x y => x - y))) := (P_141 L xs 7).trans rfl
theorem p_141_8 (L : Nat) (xs : Nat → Int32) : ll_P L xs 141 8 = some (.inl (lo_lsh 9 (fun x y => (x.toUInt64 >>> (y.toInt64.toUInt64 &&& Int64.toUInt64 63)).toInt64))) := (P_141 L xs 8).trans rfl
theorem p_141_9 (L : Nat) (xs : Nat → Int32) : ll_P L xs 141 9 = some (.inl (lo_l2i 10)) := (P_141 L xs 9).trans rfl
theorem p_141_10 (L : Nat) (xs : Nat → Int32) : ll_P L xs 141 10 = some (.inl (lo_push 13 (.int 255))) := (P_141 L xs 10).trans rfl
theorem p_141_13 (L : Nat) (xs : Nat → Int32) : ll_P L xs 141 13 = some (.inl (lo_bin 14 (fun x y => x &&& y))) := (P_141 L xs 13).trans rfl
theorem p_141_14 (L : Nat) (xs : Nat → Int32) : ll_P L xs 141 14 = some (.inr (.inr 1)) := (P_141 L xs 14).trans rfl
theorem b_141_0 {Y : sY} {d : Nat} {s : sT} {K : Option Int32 → sT → Prop} {w0 : Int64} {x2 : Int32} (h : K (some (((w0.toUInt64 >>> ((((56 : Int32) - ((8 : Int32) * x2)) : Int32).toInt64.toUInt64 &&& Int64.toUInt64 63)).toInt64 : Int64).toInt32 &&& (255 : Int32))) s) : tT Y d 141 0 [.long w0, .null, .int x2] [] s K :=
  (tt_lload (p_141_0 _ _) rfl).mpr ((tt_push (p_141_1 _ _)).mpr ((tt_push (p_141_3 _ _)).mpr ((tt_iload (p_141_5 _ _) rfl).mpr ((tt_bin (p_141_6 _ _)).mpr ((tt_bin (p_141_7 _ _)).mpr ((tt_lsh (p_141_8 _ _)).mpr ((tt_l2i (p_141_9 _ _)).mpr ((tt_push (p_141_10 _ _)).mpr ((tt_bin (p_141_13 _ _)).mpr (tt_ret1 (p_141_14 _ _) h))))))))))
/-! InclusionProver.bytesOf.(J)I -/
theorem p_142_0 (L : Nat) (xs : Nat → Int32) : ll_P L xs 142 0 = some (.inl (lo_push 1 (.int 0))) := (P_142 L xs 0).trans rfl
theorem p_142_1 (L : Nat) (xs : Nat → Int32) : ll_P L xs 142 1 = some (.inl (lo_istore 2 2)) := (P_142 L xs 1).trans rfl
theorem p_142_2 (L : Nat) (xs : Nat → Int32) : ll_P L xs 142 2 = some (.inl (lo_iload 3 2)) := (P_142 L xs 2).trans rfl
theorem p_142_3 (L : Nat) (xs : Nat → Int32) : ll_P L xs 142 3 = some (.inl (lo_push 5 (.int 8))) := (P_142 L xs 3).trans rfl
theorem p_142_5 (L : Nat) (xs : Nat → Int32) : ll_P L xs 142 5 = some (.inl (lo_cmp 22 8 (fun x y => decide (y ≤ x)))) := (P_142 L xs 5).trans rfl
theorem p_142_8 (L : Nat) (xs : Nat → Int32) : ll_P L xs 142 8 = some (.inl (lo_lload 9 0)) := (P_142 L xs 8).trans rfl
theorem p_142_9 (L : Nat) (xs : Nat → Int32) : ll_P L xs 142 9 = some (.inl (lo_iload 10 2)) := (P_142 L xs 9).trans rfl
theorem p_142_10 (L : Nat) (xs : Nat → Int32) : ll_P L xs 142 10 = some (.inr (.inl (141, 2, 13))) := (P_142 L xs 10).trans rfl
theorem p_142_13 (L : Nat) (xs : Nat → Int32) : ll_P L xs 142 13 = some (.inl (lo_if 22 16 (fun x => decide (x = 0)))) := (P_142 L xs 13).trans rfl
theorem p_142_16 (L : Nat) (xs : Nat → Int32) : ll_P L xs 142 16 = some (.inl (lo_iinc 19 2 1)) := (P_142 L xs 16).trans rfl
theorem p_142_19 (L : Nat) (xs : Nat → Int32) : ll_P L xs 142 19 = some (.inl (lo_goto 2)) := (P_142 L xs 19).trans rfl
theorem p_142_22 (L : Nat) (xs : Nat → Int32) : ll_P L xs 142 22 = some (.inl (lo_iload 23 2)) := (P_142 L xs 22).trans rfl
theorem p_142_23 (L : Nat) (xs : Nat → Int32) : ll_P L xs 142 23 = some (.inr (.inr 1)) := (P_142 L xs 23).trans rfl
theorem b_142_0 {Y : sY} {d : Nat} {s : sT} {K : Option Int32 → sT → Prop} {w0 : Int64} (h : tT Y (d + 1) 142 2 [.long w0, .null, .int (0 : Int32)] [] s K) : tT Y (d + 1) 142 0 [.long w0, .null, .null] [] s K :=
  (tt_push (p_142_0 _ _)).mpr ((tt_istore (p_142_1 _ _) (Nat.le_of_ble_eq_true rfl) rfl rfl).mpr (h))
theorem b_142_2 {Y : sY} {d : Nat} {s : sT} {K : Option Int32 → sT → Prop} {w0 : Int64} {x2 : Int32} (h : (if (8 : Int32) ≤ x2 then K (some x2) s else tT Y d 141 0 [.long w0, .null, .int x2] [] s (fun r s1 => tT Y (d + 1) 142 13 [.long w0, .null, .int x2] ((r.map Value.int).toList ++ []) s1 K))) : tT Y (d + 1) 142 2 [.long w0, .null, .int x2] [] s K :=
  (tt_iload (p_142_2 _ _) rfl).mpr ((tt_push (p_142_3 _ _)).mpr (t3_cmp (p := (8 : Int32) ≤ x2) (p_142_5 _ _) rfl (fun g1 => (tt_iload (p_142_22 _ _) rfl).mpr (tt_ret1 (p_142_23 _ _) (ifp h g1))) (fun g1 => (tt_lload (p_142_8 _ _) rfl).mpr ((tt_iload (p_142_9 _ _) rfl).mpr (t2_calls (z := 141) (k := 2) (as := [.long w0, .int x2]) (rest := []) (p_142_10 _ _) mK_141 mL_141 rfl rfl (Nat.le_of_ble_eq_true rfl) rfl (Nat.le_of_ble_eq_true rfl) (ifn h g1))))))
theorem b_142_13 {Y : sY} {d : Nat} {s : sT} {K : Option Int32 → sT → Prop} {w0 : Int64} {x2 : Int32} {t0 : Int32} (h : (if t0 = 0 then K (some x2) s else tT Y (d + 1) 142 2 [.long w0, .null, .int (x2 + 1)] [] s K)) : tT Y (d + 1) 142 13 [.long w0, .null, .int x2] [.int t0] s K :=
  t3_if (p := t0 = 0) (p_142_13 _ _) rfl (fun g1 => (tt_iload (p_142_22 _ _) rfl).mpr (tt_ret1 (p_142_23 _ _) (ifp h g1))) (fun g1 => (tt_iinc (p_142_16 _ _) rfl rfl rfl).mpr ((tt_goto (p_142_19 _ _)).mpr ((ifn h g1))))
/-! InclusionProver.replace.([III)I -/
theorem p_143_0 (L : Nat) (xs : Nat → Int32) : ll_P L xs 143 0 = some (.inl (lo_iload 1 1)) := (P_143 L xs 0).trans rfl
theorem p_143_1 (L : Nat) (xs : Nat → Int32) : ll_P L xs 143 1 = some (.inl (lo_if 10 4 (fun x => decide (x < 0)))) := (P_143 L xs 1).trans rfl
theorem p_143_4 (L : Nat) (xs : Nat → Int32) : ll_P L xs 143 4 = some (.inl (lo_iload 5 1)) := (P_143 L xs 4).trans rfl
theorem p_143_5 (L : Nat) (xs : Nat → Int32) : ll_P L xs 143 5 = some (.inl (lo_aload 6 0)) := (P_143 L xs 5).trans rfl
theorem p_143_6 (L : Nat) (xs : Nat → Int32) : ll_P L xs 143 6 = some (.inl (lo_alen 7)) := (P_143 L xs 6).trans rfl
theorem p_143_7 (L : Nat) (xs : Nat → Int32) : ll_P L xs 143 7 = some (.inl (lo_cmp 13 10 (fun x y => decide (x < y)))) := (P_143 L xs 7).trans rfl
theorem p_143_10 (L : Nat) (xs : Nat → Int32) : ll_P L xs 143 10 = some (.inl (lo_push 12 (.int (-2)))) := (P_143 L xs 10).trans rfl
theorem p_143_12 (L : Nat) (xs : Nat → Int32) : ll_P L xs 143 12 = some (.inr (.inr 1)) := (P_143 L xs 12).trans rfl
theorem p_143_13 (L : Nat) (xs : Nat → Int32) : ll_P L xs 143 13 = some (.inl (lo_aload 14 0)) := (P_143 L xs 13).trans rfl
theorem p_143_14 (L : Nat) (xs : Nat → Int32) : ll_P L xs 143 14 = some (.inl (lo_iload 15 1)) := (P_143 L xs 14).trans rfl
theorem p_143_15 (L : Nat) (xs : Nat → Int32) : ll_P L xs 143 15 = some (.inl (lo_ald 16 0)) := (P_143 L xs 15).trans rfl
theorem p_143_16 (L : Nat) (xs : Nat → Int32) : ll_P L xs 143 16 = some (.inl (lo_istore 17 3)) := (P_143 L xs 16).trans rfl
theorem p_143_17 (L : Nat) (xs : Nat → Int32) : ll_P L xs 143 17 = some (.inl (lo_aload 18 0)) := (P_143 L xs 17).trans rfl
theorem p_143_18 (L : Nat) (xs : Nat → Int32) : ll_P L xs 143 18 = some (.inl (lo_iload 19 1)) := (P_143 L xs 18).trans rfl
theorem p_143_19 (L : Nat) (xs : Nat → Int32) : ll_P L xs 143 19 = some (.inl (lo_iload 20 2)) := (P_143 L xs 19).trans rfl
theorem p_143_20 (L : Nat) (xs : Nat → Int32) : ll_P L xs 143 20 = some (.inl (lo_ast 21 0)) := (P_143 L xs 20).trans rfl
theorem p_143_21 (L : Nat) (xs : Nat → Int32) : ll_P L xs 143 21 = some (.inl (lo_iload 22 3)) := (P_143 L xs 21).trans rfl
theorem p_143_22 (L : Nat) (xs : Nat → Int32) : ll_P L xs 143 22 = some (.inr (.inr 1)) := (P_143 L xs 22).trans rfl
theorem b_143_0 {Y : sY} {d : Nat} {s : sT} {K : Option Int32 → sT → Prop} {r0 : Nat} {x1 : Int32} {x2 : Int32} (h : (if x1 < 0 then K (some (-2 : Int32)) s else (∃ c3 m2, isA Y r0 c3 m2 ∧ (if x1 < (Int32.ofNat m2) then (∃ m6, (isA Y r0 0 m6 ∧ inR x1 m6) ∧ (∃ m8, (isA Y r0 0 m8 ∧ inR x1 m8) ∧ K (some (s.1 r0 (x1).toNatClampNeg)) (pV s r0 (x1).toNatClampNeg x2))) else K (some (-2 : Int32)) s)))) : tT Y d 143 0 [.ref r0, .int x1, .int x2, .null] [] s K :=
  (tt_iload (p_143_0 _ _) rfl).mpr (t3_if (p := x1 < 0) (p_143_1 _ _) rfl (fun g1 => (tt_push (p_143_10 _ _)).mpr (tt_ret1 (p_143_12 _ _) (ifp h g1))) (fun g1 => (tt_iload (p_143_4 _ _) rfl).mpr ((tt_aload (p_143_5 _ _) rfl).mpr (Exists.elim (ifn h g1) (fun c3 h4q0 => Exists.elim h4q0 (fun m2 h4 => t3_alen (p_143_6 _ _) h4.1 (t3_cmp (p := x1 < (Int32.ofNat m2)) (p_143_7 _ _) rfl (fun g5 => (tt_aload (p_143_13 _ _) rfl).mpr ((tt_iload (p_143_14 _ _) rfl).mpr (Exists.elim (ifp h4.2 g5) (fun m6 h7 => t3_ald (p_143_15 _ _) h7.1.1 h7.1.2 ((tt_istore (p_143_16 _ _) (Nat.le_of_ble_eq_true rfl) rfl rfl).mpr ((tt_aload (p_143_17 _ _) rfl).mpr ((tt_iload (p_143_18 _ _) rfl).mpr ((tt_iload (p_143_19 _ _) rfl).mpr (Exists.elim h7.2 (fun m8 h9 => t3_ast (p_143_20 _ _) h9.1.1 h9.1.2 ((tt_iload (p_143_21 _ _) rfl).mpr (tt_ret1 (p_143_22 _ _) h9.2)))))))))))) (fun g5 => (tt_push (p_143_10 _ _)).mpr (tt_ret1 (p_143_12 _ _) (ifn h4.2 g5))))))))))
/-! InclusionProver.faultOf.(II)I -/
theorem p_144_0 (L : Nat) (xs : Nat → Int32) : ll_P L xs 144 0 = some (.inl (lo_iload 1 1)) := (P_144 L xs 0).trans rfl
theorem p_144_1 (L : Nat) (xs : Nat → Int32) : ll_P L xs 144 1 = some (.inl (lo_push 2 (.int (-1)))) := (P_144 L xs 1).trans rfl
theorem p_144_2 (L : Nat) (xs : Nat → Int32) : ll_P L xs 144 2 = some (.inl (lo_cmp 13 5 (fun x y => decide (¬ x = y)))) := (P_144 L xs 2).trans rfl
theorem p_144_5 (L : Nat) (xs : Nat → Int32) : ll_P L xs 144 5 = some (.inl (lo_aload 6 0)) := (P_144 L xs 5).trans rfl
theorem p_144_6 (L : Nat) (xs : Nat → Int32) : ll_P L xs 144 6 = some (.inl (lo_getf 9 10 0)) := (P_144 L xs 6).trans rfl
theorem p_144_9 (L : Nat) (xs : Nat → Int32) : ll_P L xs 144 9 = some (.inl (lo_getf 12 2 4)) := (P_144 L xs 9).trans rfl
theorem p_144_12 (L : Nat) (xs : Nat → Int32) : ll_P L xs 144 12 = some (.inr (.inr 1)) := (P_144 L xs 12).trans rfl
theorem p_144_13 (L : Nat) (xs : Nat → Int32) : ll_P L xs 144 13 = some (.inl (lo_iload 14 2)) := (P_144 L xs 13).trans rfl
theorem p_144_14 (L : Nat) (xs : Nat → Int32) : ll_P L xs 144 14 = some (.inl (lo_push 16 (.int 30))) := (P_144 L xs 14).trans rfl
theorem p_144_16 (L : Nat) (xs : Nat → Int32) : ll_P L xs 144 16 = some (.inl (lo_cmp 24 19 (fun x y => decide (x ≤ y)))) := (P_144 L xs 16).trans rfl
theorem p_144_19 (L : Nat) (xs : Nat → Int32) : ll_P L xs 144 19 = some (.inl (lo_push 21 (.int 30))) := (P_144 L xs 19).trans rfl
theorem p_144_21 (L : Nat) (xs : Nat → Int32) : ll_P L xs 144 21 = some (.inl (lo_goto 25)) := (P_144 L xs 21).trans rfl
theorem p_144_24 (L : Nat) (xs : Nat → Int32) : ll_P L xs 144 24 = some (.inl (lo_push 25 (.int (-1)))) := (P_144 L xs 24).trans rfl
theorem p_144_25 (L : Nat) (xs : Nat → Int32) : ll_P L xs 144 25 = some (.inr (.inr 1)) := (P_144 L xs 25).trans rfl
theorem b_144_0 {Y : sY} {d : Nat} {s : sT} {K : Option Int32 → sT → Prop} {r0 : Nat} {x1 : Int32} {x2 : Int32} (h : (if ¬ x1 = (-1 : Int32) then (if x2 ≤ (30 : Int32) then K (some (-1 : Int32)) s else K (some (30 : Int32)) s) else (∃ a3, (isO Y r0 10 ∧ s.2 r0 0 = some a3) ∧ (isO Y a3 2 ∧ K (some (s.1 a3 4)) s)))) : tT Y d 144 0 [.ref r0, .int x1, .int x2] [] s K :=
  (tt_iload (p_144_0 _ _) rfl).mpr ((tt_push (p_144_1 _ _)).mpr (t3_cmp (p := ¬ x1 = (-1 : Int32)) (p_144_2 _ _) rfl (fun g1 => (tt_iload (p_144_13 _ _) rfl).mpr ((tt_push (p_144_14 _ _)).mpr (t3_cmp (p := x2 ≤ (30 : Int32)) (p_144_16 _ _) rfl (fun g2 => (tt_push (p_144_24 _ _)).mpr (tt_ret1 (p_144_25 _ _) (ifp (ifp h g1) g2))) (fun g2 => (tt_push (p_144_19 _ _)).mpr ((tt_goto (p_144_21 _ _)).mpr (tt_ret1 (p_144_25 _ _) (ifn (ifp h g1) g2))))))) (fun g1 => (tt_aload (p_144_5 _ _) rfl).mpr (Exists.elim (ifn h g1) (fun a3 h4 => t3_getr (p_144_6 _ _) (isI_10_0) h4.1.1 h4.1.2 (t3_geti (p_144_9 _ _) (isI_2_4) h4.2.1 (tt_ret1 (p_144_12 _ _) h4.2.2)))))))
/-! InclusionProver.put.(II)I -/
theorem p_145_0 (L : Nat) (xs : Nat → Int32) : ll_P L xs 145 0 = some (.inl (lo_aload 1 0)) := (P_145 L xs 0).trans rfl
theorem p_145_1 (L : Nat) (xs : Nat → Int32) : ll_P L xs 145 1 = some (.inl (lo_getf 4 10 1)) := (P_145 L xs 1).trans rfl
theorem p_145_4 (L : Nat) (xs : Nat → Int32) : ll_P L xs 145 4 = some (.inl (lo_iload 5 2)) := (P_145 L xs 4).trans rfl
theorem p_145_5 (L : Nat) (xs : Nat → Int32) : ll_P L xs 145 5 = some (.inl (lo_aload 6 0)) := (P_145 L xs 5).trans rfl
theorem p_145_6 (L : Nat) (xs : Nat → Int32) : ll_P L xs 145 6 = some (.inl (lo_getf 9 10 8)) := (P_145 L xs 6).trans rfl
theorem p_145_9 (L : Nat) (xs : Nat → Int32) : ll_P L xs 145 9 = some (.inl (lo_getf 12 3 1)) := (P_145 L xs 9).trans rfl
theorem p_145_12 (L : Nat) (xs : Nat → Int32) : ll_P L xs 145 12 = some (.inl (lo_iload 13 1)) := (P_145 L xs 12).trans rfl
theorem p_145_13 (L : Nat) (xs : Nat → Int32) : ll_P L xs 145 13 = some (.inl (lo_aald 14)) := (P_145 L xs 13).trans rfl
theorem p_145_14 (L : Nat) (xs : Nat → Int32) : ll_P L xs 145 14 = some (.inr (.inl (61, 3, 17))) := (P_145 L xs 14).trans rfl
theorem p_145_17 (L : Nat) (xs : Nat → Int32) : ll_P L xs 145 17 = some (.inl (lo_aload 18 0)) := (P_145 L xs 17).trans rfl
theorem p_145_18 (L : Nat) (xs : Nat → Int32) : ll_P L xs 145 18 = some (.inl (lo_getf 21 10 8)) := (P_145 L xs 18).trans rfl
theorem p_145_21 (L : Nat) (xs : Nat → Int32) : ll_P L xs 145 21 = some (.inl (lo_getf 24 3 3)) := (P_145 L xs 21).trans rfl
theorem p_145_24 (L : Nat) (xs : Nat → Int32) : ll_P L xs 145 24 = some (.inr (.inl (9, 1, 27))) := (P_145 L xs 24).trans rfl
theorem p_145_27 (L : Nat) (xs : Nat → Int32) : ll_P L xs 145 27 = some (.inl (lo_aload 28 0)) := (P_145 L xs 27).trans rfl
theorem p_145_28 (L : Nat) (xs : Nat → Int32) : ll_P L xs 145 28 = some (.inl (lo_getf 31 10 8)) := (P_145 L xs 28).trans rfl
theorem p_145_31 (L : Nat) (xs : Nat → Int32) : ll_P L xs 145 31 = some (.inl (lo_getf 34 3 1)) := (P_145 L xs 31).trans rfl
theorem p_145_34 (L : Nat) (xs : Nat → Int32) : ll_P L xs 145 34 = some (.inl (lo_iload 35 1)) := (P_145 L xs 34).trans rfl
theorem p_145_35 (L : Nat) (xs : Nat → Int32) : ll_P L xs 145 35 = some (.inl (lo_aald 36)) := (P_145 L xs 35).trans rfl
theorem p_145_36 (L : Nat) (xs : Nat → Int32) : ll_P L xs 145 36 = some (.inl (lo_getf 39 5 6)) := (P_145 L xs 36).trans rfl
theorem p_145_39 (L : Nat) (xs : Nat → Int32) : ll_P L xs 145 39 = some (.inr (.inr 1)) := (P_145 L xs 39).trans rfl
theorem b_145_0 {Y : sY} {d : Nat} {s : sT} {K : Option Int32 → sT → Prop} {r0 : Nat} {x1 : Int32} {x2 : Int32} (h : (∃ a1, (isO Y r0 10 ∧ s.2 r0 1 = some a1) ∧ (∃ a3, (isO Y r0 10 ∧ s.2 r0 8 = some a3) ∧ (∃ a5, (isO Y a3 3 ∧ s.2 a3 1 = some a5) ∧ (∃ c9 m7 a8, (isQ Y a5 c9 m7 ∧ inR x1 m7 ∧ s.2 a5 (x1).toNatClampNeg = some a8) ∧ (isO Y a1 6 ∧ tT Y d 61 0 [.ref a1, .int x2, .ref a8, .null, .null] [] s (fun r s1 => tT Y (d + 1) 145 17 [.ref r0, .int x1, .int x2] ((r.map Value.int).toList ++ []) s1 K))))))) : tT Y (d + 1) 145 0 [.ref r0, .int x1, .int x2] [] s K :=
  (tt_aload (p_145_0 _ _) rfl).mpr (Exists.elim h (fun a1 h2 => t3_getr (p_145_1 _ _) (isI_10_1) h2.1.1 h2.1.2 ((tt_iload (p_145_4 _ _) rfl).mpr ((tt_aload (p_145_5 _ _) rfl).mpr (Exists.elim h2.2 (fun a3 h4 => t3_getr (p_145_6 _ _) (isI_10_8) h4.1.1 h4.1.2 (Exists.elim h4.2 (fun a5 h6 => t3_getr (p_145_9 _ _) (isI_3_1) h6.1.1 h6.1.2 ((tt_iload (p_145_12 _ _) rfl).mpr (Exists.elim h6.2 (fun c9 h10q0 => Exists.elim h10q0 (fun m7 h10q1 => Exists.elim h10q1 (fun a8 h10 => t3_aald (p_145_13 _ _) h10.1.1 h10.1.2.1 h10.1.2.2 (t2_callv (z := 61) (k := 3) (i := a1) (as := [.int x2, .ref a8]) (rest := []) (p_145_14 _ _) mK_61 mL_61 rfl rfl (Nat.le_of_ble_eq_true rfl) rfl (Nat.le_of_ble_eq_true rfl) h10.2.1 h10.2.2))))))))))))))
theorem b_145_17 {Y : sY} {d : Nat} {s : sT} {K : Option Int32 → sT → Prop} {r0 : Nat} {x1 : Int32} {x2 : Int32} (h : (∃ a1, (isO Y r0 10 ∧ s.2 r0 8 = some a1) ∧ (∃ a3, (isO Y a1 3 ∧ s.2 a1 3 = some a3) ∧ (isO Y a3 1 ∧ tT Y d 9 0 [.ref a3] [] s (fun r s1 => tT Y (d + 1) 145 27 [.ref r0, .int x1, .int x2] ((r.map Value.int).toList ++ []) s1 K))))) : tT Y (d + 1) 145 17 [.ref r0, .int x1, .int x2] [] s K :=
  (tt_aload (p_145_17 _ _) rfl).mpr (Exists.elim h (fun a1 h2 => t3_getr (p_145_18 _ _) (isI_10_8) h2.1.1 h2.1.2 (Exists.elim h2.2 (fun a3 h4 => t3_getr (p_145_21 _ _) (isI_3_3) h4.1.1 h4.1.2 (t2_callv (z := 9) (k := 1) (i := a3) (as := []) (rest := []) (p_145_24 _ _) mK_9 mL_9 rfl rfl (Nat.le_of_ble_eq_true rfl) rfl (Nat.le_of_ble_eq_true rfl) h4.2.1 h4.2.2)))))
theorem b_145_27 {Y : sY} {d : Nat} {s : sT} {K : Option Int32 → sT → Prop} {r0 : Nat} {x1 : Int32} {x2 : Int32} (h : (∃ a1, (isO Y r0 10 ∧ s.2 r0 8 = some a1) ∧ (∃ a3, (isO Y a1 3 ∧ s.2 a1 1 = some a3) ∧ (∃ c7 m5 a6, (isQ Y a3 c7 m5 ∧ inR x1 m5 ∧ s.2 a3 (x1).toNatClampNeg = some a6) ∧ (isO Y a6 5 ∧ K (some (s.1 a6 6)) s))))) : tT Y (d + 1) 145 27 [.ref r0, .int x1, .int x2] [] s K :=
  (tt_aload (p_145_27 _ _) rfl).mpr (Exists.elim h (fun a1 h2 => t3_getr (p_145_28 _ _) (isI_10_8) h2.1.1 h2.1.2 (Exists.elim h2.2 (fun a3 h4 => t3_getr (p_145_31 _ _) (isI_3_1) h4.1.1 h4.1.2 ((tt_iload (p_145_34 _ _) rfl).mpr (Exists.elim h4.2 (fun c7 h8q0 => Exists.elim h8q0 (fun m5 h8q1 => Exists.elim h8q1 (fun a6 h8 => t3_aald (p_145_35 _ _) h8.1.1 h8.1.2.1 h8.1.2.2 (t3_geti (p_145_36 _ _) (isI_5_6) h8.2.1 (tt_ret1 (p_145_39 _ _) h8.2.2)))))))))))
/-! InclusionProver.readSlot.(I)I -/
theorem p_146_0 (L : Nat) (xs : Nat → Int32) : ll_P L xs 146 0 = some (.inl (lo_aload 1 0)) := (P_146 L xs 0).trans rfl
theorem p_146_1 (L : Nat) (xs : Nat → Int32) : ll_P L xs 146 1 = some (.inl (lo_getf 4 10 8)) := (P_146 L xs 1).trans rfl
theorem p_146_4 (L : Nat) (xs : Nat → Int32) : ll_P L xs 146 4 = some (.inl (lo_getf 7 3 2)) := (P_146 L xs 4).trans rfl
theorem p_146_7 (L : Nat) (xs : Nat → Int32) : ll_P L xs 146 7 = some (.inl (lo_iload 8 1)) := (P_146 L xs 7).trans rfl
theorem p_146_8 (L : Nat) (xs : Nat → Int32) : ll_P L xs 146 8 = some (.inl (lo_aald 9)) := (P_146 L xs 8).trans rfl
theorem p_146_9 (L : Nat) (xs : Nat → Int32) : ll_P L xs 146 9 = some (.inl (lo_astore 10 2)) := (P_146 L xs 9).trans rfl
theorem p_146_10 (L : Nat) (xs : Nat → Int32) : ll_P L xs 146 10 = some (.inl (lo_aload 11 0)) := (P_146 L xs 10).trans rfl
theorem p_146_11 (L : Nat) (xs : Nat → Int32) : ll_P L xs 146 11 = some (.inl (lo_getf 14 10 0)) := (P_146 L xs 11).trans rfl
theorem p_146_14 (L : Nat) (xs : Nat → Int32) : ll_P L xs 146 14 = some (.inl (lo_aload 15 2)) := (P_146 L xs 14).trans rfl
theorem p_146_15 (L : Nat) (xs : Nat → Int32) : ll_P L xs 146 15 = some (.inl (lo_aload 16 2)) := (P_146 L xs 15).trans rfl
theorem p_146_16 (L : Nat) (xs : Nat → Int32) : ll_P L xs 146 16 = some (.inl (lo_getf 19 7 1)) := (P_146 L xs 16).trans rfl
theorem p_146_19 (L : Nat) (xs : Nat → Int32) : ll_P L xs 146 19 = some (.inr (.inl (22, 3, 22))) := (P_146 L xs 19).trans rfl
theorem p_146_22 (L : Nat) (xs : Nat → Int32) : ll_P L xs 146 22 = some (.inl (lo_istore 23 3)) := (P_146 L xs 22).trans rfl
theorem p_146_23 (L : Nat) (xs : Nat → Int32) : ll_P L xs 146 23 = some (.inl (lo_iload 24 3)) := (P_146 L xs 23).trans rfl
theorem p_146_24 (L : Nat) (xs : Nat → Int32) : ll_P L xs 146 24 = some (.inl (lo_push 25 (.int (-1)))) := (P_146 L xs 24).trans rfl
theorem p_146_25 (L : Nat) (xs : Nat → Int32) : ll_P L xs 146 25 = some (.inl (lo_cmp 32 28 (fun x y => decide (¬ x = y)))) := (P_146 L xs 25).trans rfl
theorem p_146_28 (L : Nat) (xs : Nat → Int32) : ll_P L xs 146 28 = some (.inl (lo_push 29 (.int 0))) := (P_146 L xs 28).trans rfl
theorem p_146_29 (L : Nat) (xs : Nat → Int32) : ll_P L xs 146 29 = some (.inl (lo_goto 33)) := (P_146 L xs 29).trans rfl
theorem p_146_32 (L : Nat) (xs : Nat → Int32) : ll_P L xs 146 32 = some (.inl (lo_iload 33 3)) := (P_146 L xs 32).trans rfl
theorem p_146_33 (L : Nat) (xs : Nat → Int32) : ll_P L xs 146 33 = some (.inr (.inr 1)) := (P_146 L xs 33).trans rfl
theorem b_146_0 {Y : sY} {d : Nat} {s : sT} {K : Option Int32 → sT → Prop} {r0 : Nat} {x1 : Int32} (h : (∃ a1, (isO Y r0 10 ∧ s.2 r0 8 = some a1) ∧ (∃ a3, (isO Y a1 3 ∧ s.2 a1 2 = some a3) ∧ (∃ c7 m5 a6, (isQ Y a3 c7 m5 ∧ inR x1 m5 ∧ s.2 a3 (x1).toNatClampNeg = some a6) ∧ (∃ a9, (isO Y r0 10 ∧ s.2 r0 0 = some a9) ∧ (isO Y a6 7 ∧ (isO Y a9 2 ∧ tT Y d 22 0 [.ref a9, .ref a6, .int (s.1 a6 1), .null] [] s (fun r s1 => tT Y (d + 1) 146 22 [.ref r0, .int x1, .ref a6, .null] ((r.map Value.int).toList ++ []) s1 K)))))))) : tT Y (d + 1) 146 0 [.ref r0, .int x1, .null, .null] [] s K :=
  (tt_aload (p_146_0 _ _) rfl).mpr (Exists.elim h (fun a1 h2 => t3_getr (p_146_1 _ _) (isI_10_8) h2.1.1 h2.1.2 (Exists.elim h2.2 (fun a3 h4 => t3_getr (p_146_4 _ _) (isI_3_2) h4.1.1 h4.1.2 ((tt_iload (p_146_7 _ _) rfl).mpr (Exists.elim h4.2 (fun c7 h8q0 => Exists.elim h8q0 (fun m5 h8q1 => Exists.elim h8q1 (fun a6 h8 => t3_aald (p_146_8 _ _) h8.1.1 h8.1.2.1 h8.1.2.2 ((tt_astore (p_146_9 _ _) (Nat.le_of_ble_eq_true rfl) rfl rfl).mpr ((tt_aload (p_146_10 _ _) rfl).mpr (Exists.elim h8.2 (fun a9 h10 => t3_getr (p_146_11 _ _) (isI_10_0) h10.1.1 h10.1.2 ((tt_aload (p_146_14 _ _) rfl).mpr ((tt_aload (p_146_15 _ _) rfl).mpr (t3_geti (p_146_16 _ _) (isI_7_1) h10.2.1 (t2_callv (z := 22) (k := 3) (i := a9) (as := [.ref a6, .int (s.1 a6 1)]) (rest := []) (p_146_19 _ _) mK_22 mL_22 rfl rfl (Nat.le_of_ble_eq_true rfl) rfl (Nat.le_of_ble_eq_true rfl) h10.2.2.1 h10.2.2.2)))))))))))))))))
theorem b_146_22 {Y : sY} {d : Nat} {s : sT} {K : Option Int32 → sT → Prop} {r0 : Nat} {x1 : Int32} {r2 : Nat} {t0 : Int32} (h : (if ¬ t0 = (-1 : Int32) then K (some t0) s else K (some (0 : Int32)) s)) : tT Y (d + 1) 146 22 [.ref r0, .int x1, .ref r2, .null] [.int t0] s K :=
  (tt_istore (p_146_22 _ _) (Nat.le_of_ble_eq_true rfl) rfl rfl).mpr ((tt_iload (p_146_23 _ _) rfl).mpr ((tt_push (p_146_24 _ _)).mpr (t3_cmp (p := ¬ t0 = (-1 : Int32)) (p_146_25 _ _) rfl (fun g1 => (tt_iload (p_146_32 _ _) rfl).mpr (tt_ret1 (p_146_33 _ _) (ifp h g1))) (fun g1 => (tt_push (p_146_28 _ _)).mpr ((tt_goto (p_146_29 _ _)).mpr (tt_ret1 (p_146_33 _ _) (ifn h g1)))))))
/-! InclusionProver.draftOf.(ILInclusionProver$Text;LInclusionProver$Text;)V -/
theorem p_147_0 (L : Nat) (xs : Nat → Int32) : ll_P L xs 147 0 = some (.inl (lo_aload 1 0)) := (P_147 L xs 0).trans rfl
theorem p_147_1 (L : Nat) (xs : Nat → Int32) : ll_P L xs 147 1 = some (.inl (lo_getf 4 10 5)) := (P_147 L xs 1).trans rfl
theorem p_147_4 (L : Nat) (xs : Nat → Int32) : ll_P L xs 147 4 = some (.inr (.inl (71, 1, 7))) := (P_147 L xs 4).trans rfl
theorem p_147_7 (L : Nat) (xs : Nat → Int32) : ll_P L xs 147 7 = some (.inl (lo_iload 8 1)) := (P_147 L xs 7).trans rfl
theorem p_147_8 (L : Nat) (xs : Nat → Int32) : ll_P L xs 147 8 = some (.inl (lo_tab 1 [36, 64, 83] 103)) := (P_147 L xs 8).trans rfl
theorem p_147_36 (L : Nat) (xs : Nat → Int32) : ll_P L xs 147 36 = some (.inl (lo_aload 37 0)) := (P_147 L xs 36).trans rfl
theorem p_147_37 (L : Nat) (xs : Nat → Int32) : ll_P L xs 147 37 = some (.inl (lo_getf 40 10 5)) := (P_147 L xs 37).trans rfl
theorem p_147_40 (L : Nat) (xs : Nat → Int32) : ll_P L xs 147 40 = some (.inl (lo_aload 41 2)) := (P_147 L xs 40).trans rfl
theorem p_147_41 (L : Nat) (xs : Nat → Int32) : ll_P L xs 147 41 = some (.inr (.inl (73, 2, 44))) := (P_147 L xs 41).trans rfl
theorem p_147_44 (L : Nat) (xs : Nat → Int32) : ll_P L xs 147 44 = some (.inl (lo_aload 45 0)) := (P_147 L xs 44).trans rfl
theorem p_147_45 (L : Nat) (xs : Nat → Int32) : ll_P L xs 147 45 = some (.inl (lo_getf 48 10 5)) := (P_147 L xs 45).trans rfl
theorem p_147_48 (L : Nat) (xs : Nat → Int32) : ll_P L xs 147 48 = some (.inl (lo_push 50 (.int 43))) := (P_147 L xs 48).trans rfl
theorem p_147_50 (L : Nat) (xs : Nat → Int32) : ll_P L xs 147 50 = some (.inr (.inl (72, 2, 53))) := (P_147 L xs 50).trans rfl
theorem p_147_53 (L : Nat) (xs : Nat → Int32) : ll_P L xs 147 53 = some (.inl (lo_aload 54 0)) := (P_147 L xs 53).trans rfl
theorem p_147_54 (L : Nat) (xs : Nat → Int32) : ll_P L xs 147 54 = some (.inl (lo_getf 57 10 5)) := (P_147 L xs 54).trans rfl
theorem p_147_57 (L : Nat) (xs : Nat → Int32) : ll_P L xs 147 57 = some (.inl (lo_aload 58 3)) := (P_147 L xs 57).trans rfl
theorem p_147_58 (L : Nat) (xs : Nat → Int32) : ll_P L xs 147 58 = some (.inr (.inl (73, 2, 61))) := (P_147 L xs 58).trans rfl
theorem p_147_61 (L : Nat) (xs : Nat → Int32) : ll_P L xs 147 61 = some (.inl (lo_goto 111)) := (P_147 L xs 61).trans rfl
theorem p_147_64 (L : Nat) (xs : Nat → Int32) : ll_P L xs 147 64 = some (.inl (lo_aload 65 0)) := (P_147 L xs 64).trans rfl
theorem p_147_65 (L : Nat) (xs : Nat → Int32) : ll_P L xs 147 65 = some (.inl (lo_getf 68 10 5)) := (P_147 L xs 65).trans rfl
theorem p_147_68 (L : Nat) (xs : Nat → Int32) : ll_P L xs 147 68 = some (.inl (lo_aload 69 2)) := (P_147 L xs 68).trans rfl
theorem p_147_69 (L : Nat) (xs : Nat → Int32) : ll_P L xs 147 69 = some (.inr (.inl (74, 2, 72))) := (P_147 L xs 69).trans rfl
theorem p_147_72 (L : Nat) (xs : Nat → Int32) : ll_P L xs 147 72 = some (.inl (lo_aload 73 0)) := (P_147 L xs 72).trans rfl
theorem p_147_73 (L : Nat) (xs : Nat → Int32) : ll_P L xs 147 73 = some (.inl (lo_getf 76 10 5)) := (P_147 L xs 73).trans rfl
theorem p_147_76 (L : Nat) (xs : Nat → Int32) : ll_P L xs 147 76 = some (.inl (lo_aload 77 3)) := (P_147 L xs 76).trans rfl
theorem p_147_77 (L : Nat) (xs : Nat → Int32) : ll_P L xs 147 77 = some (.inr (.inl (74, 2, 80))) := (P_147 L xs 77).trans rfl
theorem p_147_80 (L : Nat) (xs : Nat → Int32) : ll_P L xs 147 80 = some (.inl (lo_goto 111)) := (P_147 L xs 80).trans rfl
theorem p_147_83 (L : Nat) (xs : Nat → Int32) : ll_P L xs 147 83 = some (.inl (lo_aload 84 0)) := (P_147 L xs 83).trans rfl
theorem p_147_84 (L : Nat) (xs : Nat → Int32) : ll_P L xs 147 84 = some (.inl (lo_getf 87 10 5)) := (P_147 L xs 84).trans rfl
theorem p_147_87 (L : Nat) (xs : Nat → Int32) : ll_P L xs 147 87 = some (.inl (lo_aload 88 2)) := (P_147 L xs 87).trans rfl
theorem p_147_88 (L : Nat) (xs : Nat → Int32) : ll_P L xs 147 88 = some (.inr (.inl (74, 2, 91))) := (P_147 L xs 88).trans rfl
theorem p_147_91 (L : Nat) (xs : Nat → Int32) : ll_P L xs 147 91 = some (.inl (lo_aload 92 0)) := (P_147 L xs 91).trans rfl
theorem p_147_92 (L : Nat) (xs : Nat → Int32) : ll_P L xs 147 92 = some (.inl (lo_getf 95 10 5)) := (P_147 L xs 92).trans rfl
theorem p_147_95 (L : Nat) (xs : Nat → Int32) : ll_P L xs 147 95 = some (.inl (lo_push 97 (.int 42))) := (P_147 L xs 95).trans rfl
theorem p_147_97 (L : Nat) (xs : Nat → Int32) : ll_P L xs 147 97 = some (.inr (.inl (72, 2, 100))) := (P_147 L xs 97).trans rfl
theorem p_147_100 (L : Nat) (xs : Nat → Int32) : ll_P L xs 147 100 = some (.inl (lo_goto 111)) := (P_147 L xs 100).trans rfl
theorem p_147_103 (L : Nat) (xs : Nat → Int32) : ll_P L xs 147 103 = some (.inl (lo_aload 104 0)) := (P_147 L xs 103).trans rfl
theorem p_147_104 (L : Nat) (xs : Nat → Int32) : ll_P L xs 147 104 = some (.inl (lo_getf 107 10 5)) := (P_147 L xs 104).trans rfl
theorem p_147_107 (L : Nat) (xs : Nat → Int32) : ll_P L xs 147 107 = some (.inl (lo_aload 108 2)) := (P_147 L xs 107).trans rfl
theorem p_147_108 (L : Nat) (xs : Nat → Int32) : ll_P L xs 147 108 = some (.inr (.inl (73, 2, 111))) := (P_147 L xs 108).trans rfl
theorem p_147_111 (L : Nat) (xs : Nat → Int32) : ll_P L xs 147 111 = some (.inr (.inr 0)) := (P_147 L xs 111).trans rfl
theorem b_147_0 {Y : sY} {d : Nat} {s : sT} {K : Option Int32 → sT → Prop} {r0 : Nat} {x1 : Int32} {r2 : Nat} {r3 : Nat} (h : (∃ a1, (isO Y r0 10 ∧ s.2 r0 5 = some a1) ∧ (isO Y a1 7 ∧ tT Y d 71 0 [.ref a1] [] s (fun r s1 => tT Y (d + 1) 147 7 [.ref r0, .int x1, .ref r2, .ref r3] ((r.map Value.int).toList ++ []) s1 K)))) : tT Y (d + 1) 147 0 [.ref r0, .int x1, .ref r2, .ref r3] [] s K :=
  (tt_aload (p_147_0 _ _) rfl).mpr (Exists.elim h (fun a1 h2 => t3_getr (p_147_1 _ _) (isI_10_5) h2.1.1 h2.1.2 (t2_callv (z := 71) (k := 1) (i := a1) (as := []) (rest := []) (p_147_4 _ _) mK_71 mL_71 rfl rfl (Nat.le_of_ble_eq_true rfl) rfl (Nat.le_of_ble_eq_true rfl) h2.2.1 h2.2.2)))
theorem b_147_7 {Y : sY} {d : Nat} {s : sT} {K : Option Int32 → sT → Prop} {r0 : Nat} {x1 : Int32} {r2 : Nat} {r3 : Nat} (h : ((x1 = 1 → (∃ a2, (isO Y r0 10 ∧ s.2 r0 5 = some a2) ∧ (isO Y a2 7 ∧ tT Y d 73 0 [.ref a2, .ref r2, .null] [] s (fun r s1 => tT Y (d + 1) 147 44 [.ref r0, .int x1, .ref r2, .ref r3] ((r.map Value.int).toList ++ []) s1 K)))) ∧ (x1 = 2 → (∃ a5, (isO Y r0 10 ∧ s.2 r0 5 = some a5) ∧ (isO Y a5 7 ∧ tT Y d 74 0 [.ref a5, .ref r2] [] s (fun r s1 => tT Y (d + 1) 147 72 [.ref r0, .int x1, .ref r2, .ref r3] ((r.map Value.int).toList ++ []) s1 K)))) ∧ (x1 = 3 → (∃ a8, (isO Y r0 10 ∧ s.2 r0 5 = some a8) ∧ (isO Y a8 7 ∧ tT Y d 74 0 [.ref a8, .ref r2] [] s (fun r s1 => tT Y (d + 1) 147 91 [.ref r0, .int x1, .ref r2, .ref r3] ((r.map Value.int).toList ++ []) s1 K)))) ∧ (¬ x1 = 1 ∧ ¬ x1 = 2 ∧ ¬ x1 = 3 → (∃ a10, (isO Y r0 10 ∧ s.2 r0 5 = some a10) ∧ (isO Y a10 7 ∧ tT Y d 73 0 [.ref a10, .ref r2, .null] [] s (fun r s1 => tT Y (d + 1) 147 111 [.ref r0, .int x1, .ref r2, .ref r3] ((r.map Value.int).toList ++ []) s1 K)))))) : tT Y (d + 1) 147 7 [.ref r0, .int x1, .ref r2, .ref r3] [] s K :=
  (tt_iload (p_147_7 _ _) rfl).mpr (Decidable.byCases (p := x1 = 1) (fun g1 => t3_tab (t := 36) (p_147_8 _ _) (by rw [g1]; rfl) ((tt_aload (p_147_36 _ _) rfl).mpr (Exists.elim (h.1 g1) (fun a2 h3 => t3_getr (p_147_37 _ _) (isI_10_5) h3.1.1 h3.1.2 ((tt_aload (p_147_40 _ _) rfl).mpr (t2_callv (z := 73) (k := 2) (i := a2) (as := [.ref r2]) (rest := []) (p_147_41 _ _) mK_73 mL_73 rfl rfl (Nat.le_of_ble_eq_true rfl) rfl (Nat.le_of_ble_eq_true rfl) h3.2.1 h3.2.2)))))) (fun g1n => Decidable.byCases (p := x1 = 2) (fun g4 => t3_tab (t := 64) (p_147_8 _ _) (by rw [g4]; rfl) ((tt_aload (p_147_64 _ _) rfl).mpr (Exists.elim (h.2.1 g4) (fun a5 h6 => t3_getr (p_147_65 _ _) (isI_10_5) h6.1.1 h6.1.2 ((tt_aload (p_147_68 _ _) rfl).mpr (t2_callv (z := 74) (k := 2) (i := a5) (as := [.ref r2]) (rest := []) (p_147_69 _ _) mK_74 mL_74 rfl rfl (Nat.le_of_ble_eq_true rfl) rfl (Nat.le_of_ble_eq_true rfl) h6.2.1 h6.2.2)))))) (fun g4n => Decidable.byCases (p := x1 = 3) (fun g7 => t3_tab (t := 83) (p_147_8 _ _) (by rw [g7]; rfl) ((tt_aload (p_147_83 _ _) rfl).mpr (Exists.elim (h.2.2.1 g7) (fun a8 h9 => t3_getr (p_147_84 _ _) (isI_10_5) h9.1.1 h9.1.2 ((tt_aload (p_147_87 _ _) rfl).mpr (t2_callv (z := 74) (k := 2) (i := a8) (as := [.ref r2]) (rest := []) (p_147_88 _ _) mK_74 mL_74 rfl rfl (Nat.le_of_ble_eq_true rfl) rfl (Nat.le_of_ble_eq_true rfl) h9.2.1 h9.2.2)))))) (fun g7n => t3_tab (t := 103) (p_147_8 _ _) (t3_tabd (fun k hk => t3_tabk (lo := 1) (n := 3) (fun j (hj : j < 3) => by rcases (show j = 0 ∨ j = 1 ∨ j = 2 by omega) with rfl | rfl | rfl <;> assumption) k hk)) ((tt_aload (p_147_103 _ _) rfl).mpr (Exists.elim (h.2.2.2 ⟨g1n, g4n, g7n⟩) (fun a10 h11 => t3_getr (p_147_104 _ _) (isI_10_5) h11.1.1 h11.1.2 ((tt_aload (p_147_107 _ _) rfl).mpr (t2_callv (z := 73) (k := 2) (i := a10) (as := [.ref r2]) (rest := []) (p_147_108 _ _) mK_73 mL_73 rfl rfl (Nat.le_of_ble_eq_true rfl) rfl (Nat.le_of_ble_eq_true rfl) h11.2.1 h11.2.2)))))))))
theorem b_147_44 {Y : sY} {d : Nat} {s : sT} {K : Option Int32 → sT → Prop} {r0 : Nat} {x1 : Int32} {r2 : Nat} {r3 : Nat} (h : (∃ a1, (isO Y r0 10 ∧ s.2 r0 5 = some a1) ∧ (isO Y a1 7 ∧ tT Y d 72 0 [.ref a1, .int (43 : Int32)] [] s (fun r s1 => tT Y (d + 1) 147 53 [.ref r0, .int x1, .ref r2, .ref r3] ((r.map Value.int).toList ++ []) s1 K)))) : tT Y (d + 1) 147 44 [.ref r0, .int x1, .ref r2, .ref r3] [] s K :=
  (tt_aload (p_147_44 _ _) rfl).mpr (Exists.elim h (fun a1 h2 => t3_getr (p_147_45 _ _) (isI_10_5) h2.1.1 h2.1.2 ((tt_push (p_147_48 _ _)).mpr (t2_callv (z := 72) (k := 2) (i := a1) (as := [.int (43 : Int32)]) (rest := []) (p_147_50 _ _) mK_72 mL_72 rfl rfl (Nat.le_of_ble_eq_true rfl) rfl (Nat.le_of_ble_eq_true rfl) h2.2.1 h2.2.2))))
theorem b_147_53 {Y : sY} {d : Nat} {s : sT} {K : Option Int32 → sT → Prop} {r0 : Nat} {x1 : Int32} {r2 : Nat} {r3 : Nat} (h : (∃ a1, (isO Y r0 10 ∧ s.2 r0 5 = some a1) ∧ (isO Y a1 7 ∧ tT Y d 73 0 [.ref a1, .ref r3, .null] [] s (fun r s1 => tT Y (d + 1) 147 61 [.ref r0, .int x1, .ref r2, .ref r3] ((r.map Value.int).toList ++ []) s1 K)))) : tT Y (d + 1) 147 53 [.ref r0, .int x1, .ref r2, .ref r3] [] s K :=
  (tt_aload (p_147_53 _ _) rfl).mpr (Exists.elim h (fun a1 h2 => t3_getr (p_147_54 _ _) (isI_10_5) h2.1.1 h2.1.2 ((tt_aload (p_147_57 _ _) rfl).mpr (t2_callv (z := 73) (k := 2) (i := a1) (as := [.ref r3]) (rest := []) (p_147_58 _ _) mK_73 mL_73 rfl rfl (Nat.le_of_ble_eq_true rfl) rfl (Nat.le_of_ble_eq_true rfl) h2.2.1 h2.2.2))))
theorem b_147_61 {Y : sY} {d : Nat} {s : sT} {K : Option Int32 → sT → Prop} {r0 : Nat} {x1 : Int32} {r2 : Nat} {r3 : Nat} (h : tT Y (d + 1) 147 111 [.ref r0, .int x1, .ref r2, .ref r3] [] s K) : tT Y (d + 1) 147 61 [.ref r0, .int x1, .ref r2, .ref r3] [] s K :=
  (tt_goto (p_147_61 _ _)).mpr (h)
theorem b_147_72 {Y : sY} {d : Nat} {s : sT} {K : Option Int32 → sT → Prop} {r0 : Nat} {x1 : Int32} {r2 : Nat} {r3 : Nat} (h : (∃ a1, (isO Y r0 10 ∧ s.2 r0 5 = some a1) ∧ (isO Y a1 7 ∧ tT Y d 74 0 [.ref a1, .ref r3] [] s (fun r s1 => tT Y (d + 1) 147 80 [.ref r0, .int x1, .ref r2, .ref r3] ((r.map Value.int).toList ++ []) s1 K)))) : tT Y (d + 1) 147 72 [.ref r0, .int x1, .ref r2, .ref r3] [] s K :=
  (tt_aload (p_147_72 _ _) rfl).mpr (Exists.elim h (fun a1 h2 => t3_getr (p_147_73 _ _) (isI_10_5) h2.1.1 h2.1.2 ((tt_aload (p_147_76 _ _) rfl).mpr (t2_callv (z := 74) (k := 2) (i := a1) (as := [.ref r3]) (rest := []) (p_147_77 _ _) mK_74 mL_74 rfl rfl (Nat.le_of_ble_eq_true rfl) rfl (Nat.le_of_ble_eq_true rfl) h2.2.1 h2.2.2))))
theorem b_147_80 {Y : sY} {d : Nat} {s : sT} {K : Option Int32 → sT → Prop} {r0 : Nat} {x1 : Int32} {r2 : Nat} {r3 : Nat} (h : tT Y (d + 1) 147 111 [.ref r0, .int x1, .ref r2, .ref r3] [] s K) : tT Y (d + 1) 147 80 [.ref r0, .int x1, .ref r2, .ref r3] [] s K :=
  (tt_goto (p_147_80 _ _)).mpr (h)
theorem b_147_91 {Y : sY} {d : Nat} {s : sT} {K : Option Int32 → sT → Prop} {r0 : Nat} {x1 : Int32} {r2 : Nat} {r3 : Nat} (h : (∃ a1, (isO Y r0 10 ∧ s.2 r0 5 = some a1) ∧ (isO Y a1 7 ∧ tT Y d 72 0 [.ref a1, .int (42 : Int32)] [] s (fun r s1 => tT Y (d + 1) 147 100 [.ref r0, .int x1, .ref r2, .ref r3] ((r.map Value.int).toList ++ []) s1 K)))) : tT Y (d + 1) 147 91 [.ref r0, .int x1, .ref r2, .ref r3] [] s K :=
  (tt_aload (p_147_91 _ _) rfl).mpr (Exists.elim h (fun a1 h2 => t3_getr (p_147_92 _ _) (isI_10_5) h2.1.1 h2.1.2 ((tt_push (p_147_95 _ _)).mpr (t2_callv (z := 72) (k := 2) (i := a1) (as := [.int (42 : Int32)]) (rest := []) (p_147_97 _ _) mK_72 mL_72 rfl rfl (Nat.le_of_ble_eq_true rfl) rfl (Nat.le_of_ble_eq_true rfl) h2.2.1 h2.2.2))))
theorem b_147_100 {Y : sY} {d : Nat} {s : sT} {K : Option Int32 → sT → Prop} {r0 : Nat} {x1 : Int32} {r2 : Nat} {r3 : Nat} (h : tT Y (d + 1) 147 111 [.ref r0, .int x1, .ref r2, .ref r3] [] s K) : tT Y (d + 1) 147 100 [.ref r0, .int x1, .ref r2, .ref r3] [] s K :=
  (tt_goto (p_147_100 _ _)).mpr (h)
theorem b_147_111 {Y : sY} {d : Nat} {s : sT} {K : Option Int32 → sT → Prop} {r0 : Nat} {x1 : Int32} {r2 : Nat} {r3 : Nat} (h : K none s) : tT Y (d + 1) 147 111 [.ref r0, .int x1, .ref r2, .ref r3] [] s K :=
  tt_ret0 (p_147_111 _ _) h
/-! InclusionProver.tapeIsWordOf.(LInclusionProver$Side;)Z -/
theorem p_148_0 (L : Nat) (xs : Nat → Int32) : ll_P L xs 148 0 = some (.inl (lo_aload 1 0)) := (P_148 L xs 0).trans rfl
theorem p_148_1 (L : Nat) (xs : Nat → Int32) : ll_P L xs 148 1 = some (.inl (lo_getf 4 10 8)) := (P_148 L xs 1).trans rfl
theorem p_148_4 (L : Nat) (xs : Nat → Int32) : ll_P L xs 148 4 = some (.inl (lo_getf 7 3 0)) := (P_148 L xs 4).trans rfl
theorem p_148_7 (L : Nat) (xs : Nat → Int32) : ll_P L xs 148 7 = some (.inl (lo_astore 8 2)) := (P_148 L xs 7).trans rfl
theorem p_148_8 (L : Nat) (xs : Nat → Int32) : ll_P L xs 148 8 = some (.inl (lo_aload 9 2)) := (P_148 L xs 8).trans rfl
theorem p_148_9 (L : Nat) (xs : Nat → Int32) : ll_P L xs 148 9 = some (.inl (lo_getf 12 7 1)) := (P_148 L xs 9).trans rfl
theorem p_148_12 (L : Nat) (xs : Nat → Int32) : ll_P L xs 148 12 = some (.inl (lo_push 14 (.int 30))) := (P_148 L xs 12).trans rfl
theorem p_148_14 (L : Nat) (xs : Nat → Int32) : ll_P L xs 148 14 = some (.inl (lo_cmp 19 17 (fun x y => decide (x ≤ y)))) := (P_148 L xs 14).trans rfl
theorem p_148_17 (L : Nat) (xs : Nat → Int32) : ll_P L xs 148 17 = some (.inl (lo_push 18 (.int 0))) := (P_148 L xs 17).trans rfl
theorem p_148_18 (L : Nat) (xs : Nat → Int32) : ll_P L xs 148 18 = some (.inr (.inr 2)) := (P_148 L xs 18).trans rfl
theorem p_148_19 (L : Nat) (xs : Nat → Int32) : ll_P L xs 148 19 = some (.inl (lo_push 20 (.int 1))) := (P_148 L xs 19).trans rfl
theorem p_148_20 (L : Nat) (xs : Nat → Int32) : ll_P L xs 148 20 = some (.inl (lo_istore 21 3)) := (P_148 L xs 20).trans rfl
theorem p_148_21 (L : Nat) (xs : Nat → Int32) : ll_P L xs 148 21 = some (.inl (lo_push 22 (.int 0))) := (P_148 L xs 21).trans rfl
theorem p_148_22 (L : Nat) (xs : Nat → Int32) : ll_P L xs 148 22 = some (.inl (lo_istore 24 4)) := (P_148 L xs 22).trans rfl
theorem p_148_24 (L : Nat) (xs : Nat → Int32) : ll_P L xs 148 24 = some (.inl (lo_iload 26 4)) := (P_148 L xs 24).trans rfl
theorem p_148_26 (L : Nat) (xs : Nat → Int32) : ll_P L xs 148 26 = some (.inl (lo_aload 27 2)) := (P_148 L xs 26).trans rfl
theorem p_148_27 (L : Nat) (xs : Nat → Int32) : ll_P L xs 148 27 = some (.inl (lo_getf 30 7 1)) := (P_148 L xs 27).trans rfl
theorem p_148_30 (L : Nat) (xs : Nat → Int32) : ll_P L xs 148 30 = some (.inl (lo_cmp 71 33 (fun x y => decide (y ≤ x)))) := (P_148 L xs 30).trans rfl
theorem p_148_33 (L : Nat) (xs : Nat → Int32) : ll_P L xs 148 33 = some (.inl (lo_aload 34 2)) := (P_148 L xs 33).trans rfl
theorem p_148_34 (L : Nat) (xs : Nat → Int32) : ll_P L xs 148 34 = some (.inl (lo_iload 36 4)) := (P_148 L xs 34).trans rfl
theorem p_148_36 (L : Nat) (xs : Nat → Int32) : ll_P L xs 148 36 = some (.inr (.inl (77, 2, 39))) := (P_148 L xs 36).trans rfl
theorem p_148_39 (L : Nat) (xs : Nat → Int32) : ll_P L xs 148 39 = some (.inl (lo_push 41 (.int 97))) := (P_148 L xs 39).trans rfl
theorem p_148_41 (L : Nat) (xs : Nat → Int32) : ll_P L xs 148 41 = some (.inl (lo_bin 42 (fun x y => x - y))) := (P_148 L xs 41).trans rfl
theorem p_148_42 (L : Nat) (xs : Nat → Int32) : ll_P L xs 148 42 = some (.inl (lo_istore 44 5)) := (P_148 L xs 42).trans rfl
theorem p_148_44 (L : Nat) (xs : Nat → Int32) : ll_P L xs 148 44 = some (.inl (lo_iload 46 5)) := (P_148 L xs 44).trans rfl
theorem p_148_46 (L : Nat) (xs : Nat → Int32) : ll_P L xs 148 46 = some (.inl (lo_if 55 49 (fun x => decide (x < 0)))) := (P_148 L xs 46).trans rfl
theorem p_148_49 (L : Nat) (xs : Nat → Int32) : ll_P L xs 148 49 = some (.inl (lo_iload 51 5)) := (P_148 L xs 49).trans rfl
theorem p_148_51 (L : Nat) (xs : Nat → Int32) : ll_P L xs 148 51 = some (.inl (lo_push 52 (.int 3))) := (P_148 L xs 51).trans rfl
theorem p_148_52 (L : Nat) (xs : Nat → Int32) : ll_P L xs 148 52 = some (.inl (lo_cmp 57 55 (fun x y => decide (x < y)))) := (P_148 L xs 52).trans rfl
theorem p_148_55 (L : Nat) (xs : Nat → Int32) : ll_P L xs 148 55 = some (.inl (lo_push 56 (.int 0))) := (P_148 L xs 55).trans rfl
theorem p_148_56 (L : Nat) (xs : Nat → Int32) : ll_P L xs 148 56 = some (.inr (.inr 2)) := (P_148 L xs 56).trans rfl
theorem p_148_57 (L : Nat) (xs : Nat → Int32) : ll_P L xs 148 57 = some (.inl (lo_aload 58 1)) := (P_148 L xs 57).trans rfl
theorem p_148_58 (L : Nat) (xs : Nat → Int32) : ll_P L xs 148 58 = some (.inl (lo_iload 59 3)) := (P_148 L xs 58).trans rfl
theorem p_148_59 (L : Nat) (xs : Nat → Int32) : ll_P L xs 148 59 = some (.inl (lo_iload 61 5)) := (P_148 L xs 59).trans rfl
theorem p_148_61 (L : Nat) (xs : Nat → Int32) : ll_P L xs 148 61 = some (.inr (.inl (54, 3, 64))) := (P_148 L xs 61).trans rfl
theorem p_148_64 (L : Nat) (xs : Nat → Int32) : ll_P L xs 148 64 = some (.inl (lo_istore 65 3)) := (P_148 L xs 64).trans rfl
theorem p_148_65 (L : Nat) (xs : Nat → Int32) : ll_P L xs 148 65 = some (.inl (lo_iinc 68 4 1)) := (P_148 L xs 65).trans rfl
theorem p_148_68 (L : Nat) (xs : Nat → Int32) : ll_P L xs 148 68 = some (.inl (lo_goto 24)) := (P_148 L xs 68).trans rfl
theorem p_148_71 (L : Nat) (xs : Nat → Int32) : ll_P L xs 148 71 = some (.inl (lo_aload 72 1)) := (P_148 L xs 71).trans rfl
theorem p_148_72 (L : Nat) (xs : Nat → Int32) : ll_P L xs 148 72 = some (.inl (lo_iload 73 3)) := (P_148 L xs 72).trans rfl
theorem p_148_73 (L : Nat) (xs : Nat → Int32) : ll_P L xs 148 73 = some (.inr (.inl (47, 2, 76))) := (P_148 L xs 73).trans rfl
theorem p_148_76 (L : Nat) (xs : Nat → Int32) : ll_P L xs 148 76 = some (.inr (.inr 2)) := (P_148 L xs 76).trans rfl
theorem b_148_0 {Y : sY} {d : Nat} {s : sT} {K : Option Int32 → sT → Prop} {r0 : Nat} {r1 : Nat} (h : (∃ a1, (isO Y r0 10 ∧ s.2 r0 8 = some a1) ∧ (∃ a3, (isO Y a1 3 ∧ s.2 a1 0 = some a3) ∧ (isO Y a3 7 ∧ (if (s.1 a3 1) ≤ (30 : Int32) then tT Y (d + 1) 148 24 [.ref r0, .ref r1, .ref a3, .int (1 : Int32), .int (0 : Int32), .null] [] s K else K (some (0 : Int32)) s))))) : tT Y (d + 1) 148 0 [.ref r0, .ref r1, .null, .null, .null, .null] [] s K :=
  (tt_aload (p_148_0 _ _) rfl).mpr (Exists.elim h (fun a1 h2 => t3_getr (p_148_1 _ _) (isI_10_8) h2.1.1 h2.1.2 (Exists.elim h2.2 (fun a3 h4 => t3_getr (p_148_4 _ _) (isI_3_0) h4.1.1 h4.1.2 ((tt_astore (p_148_7 _ _) (Nat.le_of_ble_eq_true rfl) rfl rfl).mpr ((tt_aload (p_148_8 _ _) rfl).mpr (t3_geti (p_148_9 _ _) (isI_7_1) h4.2.1 ((tt_push (p_148_12 _ _)).mpr (t3_cmp (p := (s.1 a3 1) ≤ (30 : Int32)) (p_148_14 _ _) rfl (fun g5 => (tt_push (p_148_19 _ _)).mpr ((tt_istore (p_148_20 _ _) (Nat.le_of_ble_eq_true rfl) rfl rfl).mpr ((tt_push (p_148_21 _ _)).mpr ((tt_istore (p_148_22 _ _) (Nat.le_of_ble_eq_true rfl) rfl rfl).mpr ((ifp h4.2.2 g5)))))) (fun g5 => (tt_push (p_148_17 _ _)).mpr (tt_ret2 (p_148_18 _ _) (Or.inl rfl) (ifn h4.2.2 g5))))))))))))
theorem b_148_24 {Y : sY} {d : Nat} {s : sT} {K : Option Int32 → sT → Prop} {r0 : Nat} {r1 : Nat} {r2 : Nat} {x3 : Int32} {x4 : Int32} {u5 : Value} (h : (isO Y r2 7 ∧ (if (s.1 r2 1) ≤ x4 then (isO Y r1 5 ∧ tT Y d 47 0 [.ref r1, .int x3] [] s (fun r s1 => tT Y (d + 1) 148 76 [.ref r0, .ref r1, .ref r2, .int x3, .int x4, u5] ((r.map Value.int).toList ++ []) s1 K)) else (isO Y r2 7 ∧ tT Y d 77 0 [.ref r2, .int x4] [] s (fun r s1 => tT Y (d + 1) 148 39 [.ref r0, .ref r1, .ref r2, .int x3, .int x4, u5] ((r.map Value.int).toList ++ []) s1 K))))) : tT Y (d + 1) 148 24 [.ref r0, .ref r1, .ref r2, .int x3, .int x4, u5] [] s K :=
  (tt_iload (p_148_24 _ _) rfl).mpr ((tt_aload (p_148_26 _ _) rfl).mpr (t3_geti (p_148_27 _ _) (isI_7_1) h.1 (t3_cmp (p := (s.1 r2 1) ≤ x4) (p_148_30 _ _) rfl (fun g1 => (tt_aload (p_148_71 _ _) rfl).mpr ((tt_iload (p_148_72 _ _) rfl).mpr (t2_callv (z := 47) (k := 2) (i := r1) (as := [.int x3]) (rest := []) (p_148_73 _ _) mK_47 mL_47 rfl rfl (Nat.le_of_ble_eq_true rfl) rfl (Nat.le_of_ble_eq_true rfl) (ifp h.2 g1).1 (ifp h.2 g1).2))) (fun g1 => (tt_aload (p_148_33 _ _) rfl).mpr ((tt_iload (p_148_34 _ _) rfl).mpr (t2_callv (z := 77) (k := 2) (i := r2) (as := [.int x4]) (rest := []) (p_148_36 _ _) mK_77 mL_77 rfl rfl (Nat.le_of_ble_eq_true rfl) rfl (Nat.le_of_ble_eq_true rfl) (ifn h.2 g1).1 (ifn h.2 g1).2))))))
theorem b_148_39 {Y : sY} {d : Nat} {s : sT} {K : Option Int32 → sT → Prop} {r0 : Nat} {r1 : Nat} {r2 : Nat} {x3 : Int32} {x4 : Int32} {u5 : Value} {t0 : Int32} (h : (if (t0 - (97 : Int32)) < 0 then K (some (0 : Int32)) s else (if (t0 - (97 : Int32)) < (3 : Int32) then (isO Y r1 5 ∧ tT Y d 54 0 [.ref r1, .int x3, .int (t0 - (97 : Int32)), .null, .null] [] s (fun r s1 => tT Y (d + 1) 148 64 [.ref r0, .ref r1, .ref r2, .int x3, .int x4, .int (t0 - (97 : Int32))] ((r.map Value.int).toList ++ []) s1 K)) else K (some (0 : Int32)) s))) : tT Y (d + 1) 148 39 [.ref r0, .ref r1, .ref r2, .int x3, .int x4, u5] [.int t0] s K :=
  (tt_push (p_148_39 _ _)).mpr ((tt_bin (p_148_41 _ _)).mpr ((tt_istore (p_148_42 _ _) (Nat.le_of_ble_eq_true rfl) rfl rfl).mpr ((tt_iload (p_148_44 _ _) rfl).mpr (t3_if (p := (t0 - (97 : Int32)) < 0) (p_148_46 _ _) rfl (fun g1 => (tt_push (p_148_55 _ _)).mpr (tt_ret2 (p_148_56 _ _) (Or.inl rfl) (ifp h g1))) (fun g1 => (tt_iload (p_148_49 _ _) rfl).mpr ((tt_push (p_148_51 _ _)).mpr (t3_cmp (p := (t0 - (97 : Int32)) < (3 : Int32)) (p_148_52 _ _) rfl (fun g2 => (tt_aload (p_148_57 _ _) rfl).mpr ((tt_iload (p_148_58 _ _) rfl).mpr ((tt_iload (p_148_59 _ _) rfl).mpr (t2_callv (z := 54) (k := 3) (i := r1) (as := [.int x3, .int (t0 - (97 : Int32))]) (rest := []) (p_148_61 _ _) mK_54 mL_54 rfl rfl (Nat.le_of_ble_eq_true rfl) rfl (Nat.le_of_ble_eq_true rfl) (ifp (ifn h g1) g2).1 (ifp (ifn h g1) g2).2)))) (fun g2 => (tt_push (p_148_55 _ _)).mpr (tt_ret2 (p_148_56 _ _) (Or.inl rfl) (ifn (ifn h g1) g2))))))))))
theorem b_148_64 {Y : sY} {d : Nat} {s : sT} {K : Option Int32 → sT → Prop} {r0 : Nat} {r1 : Nat} {r2 : Nat} {x3 : Int32} {x4 : Int32} {x5 : Int32} {t0 : Int32} (h : tT Y (d + 1) 148 24 [.ref r0, .ref r1, .ref r2, .int t0, .int (x4 + 1), .int x5] [] s K) : tT Y (d + 1) 148 64 [.ref r0, .ref r1, .ref r2, .int x3, .int x4, .int x5] [.int t0] s K :=
  (tt_istore (p_148_64 _ _) (Nat.le_of_ble_eq_true rfl) rfl rfl).mpr ((tt_iinc (p_148_65 _ _) rfl rfl rfl).mpr ((tt_goto (p_148_68 _ _)).mpr (h)))
theorem b_148_76 {Y : sY} {d : Nat} {s : sT} {K : Option Int32 → sT → Prop} {r0 : Nat} {r1 : Nat} {r2 : Nat} {x3 : Int32} {x4 : Int32} {u5 : Value} {t0 : Int32} (h : ((t0 = 0 ∨ t0 = 1) ∧ K (some t0) s)) : tT Y (d + 1) 148 76 [.ref r0, .ref r1, .ref r2, .int x3, .int x4, u5] [.int t0] s K :=
  tt_ret2 (p_148_76 _ _) h.1 h.2
/-! InclusionProverModel.<init>.()V -/
theorem p_149_0 (L : Nat) (xs : Nat → Int32) : ll_P L xs 149 0 = some (.inl (lo_aload 1 0)) := (P_149 L xs 0).trans rfl
theorem p_149_1 (L : Nat) (xs : Nat → Int32) : ll_P L xs 149 1 = some (.inl (lo_init 4)) := (P_149 L xs 1).trans rfl
theorem p_149_4 (L : Nat) (xs : Nat → Int32) : ll_P L xs 149 4 = some (.inl (lo_aload 5 0)) := (P_149 L xs 4).trans rfl
theorem p_149_5 (L : Nat) (xs : Nat → Int32) : ll_P L xs 149 5 = some (.inl (lo_push 7 (.int 42882))) := (P_149 L xs 5).trans rfl
theorem p_149_7 (L : Nat) (xs : Nat → Int32) : ll_P L xs 149 7 = some (.inl (lo_newa 9 0)) := (P_149 L xs 7).trans rfl
theorem p_149_9 (L : Nat) (xs : Nat → Int32) : ll_P L xs 149 9 = some (.inl (lo_putf 12 11 0 2)) := (P_149 L xs 9).trans rfl
theorem p_149_12 (L : Nat) (xs : Nat → Int32) : ll_P L xs 149 12 = some (.inl (lo_aload 13 0)) := (P_149 L xs 12).trans rfl
theorem p_149_13 (L : Nat) (xs : Nat → Int32) : ll_P L xs 149 13 = some (.inl (lo_push 15 (.int 60))) := (P_149 L xs 13).trans rfl
theorem p_149_15 (L : Nat) (xs : Nat → Int32) : ll_P L xs 149 15 = some (.inl (lo_newa 17 0)) := (P_149 L xs 15).trans rfl
theorem p_149_17 (L : Nat) (xs : Nat → Int32) : ll_P L xs 149 17 = some (.inl (lo_putf 20 11 1 2)) := (P_149 L xs 17).trans rfl
theorem p_149_20 (L : Nat) (xs : Nat → Int32) : ll_P L xs 149 20 = some (.inl (lo_aload 21 0)) := (P_149 L xs 20).trans rfl
theorem p_149_21 (L : Nat) (xs : Nat → Int32) : ll_P L xs 149 21 = some (.inl (lo_push 22 (.int 2))) := (P_149 L xs 21).trans rfl
theorem p_149_22 (L : Nat) (xs : Nat → Int32) : ll_P L xs 149 22 = some (.inl (lo_newa 24 1)) := (P_149 L xs 22).trans rfl
theorem p_149_24 (L : Nat) (xs : Nat → Int32) : ll_P L xs 149 24 = some (.inl (lo_putf 27 11 2 2)) := (P_149 L xs 24).trans rfl
theorem p_149_27 (L : Nat) (xs : Nat → Int32) : ll_P L xs 149 27 = some (.inl (lo_aload 28 0)) := (P_149 L xs 27).trans rfl
theorem p_149_28 (L : Nat) (xs : Nat → Int32) : ll_P L xs 149 28 = some (.inl (lo_push 29 (.int (-1)))) := (P_149 L xs 28).trans rfl
theorem p_149_29 (L : Nat) (xs : Nat → Int32) : ll_P L xs 149 29 = some (.inl (lo_putf 32 11 4 0)) := (P_149 L xs 29).trans rfl
theorem p_149_32 (L : Nat) (xs : Nat → Int32) : ll_P L xs 149 32 = some (.inl (lo_aload 33 0)) := (P_149 L xs 32).trans rfl
theorem p_149_33 (L : Nat) (xs : Nat → Int32) : ll_P L xs 149 33 = some (.inl (lo_push 36 (.int 1500))) := (P_149 L xs 33).trans rfl
theorem p_149_36 (L : Nat) (xs : Nat → Int32) : ll_P L xs 149 36 = some (.inl (lo_newa 38 0)) := (P_149 L xs 36).trans rfl
theorem p_149_38 (L : Nat) (xs : Nat → Int32) : ll_P L xs 149 38 = some (.inl (lo_putf 41 11 5 2)) := (P_149 L xs 38).trans rfl
theorem p_149_41 (L : Nat) (xs : Nat → Int32) : ll_P L xs 149 41 = some (.inl (lo_aload 42 0)) := (P_149 L xs 41).trans rfl
theorem p_149_42 (L : Nat) (xs : Nat → Int32) : ll_P L xs 149 42 = some (.inl (lo_push 45 (.int 1500))) := (P_149 L xs 42).trans rfl
theorem p_149_45 (L : Nat) (xs : Nat → Int32) : ll_P L xs 149 45 = some (.inl (lo_newa 47 0)) := (P_149 L xs 45).trans rfl
theorem p_149_47 (L : Nat) (xs : Nat → Int32) : ll_P L xs 149 47 = some (.inl (lo_putf 50 11 6 2)) := (P_149 L xs 47).trans rfl
theorem p_149_50 (L : Nat) (xs : Nat → Int32) : ll_P L xs 149 50 = some (.inl (lo_aload 51 0)) := (P_149 L xs 50).trans rfl
theorem p_149_51 (L : Nat) (xs : Nat → Int32) : ll_P L xs 149 51 = some (.inl (lo_push 54 (.int 1500))) := (P_149 L xs 51).trans rfl
theorem p_149_54 (L : Nat) (xs : Nat → Int32) : ll_P L xs 149 54 = some (.inl (lo_newa 56 0)) := (P_149 L xs 54).trans rfl
theorem p_149_56 (L : Nat) (xs : Nat → Int32) : ll_P L xs 149 56 = some (.inl (lo_putf 59 11 7 2)) := (P_149 L xs 56).trans rfl
theorem p_149_59 (L : Nat) (xs : Nat → Int32) : ll_P L xs 149 59 = some (.inl (lo_aload 60 0)) := (P_149 L xs 59).trans rfl
theorem p_149_60 (L : Nat) (xs : Nat → Int32) : ll_P L xs 149 60 = some (.inl (lo_push 63 (.int 1500))) := (P_149 L xs 60).trans rfl
theorem p_149_63 (L : Nat) (xs : Nat → Int32) : ll_P L xs 149 63 = some (.inl (lo_newa 65 0)) := (P_149 L xs 63).trans rfl
theorem p_149_65 (L : Nat) (xs : Nat → Int32) : ll_P L xs 149 65 = some (.inl (lo_putf 68 11 8 2)) := (P_149 L xs 65).trans rfl
theorem p_149_68 (L : Nat) (xs : Nat → Int32) : ll_P L xs 149 68 = some (.inl (lo_aload 69 0)) := (P_149 L xs 68).trans rfl
theorem p_149_69 (L : Nat) (xs : Nat → Int32) : ll_P L xs 149 69 = some (.inl (lo_push 72 (.int 1500))) := (P_149 L xs 69).trans rfl
theorem p_149_72 (L : Nat) (xs : Nat → Int32) : ll_P L xs 149 72 = some (.inl (lo_newa 74 0)) := (P_149 L xs 72).trans rfl
theorem p_149_74 (L : Nat) (xs : Nat → Int32) : ll_P L xs 149 74 = some (.inl (lo_putf 77 11 9 2)) := (P_149 L xs 74).trans rfl
theorem p_149_77 (L : Nat) (xs : Nat → Int32) : ll_P L xs 149 77 = some (.inl (lo_aload 78 0)) := (P_149 L xs 77).trans rfl
theorem p_149_78 (L : Nat) (xs : Nat → Int32) : ll_P L xs 149 78 = some (.inl (lo_push 81 (.int 24000))) := (P_149 L xs 78).trans rfl
theorem p_149_81 (L : Nat) (xs : Nat → Int32) : ll_P L xs 149 81 = some (.inl (lo_newa 83 0)) := (P_149 L xs 81).trans rfl
theorem p_149_83 (L : Nat) (xs : Nat → Int32) : ll_P L xs 149 83 = some (.inl (lo_putf 86 11 10 2)) := (P_149 L xs 83).trans rfl
theorem p_149_86 (L : Nat) (xs : Nat → Int32) : ll_P L xs 149 86 = some (.inl (lo_aload 87 0)) := (P_149 L xs 86).trans rfl
theorem p_149_87 (L : Nat) (xs : Nat → Int32) : ll_P L xs 149 87 = some (.inl (lo_push 90 (.int 1500))) := (P_149 L xs 87).trans rfl
theorem p_149_90 (L : Nat) (xs : Nat → Int32) : ll_P L xs 149 90 = some (.inl (lo_newa 92 1)) := (P_149 L xs 90).trans rfl
theorem p_149_92 (L : Nat) (xs : Nat → Int32) : ll_P L xs 149 92 = some (.inl (lo_putf 95 11 11 2)) := (P_149 L xs 92).trans rfl
theorem p_149_95 (L : Nat) (xs : Nat → Int32) : ll_P L xs 149 95 = some (.inl (lo_aload 96 0)) := (P_149 L xs 95).trans rfl
theorem p_149_96 (L : Nat) (xs : Nat → Int32) : ll_P L xs 149 96 = some (.inl (lo_push 99 (.int 4500))) := (P_149 L xs 96).trans rfl
theorem p_149_99 (L : Nat) (xs : Nat → Int32) : ll_P L xs 149 99 = some (.inl (lo_newa 101 0)) := (P_149 L xs 99).trans rfl
theorem p_149_101 (L : Nat) (xs : Nat → Int32) : ll_P L xs 149 101 = some (.inl (lo_putf 104 11 14 2)) := (P_149 L xs 101).trans rfl
theorem p_149_104 (L : Nat) (xs : Nat → Int32) : ll_P L xs 149 104 = some (.inl (lo_aload 105 0)) := (P_149 L xs 104).trans rfl
theorem p_149_105 (L : Nat) (xs : Nat → Int32) : ll_P L xs 149 105 = some (.inl (lo_push 108 (.int 4500))) := (P_149 L xs 105).trans rfl
theorem p_149_108 (L : Nat) (xs : Nat → Int32) : ll_P L xs 149 108 = some (.inl (lo_newa 110 0)) := (P_149 L xs 108).trans rfl
theorem p_149_110 (L : Nat) (xs : Nat → Int32) : ll_P L xs 149 110 = some (.inl (lo_putf 113 11 15 2)) := (P_149 L xs 110).trans rfl
theorem p_149_113 (L : Nat) (xs : Nat → Int32) : ll_P L xs 149 113 = some (.inl (lo_aload 114 0)) := (P_149 L xs 113).trans rfl
theorem p_149_114 (L : Nat) (xs : Nat → Int32) : ll_P L xs 149 114 = some (.inl (lo_push 116 (.int 48000))) := (P_149 L xs 114).trans rfl
theorem p_149_116 (L : Nat) (xs : Nat → Int32) : ll_P L xs 149 116 = some (.inl (lo_newa 118 0)) := (P_149 L xs 116).trans rfl
theorem p_149_118 (L : Nat) (xs : Nat → Int32) : ll_P L xs 149 118 = some (.inl (lo_putf 121 11 16 2)) := (P_149 L xs 118).trans rfl
theorem p_149_121 (L : Nat) (xs : Nat → Int32) : ll_P L xs 149 121 = some (.inl (lo_aload 122 0)) := (P_149 L xs 121).trans rfl
theorem p_149_122 (L : Nat) (xs : Nat → Int32) : ll_P L xs 149 122 = some (.inl (lo_push 125 (.int 400))) := (P_149 L xs 122).trans rfl
theorem p_149_125 (L : Nat) (xs : Nat → Int32) : ll_P L xs 149 125 = some (.inl (lo_newa 127 0)) := (P_149 L xs 125).trans rfl
theorem p_149_127 (L : Nat) (xs : Nat → Int32) : ll_P L xs 149 127 = some (.inl (lo_putf 130 11 18 2)) := (P_149 L xs 127).trans rfl
theorem p_149_130 (L : Nat) (xs : Nat → Int32) : ll_P L xs 149 130 = some (.inl (lo_aload 131 0)) := (P_149 L xs 130).trans rfl
theorem p_149_131 (L : Nat) (xs : Nat → Int32) : ll_P L xs 149 131 = some (.inl (lo_push 134 (.int 400))) := (P_149 L xs 131).trans rfl
theorem p_149_134 (L : Nat) (xs : Nat → Int32) : ll_P L xs 149 134 = some (.inl (lo_newa 136 0)) := (P_149 L xs 134).trans rfl
theorem p_149_136 (L : Nat) (xs : Nat → Int32) : ll_P L xs 149 136 = some (.inl (lo_putf 139 11 20 2)) := (P_149 L xs 136).trans rfl
theorem p_149_139 (L : Nat) (xs : Nat → Int32) : ll_P L xs 149 139 = some (.inl (lo_aload 140 0)) := (P_149 L xs 139).trans rfl
theorem p_149_140 (L : Nat) (xs : Nat → Int32) : ll_P L xs 149 140 = some (.inl (lo_push 143 (.int 960))) := (P_149 L xs 140).trans rfl
theorem p_149_143 (L : Nat) (xs : Nat → Int32) : ll_P L xs 149 143 = some (.inl (lo_newa 145 0)) := (P_149 L xs 143).trans rfl
theorem p_149_145 (L : Nat) (xs : Nat → Int32) : ll_P L xs 149 145 = some (.inl (lo_putf 148 11 21 2)) := (P_149 L xs 145).trans rfl
theorem p_149_148 (L : Nat) (xs : Nat → Int32) : ll_P L xs 149 148 = some (.inl (lo_aload 149 0)) := (P_149 L xs 148).trans rfl
theorem p_149_149 (L : Nat) (xs : Nat → Int32) : ll_P L xs 149 149 = some (.inl (lo_push 152 (.int 960))) := (P_149 L xs 149).trans rfl
theorem p_149_152 (L : Nat) (xs : Nat → Int32) : ll_P L xs 149 152 = some (.inl (lo_newa 154 0)) := (P_149 L xs 152).trans rfl
theorem p_149_154 (L : Nat) (xs : Nat → Int32) : ll_P L xs 149 154 = some (.inl (lo_putf 157 11 22 2)) := (P_149 L xs 154).trans rfl
theorem p_149_157 (L : Nat) (xs : Nat → Int32) : ll_P L xs 149 157 = some (.inl (lo_aload 158 0)) := (P_149 L xs 157).trans rfl
theorem p_149_158 (L : Nat) (xs : Nat → Int32) : ll_P L xs 149 158 = some (.inl (lo_push 160 (.int 32))) := (P_149 L xs 158).trans rfl
theorem p_149_160 (L : Nat) (xs : Nat → Int32) : ll_P L xs 149 160 = some (.inl (lo_newa 162 0)) := (P_149 L xs 160).trans rfl
theorem p_149_162 (L : Nat) (xs : Nat → Int32) : ll_P L xs 149 162 = some (.inl (lo_putf 165 11 23 2)) := (P_149 L xs 162).trans rfl
theorem p_149_165 (L : Nat) (xs : Nat → Int32) : ll_P L xs 149 165 = some (.inl (lo_aload 166 0)) := (P_149 L xs 165).trans rfl
theorem p_149_166 (L : Nat) (xs : Nat → Int32) : ll_P L xs 149 166 = some (.inl (lo_push 168 (.int 32))) := (P_149 L xs 166).trans rfl
theorem p_149_168 (L : Nat) (xs : Nat → Int32) : ll_P L xs 149 168 = some (.inl (lo_newa 170 0)) := (P_149 L xs 168).trans rfl
theorem p_149_170 (L : Nat) (xs : Nat → Int32) : ll_P L xs 149 170 = some (.inl (lo_putf 173 11 24 2)) := (P_149 L xs 170).trans rfl
theorem p_149_173 (L : Nat) (xs : Nat → Int32) : ll_P L xs 149 173 = some (.inl (lo_aload 174 0)) := (P_149 L xs 173).trans rfl
theorem p_149_174 (L : Nat) (xs : Nat → Int32) : ll_P L xs 149 174 = some (.inl (lo_push 177 (.int 2000))) := (P_149 L xs 174).trans rfl
theorem p_149_177 (L : Nat) (xs : Nat → Int32) : ll_P L xs 149 177 = some (.inl (lo_newa 179 0)) := (P_149 L xs 177).trans rfl
theorem p_149_179 (L : Nat) (xs : Nat → Int32) : ll_P L xs 149 179 = some (.inl (lo_putf 182 11 27 2)) := (P_149 L xs 179).trans rfl
theorem p_149_182 (L : Nat) (xs : Nat → Int32) : ll_P L xs 149 182 = some (.inl (lo_aload 183 0)) := (P_149 L xs 182).trans rfl
theorem p_149_183 (L : Nat) (xs : Nat → Int32) : ll_P L xs 149 183 = some (.inl (lo_push 186 (.int 600))) := (P_149 L xs 183).trans rfl
theorem p_149_186 (L : Nat) (xs : Nat → Int32) : ll_P L xs 149 186 = some (.inl (lo_newa 188 0)) := (P_149 L xs 186).trans rfl
theorem p_149_188 (L : Nat) (xs : Nat → Int32) : ll_P L xs 149 188 = some (.inl (lo_putf 191 11 28 2)) := (P_149 L xs 188).trans rfl
theorem p_149_191 (L : Nat) (xs : Nat → Int32) : ll_P L xs 149 191 = some (.inl (lo_aload 192 0)) := (P_149 L xs 191).trans rfl
theorem p_149_192 (L : Nat) (xs : Nat → Int32) : ll_P L xs 149 192 = some (.inl (lo_push 195 (.int 1500))) := (P_149 L xs 192).trans rfl
theorem p_149_195 (L : Nat) (xs : Nat → Int32) : ll_P L xs 149 195 = some (.inl (lo_newa 197 0)) := (P_149 L xs 195).trans rfl
theorem p_149_197 (L : Nat) (xs : Nat → Int32) : ll_P L xs 149 197 = some (.inl (lo_putf 200 11 31 2)) := (P_149 L xs 197).trans rfl
theorem p_149_200 (L : Nat) (xs : Nat → Int32) : ll_P L xs 149 200 = some (.inl (lo_aload 201 0)) := (P_149 L xs 200).trans rfl
theorem p_149_201 (L : Nat) (xs : Nat → Int32) : ll_P L xs 149 201 = some (.inl (lo_push 204 (.int 200))) := (P_149 L xs 201).trans rfl
theorem p_149_204 (L : Nat) (xs : Nat → Int32) : ll_P L xs 149 204 = some (.inl (lo_newa 206 0)) := (P_149 L xs 204).trans rfl
theorem p_149_206 (L : Nat) (xs : Nat → Int32) : ll_P L xs 149 206 = some (.inl (lo_putf 209 11 32 2)) := (P_149 L xs 206).trans rfl
theorem p_149_209 (L : Nat) (xs : Nat → Int32) : ll_P L xs 149 209 = some (.inl (lo_aload 210 0)) := (P_149 L xs 209).trans rfl
theorem p_149_210 (L : Nat) (xs : Nat → Int32) : ll_P L xs 149 210 = some (.inl (lo_push 212 (.int 62))) := (P_149 L xs 210).trans rfl
theorem p_149_212 (L : Nat) (xs : Nat → Int32) : ll_P L xs 149 212 = some (.inl (lo_newa 214 0)) := (P_149 L xs 212).trans rfl
theorem p_149_214 (L : Nat) (xs : Nat → Int32) : ll_P L xs 149 214 = some (.inl (lo_putf 217 11 34 2)) := (P_149 L xs 214).trans rfl
theorem p_149_217 (L : Nat) (xs : Nat → Int32) : ll_P L xs 149 217 = some (.inl (lo_aload 218 0)) := (P_149 L xs 217).trans rfl
theorem p_149_218 (L : Nat) (xs : Nat → Int32) : ll_P L xs 149 218 = some (.inl (lo_push 219 (.int 2))) := (P_149 L xs 218).trans rfl
theorem p_149_219 (L : Nat) (xs : Nat → Int32) : ll_P L xs 149 219 = some (.inl (lo_newa 221 0)) := (P_149 L xs 219).trans rfl
theorem p_149_221 (L : Nat) (xs : Nat → Int32) : ll_P L xs 149 221 = some (.inl (lo_putf 224 11 35 2)) := (P_149 L xs 221).trans rfl
theorem p_149_224 (L : Nat) (xs : Nat → Int32) : ll_P L xs 149 224 = some (.inl (lo_aload 225 0)) := (P_149 L xs 224).trans rfl
theorem p_149_225 (L : Nat) (xs : Nat → Int32) : ll_P L xs 149 225 = some (.inl (lo_push 228 (.int 186))) := (P_149 L xs 225).trans rfl
theorem p_149_228 (L : Nat) (xs : Nat → Int32) : ll_P L xs 149 228 = some (.inl (lo_newa 230 0)) := (P_149 L xs 228).trans rfl
theorem p_149_230 (L : Nat) (xs : Nat → Int32) : ll_P L xs 149 230 = some (.inl (lo_putf 233 11 36 2)) := (P_149 L xs 230).trans rfl
theorem p_149_233 (L : Nat) (xs : Nat → Int32) : ll_P L xs 149 233 = some (.inl (lo_aload 234 0)) := (P_149 L xs 233).trans rfl
theorem p_149_234 (L : Nat) (xs : Nat → Int32) : ll_P L xs 149 234 = some (.inl (lo_push 237 (.int 5766))) := (P_149 L xs 234).trans rfl
theorem p_149_237 (L : Nat) (xs : Nat → Int32) : ll_P L xs 149 237 = some (.inl (lo_newa 239 0)) := (P_149 L xs 237).trans rfl
theorem p_149_239 (L : Nat) (xs : Nat → Int32) : ll_P L xs 149 239 = some (.inl (lo_putf 242 11 37 2)) := (P_149 L xs 239).trans rfl
theorem p_149_242 (L : Nat) (xs : Nat → Int32) : ll_P L xs 149 242 = some (.inl (lo_aload 243 0)) := (P_149 L xs 242).trans rfl
theorem p_149_243 (L : Nat) (xs : Nat → Int32) : ll_P L xs 149 243 = some (.inl (lo_push 246 (.int 186))) := (P_149 L xs 243).trans rfl
theorem p_149_246 (L : Nat) (xs : Nat → Int32) : ll_P L xs 149 246 = some (.inl (lo_newa 248 0)) := (P_149 L xs 246).trans rfl
theorem p_149_248 (L : Nat) (xs : Nat → Int32) : ll_P L xs 149 248 = some (.inl (lo_putf 251 11 38 2)) := (P_149 L xs 248).trans rfl
theorem p_149_251 (L : Nat) (xs : Nat → Int32) : ll_P L xs 149 251 = some (.inl (lo_aload 252 0)) := (P_149 L xs 251).trans rfl
theorem p_149_252 (L : Nat) (xs : Nat → Int32) : ll_P L xs 149 252 = some (.inl (lo_push 255 (.int 301))) := (P_149 L xs 252).trans rfl
theorem p_149_255 (L : Nat) (xs : Nat → Int32) : ll_P L xs 149 255 = some (.inl (lo_newa 257 0)) := (P_149 L xs 255).trans rfl
theorem p_149_257 (L : Nat) (xs : Nat → Int32) : ll_P L xs 149 257 = some (.inl (lo_putf 260 11 39 2)) := (P_149 L xs 257).trans rfl
theorem p_149_260 (L : Nat) (xs : Nat → Int32) : ll_P L xs 149 260 = some (.inl (lo_aload 261 0)) := (P_149 L xs 260).trans rfl
theorem p_149_261 (L : Nat) (xs : Nat → Int32) : ll_P L xs 149 261 = some (.inl (lo_push 264 (.int 301))) := (P_149 L xs 261).trans rfl
theorem p_149_264 (L : Nat) (xs : Nat → Int32) : ll_P L xs 149 264 = some (.inl (lo_newa 266 0)) := (P_149 L xs 264).trans rfl
theorem p_149_266 (L : Nat) (xs : Nat → Int32) : ll_P L xs 149 266 = some (.inl (lo_putf 269 11 40 2)) := (P_149 L xs 266).trans rfl
theorem p_149_269 (L : Nat) (xs : Nat → Int32) : ll_P L xs 149 269 = some (.inl (lo_aload 270 0)) := (P_149 L xs 269).trans rfl
theorem p_149_270 (L : Nat) (xs : Nat → Int32) : ll_P L xs 149 270 = some (.inl (lo_push 273 (.int 301))) := (P_149 L xs 270).trans rfl
theorem p_149_273 (L : Nat) (xs : Nat → Int32) : ll_P L xs 149 273 = some (.inl (lo_newa 275 0)) := (P_149 L xs 273).trans rfl
theorem p_149_275 (L : Nat) (xs : Nat → Int32) : ll_P L xs 149 275 = some (.inl (lo_putf 278 11 41 2)) := (P_149 L xs 275).trans rfl
theorem p_149_278 (L : Nat) (xs : Nat → Int32) : ll_P L xs 149 278 = some (.inl (lo_aload 279 0)) := (P_149 L xs 278).trans rfl
theorem p_149_279 (L : Nat) (xs : Nat → Int32) : ll_P L xs 149 279 = some (.inl (lo_push 281 (.int 8))) := (P_149 L xs 279).trans rfl
theorem p_149_281 (L : Nat) (xs : Nat → Int32) : ll_P L xs 149 281 = some (.inl (lo_newa 283 0)) := (P_149 L xs 281).trans rfl
theorem p_149_283 (L : Nat) (xs : Nat → Int32) : ll_P L xs 149 283 = some (.inl (lo_putf 286 11 45 2)) := (P_149 L xs 283).trans rfl
theorem p_149_286 (L : Nat) (xs : Nat → Int32) : ll_P L xs 149 286 = some (.inl (lo_push 287 (.int 0))) := (P_149 L xs 286).trans rfl
theorem p_149_287 (L : Nat) (xs : Nat → Int32) : ll_P L xs 149 287 = some (.inl (lo_istore 288 1)) := (P_149 L xs 287).trans rfl
theorem p_149_288 (L : Nat) (xs : Nat → Int32) : ll_P L xs 149 288 = some (.inl (lo_iload 289 1)) := (P_149 L xs 288).trans rfl
theorem p_149_289 (L : Nat) (xs : Nat → Int32) : ll_P L xs 149 289 = some (.inl (lo_push 291 (.int 6))) := (P_149 L xs 289).trans rfl
theorem p_149_291 (L : Nat) (xs : Nat → Int32) : ll_P L xs 149 291 = some (.inl (lo_cmp 308 294 (fun x y => decide (y ≤ x)))) := (P_149 L xs 291).trans rfl
theorem p_149_294 (L : Nat) (xs : Nat → Int32) : ll_P L xs 149 294 = some (.inl (lo_aload 295 0)) := (P_149 L xs 294).trans rfl
theorem p_149_295 (L : Nat) (xs : Nat → Int32) : ll_P L xs 149 295 = some (.inl (lo_push 297 (.int 31))) := (P_149 L xs 295).trans rfl
theorem p_149_297 (L : Nat) (xs : Nat → Int32) : ll_P L xs 149 297 = some (.inl (lo_iload 298 1)) := (P_149 L xs 297).trans rfl
theorem p_149_298 (L : Nat) (xs : Nat → Int32) : ll_P L xs 149 298 = some (.inl (lo_bin 299 (fun x y => x * y))) := (P_149 L xs 298).trans rfl
theorem p_149_299 (L : Nat) (xs : Nat → Int32) : ll_P L xs 149 299 = some (.inr (.inl (150, 2, 302))) := (P_149 L xs 299).trans rfl
theorem p_149_302 (L : Nat) (xs : Nat → Int32) : ll_P L xs 149 302 = some (.inl (lo_iinc 305 1 1)) := (P_149 L xs 302).trans rfl
theorem p_149_305 (L : Nat) (xs : Nat → Int32) : ll_P L xs 149 305 = some (.inl (lo_goto 288)) := (P_149 L xs 305).trans rfl
theorem p_149_308 (L : Nat) (xs : Nat → Int32) : ll_P L xs 149 308 = some (.inl (lo_aload 309 0)) := (P_149 L xs 308).trans rfl
theorem p_149_309 (L : Nat) (xs : Nat → Int32) : ll_P L xs 149 309 = some (.inl (lo_getf 312 11 0)) := (P_149 L xs 309).trans rfl
theorem p_149_312 (L : Nat) (xs : Nat → Int32) : ll_P L xs 149 312 = some (.inl (lo_push 315 (.int 10388))) := (P_149 L xs 312).trans rfl
theorem p_149_315 (L : Nat) (xs : Nat → Int32) : ll_P L xs 149 315 = some (.inl (lo_push 316 (.int (-1)))) := (P_149 L xs 315).trans rfl
theorem p_149_316 (L : Nat) (xs : Nat → Int32) : ll_P L xs 149 316 = some (.inl (lo_ast 317 0)) := (P_149 L xs 316).trans rfl
theorem p_149_317 (L : Nat) (xs : Nat → Int32) : ll_P L xs 149 317 = some (.inr (.inr 0)) := (P_149 L xs 317).trans rfl
/-! InclusionProverModel.zeroes.(I)V -/
theorem p_150_0 (L : Nat) (xs : Nat → Int32) : ll_P L xs 150 0 = some (.inl (lo_aload 1 0)) := (P_150 L xs 0).trans rfl
theorem p_150_1 (L : Nat) (xs : Nat → Int32) : ll_P L xs 150 1 = some (.inl (lo_getf 4 11 0)) := (P_150 L xs 1).trans rfl
theorem p_150_4 (L : Nat) (xs : Nat → Int32) : ll_P L xs 150 4 = some (.inl (lo_iload 5 1)) := (P_150 L xs 4).trans rfl
theorem p_150_5 (L : Nat) (xs : Nat → Int32) : ll_P L xs 150 5 = some (.inl (lo_push 6 (.int 1))) := (P_150 L xs 5).trans rfl
theorem p_150_6 (L : Nat) (xs : Nat → Int32) : ll_P L xs 150 6 = some (.inl (lo_ast 7 0)) := (P_150 L xs 6).trans rfl
theorem p_150_7 (L : Nat) (xs : Nat → Int32) : ll_P L xs 150 7 = some (.inl (lo_aload 8 0)) := (P_150 L xs 7).trans rfl
theorem p_150_8 (L : Nat) (xs : Nat → Int32) : ll_P L xs 150 8 = some (.inl (lo_getf 11 11 0)) := (P_150 L xs 8).trans rfl
theorem p_150_11 (L : Nat) (xs : Nat → Int32) : ll_P L xs 150 11 = some (.inl (lo_iload 12 1)) := (P_150 L xs 11).trans rfl
theorem p_150_12 (L : Nat) (xs : Nat → Int32) : ll_P L xs 150 12 = some (.inl (lo_push 13 (.int 1))) := (P_150 L xs 12).trans rfl
theorem p_150_13 (L : Nat) (xs : Nat → Int32) : ll_P L xs 150 13 = some (.inl (lo_bin 14 (fun x y => x + y))) := (P_150 L xs 13).trans rfl
theorem p_150_14 (L : Nat) (xs : Nat → Int32) : ll_P L xs 150 14 = some (.inl (lo_push 16 (.int 48))) := (P_150 L xs 14).trans rfl
theorem p_150_16 (L : Nat) (xs : Nat → Int32) : ll_P L xs 150 16 = some (.inl (lo_ast 17 0)) := (P_150 L xs 16).trans rfl
theorem p_150_17 (L : Nat) (xs : Nat → Int32) : ll_P L xs 150 17 = some (.inr (.inr 0)) := (P_150 L xs 17).trans rfl
theorem b_150_0 {Y : sY} {d : Nat} {s : sT} {K : Option Int32 → sT → Prop} {r0 : Nat} {x1 : Int32} (h : (∃ a1, (isO Y r0 11 ∧ s.2 r0 0 = some a1) ∧ (∃ m3, (isA Y a1 0 m3 ∧ inR x1 m3) ∧ (∃ a5, (isO Y r0 11 ∧ (pV s a1 (x1).toNatClampNeg (1 : Int32)).2 r0 0 = some a5) ∧ (∃ m7, (isA Y a5 0 m7 ∧ inR (x1 + (1 : Int32)) m7) ∧ K none (pV (pV s a1 (x1).toNatClampNeg (1 : Int32)) a5 ((x1 + (1 : Int32))).toNatClampNeg (48 : Int32))))))) : tT Y d 150 0 [.ref r0, .int x1] [] s K :=
  (tt_aload (p_150_0 _ _) rfl).mpr (Exists.elim h (fun a1 h2 => t3_getr (p_150_1 _ _) (isI_11_0) h2.1.1 h2.1.2 ((tt_iload (p_150_4 _ _) rfl).mpr ((tt_push (p_150_5 _ _)).mpr (Exists.elim h2.2 (fun m3 h4 => t3_ast (p_150_6 _ _) h4.1.1 h4.1.2 ((tt_aload (p_150_7 _ _) rfl).mpr (Exists.elim h4.2 (fun a5 h6 => t3_getr (p_150_8 _ _) (isI_11_0) h6.1.1 h6.1.2 ((tt_iload (p_150_11 _ _) rfl).mpr ((tt_push (p_150_12 _ _)).mpr ((tt_bin (p_150_13 _ _)).mpr ((tt_push (p_150_14 _ _)).mpr (Exists.elim h6.2 (fun m7 h8 => t3_ast (p_150_16 _ _) h8.1.1 h8.1.2 (tt_ret0 (p_150_17 _ _) h8.2))))))))))))))))
/-! InclusionProverModel.isIn.(III)Z -/
theorem p_151_0 (L : Nat) (xs : Nat → Int32) : ll_P L xs 151 0 = some (.inl (lo_iload 1 0)) := (P_151 L xs 0).trans rfl
theorem p_151_1 (L : Nat) (xs : Nat → Int32) : ll_P L xs 151 1 = some (.inl (lo_iload 2 1)) := (P_151 L xs 1).trans rfl
theorem p_151_2 (L : Nat) (xs : Nat → Int32) : ll_P L xs 151 2 = some (.inl (lo_cmp 14 5 (fun x y => decide (x < y)))) := (P_151 L xs 2).trans rfl
theorem p_151_5 (L : Nat) (xs : Nat → Int32) : ll_P L xs 151 5 = some (.inl (lo_iload 6 0)) := (P_151 L xs 5).trans rfl
theorem p_151_6 (L : Nat) (xs : Nat → Int32) : ll_P L xs 151 6 = some (.inl (lo_iload 7 2)) := (P_151 L xs 6).trans rfl
theorem p_151_7 (L : Nat) (xs : Nat → Int32) : ll_P L xs 151 7 = some (.inl (lo_cmp 14 10 (fun x y => decide (y < x)))) := (P_151 L xs 7).trans rfl
theorem p_151_10 (L : Nat) (xs : Nat → Int32) : ll_P L xs 151 10 = some (.inl (lo_push 11 (.int 1))) := (P_151 L xs 10).trans rfl
theorem p_151_11 (L : Nat) (xs : Nat → Int32) : ll_P L xs 151 11 = some (.inl (lo_goto 15)) := (P_151 L xs 11).trans rfl
theorem p_151_14 (L : Nat) (xs : Nat → Int32) : ll_P L xs 151 14 = some (.inl (lo_push 15 (.int 0))) := (P_151 L xs 14).trans rfl
theorem p_151_15 (L : Nat) (xs : Nat → Int32) : ll_P L xs 151 15 = some (.inr (.inr 2)) := (P_151 L xs 15).trans rfl
theorem b_151_0 {Y : sY} {d : Nat} {s : sT} {K : Option Int32 → sT → Prop} {x0 : Int32} {x1 : Int32} {x2 : Int32} (h : (if x0 < x1 then K (some (0 : Int32)) s else (if x2 < x0 then K (some (0 : Int32)) s else K (some (1 : Int32)) s))) : tT Y d 151 0 [.int x0, .int x1, .int x2] [] s K :=
  (tt_iload (p_151_0 _ _) rfl).mpr ((tt_iload (p_151_1 _ _) rfl).mpr (t3_cmp (p := x0 < x1) (p_151_2 _ _) rfl (fun g1 => (tt_push (p_151_14 _ _)).mpr (tt_ret2 (p_151_15 _ _) (Or.inl rfl) (ifp h g1))) (fun g1 => (tt_iload (p_151_5 _ _) rfl).mpr ((tt_iload (p_151_6 _ _) rfl).mpr (t3_cmp (p := x2 < x0) (p_151_7 _ _) rfl (fun g2 => (tt_push (p_151_14 _ _)).mpr (tt_ret2 (p_151_15 _ _) (Or.inl rfl) (ifp (ifn h g1) g2))) (fun g2 => (tt_push (p_151_10 _ _)).mpr ((tt_goto (p_151_11 _ _)).mpr (tt_ret2 (p_151_15 _ _) (Or.inr rfl) (ifn (ifn h g1) g2)))))))))
/-! InclusionProverModel.copies.(III)V -/
theorem p_152_0 (L : Nat) (xs : Nat → Int32) : ll_P L xs 152 0 = some (.inl (lo_push 1 (.int 0))) := (P_152 L xs 0).trans rfl
theorem p_152_1 (L : Nat) (xs : Nat → Int32) : ll_P L xs 152 1 = some (.inl (lo_istore 3 4)) := (P_152 L xs 1).trans rfl
theorem p_152_3 (L : Nat) (xs : Nat → Int32) : ll_P L xs 152 3 = some (.inl (lo_iload 5 4)) := (P_152 L xs 3).trans rfl
theorem p_152_5 (L : Nat) (xs : Nat → Int32) : ll_P L xs 152 5 = some (.inl (lo_iload 6 3)) := (P_152 L xs 5).trans rfl
theorem p_152_6 (L : Nat) (xs : Nat → Int32) : ll_P L xs 152 6 = some (.inl (lo_cmp 33 9 (fun x y => decide (y ≤ x)))) := (P_152 L xs 6).trans rfl
theorem p_152_9 (L : Nat) (xs : Nat → Int32) : ll_P L xs 152 9 = some (.inl (lo_aload 10 0)) := (P_152 L xs 9).trans rfl
theorem p_152_10 (L : Nat) (xs : Nat → Int32) : ll_P L xs 152 10 = some (.inl (lo_getf 13 11 0)) := (P_152 L xs 10).trans rfl
theorem p_152_13 (L : Nat) (xs : Nat → Int32) : ll_P L xs 152 13 = some (.inl (lo_iload 14 2)) := (P_152 L xs 13).trans rfl
theorem p_152_14 (L : Nat) (xs : Nat → Int32) : ll_P L xs 152 14 = some (.inl (lo_iload 16 4)) := (P_152 L xs 14).trans rfl
theorem p_152_16 (L : Nat) (xs : Nat → Int32) : ll_P L xs 152 16 = some (.inl (lo_bin 17 (fun x y => x + y))) := (P_152 L xs 16).trans rfl
theorem p_152_17 (L : Nat) (xs : Nat → Int32) : ll_P L xs 152 17 = some (.inl (lo_aload 18 0)) := (P_152 L xs 17).trans rfl
theorem p_152_18 (L : Nat) (xs : Nat → Int32) : ll_P L xs 152 18 = some (.inl (lo_getf 21 11 0)) := (P_152 L xs 18).trans rfl
theorem p_152_21 (L : Nat) (xs : Nat → Int32) : ll_P L xs 152 21 = some (.inl (lo_iload 22 1)) := (P_152 L xs 21).trans rfl
theorem p_152_22 (L : Nat) (xs : Nat → Int32) : ll_P L xs 152 22 = some (.inl (lo_iload 24 4)) := (P_152 L xs 22).trans rfl
theorem p_152_24 (L : Nat) (xs : Nat → Int32) : ll_P L xs 152 24 = some (.inl (lo_bin 25 (fun x y => x + y))) := (P_152 L xs 24).trans rfl
theorem p_152_25 (L : Nat) (xs : Nat → Int32) : ll_P L xs 152 25 = some (.inl (lo_ald 26 0)) := (P_152 L xs 25).trans rfl
theorem p_152_26 (L : Nat) (xs : Nat → Int32) : ll_P L xs 152 26 = some (.inl (lo_ast 27 0)) := (P_152 L xs 26).trans rfl
theorem p_152_27 (L : Nat) (xs : Nat → Int32) : ll_P L xs 152 27 = some (.inl (lo_iinc 30 4 1)) := (P_152 L xs 27).trans rfl
theorem p_152_30 (L : Nat) (xs : Nat → Int32) : ll_P L xs 152 30 = some (.inl (lo_goto 3)) := (P_152 L xs 30).trans rfl
theorem p_152_33 (L : Nat) (xs : Nat → Int32) : ll_P L xs 152 33 = some (.inr (.inr 0)) := (P_152 L xs 33).trans rfl
theorem b_152_0 {Y : sY} {d : Nat} {s : sT} {K : Option Int32 → sT → Prop} {r0 : Nat} {x1 : Int32} {x2 : Int32} {x3 : Int32} (h : tT Y d 152 3 [.ref r0, .int x1, .int x2, .int x3, .int (0 : Int32)] [] s K) : tT Y d 152 0 [.ref r0, .int x1, .int x2, .int x3, .null] [] s K :=
  (tt_push (p_152_0 _ _)).mpr ((tt_istore (p_152_1 _ _) (Nat.le_of_ble_eq_true rfl) rfl rfl).mpr (h))
theorem b_152_3 {Y : sY} {d : Nat} {s : sT} {K : Option Int32 → sT → Prop} {r0 : Nat} {x1 : Int32} {x2 : Int32} {x3 : Int32} {x4 : Int32} (h : (if x3 ≤ x4 then K none s else (∃ a2, (isO Y r0 11 ∧ s.2 r0 0 = some a2) ∧ (∃ a4, (isO Y r0 11 ∧ s.2 r0 0 = some a4) ∧ (∃ m6, (isA Y a4 0 m6 ∧ inR (x1 + x4) m6) ∧ (∃ m8, (isA Y a2 0 m8 ∧ inR (x2 + x4) m8) ∧ tT Y d 152 3 [.ref r0, .int x1, .int x2, .int x3, .int (x4 + 1)] [] (pV s a2 ((x2 + x4)).toNatClampNeg (s.1 a4 ((x1 + x4)).toNatClampNeg)) K)))))) : tT Y d 152 3 [.ref r0, .int x1, .int x2, .int x3, .int x4] [] s K :=
  (tt_iload (p_152_3 _ _) rfl).mpr ((tt_iload (p_152_5 _ _) rfl).mpr (t3_cmp (p := x3 ≤ x4) (p_152_6 _ _) rfl (fun g1 => tt_ret0 (p_152_33 _ _) (ifp h g1)) (fun g1 => (tt_aload (p_152_9 _ _) rfl).mpr (Exists.elim (ifn h g1) (fun a2 h3 => t3_getr (p_152_10 _ _) (isI_11_0) h3.1.1 h3.1.2 ((tt_iload (p_152_13 _ _) rfl).mpr ((tt_iload (p_152_14 _ _) rfl).mpr ((tt_bin (p_152_16 _ _)).mpr ((tt_aload (p_152_17 _ _) rfl).mpr (Exists.elim h3.2 (fun a4 h5 => t3_getr (p_152_18 _ _) (isI_11_0) h5.1.1 h5.1.2 ((tt_iload (p_152_21 _ _) rfl).mpr ((tt_iload (p_152_22 _ _) rfl).mpr ((tt_bin (p_152_24 _ _)).mpr (Exists.elim h5.2 (fun m6 h7 => t3_ald (p_152_25 _ _) h7.1.1 h7.1.2 (Exists.elim h7.2 (fun m8 h9 => t3_ast (p_152_26 _ _) h9.1.1 h9.1.2 ((tt_iinc (p_152_27 _ _) rfl rfl rfl).mpr ((tt_goto (p_152_30 _ _)).mpr (h9.2)))))))))))))))))))))
/-! InclusionProverModel.clears.()V -/
theorem p_153_0 (L : Nat) (xs : Nat → Int32) : ll_P L xs 153 0 = some (.inl (lo_aload 1 0)) := (P_153 L xs 0).trans rfl
theorem p_153_1 (L : Nat) (xs : Nat → Int32) : ll_P L xs 153 1 = some (.inl (lo_push 2 (.int 0))) := (P_153 L xs 1).trans rfl
theorem p_153_2 (L : Nat) (xs : Nat → Int32) : ll_P L xs 153 2 = some (.inl (lo_putf 5 11 12 0)) := (P_153 L xs 2).trans rfl
theorem p_153_5 (L : Nat) (xs : Nat → Int32) : ll_P L xs 153 5 = some (.inl (lo_aload 6 0)) := (P_153 L xs 5).trans rfl
theorem p_153_6 (L : Nat) (xs : Nat → Int32) : ll_P L xs 153 6 = some (.inl (lo_push 7 (.int 0))) := (P_153 L xs 6).trans rfl
theorem p_153_7 (L : Nat) (xs : Nat → Int32) : ll_P L xs 153 7 = some (.inl (lo_putf 10 11 13 0)) := (P_153 L xs 7).trans rfl
theorem p_153_10 (L : Nat) (xs : Nat → Int32) : ll_P L xs 153 10 = some (.inl (lo_aload 11 0)) := (P_153 L xs 10).trans rfl
theorem p_153_11 (L : Nat) (xs : Nat → Int32) : ll_P L xs 153 11 = some (.inl (lo_push 12 (.int 0))) := (P_153 L xs 11).trans rfl
theorem p_153_12 (L : Nat) (xs : Nat → Int32) : ll_P L xs 153 12 = some (.inl (lo_putf 15 11 17 0)) := (P_153 L xs 12).trans rfl
theorem p_153_15 (L : Nat) (xs : Nat → Int32) : ll_P L xs 153 15 = some (.inl (lo_aload 16 0)) := (P_153 L xs 15).trans rfl
theorem p_153_16 (L : Nat) (xs : Nat → Int32) : ll_P L xs 153 16 = some (.inl (lo_push 17 (.int 0))) := (P_153 L xs 16).trans rfl
theorem p_153_17 (L : Nat) (xs : Nat → Int32) : ll_P L xs 153 17 = some (.inl (lo_push 18 (.int 0))) := (P_153 L xs 17).trans rfl
theorem p_153_18 (L : Nat) (xs : Nat → Int32) : ll_P L xs 153 18 = some (.inr (.inl (154, 3, 21))) := (P_153 L xs 18).trans rfl
theorem p_153_21 (L : Nat) (xs : Nat → Int32) : ll_P L xs 153 21 = some (.inl (lo_pop 22)) := (P_153 L xs 21).trans rfl
theorem p_153_22 (L : Nat) (xs : Nat → Int32) : ll_P L xs 153 22 = some (.inl (lo_aload 23 0)) := (P_153 L xs 22).trans rfl
theorem p_153_23 (L : Nat) (xs : Nat → Int32) : ll_P L xs 153 23 = some (.inl (lo_push 24 (.int 1))) := (P_153 L xs 23).trans rfl
theorem p_153_24 (L : Nat) (xs : Nat → Int32) : ll_P L xs 153 24 = some (.inl (lo_push 25 (.int 0))) := (P_153 L xs 24).trans rfl
theorem p_153_25 (L : Nat) (xs : Nat → Int32) : ll_P L xs 153 25 = some (.inr (.inl (154, 3, 28))) := (P_153 L xs 25).trans rfl
theorem p_153_28 (L : Nat) (xs : Nat → Int32) : ll_P L xs 153 28 = some (.inl (lo_pop 29)) := (P_153 L xs 28).trans rfl
theorem p_153_29 (L : Nat) (xs : Nat → Int32) : ll_P L xs 153 29 = some (.inl (lo_push 30 (.int 0))) := (P_153 L xs 29).trans rfl
theorem p_153_30 (L : Nat) (xs : Nat → Int32) : ll_P L xs 153 30 = some (.inl (lo_istore 31 1)) := (P_153 L xs 30).trans rfl
theorem p_153_31 (L : Nat) (xs : Nat → Int32) : ll_P L xs 153 31 = some (.inl (lo_iload 32 1)) := (P_153 L xs 31).trans rfl
theorem p_153_32 (L : Nat) (xs : Nat → Int32) : ll_P L xs 153 32 = some (.inl (lo_push 33 (.int 3))) := (P_153 L xs 32).trans rfl
theorem p_153_33 (L : Nat) (xs : Nat → Int32) : ll_P L xs 153 33 = some (.inl (lo_cmp 56 36 (fun x y => decide (y ≤ x)))) := (P_153 L xs 33).trans rfl
theorem p_153_36 (L : Nat) (xs : Nat → Int32) : ll_P L xs 153 36 = some (.inl (lo_aload 37 0)) := (P_153 L xs 36).trans rfl
theorem p_153_37 (L : Nat) (xs : Nat → Int32) : ll_P L xs 153 37 = some (.inl (lo_getf 40 11 18)) := (P_153 L xs 37).trans rfl
theorem p_153_40 (L : Nat) (xs : Nat → Int32) : ll_P L xs 153 40 = some (.inl (lo_push 41 (.int 0))) := (P_153 L xs 40).trans rfl
theorem p_153_41 (L : Nat) (xs : Nat → Int32) : ll_P L xs 153 41 = some (.inl (lo_iload 42 1)) := (P_153 L xs 41).trans rfl
theorem p_153_42 (L : Nat) (xs : Nat → Int32) : ll_P L xs 153 42 = some (.inl (lo_ast 43 0)) := (P_153 L xs 42).trans rfl
theorem p_153_43 (L : Nat) (xs : Nat → Int32) : ll_P L xs 153 43 = some (.inl (lo_aload 44 0)) := (P_153 L xs 43).trans rfl
theorem p_153_44 (L : Nat) (xs : Nat → Int32) : ll_P L xs 153 44 = some (.inl (lo_push 45 (.int 2))) := (P_153 L xs 44).trans rfl
theorem p_153_45 (L : Nat) (xs : Nat → Int32) : ll_P L xs 153 45 = some (.inl (lo_push 46 (.int 1))) := (P_153 L xs 45).trans rfl
theorem p_153_46 (L : Nat) (xs : Nat → Int32) : ll_P L xs 153 46 = some (.inr (.inl (154, 3, 49))) := (P_153 L xs 46).trans rfl
theorem p_153_49 (L : Nat) (xs : Nat → Int32) : ll_P L xs 153 49 = some (.inl (lo_pop 50)) := (P_153 L xs 49).trans rfl
theorem p_153_50 (L : Nat) (xs : Nat → Int32) : ll_P L xs 153 50 = some (.inl (lo_iinc 53 1 1)) := (P_153 L xs 50).trans rfl
theorem p_153_53 (L : Nat) (xs : Nat → Int32) : ll_P L xs 153 53 = some (.inl (lo_goto 31)) := (P_153 L xs 53).trans rfl
theorem p_153_56 (L : Nat) (xs : Nat → Int32) : ll_P L xs 153 56 = some (.inr (.inr 0)) := (P_153 L xs 56).trans rfl
theorem b_153_0 {Y : sY} {d : Nat} {s : sT} {K : Option Int32 → sT → Prop} {r0 : Nat} (h : (isO Y r0 11 ∧ (isO Y r0 11 ∧ (isO Y r0 11 ∧ (isO Y r0 11 ∧ tT Y d 154 0 [.ref r0, .int (0 : Int32), .int (0 : Int32), .null, .null] [] (pV (pV (pV s r0 12 (0 : Int32)) r0 13 (0 : Int32)) r0 17 (0 : Int32)) (fun r s1 => tT Y (d + 1) 153 21 [.ref r0, .null] ((r.map Value.int).toList ++ []) s1 K)))))) : tT Y (d + 1) 153 0 [.ref r0, .null] [] s K :=
  (tt_aload (p_153_0 _ _) rfl).mpr ((tt_push (p_153_1 _ _)).mpr ((t2_puti (p_153_2 _ _) isI_11_12 h.1).mpr ((tt_aload (p_153_5 _ _) rfl).mpr ((tt_push (p_153_6 _ _)).mpr ((t2_puti (p_153_7 _ _) isI_11_13 h.2.1).mpr ((tt_aload (p_153_10 _ _) rfl).mpr ((tt_push (p_153_11 _ _)).mpr ((t2_puti (p_153_12 _ _) isI_11_17 h.2.2.1).mpr ((tt_aload (p_153_15 _ _) rfl).mpr ((tt_push (p_153_16 _ _)).mpr ((tt_push (p_153_17 _ _)).mpr (t2_callv (z := 154) (k := 3) (i := r0) (as := [.int (0 : Int32), .int (0 : Int32)]) (rest := []) (p_153_18 _ _) mK_154 mL_154 rfl rfl (Nat.le_of_ble_eq_true rfl) rfl (Nat.le_of_ble_eq_true rfl) h.2.2.2.1 h.2.2.2.2))))))))))))
theorem b_153_21 {Y : sY} {d : Nat} {s : sT} {K : Option Int32 → sT → Prop} {r0 : Nat} {t0 : Int32} (h : (isO Y r0 11 ∧ tT Y d 154 0 [.ref r0, .int (1 : Int32), .int (0 : Int32), .null, .null] [] s (fun r s1 => tT Y (d + 1) 153 28 [.ref r0, .null] ((r.map Value.int).toList ++ []) s1 K))) : tT Y (d + 1) 153 21 [.ref r0, .null] [.int t0] s K :=
  (tt_popi (p_153_21 _ _)).mpr ((tt_aload (p_153_22 _ _) rfl).mpr ((tt_push (p_153_23 _ _)).mpr ((tt_push (p_153_24 _ _)).mpr (t2_callv (z := 154) (k := 3) (i := r0) (as := [.int (1 : Int32), .int (0 : Int32)]) (rest := []) (p_153_25 _ _) mK_154 mL_154 rfl rfl (Nat.le_of_ble_eq_true rfl) rfl (Nat.le_of_ble_eq_true rfl) h.1 h.2))))
theorem b_153_28 {Y : sY} {d : Nat} {s : sT} {K : Option Int32 → sT → Prop} {r0 : Nat} {t0 : Int32} (h : tT Y (d + 1) 153 31 [.ref r0, .int (0 : Int32)] [] s K) : tT Y (d + 1) 153 28 [.ref r0, .null] [.int t0] s K :=
  (tt_popi (p_153_28 _ _)).mpr ((tt_push (p_153_29 _ _)).mpr ((tt_istore (p_153_30 _ _) (Nat.le_of_ble_eq_true rfl) rfl rfl).mpr (h)))
theorem b_153_31 {Y : sY} {d : Nat} {s : sT} {K : Option Int32 → sT → Prop} {r0 : Nat} {x1 : Int32} (h : (if (3 : Int32) ≤ x1 then K none s else (∃ a2, (isO Y r0 11 ∧ s.2 r0 18 = some a2) ∧ (∃ m4, (isA Y a2 0 m4 ∧ inR (0 : Int32) m4) ∧ (isO Y r0 11 ∧ tT Y d 154 0 [.ref r0, .int (2 : Int32), .int (1 : Int32), .null, .null] [] (pV s a2 ((0 : Int32)).toNatClampNeg x1) (fun r s1 => tT Y (d + 1) 153 49 [.ref r0, .int x1] ((r.map Value.int).toList ++ []) s1 K)))))) : tT Y (d + 1) 153 31 [.ref r0, .int x1] [] s K :=
  (tt_iload (p_153_31 _ _) rfl).mpr ((tt_push (p_153_32 _ _)).mpr (t3_cmp (p := (3 : Int32) ≤ x1) (p_153_33 _ _) rfl (fun g1 => tt_ret0 (p_153_56 _ _) (ifp h g1)) (fun g1 => (tt_aload (p_153_36 _ _) rfl).mpr (Exists.elim (ifn h g1) (fun a2 h3 => t3_getr (p_153_37 _ _) (isI_11_18) h3.1.1 h3.1.2 ((tt_push (p_153_40 _ _)).mpr ((tt_iload (p_153_41 _ _) rfl).mpr (Exists.elim h3.2 (fun m4 h5 => t3_ast (p_153_42 _ _) h5.1.1 h5.1.2 ((tt_aload (p_153_43 _ _) rfl).mpr ((tt_push (p_153_44 _ _)).mpr ((tt_push (p_153_45 _ _)).mpr (t2_callv (z := 154) (k := 3) (i := r0) (as := [.int (2 : Int32), .int (1 : Int32)]) (rest := []) (p_153_46 _ _) mK_154 mL_154 rfl rfl (Nat.le_of_ble_eq_true rfl) rfl (Nat.le_of_ble_eq_true rfl) h5.2.1 h5.2.2)))))))))))))
theorem b_153_49 {Y : sY} {d : Nat} {s : sT} {K : Option Int32 → sT → Prop} {r0 : Nat} {x1 : Int32} {t0 : Int32} (h : tT Y (d + 1) 153 31 [.ref r0, .int (x1 + 1)] [] s K) : tT Y (d + 1) 153 49 [.ref r0, .int x1] [.int t0] s K :=
  (tt_popi (p_153_49 _ _)).mpr ((tt_iinc (p_153_50 _ _) rfl rfl rfl).mpr ((tt_goto (p_153_53 _ _)).mpr (h)))
/-! InclusionProverModel.addsNode.(II)I -/
theorem p_154_0 (L : Nat) (xs : Nat → Int32) : ll_P L xs 154 0 = some (.inl (lo_aload 1 0)) := (P_154 L xs 0).trans rfl
theorem p_154_1 (L : Nat) (xs : Nat → Int32) : ll_P L xs 154 1 = some (.inl (lo_getf 4 11 12)) := (P_154 L xs 1).trans rfl
theorem p_154_4 (L : Nat) (xs : Nat → Int32) : ll_P L xs 154 4 = some (.inl (lo_istore 5 3)) := (P_154 L xs 4).trans rfl
theorem p_154_5 (L : Nat) (xs : Nat → Int32) : ll_P L xs 154 5 = some (.inl (lo_aload 6 0)) := (P_154 L xs 5).trans rfl
theorem p_154_6 (L : Nat) (xs : Nat → Int32) : ll_P L xs 154 6 = some (.inl (lo_getf 9 11 5)) := (P_154 L xs 6).trans rfl
theorem p_154_9 (L : Nat) (xs : Nat → Int32) : ll_P L xs 154 9 = some (.inl (lo_iload 10 3)) := (P_154 L xs 9).trans rfl
theorem p_154_10 (L : Nat) (xs : Nat → Int32) : ll_P L xs 154 10 = some (.inl (lo_iload 11 1)) := (P_154 L xs 10).trans rfl
theorem p_154_11 (L : Nat) (xs : Nat → Int32) : ll_P L xs 154 11 = some (.inl (lo_ast 12 0)) := (P_154 L xs 11).trans rfl
theorem p_154_12 (L : Nat) (xs : Nat → Int32) : ll_P L xs 154 12 = some (.inl (lo_aload 13 0)) := (P_154 L xs 12).trans rfl
theorem p_154_13 (L : Nat) (xs : Nat → Int32) : ll_P L xs 154 13 = some (.inl (lo_getf 16 11 6)) := (P_154 L xs 13).trans rfl
theorem p_154_16 (L : Nat) (xs : Nat → Int32) : ll_P L xs 154 16 = some (.inl (lo_iload 17 3)) := (P_154 L xs 16).trans rfl
theorem p_154_17 (L : Nat) (xs : Nat → Int32) : ll_P L xs 154 17 = some (.inl (lo_aload 18 0)) := (P_154 L xs 17).trans rfl
theorem p_154_18 (L : Nat) (xs : Nat → Int32) : ll_P L xs 154 18 = some (.inl (lo_getf 21 11 13)) := (P_154 L xs 18).trans rfl
theorem p_154_21 (L : Nat) (xs : Nat → Int32) : ll_P L xs 154 21 = some (.inl (lo_ast 22 0)) := (P_154 L xs 21).trans rfl
theorem p_154_22 (L : Nat) (xs : Nat → Int32) : ll_P L xs 154 22 = some (.inl (lo_aload 23 0)) := (P_154 L xs 22).trans rfl
theorem p_154_23 (L : Nat) (xs : Nat → Int32) : ll_P L xs 154 23 = some (.inl (lo_getf 26 11 7)) := (P_154 L xs 23).trans rfl
theorem p_154_26 (L : Nat) (xs : Nat → Int32) : ll_P L xs 154 26 = some (.inl (lo_iload 27 3)) := (P_154 L xs 26).trans rfl
theorem p_154_27 (L : Nat) (xs : Nat → Int32) : ll_P L xs 154 27 = some (.inl (lo_iload 28 2)) := (P_154 L xs 27).trans rfl
theorem p_154_28 (L : Nat) (xs : Nat → Int32) : ll_P L xs 154 28 = some (.inl (lo_ast 29 0)) := (P_154 L xs 28).trans rfl
theorem p_154_29 (L : Nat) (xs : Nat → Int32) : ll_P L xs 154 29 = some (.inl (lo_push 30 (.int 0))) := (P_154 L xs 29).trans rfl
theorem p_154_30 (L : Nat) (xs : Nat → Int32) : ll_P L xs 154 30 = some (.inl (lo_istore 32 4)) := (P_154 L xs 30).trans rfl
theorem p_154_32 (L : Nat) (xs : Nat → Int32) : ll_P L xs 154 32 = some (.inl (lo_iload 34 4)) := (P_154 L xs 32).trans rfl
theorem p_154_34 (L : Nat) (xs : Nat → Int32) : ll_P L xs 154 34 = some (.inl (lo_iload 35 2)) := (P_154 L xs 34).trans rfl
theorem p_154_35 (L : Nat) (xs : Nat → Int32) : ll_P L xs 154 35 = some (.inl (lo_cmp 63 38 (fun x y => decide (y ≤ x)))) := (P_154 L xs 35).trans rfl
theorem p_154_38 (L : Nat) (xs : Nat → Int32) : ll_P L xs 154 38 = some (.inl (lo_aload 39 0)) := (P_154 L xs 38).trans rfl
theorem p_154_39 (L : Nat) (xs : Nat → Int32) : ll_P L xs 154 39 = some (.inl (lo_getf 42 11 10)) := (P_154 L xs 39).trans rfl
theorem p_154_42 (L : Nat) (xs : Nat → Int32) : ll_P L xs 154 42 = some (.inl (lo_aload 43 0)) := (P_154 L xs 42).trans rfl
theorem p_154_43 (L : Nat) (xs : Nat → Int32) : ll_P L xs 154 43 = some (.inl (lo_getf 46 11 13)) := (P_154 L xs 43).trans rfl
theorem p_154_46 (L : Nat) (xs : Nat → Int32) : ll_P L xs 154 46 = some (.inl (lo_iload 48 4)) := (P_154 L xs 46).trans rfl
theorem p_154_48 (L : Nat) (xs : Nat → Int32) : ll_P L xs 154 48 = some (.inl (lo_bin 49 (fun x y => x + y))) := (P_154 L xs 48).trans rfl
theorem p_154_49 (L : Nat) (xs : Nat → Int32) : ll_P L xs 154 49 = some (.inl (lo_aload 50 0)) := (P_154 L xs 49).trans rfl
theorem p_154_50 (L : Nat) (xs : Nat → Int32) : ll_P L xs 154 50 = some (.inl (lo_getf 53 11 18)) := (P_154 L xs 50).trans rfl
theorem p_154_53 (L : Nat) (xs : Nat → Int32) : ll_P L xs 154 53 = some (.inl (lo_iload 55 4)) := (P_154 L xs 53).trans rfl
theorem p_154_55 (L : Nat) (xs : Nat → Int32) : ll_P L xs 154 55 = some (.inl (lo_ald 56 0)) := (P_154 L xs 55).trans rfl
theorem p_154_56 (L : Nat) (xs : Nat → Int32) : ll_P L xs 154 56 = some (.inl (lo_ast 57 0)) := (P_154 L xs 56).trans rfl
theorem p_154_57 (L : Nat) (xs : Nat → Int32) : ll_P L xs 154 57 = some (.inl (lo_iinc 60 4 1)) := (P_154 L xs 57).trans rfl
theorem p_154_60 (L : Nat) (xs : Nat → Int32) : ll_P L xs 154 60 = some (.inl (lo_goto 32)) := (P_154 L xs 60).trans rfl
theorem p_154_63 (L : Nat) (xs : Nat → Int32) : ll_P L xs 154 63 = some (.inl (lo_aload 64 0)) := (P_154 L xs 63).trans rfl
theorem p_154_64 (L : Nat) (xs : Nat → Int32) : ll_P L xs 154 64 = some (.inl (lo_dup 65)) := (P_154 L xs 64).trans rfl
theorem p_154_65 (L : Nat) (xs : Nat → Int32) : ll_P L xs 154 65 = some (.inl (lo_getf 68 11 13)) := (P_154 L xs 65).trans rfl
theorem p_154_68 (L : Nat) (xs : Nat → Int32) : ll_P L xs 154 68 = some (.inl (lo_iload 69 2)) := (P_154 L xs 68).trans rfl
theorem p_154_69 (L : Nat) (xs : Nat → Int32) : ll_P L xs 154 69 = some (.inl (lo_bin 70 (fun x y => x + y))) := (P_154 L xs 69).trans rfl
theorem p_154_70 (L : Nat) (xs : Nat → Int32) : ll_P L xs 154 70 = some (.inl (lo_putf 73 11 13 0)) := (P_154 L xs 70).trans rfl
theorem p_154_73 (L : Nat) (xs : Nat → Int32) : ll_P L xs 154 73 = some (.inl (lo_aload 74 0)) := (P_154 L xs 73).trans rfl
theorem p_154_74 (L : Nat) (xs : Nat → Int32) : ll_P L xs 154 74 = some (.inl (lo_getf 77 11 11)) := (P_154 L xs 74).trans rfl
theorem p_154_77 (L : Nat) (xs : Nat → Int32) : ll_P L xs 154 77 = some (.inl (lo_iload 78 3)) := (P_154 L xs 77).trans rfl
theorem p_154_78 (L : Nat) (xs : Nat → Int32) : ll_P L xs 154 78 = some (.inl (lo_iload 79 1)) := (P_154 L xs 78).trans rfl
theorem p_154_79 (L : Nat) (xs : Nat → Int32) : ll_P L xs 154 79 = some (.inl (lo_push 80 (.int 1))) := (P_154 L xs 79).trans rfl
theorem p_154_80 (L : Nat) (xs : Nat → Int32) : ll_P L xs 154 80 = some (.inl (lo_cmp 93 83 (fun x y => decide (x = y)))) := (P_154 L xs 80).trans rfl
theorem p_154_83 (L : Nat) (xs : Nat → Int32) : ll_P L xs 154 83 = some (.inl (lo_iload 84 1)) := (P_154 L xs 83).trans rfl
theorem p_154_84 (L : Nat) (xs : Nat → Int32) : ll_P L xs 154 84 = some (.inl (lo_push 85 (.int 5))) := (P_154 L xs 84).trans rfl
theorem p_154_85 (L : Nat) (xs : Nat → Int32) : ll_P L xs 154 85 = some (.inl (lo_cmp 93 88 (fun x y => decide (x = y)))) := (P_154 L xs 85).trans rfl
theorem p_154_88 (L : Nat) (xs : Nat → Int32) : ll_P L xs 154 88 = some (.inl (lo_iload 89 1)) := (P_154 L xs 88).trans rfl
theorem p_154_89 (L : Nat) (xs : Nat → Int32) : ll_P L xs 154 89 = some (.inl (lo_push 90 (.int 4))) := (P_154 L xs 89).trans rfl
theorem p_154_90 (L : Nat) (xs : Nat → Int32) : ll_P L xs 154 90 = some (.inl (lo_cmp 97 93 (fun x y => decide (¬ x = y)))) := (P_154 L xs 90).trans rfl
theorem p_154_93 (L : Nat) (xs : Nat → Int32) : ll_P L xs 154 93 = some (.inl (lo_push 94 (.int 1))) := (P_154 L xs 93).trans rfl
theorem p_154_94 (L : Nat) (xs : Nat → Int32) : ll_P L xs 154 94 = some (.inl (lo_goto 98)) := (P_154 L xs 94).trans rfl
theorem p_154_97 (L : Nat) (xs : Nat → Int32) : ll_P L xs 154 97 = some (.inl (lo_push 98 (.int 0))) := (P_154 L xs 97).trans rfl
theorem p_154_98 (L : Nat) (xs : Nat → Int32) : ll_P L xs 154 98 = some (.inl (lo_ast 99 1)) := (P_154 L xs 98).trans rfl
theorem p_154_99 (L : Nat) (xs : Nat → Int32) : ll_P L xs 154 99 = some (.inl (lo_aload 100 0)) := (P_154 L xs 99).trans rfl
theorem p_154_100 (L : Nat) (xs : Nat → Int32) : ll_P L xs 154 100 = some (.inl (lo_getf 103 11 8)) := (P_154 L xs 100).trans rfl
theorem p_154_103 (L : Nat) (xs : Nat → Int32) : ll_P L xs 154 103 = some (.inl (lo_iload 104 3)) := (P_154 L xs 103).trans rfl
theorem p_154_104 (L : Nat) (xs : Nat → Int32) : ll_P L xs 154 104 = some (.inl (lo_iload 105 1)) := (P_154 L xs 104).trans rfl
theorem p_154_105 (L : Nat) (xs : Nat → Int32) : ll_P L xs 154 105 = some (.inl (lo_if 112 108 (fun x => decide (¬ x = 0)))) := (P_154 L xs 105).trans rfl
theorem p_154_108 (L : Nat) (xs : Nat → Int32) : ll_P L xs 154 108 = some (.inl (lo_push 109 (.int (-1)))) := (P_154 L xs 108).trans rfl
theorem p_154_109 (L : Nat) (xs : Nat → Int32) : ll_P L xs 154 109 = some (.inl (lo_goto 122)) := (P_154 L xs 109).trans rfl
theorem p_154_112 (L : Nat) (xs : Nat → Int32) : ll_P L xs 154 112 = some (.inl (lo_iload 113 1)) := (P_154 L xs 112).trans rfl
theorem p_154_113 (L : Nat) (xs : Nat → Int32) : ll_P L xs 154 113 = some (.inl (lo_push 114 (.int 2))) := (P_154 L xs 113).trans rfl
theorem p_154_114 (L : Nat) (xs : Nat → Int32) : ll_P L xs 154 114 = some (.inl (lo_cmp 121 117 (fun x y => decide (¬ x = y)))) := (P_154 L xs 114).trans rfl
theorem p_154_117 (L : Nat) (xs : Nat → Int32) : ll_P L xs 154 117 = some (.inl (lo_push 118 (.int 1))) := (P_154 L xs 117).trans rfl
theorem p_154_118 (L : Nat) (xs : Nat → Int32) : ll_P L xs 154 118 = some (.inl (lo_goto 122)) := (P_154 L xs 118).trans rfl
theorem p_154_121 (L : Nat) (xs : Nat → Int32) : ll_P L xs 154 121 = some (.inl (lo_push 122 (.int 0))) := (P_154 L xs 121).trans rfl
theorem p_154_122 (L : Nat) (xs : Nat → Int32) : ll_P L xs 154 122 = some (.inl (lo_ast 123 0)) := (P_154 L xs 122).trans rfl
theorem p_154_123 (L : Nat) (xs : Nat → Int32) : ll_P L xs 154 123 = some (.inl (lo_aload 124 0)) := (P_154 L xs 123).trans rfl
theorem p_154_124 (L : Nat) (xs : Nat → Int32) : ll_P L xs 154 124 = some (.inl (lo_getf 127 11 9)) := (P_154 L xs 124).trans rfl
theorem p_154_127 (L : Nat) (xs : Nat → Int32) : ll_P L xs 154 127 = some (.inl (lo_iload 128 3)) := (P_154 L xs 127).trans rfl
theorem p_154_128 (L : Nat) (xs : Nat → Int32) : ll_P L xs 154 128 = some (.inl (lo_push 129 (.int 0))) := (P_154 L xs 128).trans rfl
theorem p_154_129 (L : Nat) (xs : Nat → Int32) : ll_P L xs 154 129 = some (.inl (lo_ast 130 0)) := (P_154 L xs 129).trans rfl
theorem p_154_130 (L : Nat) (xs : Nat → Int32) : ll_P L xs 154 130 = some (.inl (lo_push 131 (.int 0))) := (P_154 L xs 130).trans rfl
theorem p_154_131 (L : Nat) (xs : Nat → Int32) : ll_P L xs 154 131 = some (.inl (lo_istore 133 4)) := (P_154 L xs 131).trans rfl
theorem p_154_133 (L : Nat) (xs : Nat → Int32) : ll_P L xs 154 133 = some (.inl (lo_iload 135 4)) := (P_154 L xs 133).trans rfl
theorem p_154_135 (L : Nat) (xs : Nat → Int32) : ll_P L xs 154 135 = some (.inl (lo_push 136 (.int 3))) := (P_154 L xs 135).trans rfl
theorem p_154_136 (L : Nat) (xs : Nat → Int32) : ll_P L xs 154 136 = some (.inl (lo_cmp 157 139 (fun x y => decide (y ≤ x)))) := (P_154 L xs 136).trans rfl
theorem p_154_139 (L : Nat) (xs : Nat → Int32) : ll_P L xs 154 139 = some (.inl (lo_aload 140 0)) := (P_154 L xs 139).trans rfl
theorem p_154_140 (L : Nat) (xs : Nat → Int32) : ll_P L xs 154 140 = some (.inl (lo_getf 143 11 15)) := (P_154 L xs 140).trans rfl
theorem p_154_143 (L : Nat) (xs : Nat → Int32) : ll_P L xs 154 143 = some (.inl (lo_push 144 (.int 3))) := (P_154 L xs 143).trans rfl
theorem p_154_144 (L : Nat) (xs : Nat → Int32) : ll_P L xs 154 144 = some (.inl (lo_iload 145 3)) := (P_154 L xs 144).trans rfl
theorem p_154_145 (L : Nat) (xs : Nat → Int32) : ll_P L xs 154 145 = some (.inl (lo_bin 146 (fun x y => x * y))) := (P_154 L xs 145).trans rfl
theorem p_154_146 (L : Nat) (xs : Nat → Int32) : ll_P L xs 154 146 = some (.inl (lo_iload 148 4)) := (P_154 L xs 146).trans rfl
theorem p_154_148 (L : Nat) (xs : Nat → Int32) : ll_P L xs 154 148 = some (.inl (lo_bin 149 (fun x y => x + y))) := (P_154 L xs 148).trans rfl
theorem p_154_149 (L : Nat) (xs : Nat → Int32) : ll_P L xs 154 149 = some (.inl (lo_push 150 (.int (-1)))) := (P_154 L xs 149).trans rfl
theorem p_154_150 (L : Nat) (xs : Nat → Int32) : ll_P L xs 154 150 = some (.inl (lo_ast 151 0)) := (P_154 L xs 150).trans rfl
theorem p_154_151 (L : Nat) (xs : Nat → Int32) : ll_P L xs 154 151 = some (.inl (lo_iinc 154 4 1)) := (P_154 L xs 151).trans rfl
theorem p_154_154 (L : Nat) (xs : Nat → Int32) : ll_P L xs 154 154 = some (.inl (lo_goto 133)) := (P_154 L xs 154).trans rfl
theorem p_154_157 (L : Nat) (xs : Nat → Int32) : ll_P L xs 154 157 = some (.inl (lo_push 158 (.int 0))) := (P_154 L xs 157).trans rfl
theorem p_154_158 (L : Nat) (xs : Nat → Int32) : ll_P L xs 154 158 = some (.inl (lo_istore 160 4)) := (P_154 L xs 158).trans rfl
theorem p_154_160 (L : Nat) (xs : Nat → Int32) : ll_P L xs 154 160 = some (.inl (lo_iload 162 4)) := (P_154 L xs 160).trans rfl
theorem p_154_162 (L : Nat) (xs : Nat → Int32) : ll_P L xs 154 162 = some (.inl (lo_iload 163 2)) := (P_154 L xs 162).trans rfl
theorem p_154_163 (L : Nat) (xs : Nat → Int32) : ll_P L xs 154 163 = some (.inl (lo_cmp 191 166 (fun x y => decide (y ≤ x)))) := (P_154 L xs 163).trans rfl
theorem p_154_166 (L : Nat) (xs : Nat → Int32) : ll_P L xs 154 166 = some (.inl (lo_iload 167 1)) := (P_154 L xs 166).trans rfl
theorem p_154_167 (L : Nat) (xs : Nat → Int32) : ll_P L xs 154 167 = some (.inl (lo_push 168 (.int 2))) := (P_154 L xs 167).trans rfl
theorem p_154_168 (L : Nat) (xs : Nat → Int32) : ll_P L xs 154 168 = some (.inl (lo_cmp 191 171 (fun x y => decide (x ≤ y)))) := (P_154 L xs 168).trans rfl
theorem p_154_171 (L : Nat) (xs : Nat → Int32) : ll_P L xs 154 171 = some (.inl (lo_aload 172 0)) := (P_154 L xs 171).trans rfl
theorem p_154_172 (L : Nat) (xs : Nat → Int32) : ll_P L xs 154 172 = some (.inl (lo_iload 173 3)) := (P_154 L xs 172).trans rfl
theorem p_154_173 (L : Nat) (xs : Nat → Int32) : ll_P L xs 154 173 = some (.inl (lo_aload 174 0)) := (P_154 L xs 173).trans rfl
theorem p_154_174 (L : Nat) (xs : Nat → Int32) : ll_P L xs 154 174 = some (.inl (lo_getf 177 11 18)) := (P_154 L xs 174).trans rfl
theorem p_154_177 (L : Nat) (xs : Nat → Int32) : ll_P L xs 154 177 = some (.inl (lo_iload 179 4)) := (P_154 L xs 177).trans rfl
theorem p_154_179 (L : Nat) (xs : Nat → Int32) : ll_P L xs 154 179 = some (.inl (lo_ald 180 0)) := (P_154 L xs 179).trans rfl
theorem p_154_180 (L : Nat) (xs : Nat → Int32) : ll_P L xs 154 180 = some (.inl (lo_iload 182 4)) := (P_154 L xs 180).trans rfl
theorem p_154_182 (L : Nat) (xs : Nat → Int32) : ll_P L xs 154 182 = some (.inr (.inl (155, 4, 185))) := (P_154 L xs 182).trans rfl
theorem p_154_185 (L : Nat) (xs : Nat → Int32) : ll_P L xs 154 185 = some (.inl (lo_iinc 188 4 1)) := (P_154 L xs 185).trans rfl
theorem p_154_188 (L : Nat) (xs : Nat → Int32) : ll_P L xs 154 188 = some (.inl (lo_goto 160)) := (P_154 L xs 188).trans rfl
theorem p_154_191 (L : Nat) (xs : Nat → Int32) : ll_P L xs 154 191 = some (.inl (lo_iload 192 1)) := (P_154 L xs 191).trans rfl
theorem p_154_192 (L : Nat) (xs : Nat → Int32) : ll_P L xs 154 192 = some (.inl (lo_push 193 (.int 5))) := (P_154 L xs 192).trans rfl
theorem p_154_193 (L : Nat) (xs : Nat → Int32) : ll_P L xs 154 193 = some (.inl (lo_cmp 213 196 (fun x y => decide (¬ x = y)))) := (P_154 L xs 193).trans rfl
theorem p_154_196 (L : Nat) (xs : Nat → Int32) : ll_P L xs 154 196 = some (.inl (lo_aload 197 0)) := (P_154 L xs 196).trans rfl
theorem p_154_197 (L : Nat) (xs : Nat → Int32) : ll_P L xs 154 197 = some (.inl (lo_getf 200 11 8)) := (P_154 L xs 197).trans rfl
theorem p_154_200 (L : Nat) (xs : Nat → Int32) : ll_P L xs 154 200 = some (.inl (lo_iload 201 3)) := (P_154 L xs 200).trans rfl
theorem p_154_201 (L : Nat) (xs : Nat → Int32) : ll_P L xs 154 201 = some (.inl (lo_push 202 (.int 0))) := (P_154 L xs 201).trans rfl
theorem p_154_202 (L : Nat) (xs : Nat → Int32) : ll_P L xs 154 202 = some (.inl (lo_ast 203 0)) := (P_154 L xs 202).trans rfl
theorem p_154_203 (L : Nat) (xs : Nat → Int32) : ll_P L xs 154 203 = some (.inl (lo_aload 204 0)) := (P_154 L xs 203).trans rfl
theorem p_154_204 (L : Nat) (xs : Nat → Int32) : ll_P L xs 154 204 = some (.inl (lo_getf 207 11 9)) := (P_154 L xs 204).trans rfl
theorem p_154_207 (L : Nat) (xs : Nat → Int32) : ll_P L xs 154 207 = some (.inl (lo_iload 208 3)) := (P_154 L xs 207).trans rfl
theorem p_154_208 (L : Nat) (xs : Nat → Int32) : ll_P L xs 154 208 = some (.inl (lo_dup2 209)) := (P_154 L xs 208).trans rfl
theorem p_154_209 (L : Nat) (xs : Nat → Int32) : ll_P L xs 154 209 = some (.inl (lo_ald 210 0)) := (P_154 L xs 209).trans rfl
theorem p_154_210 (L : Nat) (xs : Nat → Int32) : ll_P L xs 154 210 = some (.inl (lo_push 211 (.int 1))) := (P_154 L xs 210).trans rfl
theorem p_154_211 (L : Nat) (xs : Nat → Int32) : ll_P L xs 154 211 = some (.inl (lo_bin 212 (fun x y => x + y))) := (P_154 L xs 211).trans rfl
theorem p_154_212 (L : Nat) (xs : Nat → Int32) : ll_P L xs 154 212 = some (.inl (lo_ast 213 0)) := (P_154 L xs 212).trans rfl
theorem p_154_213 (L : Nat) (xs : Nat → Int32) : ll_P L xs 154 213 = some (.inl (lo_aload 214 0)) := (P_154 L xs 213).trans rfl
theorem p_154_214 (L : Nat) (xs : Nat → Int32) : ll_P L xs 154 214 = some (.inl (lo_dup 215)) := (P_154 L xs 214).trans rfl
theorem p_154_215 (L : Nat) (xs : Nat → Int32) : ll_P L xs 154 215 = some (.inl (lo_getf 218 11 12)) := (P_154 L xs 215).trans rfl
theorem p_154_218 (L : Nat) (xs : Nat → Int32) : ll_P L xs 154 218 = some (.inl (lo_push 219 (.int 1))) := (P_154 L xs 218).trans rfl
theorem p_154_219 (L : Nat) (xs : Nat → Int32) : ll_P L xs 154 219 = some (.inl (lo_bin 220 (fun x y => x + y))) := (P_154 L xs 219).trans rfl
theorem p_154_220 (L : Nat) (xs : Nat → Int32) : ll_P L xs 154 220 = some (.inl (lo_putf 223 11 12 0)) := (P_154 L xs 220).trans rfl
theorem p_154_223 (L : Nat) (xs : Nat → Int32) : ll_P L xs 154 223 = some (.inl (lo_iload 224 3)) := (P_154 L xs 223).trans rfl
theorem p_154_224 (L : Nat) (xs : Nat → Int32) : ll_P L xs 154 224 = some (.inr (.inr 1)) := (P_154 L xs 224).trans rfl
theorem b_154_0 {Y : sY} {d : Nat} {s : sT} {K : Option Int32 → sT → Prop} {r0 : Nat} {x1 : Int32} {x2 : Int32} (h : (isO Y r0 11 ∧ (∃ a1, (isO Y r0 11 ∧ s.2 r0 5 = some a1) ∧ (∃ m3, (isA Y a1 0 m3 ∧ inR (s.1 r0 12) m3) ∧ (∃ a5, (isO Y r0 11 ∧ (pV s a1 ((s.1 r0 12)).toNatClampNeg x1).2 r0 6 = some a5) ∧ (isO Y r0 11 ∧ (∃ m7, (isA Y a5 0 m7 ∧ inR (s.1 r0 12) m7) ∧ (∃ a9, (isO Y r0 11 ∧ (pV (pV s a1 ((s.1 r0 12)).toNatClampNeg x1) a5 ((s.1 r0 12)).toNatClampNeg ((pV s a1 ((s.1 r0 12)).toNatClampNeg x1).1 r0 13)).2 r0 7 = some a9) ∧ (∃ m11, (isA Y a9 0 m11 ∧ inR (s.1 r0 12) m11) ∧ tT Y (d + 1) 154 32 [.ref r0, .int x1, .int x2, .int (s.1 r0 12), .int (0 : Int32)] [] (pV (pV (pV s a1 ((s.1 r0 12)).toNatClampNeg x1) a5 ((s.1 r0 12)).toNatClampNeg ((pV s a1 ((s.1 r0 12)).toNatClampNeg x1).1 r0 13)) a9 ((s.1 r0 12)).toNatClampNeg x2) K))))))))) : tT Y (d + 1) 154 0 [.ref r0, .int x1, .int x2, .null, .null] [] s K :=
  (tt_aload (p_154_0 _ _) rfl).mpr (t3_geti (p_154_1 _ _) (isI_11_12) h.1 ((tt_istore (p_154_4 _ _) (Nat.le_of_ble_eq_true rfl) rfl rfl).mpr ((tt_aload (p_154_5 _ _) rfl).mpr (Exists.elim h.2 (fun a1 h2 => t3_getr (p_154_6 _ _) (isI_11_5) h2.1.1 h2.1.2 ((tt_iload (p_154_9 _ _) rfl).mpr ((tt_iload (p_154_10 _ _) rfl).mpr (Exists.elim h2.2 (fun m3 h4 => t3_ast (p_154_11 _ _) h4.1.1 h4.1.2 ((tt_aload (p_154_12 _ _) rfl).mpr (Exists.elim h4.2 (fun a5 h6 => t3_getr (p_154_13 _ _) (isI_11_6) h6.1.1 h6.1.2 ((tt_iload (p_154_16 _ _) rfl).mpr ((tt_aload (p_154_17 _ _) rfl).mpr (t3_geti (p_154_18 _ _) (isI_11_13) h6.2.1 (Exists.elim h6.2.2 (fun m7 h8 => t3_ast (p_154_21 _ _) h8.1.1 h8.1.2 ((tt_aload (p_154_22 _ _) rfl).mpr (Exists.elim h8.2 (fun a9 h10 => t3_getr (p_154_23 _ _) (isI_11_7) h10.1.1 h10.1.2 ((tt_iload (p_154_26 _ _) rfl).mpr ((tt_iload (p_154_27 _ _) rfl).mpr (Exists.elim h10.2 (fun m11 h12 => t3_ast (p_154_28 _ _) h12.1.1 h12.1.2 ((tt_push (p_154_29 _ _)).mpr ((tt_istore (p_154_30 _ _) (Nat.le_of_ble_eq_true rfl) rfl rfl).mpr (h12.2)))))))))))))))))))))))))))
theorem b_154_32 {Y : sY} {d : Nat} {s : sT} {K : Option Int32 → sT → Prop} {r0 : Nat} {x1 : Int32} {x2 : Int32} {x3 : Int32} {x4 : Int32} (h : (if x2 ≤ x4 then (isO Y r0 11 ∧ (isO Y r0 11 ∧ (∃ a2, (isO Y r0 11 ∧ (pV s r0 13 ((s.1 r0 13) + x2)).2 r0 11 = some a2) ∧ (if x1 = (1 : Int32) then tT Y (d + 1) 154 93 [.ref r0, .int x1, .int x2, .int x3, .int x4] [.int x3, .ref a2] (pV s r0 13 ((s.1 r0 13) + x2)) K else (if x1 = (5 : Int32) then tT Y (d + 1) 154 93 [.ref r0, .int x1, .int x2, .int x3, .int x4] [.int x3, .ref a2] (pV s r0 13 ((s.1 r0 13) + x2)) K else (if ¬ x1 = (4 : Int32) then tT Y (d + 1) 154 98 [.ref r0, .int x1, .int x2, .int x3, .int x4] [.int (0 : Int32), .int x3, .ref a2] (pV s r0 13 ((s.1 r0 13) + x2)) K else tT Y (d + 1) 154 93 [.ref r0, .int x1, .int x2, .int x3, .int x4] [.int x3, .ref a2] (pV s r0 13 ((s.1 r0 13) + x2)) K)))))) else (∃ a7, (isO Y r0 11 ∧ s.2 r0 10 = some a7) ∧ (isO Y r0 11 ∧ (∃ a9, (isO Y r0 11 ∧ s.2 r0 18 = some a9) ∧ (∃ m11, (isA Y a9 0 m11 ∧ inR x4 m11) ∧ (∃ m13, (isA Y a7 0 m13 ∧ inR ((s.1 r0 13) + x4) m13) ∧ tT Y (d + 1) 154 32 [.ref r0, .int x1, .int x2, .int x3, .int (x4 + 1)] [] (pV s a7 (((s.1 r0 13) + x4)).toNatClampNeg (s.1 a9 (x4).toNatClampNeg)) K))))))) : tT Y (d + 1) 154 32 [.ref r0, .int x1, .int x2, .int x3, .int x4] [] s K :=
  (tt_iload (p_154_32 _ _) rfl).mpr ((tt_iload (p_154_34 _ _) rfl).mpr (t3_cmp (p := x2 ≤ x4) (p_154_35 _ _) rfl (fun g1 => (tt_aload (p_154_63 _ _) rfl).mpr ((tt_dupr (p_154_64 _ _)).mpr (t3_geti (p_154_65 _ _) (isI_11_13) (ifp h g1).1 ((tt_iload (p_154_68 _ _) rfl).mpr ((tt_bin (p_154_69 _ _)).mpr ((t2_puti (p_154_70 _ _) isI_11_13 (ifp h g1).2.1).mpr ((tt_aload (p_154_73 _ _) rfl).mpr (Exists.elim (ifp h g1).2.2 (fun a2 h3 => t3_getr (p_154_74 _ _) (isI_11_11) h3.1.1 h3.1.2 ((tt_iload (p_154_77 _ _) rfl).mpr ((tt_iload (p_154_78 _ _) rfl).mpr ((tt_push (p_154_79 _ _)).mpr (t3_cmp (p := x1 = (1 : Int32)) (p_154_80 _ _) rfl (fun g4 => (ifp h3.2 g4)) (fun g4 => (tt_iload (p_154_83 _ _) rfl).mpr ((tt_push (p_154_84 _ _)).mpr (t3_cmp (p := x1 = (5 : Int32)) (p_154_85 _ _) rfl (fun g5 => (ifp (ifn h3.2 g4) g5)) (fun g5 => (tt_iload (p_154_88 _ _) rfl).mpr ((tt_push (p_154_89 _ _)).mpr (t3_cmp (p := ¬ x1 = (4 : Int32)) (p_154_90 _ _) rfl (fun g6 => (tt_push (p_154_97 _ _)).mpr ((ifp (ifn (ifn h3.2 g4) g5) g6))) (fun g6 => (ifn (ifn (ifn h3.2 g4) g5) g6))))))))))))))))))))) (fun g1 => (tt_aload (p_154_38 _ _) rfl).mpr (Exists.elim (ifn h g1) (fun a7 h8 => t3_getr (p_154_39 _ _) (isI_11_10) h8.1.1 h8.1.2 ((tt_aload (p_154_42 _ _) rfl).mpr (t3_geti (p_154_43 _ _) (isI_11_13) h8.2.1 ((tt_iload (p_154_46 _ _) rfl).mpr ((tt_bin (p_154_48 _ _)).mpr ((tt_aload (p_154_49 _ _) rfl).mpr (Exists.elim h8.2.2 (fun a9 h10 => t3_getr (p_154_50 _ _) (isI_11_18) h10.1.1 h10.1.2 ((tt_iload (p_154_53 _ _) rfl).mpr (Exists.elim h10.2 (fun m11 h12 => t3_ald (p_154_55 _ _) h12.1.1 h12.1.2 (Exists.elim h12.2 (fun m13 h14 => t3_ast (p_154_56 _ _) h14.1.1 h14.1.2 ((tt_iinc (p_154_57 _ _) rfl rfl rfl).mpr ((tt_goto (p_154_60 _ _)).mpr (h14.2))))))))))))))))))))
theorem b_154_93 {Y : sY} {d : Nat} {s : sT} {K : Option Int32 → sT → Prop} {r0 : Nat} {x1 : Int32} {x2 : Int32} {x3 : Int32} {x4 : Int32} {t0 : Nat} {t1 : Int32} (h : tT Y (d + 1) 154 98 [.ref r0, .int x1, .int x2, .int x3, .int x4] [.int (1 : Int32), .int t1, .ref t0] s K) : tT Y (d + 1) 154 93 [.ref r0, .int x1, .int x2, .int x3, .int x4] [.int t1, .ref t0] s K :=
  (tt_push (p_154_93 _ _)).mpr ((tt_goto (p_154_94 _ _)).mpr (h))
theorem b_154_98 {Y : sY} {d : Nat} {s : sT} {K : Option Int32 → sT → Prop} {r0 : Nat} {x1 : Int32} {x2 : Int32} {x3 : Int32} {x4 : Int32} {t0 : Nat} {t1 : Int32} {t2 : Int32} (h : (∃ m1, (isA Y t0 1 m1 ∧ inR t1 m1 ∧ (t2 = 0 ∨ t2 = 1)) ∧ (∃ a3, (isO Y r0 11 ∧ (pV s t0 (t1).toNatClampNeg t2).2 r0 8 = some a3) ∧ (if ¬ x1 = 0 then (if ¬ x1 = (2 : Int32) then tT Y (d + 1) 154 122 [.ref r0, .int x1, .int x2, .int x3, .int x4] [.int (0 : Int32), .int x3, .ref a3] (pV s t0 (t1).toNatClampNeg t2) K else tT Y (d + 1) 154 122 [.ref r0, .int x1, .int x2, .int x3, .int x4] [.int (1 : Int32), .int x3, .ref a3] (pV s t0 (t1).toNatClampNeg t2) K) else tT Y (d + 1) 154 122 [.ref r0, .int x1, .int x2, .int x3, .int x4] [.int (-1 : Int32), .int x3, .ref a3] (pV s t0 (t1).toNatClampNeg t2) K)))) : tT Y (d + 1) 154 98 [.ref r0, .int x1, .int x2, .int x3, .int x4] [.int t2, .int t1, .ref t0] s K :=
  Exists.elim h (fun m1 h2 => t3_zst (p_154_98 _ _) h2.1.1 h2.1.2.1 h2.1.2.2 ((tt_aload (p_154_99 _ _) rfl).mpr (Exists.elim h2.2 (fun a3 h4 => t3_getr (p_154_100 _ _) (isI_11_8) h4.1.1 h4.1.2 ((tt_iload (p_154_103 _ _) rfl).mpr ((tt_iload (p_154_104 _ _) rfl).mpr (t3_if (p := ¬ x1 = 0) (p_154_105 _ _) rfl (fun g5 => (tt_iload (p_154_112 _ _) rfl).mpr ((tt_push (p_154_113 _ _)).mpr (t3_cmp (p := ¬ x1 = (2 : Int32)) (p_154_114 _ _) rfl (fun g6 => (tt_push (p_154_121 _ _)).mpr ((ifp (ifp h4.2 g5) g6))) (fun g6 => (tt_push (p_154_117 _ _)).mpr ((tt_goto (p_154_118 _ _)).mpr ((ifn (ifp h4.2 g5) g6))))))) (fun g5 => (tt_push (p_154_108 _ _)).mpr ((tt_goto (p_154_109 _ _)).mpr ((ifn h4.2 g5)))))))))))
theorem b_154_122 {Y : sY} {d : Nat} {s : sT} {K : Option Int32 → sT → Prop} {r0 : Nat} {x1 : Int32} {x2 : Int32} {x3 : Int32} {x4 : Int32} {t0 : Nat} {t1 : Int32} {t2 : Int32} (h : (∃ m1, (isA Y t0 0 m1 ∧ inR t1 m1) ∧ (∃ a3, (isO Y r0 11 ∧ (pV s t0 (t1).toNatClampNeg t2).2 r0 9 = some a3) ∧ (∃ m5, (isA Y a3 0 m5 ∧ inR x3 m5) ∧ tT Y (d + 1) 154 133 [.ref r0, .int x1, .int x2, .int x3, .int (0 : Int32)] [] (pV (pV s t0 (t1).toNatClampNeg t2) a3 (x3).toNatClampNeg (0 : Int32)) K)))) : tT Y (d + 1) 154 122 [.ref r0, .int x1, .int x2, .int x3, .int x4] [.int t2, .int t1, .ref t0] s K :=
  Exists.elim h (fun m1 h2 => t3_ast (p_154_122 _ _) h2.1.1 h2.1.2 ((tt_aload (p_154_123 _ _) rfl).mpr (Exists.elim h2.2 (fun a3 h4 => t3_getr (p_154_124 _ _) (isI_11_9) h4.1.1 h4.1.2 ((tt_iload (p_154_127 _ _) rfl).mpr ((tt_push (p_154_128 _ _)).mpr (Exists.elim h4.2 (fun m5 h6 => t3_ast (p_154_129 _ _) h6.1.1 h6.1.2 ((tt_push (p_154_130 _ _)).mpr ((tt_istore (p_154_131 _ _) (Nat.le_of_ble_eq_true rfl) rfl rfl).mpr (h6.2)))))))))))
theorem b_154_133 {Y : sY} {d : Nat} {s : sT} {K : Option Int32 → sT → Prop} {r0 : Nat} {x1 : Int32} {x2 : Int32} {x3 : Int32} {x4 : Int32} (h : (if (3 : Int32) ≤ x4 then tT Y (d + 1) 154 160 [.ref r0, .int x1, .int x2, .int x3, .int (0 : Int32)] [] s K else (∃ a2, (isO Y r0 11 ∧ s.2 r0 15 = some a2) ∧ (∃ m4, (isA Y a2 0 m4 ∧ inR (((3 : Int32) * x3) + x4) m4) ∧ tT Y (d + 1) 154 133 [.ref r0, .int x1, .int x2, .int x3, .int (x4 + 1)] [] (pV s a2 ((((3 : Int32) * x3) + x4)).toNatClampNeg (-1 : Int32)) K)))) : tT Y (d + 1) 154 133 [.ref r0, .int x1, .int x2, .int x3, .int x4] [] s K :=
  (tt_iload (p_154_133 _ _) rfl).mpr ((tt_push (p_154_135 _ _)).mpr (t3_cmp (p := (3 : Int32) ≤ x4) (p_154_136 _ _) rfl (fun g1 => (tt_push (p_154_157 _ _)).mpr ((tt_istore (p_154_158 _ _) (Nat.le_of_ble_eq_true rfl) rfl rfl).mpr ((ifp h g1)))) (fun g1 => (tt_aload (p_154_139 _ _) rfl).mpr (Exists.elim (ifn h g1) (fun a2 h3 => t3_getr (p_154_140 _ _) (isI_11_15) h3.1.1 h3.1.2 ((tt_push (p_154_143 _ _)).mpr ((tt_iload (p_154_144 _ _) rfl).mpr ((tt_bin (p_154_145 _ _)).mpr ((tt_iload (p_154_146 _ _) rfl).mpr ((tt_bin (p_154_148 _ _)).mpr ((tt_push (p_154_149 _ _)).mpr (Exists.elim h3.2 (fun m4 h5 => t3_ast (p_154_150 _ _) h5.1.1 h5.1.2 ((tt_iinc (p_154_151 _ _) rfl rfl rfl).mpr ((tt_goto (p_154_154 _ _)).mpr (h5.2))))))))))))))))
theorem b_154_160 {Y : sY} {d : Nat} {s : sT} {K : Option Int32 → sT → Prop} {r0 : Nat} {x1 : Int32} {x2 : Int32} {x3 : Int32} {x4 : Int32} (h : (if x2 ≤ x4 then tT Y (d + 1) 154 191 [.ref r0, .int x1, .int x2, .int x3, .int x4] [] s K else (if x1 ≤ (2 : Int32) then tT Y (d + 1) 154 191 [.ref r0, .int x1, .int x2, .int x3, .int x4] [] s K else (∃ a3, (isO Y r0 11 ∧ s.2 r0 18 = some a3) ∧ (∃ m5, (isA Y a3 0 m5 ∧ inR x4 m5) ∧ (isO Y r0 11 ∧ tT Y d 155 0 [.ref r0, .int x3, .int (s.1 a3 (x4).toNatClampNeg), .int x4] [] s (fun r s1 => tT Y (d + 1) 154 185 [.ref r0, .int x1, .int x2, .int x3, .int x4] ((r.map Value.int).toList ++ []) s1 K))))))) : tT Y (d + 1) 154 160 [.ref r0, .int x1, .int x2, .int x3, .int x4] [] s K :=
  (tt_iload (p_154_160 _ _) rfl).mpr ((tt_iload (p_154_162 _ _) rfl).mpr (t3_cmp (p := x2 ≤ x4) (p_154_163 _ _) rfl (fun g1 => (ifp h g1)) (fun g1 => (tt_iload (p_154_166 _ _) rfl).mpr ((tt_push (p_154_167 _ _)).mpr (t3_cmp (p := x1 ≤ (2 : Int32)) (p_154_168 _ _) rfl (fun g2 => (ifp (ifn h g1) g2)) (fun g2 => (tt_aload (p_154_171 _ _) rfl).mpr ((tt_iload (p_154_172 _ _) rfl).mpr ((tt_aload (p_154_173 _ _) rfl).mpr (Exists.elim (ifn (ifn h g1) g2) (fun a3 h4 => t3_getr (p_154_174 _ _) (isI_11_18) h4.1.1 h4.1.2 ((tt_iload (p_154_177 _ _) rfl).mpr (Exists.elim h4.2 (fun m5 h6 => t3_ald (p_154_179 _ _) h6.1.1 h6.1.2 ((tt_iload (p_154_180 _ _) rfl).mpr (t2_callv (z := 155) (k := 4) (i := r0) (as := [.int x3, .int (s.1 a3 (x4).toNatClampNeg), .int x4]) (rest := []) (p_154_182 _ _) mK_155 mL_155 rfl rfl (Nat.le_of_ble_eq_true rfl) rfl (Nat.le_of_ble_eq_true rfl) h6.2.1 h6.2.2)))))))))))))))
theorem b_154_185 {Y : sY} {d : Nat} {s : sT} {K : Option Int32 → sT → Prop} {r0 : Nat} {x1 : Int32} {x2 : Int32} {x3 : Int32} {x4 : Int32} (h : tT Y (d + 1) 154 160 [.ref r0, .int x1, .int x2, .int x3, .int (x4 + 1)] [] s K) : tT Y (d + 1) 154 185 [.ref r0, .int x1, .int x2, .int x3, .int x4] [] s K :=
  (tt_iinc (p_154_185 _ _) rfl rfl rfl).mpr ((tt_goto (p_154_188 _ _)).mpr (h))
theorem b_154_191 {Y : sY} {d : Nat} {s : sT} {K : Option Int32 → sT → Prop} {r0 : Nat} {x1 : Int32} {x2 : Int32} {x3 : Int32} {x4 : Int32} (h : (if ¬ x1 = (5 : Int32) then tT Y (d + 1) 154 213 [.ref r0, .int x1, .int x2, .int x3, .int x4] [] s K else (∃ a2, (isO Y r0 11 ∧ s.2 r0 8 = some a2) ∧ (∃ m4, (isA Y a2 0 m4 ∧ inR x3 m4) ∧ (∃ a6, (isO Y r0 11 ∧ (pV s a2 (x3).toNatClampNeg (0 : Int32)).2 r0 9 = some a6) ∧ (∃ m8, (isA Y a6 0 m8 ∧ inR x3 m8) ∧ (∃ m10, (isA Y a6 0 m10 ∧ inR x3 m10) ∧ tT Y (d + 1) 154 213 [.ref r0, .int x1, .int x2, .int x3, .int x4] [] (pV (pV s a2 (x3).toNatClampNeg (0 : Int32)) a6 (x3).toNatClampNeg (((pV s a2 (x3).toNatClampNeg (0 : Int32)).1 a6 (x3).toNatClampNeg) + (1 : Int32))) K))))))) : tT Y (d + 1) 154 191 [.ref r0, .int x1, .int x2, .int x3, .int x4] [] s K :=
  (tt_iload (p_154_191 _ _) rfl).mpr ((tt_push (p_154_192 _ _)).mpr (t3_cmp (p := ¬ x1 = (5 : Int32)) (p_154_193 _ _) rfl (fun g1 => (ifp h g1)) (fun g1 => (tt_aload (p_154_196 _ _) rfl).mpr (Exists.elim (ifn h g1) (fun a2 h3 => t3_getr (p_154_197 _ _) (isI_11_8) h3.1.1 h3.1.2 ((tt_iload (p_154_200 _ _) rfl).mpr ((tt_push (p_154_201 _ _)).mpr (Exists.elim h3.2 (fun m4 h5 => t3_ast (p_154_202 _ _) h5.1.1 h5.1.2 ((tt_aload (p_154_203 _ _) rfl).mpr (Exists.elim h5.2 (fun a6 h7 => t3_getr (p_154_204 _ _) (isI_11_9) h7.1.1 h7.1.2 ((tt_iload (p_154_207 _ _) rfl).mpr ((tt_dup2 (p_154_208 _ _)).mpr (Exists.elim h7.2 (fun m8 h9 => t3_ald (p_154_209 _ _) h9.1.1 h9.1.2 ((tt_push (p_154_210 _ _)).mpr ((tt_bin (p_154_211 _ _)).mpr (Exists.elim h9.2 (fun m10 h11 => t3_ast (p_154_212 _ _) h11.1.1 h11.1.2 (h11.2)))))))))))))))))))))
theorem b_154_213 {Y : sY} {d : Nat} {s : sT} {K : Option Int32 → sT → Prop} {r0 : Nat} {x1 : Int32} {x2 : Int32} {x3 : Int32} {x4 : Int32} (h : (isO Y r0 11 ∧ (isO Y r0 11 ∧ K (some x3) (pV s r0 12 ((s.1 r0 12) + (1 : Int32)))))) : tT Y (d + 1) 154 213 [.ref r0, .int x1, .int x2, .int x3, .int x4] [] s K :=
  (tt_aload (p_154_213 _ _) rfl).mpr ((tt_dupr (p_154_214 _ _)).mpr (t3_geti (p_154_215 _ _) (isI_11_12) h.1 ((tt_push (p_154_218 _ _)).mpr ((tt_bin (p_154_219 _ _)).mpr ((t2_puti (p_154_220 _ _) isI_11_12 h.2.1).mpr ((tt_iload (p_154_223 _ _) rfl).mpr (tt_ret1 (p_154_224 _ _) h.2.2)))))))
/-! InclusionProverModel.joins.(III)V -/
theorem p_155_0 (L : Nat) (xs : Nat → Int32) : ll_P L xs 155 0 = some (.inl (lo_aload 1 0)) := (P_155 L xs 0).trans rfl
theorem p_155_1 (L : Nat) (xs : Nat → Int32) : ll_P L xs 155 1 = some (.inl (lo_getf 4 11 9)) := (P_155 L xs 1).trans rfl
theorem p_155_4 (L : Nat) (xs : Nat → Int32) : ll_P L xs 155 4 = some (.inl (lo_iload 5 1)) := (P_155 L xs 4).trans rfl
theorem p_155_5 (L : Nat) (xs : Nat → Int32) : ll_P L xs 155 5 = some (.inl (lo_aload 6 0)) := (P_155 L xs 5).trans rfl
theorem p_155_6 (L : Nat) (xs : Nat → Int32) : ll_P L xs 155 6 = some (.inl (lo_getf 9 11 9)) := (P_155 L xs 6).trans rfl
theorem p_155_9 (L : Nat) (xs : Nat → Int32) : ll_P L xs 155 9 = some (.inl (lo_iload 10 2)) := (P_155 L xs 9).trans rfl
theorem p_155_10 (L : Nat) (xs : Nat → Int32) : ll_P L xs 155 10 = some (.inl (lo_ald 11 0)) := (P_155 L xs 10).trans rfl
theorem p_155_11 (L : Nat) (xs : Nat → Int32) : ll_P L xs 155 11 = some (.inl (lo_aload 12 0)) := (P_155 L xs 11).trans rfl
theorem p_155_12 (L : Nat) (xs : Nat → Int32) : ll_P L xs 155 12 = some (.inl (lo_getf 15 11 9)) := (P_155 L xs 12).trans rfl
theorem p_155_15 (L : Nat) (xs : Nat → Int32) : ll_P L xs 155 15 = some (.inl (lo_iload 16 1)) := (P_155 L xs 15).trans rfl
theorem p_155_16 (L : Nat) (xs : Nat → Int32) : ll_P L xs 155 16 = some (.inl (lo_ald 17 0)) := (P_155 L xs 16).trans rfl
theorem p_155_17 (L : Nat) (xs : Nat → Int32) : ll_P L xs 155 17 = some (.inl (lo_cmp 29 20 (fun x y => decide (x ≤ y)))) := (P_155 L xs 17).trans rfl
theorem p_155_20 (L : Nat) (xs : Nat → Int32) : ll_P L xs 155 20 = some (.inl (lo_aload 21 0)) := (P_155 L xs 20).trans rfl
theorem p_155_21 (L : Nat) (xs : Nat → Int32) : ll_P L xs 155 21 = some (.inl (lo_getf 24 11 9)) := (P_155 L xs 21).trans rfl
theorem p_155_24 (L : Nat) (xs : Nat → Int32) : ll_P L xs 155 24 = some (.inl (lo_iload 25 2)) := (P_155 L xs 24).trans rfl
theorem p_155_25 (L : Nat) (xs : Nat → Int32) : ll_P L xs 155 25 = some (.inl (lo_ald 26 0)) := (P_155 L xs 25).trans rfl
theorem p_155_26 (L : Nat) (xs : Nat → Int32) : ll_P L xs 155 26 = some (.inl (lo_goto 35)) := (P_155 L xs 26).trans rfl
theorem p_155_29 (L : Nat) (xs : Nat → Int32) : ll_P L xs 155 29 = some (.inl (lo_aload 30 0)) := (P_155 L xs 29).trans rfl
theorem p_155_30 (L : Nat) (xs : Nat → Int32) : ll_P L xs 155 30 = some (.inl (lo_getf 33 11 9)) := (P_155 L xs 30).trans rfl
theorem p_155_33 (L : Nat) (xs : Nat → Int32) : ll_P L xs 155 33 = some (.inl (lo_iload 34 1)) := (P_155 L xs 33).trans rfl
theorem p_155_34 (L : Nat) (xs : Nat → Int32) : ll_P L xs 155 34 = some (.inl (lo_ald 35 0)) := (P_155 L xs 34).trans rfl
theorem p_155_35 (L : Nat) (xs : Nat → Int32) : ll_P L xs 155 35 = some (.inl (lo_ast 36 0)) := (P_155 L xs 35).trans rfl
theorem p_155_36 (L : Nat) (xs : Nat → Int32) : ll_P L xs 155 36 = some (.inl (lo_aload 37 0)) := (P_155 L xs 36).trans rfl
theorem p_155_37 (L : Nat) (xs : Nat → Int32) : ll_P L xs 155 37 = some (.inl (lo_getf 40 11 5)) := (P_155 L xs 37).trans rfl
theorem p_155_40 (L : Nat) (xs : Nat → Int32) : ll_P L xs 155 40 = some (.inl (lo_iload 41 1)) := (P_155 L xs 40).trans rfl
theorem p_155_41 (L : Nat) (xs : Nat → Int32) : ll_P L xs 155 41 = some (.inl (lo_ald 42 0)) := (P_155 L xs 41).trans rfl
theorem p_155_42 (L : Nat) (xs : Nat → Int32) : ll_P L xs 155 42 = some (.inl (lo_push 43 (.int 3))) := (P_155 L xs 42).trans rfl
theorem p_155_43 (L : Nat) (xs : Nat → Int32) : ll_P L xs 155 43 = some (.inl (lo_cmp 115 46 (fun x y => decide (¬ x = y)))) := (P_155 L xs 43).trans rfl
theorem p_155_46 (L : Nat) (xs : Nat → Int32) : ll_P L xs 155 46 = some (.inl (lo_aload 47 0)) := (P_155 L xs 46).trans rfl
theorem p_155_47 (L : Nat) (xs : Nat → Int32) : ll_P L xs 155 47 = some (.inl (lo_getf 50 11 11)) := (P_155 L xs 47).trans rfl
theorem p_155_50 (L : Nat) (xs : Nat → Int32) : ll_P L xs 155 50 = some (.inl (lo_iload 51 1)) := (P_155 L xs 50).trans rfl
theorem p_155_51 (L : Nat) (xs : Nat → Int32) : ll_P L xs 155 51 = some (.inl (lo_aload 52 0)) := (P_155 L xs 51).trans rfl
theorem p_155_52 (L : Nat) (xs : Nat → Int32) : ll_P L xs 155 52 = some (.inl (lo_getf 55 11 11)) := (P_155 L xs 52).trans rfl
theorem p_155_55 (L : Nat) (xs : Nat → Int32) : ll_P L xs 155 55 = some (.inl (lo_iload 56 1)) := (P_155 L xs 55).trans rfl
theorem p_155_56 (L : Nat) (xs : Nat → Int32) : ll_P L xs 155 56 = some (.inl (lo_ald 57 1)) := (P_155 L xs 56).trans rfl
theorem p_155_57 (L : Nat) (xs : Nat → Int32) : ll_P L xs 155 57 = some (.inl (lo_if 69 60 (fun x => decide (¬ x = 0)))) := (P_155 L xs 57).trans rfl
theorem p_155_60 (L : Nat) (xs : Nat → Int32) : ll_P L xs 155 60 = some (.inl (lo_aload 61 0)) := (P_155 L xs 60).trans rfl
theorem p_155_61 (L : Nat) (xs : Nat → Int32) : ll_P L xs 155 61 = some (.inl (lo_getf 64 11 11)) := (P_155 L xs 61).trans rfl
theorem p_155_64 (L : Nat) (xs : Nat → Int32) : ll_P L xs 155 64 = some (.inl (lo_iload 65 2)) := (P_155 L xs 64).trans rfl
theorem p_155_65 (L : Nat) (xs : Nat → Int32) : ll_P L xs 155 65 = some (.inl (lo_ald 66 1)) := (P_155 L xs 65).trans rfl
theorem p_155_66 (L : Nat) (xs : Nat → Int32) : ll_P L xs 155 66 = some (.inl (lo_if 73 69 (fun x => decide (x = 0)))) := (P_155 L xs 66).trans rfl
theorem p_155_69 (L : Nat) (xs : Nat → Int32) : ll_P L xs 155 69 = some (.inl (lo_push 70 (.int 1))) := (P_155 L xs 69).trans rfl
theorem p_155_70 (L : Nat) (xs : Nat → Int32) : ll_P L xs 155 70 = some (.inl (lo_goto 74)) := (P_155 L xs 70).trans rfl
theorem p_155_73 (L : Nat) (xs : Nat → Int32) : ll_P L xs 155 73 = some (.inl (lo_push 74 (.int 0))) := (P_155 L xs 73).trans rfl
theorem p_155_74 (L : Nat) (xs : Nat → Int32) : ll_P L xs 155 74 = some (.inl (lo_ast 75 1)) := (P_155 L xs 74).trans rfl
theorem p_155_75 (L : Nat) (xs : Nat → Int32) : ll_P L xs 155 75 = some (.inl (lo_aload 76 0)) := (P_155 L xs 75).trans rfl
theorem p_155_76 (L : Nat) (xs : Nat → Int32) : ll_P L xs 155 76 = some (.inl (lo_getf 79 11 8)) := (P_155 L xs 76).trans rfl
theorem p_155_79 (L : Nat) (xs : Nat → Int32) : ll_P L xs 155 79 = some (.inl (lo_iload 80 1)) := (P_155 L xs 79).trans rfl
theorem p_155_80 (L : Nat) (xs : Nat → Int32) : ll_P L xs 155 80 = some (.inl (lo_iload 81 3)) := (P_155 L xs 80).trans rfl
theorem p_155_81 (L : Nat) (xs : Nat → Int32) : ll_P L xs 155 81 = some (.inl (lo_if 99 84 (fun x => decide (x = 0)))) := (P_155 L xs 81).trans rfl
theorem p_155_84 (L : Nat) (xs : Nat → Int32) : ll_P L xs 155 84 = some (.inl (lo_aload 85 0)) := (P_155 L xs 84).trans rfl
theorem p_155_85 (L : Nat) (xs : Nat → Int32) : ll_P L xs 155 85 = some (.inl (lo_getf 88 11 8)) := (P_155 L xs 85).trans rfl
theorem p_155_88 (L : Nat) (xs : Nat → Int32) : ll_P L xs 155 88 = some (.inl (lo_iload 89 2)) := (P_155 L xs 88).trans rfl
theorem p_155_89 (L : Nat) (xs : Nat → Int32) : ll_P L xs 155 89 = some (.inl (lo_ald 90 0)) := (P_155 L xs 89).trans rfl
theorem p_155_90 (L : Nat) (xs : Nat → Int32) : ll_P L xs 155 90 = some (.inl (lo_aload 91 0)) := (P_155 L xs 90).trans rfl
theorem p_155_91 (L : Nat) (xs : Nat → Int32) : ll_P L xs 155 91 = some (.inl (lo_getf 94 11 8)) := (P_155 L xs 91).trans rfl
theorem p_155_94 (L : Nat) (xs : Nat → Int32) : ll_P L xs 155 94 = some (.inl (lo_iload 95 1)) := (P_155 L xs 94).trans rfl
theorem p_155_95 (L : Nat) (xs : Nat → Int32) : ll_P L xs 155 95 = some (.inl (lo_ald 96 0)) := (P_155 L xs 95).trans rfl
theorem p_155_96 (L : Nat) (xs : Nat → Int32) : ll_P L xs 155 96 = some (.inl (lo_cmp 108 99 (fun x y => decide (y ≤ x)))) := (P_155 L xs 96).trans rfl
theorem p_155_99 (L : Nat) (xs : Nat → Int32) : ll_P L xs 155 99 = some (.inl (lo_aload 100 0)) := (P_155 L xs 99).trans rfl
theorem p_155_100 (L : Nat) (xs : Nat → Int32) : ll_P L xs 155 100 = some (.inl (lo_getf 103 11 8)) := (P_155 L xs 100).trans rfl
theorem p_155_103 (L : Nat) (xs : Nat → Int32) : ll_P L xs 155 103 = some (.inl (lo_iload 104 2)) := (P_155 L xs 103).trans rfl
theorem p_155_104 (L : Nat) (xs : Nat → Int32) : ll_P L xs 155 104 = some (.inl (lo_ald 105 0)) := (P_155 L xs 104).trans rfl
theorem p_155_105 (L : Nat) (xs : Nat → Int32) : ll_P L xs 155 105 = some (.inl (lo_goto 114)) := (P_155 L xs 105).trans rfl
theorem p_155_108 (L : Nat) (xs : Nat → Int32) : ll_P L xs 155 108 = some (.inl (lo_aload 109 0)) := (P_155 L xs 108).trans rfl
theorem p_155_109 (L : Nat) (xs : Nat → Int32) : ll_P L xs 155 109 = some (.inl (lo_getf 112 11 8)) := (P_155 L xs 109).trans rfl
theorem p_155_112 (L : Nat) (xs : Nat → Int32) : ll_P L xs 155 112 = some (.inl (lo_iload 113 1)) := (P_155 L xs 112).trans rfl
theorem p_155_113 (L : Nat) (xs : Nat → Int32) : ll_P L xs 155 113 = some (.inl (lo_ald 114 0)) := (P_155 L xs 113).trans rfl
theorem p_155_114 (L : Nat) (xs : Nat → Int32) : ll_P L xs 155 114 = some (.inl (lo_ast 115 0)) := (P_155 L xs 114).trans rfl
theorem p_155_115 (L : Nat) (xs : Nat → Int32) : ll_P L xs 155 115 = some (.inl (lo_aload 116 0)) := (P_155 L xs 115).trans rfl
theorem p_155_116 (L : Nat) (xs : Nat → Int32) : ll_P L xs 155 116 = some (.inl (lo_getf 119 11 5)) := (P_155 L xs 116).trans rfl
theorem p_155_119 (L : Nat) (xs : Nat → Int32) : ll_P L xs 155 119 = some (.inl (lo_iload 120 1)) := (P_155 L xs 119).trans rfl
theorem p_155_120 (L : Nat) (xs : Nat → Int32) : ll_P L xs 155 120 = some (.inl (lo_ald 121 0)) := (P_155 L xs 120).trans rfl
theorem p_155_121 (L : Nat) (xs : Nat → Int32) : ll_P L xs 155 121 = some (.inl (lo_push 122 (.int 4))) := (P_155 L xs 121).trans rfl
theorem p_155_122 (L : Nat) (xs : Nat → Int32) : ll_P L xs 155 122 = some (.inl (lo_cmp 169 125 (fun x y => decide (¬ x = y)))) := (P_155 L xs 122).trans rfl
theorem p_155_125 (L : Nat) (xs : Nat → Int32) : ll_P L xs 155 125 = some (.inl (lo_aload 126 0)) := (P_155 L xs 125).trans rfl
theorem p_155_126 (L : Nat) (xs : Nat → Int32) : ll_P L xs 155 126 = some (.inl (lo_getf 129 11 11)) := (P_155 L xs 126).trans rfl
theorem p_155_129 (L : Nat) (xs : Nat → Int32) : ll_P L xs 155 129 = some (.inl (lo_iload 130 1)) := (P_155 L xs 129).trans rfl
theorem p_155_130 (L : Nat) (xs : Nat → Int32) : ll_P L xs 155 130 = some (.inl (lo_aload 131 0)) := (P_155 L xs 130).trans rfl
theorem p_155_131 (L : Nat) (xs : Nat → Int32) : ll_P L xs 155 131 = some (.inl (lo_getf 134 11 11)) := (P_155 L xs 131).trans rfl
theorem p_155_134 (L : Nat) (xs : Nat → Int32) : ll_P L xs 155 134 = some (.inl (lo_iload 135 1)) := (P_155 L xs 134).trans rfl
theorem p_155_135 (L : Nat) (xs : Nat → Int32) : ll_P L xs 155 135 = some (.inl (lo_ald 136 1)) := (P_155 L xs 135).trans rfl
theorem p_155_136 (L : Nat) (xs : Nat → Int32) : ll_P L xs 155 136 = some (.inl (lo_if 152 139 (fun x => decide (x = 0)))) := (P_155 L xs 136).trans rfl
theorem p_155_139 (L : Nat) (xs : Nat → Int32) : ll_P L xs 155 139 = some (.inl (lo_aload 140 0)) := (P_155 L xs 139).trans rfl
theorem p_155_140 (L : Nat) (xs : Nat → Int32) : ll_P L xs 155 140 = some (.inl (lo_getf 143 11 11)) := (P_155 L xs 140).trans rfl
theorem p_155_143 (L : Nat) (xs : Nat → Int32) : ll_P L xs 155 143 = some (.inl (lo_iload 144 2)) := (P_155 L xs 143).trans rfl
theorem p_155_144 (L : Nat) (xs : Nat → Int32) : ll_P L xs 155 144 = some (.inl (lo_ald 145 1)) := (P_155 L xs 144).trans rfl
theorem p_155_145 (L : Nat) (xs : Nat → Int32) : ll_P L xs 155 145 = some (.inl (lo_if 152 148 (fun x => decide (x = 0)))) := (P_155 L xs 145).trans rfl
theorem p_155_148 (L : Nat) (xs : Nat → Int32) : ll_P L xs 155 148 = some (.inl (lo_push 149 (.int 1))) := (P_155 L xs 148).trans rfl
theorem p_155_149 (L : Nat) (xs : Nat → Int32) : ll_P L xs 155 149 = some (.inl (lo_goto 153)) := (P_155 L xs 149).trans rfl
theorem p_155_152 (L : Nat) (xs : Nat → Int32) : ll_P L xs 155 152 = some (.inl (lo_push 153 (.int 0))) := (P_155 L xs 152).trans rfl
theorem p_155_153 (L : Nat) (xs : Nat → Int32) : ll_P L xs 155 153 = some (.inl (lo_ast 154 1)) := (P_155 L xs 153).trans rfl
theorem p_155_154 (L : Nat) (xs : Nat → Int32) : ll_P L xs 155 154 = some (.inl (lo_aload 155 0)) := (P_155 L xs 154).trans rfl
theorem p_155_155 (L : Nat) (xs : Nat → Int32) : ll_P L xs 155 155 = some (.inl (lo_getf 158 11 8)) := (P_155 L xs 155).trans rfl
theorem p_155_158 (L : Nat) (xs : Nat → Int32) : ll_P L xs 155 158 = some (.inl (lo_iload 159 1)) := (P_155 L xs 158).trans rfl
theorem p_155_159 (L : Nat) (xs : Nat → Int32) : ll_P L xs 155 159 = some (.inl (lo_dup2 160)) := (P_155 L xs 159).trans rfl
theorem p_155_160 (L : Nat) (xs : Nat → Int32) : ll_P L xs 155 160 = some (.inl (lo_ald 161 0)) := (P_155 L xs 160).trans rfl
theorem p_155_161 (L : Nat) (xs : Nat → Int32) : ll_P L xs 155 161 = some (.inl (lo_aload 162 0)) := (P_155 L xs 161).trans rfl
theorem p_155_162 (L : Nat) (xs : Nat → Int32) : ll_P L xs 155 162 = some (.inl (lo_getf 165 11 8)) := (P_155 L xs 162).trans rfl
theorem p_155_165 (L : Nat) (xs : Nat → Int32) : ll_P L xs 155 165 = some (.inl (lo_iload 166 2)) := (P_155 L xs 165).trans rfl
theorem p_155_166 (L : Nat) (xs : Nat → Int32) : ll_P L xs 155 166 = some (.inl (lo_ald 167 0)) := (P_155 L xs 166).trans rfl
theorem p_155_167 (L : Nat) (xs : Nat → Int32) : ll_P L xs 155 167 = some (.inl (lo_bin 168 (fun x y => x + y))) := (P_155 L xs 167).trans rfl
theorem p_155_168 (L : Nat) (xs : Nat → Int32) : ll_P L xs 155 168 = some (.inl (lo_ast 169 0)) := (P_155 L xs 168).trans rfl
theorem p_155_169 (L : Nat) (xs : Nat → Int32) : ll_P L xs 155 169 = some (.inr (.inr 0)) := (P_155 L xs 169).trans rfl
theorem b_155_0 {Y : sY} {d : Nat} {s : sT} {K : Option Int32 → sT → Prop} {r0 : Nat} {x1 : Int32} {x2 : Int32} {x3 : Int32} (h : (∃ a1, (isO Y r0 11 ∧ s.2 r0 9 = some a1) ∧ (∃ a3, (isO Y r0 11 ∧ s.2 r0 9 = some a3) ∧ (∃ m5, (isA Y a3 0 m5 ∧ inR x2 m5) ∧ (∃ a7, (isO Y r0 11 ∧ s.2 r0 9 = some a7) ∧ (∃ m9, (isA Y a7 0 m9 ∧ inR x1 m9) ∧ (if (s.1 a3 (x2).toNatClampNeg) ≤ (s.1 a7 (x1).toNatClampNeg) then (∃ a12, (isO Y r0 11 ∧ s.2 r0 9 = some a12) ∧ (∃ m14, (isA Y a12 0 m14 ∧ inR x1 m14) ∧ tT Y d 155 35 [.ref r0, .int x1, .int x2, .int x3] [.int (s.1 a12 (x1).toNatClampNeg), .int x1, .ref a1] s K)) else (∃ a16, (isO Y r0 11 ∧ s.2 r0 9 = some a16) ∧ (∃ m18, (isA Y a16 0 m18 ∧ inR x2 m18) ∧ tT Y d 155 35 [.ref r0, .int x1, .int x2, .int x3] [.int (s.1 a16 (x2).toNatClampNeg), .int x1, .ref a1] s K))))))))) : tT Y d 155 0 [.ref r0, .int x1, .int x2, .int x3] [] s K :=
  (tt_aload (p_155_0 _ _) rfl).mpr (Exists.elim h (fun a1 h2 => t3_getr (p_155_1 _ _) (isI_11_9) h2.1.1 h2.1.2 ((tt_iload (p_155_4 _ _) rfl).mpr ((tt_aload (p_155_5 _ _) rfl).mpr (Exists.elim h2.2 (fun a3 h4 => t3_getr (p_155_6 _ _) (isI_11_9) h4.1.1 h4.1.2 ((tt_iload (p_155_9 _ _) rfl).mpr (Exists.elim h4.2 (fun m5 h6 => t3_ald (p_155_10 _ _) h6.1.1 h6.1.2 ((tt_aload (p_155_11 _ _) rfl).mpr (Exists.elim h6.2 (fun a7 h8 => t3_getr (p_155_12 _ _) (isI_11_9) h8.1.1 h8.1.2 ((tt_iload (p_155_15 _ _) rfl).mpr (Exists.elim h8.2 (fun m9 h10 => t3_ald (p_155_16 _ _) h10.1.1 h10.1.2 (t3_cmp (p := (s.1 a3 (x2).toNatClampNeg) ≤ (s.1 a7 (x1).toNatClampNeg)) (p_155_17 _ _) rfl (fun g11 => (tt_aload (p_155_29 _ _) rfl).mpr (Exists.elim (ifp h10.2 g11) (fun a12 h13 => t3_getr (p_155_30 _ _) (isI_11_9) h13.1.1 h13.1.2 ((tt_iload (p_155_33 _ _) rfl).mpr (Exists.elim h13.2 (fun m14 h15 => t3_ald (p_155_34 _ _) h15.1.1 h15.1.2 (h15.2))))))) (fun g11 => (tt_aload (p_155_20 _ _) rfl).mpr (Exists.elim (ifn h10.2 g11) (fun a16 h17 => t3_getr (p_155_21 _ _) (isI_11_9) h17.1.1 h17.1.2 ((tt_iload (p_155_24 _ _) rfl).mpr (Exists.elim h17.2 (fun m18 h19 => t3_ald (p_155_25 _ _) h19.1.1 h19.1.2 ((tt_goto (p_155_26 _ _)).mpr (h19.2))))))))))))))))))))))))
theorem b_155_35 {Y : sY} {d : Nat} {s : sT} {K : Option Int32 → sT → Prop} {r0 : Nat} {x1 : Int32} {x2 : Int32} {x3 : Int32} {t0 : Nat} {t1 : Int32} {t2 : Int32} (h : (∃ m1, (isA Y t0 0 m1 ∧ inR t1 m1) ∧ (∃ a3, (isO Y r0 11 ∧ (pV s t0 (t1).toNatClampNeg t2).2 r0 5 = some a3) ∧ (∃ m5, (isA Y a3 0 m5 ∧ inR x1 m5) ∧ (if ¬ ((pV s t0 (t1).toNatClampNeg t2).1 a3 (x1).toNatClampNeg) = (3 : Int32) then tT Y d 155 115 [.ref r0, .int x1, .int x2, .int x3] [] (pV s t0 (t1).toNatClampNeg t2) K else (∃ a8, (isO Y r0 11 ∧ (pV s t0 (t1).toNatClampNeg t2).2 r0 11 = some a8) ∧ (∃ a10, (isO Y r0 11 ∧ (pV s t0 (t1).toNatClampNeg t2).2 r0 11 = some a10) ∧ (∃ m12, (isA Y a10 1 m12 ∧ inR x1 m12) ∧ (if ¬ ((pV s t0 (t1).toNatClampNeg t2).1 a10 (x1).toNatClampNeg) = 0 then tT Y d 155 69 [.ref r0, .int x1, .int x2, .int x3] [.int x1, .ref a8] (pV s t0 (t1).toNatClampNeg t2) K else (∃ a15, (isO Y r0 11 ∧ (pV s t0 (t1).toNatClampNeg t2).2 r0 11 = some a15) ∧ (∃ m17, (isA Y a15 1 m17 ∧ inR x2 m17) ∧ (if ((pV s t0 (t1).toNatClampNeg t2).1 a15 (x2).toNatClampNeg) = 0 then tT Y d 155 74 [.ref r0, .int x1, .int x2, .int x3] [.int (0 : Int32), .int x1, .ref a8] (pV s t0 (t1).toNatClampNeg t2) K else tT Y d 155 69 [.ref r0, .int x1, .int x2, .int x3] [.int x1, .ref a8] (pV s t0 (t1).toNatClampNeg t2) K)))))))))))) : tT Y d 155 35 [.ref r0, .int x1, .int x2, .int x3] [.int t2, .int t1, .ref t0] s K :=
  Exists.elim h (fun m1 h2 => t3_ast (p_155_35 _ _) h2.1.1 h2.1.2 ((tt_aload (p_155_36 _ _) rfl).mpr (Exists.elim h2.2 (fun a3 h4 => t3_getr (p_155_37 _ _) (isI_11_5) h4.1.1 h4.1.2 ((tt_iload (p_155_40 _ _) rfl).mpr (Exists.elim h4.2 (fun m5 h6 => t3_ald (p_155_41 _ _) h6.1.1 h6.1.2 ((tt_push (p_155_42 _ _)).mpr (t3_cmp (p := ¬ ((pV s t0 (t1).toNatClampNeg t2).1 a3 (x1).toNatClampNeg) = (3 : Int32)) (p_155_43 _ _) rfl (fun g7 => (ifp h6.2 g7)) (fun g7 => (tt_aload (p_155_46 _ _) rfl).mpr (Exists.elim (ifn h6.2 g7) (fun a8 h9 => t3_getr (p_155_47 _ _) (isI_11_11) h9.1.1 h9.1.2 ((tt_iload (p_155_50 _ _) rfl).mpr ((tt_aload (p_155_51 _ _) rfl).mpr (Exists.elim h9.2 (fun a10 h11 => t3_getr (p_155_52 _ _) (isI_11_11) h11.1.1 h11.1.2 ((tt_iload (p_155_55 _ _) rfl).mpr (Exists.elim h11.2 (fun m12 h13 => t3_ald (p_155_56 _ _) h13.1.1 h13.1.2 (t3_if (p := ¬ ((pV s t0 (t1).toNatClampNeg t2).1 a10 (x1).toNatClampNeg) = 0) (p_155_57 _ _) rfl (fun g14 => (ifp h13.2 g14)) (fun g14 => (tt_aload (p_155_60 _ _) rfl).mpr (Exists.elim (ifn h13.2 g14) (fun a15 h16 => t3_getr (p_155_61 _ _) (isI_11_11) h16.1.1 h16.1.2 ((tt_iload (p_155_64 _ _) rfl).mpr (Exists.elim h16.2 (fun m17 h18 => t3_ald (p_155_65 _ _) h18.1.1 h18.1.2 (t3_if (p := ((pV s t0 (t1).toNatClampNeg t2).1 a15 (x2).toNatClampNeg) = 0) (p_155_66 _ _) rfl (fun g19 => (tt_push (p_155_73 _ _)).mpr ((ifp h18.2 g19))) (fun g19 => (ifn h18.2 g19)))))))))))))))))))))))))))))
theorem b_155_69 {Y : sY} {d : Nat} {s : sT} {K : Option Int32 → sT → Prop} {r0 : Nat} {x1 : Int32} {x2 : Int32} {x3 : Int32} {t0 : Nat} {t1 : Int32} (h : tT Y d 155 74 [.ref r0, .int x1, .int x2, .int x3] [.int (1 : Int32), .int t1, .ref t0] s K) : tT Y d 155 69 [.ref r0, .int x1, .int x2, .int x3] [.int t1, .ref t0] s K :=
  (tt_push (p_155_69 _ _)).mpr ((tt_goto (p_155_70 _ _)).mpr (h))
theorem b_155_74 {Y : sY} {d : Nat} {s : sT} {K : Option Int32 → sT → Prop} {r0 : Nat} {x1 : Int32} {x2 : Int32} {x3 : Int32} {t0 : Nat} {t1 : Int32} {t2 : Int32} (h : (∃ m1, (isA Y t0 1 m1 ∧ inR t1 m1 ∧ (t2 = 0 ∨ t2 = 1)) ∧ (∃ a3, (isO Y r0 11 ∧ (pV s t0 (t1).toNatClampNeg t2).2 r0 8 = some a3) ∧ (if x3 = 0 then tT Y d 155 99 [.ref r0, .int x1, .int x2, .int x3] [.int x1, .ref a3] (pV s t0 (t1).toNatClampNeg t2) K else (∃ a6, (isO Y r0 11 ∧ (pV s t0 (t1).toNatClampNeg t2).2 r0 8 = some a6) ∧ (∃ m8, (isA Y a6 0 m8 ∧ inR x2 m8) ∧ (∃ a10, (isO Y r0 11 ∧ (pV s t0 (t1).toNatClampNeg t2).2 r0 8 = some a10) ∧ (∃ m12, (isA Y a10 0 m12 ∧ inR x1 m12) ∧ (if ((pV s t0 (t1).toNatClampNeg t2).1 a10 (x1).toNatClampNeg) ≤ ((pV s t0 (t1).toNatClampNeg t2).1 a6 (x2).toNatClampNeg) then (∃ a15, (isO Y r0 11 ∧ (pV s t0 (t1).toNatClampNeg t2).2 r0 8 = some a15) ∧ (∃ m17, (isA Y a15 0 m17 ∧ inR x1 m17) ∧ tT Y d 155 114 [.ref r0, .int x1, .int x2, .int x3] [.int ((pV s t0 (t1).toNatClampNeg t2).1 a15 (x1).toNatClampNeg), .int x1, .ref a3] (pV s t0 (t1).toNatClampNeg t2) K)) else tT Y d 155 99 [.ref r0, .int x1, .int x2, .int x3] [.int x1, .ref a3] (pV s t0 (t1).toNatClampNeg t2) K))))))))) : tT Y d 155 74 [.ref r0, .int x1, .int x2, .int x3] [.int t2, .int t1, .ref t0] s K :=
  Exists.elim h (fun m1 h2 => t3_zst (p_155_74 _ _) h2.1.1 h2.1.2.1 h2.1.2.2 ((tt_aload (p_155_75 _ _) rfl).mpr (Exists.elim h2.2 (fun a3 h4 => t3_getr (p_155_76 _ _) (isI_11_8) h4.1.1 h4.1.2 ((tt_iload (p_155_79 _ _) rfl).mpr ((tt_iload (p_155_80 _ _) rfl).mpr (t3_if (p := x3 = 0) (p_155_81 _ _) rfl (fun g5 => (ifp h4.2 g5)) (fun g5 => (tt_aload (p_155_84 _ _) rfl).mpr (Exists.elim (ifn h4.2 g5) (fun a6 h7 => t3_getr (p_155_85 _ _) (isI_11_8) h7.1.1 h7.1.2 ((tt_iload (p_155_88 _ _) rfl).mpr (Exists.elim h7.2 (fun m8 h9 => t3_ald (p_155_89 _ _) h9.1.1 h9.1.2 ((tt_aload (p_155_90 _ _) rfl).mpr (Exists.elim h9.2 (fun a10 h11 => t3_getr (p_155_91 _ _) (isI_11_8) h11.1.1 h11.1.2 ((tt_iload (p_155_94 _ _) rfl).mpr (Exists.elim h11.2 (fun m12 h13 => t3_ald (p_155_95 _ _) h13.1.1 h13.1.2 (t3_cmp (p := ((pV s t0 (t1).toNatClampNeg t2).1 a10 (x1).toNatClampNeg) ≤ ((pV s t0 (t1).toNatClampNeg t2).1 a6 (x2).toNatClampNeg)) (p_155_96 _ _) rfl (fun g14 => (tt_aload (p_155_108 _ _) rfl).mpr (Exists.elim (ifp h13.2 g14) (fun a15 h16 => t3_getr (p_155_109 _ _) (isI_11_8) h16.1.1 h16.1.2 ((tt_iload (p_155_112 _ _) rfl).mpr (Exists.elim h16.2 (fun m17 h18 => t3_ald (p_155_113 _ _) h18.1.1 h18.1.2 (h18.2))))))) (fun g14 => (ifn h13.2 g14))))))))))))))))))))))
theorem b_155_99 {Y : sY} {d : Nat} {s : sT} {K : Option Int32 → sT → Prop} {r0 : Nat} {x1 : Int32} {x2 : Int32} {x3 : Int32} {t0 : Nat} {t1 : Int32} (h : (∃ a1, (isO Y r0 11 ∧ s.2 r0 8 = some a1) ∧ (∃ m3, (isA Y a1 0 m3 ∧ inR x2 m3) ∧ tT Y d 155 114 [.ref r0, .int x1, .int x2, .int x3] [.int (s.1 a1 (x2).toNatClampNeg), .int t1, .ref t0] s K))) : tT Y d 155 99 [.ref r0, .int x1, .int x2, .int x3] [.int t1, .ref t0] s K :=
  (tt_aload (p_155_99 _ _) rfl).mpr (Exists.elim h (fun a1 h2 => t3_getr (p_155_100 _ _) (isI_11_8) h2.1.1 h2.1.2 ((tt_iload (p_155_103 _ _) rfl).mpr (Exists.elim h2.2 (fun m3 h4 => t3_ald (p_155_104 _ _) h4.1.1 h4.1.2 ((tt_goto (p_155_105 _ _)).mpr (h4.2)))))))
theorem b_155_114 {Y : sY} {d : Nat} {s : sT} {K : Option Int32 → sT → Prop} {r0 : Nat} {x1 : Int32} {x2 : Int32} {x3 : Int32} {t0 : Nat} {t1 : Int32} {t2 : Int32} (h : (∃ m1, (isA Y t0 0 m1 ∧ inR t1 m1) ∧ tT Y d 155 115 [.ref r0, .int x1, .int x2, .int x3] [] (pV s t0 (t1).toNatClampNeg t2) K)) : tT Y d 155 114 [.ref r0, .int x1, .int x2, .int x3] [.int t2, .int t1, .ref t0] s K :=
  Exists.elim h (fun m1 h2 => t3_ast (p_155_114 _ _) h2.1.1 h2.1.2 (h2.2))
theorem b_155_115 {Y : sY} {d : Nat} {s : sT} {K : Option Int32 → sT → Prop} {r0 : Nat} {x1 : Int32} {x2 : Int32} {x3 : Int32} (h : (∃ a1, (isO Y r0 11 ∧ s.2 r0 5 = some a1) ∧ (∃ m3, (isA Y a1 0 m3 ∧ inR x1 m3) ∧ (if ¬ (s.1 a1 (x1).toNatClampNeg) = (4 : Int32) then K none s else (∃ a6, (isO Y r0 11 ∧ s.2 r0 11 = some a6) ∧ (∃ a8, (isO Y r0 11 ∧ s.2 r0 11 = some a8) ∧ (∃ m10, (isA Y a8 1 m10 ∧ inR x1 m10) ∧ (if (s.1 a8 (x1).toNatClampNeg) = 0 then tT Y d 155 152 [.ref r0, .int x1, .int x2, .int x3] [.int x1, .ref a6] s K else (∃ a13, (isO Y r0 11 ∧ s.2 r0 11 = some a13) ∧ (∃ m15, (isA Y a13 1 m15 ∧ inR x2 m15) ∧ (if (s.1 a13 (x2).toNatClampNeg) = 0 then tT Y d 155 152 [.ref r0, .int x1, .int x2, .int x3] [.int x1, .ref a6] s K else tT Y d 155 153 [.ref r0, .int x1, .int x2, .int x3] [.int (1 : Int32), .int x1, .ref a6] s K))))))))))) : tT Y d 155 115 [.ref r0, .int x1, .int x2, .int x3] [] s K :=
  (tt_aload (p_155_115 _ _) rfl).mpr (Exists.elim h (fun a1 h2 => t3_getr (p_155_116 _ _) (isI_11_5) h2.1.1 h2.1.2 ((tt_iload (p_155_119 _ _) rfl).mpr (Exists.elim h2.2 (fun m3 h4 => t3_ald (p_155_120 _ _) h4.1.1 h4.1.2 ((tt_push (p_155_121 _ _)).mpr (t3_cmp (p := ¬ (s.1 a1 (x1).toNatClampNeg) = (4 : Int32)) (p_155_122 _ _) rfl (fun g5 => tt_ret0 (p_155_169 _ _) (ifp h4.2 g5)) (fun g5 => (tt_aload (p_155_125 _ _) rfl).mpr (Exists.elim (ifn h4.2 g5) (fun a6 h7 => t3_getr (p_155_126 _ _) (isI_11_11) h7.1.1 h7.1.2 ((tt_iload (p_155_129 _ _) rfl).mpr ((tt_aload (p_155_130 _ _) rfl).mpr (Exists.elim h7.2 (fun a8 h9 => t3_getr (p_155_131 _ _) (isI_11_11) h9.1.1 h9.1.2 ((tt_iload (p_155_134 _ _) rfl).mpr (Exists.elim h9.2 (fun m10 h11 => t3_ald (p_155_135 _ _) h11.1.1 h11.1.2 (t3_if (p := (s.1 a8 (x1).toNatClampNeg) = 0) (p_155_136 _ _) rfl (fun g12 => (ifp h11.2 g12)) (fun g12 => (tt_aload (p_155_139 _ _) rfl).mpr (Exists.elim (ifn h11.2 g12) (fun a13 h14 => t3_getr (p_155_140 _ _) (isI_11_11) h14.1.1 h14.1.2 ((tt_iload (p_155_143 _ _) rfl).mpr (Exists.elim h14.2 (fun m15 h16 => t3_ald (p_155_144 _ _) h16.1.1 h16.1.2 (t3_if (p := (s.1 a13 (x2).toNatClampNeg) = 0) (p_155_145 _ _) rfl (fun g17 => (ifp h16.2 g17)) (fun g17 => (tt_push (p_155_148 _ _)).mpr ((tt_goto (p_155_149 _ _)).mpr ((ifn h16.2 g17)))))))))))))))))))))))))))))
theorem b_155_152 {Y : sY} {d : Nat} {s : sT} {K : Option Int32 → sT → Prop} {r0 : Nat} {x1 : Int32} {x2 : Int32} {x3 : Int32} {t0 : Nat} {t1 : Int32} (h : tT Y d 155 153 [.ref r0, .int x1, .int x2, .int x3] [.int (0 : Int32), .int t1, .ref t0] s K) : tT Y d 155 152 [.ref r0, .int x1, .int x2, .int x3] [.int t1, .ref t0] s K :=
  (tt_push (p_155_152 _ _)).mpr (h)
theorem b_155_153 {Y : sY} {d : Nat} {s : sT} {K : Option Int32 → sT → Prop} {r0 : Nat} {x1 : Int32} {x2 : Int32} {x3 : Int32} {t0 : Nat} {t1 : Int32} {t2 : Int32} (h : (∃ m1, (isA Y t0 1 m1 ∧ inR t1 m1 ∧ (t2 = 0 ∨ t2 = 1)) ∧ (∃ a3, (isO Y r0 11 ∧ (pV s t0 (t1).toNatClampNeg t2).2 r0 8 = some a3) ∧ (∃ m5, (isA Y a3 0 m5 ∧ inR x1 m5) ∧ (∃ a7, (isO Y r0 11 ∧ (pV s t0 (t1).toNatClampNeg t2).2 r0 8 = some a7) ∧ (∃ m9, (isA Y a7 0 m9 ∧ inR x2 m9) ∧ (∃ m11, (isA Y a3 0 m11 ∧ inR x1 m11) ∧ K none (pV (pV s t0 (t1).toNatClampNeg t2) a3 (x1).toNatClampNeg (((pV s t0 (t1).toNatClampNeg t2).1 a3 (x1).toNatClampNeg) + ((pV s t0 (t1).toNatClampNeg t2).1 a7 (x2).toNatClampNeg)))))))))) : tT Y d 155 153 [.ref r0, .int x1, .int x2, .int x3] [.int t2, .int t1, .ref t0] s K :=
  Exists.elim h (fun m1 h2 => t3_zst (p_155_153 _ _) h2.1.1 h2.1.2.1 h2.1.2.2 ((tt_aload (p_155_154 _ _) rfl).mpr (Exists.elim h2.2 (fun a3 h4 => t3_getr (p_155_155 _ _) (isI_11_8) h4.1.1 h4.1.2 ((tt_iload (p_155_158 _ _) rfl).mpr ((tt_dup2 (p_155_159 _ _)).mpr (Exists.elim h4.2 (fun m5 h6 => t3_ald (p_155_160 _ _) h6.1.1 h6.1.2 ((tt_aload (p_155_161 _ _) rfl).mpr (Exists.elim h6.2 (fun a7 h8 => t3_getr (p_155_162 _ _) (isI_11_8) h8.1.1 h8.1.2 ((tt_iload (p_155_165 _ _) rfl).mpr (Exists.elim h8.2 (fun m9 h10 => t3_ald (p_155_166 _ _) h10.1.1 h10.1.2 ((tt_bin (p_155_167 _ _)).mpr (Exists.elim h10.2 (fun m11 h12 => t3_ast (p_155_168 _ _) h12.1.1 h12.1.2 (tt_ret0 (p_155_169 _ _) h12.2))))))))))))))))))
/-! InclusionProverModel.kept.(II)I -/
theorem p_156_0 (L : Nat) (xs : Nat → Int32) : ll_P L xs 156 0 = some (.inl (lo_push 1 (.int 0))) := (P_156 L xs 0).trans rfl
theorem p_156_1 (L : Nat) (xs : Nat → Int32) : ll_P L xs 156 1 = some (.inl (lo_istore 2 3)) := (P_156 L xs 1).trans rfl
theorem p_156_2 (L : Nat) (xs : Nat → Int32) : ll_P L xs 156 2 = some (.inl (lo_iload 3 3)) := (P_156 L xs 2).trans rfl
theorem p_156_3 (L : Nat) (xs : Nat → Int32) : ll_P L xs 156 3 = some (.inl (lo_aload 4 0)) := (P_156 L xs 3).trans rfl
theorem p_156_4 (L : Nat) (xs : Nat → Int32) : ll_P L xs 156 4 = some (.inl (lo_getf 7 11 12)) := (P_156 L xs 4).trans rfl
theorem p_156_7 (L : Nat) (xs : Nat → Int32) : ll_P L xs 156 7 = some (.inl (lo_cmp 101 10 (fun x y => decide (y ≤ x)))) := (P_156 L xs 7).trans rfl
theorem p_156_10 (L : Nat) (xs : Nat → Int32) : ll_P L xs 156 10 = some (.inl (lo_aload 11 0)) := (P_156 L xs 10).trans rfl
theorem p_156_11 (L : Nat) (xs : Nat → Int32) : ll_P L xs 156 11 = some (.inl (lo_getf 14 11 5)) := (P_156 L xs 11).trans rfl
theorem p_156_14 (L : Nat) (xs : Nat → Int32) : ll_P L xs 156 14 = some (.inl (lo_iload 15 3)) := (P_156 L xs 14).trans rfl
theorem p_156_15 (L : Nat) (xs : Nat → Int32) : ll_P L xs 156 15 = some (.inl (lo_ald 16 0)) := (P_156 L xs 15).trans rfl
theorem p_156_16 (L : Nat) (xs : Nat → Int32) : ll_P L xs 156 16 = some (.inl (lo_iload 17 1)) := (P_156 L xs 16).trans rfl
theorem p_156_17 (L : Nat) (xs : Nat → Int32) : ll_P L xs 156 17 = some (.inl (lo_cmp 34 20 (fun x y => decide (¬ x = y)))) := (P_156 L xs 17).trans rfl
theorem p_156_20 (L : Nat) (xs : Nat → Int32) : ll_P L xs 156 20 = some (.inl (lo_aload 21 0)) := (P_156 L xs 20).trans rfl
theorem p_156_21 (L : Nat) (xs : Nat → Int32) : ll_P L xs 156 21 = some (.inl (lo_getf 24 11 7)) := (P_156 L xs 21).trans rfl
theorem p_156_24 (L : Nat) (xs : Nat → Int32) : ll_P L xs 156 24 = some (.inl (lo_iload 25 3)) := (P_156 L xs 24).trans rfl
theorem p_156_25 (L : Nat) (xs : Nat → Int32) : ll_P L xs 156 25 = some (.inl (lo_ald 26 0)) := (P_156 L xs 25).trans rfl
theorem p_156_26 (L : Nat) (xs : Nat → Int32) : ll_P L xs 156 26 = some (.inl (lo_iload 27 2)) := (P_156 L xs 26).trans rfl
theorem p_156_27 (L : Nat) (xs : Nat → Int32) : ll_P L xs 156 27 = some (.inl (lo_cmp 34 30 (fun x y => decide (¬ x = y)))) := (P_156 L xs 27).trans rfl
theorem p_156_30 (L : Nat) (xs : Nat → Int32) : ll_P L xs 156 30 = some (.inl (lo_push 31 (.int 1))) := (P_156 L xs 30).trans rfl
theorem p_156_31 (L : Nat) (xs : Nat → Int32) : ll_P L xs 156 31 = some (.inl (lo_goto 35)) := (P_156 L xs 31).trans rfl
theorem p_156_34 (L : Nat) (xs : Nat → Int32) : ll_P L xs 156 34 = some (.inl (lo_push 35 (.int 0))) := (P_156 L xs 34).trans rfl
theorem p_156_35 (L : Nat) (xs : Nat → Int32) : ll_P L xs 156 35 = some (.inl (lo_istore 37 4)) := (P_156 L xs 35).trans rfl
theorem p_156_37 (L : Nat) (xs : Nat → Int32) : ll_P L xs 156 37 = some (.inl (lo_push 38 (.int 0))) := (P_156 L xs 37).trans rfl
theorem p_156_38 (L : Nat) (xs : Nat → Int32) : ll_P L xs 156 38 = some (.inl (lo_istore 40 5)) := (P_156 L xs 38).trans rfl
theorem p_156_40 (L : Nat) (xs : Nat → Int32) : ll_P L xs 156 40 = some (.inl (lo_iload 42 5)) := (P_156 L xs 40).trans rfl
theorem p_156_42 (L : Nat) (xs : Nat → Int32) : ll_P L xs 156 42 = some (.inl (lo_iload 43 2)) := (P_156 L xs 42).trans rfl
theorem p_156_43 (L : Nat) (xs : Nat → Int32) : ll_P L xs 156 43 = some (.inl (lo_cmp 88 46 (fun x y => decide (y ≤ x)))) := (P_156 L xs 43).trans rfl
theorem p_156_46 (L : Nat) (xs : Nat → Int32) : ll_P L xs 156 46 = some (.inl (lo_iload 48 4)) := (P_156 L xs 46).trans rfl
theorem p_156_48 (L : Nat) (xs : Nat → Int32) : ll_P L xs 156 48 = some (.inl (lo_if 88 51 (fun x => decide (x = 0)))) := (P_156 L xs 48).trans rfl
theorem p_156_51 (L : Nat) (xs : Nat → Int32) : ll_P L xs 156 51 = some (.inl (lo_aload 52 0)) := (P_156 L xs 51).trans rfl
theorem p_156_52 (L : Nat) (xs : Nat → Int32) : ll_P L xs 156 52 = some (.inl (lo_getf 55 11 10)) := (P_156 L xs 52).trans rfl
theorem p_156_55 (L : Nat) (xs : Nat → Int32) : ll_P L xs 156 55 = some (.inl (lo_aload 56 0)) := (P_156 L xs 55).trans rfl
theorem p_156_56 (L : Nat) (xs : Nat → Int32) : ll_P L xs 156 56 = some (.inl (lo_getf 59 11 6)) := (P_156 L xs 56).trans rfl
theorem p_156_59 (L : Nat) (xs : Nat → Int32) : ll_P L xs 156 59 = some (.inl (lo_iload 60 3)) := (P_156 L xs 59).trans rfl
theorem p_156_60 (L : Nat) (xs : Nat → Int32) : ll_P L xs 156 60 = some (.inl (lo_ald 61 0)) := (P_156 L xs 60).trans rfl
theorem p_156_61 (L : Nat) (xs : Nat → Int32) : ll_P L xs 156 61 = some (.inl (lo_iload 63 5)) := (P_156 L xs 61).trans rfl
theorem p_156_63 (L : Nat) (xs : Nat → Int32) : ll_P L xs 156 63 = some (.inl (lo_bin 64 (fun x y => x + y))) := (P_156 L xs 63).trans rfl
theorem p_156_64 (L : Nat) (xs : Nat → Int32) : ll_P L xs 156 64 = some (.inl (lo_ald 65 0)) := (P_156 L xs 64).trans rfl
theorem p_156_65 (L : Nat) (xs : Nat → Int32) : ll_P L xs 156 65 = some (.inl (lo_aload 66 0)) := (P_156 L xs 65).trans rfl
theorem p_156_66 (L : Nat) (xs : Nat → Int32) : ll_P L xs 156 66 = some (.inl (lo_getf 69 11 18)) := (P_156 L xs 66).trans rfl
theorem p_156_69 (L : Nat) (xs : Nat → Int32) : ll_P L xs 156 69 = some (.inl (lo_iload 71 5)) := (P_156 L xs 69).trans rfl
theorem p_156_71 (L : Nat) (xs : Nat → Int32) : ll_P L xs 156 71 = some (.inl (lo_ald 72 0)) := (P_156 L xs 71).trans rfl
theorem p_156_72 (L : Nat) (xs : Nat → Int32) : ll_P L xs 156 72 = some (.inl (lo_cmp 79 75 (fun x y => decide (¬ x = y)))) := (P_156 L xs 72).trans rfl
theorem p_156_75 (L : Nat) (xs : Nat → Int32) : ll_P L xs 156 75 = some (.inl (lo_push 76 (.int 1))) := (P_156 L xs 75).trans rfl
theorem p_156_76 (L : Nat) (xs : Nat → Int32) : ll_P L xs 156 76 = some (.inl (lo_goto 80)) := (P_156 L xs 76).trans rfl
theorem p_156_79 (L : Nat) (xs : Nat → Int32) : ll_P L xs 156 79 = some (.inl (lo_push 80 (.int 0))) := (P_156 L xs 79).trans rfl
theorem p_156_80 (L : Nat) (xs : Nat → Int32) : ll_P L xs 156 80 = some (.inl (lo_istore 82 4)) := (P_156 L xs 80).trans rfl
theorem p_156_82 (L : Nat) (xs : Nat → Int32) : ll_P L xs 156 82 = some (.inl (lo_iinc 85 5 1)) := (P_156 L xs 82).trans rfl
theorem p_156_85 (L : Nat) (xs : Nat → Int32) : ll_P L xs 156 85 = some (.inl (lo_goto 40)) := (P_156 L xs 85).trans rfl
theorem p_156_88 (L : Nat) (xs : Nat → Int32) : ll_P L xs 156 88 = some (.inl (lo_iload 90 4)) := (P_156 L xs 88).trans rfl
theorem p_156_90 (L : Nat) (xs : Nat → Int32) : ll_P L xs 156 90 = some (.inl (lo_if 95 93 (fun x => decide (x = 0)))) := (P_156 L xs 90).trans rfl
theorem p_156_93 (L : Nat) (xs : Nat → Int32) : ll_P L xs 156 93 = some (.inl (lo_iload 94 3)) := (P_156 L xs 93).trans rfl
theorem p_156_94 (L : Nat) (xs : Nat → Int32) : ll_P L xs 156 94 = some (.inr (.inr 1)) := (P_156 L xs 94).trans rfl
theorem p_156_95 (L : Nat) (xs : Nat → Int32) : ll_P L xs 156 95 = some (.inl (lo_iinc 98 3 1)) := (P_156 L xs 95).trans rfl
theorem p_156_98 (L : Nat) (xs : Nat → Int32) : ll_P L xs 156 98 = some (.inl (lo_goto 2)) := (P_156 L xs 98).trans rfl
theorem p_156_101 (L : Nat) (xs : Nat → Int32) : ll_P L xs 156 101 = some (.inl (lo_aload 102 0)) := (P_156 L xs 101).trans rfl
theorem p_156_102 (L : Nat) (xs : Nat → Int32) : ll_P L xs 156 102 = some (.inl (lo_iload 103 1)) := (P_156 L xs 102).trans rfl
theorem p_156_103 (L : Nat) (xs : Nat → Int32) : ll_P L xs 156 103 = some (.inl (lo_iload 104 2)) := (P_156 L xs 103).trans rfl
theorem p_156_104 (L : Nat) (xs : Nat → Int32) : ll_P L xs 156 104 = some (.inr (.inl (154, 3, 107))) := (P_156 L xs 104).trans rfl
theorem p_156_107 (L : Nat) (xs : Nat → Int32) : ll_P L xs 156 107 = some (.inr (.inr 1)) := (P_156 L xs 107).trans rfl
theorem b_156_0 {Y : sY} {d : Nat} {s : sT} {K : Option Int32 → sT → Prop} {r0 : Nat} {x1 : Int32} {x2 : Int32} (h : tT Y (d + 1) 156 2 [.ref r0, .int x1, .int x2, .int (0 : Int32), .null, .null] [] s K) : tT Y (d + 1) 156 0 [.ref r0, .int x1, .int x2, .null, .null, .null] [] s K :=
  (tt_push (p_156_0 _ _)).mpr ((tt_istore (p_156_1 _ _) (Nat.le_of_ble_eq_true rfl) rfl rfl).mpr (h))
theorem b_156_2 {Y : sY} {d : Nat} {s : sT} {K : Option Int32 → sT → Prop} {r0 : Nat} {x1 : Int32} {x2 : Int32} {x3 : Int32} {u4 : Value} {u5 : Value} (h : (isO Y r0 11 ∧ (if (s.1 r0 12) ≤ x3 then (isO Y r0 11 ∧ tT Y d 154 0 [.ref r0, .int x1, .int x2, .null, .null] [] s (fun r s1 => tT Y (d + 1) 156 107 [.ref r0, .int x1, .int x2, .int x3, u4, u5] ((r.map Value.int).toList ++ []) s1 K)) else (∃ a2, (isO Y r0 11 ∧ s.2 r0 5 = some a2) ∧ (∃ m4, (isA Y a2 0 m4 ∧ inR x3 m4) ∧ (if ¬ (s.1 a2 (x3).toNatClampNeg) = x1 then tT Y (d + 1) 156 34 [.ref r0, .int x1, .int x2, .int x3, u4, u5] [] s K else (∃ a7, (isO Y r0 11 ∧ s.2 r0 7 = some a7) ∧ (∃ m9, (isA Y a7 0 m9 ∧ inR x3 m9) ∧ (if ¬ (s.1 a7 (x3).toNatClampNeg) = x2 then tT Y (d + 1) 156 34 [.ref r0, .int x1, .int x2, .int x3, u4, u5] [] s K else tT Y (d + 1) 156 35 [.ref r0, .int x1, .int x2, .int x3, u4, u5] [.int (1 : Int32)] s K))))))))) : tT Y (d + 1) 156 2 [.ref r0, .int x1, .int x2, .int x3, u4, u5] [] s K :=
  (tt_iload (p_156_2 _ _) rfl).mpr ((tt_aload (p_156_3 _ _) rfl).mpr (t3_geti (p_156_4 _ _) (isI_11_12) h.1 (t3_cmp (p := (s.1 r0 12) ≤ x3) (p_156_7 _ _) rfl (fun g1 => (tt_aload (p_156_101 _ _) rfl).mpr ((tt_iload (p_156_102 _ _) rfl).mpr ((tt_iload (p_156_103 _ _) rfl).mpr (t2_callv (z := 154) (k := 3) (i := r0) (as := [.int x1, .int x2]) (rest := []) (p_156_104 _ _) mK_154 mL_154 rfl rfl (Nat.le_of_ble_eq_true rfl) rfl (Nat.le_of_ble_eq_true rfl) (ifp h.2 g1).1 (ifp h.2 g1).2)))) (fun g1 => (tt_aload (p_156_10 _ _) rfl).mpr (Exists.elim (ifn h.2 g1) (fun a2 h3 => t3_getr (p_156_11 _ _) (isI_11_5) h3.1.1 h3.1.2 ((tt_iload (p_156_14 _ _) rfl).mpr (Exists.elim h3.2 (fun m4 h5 => t3_ald (p_156_15 _ _) h5.1.1 h5.1.2 ((tt_iload (p_156_16 _ _) rfl).mpr (t3_cmp (p := ¬ (s.1 a2 (x3).toNatClampNeg) = x1) (p_156_17 _ _) rfl (fun g6 => (ifp h5.2 g6)) (fun g6 => (tt_aload (p_156_20 _ _) rfl).mpr (Exists.elim (ifn h5.2 g6) (fun a7 h8 => t3_getr (p_156_21 _ _) (isI_11_7) h8.1.1 h8.1.2 ((tt_iload (p_156_24 _ _) rfl).mpr (Exists.elim h8.2 (fun m9 h10 => t3_ald (p_156_25 _ _) h10.1.1 h10.1.2 ((tt_iload (p_156_26 _ _) rfl).mpr (t3_cmp (p := ¬ (s.1 a7 (x3).toNatClampNeg) = x2) (p_156_27 _ _) rfl (fun g11 => (ifp h10.2 g11)) (fun g11 => (tt_push (p_156_30 _ _)).mpr ((tt_goto (p_156_31 _ _)).mpr ((ifn h10.2 g11)))))))))))))))))))))))
theorem b_156_34 {Y : sY} {d : Nat} {s : sT} {K : Option Int32 → sT → Prop} {r0 : Nat} {x1 : Int32} {x2 : Int32} {x3 : Int32} {u4 : Value} {u5 : Value} (h : tT Y (d + 1) 156 35 [.ref r0, .int x1, .int x2, .int x3, u4, u5] [.int (0 : Int32)] s K) : tT Y (d + 1) 156 34 [.ref r0, .int x1, .int x2, .int x3, u4, u5] [] s K :=
  (tt_push (p_156_34 _ _)).mpr (h)
theorem b_156_35 {Y : sY} {d : Nat} {s : sT} {K : Option Int32 → sT → Prop} {r0 : Nat} {x1 : Int32} {x2 : Int32} {x3 : Int32} {u4 : Value} {u5 : Value} {t0 : Int32} (h : tT Y (d + 1) 156 40 [.ref r0, .int x1, .int x2, .int x3, .int t0, .int (0 : Int32)] [] s K) : tT Y (d + 1) 156 35 [.ref r0, .int x1, .int x2, .int x3, u4, u5] [.int t0] s K :=
  (tt_istore (p_156_35 _ _) (Nat.le_of_ble_eq_true rfl) rfl rfl).mpr ((tt_push (p_156_37 _ _)).mpr ((tt_istore (p_156_38 _ _) (Nat.le_of_ble_eq_true rfl) rfl rfl).mpr (h)))
theorem b_156_40 {Y : sY} {d : Nat} {s : sT} {K : Option Int32 → sT → Prop} {r0 : Nat} {x1 : Int32} {x2 : Int32} {x3 : Int32} {x4 : Int32} {x5 : Int32} (h : (if x2 ≤ x5 then tT Y (d + 1) 156 88 [.ref r0, .int x1, .int x2, .int x3, .int x4, .int x5] [] s K else (if x4 = 0 then tT Y (d + 1) 156 88 [.ref r0, .int x1, .int x2, .int x3, .int x4, .int x5] [] s K else (∃ a3, (isO Y r0 11 ∧ s.2 r0 10 = some a3) ∧ (∃ a5, (isO Y r0 11 ∧ s.2 r0 6 = some a5) ∧ (∃ m7, (isA Y a5 0 m7 ∧ inR x3 m7) ∧ (∃ m9, (isA Y a3 0 m9 ∧ inR ((s.1 a5 (x3).toNatClampNeg) + x5) m9) ∧ (∃ a11, (isO Y r0 11 ∧ s.2 r0 18 = some a11) ∧ (∃ m13, (isA Y a11 0 m13 ∧ inR x5 m13) ∧ (if ¬ (s.1 a3 (((s.1 a5 (x3).toNatClampNeg) + x5)).toNatClampNeg) = (s.1 a11 (x5).toNatClampNeg) then tT Y (d + 1) 156 80 [.ref r0, .int x1, .int x2, .int x3, .int x4, .int x5] [.int (0 : Int32)] s K else tT Y (d + 1) 156 80 [.ref r0, .int x1, .int x2, .int x3, .int x4, .int x5] [.int (1 : Int32)] s K)))))))))) : tT Y (d + 1) 156 40 [.ref r0, .int x1, .int x2, .int x3, .int x4, .int x5] [] s K :=
  (tt_iload (p_156_40 _ _) rfl).mpr ((tt_iload (p_156_42 _ _) rfl).mpr (t3_cmp (p := x2 ≤ x5) (p_156_43 _ _) rfl (fun g1 => (ifp h g1)) (fun g1 => (tt_iload (p_156_46 _ _) rfl).mpr (t3_if (p := x4 = 0) (p_156_48 _ _) rfl (fun g2 => (ifp (ifn h g1) g2)) (fun g2 => (tt_aload (p_156_51 _ _) rfl).mpr (Exists.elim (ifn (ifn h g1) g2) (fun a3 h4 => t3_getr (p_156_52 _ _) (isI_11_10) h4.1.1 h4.1.2 ((tt_aload (p_156_55 _ _) rfl).mpr (Exists.elim h4.2 (fun a5 h6 => t3_getr (p_156_56 _ _) (isI_11_6) h6.1.1 h6.1.2 ((tt_iload (p_156_59 _ _) rfl).mpr (Exists.elim h6.2 (fun m7 h8 => t3_ald (p_156_60 _ _) h8.1.1 h8.1.2 ((tt_iload (p_156_61 _ _) rfl).mpr ((tt_bin (p_156_63 _ _)).mpr (Exists.elim h8.2 (fun m9 h10 => t3_ald (p_156_64 _ _) h10.1.1 h10.1.2 ((tt_aload (p_156_65 _ _) rfl).mpr (Exists.elim h10.2 (fun a11 h12 => t3_getr (p_156_66 _ _) (isI_11_18) h12.1.1 h12.1.2 ((tt_iload (p_156_69 _ _) rfl).mpr (Exists.elim h12.2 (fun m13 h14 => t3_ald (p_156_71 _ _) h14.1.1 h14.1.2 (t3_cmp (p := ¬ (s.1 a3 (((s.1 a5 (x3).toNatClampNeg) + x5)).toNatClampNeg) = (s.1 a11 (x5).toNatClampNeg)) (p_156_72 _ _) rfl (fun g15 => (tt_push (p_156_79 _ _)).mpr ((ifp h14.2 g15))) (fun g15 => (tt_push (p_156_75 _ _)).mpr ((tt_goto (p_156_76 _ _)).mpr ((ifn h14.2 g15))))))))))))))))))))))))))))
theorem b_156_80 {Y : sY} {d : Nat} {s : sT} {K : Option Int32 → sT → Prop} {r0 : Nat} {x1 : Int32} {x2 : Int32} {x3 : Int32} {x4 : Int32} {x5 : Int32} {t0 : Int32} (h : tT Y (d + 1) 156 40 [.ref r0, .int x1, .int x2, .int x3, .int t0, .int (x5 + 1)] [] s K) : tT Y (d + 1) 156 80 [.ref r0, .int x1, .int x2, .int x3, .int x4, .int x5] [.int t0] s K :=
  (tt_istore (p_156_80 _ _) (Nat.le_of_ble_eq_true rfl) rfl rfl).mpr ((tt_iinc (p_156_82 _ _) rfl rfl rfl).mpr ((tt_goto (p_156_85 _ _)).mpr (h)))
theorem b_156_88 {Y : sY} {d : Nat} {s : sT} {K : Option Int32 → sT → Prop} {r0 : Nat} {x1 : Int32} {x2 : Int32} {x3 : Int32} {x4 : Int32} {x5 : Int32} (h : (if x4 = 0 then tT Y (d + 1) 156 2 [.ref r0, .int x1, .int x2, .int (x3 + 1), .int x4, .int x5] [] s K else K (some x3) s)) : tT Y (d + 1) 156 88 [.ref r0, .int x1, .int x2, .int x3, .int x4, .int x5] [] s K :=
  (tt_iload (p_156_88 _ _) rfl).mpr (t3_if (p := x4 = 0) (p_156_90 _ _) rfl (fun g1 => (tt_iinc (p_156_95 _ _) rfl rfl rfl).mpr ((tt_goto (p_156_98 _ _)).mpr ((ifp h g1)))) (fun g1 => (tt_iload (p_156_93 _ _) rfl).mpr (tt_ret1 (p_156_94 _ _) (ifn h g1))))
theorem b_156_107 {Y : sY} {d : Nat} {s : sT} {K : Option Int32 → sT → Prop} {r0 : Nat} {x1 : Int32} {x2 : Int32} {x3 : Int32} {u4 : Value} {u5 : Value} {t0 : Int32} (h : K (some t0) s) : tT Y (d + 1) 156 107 [.ref r0, .int x1, .int x2, .int x3, u4, u5] [.int t0] s K :=
  tt_ret1 (p_156_107 _ _) h
/-! InclusionProverModel.notes.(IZ)V -/
theorem p_157_0 (L : Nat) (xs : Nat → Int32) : ll_P L xs 157 0 = some (.inl (lo_push 1 (.int 0))) := (P_157 L xs 0).trans rfl
theorem p_157_1 (L : Nat) (xs : Nat → Int32) : ll_P L xs 157 1 = some (.inl (lo_istore 2 3)) := (P_157 L xs 1).trans rfl
theorem p_157_2 (L : Nat) (xs : Nat → Int32) : ll_P L xs 157 2 = some (.inl (lo_iload 3 3)) := (P_157 L xs 2).trans rfl
theorem p_157_3 (L : Nat) (xs : Nat → Int32) : ll_P L xs 157 3 = some (.inl (lo_aload 4 0)) := (P_157 L xs 3).trans rfl
theorem p_157_4 (L : Nat) (xs : Nat → Int32) : ll_P L xs 157 4 = some (.inl (lo_getf 7 11 19)) := (P_157 L xs 4).trans rfl
theorem p_157_7 (L : Nat) (xs : Nat → Int32) : ll_P L xs 157 7 = some (.inl (lo_cmp 31 10 (fun x y => decide (y ≤ x)))) := (P_157 L xs 7).trans rfl
theorem p_157_10 (L : Nat) (xs : Nat → Int32) : ll_P L xs 157 10 = some (.inl (lo_iload 11 2)) := (P_157 L xs 10).trans rfl
theorem p_157_11 (L : Nat) (xs : Nat → Int32) : ll_P L xs 157 11 = some (.inl (lo_if 31 14 (fun x => decide (x = 0)))) := (P_157 L xs 11).trans rfl
theorem p_157_14 (L : Nat) (xs : Nat → Int32) : ll_P L xs 157 14 = some (.inl (lo_aload 15 0)) := (P_157 L xs 14).trans rfl
theorem p_157_15 (L : Nat) (xs : Nat → Int32) : ll_P L xs 157 15 = some (.inl (lo_getf 18 11 18)) := (P_157 L xs 15).trans rfl
theorem p_157_18 (L : Nat) (xs : Nat → Int32) : ll_P L xs 157 18 = some (.inl (lo_iload 19 3)) := (P_157 L xs 18).trans rfl
theorem p_157_19 (L : Nat) (xs : Nat → Int32) : ll_P L xs 157 19 = some (.inl (lo_ald 20 0)) := (P_157 L xs 19).trans rfl
theorem p_157_20 (L : Nat) (xs : Nat → Int32) : ll_P L xs 157 20 = some (.inl (lo_iload 21 1)) := (P_157 L xs 20).trans rfl
theorem p_157_21 (L : Nat) (xs : Nat → Int32) : ll_P L xs 157 21 = some (.inl (lo_cmp 25 24 (fun x y => decide (¬ x = y)))) := (P_157 L xs 21).trans rfl
theorem p_157_24 (L : Nat) (xs : Nat → Int32) : ll_P L xs 157 24 = some (.inr (.inr 0)) := (P_157 L xs 24).trans rfl
theorem p_157_25 (L : Nat) (xs : Nat → Int32) : ll_P L xs 157 25 = some (.inl (lo_iinc 28 3 1)) := (P_157 L xs 25).trans rfl
theorem p_157_28 (L : Nat) (xs : Nat → Int32) : ll_P L xs 157 28 = some (.inl (lo_goto 2)) := (P_157 L xs 28).trans rfl
theorem p_157_31 (L : Nat) (xs : Nat → Int32) : ll_P L xs 157 31 = some (.inl (lo_aload 32 0)) := (P_157 L xs 31).trans rfl
theorem p_157_32 (L : Nat) (xs : Nat → Int32) : ll_P L xs 157 32 = some (.inl (lo_getf 35 11 18)) := (P_157 L xs 32).trans rfl
theorem p_157_35 (L : Nat) (xs : Nat → Int32) : ll_P L xs 157 35 = some (.inl (lo_aload 36 0)) := (P_157 L xs 35).trans rfl
theorem p_157_36 (L : Nat) (xs : Nat → Int32) : ll_P L xs 157 36 = some (.inl (lo_getf 39 11 19)) := (P_157 L xs 36).trans rfl
theorem p_157_39 (L : Nat) (xs : Nat → Int32) : ll_P L xs 157 39 = some (.inl (lo_iload 40 1)) := (P_157 L xs 39).trans rfl
theorem p_157_40 (L : Nat) (xs : Nat → Int32) : ll_P L xs 157 40 = some (.inl (lo_ast 41 0)) := (P_157 L xs 40).trans rfl
theorem p_157_41 (L : Nat) (xs : Nat → Int32) : ll_P L xs 157 41 = some (.inl (lo_aload 42 0)) := (P_157 L xs 41).trans rfl
theorem p_157_42 (L : Nat) (xs : Nat → Int32) : ll_P L xs 157 42 = some (.inl (lo_dup 43)) := (P_157 L xs 42).trans rfl
theorem p_157_43 (L : Nat) (xs : Nat → Int32) : ll_P L xs 157 43 = some (.inl (lo_getf 46 11 19)) := (P_157 L xs 43).trans rfl
theorem p_157_46 (L : Nat) (xs : Nat → Int32) : ll_P L xs 157 46 = some (.inl (lo_push 47 (.int 1))) := (P_157 L xs 46).trans rfl
theorem p_157_47 (L : Nat) (xs : Nat → Int32) : ll_P L xs 157 47 = some (.inl (lo_bin 48 (fun x y => x + y))) := (P_157 L xs 47).trans rfl
theorem p_157_48 (L : Nat) (xs : Nat → Int32) : ll_P L xs 157 48 = some (.inl (lo_putf 51 11 19 0)) := (P_157 L xs 48).trans rfl
theorem p_157_51 (L : Nat) (xs : Nat → Int32) : ll_P L xs 157 51 = some (.inr (.inr 0)) := (P_157 L xs 51).trans rfl
theorem b_157_0 {Y : sY} {d : Nat} {s : sT} {K : Option Int32 → sT → Prop} {r0 : Nat} {x1 : Int32} {x2 : Int32} (h : tT Y d 157 2 [.ref r0, .int x1, .int x2, .int (0 : Int32)] [] s K) : tT Y d 157 0 [.ref r0, .int x1, .int x2, .null] [] s K :=
  (tt_push (p_157_0 _ _)).mpr ((tt_istore (p_157_1 _ _) (Nat.le_of_ble_eq_true rfl) rfl rfl).mpr (h))
theorem b_157_2 {Y : sY} {d : Nat} {s : sT} {K : Option Int32 → sT → Prop} {r0 : Nat} {x1 : Int32} {x2 : Int32} {x3 : Int32} (h : (isO Y r0 11 ∧ (if (s.1 r0 19) ≤ x3 then tT Y d 157 31 [.ref r0, .int x1, .int x2, .int x3] [] s K else (if x2 = 0 then tT Y d 157 31 [.ref r0, .int x1, .int x2, .int x3] [] s K else (∃ a3, (isO Y r0 11 ∧ s.2 r0 18 = some a3) ∧ (∃ m5, (isA Y a3 0 m5 ∧ inR x3 m5) ∧ (if ¬ (s.1 a3 (x3).toNatClampNeg) = x1 then tT Y d 157 2 [.ref r0, .int x1, .int x2, .int (x3 + 1)] [] s K else K none s))))))) : tT Y d 157 2 [.ref r0, .int x1, .int x2, .int x3] [] s K :=
  (tt_iload (p_157_2 _ _) rfl).mpr ((tt_aload (p_157_3 _ _) rfl).mpr (t3_geti (p_157_4 _ _) (isI_11_19) h.1 (t3_cmp (p := (s.1 r0 19) ≤ x3) (p_157_7 _ _) rfl (fun g1 => (ifp h.2 g1)) (fun g1 => (tt_iload (p_157_10 _ _) rfl).mpr (t3_if (p := x2 = 0) (p_157_11 _ _) rfl (fun g2 => (ifp (ifn h.2 g1) g2)) (fun g2 => (tt_aload (p_157_14 _ _) rfl).mpr (Exists.elim (ifn (ifn h.2 g1) g2) (fun a3 h4 => t3_getr (p_157_15 _ _) (isI_11_18) h4.1.1 h4.1.2 ((tt_iload (p_157_18 _ _) rfl).mpr (Exists.elim h4.2 (fun m5 h6 => t3_ald (p_157_19 _ _) h6.1.1 h6.1.2 ((tt_iload (p_157_20 _ _) rfl).mpr (t3_cmp (p := ¬ (s.1 a3 (x3).toNatClampNeg) = x1) (p_157_21 _ _) rfl (fun g7 => (tt_iinc (p_157_25 _ _) rfl rfl rfl).mpr ((tt_goto (p_157_28 _ _)).mpr ((ifp h6.2 g7)))) (fun g7 => tt_ret0 (p_157_24 _ _) (ifn h6.2 g7)))))))))))))))
theorem b_157_31 {Y : sY} {d : Nat} {s : sT} {K : Option Int32 → sT → Prop} {r0 : Nat} {x1 : Int32} {x2 : Int32} {x3 : Int32} (h : (∃ a1, (isO Y r0 11 ∧ s.2 r0 18 = some a1) ∧ (isO Y r0 11 ∧ (∃ m3, (isA Y a1 0 m3 ∧ inR (s.1 r0 19) m3) ∧ (isO Y r0 11 ∧ (isO Y r0 11 ∧ K none (pV (pV s a1 ((s.1 r0 19)).toNatClampNeg x1) r0 19 (((pV s a1 ((s.1 r0 19)).toNatClampNeg x1).1 r0 19) + (1 : Int32))))))))) : tT Y d 157 31 [.ref r0, .int x1, .int x2, .int x3] [] s K :=
  (tt_aload (p_157_31 _ _) rfl).mpr (Exists.elim h (fun a1 h2 => t3_getr (p_157_32 _ _) (isI_11_18) h2.1.1 h2.1.2 ((tt_aload (p_157_35 _ _) rfl).mpr (t3_geti (p_157_36 _ _) (isI_11_19) h2.2.1 ((tt_iload (p_157_39 _ _) rfl).mpr (Exists.elim h2.2.2 (fun m3 h4 => t3_ast (p_157_40 _ _) h4.1.1 h4.1.2 ((tt_aload (p_157_41 _ _) rfl).mpr ((tt_dupr (p_157_42 _ _)).mpr (t3_geti (p_157_43 _ _) (isI_11_19) h4.2.1 ((tt_push (p_157_46 _ _)).mpr ((tt_bin (p_157_47 _ _)).mpr ((t2_puti (p_157_48 _ _) isI_11_19 h4.2.2.1).mpr (tt_ret0 (p_157_51 _ _) h4.2.2.2))))))))))))))
/-! InclusionProverModel.sum.([III)I -/
theorem p_158_0 (L : Nat) (xs : Nat → Int32) : ll_P L xs 158 0 = some (.inl (lo_aload 1 0)) := (P_158 L xs 0).trans rfl
theorem p_158_1 (L : Nat) (xs : Nat → Int32) : ll_P L xs 158 1 = some (.inl (lo_push 2 (.int 0))) := (P_158 L xs 1).trans rfl
theorem p_158_2 (L : Nat) (xs : Nat → Int32) : ll_P L xs 158 2 = some (.inl (lo_putf 5 11 19 0)) := (P_158 L xs 2).trans rfl
theorem p_158_5 (L : Nat) (xs : Nat → Int32) : ll_P L xs 158 5 = some (.inl (lo_push 6 (.int 0))) := (P_158 L xs 5).trans rfl
theorem p_158_6 (L : Nat) (xs : Nat → Int32) : ll_P L xs 158 6 = some (.inl (lo_istore 8 4)) := (P_158 L xs 6).trans rfl
theorem p_158_8 (L : Nat) (xs : Nat → Int32) : ll_P L xs 158 8 = some (.inl (lo_iload 10 4)) := (P_158 L xs 8).trans rfl
theorem p_158_10 (L : Nat) (xs : Nat → Int32) : ll_P L xs 158 10 = some (.inl (lo_iload 11 3)) := (P_158 L xs 10).trans rfl
theorem p_158_11 (L : Nat) (xs : Nat → Int32) : ll_P L xs 158 11 = some (.inl (lo_cmp 100 14 (fun x y => decide (y ≤ x)))) := (P_158 L xs 11).trans rfl
theorem p_158_14 (L : Nat) (xs : Nat → Int32) : ll_P L xs 158 14 = some (.inl (lo_aload 15 1)) := (P_158 L xs 14).trans rfl
theorem p_158_15 (L : Nat) (xs : Nat → Int32) : ll_P L xs 158 15 = some (.inl (lo_iload 16 2)) := (P_158 L xs 15).trans rfl
theorem p_158_16 (L : Nat) (xs : Nat → Int32) : ll_P L xs 158 16 = some (.inl (lo_iload 18 4)) := (P_158 L xs 16).trans rfl
theorem p_158_18 (L : Nat) (xs : Nat → Int32) : ll_P L xs 158 18 = some (.inl (lo_bin 19 (fun x y => x + y))) := (P_158 L xs 18).trans rfl
theorem p_158_19 (L : Nat) (xs : Nat → Int32) : ll_P L xs 158 19 = some (.inl (lo_ald 20 0)) := (P_158 L xs 19).trans rfl
theorem p_158_20 (L : Nat) (xs : Nat → Int32) : ll_P L xs 158 20 = some (.inl (lo_istore 22 5)) := (P_158 L xs 20).trans rfl
theorem p_158_22 (L : Nat) (xs : Nat → Int32) : ll_P L xs 158 22 = some (.inl (lo_aload 23 0)) := (P_158 L xs 22).trans rfl
theorem p_158_23 (L : Nat) (xs : Nat → Int32) : ll_P L xs 158 23 = some (.inl (lo_getf 26 11 5)) := (P_158 L xs 23).trans rfl
theorem p_158_26 (L : Nat) (xs : Nat → Int32) : ll_P L xs 158 26 = some (.inl (lo_iload 28 5)) := (P_158 L xs 26).trans rfl
theorem p_158_28 (L : Nat) (xs : Nat → Int32) : ll_P L xs 158 28 = some (.inl (lo_ald 29 0)) := (P_158 L xs 28).trans rfl
theorem p_158_29 (L : Nat) (xs : Nat → Int32) : ll_P L xs 158 29 = some (.inl (lo_push 30 (.int 3))) := (P_158 L xs 29).trans rfl
theorem p_158_30 (L : Nat) (xs : Nat → Int32) : ll_P L xs 158 30 = some (.inl (lo_cmp 77 33 (fun x y => decide (¬ x = y)))) := (P_158 L xs 30).trans rfl
theorem p_158_33 (L : Nat) (xs : Nat → Int32) : ll_P L xs 158 33 = some (.inl (lo_push 34 (.int 0))) := (P_158 L xs 33).trans rfl
theorem p_158_34 (L : Nat) (xs : Nat → Int32) : ll_P L xs 158 34 = some (.inl (lo_istore 36 6)) := (P_158 L xs 34).trans rfl
theorem p_158_36 (L : Nat) (xs : Nat → Int32) : ll_P L xs 158 36 = some (.inl (lo_iload 38 6)) := (P_158 L xs 36).trans rfl
theorem p_158_38 (L : Nat) (xs : Nat → Int32) : ll_P L xs 158 38 = some (.inl (lo_aload 39 0)) := (P_158 L xs 38).trans rfl
theorem p_158_39 (L : Nat) (xs : Nat → Int32) : ll_P L xs 158 39 = some (.inl (lo_getf 42 11 7)) := (P_158 L xs 39).trans rfl
theorem p_158_42 (L : Nat) (xs : Nat → Int32) : ll_P L xs 158 42 = some (.inl (lo_iload 44 5)) := (P_158 L xs 42).trans rfl
theorem p_158_44 (L : Nat) (xs : Nat → Int32) : ll_P L xs 158 44 = some (.inl (lo_ald 45 0)) := (P_158 L xs 44).trans rfl
theorem p_158_45 (L : Nat) (xs : Nat → Int32) : ll_P L xs 158 45 = some (.inl (lo_cmp 74 48 (fun x y => decide (y ≤ x)))) := (P_158 L xs 45).trans rfl
theorem p_158_48 (L : Nat) (xs : Nat → Int32) : ll_P L xs 158 48 = some (.inl (lo_aload 49 0)) := (P_158 L xs 48).trans rfl
theorem p_158_49 (L : Nat) (xs : Nat → Int32) : ll_P L xs 158 49 = some (.inl (lo_aload 50 0)) := (P_158 L xs 49).trans rfl
theorem p_158_50 (L : Nat) (xs : Nat → Int32) : ll_P L xs 158 50 = some (.inl (lo_getf 53 11 10)) := (P_158 L xs 50).trans rfl
theorem p_158_53 (L : Nat) (xs : Nat → Int32) : ll_P L xs 158 53 = some (.inl (lo_aload 54 0)) := (P_158 L xs 53).trans rfl
theorem p_158_54 (L : Nat) (xs : Nat → Int32) : ll_P L xs 158 54 = some (.inl (lo_getf 57 11 6)) := (P_158 L xs 54).trans rfl
theorem p_158_57 (L : Nat) (xs : Nat → Int32) : ll_P L xs 158 57 = some (.inl (lo_iload 59 5)) := (P_158 L xs 57).trans rfl
theorem p_158_59 (L : Nat) (xs : Nat → Int32) : ll_P L xs 158 59 = some (.inl (lo_ald 60 0)) := (P_158 L xs 59).trans rfl
theorem p_158_60 (L : Nat) (xs : Nat → Int32) : ll_P L xs 158 60 = some (.inl (lo_iload 62 6)) := (P_158 L xs 60).trans rfl
theorem p_158_62 (L : Nat) (xs : Nat → Int32) : ll_P L xs 158 62 = some (.inl (lo_bin 63 (fun x y => x + y))) := (P_158 L xs 62).trans rfl
theorem p_158_63 (L : Nat) (xs : Nat → Int32) : ll_P L xs 158 63 = some (.inl (lo_ald 64 0)) := (P_158 L xs 63).trans rfl
theorem p_158_64 (L : Nat) (xs : Nat → Int32) : ll_P L xs 158 64 = some (.inl (lo_push 65 (.int 1))) := (P_158 L xs 64).trans rfl
theorem p_158_65 (L : Nat) (xs : Nat → Int32) : ll_P L xs 158 65 = some (.inr (.inl (157, 3, 68))) := (P_158 L xs 65).trans rfl
theorem p_158_68 (L : Nat) (xs : Nat → Int32) : ll_P L xs 158 68 = some (.inl (lo_iinc 71 6 1)) := (P_158 L xs 68).trans rfl
theorem p_158_71 (L : Nat) (xs : Nat → Int32) : ll_P L xs 158 71 = some (.inl (lo_goto 36)) := (P_158 L xs 71).trans rfl
theorem p_158_74 (L : Nat) (xs : Nat → Int32) : ll_P L xs 158 74 = some (.inl (lo_goto 94)) := (P_158 L xs 74).trans rfl
theorem p_158_77 (L : Nat) (xs : Nat → Int32) : ll_P L xs 158 77 = some (.inl (lo_aload 78 0)) := (P_158 L xs 77).trans rfl
theorem p_158_78 (L : Nat) (xs : Nat → Int32) : ll_P L xs 158 78 = some (.inl (lo_getf 81 11 5)) := (P_158 L xs 78).trans rfl
theorem p_158_81 (L : Nat) (xs : Nat → Int32) : ll_P L xs 158 81 = some (.inl (lo_iload 83 5)) := (P_158 L xs 81).trans rfl
theorem p_158_83 (L : Nat) (xs : Nat → Int32) : ll_P L xs 158 83 = some (.inl (lo_ald 84 0)) := (P_158 L xs 83).trans rfl
theorem p_158_84 (L : Nat) (xs : Nat → Int32) : ll_P L xs 158 84 = some (.inl (lo_if 94 87 (fun x => decide (x = 0)))) := (P_158 L xs 84).trans rfl
theorem p_158_87 (L : Nat) (xs : Nat → Int32) : ll_P L xs 158 87 = some (.inl (lo_aload 88 0)) := (P_158 L xs 87).trans rfl
theorem p_158_88 (L : Nat) (xs : Nat → Int32) : ll_P L xs 158 88 = some (.inl (lo_iload 90 5)) := (P_158 L xs 88).trans rfl
theorem p_158_90 (L : Nat) (xs : Nat → Int32) : ll_P L xs 158 90 = some (.inl (lo_push 91 (.int 1))) := (P_158 L xs 90).trans rfl
theorem p_158_91 (L : Nat) (xs : Nat → Int32) : ll_P L xs 158 91 = some (.inr (.inl (157, 3, 94))) := (P_158 L xs 91).trans rfl
theorem p_158_94 (L : Nat) (xs : Nat → Int32) : ll_P L xs 158 94 = some (.inl (lo_iinc 97 4 1)) := (P_158 L xs 94).trans rfl
theorem p_158_97 (L : Nat) (xs : Nat → Int32) : ll_P L xs 158 97 = some (.inl (lo_goto 8)) := (P_158 L xs 97).trans rfl
theorem p_158_100 (L : Nat) (xs : Nat → Int32) : ll_P L xs 158 100 = some (.inl (lo_aload 101 0)) := (P_158 L xs 100).trans rfl
theorem p_158_101 (L : Nat) (xs : Nat → Int32) : ll_P L xs 158 101 = some (.inl (lo_getf 104 11 19)) := (P_158 L xs 101).trans rfl
theorem p_158_104 (L : Nat) (xs : Nat → Int32) : ll_P L xs 158 104 = some (.inl (lo_if 111 107 (fun x => decide (¬ x = 0)))) := (P_158 L xs 104).trans rfl
theorem p_158_107 (L : Nat) (xs : Nat → Int32) : ll_P L xs 158 107 = some (.inl (lo_push 108 (.int 0))) := (P_158 L xs 107).trans rfl
theorem p_158_108 (L : Nat) (xs : Nat → Int32) : ll_P L xs 158 108 = some (.inl (lo_goto 137)) := (P_158 L xs 108).trans rfl
theorem p_158_111 (L : Nat) (xs : Nat → Int32) : ll_P L xs 158 111 = some (.inl (lo_aload 112 0)) := (P_158 L xs 111).trans rfl
theorem p_158_112 (L : Nat) (xs : Nat → Int32) : ll_P L xs 158 112 = some (.inl (lo_getf 115 11 19)) := (P_158 L xs 112).trans rfl
theorem p_158_115 (L : Nat) (xs : Nat → Int32) : ll_P L xs 158 115 = some (.inl (lo_push 116 (.int 1))) := (P_158 L xs 115).trans rfl
theorem p_158_116 (L : Nat) (xs : Nat → Int32) : ll_P L xs 158 116 = some (.inl (lo_cmp 128 119 (fun x y => decide (¬ x = y)))) := (P_158 L xs 116).trans rfl
theorem p_158_119 (L : Nat) (xs : Nat → Int32) : ll_P L xs 158 119 = some (.inl (lo_aload 120 0)) := (P_158 L xs 119).trans rfl
theorem p_158_120 (L : Nat) (xs : Nat → Int32) : ll_P L xs 158 120 = some (.inl (lo_getf 123 11 18)) := (P_158 L xs 120).trans rfl
theorem p_158_123 (L : Nat) (xs : Nat → Int32) : ll_P L xs 158 123 = some (.inl (lo_push 124 (.int 0))) := (P_158 L xs 123).trans rfl
theorem p_158_124 (L : Nat) (xs : Nat → Int32) : ll_P L xs 158 124 = some (.inl (lo_ald 125 0)) := (P_158 L xs 124).trans rfl
theorem p_158_125 (L : Nat) (xs : Nat → Int32) : ll_P L xs 158 125 = some (.inl (lo_goto 137)) := (P_158 L xs 125).trans rfl
theorem p_158_128 (L : Nat) (xs : Nat → Int32) : ll_P L xs 158 128 = some (.inl (lo_aload 129 0)) := (P_158 L xs 128).trans rfl
theorem p_158_129 (L : Nat) (xs : Nat → Int32) : ll_P L xs 158 129 = some (.inl (lo_push 130 (.int 3))) := (P_158 L xs 129).trans rfl
theorem p_158_130 (L : Nat) (xs : Nat → Int32) : ll_P L xs 158 130 = some (.inl (lo_aload 131 0)) := (P_158 L xs 130).trans rfl
theorem p_158_131 (L : Nat) (xs : Nat → Int32) : ll_P L xs 158 131 = some (.inl (lo_getf 134 11 19)) := (P_158 L xs 131).trans rfl
theorem p_158_134 (L : Nat) (xs : Nat → Int32) : ll_P L xs 158 134 = some (.inr (.inl (156, 3, 137))) := (P_158 L xs 134).trans rfl
theorem p_158_137 (L : Nat) (xs : Nat → Int32) : ll_P L xs 158 137 = some (.inr (.inr 1)) := (P_158 L xs 137).trans rfl
theorem b_158_0 {Y : sY} {d : Nat} {s : sT} {K : Option Int32 → sT → Prop} {r0 : Nat} {r1 : Nat} {x2 : Int32} {x3 : Int32} (h : (isO Y r0 11 ∧ tT Y (d + 1) 158 8 [.ref r0, .ref r1, .int x2, .int x3, .int (0 : Int32), .null, .null] [] (pV s r0 19 (0 : Int32)) K)) : tT Y (d + 1) 158 0 [.ref r0, .ref r1, .int x2, .int x3, .null, .null, .null] [] s K :=
  (tt_aload (p_158_0 _ _) rfl).mpr ((tt_push (p_158_1 _ _)).mpr ((t2_puti (p_158_2 _ _) isI_11_19 h.1).mpr ((tt_push (p_158_5 _ _)).mpr ((tt_istore (p_158_6 _ _) (Nat.le_of_ble_eq_true rfl) rfl rfl).mpr (h.2)))))
theorem b_158_8 {Y : sY} {d : Nat} {s : sT} {K : Option Int32 → sT → Prop} {r0 : Nat} {r1 : Nat} {x2 : Int32} {x3 : Int32} {x4 : Int32} {u5 : Value} {u6 : Value} (h : (if x3 ≤ x4 then (isO Y r0 11 ∧ (if ¬ (s.1 r0 19) = 0 then (isO Y r0 11 ∧ (if ¬ (s.1 r0 19) = (1 : Int32) then (isO Y r0 11 ∧ (isO Y r0 11 ∧ tT Y d 156 0 [.ref r0, .int (3 : Int32), .int (s.1 r0 19), .null, .null, .null] [] s (fun r s1 => tT Y (d + 1) 158 137 [.ref r0, .ref r1, .int x2, .int x3, .int x4, u5, u6] ((r.map Value.int).toList ++ []) s1 K))) else (∃ a4, (isO Y r0 11 ∧ s.2 r0 18 = some a4) ∧ (∃ m6, (isA Y a4 0 m6 ∧ inR (0 : Int32) m6) ∧ tT Y (d + 1) 158 137 [.ref r0, .ref r1, .int x2, .int x3, .int x4, u5, u6] [.int (s.1 a4 ((0 : Int32)).toNatClampNeg)] s K)))) else tT Y (d + 1) 158 137 [.ref r0, .ref r1, .int x2, .int x3, .int x4, u5, u6] [.int (0 : Int32)] s K)) else (∃ m8, (isA Y r1 0 m8 ∧ inR (x2 + x4) m8) ∧ (∃ a10, (isO Y r0 11 ∧ s.2 r0 5 = some a10) ∧ (∃ m12, (isA Y a10 0 m12 ∧ inR (s.1 r1 ((x2 + x4)).toNatClampNeg) m12) ∧ (if ¬ (s.1 a10 ((s.1 r1 ((x2 + x4)).toNatClampNeg)).toNatClampNeg) = (3 : Int32) then (∃ a15, (isO Y r0 11 ∧ s.2 r0 5 = some a15) ∧ (∃ m17, (isA Y a15 0 m17 ∧ inR (s.1 r1 ((x2 + x4)).toNatClampNeg) m17) ∧ (if (s.1 a15 ((s.1 r1 ((x2 + x4)).toNatClampNeg)).toNatClampNeg) = 0 then tT Y (d + 1) 158 94 [.ref r0, .ref r1, .int x2, .int x3, .int x4, .int (s.1 r1 ((x2 + x4)).toNatClampNeg), u6] [] s K else (isO Y r0 11 ∧ tT Y d 157 0 [.ref r0, .int (s.1 r1 ((x2 + x4)).toNatClampNeg), .int (1 : Int32), .null] [] s (fun r s1 => tT Y (d + 1) 158 94 [.ref r0, .ref r1, .int x2, .int x3, .int x4, .int (s.1 r1 ((x2 + x4)).toNatClampNeg), u6] ((r.map Value.int).toList ++ []) s1 K))))) else tT Y (d + 1) 158 36 [.ref r0, .ref r1, .int x2, .int x3, .int x4, .int (s.1 r1 ((x2 + x4)).toNatClampNeg), .int (0 : Int32)] [] s K)))))) : tT Y (d + 1) 158 8 [.ref r0, .ref r1, .int x2, .int x3, .int x4, u5, u6] [] s K :=
  (tt_iload (p_158_8 _ _) rfl).mpr ((tt_iload (p_158_10 _ _) rfl).mpr (t3_cmp (p := x3 ≤ x4) (p_158_11 _ _) rfl (fun g1 => (tt_aload (p_158_100 _ _) rfl).mpr (t3_geti (p_158_101 _ _) (isI_11_19) (ifp h g1).1 (t3_if (p := ¬ (s.1 r0 19) = 0) (p_158_104 _ _) rfl (fun g2 => (tt_aload (p_158_111 _ _) rfl).mpr (t3_geti (p_158_112 _ _) (isI_11_19) (ifp (ifp h g1).2 g2).1 ((tt_push (p_158_115 _ _)).mpr (t3_cmp (p := ¬ (s.1 r0 19) = (1 : Int32)) (p_158_116 _ _) rfl (fun g3 => (tt_aload (p_158_128 _ _) rfl).mpr ((tt_push (p_158_129 _ _)).mpr ((tt_aload (p_158_130 _ _) rfl).mpr (t3_geti (p_158_131 _ _) (isI_11_19) (ifp (ifp (ifp h g1).2 g2).2 g3).1 (t2_callv (z := 156) (k := 3) (i := r0) (as := [.int (3 : Int32), .int (s.1 r0 19)]) (rest := []) (p_158_134 _ _) mK_156 mL_156 rfl rfl (Nat.le_of_ble_eq_true rfl) rfl (Nat.le_of_ble_eq_true rfl) (ifp (ifp (ifp h g1).2 g2).2 g3).2.1 (ifp (ifp (ifp h g1).2 g2).2 g3).2.2))))) (fun g3 => (tt_aload (p_158_119 _ _) rfl).mpr (Exists.elim (ifn (ifp (ifp h g1).2 g2).2 g3) (fun a4 h5 => t3_getr (p_158_120 _ _) (isI_11_18) h5.1.1 h5.1.2 ((tt_push (p_158_123 _ _)).mpr (Exists.elim h5.2 (fun m6 h7 => t3_ald (p_158_124 _ _) h7.1.1 h7.1.2 ((tt_goto (p_158_125 _ _)).mpr (h7.2)))))))))))) (fun g2 => (tt_push (p_158_107 _ _)).mpr ((tt_goto (p_158_108 _ _)).mpr ((ifn (ifp h g1).2 g2))))))) (fun g1 => (tt_aload (p_158_14 _ _) rfl).mpr ((tt_iload (p_158_15 _ _) rfl).mpr ((tt_iload (p_158_16 _ _) rfl).mpr ((tt_bin (p_158_18 _ _)).mpr (Exists.elim (ifn h g1) (fun m8 h9 => t3_ald (p_158_19 _ _) h9.1.1 h9.1.2 ((tt_istore (p_158_20 _ _) (Nat.le_of_ble_eq_true rfl) rfl rfl).mpr ((tt_aload (p_158_22 _ _) rfl).mpr (Exists.elim h9.2 (fun a10 h11 => t3_getr (p_158_23 _ _) (isI_11_5) h11.1.1 h11.1.2 ((tt_iload (p_158_26 _ _) rfl).mpr (Exists.elim h11.2 (fun m12 h13 => t3_ald (p_158_28 _ _) h13.1.1 h13.1.2 ((tt_push (p_158_29 _ _)).mpr (t3_cmp (p := ¬ (s.1 a10 ((s.1 r1 ((x2 + x4)).toNatClampNeg)).toNatClampNeg) = (3 : Int32)) (p_158_30 _ _) rfl (fun g14 => (tt_aload (p_158_77 _ _) rfl).mpr (Exists.elim (ifp h13.2 g14) (fun a15 h16 => t3_getr (p_158_78 _ _) (isI_11_5) h16.1.1 h16.1.2 ((tt_iload (p_158_81 _ _) rfl).mpr (Exists.elim h16.2 (fun m17 h18 => t3_ald (p_158_83 _ _) h18.1.1 h18.1.2 (t3_if (p := (s.1 a15 ((s.1 r1 ((x2 + x4)).toNatClampNeg)).toNatClampNeg) = 0) (p_158_84 _ _) rfl (fun g19 => (ifp h18.2 g19)) (fun g19 => (tt_aload (p_158_87 _ _) rfl).mpr ((tt_iload (p_158_88 _ _) rfl).mpr ((tt_push (p_158_90 _ _)).mpr (t2_callv (z := 157) (k := 3) (i := r0) (as := [.int (s.1 r1 ((x2 + x4)).toNatClampNeg), .int (1 : Int32)]) (rest := []) (p_158_91 _ _) mK_157 mL_157 rfl rfl (Nat.le_of_ble_eq_true rfl) rfl (Nat.le_of_ble_eq_true rfl) (ifn h18.2 g19).1 (ifn h18.2 g19).2))))))))))) (fun g14 => (tt_push (p_158_33 _ _)).mpr ((tt_istore (p_158_34 _ _) (Nat.le_of_ble_eq_true rfl) rfl rfl).mpr ((ifn h13.2 g14)))))))))))))))))))))
theorem b_158_36 {Y : sY} {d : Nat} {s : sT} {K : Option Int32 → sT → Prop} {r0 : Nat} {r1 : Nat} {x2 : Int32} {x3 : Int32} {x4 : Int32} {x5 : Int32} {x6 : Int32} (h : (∃ a1, (isO Y r0 11 ∧ s.2 r0 7 = some a1) ∧ (∃ m3, (isA Y a1 0 m3 ∧ inR x5 m3) ∧ (if (s.1 a1 (x5).toNatClampNeg) ≤ x6 then tT Y (d + 1) 158 94 [.ref r0, .ref r1, .int x2, .int x3, .int x4, .int x5, .int x6] [] s K else (∃ a6, (isO Y r0 11 ∧ s.2 r0 10 = some a6) ∧ (∃ a8, (isO Y r0 11 ∧ s.2 r0 6 = some a8) ∧ (∃ m10, (isA Y a8 0 m10 ∧ inR x5 m10) ∧ (∃ m12, (isA Y a6 0 m12 ∧ inR ((s.1 a8 (x5).toNatClampNeg) + x6) m12) ∧ (isO Y r0 11 ∧ tT Y d 157 0 [.ref r0, .int (s.1 a6 (((s.1 a8 (x5).toNatClampNeg) + x6)).toNatClampNeg), .int (1 : Int32), .null] [] s (fun r s1 => tT Y (d + 1) 158 68 [.ref r0, .ref r1, .int x2, .int x3, .int x4, .int x5, .int x6] ((r.map Value.int).toList ++ []) s1 K)))))))))) : tT Y (d + 1) 158 36 [.ref r0, .ref r1, .int x2, .int x3, .int x4, .int x5, .int x6] [] s K :=
  (tt_iload (p_158_36 _ _) rfl).mpr ((tt_aload (p_158_38 _ _) rfl).mpr (Exists.elim h (fun a1 h2 => t3_getr (p_158_39 _ _) (isI_11_7) h2.1.1 h2.1.2 ((tt_iload (p_158_42 _ _) rfl).mpr (Exists.elim h2.2 (fun m3 h4 => t3_ald (p_158_44 _ _) h4.1.1 h4.1.2 (t3_cmp (p := (s.1 a1 (x5).toNatClampNeg) ≤ x6) (p_158_45 _ _) rfl (fun g5 => (tt_goto (p_158_74 _ _)).mpr ((ifp h4.2 g5))) (fun g5 => (tt_aload (p_158_48 _ _) rfl).mpr ((tt_aload (p_158_49 _ _) rfl).mpr (Exists.elim (ifn h4.2 g5) (fun a6 h7 => t3_getr (p_158_50 _ _) (isI_11_10) h7.1.1 h7.1.2 ((tt_aload (p_158_53 _ _) rfl).mpr (Exists.elim h7.2 (fun a8 h9 => t3_getr (p_158_54 _ _) (isI_11_6) h9.1.1 h9.1.2 ((tt_iload (p_158_57 _ _) rfl).mpr (Exists.elim h9.2 (fun m10 h11 => t3_ald (p_158_59 _ _) h11.1.1 h11.1.2 ((tt_iload (p_158_60 _ _) rfl).mpr ((tt_bin (p_158_62 _ _)).mpr (Exists.elim h11.2 (fun m12 h13 => t3_ald (p_158_63 _ _) h13.1.1 h13.1.2 ((tt_push (p_158_64 _ _)).mpr (t2_callv (z := 157) (k := 3) (i := r0) (as := [.int (s.1 a6 (((s.1 a8 (x5).toNatClampNeg) + x6)).toNatClampNeg), .int (1 : Int32)]) (rest := []) (p_158_65 _ _) mK_157 mL_157 rfl rfl (Nat.le_of_ble_eq_true rfl) rfl (Nat.le_of_ble_eq_true rfl) h13.2.1 h13.2.2)))))))))))))))))))))))
theorem b_158_68 {Y : sY} {d : Nat} {s : sT} {K : Option Int32 → sT → Prop} {r0 : Nat} {r1 : Nat} {x2 : Int32} {x3 : Int32} {x4 : Int32} {x5 : Int32} {x6 : Int32} (h : tT Y (d + 1) 158 36 [.ref r0, .ref r1, .int x2, .int x3, .int x4, .int x5, .int (x6 + 1)] [] s K) : tT Y (d + 1) 158 68 [.ref r0, .ref r1, .int x2, .int x3, .int x4, .int x5, .int x6] [] s K :=
  (tt_iinc (p_158_68 _ _) rfl rfl rfl).mpr ((tt_goto (p_158_71 _ _)).mpr (h))
theorem b_158_94 {Y : sY} {d : Nat} {s : sT} {K : Option Int32 → sT → Prop} {r0 : Nat} {r1 : Nat} {x2 : Int32} {x3 : Int32} {x4 : Int32} {x5 : Int32} {u6 : Value} (h : tT Y (d + 1) 158 8 [.ref r0, .ref r1, .int x2, .int x3, .int (x4 + 1), .int x5, u6] [] s K) : tT Y (d + 1) 158 94 [.ref r0, .ref r1, .int x2, .int x3, .int x4, .int x5, u6] [] s K :=
  (tt_iinc (p_158_94 _ _) rfl rfl rfl).mpr ((tt_goto (p_158_97 _ _)).mpr (h))
theorem b_158_137 {Y : sY} {d : Nat} {s : sT} {K : Option Int32 → sT → Prop} {r0 : Nat} {r1 : Nat} {x2 : Int32} {x3 : Int32} {x4 : Int32} {u5 : Value} {u6 : Value} {t0 : Int32} (h : K (some t0) s) : tT Y (d + 1) 158 137 [.ref r0, .ref r1, .int x2, .int x3, .int x4, u5, u6] [.int t0] s K :=
  tt_ret1 (p_158_137 _ _) h
/-! InclusionProverModel.product.([III)I -/
theorem p_159_0 (L : Nat) (xs : Nat → Int32) : ll_P L xs 159 0 = some (.inl (lo_aload 1 0)) := (P_159 L xs 0).trans rfl
theorem p_159_1 (L : Nat) (xs : Nat → Int32) : ll_P L xs 159 1 = some (.inl (lo_push 2 (.int 0))) := (P_159 L xs 1).trans rfl
theorem p_159_2 (L : Nat) (xs : Nat → Int32) : ll_P L xs 159 2 = some (.inl (lo_putf 5 11 19 0)) := (P_159 L xs 2).trans rfl
theorem p_159_5 (L : Nat) (xs : Nat → Int32) : ll_P L xs 159 5 = some (.inl (lo_push 6 (.int 0))) := (P_159 L xs 5).trans rfl
theorem p_159_6 (L : Nat) (xs : Nat → Int32) : ll_P L xs 159 6 = some (.inl (lo_istore 8 4)) := (P_159 L xs 6).trans rfl
theorem p_159_8 (L : Nat) (xs : Nat → Int32) : ll_P L xs 159 8 = some (.inl (lo_iload 10 4)) := (P_159 L xs 8).trans rfl
theorem p_159_10 (L : Nat) (xs : Nat → Int32) : ll_P L xs 159 10 = some (.inl (lo_iload 11 3)) := (P_159 L xs 10).trans rfl
theorem p_159_11 (L : Nat) (xs : Nat → Int32) : ll_P L xs 159 11 = some (.inl (lo_cmp 113 14 (fun x y => decide (y ≤ x)))) := (P_159 L xs 11).trans rfl
theorem p_159_14 (L : Nat) (xs : Nat → Int32) : ll_P L xs 159 14 = some (.inl (lo_aload 15 1)) := (P_159 L xs 14).trans rfl
theorem p_159_15 (L : Nat) (xs : Nat → Int32) : ll_P L xs 159 15 = some (.inl (lo_iload 16 2)) := (P_159 L xs 15).trans rfl
theorem p_159_16 (L : Nat) (xs : Nat → Int32) : ll_P L xs 159 16 = some (.inl (lo_iload 18 4)) := (P_159 L xs 16).trans rfl
theorem p_159_18 (L : Nat) (xs : Nat → Int32) : ll_P L xs 159 18 = some (.inl (lo_bin 19 (fun x y => x + y))) := (P_159 L xs 18).trans rfl
theorem p_159_19 (L : Nat) (xs : Nat → Int32) : ll_P L xs 159 19 = some (.inl (lo_ald 20 0)) := (P_159 L xs 19).trans rfl
theorem p_159_20 (L : Nat) (xs : Nat → Int32) : ll_P L xs 159 20 = some (.inl (lo_istore 22 5)) := (P_159 L xs 20).trans rfl
theorem p_159_22 (L : Nat) (xs : Nat → Int32) : ll_P L xs 159 22 = some (.inl (lo_aload 23 0)) := (P_159 L xs 22).trans rfl
theorem p_159_23 (L : Nat) (xs : Nat → Int32) : ll_P L xs 159 23 = some (.inl (lo_getf 26 11 5)) := (P_159 L xs 23).trans rfl
theorem p_159_26 (L : Nat) (xs : Nat → Int32) : ll_P L xs 159 26 = some (.inl (lo_iload 28 5)) := (P_159 L xs 26).trans rfl
theorem p_159_28 (L : Nat) (xs : Nat → Int32) : ll_P L xs 159 28 = some (.inl (lo_ald 29 0)) := (P_159 L xs 28).trans rfl
theorem p_159_29 (L : Nat) (xs : Nat → Int32) : ll_P L xs 159 29 = some (.inl (lo_if 34 32 (fun x => decide (¬ x = 0)))) := (P_159 L xs 29).trans rfl
theorem p_159_32 (L : Nat) (xs : Nat → Int32) : ll_P L xs 159 32 = some (.inl (lo_push 33 (.int 0))) := (P_159 L xs 32).trans rfl
theorem p_159_33 (L : Nat) (xs : Nat → Int32) : ll_P L xs 159 33 = some (.inr (.inr 1)) := (P_159 L xs 33).trans rfl
theorem p_159_34 (L : Nat) (xs : Nat → Int32) : ll_P L xs 159 34 = some (.inl (lo_aload 35 0)) := (P_159 L xs 34).trans rfl
theorem p_159_35 (L : Nat) (xs : Nat → Int32) : ll_P L xs 159 35 = some (.inl (lo_getf 38 11 5)) := (P_159 L xs 35).trans rfl
theorem p_159_38 (L : Nat) (xs : Nat → Int32) : ll_P L xs 159 38 = some (.inl (lo_iload 40 5)) := (P_159 L xs 38).trans rfl
theorem p_159_40 (L : Nat) (xs : Nat → Int32) : ll_P L xs 159 40 = some (.inl (lo_ald 41 0)) := (P_159 L xs 40).trans rfl
theorem p_159_41 (L : Nat) (xs : Nat → Int32) : ll_P L xs 159 41 = some (.inl (lo_push 42 (.int 4))) := (P_159 L xs 41).trans rfl
theorem p_159_42 (L : Nat) (xs : Nat → Int32) : ll_P L xs 159 42 = some (.inl (lo_cmp 89 45 (fun x y => decide (¬ x = y)))) := (P_159 L xs 42).trans rfl
theorem p_159_45 (L : Nat) (xs : Nat → Int32) : ll_P L xs 159 45 = some (.inl (lo_push 46 (.int 0))) := (P_159 L xs 45).trans rfl
theorem p_159_46 (L : Nat) (xs : Nat → Int32) : ll_P L xs 159 46 = some (.inl (lo_istore 48 6)) := (P_159 L xs 46).trans rfl
theorem p_159_48 (L : Nat) (xs : Nat → Int32) : ll_P L xs 159 48 = some (.inl (lo_iload 50 6)) := (P_159 L xs 48).trans rfl
theorem p_159_50 (L : Nat) (xs : Nat → Int32) : ll_P L xs 159 50 = some (.inl (lo_aload 51 0)) := (P_159 L xs 50).trans rfl
theorem p_159_51 (L : Nat) (xs : Nat → Int32) : ll_P L xs 159 51 = some (.inl (lo_getf 54 11 7)) := (P_159 L xs 51).trans rfl
theorem p_159_54 (L : Nat) (xs : Nat → Int32) : ll_P L xs 159 54 = some (.inl (lo_iload 56 5)) := (P_159 L xs 54).trans rfl
theorem p_159_56 (L : Nat) (xs : Nat → Int32) : ll_P L xs 159 56 = some (.inl (lo_ald 57 0)) := (P_159 L xs 56).trans rfl
theorem p_159_57 (L : Nat) (xs : Nat → Int32) : ll_P L xs 159 57 = some (.inl (lo_cmp 86 60 (fun x y => decide (y ≤ x)))) := (P_159 L xs 57).trans rfl
theorem p_159_60 (L : Nat) (xs : Nat → Int32) : ll_P L xs 159 60 = some (.inl (lo_aload 61 0)) := (P_159 L xs 60).trans rfl
theorem p_159_61 (L : Nat) (xs : Nat → Int32) : ll_P L xs 159 61 = some (.inl (lo_aload 62 0)) := (P_159 L xs 61).trans rfl
theorem p_159_62 (L : Nat) (xs : Nat → Int32) : ll_P L xs 159 62 = some (.inl (lo_getf 65 11 10)) := (P_159 L xs 62).trans rfl
theorem p_159_65 (L : Nat) (xs : Nat → Int32) : ll_P L xs 159 65 = some (.inl (lo_aload 66 0)) := (P_159 L xs 65).trans rfl
theorem p_159_66 (L : Nat) (xs : Nat → Int32) : ll_P L xs 159 66 = some (.inl (lo_getf 69 11 6)) := (P_159 L xs 66).trans rfl
theorem p_159_69 (L : Nat) (xs : Nat → Int32) : ll_P L xs 159 69 = some (.inl (lo_iload 71 5)) := (P_159 L xs 69).trans rfl
theorem p_159_71 (L : Nat) (xs : Nat → Int32) : ll_P L xs 159 71 = some (.inl (lo_ald 72 0)) := (P_159 L xs 71).trans rfl
theorem p_159_72 (L : Nat) (xs : Nat → Int32) : ll_P L xs 159 72 = some (.inl (lo_iload 74 6)) := (P_159 L xs 72).trans rfl
theorem p_159_74 (L : Nat) (xs : Nat → Int32) : ll_P L xs 159 74 = some (.inl (lo_bin 75 (fun x y => x + y))) := (P_159 L xs 74).trans rfl
theorem p_159_75 (L : Nat) (xs : Nat → Int32) : ll_P L xs 159 75 = some (.inl (lo_ald 76 0)) := (P_159 L xs 75).trans rfl
theorem p_159_76 (L : Nat) (xs : Nat → Int32) : ll_P L xs 159 76 = some (.inl (lo_push 77 (.int 0))) := (P_159 L xs 76).trans rfl
theorem p_159_77 (L : Nat) (xs : Nat → Int32) : ll_P L xs 159 77 = some (.inr (.inl (157, 3, 80))) := (P_159 L xs 77).trans rfl
theorem p_159_80 (L : Nat) (xs : Nat → Int32) : ll_P L xs 159 80 = some (.inl (lo_iinc 83 6 1)) := (P_159 L xs 80).trans rfl
theorem p_159_83 (L : Nat) (xs : Nat → Int32) : ll_P L xs 159 83 = some (.inl (lo_goto 48)) := (P_159 L xs 83).trans rfl
theorem p_159_86 (L : Nat) (xs : Nat → Int32) : ll_P L xs 159 86 = some (.inl (lo_goto 107)) := (P_159 L xs 86).trans rfl
theorem p_159_89 (L : Nat) (xs : Nat → Int32) : ll_P L xs 159 89 = some (.inl (lo_aload 90 0)) := (P_159 L xs 89).trans rfl
theorem p_159_90 (L : Nat) (xs : Nat → Int32) : ll_P L xs 159 90 = some (.inl (lo_getf 93 11 5)) := (P_159 L xs 90).trans rfl
theorem p_159_93 (L : Nat) (xs : Nat → Int32) : ll_P L xs 159 93 = some (.inl (lo_iload 95 5)) := (P_159 L xs 93).trans rfl
theorem p_159_95 (L : Nat) (xs : Nat → Int32) : ll_P L xs 159 95 = some (.inl (lo_ald 96 0)) := (P_159 L xs 95).trans rfl
theorem p_159_96 (L : Nat) (xs : Nat → Int32) : ll_P L xs 159 96 = some (.inl (lo_push 97 (.int 1))) := (P_159 L xs 96).trans rfl
theorem p_159_97 (L : Nat) (xs : Nat → Int32) : ll_P L xs 159 97 = some (.inl (lo_cmp 107 100 (fun x y => decide (x = y)))) := (P_159 L xs 97).trans rfl
theorem p_159_100 (L : Nat) (xs : Nat → Int32) : ll_P L xs 159 100 = some (.inl (lo_aload 101 0)) := (P_159 L xs 100).trans rfl
theorem p_159_101 (L : Nat) (xs : Nat → Int32) : ll_P L xs 159 101 = some (.inl (lo_iload 103 5)) := (P_159 L xs 101).trans rfl
theorem p_159_103 (L : Nat) (xs : Nat → Int32) : ll_P L xs 159 103 = some (.inl (lo_push 104 (.int 0))) := (P_159 L xs 103).trans rfl
theorem p_159_104 (L : Nat) (xs : Nat → Int32) : ll_P L xs 159 104 = some (.inr (.inl (157, 3, 107))) := (P_159 L xs 104).trans rfl
theorem p_159_107 (L : Nat) (xs : Nat → Int32) : ll_P L xs 159 107 = some (.inl (lo_iinc 110 4 1)) := (P_159 L xs 107).trans rfl
theorem p_159_110 (L : Nat) (xs : Nat → Int32) : ll_P L xs 159 110 = some (.inl (lo_goto 8)) := (P_159 L xs 110).trans rfl
theorem p_159_113 (L : Nat) (xs : Nat → Int32) : ll_P L xs 159 113 = some (.inl (lo_aload 114 0)) := (P_159 L xs 113).trans rfl
theorem p_159_114 (L : Nat) (xs : Nat → Int32) : ll_P L xs 159 114 = some (.inl (lo_getf 117 11 19)) := (P_159 L xs 114).trans rfl
theorem p_159_117 (L : Nat) (xs : Nat → Int32) : ll_P L xs 159 117 = some (.inl (lo_if 124 120 (fun x => decide (¬ x = 0)))) := (P_159 L xs 117).trans rfl
theorem p_159_120 (L : Nat) (xs : Nat → Int32) : ll_P L xs 159 120 = some (.inl (lo_push 121 (.int 1))) := (P_159 L xs 120).trans rfl
theorem p_159_121 (L : Nat) (xs : Nat → Int32) : ll_P L xs 159 121 = some (.inl (lo_goto 150)) := (P_159 L xs 121).trans rfl
theorem p_159_124 (L : Nat) (xs : Nat → Int32) : ll_P L xs 159 124 = some (.inl (lo_aload 125 0)) := (P_159 L xs 124).trans rfl
theorem p_159_125 (L : Nat) (xs : Nat → Int32) : ll_P L xs 159 125 = some (.inl (lo_getf 128 11 19)) := (P_159 L xs 125).trans rfl
theorem p_159_128 (L : Nat) (xs : Nat → Int32) : ll_P L xs 159 128 = some (.inl (lo_push 129 (.int 1))) := (P_159 L xs 128).trans rfl
theorem p_159_129 (L : Nat) (xs : Nat → Int32) : ll_P L xs 159 129 = some (.inl (lo_cmp 141 132 (fun x y => decide (¬ x = y)))) := (P_159 L xs 129).trans rfl
theorem p_159_132 (L : Nat) (xs : Nat → Int32) : ll_P L xs 159 132 = some (.inl (lo_aload 133 0)) := (P_159 L xs 132).trans rfl
theorem p_159_133 (L : Nat) (xs : Nat → Int32) : ll_P L xs 159 133 = some (.inl (lo_getf 136 11 18)) := (P_159 L xs 133).trans rfl
theorem p_159_136 (L : Nat) (xs : Nat → Int32) : ll_P L xs 159 136 = some (.inl (lo_push 137 (.int 0))) := (P_159 L xs 136).trans rfl
theorem p_159_137 (L : Nat) (xs : Nat → Int32) : ll_P L xs 159 137 = some (.inl (lo_ald 138 0)) := (P_159 L xs 137).trans rfl
theorem p_159_138 (L : Nat) (xs : Nat → Int32) : ll_P L xs 159 138 = some (.inl (lo_goto 150)) := (P_159 L xs 138).trans rfl
theorem p_159_141 (L : Nat) (xs : Nat → Int32) : ll_P L xs 159 141 = some (.inl (lo_aload 142 0)) := (P_159 L xs 141).trans rfl
theorem p_159_142 (L : Nat) (xs : Nat → Int32) : ll_P L xs 159 142 = some (.inl (lo_push 143 (.int 4))) := (P_159 L xs 142).trans rfl
theorem p_159_143 (L : Nat) (xs : Nat → Int32) : ll_P L xs 159 143 = some (.inl (lo_aload 144 0)) := (P_159 L xs 143).trans rfl
theorem p_159_144 (L : Nat) (xs : Nat → Int32) : ll_P L xs 159 144 = some (.inl (lo_getf 147 11 19)) := (P_159 L xs 144).trans rfl
theorem p_159_147 (L : Nat) (xs : Nat → Int32) : ll_P L xs 159 147 = some (.inr (.inl (156, 3, 150))) := (P_159 L xs 147).trans rfl
theorem p_159_150 (L : Nat) (xs : Nat → Int32) : ll_P L xs 159 150 = some (.inr (.inr 1)) := (P_159 L xs 150).trans rfl
theorem b_159_0 {Y : sY} {d : Nat} {s : sT} {K : Option Int32 → sT → Prop} {r0 : Nat} {r1 : Nat} {x2 : Int32} {x3 : Int32} (h : (isO Y r0 11 ∧ tT Y (d + 1) 159 8 [.ref r0, .ref r1, .int x2, .int x3, .int (0 : Int32), .null, .null] [] (pV s r0 19 (0 : Int32)) K)) : tT Y (d + 1) 159 0 [.ref r0, .ref r1, .int x2, .int x3, .null, .null, .null] [] s K :=
  (tt_aload (p_159_0 _ _) rfl).mpr ((tt_push (p_159_1 _ _)).mpr ((t2_puti (p_159_2 _ _) isI_11_19 h.1).mpr ((tt_push (p_159_5 _ _)).mpr ((tt_istore (p_159_6 _ _) (Nat.le_of_ble_eq_true rfl) rfl rfl).mpr (h.2)))))
theorem b_159_8 {Y : sY} {d : Nat} {s : sT} {K : Option Int32 → sT → Prop} {r0 : Nat} {r1 : Nat} {x2 : Int32} {x3 : Int32} {x4 : Int32} {u5 : Value} {u6 : Value} (h : (if x3 ≤ x4 then (isO Y r0 11 ∧ (if ¬ (s.1 r0 19) = 0 then (isO Y r0 11 ∧ (if ¬ (s.1 r0 19) = (1 : Int32) then (isO Y r0 11 ∧ (isO Y r0 11 ∧ tT Y d 156 0 [.ref r0, .int (4 : Int32), .int (s.1 r0 19), .null, .null, .null] [] s (fun r s1 => tT Y (d + 1) 159 150 [.ref r0, .ref r1, .int x2, .int x3, .int x4, u5, u6] ((r.map Value.int).toList ++ []) s1 K))) else (∃ a4, (isO Y r0 11 ∧ s.2 r0 18 = some a4) ∧ (∃ m6, (isA Y a4 0 m6 ∧ inR (0 : Int32) m6) ∧ tT Y (d + 1) 159 150 [.ref r0, .ref r1, .int x2, .int x3, .int x4, u5, u6] [.int (s.1 a4 ((0 : Int32)).toNatClampNeg)] s K)))) else tT Y (d + 1) 159 150 [.ref r0, .ref r1, .int x2, .int x3, .int x4, u5, u6] [.int (1 : Int32)] s K)) else (∃ m8, (isA Y r1 0 m8 ∧ inR (x2 + x4) m8) ∧ (∃ a10, (isO Y r0 11 ∧ s.2 r0 5 = some a10) ∧ (∃ m12, (isA Y a10 0 m12 ∧ inR (s.1 r1 ((x2 + x4)).toNatClampNeg) m12) ∧ (if ¬ (s.1 a10 ((s.1 r1 ((x2 + x4)).toNatClampNeg)).toNatClampNeg) = 0 then (∃ a15, (isO Y r0 11 ∧ s.2 r0 5 = some a15) ∧ (∃ m17, (isA Y a15 0 m17 ∧ inR (s.1 r1 ((x2 + x4)).toNatClampNeg) m17) ∧ (if ¬ (s.1 a15 ((s.1 r1 ((x2 + x4)).toNatClampNeg)).toNatClampNeg) = (4 : Int32) then (∃ a20, (isO Y r0 11 ∧ s.2 r0 5 = some a20) ∧ (∃ m22, (isA Y a20 0 m22 ∧ inR (s.1 r1 ((x2 + x4)).toNatClampNeg) m22) ∧ (if (s.1 a20 ((s.1 r1 ((x2 + x4)).toNatClampNeg)).toNatClampNeg) = (1 : Int32) then tT Y (d + 1) 159 107 [.ref r0, .ref r1, .int x2, .int x3, .int x4, .int (s.1 r1 ((x2 + x4)).toNatClampNeg), u6] [] s K else (isO Y r0 11 ∧ tT Y d 157 0 [.ref r0, .int (s.1 r1 ((x2 + x4)).toNatClampNeg), .int (0 : Int32), .null] [] s (fun r s1 => tT Y (d + 1) 159 107 [.ref r0, .ref r1, .int x2, .int x3, .int x4, .int (s.1 r1 ((x2 + x4)).toNatClampNeg), u6] ((r.map Value.int).toList ++ []) s1 K))))) else tT Y (d + 1) 159 48 [.ref r0, .ref r1, .int x2, .int x3, .int x4, .int (s.1 r1 ((x2 + x4)).toNatClampNeg), .int (0 : Int32)] [] s K))) else K (some (0 : Int32)) s)))))) : tT Y (d + 1) 159 8 [.ref r0, .ref r1, .int x2, .int x3, .int x4, u5, u6] [] s K :=
  (tt_iload (p_159_8 _ _) rfl).mpr ((tt_iload (p_159_10 _ _) rfl).mpr (t3_cmp (p := x3 ≤ x4) (p_159_11 _ _) rfl (fun g1 => (tt_aload (p_159_113 _ _) rfl).mpr (t3_geti (p_159_114 _ _) (isI_11_19) (ifp h g1).1 (t3_if (p := ¬ (s.1 r0 19) = 0) (p_159_117 _ _) rfl (fun g2 => (tt_aload (p_159_124 _ _) rfl).mpr (t3_geti (p_159_125 _ _) (isI_11_19) (ifp (ifp h g1).2 g2).1 ((tt_push (p_159_128 _ _)).mpr (t3_cmp (p := ¬ (s.1 r0 19) = (1 : Int32)) (p_159_129 _ _) rfl (fun g3 => (tt_aload (p_159_141 _ _) rfl).mpr ((tt_push (p_159_142 _ _)).mpr ((tt_aload (p_159_143 _ _) rfl).mpr (t3_geti (p_159_144 _ _) (isI_11_19) (ifp (ifp (ifp h g1).2 g2).2 g3).1 (t2_callv (z := 156) (k := 3) (i := r0) (as := [.int (4 : Int32), .int (s.1 r0 19)]) (rest := []) (p_159_147 _ _) mK_156 mL_156 rfl rfl (Nat.le_of_ble_eq_true rfl) rfl (Nat.le_of_ble_eq_true rfl) (ifp (ifp (ifp h g1).2 g2).2 g3).2.1 (ifp (ifp (ifp h g1).2 g2).2 g3).2.2))))) (fun g3 => (tt_aload (p_159_132 _ _) rfl).mpr (Exists.elim (ifn (ifp (ifp h g1).2 g2).2 g3) (fun a4 h5 => t3_getr (p_159_133 _ _) (isI_11_18) h5.1.1 h5.1.2 ((tt_push (p_159_136 _ _)).mpr (Exists.elim h5.2 (fun m6 h7 => t3_ald (p_159_137 _ _) h7.1.1 h7.1.2 ((tt_goto (p_159_138 _ _)).mpr (h7.2)))))))))))) (fun g2 => (tt_push (p_159_120 _ _)).mpr ((tt_goto (p_159_121 _ _)).mpr ((ifn (ifp h g1).2 g2))))))) (fun g1 => (tt_aload (p_159_14 _ _) rfl).mpr ((tt_iload (p_159_15 _ _) rfl).mpr ((tt_iload (p_159_16 _ _) rfl).mpr ((tt_bin (p_159_18 _ _)).mpr (Exists.elim (ifn h g1) (fun m8 h9 => t3_ald (p_159_19 _ _) h9.1.1 h9.1.2 ((tt_istore (p_159_20 _ _) (Nat.le_of_ble_eq_true rfl) rfl rfl).mpr ((tt_aload (p_159_22 _ _) rfl).mpr (Exists.elim h9.2 (fun a10 h11 => t3_getr (p_159_23 _ _) (isI_11_5) h11.1.1 h11.1.2 ((tt_iload (p_159_26 _ _) rfl).mpr (Exists.elim h11.2 (fun m12 h13 => t3_ald (p_159_28 _ _) h13.1.1 h13.1.2 (t3_if (p := ¬ (s.1 a10 ((s.1 r1 ((x2 + x4)).toNatClampNeg)).toNatClampNeg) = 0) (p_159_29 _ _) rfl (fun g14 => (tt_aload (p_159_34 _ _) rfl).mpr (Exists.elim (ifp h13.2 g14) (fun a15 h16 => t3_getr (p_159_35 _ _) (isI_11_5) h16.1.1 h16.1.2 ((tt_iload (p_159_38 _ _) rfl).mpr (Exists.elim h16.2 (fun m17 h18 => t3_ald (p_159_40 _ _) h18.1.1 h18.1.2 ((tt_push (p_159_41 _ _)).mpr (t3_cmp (p := ¬ (s.1 a15 ((s.1 r1 ((x2 + x4)).toNatClampNeg)).toNatClampNeg) = (4 : Int32)) (p_159_42 _ _) rfl (fun g19 => (tt_aload (p_159_89 _ _) rfl).mpr (Exists.elim (ifp h18.2 g19) (fun a20 h21 => t3_getr (p_159_90 _ _) (isI_11_5) h21.1.1 h21.1.2 ((tt_iload (p_159_93 _ _) rfl).mpr (Exists.elim h21.2 (fun m22 h23 => t3_ald (p_159_95 _ _) h23.1.1 h23.1.2 ((tt_push (p_159_96 _ _)).mpr (t3_cmp (p := (s.1 a20 ((s.1 r1 ((x2 + x4)).toNatClampNeg)).toNatClampNeg) = (1 : Int32)) (p_159_97 _ _) rfl (fun g24 => (ifp h23.2 g24)) (fun g24 => (tt_aload (p_159_100 _ _) rfl).mpr ((tt_iload (p_159_101 _ _) rfl).mpr ((tt_push (p_159_103 _ _)).mpr (t2_callv (z := 157) (k := 3) (i := r0) (as := [.int (s.1 r1 ((x2 + x4)).toNatClampNeg), .int (0 : Int32)]) (rest := []) (p_159_104 _ _) mK_157 mL_157 rfl rfl (Nat.le_of_ble_eq_true rfl) rfl (Nat.le_of_ble_eq_true rfl) (ifn h23.2 g24).1 (ifn h23.2 g24).2)))))))))))) (fun g19 => (tt_push (p_159_45 _ _)).mpr ((tt_istore (p_159_46 _ _) (Nat.le_of_ble_eq_true rfl) rfl rfl).mpr ((ifn h18.2 g19)))))))))))) (fun g14 => (tt_push (p_159_32 _ _)).mpr (tt_ret1 (p_159_33 _ _) (ifn h13.2 g14)))))))))))))))))))
theorem b_159_48 {Y : sY} {d : Nat} {s : sT} {K : Option Int32 → sT → Prop} {r0 : Nat} {r1 : Nat} {x2 : Int32} {x3 : Int32} {x4 : Int32} {x5 : Int32} {x6 : Int32} (h : (∃ a1, (isO Y r0 11 ∧ s.2 r0 7 = some a1) ∧ (∃ m3, (isA Y a1 0 m3 ∧ inR x5 m3) ∧ (if (s.1 a1 (x5).toNatClampNeg) ≤ x6 then tT Y (d + 1) 159 107 [.ref r0, .ref r1, .int x2, .int x3, .int x4, .int x5, .int x6] [] s K else (∃ a6, (isO Y r0 11 ∧ s.2 r0 10 = some a6) ∧ (∃ a8, (isO Y r0 11 ∧ s.2 r0 6 = some a8) ∧ (∃ m10, (isA Y a8 0 m10 ∧ inR x5 m10) ∧ (∃ m12, (isA Y a6 0 m12 ∧ inR ((s.1 a8 (x5).toNatClampNeg) + x6) m12) ∧ (isO Y r0 11 ∧ tT Y d 157 0 [.ref r0, .int (s.1 a6 (((s.1 a8 (x5).toNatClampNeg) + x6)).toNatClampNeg), .int (0 : Int32), .null] [] s (fun r s1 => tT Y (d + 1) 159 80 [.ref r0, .ref r1, .int x2, .int x3, .int x4, .int x5, .int x6] ((r.map Value.int).toList ++ []) s1 K)))))))))) : tT Y (d + 1) 159 48 [.ref r0, .ref r1, .int x2, .int x3, .int x4, .int x5, .int x6] [] s K :=
  (tt_iload (p_159_48 _ _) rfl).mpr ((tt_aload (p_159_50 _ _) rfl).mpr (Exists.elim h (fun a1 h2 => t3_getr (p_159_51 _ _) (isI_11_7) h2.1.1 h2.1.2 ((tt_iload (p_159_54 _ _) rfl).mpr (Exists.elim h2.2 (fun m3 h4 => t3_ald (p_159_56 _ _) h4.1.1 h4.1.2 (t3_cmp (p := (s.1 a1 (x5).toNatClampNeg) ≤ x6) (p_159_57 _ _) rfl (fun g5 => (tt_goto (p_159_86 _ _)).mpr ((ifp h4.2 g5))) (fun g5 => (tt_aload (p_159_60 _ _) rfl).mpr ((tt_aload (p_159_61 _ _) rfl).mpr (Exists.elim (ifn h4.2 g5) (fun a6 h7 => t3_getr (p_159_62 _ _) (isI_11_10) h7.1.1 h7.1.2 ((tt_aload (p_159_65 _ _) rfl).mpr (Exists.elim h7.2 (fun a8 h9 => t3_getr (p_159_66 _ _) (isI_11_6) h9.1.1 h9.1.2 ((tt_iload (p_159_69 _ _) rfl).mpr (Exists.elim h9.2 (fun m10 h11 => t3_ald (p_159_71 _ _) h11.1.1 h11.1.2 ((tt_iload (p_159_72 _ _) rfl).mpr ((tt_bin (p_159_74 _ _)).mpr (Exists.elim h11.2 (fun m12 h13 => t3_ald (p_159_75 _ _) h13.1.1 h13.1.2 ((tt_push (p_159_76 _ _)).mpr (t2_callv (z := 157) (k := 3) (i := r0) (as := [.int (s.1 a6 (((s.1 a8 (x5).toNatClampNeg) + x6)).toNatClampNeg), .int (0 : Int32)]) (rest := []) (p_159_77 _ _) mK_157 mL_157 rfl rfl (Nat.le_of_ble_eq_true rfl) rfl (Nat.le_of_ble_eq_true rfl) h13.2.1 h13.2.2)))))))))))))))))))))))
theorem b_159_80 {Y : sY} {d : Nat} {s : sT} {K : Option Int32 → sT → Prop} {r0 : Nat} {r1 : Nat} {x2 : Int32} {x3 : Int32} {x4 : Int32} {x5 : Int32} {x6 : Int32} (h : tT Y (d + 1) 159 48 [.ref r0, .ref r1, .int x2, .int x3, .int x4, .int x5, .int (x6 + 1)] [] s K) : tT Y (d + 1) 159 80 [.ref r0, .ref r1, .int x2, .int x3, .int x4, .int x5, .int x6] [] s K :=
  (tt_iinc (p_159_80 _ _) rfl rfl rfl).mpr ((tt_goto (p_159_83 _ _)).mpr (h))
theorem b_159_107 {Y : sY} {d : Nat} {s : sT} {K : Option Int32 → sT → Prop} {r0 : Nat} {r1 : Nat} {x2 : Int32} {x3 : Int32} {x4 : Int32} {x5 : Int32} {u6 : Value} (h : tT Y (d + 1) 159 8 [.ref r0, .ref r1, .int x2, .int x3, .int (x4 + 1), .int x5, u6] [] s K) : tT Y (d + 1) 159 107 [.ref r0, .ref r1, .int x2, .int x3, .int x4, .int x5, u6] [] s K :=
  (tt_iinc (p_159_107 _ _) rfl rfl rfl).mpr ((tt_goto (p_159_110 _ _)).mpr (h))
theorem b_159_150 {Y : sY} {d : Nat} {s : sT} {K : Option Int32 → sT → Prop} {r0 : Nat} {r1 : Nat} {x2 : Int32} {x3 : Int32} {x4 : Int32} {u5 : Value} {u6 : Value} {t0 : Int32} (h : K (some t0) s) : tT Y (d + 1) 159 150 [.ref r0, .ref r1, .int x2, .int x3, .int x4, u5, u6] [.int t0] s K :=
  tt_ret1 (p_159_150 _ _) h
/-! InclusionProverModel.star.(I)I -/
theorem p_160_0 (L : Nat) (xs : Nat → Int32) : ll_P L xs 160 0 = some (.inl (lo_aload 1 0)) := (P_160 L xs 0).trans rfl
theorem p_160_1 (L : Nat) (xs : Nat → Int32) : ll_P L xs 160 1 = some (.inl (lo_getf 4 11 5)) := (P_160 L xs 1).trans rfl
theorem p_160_4 (L : Nat) (xs : Nat → Int32) : ll_P L xs 160 4 = some (.inl (lo_iload 5 1)) := (P_160 L xs 4).trans rfl
theorem p_160_5 (L : Nat) (xs : Nat → Int32) : ll_P L xs 160 5 = some (.inl (lo_ald 6 0)) := (P_160 L xs 5).trans rfl
theorem p_160_6 (L : Nat) (xs : Nat → Int32) : ll_P L xs 160 6 = some (.inl (lo_push 7 (.int 2))) := (P_160 L xs 6).trans rfl
theorem p_160_7 (L : Nat) (xs : Nat → Int32) : ll_P L xs 160 7 = some (.inl (lo_cmp 12 10 (fun x y => decide (y ≤ x)))) := (P_160 L xs 7).trans rfl
theorem p_160_10 (L : Nat) (xs : Nat → Int32) : ll_P L xs 160 10 = some (.inl (lo_push 11 (.int 1))) := (P_160 L xs 10).trans rfl
theorem p_160_11 (L : Nat) (xs : Nat → Int32) : ll_P L xs 160 11 = some (.inr (.inr 1)) := (P_160 L xs 11).trans rfl
theorem p_160_12 (L : Nat) (xs : Nat → Int32) : ll_P L xs 160 12 = some (.inl (lo_aload 13 0)) := (P_160 L xs 12).trans rfl
theorem p_160_13 (L : Nat) (xs : Nat → Int32) : ll_P L xs 160 13 = some (.inl (lo_getf 16 11 5)) := (P_160 L xs 13).trans rfl
theorem p_160_16 (L : Nat) (xs : Nat → Int32) : ll_P L xs 160 16 = some (.inl (lo_iload 17 1)) := (P_160 L xs 16).trans rfl
theorem p_160_17 (L : Nat) (xs : Nat → Int32) : ll_P L xs 160 17 = some (.inl (lo_ald 18 0)) := (P_160 L xs 17).trans rfl
theorem p_160_18 (L : Nat) (xs : Nat → Int32) : ll_P L xs 160 18 = some (.inl (lo_push 19 (.int 5))) := (P_160 L xs 18).trans rfl
theorem p_160_19 (L : Nat) (xs : Nat → Int32) : ll_P L xs 160 19 = some (.inl (lo_cmp 24 22 (fun x y => decide (¬ x = y)))) := (P_160 L xs 19).trans rfl
theorem p_160_22 (L : Nat) (xs : Nat → Int32) : ll_P L xs 160 22 = some (.inl (lo_iload 23 1)) := (P_160 L xs 22).trans rfl
theorem p_160_23 (L : Nat) (xs : Nat → Int32) : ll_P L xs 160 23 = some (.inr (.inr 1)) := (P_160 L xs 23).trans rfl
theorem p_160_24 (L : Nat) (xs : Nat → Int32) : ll_P L xs 160 24 = some (.inl (lo_aload 25 0)) := (P_160 L xs 24).trans rfl
theorem p_160_25 (L : Nat) (xs : Nat → Int32) : ll_P L xs 160 25 = some (.inl (lo_getf 28 11 18)) := (P_160 L xs 25).trans rfl
theorem p_160_28 (L : Nat) (xs : Nat → Int32) : ll_P L xs 160 28 = some (.inl (lo_push 29 (.int 0))) := (P_160 L xs 28).trans rfl
theorem p_160_29 (L : Nat) (xs : Nat → Int32) : ll_P L xs 160 29 = some (.inl (lo_iload 30 1)) := (P_160 L xs 29).trans rfl
theorem p_160_30 (L : Nat) (xs : Nat → Int32) : ll_P L xs 160 30 = some (.inl (lo_ast 31 0)) := (P_160 L xs 30).trans rfl
theorem p_160_31 (L : Nat) (xs : Nat → Int32) : ll_P L xs 160 31 = some (.inl (lo_aload 32 0)) := (P_160 L xs 31).trans rfl
theorem p_160_32 (L : Nat) (xs : Nat → Int32) : ll_P L xs 160 32 = some (.inl (lo_push 33 (.int 5))) := (P_160 L xs 32).trans rfl
theorem p_160_33 (L : Nat) (xs : Nat → Int32) : ll_P L xs 160 33 = some (.inl (lo_push 34 (.int 1))) := (P_160 L xs 33).trans rfl
theorem p_160_34 (L : Nat) (xs : Nat → Int32) : ll_P L xs 160 34 = some (.inr (.inl (156, 3, 37))) := (P_160 L xs 34).trans rfl
theorem p_160_37 (L : Nat) (xs : Nat → Int32) : ll_P L xs 160 37 = some (.inr (.inr 1)) := (P_160 L xs 37).trans rfl
theorem b_160_0 {Y : sY} {d : Nat} {s : sT} {K : Option Int32 → sT → Prop} {r0 : Nat} {x1 : Int32} (h : (∃ a1, (isO Y r0 11 ∧ s.2 r0 5 = some a1) ∧ (∃ m3, (isA Y a1 0 m3 ∧ inR x1 m3) ∧ (if (2 : Int32) ≤ (s.1 a1 (x1).toNatClampNeg) then (∃ a6, (isO Y r0 11 ∧ s.2 r0 5 = some a6) ∧ (∃ m8, (isA Y a6 0 m8 ∧ inR x1 m8) ∧ (if ¬ (s.1 a6 (x1).toNatClampNeg) = (5 : Int32) then (∃ a11, (isO Y r0 11 ∧ s.2 r0 18 = some a11) ∧ (∃ m13, (isA Y a11 0 m13 ∧ inR (0 : Int32) m13) ∧ (isO Y r0 11 ∧ tT Y d 156 0 [.ref r0, .int (5 : Int32), .int (1 : Int32), .null, .null, .null] [] (pV s a11 ((0 : Int32)).toNatClampNeg x1) (fun r s1 => tT Y (d + 1) 160 37 [.ref r0, .int x1] ((r.map Value.int).toList ++ []) s1 K)))) else K (some x1) s))) else K (some (1 : Int32)) s)))) : tT Y (d + 1) 160 0 [.ref r0, .int x1] [] s K :=
  (tt_aload (p_160_0 _ _) rfl).mpr (Exists.elim h (fun a1 h2 => t3_getr (p_160_1 _ _) (isI_11_5) h2.1.1 h2.1.2 ((tt_iload (p_160_4 _ _) rfl).mpr (Exists.elim h2.2 (fun m3 h4 => t3_ald (p_160_5 _ _) h4.1.1 h4.1.2 ((tt_push (p_160_6 _ _)).mpr (t3_cmp (p := (2 : Int32) ≤ (s.1 a1 (x1).toNatClampNeg)) (p_160_7 _ _) rfl (fun g5 => (tt_aload (p_160_12 _ _) rfl).mpr (Exists.elim (ifp h4.2 g5) (fun a6 h7 => t3_getr (p_160_13 _ _) (isI_11_5) h7.1.1 h7.1.2 ((tt_iload (p_160_16 _ _) rfl).mpr (Exists.elim h7.2 (fun m8 h9 => t3_ald (p_160_17 _ _) h9.1.1 h9.1.2 ((tt_push (p_160_18 _ _)).mpr (t3_cmp (p := ¬ (s.1 a6 (x1).toNatClampNeg) = (5 : Int32)) (p_160_19 _ _) rfl (fun g10 => (tt_aload (p_160_24 _ _) rfl).mpr (Exists.elim (ifp h9.2 g10) (fun a11 h12 => t3_getr (p_160_25 _ _) (isI_11_18) h12.1.1 h12.1.2 ((tt_push (p_160_28 _ _)).mpr ((tt_iload (p_160_29 _ _) rfl).mpr (Exists.elim h12.2 (fun m13 h14 => t3_ast (p_160_30 _ _) h14.1.1 h14.1.2 ((tt_aload (p_160_31 _ _) rfl).mpr ((tt_push (p_160_32 _ _)).mpr ((tt_push (p_160_33 _ _)).mpr (t2_callv (z := 156) (k := 3) (i := r0) (as := [.int (5 : Int32), .int (1 : Int32)]) (rest := []) (p_160_34 _ _) mK_156 mL_156 rfl rfl (Nat.le_of_ble_eq_true rfl) rfl (Nat.le_of_ble_eq_true rfl) h14.2.1 h14.2.2))))))))))) (fun g10 => (tt_iload (p_160_22 _ _) rfl).mpr (tt_ret1 (p_160_23 _ _) (ifn h9.2 g10))))))))))) (fun g5 => (tt_push (p_160_10 _ _)).mpr (tt_ret1 (p_160_11 _ _) (ifn h4.2 g5))))))))))
theorem b_160_37 {Y : sY} {d : Nat} {s : sT} {K : Option Int32 → sT → Prop} {r0 : Nat} {x1 : Int32} {t0 : Int32} (h : K (some t0) s) : tT Y (d + 1) 160 37 [.ref r0, .int x1] [.int t0] s K :=
  tt_ret1 (p_160_37 _ _) h
/-! InclusionProverModel.behind.(III)I -/
theorem p_161_0 (L : Nat) (xs : Nat → Int32) : ll_P L xs 161 0 = some (.inl (lo_aload 1 0)) := (P_161 L xs 0).trans rfl
theorem p_161_1 (L : Nat) (xs : Nat → Int32) : ll_P L xs 161 1 = some (.inl (lo_getf 4 11 20)) := (P_161 L xs 1).trans rfl
theorem p_161_4 (L : Nat) (xs : Nat → Int32) : ll_P L xs 161 4 = some (.inl (lo_push 5 (.int 0))) := (P_161 L xs 4).trans rfl
theorem p_161_5 (L : Nat) (xs : Nat → Int32) : ll_P L xs 161 5 = some (.inl (lo_iload 6 1)) := (P_161 L xs 5).trans rfl
theorem p_161_6 (L : Nat) (xs : Nat → Int32) : ll_P L xs 161 6 = some (.inl (lo_ast 7 0)) := (P_161 L xs 6).trans rfl
theorem p_161_7 (L : Nat) (xs : Nat → Int32) : ll_P L xs 161 7 = some (.inl (lo_aload 8 0)) := (P_161 L xs 7).trans rfl
theorem p_161_8 (L : Nat) (xs : Nat → Int32) : ll_P L xs 161 8 = some (.inl (lo_getf 11 11 7)) := (P_161 L xs 8).trans rfl
theorem p_161_11 (L : Nat) (xs : Nat → Int32) : ll_P L xs 161 11 = some (.inl (lo_iload 12 2)) := (P_161 L xs 11).trans rfl
theorem p_161_12 (L : Nat) (xs : Nat → Int32) : ll_P L xs 161 12 = some (.inl (lo_ald 13 0)) := (P_161 L xs 12).trans rfl
theorem p_161_13 (L : Nat) (xs : Nat → Int32) : ll_P L xs 161 13 = some (.inl (lo_iload 14 3)) := (P_161 L xs 13).trans rfl
theorem p_161_14 (L : Nat) (xs : Nat → Int32) : ll_P L xs 161 14 = some (.inl (lo_bin 15 (fun x y => x - y))) := (P_161 L xs 14).trans rfl
theorem p_161_15 (L : Nat) (xs : Nat → Int32) : ll_P L xs 161 15 = some (.inl (lo_istore 17 4)) := (P_161 L xs 15).trans rfl
theorem p_161_17 (L : Nat) (xs : Nat → Int32) : ll_P L xs 161 17 = some (.inl (lo_push 18 (.int 0))) := (P_161 L xs 17).trans rfl
theorem p_161_18 (L : Nat) (xs : Nat → Int32) : ll_P L xs 161 18 = some (.inl (lo_istore 20 5)) := (P_161 L xs 18).trans rfl
theorem p_161_20 (L : Nat) (xs : Nat → Int32) : ll_P L xs 161 20 = some (.inl (lo_iload 22 5)) := (P_161 L xs 20).trans rfl
theorem p_161_22 (L : Nat) (xs : Nat → Int32) : ll_P L xs 161 22 = some (.inl (lo_iload 24 4)) := (P_161 L xs 22).trans rfl
theorem p_161_24 (L : Nat) (xs : Nat → Int32) : ll_P L xs 161 24 = some (.inl (lo_cmp 58 27 (fun x y => decide (y ≤ x)))) := (P_161 L xs 24).trans rfl
theorem p_161_27 (L : Nat) (xs : Nat → Int32) : ll_P L xs 161 27 = some (.inl (lo_aload 28 0)) := (P_161 L xs 27).trans rfl
theorem p_161_28 (L : Nat) (xs : Nat → Int32) : ll_P L xs 161 28 = some (.inl (lo_getf 31 11 20)) := (P_161 L xs 28).trans rfl
theorem p_161_31 (L : Nat) (xs : Nat → Int32) : ll_P L xs 161 31 = some (.inl (lo_push 32 (.int 1))) := (P_161 L xs 31).trans rfl
theorem p_161_32 (L : Nat) (xs : Nat → Int32) : ll_P L xs 161 32 = some (.inl (lo_iload 34 5)) := (P_161 L xs 32).trans rfl
theorem p_161_34 (L : Nat) (xs : Nat → Int32) : ll_P L xs 161 34 = some (.inl (lo_bin 35 (fun x y => x + y))) := (P_161 L xs 34).trans rfl
theorem p_161_35 (L : Nat) (xs : Nat → Int32) : ll_P L xs 161 35 = some (.inl (lo_aload 36 0)) := (P_161 L xs 35).trans rfl
theorem p_161_36 (L : Nat) (xs : Nat → Int32) : ll_P L xs 161 36 = some (.inl (lo_getf 39 11 10)) := (P_161 L xs 36).trans rfl
theorem p_161_39 (L : Nat) (xs : Nat → Int32) : ll_P L xs 161 39 = some (.inl (lo_aload 40 0)) := (P_161 L xs 39).trans rfl
theorem p_161_40 (L : Nat) (xs : Nat → Int32) : ll_P L xs 161 40 = some (.inl (lo_getf 43 11 6)) := (P_161 L xs 40).trans rfl
theorem p_161_43 (L : Nat) (xs : Nat → Int32) : ll_P L xs 161 43 = some (.inl (lo_iload 44 2)) := (P_161 L xs 43).trans rfl
theorem p_161_44 (L : Nat) (xs : Nat → Int32) : ll_P L xs 161 44 = some (.inl (lo_ald 45 0)) := (P_161 L xs 44).trans rfl
theorem p_161_45 (L : Nat) (xs : Nat → Int32) : ll_P L xs 161 45 = some (.inl (lo_iload 46 3)) := (P_161 L xs 45).trans rfl
theorem p_161_46 (L : Nat) (xs : Nat → Int32) : ll_P L xs 161 46 = some (.inl (lo_bin 47 (fun x y => x + y))) := (P_161 L xs 46).trans rfl
theorem p_161_47 (L : Nat) (xs : Nat → Int32) : ll_P L xs 161 47 = some (.inl (lo_iload 49 5)) := (P_161 L xs 47).trans rfl
theorem p_161_49 (L : Nat) (xs : Nat → Int32) : ll_P L xs 161 49 = some (.inl (lo_bin 50 (fun x y => x + y))) := (P_161 L xs 49).trans rfl
theorem p_161_50 (L : Nat) (xs : Nat → Int32) : ll_P L xs 161 50 = some (.inl (lo_ald 51 0)) := (P_161 L xs 50).trans rfl
theorem p_161_51 (L : Nat) (xs : Nat → Int32) : ll_P L xs 161 51 = some (.inl (lo_ast 52 0)) := (P_161 L xs 51).trans rfl
theorem p_161_52 (L : Nat) (xs : Nat → Int32) : ll_P L xs 161 52 = some (.inl (lo_iinc 55 5 1)) := (P_161 L xs 52).trans rfl
theorem p_161_55 (L : Nat) (xs : Nat → Int32) : ll_P L xs 161 55 = some (.inl (lo_goto 20)) := (P_161 L xs 55).trans rfl
theorem p_161_58 (L : Nat) (xs : Nat → Int32) : ll_P L xs 161 58 = some (.inl (lo_aload 59 0)) := (P_161 L xs 58).trans rfl
theorem p_161_59 (L : Nat) (xs : Nat → Int32) : ll_P L xs 161 59 = some (.inl (lo_aload 60 0)) := (P_161 L xs 59).trans rfl
theorem p_161_60 (L : Nat) (xs : Nat → Int32) : ll_P L xs 161 60 = some (.inl (lo_getf 63 11 20)) := (P_161 L xs 60).trans rfl
theorem p_161_63 (L : Nat) (xs : Nat → Int32) : ll_P L xs 161 63 = some (.inl (lo_push 64 (.int 0))) := (P_161 L xs 63).trans rfl
theorem p_161_64 (L : Nat) (xs : Nat → Int32) : ll_P L xs 161 64 = some (.inl (lo_iload 66 4)) := (P_161 L xs 64).trans rfl
theorem p_161_66 (L : Nat) (xs : Nat → Int32) : ll_P L xs 161 66 = some (.inl (lo_push 67 (.int 1))) := (P_161 L xs 66).trans rfl
theorem p_161_67 (L : Nat) (xs : Nat → Int32) : ll_P L xs 161 67 = some (.inl (lo_bin 68 (fun x y => x + y))) := (P_161 L xs 67).trans rfl
theorem p_161_68 (L : Nat) (xs : Nat → Int32) : ll_P L xs 161 68 = some (.inr (.inl (159, 4, 71))) := (P_161 L xs 68).trans rfl
theorem p_161_71 (L : Nat) (xs : Nat → Int32) : ll_P L xs 161 71 = some (.inr (.inr 1)) := (P_161 L xs 71).trans rfl
theorem b_161_0 {Y : sY} {d : Nat} {s : sT} {K : Option Int32 → sT → Prop} {r0 : Nat} {x1 : Int32} {x2 : Int32} {x3 : Int32} (h : (∃ a1, (isO Y r0 11 ∧ s.2 r0 20 = some a1) ∧ (∃ m3, (isA Y a1 0 m3 ∧ inR (0 : Int32) m3) ∧ (∃ a5, (isO Y r0 11 ∧ (pV s a1 ((0 : Int32)).toNatClampNeg x1).2 r0 7 = some a5) ∧ (∃ m7, (isA Y a5 0 m7 ∧ inR x2 m7) ∧ tT Y (d + 1) 161 20 [.ref r0, .int x1, .int x2, .int x3, .int (((pV s a1 ((0 : Int32)).toNatClampNeg x1).1 a5 (x2).toNatClampNeg) - x3), .int (0 : Int32)] [] (pV s a1 ((0 : Int32)).toNatClampNeg x1) K))))) : tT Y (d + 1) 161 0 [.ref r0, .int x1, .int x2, .int x3, .null, .null] [] s K :=
  (tt_aload (p_161_0 _ _) rfl).mpr (Exists.elim h (fun a1 h2 => t3_getr (p_161_1 _ _) (isI_11_20) h2.1.1 h2.1.2 ((tt_push (p_161_4 _ _)).mpr ((tt_iload (p_161_5 _ _) rfl).mpr (Exists.elim h2.2 (fun m3 h4 => t3_ast (p_161_6 _ _) h4.1.1 h4.1.2 ((tt_aload (p_161_7 _ _) rfl).mpr (Exists.elim h4.2 (fun a5 h6 => t3_getr (p_161_8 _ _) (isI_11_7) h6.1.1 h6.1.2 ((tt_iload (p_161_11 _ _) rfl).mpr (Exists.elim h6.2 (fun m7 h8 => t3_ald (p_161_12 _ _) h8.1.1 h8.1.2 ((tt_iload (p_161_13 _ _) rfl).mpr ((tt_bin (p_161_14 _ _)).mpr ((tt_istore (p_161_15 _ _) (Nat.le_of_ble_eq_true rfl) rfl rfl).mpr ((tt_push (p_161_17 _ _)).mpr ((tt_istore (p_161_18 _ _) (Nat.le_of_ble_eq_true rfl) rfl rfl).mpr (h8.2))))))))))))))))))
theorem b_161_20 {Y : sY} {d : Nat} {s : sT} {K : Option Int32 → sT → Prop} {r0 : Nat} {x1 : Int32} {x2 : Int32} {x3 : Int32} {x4 : Int32} {x5 : Int32} (h : (if x4 ≤ x5 then (∃ a2, (isO Y r0 11 ∧ s.2 r0 20 = some a2) ∧ (isO Y r0 11 ∧ tT Y d 159 0 [.ref r0, .ref a2, .int (0 : Int32), .int (x4 + (1 : Int32)), .null, .null, .null] [] s (fun r s1 => tT Y (d + 1) 161 71 [.ref r0, .int x1, .int x2, .int x3, .int x4, .int x5] ((r.map Value.int).toList ++ []) s1 K))) else (∃ a4, (isO Y r0 11 ∧ s.2 r0 20 = some a4) ∧ (∃ a6, (isO Y r0 11 ∧ s.2 r0 10 = some a6) ∧ (∃ a8, (isO Y r0 11 ∧ s.2 r0 6 = some a8) ∧ (∃ m10, (isA Y a8 0 m10 ∧ inR x2 m10) ∧ (∃ m12, (isA Y a6 0 m12 ∧ inR (((s.1 a8 (x2).toNatClampNeg) + x3) + x5) m12) ∧ (∃ m14, (isA Y a4 0 m14 ∧ inR ((1 : Int32) + x5) m14) ∧ tT Y (d + 1) 161 20 [.ref r0, .int x1, .int x2, .int x3, .int x4, .int (x5 + 1)] [] (pV s a4 (((1 : Int32) + x5)).toNatClampNeg (s.1 a6 ((((s.1 a8 (x2).toNatClampNeg) + x3) + x5)).toNatClampNeg)) K)))))))) : tT Y (d + 1) 161 20 [.ref r0, .int x1, .int x2, .int x3, .int x4, .int x5] [] s K :=
  (tt_iload (p_161_20 _ _) rfl).mpr ((tt_iload (p_161_22 _ _) rfl).mpr (t3_cmp (p := x4 ≤ x5) (p_161_24 _ _) rfl (fun g1 => (tt_aload (p_161_58 _ _) rfl).mpr ((tt_aload (p_161_59 _ _) rfl).mpr (Exists.elim (ifp h g1) (fun a2 h3 => t3_getr (p_161_60 _ _) (isI_11_20) h3.1.1 h3.1.2 ((tt_push (p_161_63 _ _)).mpr ((tt_iload (p_161_64 _ _) rfl).mpr ((tt_push (p_161_66 _ _)).mpr ((tt_bin (p_161_67 _ _)).mpr (t2_callv (z := 159) (k := 4) (i := r0) (as := [.ref a2, .int (0 : Int32), .int (x4 + (1 : Int32))]) (rest := []) (p_161_68 _ _) mK_159 mL_159 rfl rfl (Nat.le_of_ble_eq_true rfl) rfl (Nat.le_of_ble_eq_true rfl) h3.2.1 h3.2.2))))))))) (fun g1 => (tt_aload (p_161_27 _ _) rfl).mpr (Exists.elim (ifn h g1) (fun a4 h5 => t3_getr (p_161_28 _ _) (isI_11_20) h5.1.1 h5.1.2 ((tt_push (p_161_31 _ _)).mpr ((tt_iload (p_161_32 _ _) rfl).mpr ((tt_bin (p_161_34 _ _)).mpr ((tt_aload (p_161_35 _ _) rfl).mpr (Exists.elim h5.2 (fun a6 h7 => t3_getr (p_161_36 _ _) (isI_11_10) h7.1.1 h7.1.2 ((tt_aload (p_161_39 _ _) rfl).mpr (Exists.elim h7.2 (fun a8 h9 => t3_getr (p_161_40 _ _) (isI_11_6) h9.1.1 h9.1.2 ((tt_iload (p_161_43 _ _) rfl).mpr (Exists.elim h9.2 (fun m10 h11 => t3_ald (p_161_44 _ _) h11.1.1 h11.1.2 ((tt_iload (p_161_45 _ _) rfl).mpr ((tt_bin (p_161_46 _ _)).mpr ((tt_iload (p_161_47 _ _) rfl).mpr ((tt_bin (p_161_49 _ _)).mpr (Exists.elim h11.2 (fun m12 h13 => t3_ald (p_161_50 _ _) h13.1.1 h13.1.2 (Exists.elim h13.2 (fun m14 h15 => t3_ast (p_161_51 _ _) h15.1.1 h15.1.2 ((tt_iinc (p_161_52 _ _) rfl rfl rfl).mpr ((tt_goto (p_161_55 _ _)).mpr (h15.2))))))))))))))))))))))))))))
theorem b_161_71 {Y : sY} {d : Nat} {s : sT} {K : Option Int32 → sT → Prop} {r0 : Nat} {x1 : Int32} {x2 : Int32} {x3 : Int32} {x4 : Int32} {x5 : Int32} {t0 : Int32} (h : K (some t0) s) : tT Y (d + 1) 161 71 [.ref r0, .int x1, .int x2, .int x3, .int x4, .int x5] [.int t0] s K :=
  tt_ret1 (p_161_71 _ _) h
/-! InclusionProverModel.opens.()V -/
theorem p_162_0 (L : Nat) (xs : Nat → Int32) : ll_P L xs 162 0 = some (.inl (lo_aload 1 0)) := (P_162 L xs 0).trans rfl
theorem p_162_1 (L : Nat) (xs : Nat → Int32) : ll_P L xs 162 1 = some (.inl (lo_getf 4 11 23)) := (P_162 L xs 1).trans rfl
theorem p_162_4 (L : Nat) (xs : Nat → Int32) : ll_P L xs 162 4 = some (.inl (lo_aload 5 0)) := (P_162 L xs 4).trans rfl
theorem p_162_5 (L : Nat) (xs : Nat → Int32) : ll_P L xs 162 5 = some (.inl (lo_getf 8 11 25)) := (P_162 L xs 5).trans rfl
theorem p_162_8 (L : Nat) (xs : Nat → Int32) : ll_P L xs 162 8 = some (.inl (lo_push 9 (.int 0))) := (P_162 L xs 8).trans rfl
theorem p_162_9 (L : Nat) (xs : Nat → Int32) : ll_P L xs 162 9 = some (.inl (lo_ast 10 0)) := (P_162 L xs 9).trans rfl
theorem p_162_10 (L : Nat) (xs : Nat → Int32) : ll_P L xs 162 10 = some (.inl (lo_aload 11 0)) := (P_162 L xs 10).trans rfl
theorem p_162_11 (L : Nat) (xs : Nat → Int32) : ll_P L xs 162 11 = some (.inl (lo_getf 14 11 24)) := (P_162 L xs 11).trans rfl
theorem p_162_14 (L : Nat) (xs : Nat → Int32) : ll_P L xs 162 14 = some (.inl (lo_aload 15 0)) := (P_162 L xs 14).trans rfl
theorem p_162_15 (L : Nat) (xs : Nat → Int32) : ll_P L xs 162 15 = some (.inl (lo_getf 18 11 25)) := (P_162 L xs 15).trans rfl
theorem p_162_18 (L : Nat) (xs : Nat → Int32) : ll_P L xs 162 18 = some (.inl (lo_push 19 (.int 0))) := (P_162 L xs 18).trans rfl
theorem p_162_19 (L : Nat) (xs : Nat → Int32) : ll_P L xs 162 19 = some (.inl (lo_ast 20 0)) := (P_162 L xs 19).trans rfl
theorem p_162_20 (L : Nat) (xs : Nat → Int32) : ll_P L xs 162 20 = some (.inr (.inr 0)) := (P_162 L xs 20).trans rfl
theorem b_162_0 {Y : sY} {d : Nat} {s : sT} {K : Option Int32 → sT → Prop} {r0 : Nat} (h : (∃ a1, (isO Y r0 11 ∧ s.2 r0 23 = some a1) ∧ (isO Y r0 11 ∧ (∃ m3, (isA Y a1 0 m3 ∧ inR (s.1 r0 25) m3) ∧ (∃ a5, (isO Y r0 11 ∧ (pV s a1 ((s.1 r0 25)).toNatClampNeg (0 : Int32)).2 r0 24 = some a5) ∧ (isO Y r0 11 ∧ (∃ m7, (isA Y a5 0 m7 ∧ inR ((pV s a1 ((s.1 r0 25)).toNatClampNeg (0 : Int32)).1 r0 25) m7) ∧ K none (pV (pV s a1 ((s.1 r0 25)).toNatClampNeg (0 : Int32)) a5 (((pV s a1 ((s.1 r0 25)).toNatClampNeg (0 : Int32)).1 r0 25)).toNatClampNeg (0 : Int32))))))))) : tT Y d 162 0 [.ref r0] [] s K :=
  (tt_aload (p_162_0 _ _) rfl).mpr (Exists.elim h (fun a1 h2 => t3_getr (p_162_1 _ _) (isI_11_23) h2.1.1 h2.1.2 ((tt_aload (p_162_4 _ _) rfl).mpr (t3_geti (p_162_5 _ _) (isI_11_25) h2.2.1 ((tt_push (p_162_8 _ _)).mpr (Exists.elim h2.2.2 (fun m3 h4 => t3_ast (p_162_9 _ _) h4.1.1 h4.1.2 ((tt_aload (p_162_10 _ _) rfl).mpr (Exists.elim h4.2 (fun a5 h6 => t3_getr (p_162_11 _ _) (isI_11_24) h6.1.1 h6.1.2 ((tt_aload (p_162_14 _ _) rfl).mpr (t3_geti (p_162_15 _ _) (isI_11_25) h6.2.1 ((tt_push (p_162_18 _ _)).mpr (Exists.elim h6.2.2 (fun m7 h8 => t3_ast (p_162_19 _ _) h8.1.1 h8.1.2 (tt_ret0 (p_162_20 _ _) h8.2))))))))))))))))
/-! InclusionProverModel.addsFactor.(I)V -/
theorem p_163_0 (L : Nat) (xs : Nat → Int32) : ll_P L xs 163 0 = some (.inl (lo_aload 1 0)) := (P_163 L xs 0).trans rfl
theorem p_163_1 (L : Nat) (xs : Nat → Int32) : ll_P L xs 163 1 = some (.inl (lo_getf 4 11 22)) := (P_163 L xs 1).trans rfl
theorem p_163_4 (L : Nat) (xs : Nat → Int32) : ll_P L xs 163 4 = some (.inl (lo_push 6 (.int 30))) := (P_163 L xs 4).trans rfl
theorem p_163_6 (L : Nat) (xs : Nat → Int32) : ll_P L xs 163 6 = some (.inl (lo_aload 7 0)) := (P_163 L xs 6).trans rfl
theorem p_163_7 (L : Nat) (xs : Nat → Int32) : ll_P L xs 163 7 = some (.inl (lo_getf 10 11 25)) := (P_163 L xs 7).trans rfl
theorem p_163_10 (L : Nat) (xs : Nat → Int32) : ll_P L xs 163 10 = some (.inl (lo_bin 11 (fun x y => x * y))) := (P_163 L xs 10).trans rfl
theorem p_163_11 (L : Nat) (xs : Nat → Int32) : ll_P L xs 163 11 = some (.inl (lo_aload 12 0)) := (P_163 L xs 11).trans rfl
theorem p_163_12 (L : Nat) (xs : Nat → Int32) : ll_P L xs 163 12 = some (.inl (lo_getf 15 11 24)) := (P_163 L xs 12).trans rfl
theorem p_163_15 (L : Nat) (xs : Nat → Int32) : ll_P L xs 163 15 = some (.inl (lo_aload 16 0)) := (P_163 L xs 15).trans rfl
theorem p_163_16 (L : Nat) (xs : Nat → Int32) : ll_P L xs 163 16 = some (.inl (lo_getf 19 11 25)) := (P_163 L xs 16).trans rfl
theorem p_163_19 (L : Nat) (xs : Nat → Int32) : ll_P L xs 163 19 = some (.inl (lo_ald 20 0)) := (P_163 L xs 19).trans rfl
theorem p_163_20 (L : Nat) (xs : Nat → Int32) : ll_P L xs 163 20 = some (.inl (lo_bin 21 (fun x y => x + y))) := (P_163 L xs 20).trans rfl
theorem p_163_21 (L : Nat) (xs : Nat → Int32) : ll_P L xs 163 21 = some (.inl (lo_iload 22 1)) := (P_163 L xs 21).trans rfl
theorem p_163_22 (L : Nat) (xs : Nat → Int32) : ll_P L xs 163 22 = some (.inl (lo_ast 23 0)) := (P_163 L xs 22).trans rfl
theorem p_163_23 (L : Nat) (xs : Nat → Int32) : ll_P L xs 163 23 = some (.inl (lo_aload 24 0)) := (P_163 L xs 23).trans rfl
theorem p_163_24 (L : Nat) (xs : Nat → Int32) : ll_P L xs 163 24 = some (.inl (lo_getf 27 11 24)) := (P_163 L xs 24).trans rfl
theorem p_163_27 (L : Nat) (xs : Nat → Int32) : ll_P L xs 163 27 = some (.inl (lo_aload 28 0)) := (P_163 L xs 27).trans rfl
theorem p_163_28 (L : Nat) (xs : Nat → Int32) : ll_P L xs 163 28 = some (.inl (lo_getf 31 11 25)) := (P_163 L xs 28).trans rfl
theorem p_163_31 (L : Nat) (xs : Nat → Int32) : ll_P L xs 163 31 = some (.inl (lo_dup2 32)) := (P_163 L xs 31).trans rfl
theorem p_163_32 (L : Nat) (xs : Nat → Int32) : ll_P L xs 163 32 = some (.inl (lo_ald 33 0)) := (P_163 L xs 32).trans rfl
theorem p_163_33 (L : Nat) (xs : Nat → Int32) : ll_P L xs 163 33 = some (.inl (lo_push 34 (.int 1))) := (P_163 L xs 33).trans rfl
theorem p_163_34 (L : Nat) (xs : Nat → Int32) : ll_P L xs 163 34 = some (.inl (lo_bin 35 (fun x y => x + y))) := (P_163 L xs 34).trans rfl
theorem p_163_35 (L : Nat) (xs : Nat → Int32) : ll_P L xs 163 35 = some (.inl (lo_ast 36 0)) := (P_163 L xs 35).trans rfl
theorem p_163_36 (L : Nat) (xs : Nat → Int32) : ll_P L xs 163 36 = some (.inr (.inr 0)) := (P_163 L xs 36).trans rfl
theorem b_163_0 {Y : sY} {d : Nat} {s : sT} {K : Option Int32 → sT → Prop} {r0 : Nat} {x1 : Int32} (h : (∃ a1, (isO Y r0 11 ∧ s.2 r0 22 = some a1) ∧ (isO Y r0 11 ∧ (∃ a3, (isO Y r0 11 ∧ s.2 r0 24 = some a3) ∧ (isO Y r0 11 ∧ (∃ m5, (isA Y a3 0 m5 ∧ inR (s.1 r0 25) m5) ∧ (∃ m7, (isA Y a1 0 m7 ∧ inR (((30 : Int32) * (s.1 r0 25)) + (s.1 a3 ((s.1 r0 25)).toNatClampNeg)) m7) ∧ (∃ a9, (isO Y r0 11 ∧ (pV s a1 ((((30 : Int32) * (s.1 r0 25)) + (s.1 a3 ((s.1 r0 25)).toNatClampNeg))).toNatClampNeg x1).2 r0 24 = some a9) ∧ (isO Y r0 11 ∧ (∃ m11, (isA Y a9 0 m11 ∧ inR ((pV s a1 ((((30 : Int32) * (s.1 r0 25)) + (s.1 a3 ((s.1 r0 25)).toNatClampNeg))).toNatClampNeg x1).1 r0 25) m11) ∧ (∃ m13, (isA Y a9 0 m13 ∧ inR ((pV s a1 ((((30 : Int32) * (s.1 r0 25)) + (s.1 a3 ((s.1 r0 25)).toNatClampNeg))).toNatClampNeg x1).1 r0 25) m13) ∧ K none (pV (pV s a1 ((((30 : Int32) * (s.1 r0 25)) + (s.1 a3 ((s.1 r0 25)).toNatClampNeg))).toNatClampNeg x1) a9 (((pV s a1 ((((30 : Int32) * (s.1 r0 25)) + (s.1 a3 ((s.1 r0 25)).toNatClampNeg))).toNatClampNeg x1).1 r0 25)).toNatClampNeg (((pV s a1 ((((30 : Int32) * (s.1 r0 25)) + (s.1 a3 ((s.1 r0 25)).toNatClampNeg))).toNatClampNeg x1).1 a9 (((pV s a1 ((((30 : Int32) * (s.1 r0 25)) + (s.1 a3 ((s.1 r0 25)).toNatClampNeg))).toNatClampNeg x1).1 r0 25)).toNatClampNeg) + (1 : Int32)))))))))))))) : tT Y d 163 0 [.ref r0, .int x1] [] s K :=
  (tt_aload (p_163_0 _ _) rfl).mpr (Exists.elim h (fun a1 h2 => t3_getr (p_163_1 _ _) (isI_11_22) h2.1.1 h2.1.2 ((tt_push (p_163_4 _ _)).mpr ((tt_aload (p_163_6 _ _) rfl).mpr (t3_geti (p_163_7 _ _) (isI_11_25) h2.2.1 ((tt_bin (p_163_10 _ _)).mpr ((tt_aload (p_163_11 _ _) rfl).mpr (Exists.elim h2.2.2 (fun a3 h4 => t3_getr (p_163_12 _ _) (isI_11_24) h4.1.1 h4.1.2 ((tt_aload (p_163_15 _ _) rfl).mpr (t3_geti (p_163_16 _ _) (isI_11_25) h4.2.1 (Exists.elim h4.2.2 (fun m5 h6 => t3_ald (p_163_19 _ _) h6.1.1 h6.1.2 ((tt_bin (p_163_20 _ _)).mpr ((tt_iload (p_163_21 _ _) rfl).mpr (Exists.elim h6.2 (fun m7 h8 => t3_ast (p_163_22 _ _) h8.1.1 h8.1.2 ((tt_aload (p_163_23 _ _) rfl).mpr (Exists.elim h8.2 (fun a9 h10 => t3_getr (p_163_24 _ _) (isI_11_24) h10.1.1 h10.1.2 ((tt_aload (p_163_27 _ _) rfl).mpr (t3_geti (p_163_28 _ _) (isI_11_25) h10.2.1 ((tt_dup2 (p_163_31 _ _)).mpr (Exists.elim h10.2.2 (fun m11 h12 => t3_ald (p_163_32 _ _) h12.1.1 h12.1.2 ((tt_push (p_163_33 _ _)).mpr ((tt_bin (p_163_34 _ _)).mpr (Exists.elim h12.2 (fun m13 h14 => t3_ast (p_163_35 _ _) h14.1.1 h14.1.2 (tt_ret0 (p_163_36 _ _) h14.2))))))))))))))))))))))))))))))
/-! InclusionProverModel.endsProduct.()V -/
theorem p_164_0 (L : Nat) (xs : Nat → Int32) : ll_P L xs 164 0 = some (.inl (lo_aload 1 0)) := (P_164 L xs 0).trans rfl
theorem p_164_1 (L : Nat) (xs : Nat → Int32) : ll_P L xs 164 1 = some (.inl (lo_getf 4 11 21)) := (P_164 L xs 1).trans rfl
theorem p_164_4 (L : Nat) (xs : Nat → Int32) : ll_P L xs 164 4 = some (.inl (lo_push 6 (.int 30))) := (P_164 L xs 4).trans rfl
theorem p_164_6 (L : Nat) (xs : Nat → Int32) : ll_P L xs 164 6 = some (.inl (lo_aload 7 0)) := (P_164 L xs 6).trans rfl
theorem p_164_7 (L : Nat) (xs : Nat → Int32) : ll_P L xs 164 7 = some (.inl (lo_getf 10 11 25)) := (P_164 L xs 7).trans rfl
theorem p_164_10 (L : Nat) (xs : Nat → Int32) : ll_P L xs 164 10 = some (.inl (lo_bin 11 (fun x y => x * y))) := (P_164 L xs 10).trans rfl
theorem p_164_11 (L : Nat) (xs : Nat → Int32) : ll_P L xs 164 11 = some (.inl (lo_aload 12 0)) := (P_164 L xs 11).trans rfl
theorem p_164_12 (L : Nat) (xs : Nat → Int32) : ll_P L xs 164 12 = some (.inl (lo_getf 15 11 23)) := (P_164 L xs 12).trans rfl
theorem p_164_15 (L : Nat) (xs : Nat → Int32) : ll_P L xs 164 15 = some (.inl (lo_aload 16 0)) := (P_164 L xs 15).trans rfl
theorem p_164_16 (L : Nat) (xs : Nat → Int32) : ll_P L xs 164 16 = some (.inl (lo_getf 19 11 25)) := (P_164 L xs 16).trans rfl
theorem p_164_19 (L : Nat) (xs : Nat → Int32) : ll_P L xs 164 19 = some (.inl (lo_ald 20 0)) := (P_164 L xs 19).trans rfl
theorem p_164_20 (L : Nat) (xs : Nat → Int32) : ll_P L xs 164 20 = some (.inl (lo_bin 21 (fun x y => x + y))) := (P_164 L xs 20).trans rfl
theorem p_164_21 (L : Nat) (xs : Nat → Int32) : ll_P L xs 164 21 = some (.inl (lo_aload 22 0)) := (P_164 L xs 21).trans rfl
theorem p_164_22 (L : Nat) (xs : Nat → Int32) : ll_P L xs 164 22 = some (.inl (lo_aload 23 0)) := (P_164 L xs 22).trans rfl
theorem p_164_23 (L : Nat) (xs : Nat → Int32) : ll_P L xs 164 23 = some (.inl (lo_getf 26 11 22)) := (P_164 L xs 23).trans rfl
theorem p_164_26 (L : Nat) (xs : Nat → Int32) : ll_P L xs 164 26 = some (.inl (lo_push 28 (.int 30))) := (P_164 L xs 26).trans rfl
theorem p_164_28 (L : Nat) (xs : Nat → Int32) : ll_P L xs 164 28 = some (.inl (lo_aload 29 0)) := (P_164 L xs 28).trans rfl
theorem p_164_29 (L : Nat) (xs : Nat → Int32) : ll_P L xs 164 29 = some (.inl (lo_getf 32 11 25)) := (P_164 L xs 29).trans rfl
theorem p_164_32 (L : Nat) (xs : Nat → Int32) : ll_P L xs 164 32 = some (.inl (lo_bin 33 (fun x y => x * y))) := (P_164 L xs 32).trans rfl
theorem p_164_33 (L : Nat) (xs : Nat → Int32) : ll_P L xs 164 33 = some (.inl (lo_aload 34 0)) := (P_164 L xs 33).trans rfl
theorem p_164_34 (L : Nat) (xs : Nat → Int32) : ll_P L xs 164 34 = some (.inl (lo_getf 37 11 24)) := (P_164 L xs 34).trans rfl
theorem p_164_37 (L : Nat) (xs : Nat → Int32) : ll_P L xs 164 37 = some (.inl (lo_aload 38 0)) := (P_164 L xs 37).trans rfl
theorem p_164_38 (L : Nat) (xs : Nat → Int32) : ll_P L xs 164 38 = some (.inl (lo_getf 41 11 25)) := (P_164 L xs 38).trans rfl
theorem p_164_41 (L : Nat) (xs : Nat → Int32) : ll_P L xs 164 41 = some (.inl (lo_ald 42 0)) := (P_164 L xs 41).trans rfl
theorem p_164_42 (L : Nat) (xs : Nat → Int32) : ll_P L xs 164 42 = some (.inr (.inl (159, 4, 45))) := (P_164 L xs 42).trans rfl
theorem p_164_45 (L : Nat) (xs : Nat → Int32) : ll_P L xs 164 45 = some (.inl (lo_ast 46 0)) := (P_164 L xs 45).trans rfl
theorem p_164_46 (L : Nat) (xs : Nat → Int32) : ll_P L xs 164 46 = some (.inl (lo_aload 47 0)) := (P_164 L xs 46).trans rfl
theorem p_164_47 (L : Nat) (xs : Nat → Int32) : ll_P L xs 164 47 = some (.inl (lo_getf 50 11 23)) := (P_164 L xs 47).trans rfl
theorem p_164_50 (L : Nat) (xs : Nat → Int32) : ll_P L xs 164 50 = some (.inl (lo_aload 51 0)) := (P_164 L xs 50).trans rfl
theorem p_164_51 (L : Nat) (xs : Nat → Int32) : ll_P L xs 164 51 = some (.inl (lo_getf 54 11 25)) := (P_164 L xs 51).trans rfl
theorem p_164_54 (L : Nat) (xs : Nat → Int32) : ll_P L xs 164 54 = some (.inl (lo_dup2 55)) := (P_164 L xs 54).trans rfl
theorem p_164_55 (L : Nat) (xs : Nat → Int32) : ll_P L xs 164 55 = some (.inl (lo_ald 56 0)) := (P_164 L xs 55).trans rfl
theorem p_164_56 (L : Nat) (xs : Nat → Int32) : ll_P L xs 164 56 = some (.inl (lo_push 57 (.int 1))) := (P_164 L xs 56).trans rfl
theorem p_164_57 (L : Nat) (xs : Nat → Int32) : ll_P L xs 164 57 = some (.inl (lo_bin 58 (fun x y => x + y))) := (P_164 L xs 57).trans rfl
theorem p_164_58 (L : Nat) (xs : Nat → Int32) : ll_P L xs 164 58 = some (.inl (lo_ast 59 0)) := (P_164 L xs 58).trans rfl
theorem p_164_59 (L : Nat) (xs : Nat → Int32) : ll_P L xs 164 59 = some (.inl (lo_aload 60 0)) := (P_164 L xs 59).trans rfl
theorem p_164_60 (L : Nat) (xs : Nat → Int32) : ll_P L xs 164 60 = some (.inl (lo_getf 63 11 24)) := (P_164 L xs 60).trans rfl
theorem p_164_63 (L : Nat) (xs : Nat → Int32) : ll_P L xs 164 63 = some (.inl (lo_aload 64 0)) := (P_164 L xs 63).trans rfl
theorem p_164_64 (L : Nat) (xs : Nat → Int32) : ll_P L xs 164 64 = some (.inl (lo_getf 67 11 25)) := (P_164 L xs 64).trans rfl
theorem p_164_67 (L : Nat) (xs : Nat → Int32) : ll_P L xs 164 67 = some (.inl (lo_push 68 (.int 0))) := (P_164 L xs 67).trans rfl
theorem p_164_68 (L : Nat) (xs : Nat → Int32) : ll_P L xs 164 68 = some (.inl (lo_ast 69 0)) := (P_164 L xs 68).trans rfl
theorem p_164_69 (L : Nat) (xs : Nat → Int32) : ll_P L xs 164 69 = some (.inr (.inr 0)) := (P_164 L xs 69).trans rfl
theorem b_164_0 {Y : sY} {d : Nat} {s : sT} {K : Option Int32 → sT → Prop} {r0 : Nat} (h : (∃ a1, (isO Y r0 11 ∧ s.2 r0 21 = some a1) ∧ (isO Y r0 11 ∧ (∃ a3, (isO Y r0 11 ∧ s.2 r0 23 = some a3) ∧ (isO Y r0 11 ∧ (∃ m5, (isA Y a3 0 m5 ∧ inR (s.1 r0 25) m5) ∧ (∃ a7, (isO Y r0 11 ∧ s.2 r0 22 = some a7) ∧ (isO Y r0 11 ∧ (∃ a9, (isO Y r0 11 ∧ s.2 r0 24 = some a9) ∧ (isO Y r0 11 ∧ (∃ m11, (isA Y a9 0 m11 ∧ inR (s.1 r0 25) m11) ∧ (isO Y r0 11 ∧ tT Y d 159 0 [.ref r0, .ref a7, .int ((30 : Int32) * (s.1 r0 25)), .int (s.1 a9 ((s.1 r0 25)).toNatClampNeg), .null, .null, .null] [] s (fun r s1 => tT Y (d + 1) 164 45 [.ref r0] ((r.map Value.int).toList ++ [.int (((30 : Int32) * (s.1 r0 25)) + (s.1 a3 ((s.1 r0 25)).toNatClampNeg)), .ref a1]) s1 K))))))))))))) : tT Y (d + 1) 164 0 [.ref r0] [] s K :=
  (tt_aload (p_164_0 _ _) rfl).mpr (Exists.elim h (fun a1 h2 => t3_getr (p_164_1 _ _) (isI_11_21) h2.1.1 h2.1.2 ((tt_push (p_164_4 _ _)).mpr ((tt_aload (p_164_6 _ _) rfl).mpr (t3_geti (p_164_7 _ _) (isI_11_25) h2.2.1 ((tt_bin (p_164_10 _ _)).mpr ((tt_aload (p_164_11 _ _) rfl).mpr (Exists.elim h2.2.2 (fun a3 h4 => t3_getr (p_164_12 _ _) (isI_11_23) h4.1.1 h4.1.2 ((tt_aload (p_164_15 _ _) rfl).mpr (t3_geti (p_164_16 _ _) (isI_11_25) h4.2.1 (Exists.elim h4.2.2 (fun m5 h6 => t3_ald (p_164_19 _ _) h6.1.1 h6.1.2 ((tt_bin (p_164_20 _ _)).mpr ((tt_aload (p_164_21 _ _) rfl).mpr ((tt_aload (p_164_22 _ _) rfl).mpr (Exists.elim h6.2 (fun a7 h8 => t3_getr (p_164_23 _ _) (isI_11_22) h8.1.1 h8.1.2 ((tt_push (p_164_26 _ _)).mpr ((tt_aload (p_164_28 _ _) rfl).mpr (t3_geti (p_164_29 _ _) (isI_11_25) h8.2.1 ((tt_bin (p_164_32 _ _)).mpr ((tt_aload (p_164_33 _ _) rfl).mpr (Exists.elim h8.2.2 (fun a9 h10 => t3_getr (p_164_34 _ _) (isI_11_24) h10.1.1 h10.1.2 ((tt_aload (p_164_37 _ _) rfl).mpr (t3_geti (p_164_38 _ _) (isI_11_25) h10.2.1 (Exists.elim h10.2.2 (fun m11 h12 => t3_ald (p_164_41 _ _) h12.1.1 h12.1.2 (t2_callv (z := 159) (k := 4) (i := r0) (as := [.ref a7, .int ((30 : Int32) * (s.1 r0 25)), .int (s.1 a9 ((s.1 r0 25)).toNatClampNeg)]) (rest := [.int (((30 : Int32) * (s.1 r0 25)) + (s.1 a3 ((s.1 r0 25)).toNatClampNeg)), .ref a1]) (p_164_42 _ _) mK_159 mL_159 rfl rfl (Nat.le_of_ble_eq_true rfl) rfl (Nat.le_of_ble_eq_true rfl) h12.2.1 h12.2.2))))))))))))))))))))))))))))))
theorem b_164_45 {Y : sY} {d : Nat} {s : sT} {K : Option Int32 → sT → Prop} {r0 : Nat} {t0 : Nat} {t1 : Int32} {t2 : Int32} (h : (∃ m1, (isA Y t0 0 m1 ∧ inR t1 m1) ∧ (∃ a3, (isO Y r0 11 ∧ (pV s t0 (t1).toNatClampNeg t2).2 r0 23 = some a3) ∧ (isO Y r0 11 ∧ (∃ m5, (isA Y a3 0 m5 ∧ inR ((pV s t0 (t1).toNatClampNeg t2).1 r0 25) m5) ∧ (∃ m7, (isA Y a3 0 m7 ∧ inR ((pV s t0 (t1).toNatClampNeg t2).1 r0 25) m7) ∧ (∃ a9, (isO Y r0 11 ∧ (pV (pV s t0 (t1).toNatClampNeg t2) a3 (((pV s t0 (t1).toNatClampNeg t2).1 r0 25)).toNatClampNeg (((pV s t0 (t1).toNatClampNeg t2).1 a3 (((pV s t0 (t1).toNatClampNeg t2).1 r0 25)).toNatClampNeg) + (1 : Int32))).2 r0 24 = some a9) ∧ (isO Y r0 11 ∧ (∃ m11, (isA Y a9 0 m11 ∧ inR ((pV (pV s t0 (t1).toNatClampNeg t2) a3 (((pV s t0 (t1).toNatClampNeg t2).1 r0 25)).toNatClampNeg (((pV s t0 (t1).toNatClampNeg t2).1 a3 (((pV s t0 (t1).toNatClampNeg t2).1 r0 25)).toNatClampNeg) + (1 : Int32))).1 r0 25) m11) ∧ K none (pV (pV (pV s t0 (t1).toNatClampNeg t2) a3 (((pV s t0 (t1).toNatClampNeg t2).1 r0 25)).toNatClampNeg (((pV s t0 (t1).toNatClampNeg t2).1 a3 (((pV s t0 (t1).toNatClampNeg t2).1 r0 25)).toNatClampNeg) + (1 : Int32))) a9 (((pV (pV s t0 (t1).toNatClampNeg t2) a3 (((pV s t0 (t1).toNatClampNeg t2).1 r0 25)).toNatClampNeg (((pV s t0 (t1).toNatClampNeg t2).1 a3 (((pV s t0 (t1).toNatClampNeg t2).1 r0 25)).toNatClampNeg) + (1 : Int32))).1 r0 25)).toNatClampNeg (0 : Int32))))))))))) : tT Y (d + 1) 164 45 [.ref r0] [.int t2, .int t1, .ref t0] s K :=
  Exists.elim h (fun m1 h2 => t3_ast (p_164_45 _ _) h2.1.1 h2.1.2 ((tt_aload (p_164_46 _ _) rfl).mpr (Exists.elim h2.2 (fun a3 h4 => t3_getr (p_164_47 _ _) (isI_11_23) h4.1.1 h4.1.2 ((tt_aload (p_164_50 _ _) rfl).mpr (t3_geti (p_164_51 _ _) (isI_11_25) h4.2.1 ((tt_dup2 (p_164_54 _ _)).mpr (Exists.elim h4.2.2 (fun m5 h6 => t3_ald (p_164_55 _ _) h6.1.1 h6.1.2 ((tt_push (p_164_56 _ _)).mpr ((tt_bin (p_164_57 _ _)).mpr (Exists.elim h6.2 (fun m7 h8 => t3_ast (p_164_58 _ _) h8.1.1 h8.1.2 ((tt_aload (p_164_59 _ _) rfl).mpr (Exists.elim h8.2 (fun a9 h10 => t3_getr (p_164_60 _ _) (isI_11_24) h10.1.1 h10.1.2 ((tt_aload (p_164_63 _ _) rfl).mpr (t3_geti (p_164_64 _ _) (isI_11_25) h10.2.1 ((tt_push (p_164_67 _ _)).mpr (Exists.elim h10.2.2 (fun m11 h12 => t3_ast (p_164_68 _ _) h12.1.1 h12.1.2 (tt_ret0 (p_164_69 _ _) h12.2))))))))))))))))))))))
