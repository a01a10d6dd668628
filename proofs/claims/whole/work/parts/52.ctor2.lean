def sx_132 : sT := pV (sx_131) 12 5 (0 : Int32)
theorem kc_102 {L : Nat} {xs : Nat → Int32} {d : Nat} {K : Option Int32 → Nat → Nat → sT → Prop} (h : K none 186 104467 sx_132) : tH L xs 186 104467 (d + 2) 64 0 [.ref 12, .int (0 : Int32), .ref 65, .int (0 : Int32), .null, .null, .null] [] sx_130 K := by
  refine h_push (p_64_0 _ _) ?_
  refine h_istore (ls1 := [.ref 12, .int (0 : Int32), .ref 65, .int (0 : Int32), .int (1 : Int32), .null, .null]) (p_64_1 _ _) (Nat.le_of_ble_eq_true rfl) rfl rfl ?_
  refine h_aload (p_64_3 _ _) rfl ?_
  refine h_geti (x := (1 : Int32)) (p_64_4 _ _) isI_6_5 sh_12 (by decide +kernel) ?_
  refine h_push (p_64_7 _ _) ?_
  refine h_bin (w := (0 : Int32)) (p_64_8 _ _) (by decide) ?_
  refine h_istore (ls1 := [.ref 12, .int (0 : Int32), .ref 65, .int (0 : Int32), .int (1 : Int32), .int (0 : Int32), .null]) (p_64_9 _ _) (Nat.le_of_ble_eq_true rfl) rfl rfl ?_
  refine h_iload (p_64_11 _ _) rfl ?_
  refine h_iload (p_64_13 _ _) rfl ?_
  refine h_cmpF (p_64_14 _ _) (by decide) ?_
  refine h_iload (p_64_17 _ _) rfl ?_
  refine h_ifF (p_64_19 _ _) (by decide) ?_
  refine h_aload (p_64_22 _ _) rfl ?_
  refine h_getr (a := 15) (p_64_23 _ _) isI_6_3 sh_12 (by decide +kernel) ?_
  refine h_iload (p_64_26 _ _) rfl ?_
  refine h_ald (k := 0) (x := (0 : Int32)) (p_64_28 _ _) sh_15 (by decide) (by decide) (by decide +kernel) ?_
  refine h_istore (ls1 := [.ref 12, .int (0 : Int32), .ref 65, .int (0 : Int32), .int (1 : Int32), .int (0 : Int32), .int (0 : Int32)]) (p_64_29 _ _) (Nat.le_of_ble_eq_true rfl) rfl rfl ?_
  refine h_aload (p_64_31 _ _) rfl ?_
  refine h_iload (p_64_32 _ _) rfl ?_
  refine h_puti (p_64_34 _ _) isI_6_5 sh_12 (by decide) ?_
  refine h_aload (p_64_37 _ _) rfl ?_
  refine h_iload (p_64_38 _ _) rfl ?_
  refine h_aload (p_64_40 _ _) rfl ?_
  refine h_iload (p_64_41 _ _) rfl ?_
  refine h_call (z := 65) (i := 12) (as := [.int (0 : Int32), .ref 65, .int (0 : Int32)]) (rest := []) (p_64_42 _ _) mK_65 mL_65 rfl rfl (Nat.le_of_ble_eq_true rfl) rfl (Nat.le_of_ble_eq_true rfl) sh_12 (kc_99 (d := d + 0) ⟨rfl, ?_⟩)
  refine h_aload (p_64_45 _ _) rfl ?_
  refine h_getr (a := 1) (p_64_46 _ _) isI_6_0 sh_12 (by decide +kernel) ?_
  refine h_iload (p_64_49 _ _) rfl ?_
  refine h_callr (x := (0 : Int32)) (z := 86) (i := 1) (as := [.int (0 : Int32)]) (rest := []) (p_64_51 _ _) mK_86 mL_86 rfl rfl (Nat.le_of_ble_eq_true rfl) rfl (Nat.le_of_ble_eq_true rfl) sh_1 (kc_101 (d := d + 0) ⟨rfl, ?_⟩)
  refine h_istore (ls1 := [.ref 12, .int (0 : Int32), .ref 65, .int (0 : Int32), .int (0 : Int32), .int (0 : Int32), .int (0 : Int32)]) (p_64_54 _ _) (Nat.le_of_ble_eq_true rfl) rfl rfl ?_
  refine h_iinc (x1 := (-1 : Int32)) (ls1 := [.ref 12, .int (0 : Int32), .ref 65, .int (0 : Int32), .int (0 : Int32), .int (-1 : Int32), .int (0 : Int32)]) (p_64_56 _ _) rfl rfl (by decide) rfl ?_
  refine h_goto (p_64_59 _ _) ?_
  refine h_iload (p_64_11 _ _) rfl ?_
  refine h_iload (p_64_13 _ _) rfl ?_
  refine h_cmpT (p_64_14 _ _) (by decide) ?_
  refine h_aload (p_64_62 _ _) rfl ?_
  refine h_iload (p_64_63 _ _) rfl ?_
  refine h_puti (p_64_64 _ _) isI_6_5 sh_12 (by decide) ?_
  exact h_ret0 (p_64_67 _ _) h
theorem kc_103 {L : Nat} {xs : Nat → Int32} {d : Nat} {K : Option Int32 → Nat → Nat → sT → Prop} (h : K none 186 104467 sx_132) : tH L xs 186 104467 (d + 3) 63 0 [.ref 12, .int (0 : Int32), .int (2 : Int32), .ref 65, .null] [] sx_126 K := by
  refine h_aload (p_63_0 _ _) rfl ?_
  refine h_push (p_63_1 _ _) ?_
  refine h_iload (p_63_2 _ _) rfl ?_
  refine h_bin (w := (4 : Int32)) (p_63_3 _ _) (by decide) ?_
  refine h_puti (p_63_4 _ _) isI_6_7 sh_12 (by decide) ?_
  refine h_aload (p_63_7 _ _) rfl ?_
  refine h_iload (p_63_8 _ _) rfl ?_
  refine h_call (z := 41) (i := 65) (as := [.int (2 : Int32)]) (rest := []) (p_63_9 _ _) mK_41 mL_41 rfl rfl (Nat.le_of_ble_eq_true rfl) rfl (Nat.le_of_ble_eq_true rfl) sh_65 (kc_96 (d := d + 2) ⟨rfl, ?_⟩)
  refine h_aload (p_63_12 _ _) rfl ?_
  refine h_push (p_63_13 _ _) ?_
  refine h_puti (p_63_14 _ _) isI_6_5 sh_12 (by decide) ?_
  refine h_aload (p_63_17 _ _) rfl ?_
  refine h_getr (a := 14) (p_63_18 _ _) isI_6_2 sh_12 (by decide +kernel) ?_
  refine h_iload (p_63_21 _ _) rfl ?_
  refine h_ald (k := 0) (x := (1 : Int32)) (p_63_22 _ _) sh_14 (by decide) (by decide) (by decide +kernel) ?_
  refine h_push (p_63_23 _ _) ?_
  refine h_bin (w := (0 : Int32)) (p_63_24 _ _) (by decide) ?_
  refine h_istore (ls1 := [.ref 12, .int (0 : Int32), .int (2 : Int32), .ref 65, .int (0 : Int32)]) (p_63_25 _ _) (Nat.le_of_ble_eq_true rfl) rfl rfl ?_
  refine h_iload (p_63_27 _ _) rfl ?_
  refine h_ifF (p_63_29 _ _) (by decide) ?_
  refine h_aload (p_63_32 _ _) rfl ?_
  refine h_aload (p_63_33 _ _) rfl ?_
  refine h_getr (a := 13) (p_63_34 _ _) isI_6_1 sh_12 (by decide +kernel) ?_
  refine h_iload (p_63_37 _ _) rfl ?_
  refine h_push (p_63_38 _ _) ?_
  refine h_bin (w := (0 : Int32)) (p_63_40 _ _) (by decide) ?_
  refine h_iload (p_63_41 _ _) rfl ?_
  refine h_bin (w := (0 : Int32)) (p_63_43 _ _) (by decide) ?_
  refine h_ald (k := 0) (x := (0 : Int32)) (p_63_44 _ _) sh_13 (by decide) (by decide) (by decide +kernel) ?_
  refine h_call (z := 67) (i := 12) (as := [.int (0 : Int32)]) (rest := []) (p_63_45 _ _) mK_67 mL_67 rfl rfl (Nat.le_of_ble_eq_true rfl) rfl (Nat.le_of_ble_eq_true rfl) sh_12 (kc_97 (d := d + 2) ⟨rfl, ?_⟩)
  refine h_iinc (x1 := (-1 : Int32)) (ls1 := [.ref 12, .int (0 : Int32), .int (2 : Int32), .ref 65, .int (-1 : Int32)]) (p_63_48 _ _) rfl rfl (by decide) rfl ?_
  refine h_goto (p_63_51 _ _) ?_
  refine h_iload (p_63_27 _ _) rfl ?_
  refine h_ifT (p_63_29 _ _) (by decide) ?_
  refine h_aload (p_63_54 _ _) rfl ?_
  refine h_push (p_63_55 _ _) ?_
  refine h_aload (p_63_56 _ _) rfl ?_
  refine h_push (p_63_57 _ _) ?_
  refine h_call (z := 64) (i := 12) (as := [.int (0 : Int32), .ref 65, .int (0 : Int32)]) (rest := []) (p_63_58 _ _) mK_64 mL_64 rfl rfl (Nat.le_of_ble_eq_true rfl) rfl (Nat.le_of_ble_eq_true rfl) sh_12 (kc_102 (d := d + 0) ⟨rfl, ?_⟩)
  exact h_ret0 (p_63_61 _ _) h
def sx_133 : sT := pV (sx_132) 65 6 (1 : Int32)
theorem kc_104 {L : Nat} {xs : Nat → Int32} {d : Nat} {K : Option Int32 → Nat → Nat → sT → Prop} (h : K none 186 104467 sx_133) : tH L xs 186 104467 (d + 0) 43 0 [.ref 65] [] sx_132 K := by
  refine h_aload (p_43_0 _ _) rfl ?_
  refine h_dup (p_43_1 _ _) ?_
  refine h_geti (x := (0 : Int32)) (p_43_2 _ _) isI_5_6 sh_65 (by decide +kernel) ?_
  refine h_push (p_43_5 _ _) ?_
  refine h_bin (w := (1 : Int32)) (p_43_6 _ _) (by decide) ?_
  refine h_puti (p_43_7 _ _) isI_5_6 sh_65 (by decide) ?_
  exact h_ret0 (p_43_10 _ _) h
theorem kc_105 {L : Nat} {xs : Nat → Int32} {d : Nat} {K : Option Int32 → Nat → Nat → sT → Prop} (h : K none 186 104467 sx_133) : tH L xs 186 104467 (d + 4) 61 0 [.ref 12, .int (0 : Int32), .ref 65, .null, .null] [] sx_104 K := by
  refine h_aload (p_61_0 _ _) rfl ?_
  refine h_call (z := 39) (i := 65) (as := []) (rest := []) (p_61_1 _ _) mK_39 mL_39 rfl rfl (Nat.le_of_ble_eq_true rfl) rfl (Nat.le_of_ble_eq_true rfl) sh_65 (kc_61 (d := d + 2) ⟨rfl, ?_⟩)
  refine h_aload (p_61_4 _ _) rfl ?_
  refine h_getr (a := 1) (p_61_5 _ _) isI_6_0 sh_12 (by decide +kernel) ?_
  refine h_iload (p_61_8 _ _) rfl ?_
  refine h_push (p_61_9 _ _) ?_
  refine h_aload (p_61_10 _ _) rfl ?_
  refine h_getr (a := 66) (p_61_11 _ _) isI_5_0 sh_65 (by decide +kernel) ?_
  refine h_call (z := 93) (i := 1) (as := [.int (0 : Int32), .int (0 : Int32), .ref 66]) (rest := []) (p_61_14 _ _) mK_93 mL_93 rfl rfl (Nat.le_of_ble_eq_true rfl) rfl (Nat.le_of_ble_eq_true rfl) sh_1 (kc_65 (d := d + 1) ⟨rfl, ?_⟩)
  refine h_aload (p_61_17 _ _) rfl ?_
  refine h_aload (p_61_18 _ _) rfl ?_
  refine h_getr (a := 1) (p_61_19 _ _) isI_6_0 sh_12 (by decide +kernel) ?_
  refine h_iload (p_61_22 _ _) rfl ?_
  refine h_callr (x := (-1 : Int32)) (z := 84) (i := 1) (as := [.int (0 : Int32)]) (rest := [.ref 65]) (p_61_23 _ _) mK_84 mL_84 rfl rfl (Nat.le_of_ble_eq_true rfl) rfl (Nat.le_of_ble_eq_true rfl) sh_1 (kc_66 (d := d + 3) ⟨rfl, ?_⟩)
  refine h_puti (p_61_26 _ _) isI_5_7 sh_65 (by decide) ?_
  refine h_aload (p_61_29 _ _) rfl ?_
  refine h_aload (p_61_30 _ _) rfl ?_
  refine h_getr (a := 1) (p_61_31 _ _) isI_6_0 sh_12 (by decide +kernel) ?_
  refine h_iload (p_61_34 _ _) rfl ?_
  refine h_callr (x := (0 : Int32)) (z := 85) (i := 1) (as := [.int (0 : Int32)]) (rest := [.ref 65]) (p_61_35 _ _) mK_85 mL_85 rfl rfl (Nat.le_of_ble_eq_true rfl) rfl (Nat.le_of_ble_eq_true rfl) sh_1 (kc_67 (d := d + 3) ⟨rfl, ?_⟩)
  refine h_puti (p_61_38 _ _) isI_5_8 sh_65 (by decide) ?_
  refine h_aload (p_61_41 _ _) rfl ?_
  refine h_push (p_61_42 _ _) ?_
  refine h_puti (p_61_43 _ _) isI_6_6 sh_12 (by decide) ?_
  refine h_aload (p_61_46 _ _) rfl ?_
  refine h_push (p_61_47 _ _) ?_
  refine h_puti (p_61_48 _ _) isI_6_5 sh_12 (by decide) ?_
  refine h_aload (p_61_51 _ _) rfl ?_
  refine h_iload (p_61_52 _ _) rfl ?_
  refine h_call (z := 66) (i := 12) (as := [.int (0 : Int32)]) (rest := []) (p_61_53 _ _) mK_66 mL_66 rfl rfl (Nat.le_of_ble_eq_true rfl) rfl (Nat.le_of_ble_eq_true rfl) sh_12 (kc_70 (d := d + 2) ⟨rfl, ?_⟩)
  refine h_aload (p_61_56 _ _) rfl ?_
  refine h_callr (x := (0 : Int32)) (z := 68) (i := 12) (as := []) (rest := []) (p_61_57 _ _) mK_68 mL_68 rfl rfl (Nat.le_of_ble_eq_true rfl) rfl (Nat.le_of_ble_eq_true rfl) sh_12 (kc_71 (d := d + 3) ⟨rfl, ?_⟩)
  refine h_popi (p_61_60 _ _) ?_
  refine h_push (p_61_61 _ _) ?_
  refine h_istore (ls1 := [.ref 12, .int (0 : Int32), .ref 65, .int (0 : Int32), .null]) (p_61_62 _ _) (Nat.le_of_ble_eq_true rfl) rfl rfl ?_
  refine h_iload (p_61_63 _ _) rfl ?_
  refine h_push (p_61_64 _ _) ?_
  refine h_cmpF (p_61_66 _ _) (by decide) ?_
  refine h_iload (p_61_69 _ _) rfl ?_
  refine h_aload (p_61_70 _ _) rfl ?_
  refine h_geti (x := (1 : Int32)) (p_61_71 _ _) isI_6_6 sh_12 (by decide +kernel) ?_
  refine h_cmpF (p_61_74 _ _) (by decide) ?_
  refine h_aload (p_61_77 _ _) rfl ?_
  refine h_iload (p_61_78 _ _) rfl ?_
  refine h_aload (p_61_79 _ _) rfl ?_
  refine h_call (z := 62) (i := 12) (as := [.int (0 : Int32), .ref 65]) (rest := []) (p_61_80 _ _) mK_62 mL_62 rfl rfl (Nat.le_of_ble_eq_true rfl) rfl (Nat.le_of_ble_eq_true rfl) sh_12 (kc_79 (d := d + 0) ⟨rfl, ?_⟩)
  refine h_push (p_61_83 _ _) ?_
  refine h_istore (ls1 := [.ref 12, .int (0 : Int32), .ref 65, .int (0 : Int32), .int (0 : Int32)]) (p_61_84 _ _) (Nat.le_of_ble_eq_true rfl) rfl rfl ?_
  refine h_iload (p_61_86 _ _) rfl ?_
  refine h_push (p_61_88 _ _) ?_
  refine h_cmpF (p_61_89 _ _) (by decide) ?_
  refine h_aload (p_61_92 _ _) rfl ?_
  refine h_iload (p_61_93 _ _) rfl ?_
  refine h_iload (p_61_94 _ _) rfl ?_
  refine h_aload (p_61_96 _ _) rfl ?_
  refine h_call (z := 63) (i := 12) (as := [.int (0 : Int32), .int (0 : Int32), .ref 65]) (rest := []) (p_61_97 _ _) mK_63 mL_63 rfl rfl (Nat.le_of_ble_eq_true rfl) rfl (Nat.le_of_ble_eq_true rfl) sh_12 (kc_87 (d := d + 0) ⟨rfl, ?_⟩)
  refine h_iinc (x1 := (1 : Int32)) (ls1 := [.ref 12, .int (0 : Int32), .ref 65, .int (0 : Int32), .int (1 : Int32)]) (p_61_100 _ _) rfl rfl (by decide) rfl ?_
  refine h_goto (p_61_103 _ _) ?_
  refine h_iload (p_61_86 _ _) rfl ?_
  refine h_push (p_61_88 _ _) ?_
  refine h_cmpF (p_61_89 _ _) (by decide) ?_
  refine h_aload (p_61_92 _ _) rfl ?_
  refine h_iload (p_61_93 _ _) rfl ?_
  refine h_iload (p_61_94 _ _) rfl ?_
  refine h_aload (p_61_96 _ _) rfl ?_
  refine h_call (z := 63) (i := 12) (as := [.int (0 : Int32), .int (1 : Int32), .ref 65]) (rest := []) (p_61_97 _ _) mK_63 mL_63 rfl rfl (Nat.le_of_ble_eq_true rfl) rfl (Nat.le_of_ble_eq_true rfl) sh_12 (kc_95 (d := d + 0) ⟨rfl, ?_⟩)
  refine h_iinc (x1 := (2 : Int32)) (ls1 := [.ref 12, .int (0 : Int32), .ref 65, .int (0 : Int32), .int (2 : Int32)]) (p_61_100 _ _) rfl rfl (by decide) rfl ?_
  refine h_goto (p_61_103 _ _) ?_
  refine h_iload (p_61_86 _ _) rfl ?_
  refine h_push (p_61_88 _ _) ?_
  refine h_cmpF (p_61_89 _ _) (by decide) ?_
  refine h_aload (p_61_92 _ _) rfl ?_
  refine h_iload (p_61_93 _ _) rfl ?_
  refine h_iload (p_61_94 _ _) rfl ?_
  refine h_aload (p_61_96 _ _) rfl ?_
  refine h_call (z := 63) (i := 12) (as := [.int (0 : Int32), .int (2 : Int32), .ref 65]) (rest := []) (p_61_97 _ _) mK_63 mL_63 rfl rfl (Nat.le_of_ble_eq_true rfl) rfl (Nat.le_of_ble_eq_true rfl) sh_12 (kc_103 (d := d + 0) ⟨rfl, ?_⟩)
  refine h_iinc (x1 := (3 : Int32)) (ls1 := [.ref 12, .int (0 : Int32), .ref 65, .int (0 : Int32), .int (3 : Int32)]) (p_61_100 _ _) rfl rfl (by decide) rfl ?_
  refine h_goto (p_61_103 _ _) ?_
  refine h_iload (p_61_86 _ _) rfl ?_
  refine h_push (p_61_88 _ _) ?_
  refine h_cmpT (p_61_89 _ _) (by decide) ?_
  refine h_aload (p_61_106 _ _) rfl ?_
  refine h_call (z := 43) (i := 65) (as := []) (rest := []) (p_61_107 _ _) mK_43 mL_43 rfl rfl (Nat.le_of_ble_eq_true rfl) rfl (Nat.le_of_ble_eq_true rfl) sh_65 (kc_104 (d := d + 3) ⟨rfl, ?_⟩)
  refine h_iinc (x1 := (1 : Int32)) (ls1 := [.ref 12, .int (0 : Int32), .ref 65, .int (1 : Int32), .int (3 : Int32)]) (p_61_110 _ _) rfl rfl (by decide) rfl ?_
  refine h_goto (p_61_113 _ _) ?_
  refine h_iload (p_61_63 _ _) rfl ?_
  refine h_push (p_61_64 _ _) ?_
  refine h_cmpF (p_61_66 _ _) (by decide) ?_
  refine h_iload (p_61_69 _ _) rfl ?_
  refine h_aload (p_61_70 _ _) rfl ?_
  refine h_geti (x := (1 : Int32)) (p_61_71 _ _) isI_6_6 sh_12 (by decide +kernel) ?_
  refine h_cmpT (p_61_74 _ _) (by decide) ?_
  exact h_ret0 (p_61_116 _ _) h
def sx_134 : sT := pV (sx_133) 75 1 (0 : Int32)
theorem kc_106 {L : Nat} {xs : Nat → Int32} {d : Nat} {K : Option Int32 → Nat → Nat → sT → Prop} (h : K none 186 104467 sx_134) : tH L xs 186 104467 (d + 0) 71 0 [.ref 75] [] sx_133 K := by
  refine h_aload (p_71_0 _ _) rfl ?_
  refine h_push (p_71_1 _ _) ?_
  refine h_puti (p_71_2 _ _) isI_7_1 sh_75 (by decide) ?_
  exact h_ret0 (p_71_5 _ _) h
def sx_135 : sT := pV (sx_134) 77 1 (0 : Int32)
theorem kc_107 {L : Nat} {xs : Nat → Int32} {d : Nat} {K : Option Int32 → Nat → Nat → sT → Prop} (h : K none 186 104467 sx_135) : tH L xs 186 104467 (d + 0) 71 0 [.ref 77] [] sx_134 K := by
  refine h_aload (p_71_0 _ _) rfl ?_
  refine h_push (p_71_1 _ _) ?_
  refine h_puti (p_71_2 _ _) isI_7_1 sh_77 (by decide) ?_
  exact h_ret0 (p_71_5 _ _) h
def sx_136 : sT := pV (pV (pV (pV (pV (sx_135) 74 6 (0 : Int32)) 74 7 (-1 : Int32)) 74 8 (0 : Int32)) 74 9 (0 : Int32)) 74 10 (0 : Int32)
theorem kc_108 {L : Nat} {xs : Nat → Int32} {d : Nat} {K : Option Int32 → Nat → Nat → sT → Prop} (h : K none 186 104467 sx_136) : tH L xs 186 104467 (d + 1) 39 0 [.ref 74] [] sx_133 K := by
  refine h_aload (p_39_0 _ _) rfl ?_
  refine h_getr (a := 75) (p_39_1 _ _) isI_5_0 sh_74 (by decide +kernel) ?_
  refine h_call (z := 71) (i := 75) (as := []) (rest := []) (p_39_4 _ _) mK_71 mL_71 rfl rfl (Nat.le_of_ble_eq_true rfl) rfl (Nat.le_of_ble_eq_true rfl) sh_75 (kc_106 (d := d + 0) ⟨rfl, ?_⟩)
  refine h_aload (p_39_7 _ _) rfl ?_
  refine h_getr (a := 77) (p_39_8 _ _) isI_5_1 sh_74 (by decide +kernel) ?_
  refine h_call (z := 71) (i := 77) (as := []) (rest := []) (p_39_11 _ _) mK_71 mL_71 rfl rfl (Nat.le_of_ble_eq_true rfl) rfl (Nat.le_of_ble_eq_true rfl) sh_77 (kc_107 (d := d + 0) ⟨rfl, ?_⟩)
  refine h_aload (p_39_14 _ _) rfl ?_
  refine h_push (p_39_15 _ _) ?_
  refine h_puti (p_39_16 _ _) isI_5_6 sh_74 (by decide) ?_
  refine h_aload (p_39_19 _ _) rfl ?_
  refine h_push (p_39_20 _ _) ?_
  refine h_puti (p_39_21 _ _) isI_5_7 sh_74 (by decide) ?_
  refine h_aload (p_39_24 _ _) rfl ?_
  refine h_push (p_39_25 _ _) ?_
  refine h_puti (p_39_26 _ _) isI_5_8 sh_74 (by decide) ?_
  refine h_aload (p_39_29 _ _) rfl ?_
  refine h_push (p_39_30 _ _) ?_
  refine h_puti (p_39_31 _ _) isI_5_9 sh_74 (by decide) ?_
  refine h_aload (p_39_34 _ _) rfl ?_
  refine h_push (p_39_35 _ _) ?_
  refine h_puti (p_39_36 _ _) isI_5_10 sh_74 (by decide) ?_
  exact h_ret0 (p_39_39 _ _) h
theorem kc_109 {L : Nat} {xs : Nat → Int32} {d : Nat} {K : Option Int32 → Nat → Nat → sT → Prop} (h : K (some (0 : Int32)) 186 104467 sx_136) : tH L xs 186 104467 (d + 0) 81 0 [.ref 1, .int (0 : Int32)] [] sx_136 K := by
  refine h_iload (p_81_0 _ _) rfl ?_
  refine h_ifF (p_81_1 _ _) (by decide) ?_
  refine h_iload (p_81_4 _ _) rfl ?_
  refine h_aload (p_81_5 _ _) rfl ?_
  refine h_geti (x := (5 : Int32)) (p_81_6 _ _) isI_8_7 sh_1 (by decide +kernel) ?_
  refine h_cmpF (p_81_9 _ _) (by decide) ?_
  refine h_aload (p_81_12 _ _) rfl ?_
  refine h_getr (a := 2) (p_81_13 _ _) isI_8_0 sh_1 (by decide +kernel) ?_
  refine h_iload (p_81_16 _ _) rfl ?_
  refine h_ald (k := 0) (x := (0 : Int32)) (p_81_17 _ _) sh_2 (by decide) (by decide) (by decide +kernel) ?_
  refine h_goto (p_81_18 _ _) ?_
  exact h_ret1 (p_81_22 _ _) h
def sx_137 : sT := pV (pV (sx_136) 76 0 (48 : Int32)) 75 1 (1 : Int32)
theorem kc_110 {L : Nat} {xs : Nat → Int32} {d : Nat} {K : Option Int32 → Nat → Nat → sT → Prop} (h : K none 186 104467 sx_137) : tH L xs 186 104467 (d + 0) 72 0 [.ref 75, .int (48 : Int32)] [] sx_136 K := by
  refine h_aload (p_72_0 _ _) rfl ?_
  refine h_geti (x := (0 : Int32)) (p_72_1 _ _) isI_7_1 sh_75 (by decide +kernel) ?_
  refine h_aload (p_72_4 _ _) rfl ?_
  refine h_getr (a := 76) (p_72_5 _ _) isI_7_0 sh_75 (by decide +kernel) ?_
  refine h_alen (x := (30 : Int32)) (p_72_8 _ _) sh_76 (by decide) ?_
  refine h_cmpF (p_72_9 _ _) (by decide) ?_
  refine h_aload (p_72_12 _ _) rfl ?_
  refine h_getr (a := 76) (p_72_13 _ _) isI_7_0 sh_75 (by decide +kernel) ?_
  refine h_aload (p_72_16 _ _) rfl ?_
  refine h_geti (x := (0 : Int32)) (p_72_17 _ _) isI_7_1 sh_75 (by decide +kernel) ?_
  refine h_iload (p_72_20 _ _) rfl ?_
  refine h_ast (k := 0) (p_72_21 _ _) sh_76 (by decide) (by decide) (by decide) ?_
  refine h_aload (p_72_22 _ _) rfl ?_
  refine h_dup (p_72_23 _ _) ?_
  refine h_geti (x := (0 : Int32)) (p_72_24 _ _) isI_7_1 sh_75 (by decide +kernel) ?_
  refine h_push (p_72_27 _ _) ?_
  refine h_bin (w := (1 : Int32)) (p_72_28 _ _) (by decide) ?_
  refine h_puti (p_72_29 _ _) isI_7_1 sh_75 (by decide) ?_
  exact h_ret0 (p_72_32 _ _) h
theorem kc_111 {L : Nat} {xs : Nat → Int32} {d : Nat} {K : Option Int32 → Nat → Nat → sT → Prop} (h : K none 186 104467 sx_137) : tH L xs 186 104467 (d + 1) 94 0 [.ref 1, .int (0 : Int32), .int (0 : Int32), .ref 75, .int (0 : Int32), .null, .null] [] sx_136 K := by
  refine h_iload (p_94_0 _ _) rfl ?_
  refine h_push (p_94_2 _ _) ?_
  refine h_cmpT (p_94_4 _ _) (by decide) ?_
  refine h_aload (p_94_8 _ _) rfl ?_
  refine h_iload (p_94_9 _ _) rfl ?_
  refine h_callr (x := (0 : Int32)) (z := 81) (i := 1) (as := [.int (0 : Int32)]) (rest := []) (p_94_10 _ _) mK_81 mL_81 rfl rfl (Nat.le_of_ble_eq_true rfl) rfl (Nat.le_of_ble_eq_true rfl) sh_1 (kc_109 (d := d + 0) ⟨rfl, ?_⟩)
  refine h_istore (ls1 := [.ref 1, .int (0 : Int32), .int (0 : Int32), .ref 75, .int (0 : Int32), .int (0 : Int32), .null]) (p_94_13 _ _) (Nat.le_of_ble_eq_true rfl) rfl rfl ?_
  refine h_iload (p_94_15 _ _) rfl ?_
  refine h_ifF (p_94_17 _ _) (by decide) ?_
  refine h_aload (p_94_20 _ _) rfl ?_
  refine h_iload (p_94_21 _ _) rfl ?_
  refine h_push (p_94_22 _ _) ?_
  refine h_cmpF (p_94_23 _ _) (by decide) ?_
  refine h_push (p_94_26 _ _) ?_
  refine h_iload (p_94_28 _ _) rfl ?_
  refine h_bin (w := (48 : Int32)) (p_94_29 _ _) (by decide) ?_
  refine h_goto (p_94_30 _ _) ?_
  refine h_call (z := 72) (i := 75) (as := [.int (48 : Int32)]) (rest := []) (p_94_39 _ _) mK_72 mL_72 rfl rfl (Nat.le_of_ble_eq_true rfl) rfl (Nat.le_of_ble_eq_true rfl) sh_75 (kc_110 (d := d + 0) ⟨rfl, ?_⟩)
  refine h_goto (p_94_42 _ _) ?_
  exact h_ret0 (p_94_131 _ _) h
theorem kc_112 {L : Nat} {xs : Nat → Int32} {d : Nat} {K : Option Int32 → Nat → Nat → sT → Prop} (h : K none 186 104467 sx_137) : tH L xs 186 104467 (d + 2) 93 0 [.ref 1, .int (0 : Int32), .int (0 : Int32), .ref 75] [] sx_136 K := by
  refine h_aload (p_93_0 _ _) rfl ?_
  refine h_iload (p_93_1 _ _) rfl ?_
  refine h_iload (p_93_2 _ _) rfl ?_
  refine h_aload (p_93_3 _ _) rfl ?_
  refine h_push (p_93_4 _ _) ?_
  refine h_call (z := 94) (i := 1) (as := [.int (0 : Int32), .int (0 : Int32), .ref 75, .int (0 : Int32)]) (rest := []) (p_93_5 _ _) mK_94 mL_94 rfl rfl (Nat.le_of_ble_eq_true rfl) rfl (Nat.le_of_ble_eq_true rfl) sh_1 (kc_111 (d := d + 0) ⟨rfl, ?_⟩)
  exact h_ret0 (p_93_8 _ _) h
theorem kc_113 {L : Nat} {xs : Nat → Int32} {d : Nat} {K : Option Int32 → Nat → Nat → sT → Prop} (h : K (some (-1 : Int32)) 186 104467 sx_137) : tH L xs 186 104467 (d + 0) 84 0 [.ref 1, .int (0 : Int32)] [] sx_137 K := by
  refine h_iload (p_84_0 _ _) rfl ?_
  refine h_ifF (p_84_1 _ _) (by decide) ?_
  refine h_iload (p_84_4 _ _) rfl ?_
  refine h_aload (p_84_5 _ _) rfl ?_
  refine h_geti (x := (5 : Int32)) (p_84_6 _ _) isI_8_7 sh_1 (by decide +kernel) ?_
  refine h_cmpF (p_84_9 _ _) (by decide) ?_
  refine h_aload (p_84_12 _ _) rfl ?_
  refine h_getr (a := 5) (p_84_13 _ _) isI_8_3 sh_1 (by decide +kernel) ?_
  refine h_iload (p_84_16 _ _) rfl ?_
  refine h_ald (k := 0) (x := (-1 : Int32)) (p_84_17 _ _) sh_5 (by decide) (by decide) (by decide +kernel) ?_
  refine h_goto (p_84_18 _ _) ?_
  exact h_ret1 (p_84_22 _ _) h
def sx_138 : sT := pV (sx_137) 74 7 (-1 : Int32)
theorem kc_114 {L : Nat} {xs : Nat → Int32} {d : Nat} {K : Option Int32 → Nat → Nat → sT → Prop} (h : K (some (0 : Int32)) 186 104467 sx_138) : tH L xs 186 104467 (d + 0) 85 0 [.ref 1, .int (0 : Int32)] [] sx_138 K := by
  refine h_iload (p_85_0 _ _) rfl ?_
  refine h_ifF (p_85_1 _ _) (by decide) ?_
  refine h_iload (p_85_4 _ _) rfl ?_
  refine h_aload (p_85_5 _ _) rfl ?_
  refine h_geti (x := (5 : Int32)) (p_85_6 _ _) isI_8_7 sh_1 (by decide +kernel) ?_
  refine h_cmpF (p_85_9 _ _) (by decide) ?_
  refine h_aload (p_85_12 _ _) rfl ?_
  refine h_getr (a := 6) (p_85_13 _ _) isI_8_4 sh_1 (by decide +kernel) ?_
  refine h_iload (p_85_16 _ _) rfl ?_
  refine h_ald (k := 0) (x := (0 : Int32)) (p_85_17 _ _) sh_6 (by decide) (by decide) (by decide +kernel) ?_
  refine h_goto (p_85_18 _ _) ?_
  exact h_ret1 (p_85_22 _ _) h
def sx_139 : sT := pV (pV (pV (sx_138) 74 8 (0 : Int32)) 12 6 (0 : Int32)) 12 5 (0 : Int32)
theorem kc_115 {L : Nat} {xs : Nat → Int32} {d : Nat} {K : Option Int32 → Nat → Nat → sT → Prop} (h : K (some (0 : Int32)) 186 104467 sx_139) : tH L xs 186 104467 (d + 0) 81 0 [.ref 1, .int (0 : Int32)] [] sx_139 K := by
  refine h_iload (p_81_0 _ _) rfl ?_
  refine h_ifF (p_81_1 _ _) (by decide) ?_
  refine h_iload (p_81_4 _ _) rfl ?_
  refine h_aload (p_81_5 _ _) rfl ?_
  refine h_geti (x := (5 : Int32)) (p_81_6 _ _) isI_8_7 sh_1 (by decide +kernel) ?_
  refine h_cmpF (p_81_9 _ _) (by decide) ?_
  refine h_aload (p_81_12 _ _) rfl ?_
  refine h_getr (a := 2) (p_81_13 _ _) isI_8_0 sh_1 (by decide +kernel) ?_
  refine h_iload (p_81_16 _ _) rfl ?_
  refine h_ald (k := 0) (x := (0 : Int32)) (p_81_17 _ _) sh_2 (by decide) (by decide) (by decide +kernel) ?_
  refine h_goto (p_81_18 _ _) ?_
  exact h_ret1 (p_81_22 _ _) h
def sx_140 : sT := pV (pV (sx_139) 15 0 (0 : Int32)) 12 5 (1 : Int32)
theorem kc_116 {L : Nat} {xs : Nat → Int32} {d : Nat} {K : Option Int32 → Nat → Nat → sT → Prop} (h : K none 186 104467 sx_140) : tH L xs 186 104467 (d + 0) 67 0 [.ref 12, .int (0 : Int32)] [] sx_139 K := by
  refine h_aload (p_67_0 _ _) rfl ?_
  refine h_geti (x := (0 : Int32)) (p_67_1 _ _) isI_6_5 sh_12 (by decide +kernel) ?_
  refine h_push (p_67_4 _ _) ?_
  refine h_cmpF (p_67_7 _ _) (by decide) ?_
  refine h_aload (p_67_10 _ _) rfl ?_
  refine h_getr (a := 15) (p_67_11 _ _) isI_6_3 sh_12 (by decide +kernel) ?_
  refine h_aload (p_67_14 _ _) rfl ?_
  refine h_geti (x := (0 : Int32)) (p_67_15 _ _) isI_6_5 sh_12 (by decide +kernel) ?_
  refine h_iload (p_67_18 _ _) rfl ?_
  refine h_ast (k := 0) (p_67_19 _ _) sh_15 (by decide) (by decide) (by decide) ?_
  refine h_aload (p_67_20 _ _) rfl ?_
  refine h_dup (p_67_21 _ _) ?_
  refine h_geti (x := (0 : Int32)) (p_67_22 _ _) isI_6_5 sh_12 (by decide +kernel) ?_
  refine h_push (p_67_25 _ _) ?_
  refine h_bin (w := (1 : Int32)) (p_67_26 _ _) (by decide) ?_
  refine h_puti (p_67_27 _ _) isI_6_5 sh_12 (by decide) ?_
  exact h_ret0 (p_67_30 _ _) h
theorem kc_117 {L : Nat} {xs : Nat → Int32} {d : Nat} {K : Option Int32 → Nat → Nat → sT → Prop} (h : K none 186 104467 sx_140) : tH L xs 186 104467 (d + 1) 66 0 [.ref 12, .int (0 : Int32), .null] [] sx_139 K := by
  refine h_aload (p_66_0 _ _) rfl ?_
  refine h_getr (a := 1) (p_66_1 _ _) isI_6_0 sh_12 (by decide +kernel) ?_
  refine h_iload (p_66_4 _ _) rfl ?_
  refine h_callr (x := (0 : Int32)) (z := 81) (i := 1) (as := [.int (0 : Int32)]) (rest := []) (p_66_5 _ _) mK_81 mL_81 rfl rfl (Nat.le_of_ble_eq_true rfl) rfl (Nat.le_of_ble_eq_true rfl) sh_1 (kc_115 (d := d + 0) ⟨rfl, ?_⟩)
  refine h_push (p_66_8 _ _) ?_
  refine h_cmpT (p_66_9 _ _) (by decide) ?_
  refine h_iload (p_66_49 _ _) rfl ?_
  refine h_push (p_66_50 _ _) ?_
  refine h_cmpF (p_66_51 _ _) (by decide) ?_
  refine h_aload (p_66_54 _ _) rfl ?_
  refine h_iload (p_66_55 _ _) rfl ?_
  refine h_call (z := 67) (i := 12) (as := [.int (0 : Int32)]) (rest := []) (p_66_56 _ _) mK_67 mL_67 rfl rfl (Nat.le_of_ble_eq_true rfl) rfl (Nat.le_of_ble_eq_true rfl) sh_12 (kc_116 (d := d + 0) ⟨rfl, ?_⟩)
  exact h_ret0 (p_66_59 _ _) h
def sx_141 : sT := pV (pV (pV (sx_140) 12 6 (1 : Int32)) 14 0 (1 : Int32)) 13 0 (0 : Int32)
theorem kc_118 {L : Nat} {xs : Nat → Int32} {d : Nat} {K : Option Int32 → Nat → Nat → sT → Prop} (h : K (some (0 : Int32)) 186 104467 sx_141) : tH L xs 186 104467 (d + 0) 68 0 [.ref 12, .null, .null] [] sx_140 K := by
  refine h_push (p_68_0 _ _) ?_
  refine h_istore (ls1 := [.ref 12, .int (0 : Int32), .null]) (p_68_1 _ _) (Nat.le_of_ble_eq_true rfl) rfl rfl ?_
  refine h_iload (p_68_2 _ _) rfl ?_
  refine h_aload (p_68_3 _ _) rfl ?_
  refine h_geti (x := (0 : Int32)) (p_68_4 _ _) isI_6_6 sh_12 (by decide +kernel) ?_
  refine h_cmpT (p_68_7 _ _) (by decide) ?_
  refine h_aload (p_68_26 _ _) rfl ?_
  refine h_geti (x := (0 : Int32)) (p_68_27 _ _) isI_6_6 sh_12 (by decide +kernel) ?_
  refine h_push (p_68_30 _ _) ?_
  refine h_cmpF (p_68_32 _ _) (by decide) ?_
  refine h_aload (p_68_35 _ _) rfl ?_
  refine h_geti (x := (1 : Int32)) (p_68_36 _ _) isI_6_5 sh_12 (by decide +kernel) ?_
  refine h_push (p_68_39 _ _) ?_
  refine h_cmpT (p_68_41 _ _) (by decide) ?_
  refine h_aload (p_68_46 _ _) rfl ?_
  refine h_geti (x := (0 : Int32)) (p_68_47 _ _) isI_6_6 sh_12 (by decide +kernel) ?_
  refine h_istore (ls1 := [.ref 12, .int (0 : Int32), .null]) (p_68_50 _ _) (Nat.le_of_ble_eq_true rfl) rfl rfl ?_
  refine h_aload (p_68_51 _ _) rfl ?_
  refine h_dup (p_68_52 _ _) ?_
  refine h_geti (x := (0 : Int32)) (p_68_53 _ _) isI_6_6 sh_12 (by decide +kernel) ?_
  refine h_push (p_68_56 _ _) ?_
  refine h_bin (w := (1 : Int32)) (p_68_57 _ _) (by decide) ?_
  refine h_puti (p_68_58 _ _) isI_6_6 sh_12 (by decide) ?_
  refine h_aload (p_68_61 _ _) rfl ?_
  refine h_getr (a := 14) (p_68_62 _ _) isI_6_2 sh_12 (by decide +kernel) ?_
  refine h_iload (p_68_65 _ _) rfl ?_
  refine h_aload (p_68_66 _ _) rfl ?_
  refine h_geti (x := (1 : Int32)) (p_68_67 _ _) isI_6_5 sh_12 (by decide +kernel) ?_
  refine h_ast (k := 0) (p_68_70 _ _) sh_14 (by decide) (by decide) (by decide) ?_
  refine h_push (p_68_71 _ _) ?_
  refine h_istore (ls1 := [.ref 12, .int (0 : Int32), .int (0 : Int32)]) (p_68_72 _ _) (Nat.le_of_ble_eq_true rfl) rfl rfl ?_
  refine h_iload (p_68_73 _ _) rfl ?_
  refine h_aload (p_68_74 _ _) rfl ?_
  refine h_geti (x := (1 : Int32)) (p_68_75 _ _) isI_6_5 sh_12 (by decide +kernel) ?_
  refine h_cmpF (p_68_78 _ _) (by decide) ?_
  refine h_aload (p_68_81 _ _) rfl ?_
  refine h_getr (a := 13) (p_68_82 _ _) isI_6_1 sh_12 (by decide +kernel) ?_
  refine h_iload (p_68_85 _ _) rfl ?_
  refine h_push (p_68_86 _ _) ?_
  refine h_bin (w := (0 : Int32)) (p_68_88 _ _) (by decide) ?_
  refine h_iload (p_68_89 _ _) rfl ?_
  refine h_bin (w := (0 : Int32)) (p_68_90 _ _) (by decide) ?_
  refine h_aload (p_68_91 _ _) rfl ?_
  refine h_getr (a := 15) (p_68_92 _ _) isI_6_3 sh_12 (by decide +kernel) ?_
  refine h_aload (p_68_95 _ _) rfl ?_
  refine h_geti (x := (1 : Int32)) (p_68_96 _ _) isI_6_5 sh_12 (by decide +kernel) ?_
  refine h_push (p_68_99 _ _) ?_
  refine h_bin (w := (0 : Int32)) (p_68_100 _ _) (by decide) ?_
  refine h_iload (p_68_101 _ _) rfl ?_
  refine h_bin (w := (0 : Int32)) (p_68_102 _ _) (by decide) ?_
  refine h_ald (k := 0) (x := (0 : Int32)) (p_68_103 _ _) sh_15 (by decide) (by decide) (by decide +kernel) ?_
  refine h_ast (k := 0) (p_68_104 _ _) sh_13 (by decide) (by decide) (by decide) ?_
  refine h_iinc (x1 := (1 : Int32)) (ls1 := [.ref 12, .int (0 : Int32), .int (1 : Int32)]) (p_68_105 _ _) rfl rfl (by decide) rfl ?_
  refine h_goto (p_68_108 _ _) ?_
  refine h_iload (p_68_73 _ _) rfl ?_
  refine h_aload (p_68_74 _ _) rfl ?_
  refine h_geti (x := (1 : Int32)) (p_68_75 _ _) isI_6_5 sh_12 (by decide +kernel) ?_
  refine h_cmpT (p_68_78 _ _) (by decide) ?_
  refine h_iload (p_68_111 _ _) rfl ?_
  exact h_ret1 (p_68_112 _ _) h
theorem kc_119 {L : Nat} {xs : Nat → Int32} {d : Nat} {K : Option Int32 → Nat → Nat → sT → Prop} (h : K (some (-1 : Int32)) 186 104467 sx_141) : tH L xs 186 104467 (d + 0) 84 0 [.ref 1, .int (0 : Int32)] [] sx_141 K := by
  refine h_iload (p_84_0 _ _) rfl ?_
  refine h_ifF (p_84_1 _ _) (by decide) ?_
  refine h_iload (p_84_4 _ _) rfl ?_
  refine h_aload (p_84_5 _ _) rfl ?_
  refine h_geti (x := (5 : Int32)) (p_84_6 _ _) isI_8_7 sh_1 (by decide +kernel) ?_
  refine h_cmpF (p_84_9 _ _) (by decide) ?_
  refine h_aload (p_84_12 _ _) rfl ?_
  refine h_getr (a := 5) (p_84_13 _ _) isI_8_3 sh_1 (by decide +kernel) ?_
  refine h_iload (p_84_16 _ _) rfl ?_
  refine h_ald (k := 0) (x := (-1 : Int32)) (p_84_17 _ _) sh_5 (by decide) (by decide) (by decide +kernel) ?_
  refine h_goto (p_84_18 _ _) ?_
  exact h_ret1 (p_84_22 _ _) h
theorem kc_120 {L : Nat} {xs : Nat → Int32} {d : Nat} {K : Option Int32 → Nat → Nat → sT → Prop} (h : K (some (0 : Int32)) 186 104467 sx_141) : tH L xs 186 104467 (d + 1) 86 0 [.ref 1, .int (0 : Int32)] [] sx_141 K := by
  refine h_aload (p_86_0 _ _) rfl ?_
  refine h_iload (p_86_1 _ _) rfl ?_
  refine h_callr (x := (-1 : Int32)) (z := 84) (i := 1) (as := [.int (0 : Int32)]) (rest := []) (p_86_2 _ _) mK_84 mL_84 rfl rfl (Nat.le_of_ble_eq_true rfl) rfl (Nat.le_of_ble_eq_true rfl) sh_1 (kc_119 (d := d + 0) ⟨rfl, ?_⟩)
  refine h_ifT (p_86_5 _ _) (by decide) ?_
  refine h_push (p_86_12 _ _) ?_
  exact h_ret2 (p_86_13 _ _) (by decide) h
theorem kc_121 {L : Nat} {xs : Nat → Int32} {d : Nat} {K : Option Int32 → Nat → Nat → sT → Prop} (h : K (some (0 : Int32)) 186 104467 sx_141) : tH L xs 186 104467 (d + 0) 81 0 [.ref 1, .int (0 : Int32)] [] sx_141 K := by
  refine h_iload (p_81_0 _ _) rfl ?_
  refine h_ifF (p_81_1 _ _) (by decide) ?_
  refine h_iload (p_81_4 _ _) rfl ?_
  refine h_aload (p_81_5 _ _) rfl ?_
  refine h_geti (x := (5 : Int32)) (p_81_6 _ _) isI_8_7 sh_1 (by decide +kernel) ?_
  refine h_cmpF (p_81_9 _ _) (by decide) ?_
  refine h_aload (p_81_12 _ _) rfl ?_
  refine h_getr (a := 2) (p_81_13 _ _) isI_8_0 sh_1 (by decide +kernel) ?_
  refine h_iload (p_81_16 _ _) rfl ?_
  refine h_ald (k := 0) (x := (0 : Int32)) (p_81_17 _ _) sh_2 (by decide) (by decide) (by decide +kernel) ?_
  refine h_goto (p_81_18 _ _) ?_
  exact h_ret1 (p_81_22 _ _) h
def sx_142 : sT := pV (pV (sx_141) 78 0 (48 : Int32)) 77 1 (1 : Int32)
theorem kc_122 {L : Nat} {xs : Nat → Int32} {d : Nat} {K : Option Int32 → Nat → Nat → sT → Prop} (h : K none 186 104467 sx_142) : tH L xs 186 104467 (d + 0) 72 0 [.ref 77, .int (48 : Int32)] [] sx_141 K := by
  refine h_aload (p_72_0 _ _) rfl ?_
  refine h_geti (x := (0 : Int32)) (p_72_1 _ _) isI_7_1 sh_77 (by decide +kernel) ?_
  refine h_aload (p_72_4 _ _) rfl ?_
  refine h_getr (a := 78) (p_72_5 _ _) isI_7_0 sh_77 (by decide +kernel) ?_
  refine h_alen (x := (4960 : Int32)) (p_72_8 _ _) sh_78 (by decide) ?_
  refine h_cmpF (p_72_9 _ _) (by decide) ?_
  refine h_aload (p_72_12 _ _) rfl ?_
  refine h_getr (a := 78) (p_72_13 _ _) isI_7_0 sh_77 (by decide +kernel) ?_
  refine h_aload (p_72_16 _ _) rfl ?_
  refine h_geti (x := (0 : Int32)) (p_72_17 _ _) isI_7_1 sh_77 (by decide +kernel) ?_
  refine h_iload (p_72_20 _ _) rfl ?_
  refine h_ast (k := 0) (p_72_21 _ _) sh_78 (by decide) (by decide) (by decide) ?_
  refine h_aload (p_72_22 _ _) rfl ?_
  refine h_dup (p_72_23 _ _) ?_
  refine h_geti (x := (0 : Int32)) (p_72_24 _ _) isI_7_1 sh_77 (by decide +kernel) ?_
  refine h_push (p_72_27 _ _) ?_
  refine h_bin (w := (1 : Int32)) (p_72_28 _ _) (by decide) ?_
  refine h_puti (p_72_29 _ _) isI_7_1 sh_77 (by decide) ?_
  exact h_ret0 (p_72_32 _ _) h
theorem kc_123 {L : Nat} {xs : Nat → Int32} {d : Nat} {K : Option Int32 → Nat → Nat → sT → Prop} (h : K none 186 104467 sx_142) : tH L xs 186 104467 (d + 1) 94 0 [.ref 1, .int (0 : Int32), .int (0 : Int32), .ref 77, .int (0 : Int32), .null, .null] [] sx_141 K := by
  refine h_iload (p_94_0 _ _) rfl ?_
  refine h_push (p_94_2 _ _) ?_
  refine h_cmpT (p_94_4 _ _) (by decide) ?_
  refine h_aload (p_94_8 _ _) rfl ?_
  refine h_iload (p_94_9 _ _) rfl ?_
  refine h_callr (x := (0 : Int32)) (z := 81) (i := 1) (as := [.int (0 : Int32)]) (rest := []) (p_94_10 _ _) mK_81 mL_81 rfl rfl (Nat.le_of_ble_eq_true rfl) rfl (Nat.le_of_ble_eq_true rfl) sh_1 (kc_121 (d := d + 0) ⟨rfl, ?_⟩)
  refine h_istore (ls1 := [.ref 1, .int (0 : Int32), .int (0 : Int32), .ref 77, .int (0 : Int32), .int (0 : Int32), .null]) (p_94_13 _ _) (Nat.le_of_ble_eq_true rfl) rfl rfl ?_
  refine h_iload (p_94_15 _ _) rfl ?_
  refine h_ifF (p_94_17 _ _) (by decide) ?_
  refine h_aload (p_94_20 _ _) rfl ?_
  refine h_iload (p_94_21 _ _) rfl ?_
  refine h_push (p_94_22 _ _) ?_
  refine h_cmpF (p_94_23 _ _) (by decide) ?_
  refine h_push (p_94_26 _ _) ?_
  refine h_iload (p_94_28 _ _) rfl ?_
  refine h_bin (w := (48 : Int32)) (p_94_29 _ _) (by decide) ?_
  refine h_goto (p_94_30 _ _) ?_
  refine h_call (z := 72) (i := 77) (as := [.int (48 : Int32)]) (rest := []) (p_94_39 _ _) mK_72 mL_72 rfl rfl (Nat.le_of_ble_eq_true rfl) rfl (Nat.le_of_ble_eq_true rfl) sh_77 (kc_122 (d := d + 0) ⟨rfl, ?_⟩)
  refine h_goto (p_94_42 _ _) ?_
  exact h_ret0 (p_94_131 _ _) h
theorem kc_124 {L : Nat} {xs : Nat → Int32} {d : Nat} {K : Option Int32 → Nat → Nat → sT → Prop} (h : K none 186 104467 sx_142) : tH L xs 186 104467 (d + 2) 93 0 [.ref 1, .int (0 : Int32), .int (0 : Int32), .ref 77] [] sx_141 K := by
  refine h_aload (p_93_0 _ _) rfl ?_
  refine h_iload (p_93_1 _ _) rfl ?_
  refine h_iload (p_93_2 _ _) rfl ?_
  refine h_aload (p_93_3 _ _) rfl ?_
  refine h_push (p_93_4 _ _) ?_
  refine h_call (z := 94) (i := 1) (as := [.int (0 : Int32), .int (0 : Int32), .ref 77, .int (0 : Int32)]) (rest := []) (p_93_5 _ _) mK_94 mL_94 rfl rfl (Nat.le_of_ble_eq_true rfl) rfl (Nat.le_of_ble_eq_true rfl) sh_1 (kc_123 (d := d + 0) ⟨rfl, ?_⟩)
  exact h_ret0 (p_93_8 _ _) h
def sx_143 : sT := pV (sx_142) 79 0 (1 : Int32)
theorem kc_125 {L : Nat} {xs : Nat → Int32} {d : Nat} {K : Option Int32 → Nat → Nat → sT → Prop} (h : K none 186 104467 sx_143) : tH L xs 186 104467 (d + 0) 40 0 [.ref 74, .int (0 : Int32)] [] sx_142 K := by
  refine h_aload (p_40_0 _ _) rfl ?_
  refine h_getr (a := 79) (p_40_1 _ _) isI_5_2 sh_74 (by decide +kernel) ?_
  refine h_aload (p_40_4 _ _) rfl ?_
  refine h_geti (x := (0 : Int32)) (p_40_5 _ _) isI_5_6 sh_74 (by decide +kernel) ?_
  refine h_aload (p_40_8 _ _) rfl ?_
  refine h_getr (a := 77) (p_40_9 _ _) isI_5_1 sh_74 (by decide +kernel) ?_
  refine h_geti (x := (1 : Int32)) (p_40_12 _ _) isI_7_1 sh_77 (by decide +kernel) ?_
  refine h_ast (k := 0) (p_40_15 _ _) sh_79 (by decide) (by decide) (by decide) ?_
  refine h_iload (p_40_16 _ _) rfl ?_
  refine h_ifT (p_40_17 _ _) (by decide) ?_
  exact h_ret0 (p_40_35 _ _) h
theorem kc_126 {L : Nat} {xs : Nat → Int32} {d : Nat} {K : Option Int32 → Nat → Nat → sT → Prop} (h : K none 186 104467 sx_143) : tH L xs 186 104467 (d + 3) 62 0 [.ref 12, .int (0 : Int32), .ref 74, .null, .null, .null, .null] [] sx_141 K := by
  refine h_aload (p_62_0 _ _) rfl ?_
  refine h_getr (a := 14) (p_62_1 _ _) isI_6_2 sh_12 (by decide +kernel) ?_
  refine h_iload (p_62_4 _ _) rfl ?_
  refine h_ald (k := 0) (x := (1 : Int32)) (p_62_5 _ _) sh_14 (by decide) (by decide) (by decide +kernel) ?_
  refine h_istore (ls1 := [.ref 12, .int (0 : Int32), .ref 74, .int (1 : Int32), .null, .null, .null]) (p_62_6 _ _) (Nat.le_of_ble_eq_true rfl) rfl rfl ?_
  refine h_push (p_62_7 _ _) ?_
  refine h_istore (ls1 := [.ref 12, .int (0 : Int32), .ref 74, .int (1 : Int32), .int (1 : Int32), .null, .null]) (p_62_8 _ _) (Nat.le_of_ble_eq_true rfl) rfl rfl ?_
  refine h_iload (p_62_10 _ _) rfl ?_
  refine h_ifT (p_62_11 _ _) (by decide) ?_
  refine h_push (p_62_27 _ _) ?_
  refine h_istore (ls1 := [.ref 12, .int (0 : Int32), .ref 74, .int (1 : Int32), .int (1 : Int32), .int (0 : Int32), .null]) (p_62_28 _ _) (Nat.le_of_ble_eq_true rfl) rfl rfl ?_
  refine h_iload (p_62_30 _ _) rfl ?_
  refine h_iload (p_62_32 _ _) rfl ?_
  refine h_cmpF (p_62_33 _ _) (by decide) ?_
  refine h_aload (p_62_36 _ _) rfl ?_
  refine h_getr (a := 13) (p_62_37 _ _) isI_6_1 sh_12 (by decide +kernel) ?_
  refine h_iload (p_62_40 _ _) rfl ?_
  refine h_push (p_62_41 _ _) ?_
  refine h_bin (w := (0 : Int32)) (p_62_43 _ _) (by decide) ?_
  refine h_iload (p_62_44 _ _) rfl ?_
  refine h_bin (w := (0 : Int32)) (p_62_46 _ _) (by decide) ?_
  refine h_ald (k := 0) (x := (0 : Int32)) (p_62_47 _ _) sh_13 (by decide) (by decide) (by decide +kernel) ?_
  refine h_istore (ls1 := [.ref 12, .int (0 : Int32), .ref 74, .int (1 : Int32), .int (1 : Int32), .int (0 : Int32), .int (0 : Int32)]) (p_62_48 _ _) (Nat.le_of_ble_eq_true rfl) rfl rfl ?_
  refine h_iload (p_62_50 _ _) rfl ?_
  refine h_ifF (p_62_52 _ _) (by decide) ?_
  refine h_aload (p_62_55 _ _) rfl ?_
  refine h_getr (a := 1) (p_62_56 _ _) isI_6_0 sh_12 (by decide +kernel) ?_
  refine h_iload (p_62_59 _ _) rfl ?_
  refine h_callr (x := (0 : Int32)) (z := 86) (i := 1) (as := [.int (0 : Int32)]) (rest := []) (p_62_61 _ _) mK_86 mL_86 rfl rfl (Nat.le_of_ble_eq_true rfl) rfl (Nat.le_of_ble_eq_true rfl) sh_1 (kc_120 (d := d + 1) ⟨rfl, ?_⟩)
  refine h_ifT (p_62_64 _ _) (by decide) ?_
  refine h_push (p_62_71 _ _) ?_
  refine h_istore (ls1 := [.ref 12, .int (0 : Int32), .ref 74, .int (1 : Int32), .int (0 : Int32), .int (0 : Int32), .int (0 : Int32)]) (p_62_72 _ _) (Nat.le_of_ble_eq_true rfl) rfl rfl ?_
  refine h_aload (p_62_74 _ _) rfl ?_
  refine h_getr (a := 1) (p_62_75 _ _) isI_6_0 sh_12 (by decide +kernel) ?_
  refine h_iload (p_62_78 _ _) rfl ?_
  refine h_iload (p_62_80 _ _) rfl ?_
  refine h_push (p_62_81 _ _) ?_
  refine h_cmpF (p_62_82 _ _) (by decide) ?_
  refine h_push (p_62_85 _ _) ?_
  refine h_goto (p_62_86 _ _) ?_
  refine h_aload (p_62_90 _ _) rfl ?_
  refine h_getr (a := 77) (p_62_91 _ _) isI_5_1 sh_74 (by decide +kernel) ?_
  refine h_call (z := 93) (i := 1) (as := [.int (0 : Int32), .int (0 : Int32), .ref 77]) (rest := []) (p_62_94 _ _) mK_93 mL_93 rfl rfl (Nat.le_of_ble_eq_true rfl) rfl (Nat.le_of_ble_eq_true rfl) sh_1 (kc_124 (d := d + 0) ⟨rfl, ?_⟩)
  refine h_iinc (x1 := (1 : Int32)) (ls1 := [.ref 12, .int (0 : Int32), .ref 74, .int (1 : Int32), .int (0 : Int32), .int (1 : Int32), .int (0 : Int32)]) (p_62_97 _ _) rfl rfl (by decide) rfl ?_
  refine h_goto (p_62_100 _ _) ?_
  refine h_iload (p_62_30 _ _) rfl ?_
  refine h_iload (p_62_32 _ _) rfl ?_
  refine h_cmpT (p_62_33 _ _) (by decide) ?_
  refine h_aload (p_62_103 _ _) rfl ?_
  refine h_iload (p_62_104 _ _) rfl ?_
  refine h_call (z := 40) (i := 74) (as := [.int (0 : Int32)]) (rest := []) (p_62_106 _ _) mK_40 mL_40 rfl rfl (Nat.le_of_ble_eq_true rfl) rfl (Nat.le_of_ble_eq_true rfl) sh_74 (kc_125 (d := d + 2) ⟨rfl, ?_⟩)
  exact h_ret0 (p_62_109 _ _) h
def sx_144 : sT := pV (sx_143) 12 7 (2 : Int32)
def sx_145 : sT := pV (pV (pV (sx_144) 74 10 (0 : Int32)) 80 0 (0 : Int32)) 81 1 (0 : Int32)
theorem kc_127 {L : Nat} {xs : Nat → Int32} {d : Nat} {K : Option Int32 → Nat → Nat → sT → Prop} (h : K none 186 104467 sx_145) : tH L xs 186 104467 (d + 0) 41 0 [.ref 74, .int (0 : Int32)] [] sx_144 K := by
  refine h_aload (p_41_0 _ _) rfl ?_
  refine h_aload (p_41_1 _ _) rfl ?_
  refine h_geti (x := (0 : Int32)) (p_41_2 _ _) isI_5_6 sh_74 (by decide +kernel) ?_
  refine h_push (p_41_5 _ _) ?_
  refine h_bin (w := (0 : Int32)) (p_41_6 _ _) (by decide) ?_
  refine h_iload (p_41_7 _ _) rfl ?_
  refine h_bin (w := (0 : Int32)) (p_41_8 _ _) (by decide) ?_
  refine h_puti (p_41_9 _ _) isI_5_10 sh_74 (by decide) ?_
  refine h_aload (p_41_12 _ _) rfl ?_
  refine h_getr (a := 80) (p_41_13 _ _) isI_5_3 sh_74 (by decide +kernel) ?_
  refine h_aload (p_41_16 _ _) rfl ?_
  refine h_geti (x := (0 : Int32)) (p_41_17 _ _) isI_5_10 sh_74 (by decide +kernel) ?_
  refine h_push (p_41_20 _ _) ?_
  refine h_ast (k := 0) (p_41_21 _ _) sh_80 (by decide) (by decide) (by decide) ?_
  refine h_aload (p_41_22 _ _) rfl ?_
  refine h_getr (a := 81) (p_41_23 _ _) isI_5_4 sh_74 (by decide +kernel) ?_
  refine h_aload (p_41_26 _ _) rfl ?_
  refine h_geti (x := (0 : Int32)) (p_41_27 _ _) isI_5_10 sh_74 (by decide +kernel) ?_
  refine h_push (p_41_30 _ _) ?_
  refine h_bin (w := (1 : Int32)) (p_41_31 _ _) (by decide) ?_
  refine h_aload (p_41_32 _ _) rfl ?_
  refine h_getr (a := 81) (p_41_33 _ _) isI_5_4 sh_74 (by decide +kernel) ?_
  refine h_aload (p_41_36 _ _) rfl ?_
  refine h_geti (x := (0 : Int32)) (p_41_37 _ _) isI_5_10 sh_74 (by decide +kernel) ?_
  refine h_ald (k := 0) (x := (0 : Int32)) (p_41_40 _ _) sh_81 (by decide) (by decide) (by decide +kernel) ?_
  refine h_ast (k := 1) (p_41_41 _ _) sh_81 (by decide) (by decide) (by decide) ?_
  exact h_ret0 (p_41_42 _ _) h
def sx_146 : sT := pV (sx_145) 12 5 (0 : Int32)
def sx_147 : sT := pV (pV (sx_146) 15 0 (0 : Int32)) 12 5 (1 : Int32)
theorem kc_128 {L : Nat} {xs : Nat → Int32} {d : Nat} {K : Option Int32 → Nat → Nat → sT → Prop} (h : K none 186 104467 sx_147) : tH L xs 186 104467 (d + 0) 67 0 [.ref 12, .int (0 : Int32)] [] sx_146 K := by
  refine h_aload (p_67_0 _ _) rfl ?_
  refine h_geti (x := (0 : Int32)) (p_67_1 _ _) isI_6_5 sh_12 (by decide +kernel) ?_
  refine h_push (p_67_4 _ _) ?_
  refine h_cmpF (p_67_7 _ _) (by decide) ?_
  refine h_aload (p_67_10 _ _) rfl ?_
  refine h_getr (a := 15) (p_67_11 _ _) isI_6_3 sh_12 (by decide +kernel) ?_
  refine h_aload (p_67_14 _ _) rfl ?_
  refine h_geti (x := (0 : Int32)) (p_67_15 _ _) isI_6_5 sh_12 (by decide +kernel) ?_
  refine h_iload (p_67_18 _ _) rfl ?_
  refine h_ast (k := 0) (p_67_19 _ _) sh_15 (by decide) (by decide) (by decide) ?_
  refine h_aload (p_67_20 _ _) rfl ?_
  refine h_dup (p_67_21 _ _) ?_
  refine h_geti (x := (0 : Int32)) (p_67_22 _ _) isI_6_5 sh_12 (by decide +kernel) ?_
  refine h_push (p_67_25 _ _) ?_
  refine h_bin (w := (1 : Int32)) (p_67_26 _ _) (by decide) ?_
  refine h_puti (p_67_27 _ _) isI_6_5 sh_12 (by decide) ?_
  exact h_ret0 (p_67_30 _ _) h
def sx_148 : sT := pV (sx_147) 12 5 (0 : Int32)
theorem kc_129 {L : Nat} {xs : Nat → Int32} {d : Nat} {K : Option Int32 → Nat → Nat → sT → Prop} (h : K (some (0 : Int32)) 186 104467 sx_148) : tH L xs 186 104467 (d + 0) 81 0 [.ref 1, .int (0 : Int32)] [] sx_148 K := by
  refine h_iload (p_81_0 _ _) rfl ?_
  refine h_ifF (p_81_1 _ _) (by decide) ?_
  refine h_iload (p_81_4 _ _) rfl ?_
  refine h_aload (p_81_5 _ _) rfl ?_
  refine h_geti (x := (5 : Int32)) (p_81_6 _ _) isI_8_7 sh_1 (by decide +kernel) ?_
  refine h_cmpF (p_81_9 _ _) (by decide) ?_
  refine h_aload (p_81_12 _ _) rfl ?_
  refine h_getr (a := 2) (p_81_13 _ _) isI_8_0 sh_1 (by decide +kernel) ?_
  refine h_iload (p_81_16 _ _) rfl ?_
  refine h_ald (k := 0) (x := (0 : Int32)) (p_81_17 _ _) sh_2 (by decide) (by decide) (by decide +kernel) ?_
  refine h_goto (p_81_18 _ _) ?_
  exact h_ret1 (p_81_22 _ _) h
theorem kc_130 {L : Nat} {xs : Nat → Int32} {d : Nat} {K : Option Int32 → Nat → Nat → sT → Prop} (h : K none 186 104467 sx_148) : tH L xs 186 104467 (d + 1) 65 0 [.ref 12, .int (0 : Int32), .ref 74, .int (0 : Int32), .null, .null] [] sx_148 K := by
  refine h_iload (p_65_0 _ _) rfl ?_
  refine h_push (p_65_1 _ _) ?_
  refine h_cmpT (p_65_3 _ _) (by decide) ?_
  refine h_aload (p_65_7 _ _) rfl ?_
  refine h_geti (x := (0 : Int32)) (p_65_8 _ _) isI_6_5 sh_12 (by decide +kernel) ?_
  refine h_istore (ls1 := [.ref 12, .int (0 : Int32), .ref 74, .int (0 : Int32), .int (0 : Int32), .null]) (p_65_11 _ _) (Nat.le_of_ble_eq_true rfl) rfl rfl ?_
  refine h_aload (p_65_13 _ _) rfl ?_
  refine h_getr (a := 1) (p_65_14 _ _) isI_6_0 sh_12 (by decide +kernel) ?_
  refine h_iload (p_65_17 _ _) rfl ?_
  refine h_callr (x := (0 : Int32)) (z := 81) (i := 1) (as := [.int (0 : Int32)]) (rest := []) (p_65_18 _ _) mK_81 mL_81 rfl rfl (Nat.le_of_ble_eq_true rfl) rfl (Nat.le_of_ble_eq_true rfl) sh_1 (kc_129 (d := d + 0) ⟨rfl, ?_⟩)
  refine h_tab (t := 140) (p_65_21 _ _) (by decide) ?_
  refine h_iload (p_65_140 _ _) rfl ?_
  refine h_aload (p_65_141 _ _) rfl ?_
  refine h_geti (x := (2 : Int32)) (p_65_142 _ _) isI_6_7 sh_12 (by decide +kernel) ?_
  refine h_cmpT (p_65_145 _ _) (by decide) ?_
  exact h_ret0 (p_65_156 _ _) h
theorem kc_131 {L : Nat} {xs : Nat → Int32} {d : Nat} {K : Option Int32 → Nat → Nat → sT → Prop} (h : K (some (-1 : Int32)) 186 104467 sx_148) : tH L xs 186 104467 (d + 0) 84 0 [.ref 1, .int (0 : Int32)] [] sx_148 K := by
  refine h_iload (p_84_0 _ _) rfl ?_
  refine h_ifF (p_84_1 _ _) (by decide) ?_
  refine h_iload (p_84_4 _ _) rfl ?_
  refine h_aload (p_84_5 _ _) rfl ?_
  refine h_geti (x := (5 : Int32)) (p_84_6 _ _) isI_8_7 sh_1 (by decide +kernel) ?_
  refine h_cmpF (p_84_9 _ _) (by decide) ?_
  refine h_aload (p_84_12 _ _) rfl ?_
  refine h_getr (a := 5) (p_84_13 _ _) isI_8_3 sh_1 (by decide +kernel) ?_
  refine h_iload (p_84_16 _ _) rfl ?_
  refine h_ald (k := 0) (x := (-1 : Int32)) (p_84_17 _ _) sh_5 (by decide) (by decide) (by decide +kernel) ?_
  refine h_goto (p_84_18 _ _) ?_
  exact h_ret1 (p_84_22 _ _) h
theorem kc_132 {L : Nat} {xs : Nat → Int32} {d : Nat} {K : Option Int32 → Nat → Nat → sT → Prop} (h : K (some (0 : Int32)) 186 104467 sx_148) : tH L xs 186 104467 (d + 1) 86 0 [.ref 1, .int (0 : Int32)] [] sx_148 K := by
  refine h_aload (p_86_0 _ _) rfl ?_
  refine h_iload (p_86_1 _ _) rfl ?_
  refine h_callr (x := (-1 : Int32)) (z := 84) (i := 1) (as := [.int (0 : Int32)]) (rest := []) (p_86_2 _ _) mK_84 mL_84 rfl rfl (Nat.le_of_ble_eq_true rfl) rfl (Nat.le_of_ble_eq_true rfl) sh_1 (kc_131 (d := d + 0) ⟨rfl, ?_⟩)
  refine h_ifT (p_86_5 _ _) (by decide) ?_
  refine h_push (p_86_12 _ _) ?_
  exact h_ret2 (p_86_13 _ _) (by decide) h
def sx_149 : sT := pV (sx_148) 12 5 (0 : Int32)
theorem kc_133 {L : Nat} {xs : Nat → Int32} {d : Nat} {K : Option Int32 → Nat → Nat → sT → Prop} (h : K none 186 104467 sx_149) : tH L xs 186 104467 (d + 2) 64 0 [.ref 12, .int (0 : Int32), .ref 74, .int (0 : Int32), .null, .null, .null] [] sx_147 K := by
  refine h_push (p_64_0 _ _) ?_
  refine h_istore (ls1 := [.ref 12, .int (0 : Int32), .ref 74, .int (0 : Int32), .int (1 : Int32), .null, .null]) (p_64_1 _ _) (Nat.le_of_ble_eq_true rfl) rfl rfl ?_
  refine h_aload (p_64_3 _ _) rfl ?_
  refine h_geti (x := (1 : Int32)) (p_64_4 _ _) isI_6_5 sh_12 (by decide +kernel) ?_
  refine h_push (p_64_7 _ _) ?_
  refine h_bin (w := (0 : Int32)) (p_64_8 _ _) (by decide) ?_
  refine h_istore (ls1 := [.ref 12, .int (0 : Int32), .ref 74, .int (0 : Int32), .int (1 : Int32), .int (0 : Int32), .null]) (p_64_9 _ _) (Nat.le_of_ble_eq_true rfl) rfl rfl ?_
  refine h_iload (p_64_11 _ _) rfl ?_
  refine h_iload (p_64_13 _ _) rfl ?_
  refine h_cmpF (p_64_14 _ _) (by decide) ?_
  refine h_iload (p_64_17 _ _) rfl ?_
  refine h_ifF (p_64_19 _ _) (by decide) ?_
  refine h_aload (p_64_22 _ _) rfl ?_
  refine h_getr (a := 15) (p_64_23 _ _) isI_6_3 sh_12 (by decide +kernel) ?_
  refine h_iload (p_64_26 _ _) rfl ?_
  refine h_ald (k := 0) (x := (0 : Int32)) (p_64_28 _ _) sh_15 (by decide) (by decide) (by decide +kernel) ?_
  refine h_istore (ls1 := [.ref 12, .int (0 : Int32), .ref 74, .int (0 : Int32), .int (1 : Int32), .int (0 : Int32), .int (0 : Int32)]) (p_64_29 _ _) (Nat.le_of_ble_eq_true rfl) rfl rfl ?_
  refine h_aload (p_64_31 _ _) rfl ?_
  refine h_iload (p_64_32 _ _) rfl ?_
  refine h_puti (p_64_34 _ _) isI_6_5 sh_12 (by decide) ?_
  refine h_aload (p_64_37 _ _) rfl ?_
  refine h_iload (p_64_38 _ _) rfl ?_
  refine h_aload (p_64_40 _ _) rfl ?_
  refine h_iload (p_64_41 _ _) rfl ?_
  refine h_call (z := 65) (i := 12) (as := [.int (0 : Int32), .ref 74, .int (0 : Int32)]) (rest := []) (p_64_42 _ _) mK_65 mL_65 rfl rfl (Nat.le_of_ble_eq_true rfl) rfl (Nat.le_of_ble_eq_true rfl) sh_12 (kc_130 (d := d + 0) ⟨rfl, ?_⟩)
  refine h_aload (p_64_45 _ _) rfl ?_
  refine h_getr (a := 1) (p_64_46 _ _) isI_6_0 sh_12 (by decide +kernel) ?_
  refine h_iload (p_64_49 _ _) rfl ?_
  refine h_callr (x := (0 : Int32)) (z := 86) (i := 1) (as := [.int (0 : Int32)]) (rest := []) (p_64_51 _ _) mK_86 mL_86 rfl rfl (Nat.le_of_ble_eq_true rfl) rfl (Nat.le_of_ble_eq_true rfl) sh_1 (kc_132 (d := d + 0) ⟨rfl, ?_⟩)
  refine h_istore (ls1 := [.ref 12, .int (0 : Int32), .ref 74, .int (0 : Int32), .int (0 : Int32), .int (0 : Int32), .int (0 : Int32)]) (p_64_54 _ _) (Nat.le_of_ble_eq_true rfl) rfl rfl ?_
  refine h_iinc (x1 := (-1 : Int32)) (ls1 := [.ref 12, .int (0 : Int32), .ref 74, .int (0 : Int32), .int (0 : Int32), .int (-1 : Int32), .int (0 : Int32)]) (p_64_56 _ _) rfl rfl (by decide) rfl ?_
  refine h_goto (p_64_59 _ _) ?_
  refine h_iload (p_64_11 _ _) rfl ?_
  refine h_iload (p_64_13 _ _) rfl ?_
  refine h_cmpT (p_64_14 _ _) (by decide) ?_
  refine h_aload (p_64_62 _ _) rfl ?_
  refine h_iload (p_64_63 _ _) rfl ?_
  refine h_puti (p_64_64 _ _) isI_6_5 sh_12 (by decide) ?_
  exact h_ret0 (p_64_67 _ _) h
theorem kc_134 {L : Nat} {xs : Nat → Int32} {d : Nat} {K : Option Int32 → Nat → Nat → sT → Prop} (h : K none 186 104467 sx_149) : tH L xs 186 104467 (d + 3) 63 0 [.ref 12, .int (0 : Int32), .int (0 : Int32), .ref 74, .null] [] sx_143 K := by
  refine h_aload (p_63_0 _ _) rfl ?_
  refine h_push (p_63_1 _ _) ?_
  refine h_iload (p_63_2 _ _) rfl ?_
  refine h_bin (w := (2 : Int32)) (p_63_3 _ _) (by decide) ?_
  refine h_puti (p_63_4 _ _) isI_6_7 sh_12 (by decide) ?_
  refine h_aload (p_63_7 _ _) rfl ?_
  refine h_iload (p_63_8 _ _) rfl ?_
  refine h_call (z := 41) (i := 74) (as := [.int (0 : Int32)]) (rest := []) (p_63_9 _ _) mK_41 mL_41 rfl rfl (Nat.le_of_ble_eq_true rfl) rfl (Nat.le_of_ble_eq_true rfl) sh_74 (kc_127 (d := d + 2) ⟨rfl, ?_⟩)
  refine h_aload (p_63_12 _ _) rfl ?_
  refine h_push (p_63_13 _ _) ?_
  refine h_puti (p_63_14 _ _) isI_6_5 sh_12 (by decide) ?_
  refine h_aload (p_63_17 _ _) rfl ?_
  refine h_getr (a := 14) (p_63_18 _ _) isI_6_2 sh_12 (by decide +kernel) ?_
  refine h_iload (p_63_21 _ _) rfl ?_
  refine h_ald (k := 0) (x := (1 : Int32)) (p_63_22 _ _) sh_14 (by decide) (by decide) (by decide +kernel) ?_
  refine h_push (p_63_23 _ _) ?_
  refine h_bin (w := (0 : Int32)) (p_63_24 _ _) (by decide) ?_
  refine h_istore (ls1 := [.ref 12, .int (0 : Int32), .int (0 : Int32), .ref 74, .int (0 : Int32)]) (p_63_25 _ _) (Nat.le_of_ble_eq_true rfl) rfl rfl ?_
  refine h_iload (p_63_27 _ _) rfl ?_
  refine h_ifF (p_63_29 _ _) (by decide) ?_
  refine h_aload (p_63_32 _ _) rfl ?_
  refine h_aload (p_63_33 _ _) rfl ?_
  refine h_getr (a := 13) (p_63_34 _ _) isI_6_1 sh_12 (by decide +kernel) ?_
  refine h_iload (p_63_37 _ _) rfl ?_
  refine h_push (p_63_38 _ _) ?_
  refine h_bin (w := (0 : Int32)) (p_63_40 _ _) (by decide) ?_
  refine h_iload (p_63_41 _ _) rfl ?_
  refine h_bin (w := (0 : Int32)) (p_63_43 _ _) (by decide) ?_
  refine h_ald (k := 0) (x := (0 : Int32)) (p_63_44 _ _) sh_13 (by decide) (by decide) (by decide +kernel) ?_
  refine h_call (z := 67) (i := 12) (as := [.int (0 : Int32)]) (rest := []) (p_63_45 _ _) mK_67 mL_67 rfl rfl (Nat.le_of_ble_eq_true rfl) rfl (Nat.le_of_ble_eq_true rfl) sh_12 (kc_128 (d := d + 2) ⟨rfl, ?_⟩)
  refine h_iinc (x1 := (-1 : Int32)) (ls1 := [.ref 12, .int (0 : Int32), .int (0 : Int32), .ref 74, .int (-1 : Int32)]) (p_63_48 _ _) rfl rfl (by decide) rfl ?_
  refine h_goto (p_63_51 _ _) ?_
  refine h_iload (p_63_27 _ _) rfl ?_
  refine h_ifT (p_63_29 _ _) (by decide) ?_
  refine h_aload (p_63_54 _ _) rfl ?_
  refine h_push (p_63_55 _ _) ?_
  refine h_aload (p_63_56 _ _) rfl ?_
  refine h_push (p_63_57 _ _) ?_
  refine h_call (z := 64) (i := 12) (as := [.int (0 : Int32), .ref 74, .int (0 : Int32)]) (rest := []) (p_63_58 _ _) mK_64 mL_64 rfl rfl (Nat.le_of_ble_eq_true rfl) rfl (Nat.le_of_ble_eq_true rfl) sh_12 (kc_133 (d := d + 0) ⟨rfl, ?_⟩)
  exact h_ret0 (p_63_61 _ _) h
def sx_150 : sT := pV (sx_149) 12 7 (3 : Int32)
def sx_151 : sT := pV (pV (pV (sx_150) 74 10 (1 : Int32)) 80 1 (0 : Int32)) 81 2 (0 : Int32)
theorem kc_135 {L : Nat} {xs : Nat → Int32} {d : Nat} {K : Option Int32 → Nat → Nat → sT → Prop} (h : K none 186 104467 sx_151) : tH L xs 186 104467 (d + 0) 41 0 [.ref 74, .int (1 : Int32)] [] sx_150 K := by
  refine h_aload (p_41_0 _ _) rfl ?_
  refine h_aload (p_41_1 _ _) rfl ?_
  refine h_geti (x := (0 : Int32)) (p_41_2 _ _) isI_5_6 sh_74 (by decide +kernel) ?_
  refine h_push (p_41_5 _ _) ?_
  refine h_bin (w := (0 : Int32)) (p_41_6 _ _) (by decide) ?_
  refine h_iload (p_41_7 _ _) rfl ?_
  refine h_bin (w := (1 : Int32)) (p_41_8 _ _) (by decide) ?_
  refine h_puti (p_41_9 _ _) isI_5_10 sh_74 (by decide) ?_
  refine h_aload (p_41_12 _ _) rfl ?_
  refine h_getr (a := 80) (p_41_13 _ _) isI_5_3 sh_74 (by decide +kernel) ?_
  refine h_aload (p_41_16 _ _) rfl ?_
  refine h_geti (x := (1 : Int32)) (p_41_17 _ _) isI_5_10 sh_74 (by decide +kernel) ?_
  refine h_push (p_41_20 _ _) ?_
  refine h_ast (k := 1) (p_41_21 _ _) sh_80 (by decide) (by decide) (by decide) ?_
  refine h_aload (p_41_22 _ _) rfl ?_
  refine h_getr (a := 81) (p_41_23 _ _) isI_5_4 sh_74 (by decide +kernel) ?_
  refine h_aload (p_41_26 _ _) rfl ?_
  refine h_geti (x := (1 : Int32)) (p_41_27 _ _) isI_5_10 sh_74 (by decide +kernel) ?_
  refine h_push (p_41_30 _ _) ?_
  refine h_bin (w := (2 : Int32)) (p_41_31 _ _) (by decide) ?_
  refine h_aload (p_41_32 _ _) rfl ?_
  refine h_getr (a := 81) (p_41_33 _ _) isI_5_4 sh_74 (by decide +kernel) ?_
  refine h_aload (p_41_36 _ _) rfl ?_
  refine h_geti (x := (1 : Int32)) (p_41_37 _ _) isI_5_10 sh_74 (by decide +kernel) ?_
  refine h_ald (k := 1) (x := (0 : Int32)) (p_41_40 _ _) sh_81 (by decide) (by decide) (by decide +kernel) ?_
  refine h_ast (k := 2) (p_41_41 _ _) sh_81 (by decide) (by decide) (by decide) ?_
  exact h_ret0 (p_41_42 _ _) h
def sx_152 : sT := pV (sx_151) 12 5 (0 : Int32)
def sx_153 : sT := pV (pV (sx_152) 15 0 (0 : Int32)) 12 5 (1 : Int32)
theorem kc_136 {L : Nat} {xs : Nat → Int32} {d : Nat} {K : Option Int32 → Nat → Nat → sT → Prop} (h : K none 186 104467 sx_153) : tH L xs 186 104467 (d + 0) 67 0 [.ref 12, .int (0 : Int32)] [] sx_152 K := by
  refine h_aload (p_67_0 _ _) rfl ?_
  refine h_geti (x := (0 : Int32)) (p_67_1 _ _) isI_6_5 sh_12 (by decide +kernel) ?_
  refine h_push (p_67_4 _ _) ?_
  refine h_cmpF (p_67_7 _ _) (by decide) ?_
  refine h_aload (p_67_10 _ _) rfl ?_
  refine h_getr (a := 15) (p_67_11 _ _) isI_6_3 sh_12 (by decide +kernel) ?_
  refine h_aload (p_67_14 _ _) rfl ?_
  refine h_geti (x := (0 : Int32)) (p_67_15 _ _) isI_6_5 sh_12 (by decide +kernel) ?_
  refine h_iload (p_67_18 _ _) rfl ?_
  refine h_ast (k := 0) (p_67_19 _ _) sh_15 (by decide) (by decide) (by decide) ?_
  refine h_aload (p_67_20 _ _) rfl ?_
  refine h_dup (p_67_21 _ _) ?_
  refine h_geti (x := (0 : Int32)) (p_67_22 _ _) isI_6_5 sh_12 (by decide +kernel) ?_
  refine h_push (p_67_25 _ _) ?_
  refine h_bin (w := (1 : Int32)) (p_67_26 _ _) (by decide) ?_
  refine h_puti (p_67_27 _ _) isI_6_5 sh_12 (by decide) ?_
  exact h_ret0 (p_67_30 _ _) h
def sx_154 : sT := pV (sx_153) 12 5 (0 : Int32)
theorem kc_137 {L : Nat} {xs : Nat → Int32} {d : Nat} {K : Option Int32 → Nat → Nat → sT → Prop} (h : K (some (0 : Int32)) 186 104467 sx_154) : tH L xs 186 104467 (d + 0) 81 0 [.ref 1, .int (0 : Int32)] [] sx_154 K := by
  refine h_iload (p_81_0 _ _) rfl ?_
  refine h_ifF (p_81_1 _ _) (by decide) ?_
  refine h_iload (p_81_4 _ _) rfl ?_
  refine h_aload (p_81_5 _ _) rfl ?_
  refine h_geti (x := (5 : Int32)) (p_81_6 _ _) isI_8_7 sh_1 (by decide +kernel) ?_
  refine h_cmpF (p_81_9 _ _) (by decide) ?_
  refine h_aload (p_81_12 _ _) rfl ?_
  refine h_getr (a := 2) (p_81_13 _ _) isI_8_0 sh_1 (by decide +kernel) ?_
  refine h_iload (p_81_16 _ _) rfl ?_
  refine h_ald (k := 0) (x := (0 : Int32)) (p_81_17 _ _) sh_2 (by decide) (by decide) (by decide +kernel) ?_
  refine h_goto (p_81_18 _ _) ?_
  exact h_ret1 (p_81_22 _ _) h
theorem kc_138 {L : Nat} {xs : Nat → Int32} {d : Nat} {K : Option Int32 → Nat → Nat → sT → Prop} (h : K none 186 104467 sx_154) : tH L xs 186 104467 (d + 1) 65 0 [.ref 12, .int (0 : Int32), .ref 74, .int (0 : Int32), .null, .null] [] sx_154 K := by
  refine h_iload (p_65_0 _ _) rfl ?_
  refine h_push (p_65_1 _ _) ?_
  refine h_cmpT (p_65_3 _ _) (by decide) ?_
  refine h_aload (p_65_7 _ _) rfl ?_
  refine h_geti (x := (0 : Int32)) (p_65_8 _ _) isI_6_5 sh_12 (by decide +kernel) ?_
  refine h_istore (ls1 := [.ref 12, .int (0 : Int32), .ref 74, .int (0 : Int32), .int (0 : Int32), .null]) (p_65_11 _ _) (Nat.le_of_ble_eq_true rfl) rfl rfl ?_
  refine h_aload (p_65_13 _ _) rfl ?_
  refine h_getr (a := 1) (p_65_14 _ _) isI_6_0 sh_12 (by decide +kernel) ?_
  refine h_iload (p_65_17 _ _) rfl ?_
  refine h_callr (x := (0 : Int32)) (z := 81) (i := 1) (as := [.int (0 : Int32)]) (rest := []) (p_65_18 _ _) mK_81 mL_81 rfl rfl (Nat.le_of_ble_eq_true rfl) rfl (Nat.le_of_ble_eq_true rfl) sh_1 (kc_137 (d := d + 0) ⟨rfl, ?_⟩)
  refine h_tab (t := 140) (p_65_21 _ _) (by decide) ?_
  refine h_iload (p_65_140 _ _) rfl ?_
  refine h_aload (p_65_141 _ _) rfl ?_
  refine h_geti (x := (3 : Int32)) (p_65_142 _ _) isI_6_7 sh_12 (by decide +kernel) ?_
  refine h_cmpT (p_65_145 _ _) (by decide) ?_
  exact h_ret0 (p_65_156 _ _) h
theorem kc_139 {L : Nat} {xs : Nat → Int32} {d : Nat} {K : Option Int32 → Nat → Nat → sT → Prop} (h : K (some (-1 : Int32)) 186 104467 sx_154) : tH L xs 186 104467 (d + 0) 84 0 [.ref 1, .int (0 : Int32)] [] sx_154 K := by
  refine h_iload (p_84_0 _ _) rfl ?_
  refine h_ifF (p_84_1 _ _) (by decide) ?_
  refine h_iload (p_84_4 _ _) rfl ?_
  refine h_aload (p_84_5 _ _) rfl ?_
  refine h_geti (x := (5 : Int32)) (p_84_6 _ _) isI_8_7 sh_1 (by decide +kernel) ?_
  refine h_cmpF (p_84_9 _ _) (by decide) ?_
  refine h_aload (p_84_12 _ _) rfl ?_
  refine h_getr (a := 5) (p_84_13 _ _) isI_8_3 sh_1 (by decide +kernel) ?_
  refine h_iload (p_84_16 _ _) rfl ?_
  refine h_ald (k := 0) (x := (-1 : Int32)) (p_84_17 _ _) sh_5 (by decide) (by decide) (by decide +kernel) ?_
  refine h_goto (p_84_18 _ _) ?_
  exact h_ret1 (p_84_22 _ _) h
theorem kc_140 {L : Nat} {xs : Nat → Int32} {d : Nat} {K : Option Int32 → Nat → Nat → sT → Prop} (h : K (some (0 : Int32)) 186 104467 sx_154) : tH L xs 186 104467 (d + 1) 86 0 [.ref 1, .int (0 : Int32)] [] sx_154 K := by
  refine h_aload (p_86_0 _ _) rfl ?_
  refine h_iload (p_86_1 _ _) rfl ?_
  refine h_callr (x := (-1 : Int32)) (z := 84) (i := 1) (as := [.int (0 : Int32)]) (rest := []) (p_86_2 _ _) mK_84 mL_84 rfl rfl (Nat.le_of_ble_eq_true rfl) rfl (Nat.le_of_ble_eq_true rfl) sh_1 (kc_139 (d := d + 0) ⟨rfl, ?_⟩)
  refine h_ifT (p_86_5 _ _) (by decide) ?_
  refine h_push (p_86_12 _ _) ?_
  exact h_ret2 (p_86_13 _ _) (by decide) h
def sx_155 : sT := pV (sx_154) 12 5 (0 : Int32)
theorem kc_141 {L : Nat} {xs : Nat → Int32} {d : Nat} {K : Option Int32 → Nat → Nat → sT → Prop} (h : K none 186 104467 sx_155) : tH L xs 186 104467 (d + 2) 64 0 [.ref 12, .int (0 : Int32), .ref 74, .int (0 : Int32), .null, .null, .null] [] sx_153 K := by
  refine h_push (p_64_0 _ _) ?_
  refine h_istore (ls1 := [.ref 12, .int (0 : Int32), .ref 74, .int (0 : Int32), .int (1 : Int32), .null, .null]) (p_64_1 _ _) (Nat.le_of_ble_eq_true rfl) rfl rfl ?_
  refine h_aload (p_64_3 _ _) rfl ?_
  refine h_geti (x := (1 : Int32)) (p_64_4 _ _) isI_6_5 sh_12 (by decide +kernel) ?_
  refine h_push (p_64_7 _ _) ?_
  refine h_bin (w := (0 : Int32)) (p_64_8 _ _) (by decide) ?_
  refine h_istore (ls1 := [.ref 12, .int (0 : Int32), .ref 74, .int (0 : Int32), .int (1 : Int32), .int (0 : Int32), .null]) (p_64_9 _ _) (Nat.le_of_ble_eq_true rfl) rfl rfl ?_
  refine h_iload (p_64_11 _ _) rfl ?_
  refine h_iload (p_64_13 _ _) rfl ?_
  refine h_cmpF (p_64_14 _ _) (by decide) ?_
  refine h_iload (p_64_17 _ _) rfl ?_
  refine h_ifF (p_64_19 _ _) (by decide) ?_
  refine h_aload (p_64_22 _ _) rfl ?_
  refine h_getr (a := 15) (p_64_23 _ _) isI_6_3 sh_12 (by decide +kernel) ?_
  refine h_iload (p_64_26 _ _) rfl ?_
  refine h_ald (k := 0) (x := (0 : Int32)) (p_64_28 _ _) sh_15 (by decide) (by decide) (by decide +kernel) ?_
  refine h_istore (ls1 := [.ref 12, .int (0 : Int32), .ref 74, .int (0 : Int32), .int (1 : Int32), .int (0 : Int32), .int (0 : Int32)]) (p_64_29 _ _) (Nat.le_of_ble_eq_true rfl) rfl rfl ?_
  refine h_aload (p_64_31 _ _) rfl ?_
  refine h_iload (p_64_32 _ _) rfl ?_
  refine h_puti (p_64_34 _ _) isI_6_5 sh_12 (by decide) ?_
  refine h_aload (p_64_37 _ _) rfl ?_
  refine h_iload (p_64_38 _ _) rfl ?_
  refine h_aload (p_64_40 _ _) rfl ?_
  refine h_iload (p_64_41 _ _) rfl ?_
  refine h_call (z := 65) (i := 12) (as := [.int (0 : Int32), .ref 74, .int (0 : Int32)]) (rest := []) (p_64_42 _ _) mK_65 mL_65 rfl rfl (Nat.le_of_ble_eq_true rfl) rfl (Nat.le_of_ble_eq_true rfl) sh_12 (kc_138 (d := d + 0) ⟨rfl, ?_⟩)
  refine h_aload (p_64_45 _ _) rfl ?_
  refine h_getr (a := 1) (p_64_46 _ _) isI_6_0 sh_12 (by decide +kernel) ?_
  refine h_iload (p_64_49 _ _) rfl ?_
  refine h_callr (x := (0 : Int32)) (z := 86) (i := 1) (as := [.int (0 : Int32)]) (rest := []) (p_64_51 _ _) mK_86 mL_86 rfl rfl (Nat.le_of_ble_eq_true rfl) rfl (Nat.le_of_ble_eq_true rfl) sh_1 (kc_140 (d := d + 0) ⟨rfl, ?_⟩)
  refine h_istore (ls1 := [.ref 12, .int (0 : Int32), .ref 74, .int (0 : Int32), .int (0 : Int32), .int (0 : Int32), .int (0 : Int32)]) (p_64_54 _ _) (Nat.le_of_ble_eq_true rfl) rfl rfl ?_
  refine h_iinc (x1 := (-1 : Int32)) (ls1 := [.ref 12, .int (0 : Int32), .ref 74, .int (0 : Int32), .int (0 : Int32), .int (-1 : Int32), .int (0 : Int32)]) (p_64_56 _ _) rfl rfl (by decide) rfl ?_
  refine h_goto (p_64_59 _ _) ?_
  refine h_iload (p_64_11 _ _) rfl ?_
  refine h_iload (p_64_13 _ _) rfl ?_
  refine h_cmpT (p_64_14 _ _) (by decide) ?_
  refine h_aload (p_64_62 _ _) rfl ?_
  refine h_iload (p_64_63 _ _) rfl ?_
  refine h_puti (p_64_64 _ _) isI_6_5 sh_12 (by decide) ?_
  exact h_ret0 (p_64_67 _ _) h
theorem kc_142 {L : Nat} {xs : Nat → Int32} {d : Nat} {K : Option Int32 → Nat → Nat → sT → Prop} (h : K none 186 104467 sx_155) : tH L xs 186 104467 (d + 3) 63 0 [.ref 12, .int (0 : Int32), .int (1 : Int32), .ref 74, .null] [] sx_149 K := by
  refine h_aload (p_63_0 _ _) rfl ?_
  refine h_push (p_63_1 _ _) ?_
  refine h_iload (p_63_2 _ _) rfl ?_
  refine h_bin (w := (3 : Int32)) (p_63_3 _ _) (by decide) ?_
  refine h_puti (p_63_4 _ _) isI_6_7 sh_12 (by decide) ?_
  refine h_aload (p_63_7 _ _) rfl ?_
  refine h_iload (p_63_8 _ _) rfl ?_
  refine h_call (z := 41) (i := 74) (as := [.int (1 : Int32)]) (rest := []) (p_63_9 _ _) mK_41 mL_41 rfl rfl (Nat.le_of_ble_eq_true rfl) rfl (Nat.le_of_ble_eq_true rfl) sh_74 (kc_135 (d := d + 2) ⟨rfl, ?_⟩)
  refine h_aload (p_63_12 _ _) rfl ?_
  refine h_push (p_63_13 _ _) ?_
  refine h_puti (p_63_14 _ _) isI_6_5 sh_12 (by decide) ?_
  refine h_aload (p_63_17 _ _) rfl ?_
  refine h_getr (a := 14) (p_63_18 _ _) isI_6_2 sh_12 (by decide +kernel) ?_
  refine h_iload (p_63_21 _ _) rfl ?_
  refine h_ald (k := 0) (x := (1 : Int32)) (p_63_22 _ _) sh_14 (by decide) (by decide) (by decide +kernel) ?_
  refine h_push (p_63_23 _ _) ?_
  refine h_bin (w := (0 : Int32)) (p_63_24 _ _) (by decide) ?_
  refine h_istore (ls1 := [.ref 12, .int (0 : Int32), .int (1 : Int32), .ref 74, .int (0 : Int32)]) (p_63_25 _ _) (Nat.le_of_ble_eq_true rfl) rfl rfl ?_
  refine h_iload (p_63_27 _ _) rfl ?_
  refine h_ifF (p_63_29 _ _) (by decide) ?_
  refine h_aload (p_63_32 _ _) rfl ?_
  refine h_aload (p_63_33 _ _) rfl ?_
  refine h_getr (a := 13) (p_63_34 _ _) isI_6_1 sh_12 (by decide +kernel) ?_
  refine h_iload (p_63_37 _ _) rfl ?_
  refine h_push (p_63_38 _ _) ?_
  refine h_bin (w := (0 : Int32)) (p_63_40 _ _) (by decide) ?_
  refine h_iload (p_63_41 _ _) rfl ?_
  refine h_bin (w := (0 : Int32)) (p_63_43 _ _) (by decide) ?_
  refine h_ald (k := 0) (x := (0 : Int32)) (p_63_44 _ _) sh_13 (by decide) (by decide) (by decide +kernel) ?_
  refine h_call (z := 67) (i := 12) (as := [.int (0 : Int32)]) (rest := []) (p_63_45 _ _) mK_67 mL_67 rfl rfl (Nat.le_of_ble_eq_true rfl) rfl (Nat.le_of_ble_eq_true rfl) sh_12 (kc_136 (d := d + 2) ⟨rfl, ?_⟩)
  refine h_iinc (x1 := (-1 : Int32)) (ls1 := [.ref 12, .int (0 : Int32), .int (1 : Int32), .ref 74, .int (-1 : Int32)]) (p_63_48 _ _) rfl rfl (by decide) rfl ?_
  refine h_goto (p_63_51 _ _) ?_
  refine h_iload (p_63_27 _ _) rfl ?_
  refine h_ifT (p_63_29 _ _) (by decide) ?_
  refine h_aload (p_63_54 _ _) rfl ?_
  refine h_push (p_63_55 _ _) ?_
  refine h_aload (p_63_56 _ _) rfl ?_
  refine h_push (p_63_57 _ _) ?_
  refine h_call (z := 64) (i := 12) (as := [.int (0 : Int32), .ref 74, .int (0 : Int32)]) (rest := []) (p_63_58 _ _) mK_64 mL_64 rfl rfl (Nat.le_of_ble_eq_true rfl) rfl (Nat.le_of_ble_eq_true rfl) sh_12 (kc_141 (d := d + 0) ⟨rfl, ?_⟩)
  exact h_ret0 (p_63_61 _ _) h
def sx_156 : sT := pV (sx_155) 12 7 (4 : Int32)
def sx_157 : sT := pV (pV (pV (sx_156) 74 10 (2 : Int32)) 80 2 (0 : Int32)) 81 3 (0 : Int32)
theorem kc_143 {L : Nat} {xs : Nat → Int32} {d : Nat} {K : Option Int32 → Nat → Nat → sT → Prop} (h : K none 186 104467 sx_157) : tH L xs 186 104467 (d + 0) 41 0 [.ref 74, .int (2 : Int32)] [] sx_156 K := by
  refine h_aload (p_41_0 _ _) rfl ?_
  refine h_aload (p_41_1 _ _) rfl ?_
  refine h_geti (x := (0 : Int32)) (p_41_2 _ _) isI_5_6 sh_74 (by decide +kernel) ?_
  refine h_push (p_41_5 _ _) ?_
  refine h_bin (w := (0 : Int32)) (p_41_6 _ _) (by decide) ?_
  refine h_iload (p_41_7 _ _) rfl ?_
  refine h_bin (w := (2 : Int32)) (p_41_8 _ _) (by decide) ?_
  refine h_puti (p_41_9 _ _) isI_5_10 sh_74 (by decide) ?_
  refine h_aload (p_41_12 _ _) rfl ?_
  refine h_getr (a := 80) (p_41_13 _ _) isI_5_3 sh_74 (by decide +kernel) ?_
  refine h_aload (p_41_16 _ _) rfl ?_
  refine h_geti (x := (2 : Int32)) (p_41_17 _ _) isI_5_10 sh_74 (by decide +kernel) ?_
  refine h_push (p_41_20 _ _) ?_
  refine h_ast (k := 2) (p_41_21 _ _) sh_80 (by decide) (by decide) (by decide) ?_
  refine h_aload (p_41_22 _ _) rfl ?_
  refine h_getr (a := 81) (p_41_23 _ _) isI_5_4 sh_74 (by decide +kernel) ?_
  refine h_aload (p_41_26 _ _) rfl ?_
  refine h_geti (x := (2 : Int32)) (p_41_27 _ _) isI_5_10 sh_74 (by decide +kernel) ?_
  refine h_push (p_41_30 _ _) ?_
  refine h_bin (w := (3 : Int32)) (p_41_31 _ _) (by decide) ?_
  refine h_aload (p_41_32 _ _) rfl ?_
  refine h_getr (a := 81) (p_41_33 _ _) isI_5_4 sh_74 (by decide +kernel) ?_
  refine h_aload (p_41_36 _ _) rfl ?_
  refine h_geti (x := (2 : Int32)) (p_41_37 _ _) isI_5_10 sh_74 (by decide +kernel) ?_
  refine h_ald (k := 2) (x := (0 : Int32)) (p_41_40 _ _) sh_81 (by decide) (by decide) (by decide +kernel) ?_
  refine h_ast (k := 3) (p_41_41 _ _) sh_81 (by decide) (by decide) (by decide) ?_
  exact h_ret0 (p_41_42 _ _) h
def sx_158 : sT := pV (sx_157) 12 5 (0 : Int32)
def sx_159 : sT := pV (pV (sx_158) 15 0 (0 : Int32)) 12 5 (1 : Int32)
theorem kc_144 {L : Nat} {xs : Nat → Int32} {d : Nat} {K : Option Int32 → Nat → Nat → sT → Prop} (h : K none 186 104467 sx_159) : tH L xs 186 104467 (d + 0) 67 0 [.ref 12, .int (0 : Int32)] [] sx_158 K := by
  refine h_aload (p_67_0 _ _) rfl ?_
  refine h_geti (x := (0 : Int32)) (p_67_1 _ _) isI_6_5 sh_12 (by decide +kernel) ?_
  refine h_push (p_67_4 _ _) ?_
  refine h_cmpF (p_67_7 _ _) (by decide) ?_
  refine h_aload (p_67_10 _ _) rfl ?_
  refine h_getr (a := 15) (p_67_11 _ _) isI_6_3 sh_12 (by decide +kernel) ?_
  refine h_aload (p_67_14 _ _) rfl ?_
  refine h_geti (x := (0 : Int32)) (p_67_15 _ _) isI_6_5 sh_12 (by decide +kernel) ?_
  refine h_iload (p_67_18 _ _) rfl ?_
  refine h_ast (k := 0) (p_67_19 _ _) sh_15 (by decide) (by decide) (by decide) ?_
  refine h_aload (p_67_20 _ _) rfl ?_
  refine h_dup (p_67_21 _ _) ?_
  refine h_geti (x := (0 : Int32)) (p_67_22 _ _) isI_6_5 sh_12 (by decide +kernel) ?_
  refine h_push (p_67_25 _ _) ?_
  refine h_bin (w := (1 : Int32)) (p_67_26 _ _) (by decide) ?_
  refine h_puti (p_67_27 _ _) isI_6_5 sh_12 (by decide) ?_
  exact h_ret0 (p_67_30 _ _) h
def sx_160 : sT := pV (sx_159) 12 5 (0 : Int32)
theorem kc_145 {L : Nat} {xs : Nat → Int32} {d : Nat} {K : Option Int32 → Nat → Nat → sT → Prop} (h : K (some (0 : Int32)) 186 104467 sx_160) : tH L xs 186 104467 (d + 0) 81 0 [.ref 1, .int (0 : Int32)] [] sx_160 K := by
  refine h_iload (p_81_0 _ _) rfl ?_
  refine h_ifF (p_81_1 _ _) (by decide) ?_
  refine h_iload (p_81_4 _ _) rfl ?_
  refine h_aload (p_81_5 _ _) rfl ?_
  refine h_geti (x := (5 : Int32)) (p_81_6 _ _) isI_8_7 sh_1 (by decide +kernel) ?_
  refine h_cmpF (p_81_9 _ _) (by decide) ?_
  refine h_aload (p_81_12 _ _) rfl ?_
  refine h_getr (a := 2) (p_81_13 _ _) isI_8_0 sh_1 (by decide +kernel) ?_
  refine h_iload (p_81_16 _ _) rfl ?_
  refine h_ald (k := 0) (x := (0 : Int32)) (p_81_17 _ _) sh_2 (by decide) (by decide) (by decide +kernel) ?_
  refine h_goto (p_81_18 _ _) ?_
  exact h_ret1 (p_81_22 _ _) h
theorem kc_146 {L : Nat} {xs : Nat → Int32} {d : Nat} {K : Option Int32 → Nat → Nat → sT → Prop} (h : K none 186 104467 sx_160) : tH L xs 186 104467 (d + 1) 65 0 [.ref 12, .int (0 : Int32), .ref 74, .int (0 : Int32), .null, .null] [] sx_160 K := by
  refine h_iload (p_65_0 _ _) rfl ?_
  refine h_push (p_65_1 _ _) ?_
  refine h_cmpT (p_65_3 _ _) (by decide) ?_
  refine h_aload (p_65_7 _ _) rfl ?_
  refine h_geti (x := (0 : Int32)) (p_65_8 _ _) isI_6_5 sh_12 (by decide +kernel) ?_
  refine h_istore (ls1 := [.ref 12, .int (0 : Int32), .ref 74, .int (0 : Int32), .int (0 : Int32), .null]) (p_65_11 _ _) (Nat.le_of_ble_eq_true rfl) rfl rfl ?_
  refine h_aload (p_65_13 _ _) rfl ?_
  refine h_getr (a := 1) (p_65_14 _ _) isI_6_0 sh_12 (by decide +kernel) ?_
  refine h_iload (p_65_17 _ _) rfl ?_
  refine h_callr (x := (0 : Int32)) (z := 81) (i := 1) (as := [.int (0 : Int32)]) (rest := []) (p_65_18 _ _) mK_81 mL_81 rfl rfl (Nat.le_of_ble_eq_true rfl) rfl (Nat.le_of_ble_eq_true rfl) sh_1 (kc_145 (d := d + 0) ⟨rfl, ?_⟩)
  refine h_tab (t := 140) (p_65_21 _ _) (by decide) ?_
  refine h_iload (p_65_140 _ _) rfl ?_
  refine h_aload (p_65_141 _ _) rfl ?_
  refine h_geti (x := (4 : Int32)) (p_65_142 _ _) isI_6_7 sh_12 (by decide +kernel) ?_
  refine h_cmpT (p_65_145 _ _) (by decide) ?_
  exact h_ret0 (p_65_156 _ _) h
theorem kc_147 {L : Nat} {xs : Nat → Int32} {d : Nat} {K : Option Int32 → Nat → Nat → sT → Prop} (h : K (some (-1 : Int32)) 186 104467 sx_160) : tH L xs 186 104467 (d + 0) 84 0 [.ref 1, .int (0 : Int32)] [] sx_160 K := by
  refine h_iload (p_84_0 _ _) rfl ?_
  refine h_ifF (p_84_1 _ _) (by decide) ?_
  refine h_iload (p_84_4 _ _) rfl ?_
  refine h_aload (p_84_5 _ _) rfl ?_
  refine h_geti (x := (5 : Int32)) (p_84_6 _ _) isI_8_7 sh_1 (by decide +kernel) ?_
  refine h_cmpF (p_84_9 _ _) (by decide) ?_
  refine h_aload (p_84_12 _ _) rfl ?_
  refine h_getr (a := 5) (p_84_13 _ _) isI_8_3 sh_1 (by decide +kernel) ?_
  refine h_iload (p_84_16 _ _) rfl ?_
  refine h_ald (k := 0) (x := (-1 : Int32)) (p_84_17 _ _) sh_5 (by decide) (by decide) (by decide +kernel) ?_
  refine h_goto (p_84_18 _ _) ?_
  exact h_ret1 (p_84_22 _ _) h
theorem kc_148 {L : Nat} {xs : Nat → Int32} {d : Nat} {K : Option Int32 → Nat → Nat → sT → Prop} (h : K (some (0 : Int32)) 186 104467 sx_160) : tH L xs 186 104467 (d + 1) 86 0 [.ref 1, .int (0 : Int32)] [] sx_160 K := by
  refine h_aload (p_86_0 _ _) rfl ?_
  refine h_iload (p_86_1 _ _) rfl ?_
  refine h_callr (x := (-1 : Int32)) (z := 84) (i := 1) (as := [.int (0 : Int32)]) (rest := []) (p_86_2 _ _) mK_84 mL_84 rfl rfl (Nat.le_of_ble_eq_true rfl) rfl (Nat.le_of_ble_eq_true rfl) sh_1 (kc_147 (d := d + 0) ⟨rfl, ?_⟩)
  refine h_ifT (p_86_5 _ _) (by decide) ?_
  refine h_push (p_86_12 _ _) ?_
  exact h_ret2 (p_86_13 _ _) (by decide) h
def sx_161 : sT := pV (sx_160) 12 5 (0 : Int32)
theorem kc_149 {L : Nat} {xs : Nat → Int32} {d : Nat} {K : Option Int32 → Nat → Nat → sT → Prop} (h : K none 186 104467 sx_161) : tH L xs 186 104467 (d + 2) 64 0 [.ref 12, .int (0 : Int32), .ref 74, .int (0 : Int32), .null, .null, .null] [] sx_159 K := by
  refine h_push (p_64_0 _ _) ?_
  refine h_istore (ls1 := [.ref 12, .int (0 : Int32), .ref 74, .int (0 : Int32), .int (1 : Int32), .null, .null]) (p_64_1 _ _) (Nat.le_of_ble_eq_true rfl) rfl rfl ?_
  refine h_aload (p_64_3 _ _) rfl ?_
  refine h_geti (x := (1 : Int32)) (p_64_4 _ _) isI_6_5 sh_12 (by decide +kernel) ?_
  refine h_push (p_64_7 _ _) ?_
  refine h_bin (w := (0 : Int32)) (p_64_8 _ _) (by decide) ?_
  refine h_istore (ls1 := [.ref 12, .int (0 : Int32), .ref 74, .int (0 : Int32), .int (1 : Int32), .int (0 : Int32), .null]) (p_64_9 _ _) (Nat.le_of_ble_eq_true rfl) rfl rfl ?_
  refine h_iload (p_64_11 _ _) rfl ?_
  refine h_iload (p_64_13 _ _) rfl ?_
  refine h_cmpF (p_64_14 _ _) (by decide) ?_
  refine h_iload (p_64_17 _ _) rfl ?_
  refine h_ifF (p_64_19 _ _) (by decide) ?_
  refine h_aload (p_64_22 _ _) rfl ?_
  refine h_getr (a := 15) (p_64_23 _ _) isI_6_3 sh_12 (by decide +kernel) ?_
  refine h_iload (p_64_26 _ _) rfl ?_
  refine h_ald (k := 0) (x := (0 : Int32)) (p_64_28 _ _) sh_15 (by decide) (by decide) (by decide +kernel) ?_
  refine h_istore (ls1 := [.ref 12, .int (0 : Int32), .ref 74, .int (0 : Int32), .int (1 : Int32), .int (0 : Int32), .int (0 : Int32)]) (p_64_29 _ _) (Nat.le_of_ble_eq_true rfl) rfl rfl ?_
  refine h_aload (p_64_31 _ _) rfl ?_
  refine h_iload (p_64_32 _ _) rfl ?_
  refine h_puti (p_64_34 _ _) isI_6_5 sh_12 (by decide) ?_
  refine h_aload (p_64_37 _ _) rfl ?_
  refine h_iload (p_64_38 _ _) rfl ?_
  refine h_aload (p_64_40 _ _) rfl ?_
  refine h_iload (p_64_41 _ _) rfl ?_
  refine h_call (z := 65) (i := 12) (as := [.int (0 : Int32), .ref 74, .int (0 : Int32)]) (rest := []) (p_64_42 _ _) mK_65 mL_65 rfl rfl (Nat.le_of_ble_eq_true rfl) rfl (Nat.le_of_ble_eq_true rfl) sh_12 (kc_146 (d := d + 0) ⟨rfl, ?_⟩)
  refine h_aload (p_64_45 _ _) rfl ?_
  refine h_getr (a := 1) (p_64_46 _ _) isI_6_0 sh_12 (by decide +kernel) ?_
  refine h_iload (p_64_49 _ _) rfl ?_
  refine h_callr (x := (0 : Int32)) (z := 86) (i := 1) (as := [.int (0 : Int32)]) (rest := []) (p_64_51 _ _) mK_86 mL_86 rfl rfl (Nat.le_of_ble_eq_true rfl) rfl (Nat.le_of_ble_eq_true rfl) sh_1 (kc_148 (d := d + 0) ⟨rfl, ?_⟩)
  refine h_istore (ls1 := [.ref 12, .int (0 : Int32), .ref 74, .int (0 : Int32), .int (0 : Int32), .int (0 : Int32), .int (0 : Int32)]) (p_64_54 _ _) (Nat.le_of_ble_eq_true rfl) rfl rfl ?_
  refine h_iinc (x1 := (-1 : Int32)) (ls1 := [.ref 12, .int (0 : Int32), .ref 74, .int (0 : Int32), .int (0 : Int32), .int (-1 : Int32), .int (0 : Int32)]) (p_64_56 _ _) rfl rfl (by decide) rfl ?_
  refine h_goto (p_64_59 _ _) ?_
  refine h_iload (p_64_11 _ _) rfl ?_
  refine h_iload (p_64_13 _ _) rfl ?_
  refine h_cmpT (p_64_14 _ _) (by decide) ?_
  refine h_aload (p_64_62 _ _) rfl ?_
  refine h_iload (p_64_63 _ _) rfl ?_
  refine h_puti (p_64_64 _ _) isI_6_5 sh_12 (by decide) ?_
  exact h_ret0 (p_64_67 _ _) h
theorem kc_150 {L : Nat} {xs : Nat → Int32} {d : Nat} {K : Option Int32 → Nat → Nat → sT → Prop} (h : K none 186 104467 sx_161) : tH L xs 186 104467 (d + 3) 63 0 [.ref 12, .int (0 : Int32), .int (2 : Int32), .ref 74, .null] [] sx_155 K := by
  refine h_aload (p_63_0 _ _) rfl ?_
  refine h_push (p_63_1 _ _) ?_
  refine h_iload (p_63_2 _ _) rfl ?_
  refine h_bin (w := (4 : Int32)) (p_63_3 _ _) (by decide) ?_
  refine h_puti (p_63_4 _ _) isI_6_7 sh_12 (by decide) ?_
  refine h_aload (p_63_7 _ _) rfl ?_
  refine h_iload (p_63_8 _ _) rfl ?_
  refine h_call (z := 41) (i := 74) (as := [.int (2 : Int32)]) (rest := []) (p_63_9 _ _) mK_41 mL_41 rfl rfl (Nat.le_of_ble_eq_true rfl) rfl (Nat.le_of_ble_eq_true rfl) sh_74 (kc_143 (d := d + 2) ⟨rfl, ?_⟩)
  refine h_aload (p_63_12 _ _) rfl ?_
  refine h_push (p_63_13 _ _) ?_
  refine h_puti (p_63_14 _ _) isI_6_5 sh_12 (by decide) ?_
  refine h_aload (p_63_17 _ _) rfl ?_
  refine h_getr (a := 14) (p_63_18 _ _) isI_6_2 sh_12 (by decide +kernel) ?_
  refine h_iload (p_63_21 _ _) rfl ?_
  refine h_ald (k := 0) (x := (1 : Int32)) (p_63_22 _ _) sh_14 (by decide) (by decide) (by decide +kernel) ?_
  refine h_push (p_63_23 _ _) ?_
  refine h_bin (w := (0 : Int32)) (p_63_24 _ _) (by decide) ?_
  refine h_istore (ls1 := [.ref 12, .int (0 : Int32), .int (2 : Int32), .ref 74, .int (0 : Int32)]) (p_63_25 _ _) (Nat.le_of_ble_eq_true rfl) rfl rfl ?_
  refine h_iload (p_63_27 _ _) rfl ?_
  refine h_ifF (p_63_29 _ _) (by decide) ?_
  refine h_aload (p_63_32 _ _) rfl ?_
  refine h_aload (p_63_33 _ _) rfl ?_
  refine h_getr (a := 13) (p_63_34 _ _) isI_6_1 sh_12 (by decide +kernel) ?_
  refine h_iload (p_63_37 _ _) rfl ?_
  refine h_push (p_63_38 _ _) ?_
  refine h_bin (w := (0 : Int32)) (p_63_40 _ _) (by decide) ?_
  refine h_iload (p_63_41 _ _) rfl ?_
  refine h_bin (w := (0 : Int32)) (p_63_43 _ _) (by decide) ?_
  refine h_ald (k := 0) (x := (0 : Int32)) (p_63_44 _ _) sh_13 (by decide) (by decide) (by decide +kernel) ?_
  refine h_call (z := 67) (i := 12) (as := [.int (0 : Int32)]) (rest := []) (p_63_45 _ _) mK_67 mL_67 rfl rfl (Nat.le_of_ble_eq_true rfl) rfl (Nat.le_of_ble_eq_true rfl) sh_12 (kc_144 (d := d + 2) ⟨rfl, ?_⟩)
  refine h_iinc (x1 := (-1 : Int32)) (ls1 := [.ref 12, .int (0 : Int32), .int (2 : Int32), .ref 74, .int (-1 : Int32)]) (p_63_48 _ _) rfl rfl (by decide) rfl ?_
  refine h_goto (p_63_51 _ _) ?_
  refine h_iload (p_63_27 _ _) rfl ?_
  refine h_ifT (p_63_29 _ _) (by decide) ?_
  refine h_aload (p_63_54 _ _) rfl ?_
  refine h_push (p_63_55 _ _) ?_
  refine h_aload (p_63_56 _ _) rfl ?_
  refine h_push (p_63_57 _ _) ?_
  refine h_call (z := 64) (i := 12) (as := [.int (0 : Int32), .ref 74, .int (0 : Int32)]) (rest := []) (p_63_58 _ _) mK_64 mL_64 rfl rfl (Nat.le_of_ble_eq_true rfl) rfl (Nat.le_of_ble_eq_true rfl) sh_12 (kc_149 (d := d + 0) ⟨rfl, ?_⟩)
  exact h_ret0 (p_63_61 _ _) h
def sx_162 : sT := pV (sx_161) 74 6 (1 : Int32)
theorem kc_151 {L : Nat} {xs : Nat → Int32} {d : Nat} {K : Option Int32 → Nat → Nat → sT → Prop} (h : K none 186 104467 sx_162) : tH L xs 186 104467 (d + 0) 43 0 [.ref 74] [] sx_161 K := by
  refine h_aload (p_43_0 _ _) rfl ?_
  refine h_dup (p_43_1 _ _) ?_
  refine h_geti (x := (0 : Int32)) (p_43_2 _ _) isI_5_6 sh_74 (by decide +kernel) ?_
  refine h_push (p_43_5 _ _) ?_
  refine h_bin (w := (1 : Int32)) (p_43_6 _ _) (by decide) ?_
  refine h_puti (p_43_7 _ _) isI_5_6 sh_74 (by decide) ?_
  exact h_ret0 (p_43_10 _ _) h
theorem kc_152 {L : Nat} {xs : Nat → Int32} {d : Nat} {K : Option Int32 → Nat → Nat → sT → Prop} (h : K none 186 104467 sx_162) : tH L xs 186 104467 (d + 4) 61 0 [.ref 12, .int (0 : Int32), .ref 74, .null, .null] [] sx_133 K := by
  refine h_aload (p_61_0 _ _) rfl ?_
  refine h_call (z := 39) (i := 74) (as := []) (rest := []) (p_61_1 _ _) mK_39 mL_39 rfl rfl (Nat.le_of_ble_eq_true rfl) rfl (Nat.le_of_ble_eq_true rfl) sh_74 (kc_108 (d := d + 2) ⟨rfl, ?_⟩)
  refine h_aload (p_61_4 _ _) rfl ?_
  refine h_getr (a := 1) (p_61_5 _ _) isI_6_0 sh_12 (by decide +kernel) ?_
  refine h_iload (p_61_8 _ _) rfl ?_
  refine h_push (p_61_9 _ _) ?_
  refine h_aload (p_61_10 _ _) rfl ?_
  refine h_getr (a := 75) (p_61_11 _ _) isI_5_0 sh_74 (by decide +kernel) ?_
  refine h_call (z := 93) (i := 1) (as := [.int (0 : Int32), .int (0 : Int32), .ref 75]) (rest := []) (p_61_14 _ _) mK_93 mL_93 rfl rfl (Nat.le_of_ble_eq_true rfl) rfl (Nat.le_of_ble_eq_true rfl) sh_1 (kc_112 (d := d + 1) ⟨rfl, ?_⟩)
  refine h_aload (p_61_17 _ _) rfl ?_
  refine h_aload (p_61_18 _ _) rfl ?_
  refine h_getr (a := 1) (p_61_19 _ _) isI_6_0 sh_12 (by decide +kernel) ?_
  refine h_iload (p_61_22 _ _) rfl ?_
  refine h_callr (x := (-1 : Int32)) (z := 84) (i := 1) (as := [.int (0 : Int32)]) (rest := [.ref 74]) (p_61_23 _ _) mK_84 mL_84 rfl rfl (Nat.le_of_ble_eq_true rfl) rfl (Nat.le_of_ble_eq_true rfl) sh_1 (kc_113 (d := d + 3) ⟨rfl, ?_⟩)
  refine h_puti (p_61_26 _ _) isI_5_7 sh_74 (by decide) ?_
  refine h_aload (p_61_29 _ _) rfl ?_
  refine h_aload (p_61_30 _ _) rfl ?_
  refine h_getr (a := 1) (p_61_31 _ _) isI_6_0 sh_12 (by decide +kernel) ?_
  refine h_iload (p_61_34 _ _) rfl ?_
  refine h_callr (x := (0 : Int32)) (z := 85) (i := 1) (as := [.int (0 : Int32)]) (rest := [.ref 74]) (p_61_35 _ _) mK_85 mL_85 rfl rfl (Nat.le_of_ble_eq_true rfl) rfl (Nat.le_of_ble_eq_true rfl) sh_1 (kc_114 (d := d + 3) ⟨rfl, ?_⟩)
  refine h_puti (p_61_38 _ _) isI_5_8 sh_74 (by decide) ?_
  refine h_aload (p_61_41 _ _) rfl ?_
  refine h_push (p_61_42 _ _) ?_
  refine h_puti (p_61_43 _ _) isI_6_6 sh_12 (by decide) ?_
  refine h_aload (p_61_46 _ _) rfl ?_
  refine h_push (p_61_47 _ _) ?_
  refine h_puti (p_61_48 _ _) isI_6_5 sh_12 (by decide) ?_
  refine h_aload (p_61_51 _ _) rfl ?_
  refine h_iload (p_61_52 _ _) rfl ?_
  refine h_call (z := 66) (i := 12) (as := [.int (0 : Int32)]) (rest := []) (p_61_53 _ _) mK_66 mL_66 rfl rfl (Nat.le_of_ble_eq_true rfl) rfl (Nat.le_of_ble_eq_true rfl) sh_12 (kc_117 (d := d + 2) ⟨rfl, ?_⟩)
  refine h_aload (p_61_56 _ _) rfl ?_
  refine h_callr (x := (0 : Int32)) (z := 68) (i := 12) (as := []) (rest := []) (p_61_57 _ _) mK_68 mL_68 rfl rfl (Nat.le_of_ble_eq_true rfl) rfl (Nat.le_of_ble_eq_true rfl) sh_12 (kc_118 (d := d + 3) ⟨rfl, ?_⟩)
  refine h_popi (p_61_60 _ _) ?_
  refine h_push (p_61_61 _ _) ?_
  refine h_istore (ls1 := [.ref 12, .int (0 : Int32), .ref 74, .int (0 : Int32), .null]) (p_61_62 _ _) (Nat.le_of_ble_eq_true rfl) rfl rfl ?_
  refine h_iload (p_61_63 _ _) rfl ?_
  refine h_push (p_61_64 _ _) ?_
  refine h_cmpF (p_61_66 _ _) (by decide) ?_
  refine h_iload (p_61_69 _ _) rfl ?_
  refine h_aload (p_61_70 _ _) rfl ?_
  refine h_geti (x := (1 : Int32)) (p_61_71 _ _) isI_6_6 sh_12 (by decide +kernel) ?_
  refine h_cmpF (p_61_74 _ _) (by decide) ?_
  refine h_aload (p_61_77 _ _) rfl ?_
  refine h_iload (p_61_78 _ _) rfl ?_
  refine h_aload (p_61_79 _ _) rfl ?_
  refine h_call (z := 62) (i := 12) (as := [.int (0 : Int32), .ref 74]) (rest := []) (p_61_80 _ _) mK_62 mL_62 rfl rfl (Nat.le_of_ble_eq_true rfl) rfl (Nat.le_of_ble_eq_true rfl) sh_12 (kc_126 (d := d + 0) ⟨rfl, ?_⟩)
  refine h_push (p_61_83 _ _) ?_
  refine h_istore (ls1 := [.ref 12, .int (0 : Int32), .ref 74, .int (0 : Int32), .int (0 : Int32)]) (p_61_84 _ _) (Nat.le_of_ble_eq_true rfl) rfl rfl ?_
  refine h_iload (p_61_86 _ _) rfl ?_
  refine h_push (p_61_88 _ _) ?_
  refine h_cmpF (p_61_89 _ _) (by decide) ?_
  refine h_aload (p_61_92 _ _) rfl ?_
  refine h_iload (p_61_93 _ _) rfl ?_
  refine h_iload (p_61_94 _ _) rfl ?_
  refine h_aload (p_61_96 _ _) rfl ?_
  refine h_call (z := 63) (i := 12) (as := [.int (0 : Int32), .int (0 : Int32), .ref 74]) (rest := []) (p_61_97 _ _) mK_63 mL_63 rfl rfl (Nat.le_of_ble_eq_true rfl) rfl (Nat.le_of_ble_eq_true rfl) sh_12 (kc_134 (d := d + 0) ⟨rfl, ?_⟩)
  refine h_iinc (x1 := (1 : Int32)) (ls1 := [.ref 12, .int (0 : Int32), .ref 74, .int (0 : Int32), .int (1 : Int32)]) (p_61_100 _ _) rfl rfl (by decide) rfl ?_
  refine h_goto (p_61_103 _ _) ?_
  refine h_iload (p_61_86 _ _) rfl ?_
  refine h_push (p_61_88 _ _) ?_
  refine h_cmpF (p_61_89 _ _) (by decide) ?_
  refine h_aload (p_61_92 _ _) rfl ?_
  refine h_iload (p_61_93 _ _) rfl ?_
  refine h_iload (p_61_94 _ _) rfl ?_
  refine h_aload (p_61_96 _ _) rfl ?_
  refine h_call (z := 63) (i := 12) (as := [.int (0 : Int32), .int (1 : Int32), .ref 74]) (rest := []) (p_61_97 _ _) mK_63 mL_63 rfl rfl (Nat.le_of_ble_eq_true rfl) rfl (Nat.le_of_ble_eq_true rfl) sh_12 (kc_142 (d := d + 0) ⟨rfl, ?_⟩)
  refine h_iinc (x1 := (2 : Int32)) (ls1 := [.ref 12, .int (0 : Int32), .ref 74, .int (0 : Int32), .int (2 : Int32)]) (p_61_100 _ _) rfl rfl (by decide) rfl ?_
  refine h_goto (p_61_103 _ _) ?_
  refine h_iload (p_61_86 _ _) rfl ?_
  refine h_push (p_61_88 _ _) ?_
  refine h_cmpF (p_61_89 _ _) (by decide) ?_
  refine h_aload (p_61_92 _ _) rfl ?_
  refine h_iload (p_61_93 _ _) rfl ?_
  refine h_iload (p_61_94 _ _) rfl ?_
  refine h_aload (p_61_96 _ _) rfl ?_
  refine h_call (z := 63) (i := 12) (as := [.int (0 : Int32), .int (2 : Int32), .ref 74]) (rest := []) (p_61_97 _ _) mK_63 mL_63 rfl rfl (Nat.le_of_ble_eq_true rfl) rfl (Nat.le_of_ble_eq_true rfl) sh_12 (kc_150 (d := d + 0) ⟨rfl, ?_⟩)
  refine h_iinc (x1 := (3 : Int32)) (ls1 := [.ref 12, .int (0 : Int32), .ref 74, .int (0 : Int32), .int (3 : Int32)]) (p_61_100 _ _) rfl rfl (by decide) rfl ?_
  refine h_goto (p_61_103 _ _) ?_
  refine h_iload (p_61_86 _ _) rfl ?_
  refine h_push (p_61_88 _ _) ?_
  refine h_cmpT (p_61_89 _ _) (by decide) ?_
  refine h_aload (p_61_106 _ _) rfl ?_
  refine h_call (z := 43) (i := 74) (as := []) (rest := []) (p_61_107 _ _) mK_43 mL_43 rfl rfl (Nat.le_of_ble_eq_true rfl) rfl (Nat.le_of_ble_eq_true rfl) sh_74 (kc_151 (d := d + 3) ⟨rfl, ?_⟩)
  refine h_iinc (x1 := (1 : Int32)) (ls1 := [.ref 12, .int (0 : Int32), .ref 74, .int (1 : Int32), .int (3 : Int32)]) (p_61_110 _ _) rfl rfl (by decide) rfl ?_
  refine h_goto (p_61_113 _ _) ?_
  refine h_iload (p_61_63 _ _) rfl ?_
  refine h_push (p_61_64 _ _) ?_
  refine h_cmpF (p_61_66 _ _) (by decide) ?_
  refine h_iload (p_61_69 _ _) rfl ?_
  refine h_aload (p_61_70 _ _) rfl ?_
  refine h_geti (x := (1 : Int32)) (p_61_71 _ _) isI_6_6 sh_12 (by decide +kernel) ?_
  refine h_cmpT (p_61_74 _ _) (by decide) ?_
  exact h_ret0 (p_61_116 _ _) h
def sx_163 : sT := pV (sx_162) 94 1 (0 : Int32)
theorem kc_153 {L : Nat} {xs : Nat → Int32} {d : Nat} {K : Option Int32 → Nat → Nat → sT → Prop} (h : K none 186 104467 sx_163) : tH L xs 186 104467 (d + 0) 71 0 [.ref 94] [] sx_162 K := by
  refine h_aload (p_71_0 _ _) rfl ?_
  refine h_push (p_71_1 _ _) ?_
  refine h_puti (p_71_2 _ _) isI_7_1 sh_94 (by decide) ?_
  exact h_ret0 (p_71_5 _ _) h
def sx_164 : sT := pV (pA sx_163 95 (va_cpy (sx_163.1 67) (sx_163.1 95) 0 0 1)) 94 1 (1 : Int32)
theorem kc_154 {L : Nat} {xs : Nat → Int32} {d : Nat} {K : Option Int32 → Nat → Nat → sT → Prop} (h : K none 186 104467 sx_164) : tH L xs 186 104467 (d + 0) 73 0 [.ref 94, .ref 66, .null] [] sx_163 K := by
  refine h_aload (p_73_0 _ _) rfl ?_
  refine h_geti (x := (1 : Int32)) (p_73_1 _ _) isI_7_1 sh_66 (by decide +kernel) ?_
  refine h_aload (p_73_4 _ _) rfl ?_
  refine h_getr (a := 95) (p_73_5 _ _) isI_7_0 sh_94 (by decide +kernel) ?_
  refine h_alen (x := (30 : Int32)) (p_73_8 _ _) sh_95 (by decide) ?_
  refine h_aload (p_73_9 _ _) rfl ?_
  refine h_geti (x := (0 : Int32)) (p_73_10 _ _) isI_7_1 sh_94 (by decide +kernel) ?_
  refine h_bin (w := (30 : Int32)) (p_73_13 _ _) (by decide) ?_
  refine h_mm (w := (1 : Int32)) (p_73_14 _ _) (Nat.le_of_ble_eq_true rfl) (by decide) ?_
  refine h_istore (ls1 := [.ref 94, .ref 66, .int (1 : Int32)]) (p_73_17 _ _) (Nat.le_of_ble_eq_true rfl) rfl rfl ?_
  refine h_aload (p_73_18 _ _) rfl ?_
  refine h_getr (a := 67) (p_73_19 _ _) isI_7_0 sh_66 (by decide +kernel) ?_
  refine h_push (p_73_22 _ _) ?_
  refine h_aload (p_73_23 _ _) rfl ?_
  refine h_getr (a := 95) (p_73_24 _ _) isI_7_0 sh_94 (by decide +kernel) ?_
  refine h_aload (p_73_27 _ _) rfl ?_
  refine h_geti (x := (0 : Int32)) (p_73_28 _ _) isI_7_1 sh_94 (by decide +kernel) ?_
  refine h_iload (p_73_31 _ _) rfl ?_
  refine h_copy (s := sx_163) (e0 := 0) (e1 := 0) (e2 := 1) (p_73_32 _ _) sh_67 sh_95 (Nat.le_of_ble_eq_true rfl) (by decide) (by decide) (by decide) (by decide) (by decide) ?_
  refine h_aload (p_73_35 _ _) rfl ?_
  refine h_dup (p_73_36 _ _) ?_
  refine h_geti (x := (0 : Int32)) (p_73_37 _ _) isI_7_1 sh_94 (by decide +kernel) ?_
  refine h_iload (p_73_40 _ _) rfl ?_
  refine h_bin (w := (1 : Int32)) (p_73_41 _ _) (by decide) ?_
  refine h_puti (p_73_42 _ _) isI_7_1 sh_94 (by decide) ?_
  exact h_ret0 (p_73_45 _ _) h
theorem kc_155 {L : Nat} {xs : Nat → Int32} {d : Nat} {K : Option Int32 → Nat → Nat → sT → Prop} (h : K none 186 104467 sx_164) : tH L xs 186 104467 (d + 1) 75 0 [.ref 94, .ref 66] [] sx_162 K := by
  refine h_aload (p_75_0 _ _) rfl ?_
  refine h_call (z := 71) (i := 94) (as := []) (rest := []) (p_75_1 _ _) mK_71 mL_71 rfl rfl (Nat.le_of_ble_eq_true rfl) rfl (Nat.le_of_ble_eq_true rfl) sh_94 (kc_153 (d := d + 0) ⟨rfl, ?_⟩)
  refine h_aload (p_75_4 _ _) rfl ?_
  refine h_aload (p_75_5 _ _) rfl ?_
  refine h_call (z := 73) (i := 94) (as := [.ref 66]) (rest := []) (p_75_6 _ _) mK_73 mL_73 rfl rfl (Nat.le_of_ble_eq_true rfl) rfl (Nat.le_of_ble_eq_true rfl) sh_94 (kc_154 (d := d + 0) ⟨rfl, ?_⟩)
  exact h_ret0 (p_75_9 _ _) h
def sx_165 : sT := pV (sx_164) 96 1 (0 : Int32)
theorem kc_156 {L : Nat} {xs : Nat → Int32} {d : Nat} {K : Option Int32 → Nat → Nat → sT → Prop} (h : K none 186 104467 sx_165) : tH L xs 186 104467 (d + 0) 71 0 [.ref 96] [] sx_164 K := by
  refine h_aload (p_71_0 _ _) rfl ?_
  refine h_push (p_71_1 _ _) ?_
  refine h_puti (p_71_2 _ _) isI_7_1 sh_96 (by decide) ?_
  exact h_ret0 (p_71_5 _ _) h
def sx_166 : sT := pV (pA sx_165 97 (va_cpy (sx_165.1 67) (sx_165.1 97) 0 0 1)) 96 1 (1 : Int32)
theorem kc_157 {L : Nat} {xs : Nat → Int32} {d : Nat} {K : Option Int32 → Nat → Nat → sT → Prop} (h : K none 186 104467 sx_166) : tH L xs 186 104467 (d + 0) 73 0 [.ref 96, .ref 66, .null] [] sx_165 K := by
  refine h_aload (p_73_0 _ _) rfl ?_
  refine h_geti (x := (1 : Int32)) (p_73_1 _ _) isI_7_1 sh_66 (by decide +kernel) ?_
  refine h_aload (p_73_4 _ _) rfl ?_
  refine h_getr (a := 97) (p_73_5 _ _) isI_7_0 sh_96 (by decide +kernel) ?_
  refine h_alen (x := (30 : Int32)) (p_73_8 _ _) sh_97 (by decide) ?_
  refine h_aload (p_73_9 _ _) rfl ?_
  refine h_geti (x := (0 : Int32)) (p_73_10 _ _) isI_7_1 sh_96 (by decide +kernel) ?_
  refine h_bin (w := (30 : Int32)) (p_73_13 _ _) (by decide) ?_
  refine h_mm (w := (1 : Int32)) (p_73_14 _ _) (Nat.le_of_ble_eq_true rfl) (by decide) ?_
  refine h_istore (ls1 := [.ref 96, .ref 66, .int (1 : Int32)]) (p_73_17 _ _) (Nat.le_of_ble_eq_true rfl) rfl rfl ?_
  refine h_aload (p_73_18 _ _) rfl ?_
  refine h_getr (a := 67) (p_73_19 _ _) isI_7_0 sh_66 (by decide +kernel) ?_
  refine h_push (p_73_22 _ _) ?_
  refine h_aload (p_73_23 _ _) rfl ?_
  refine h_getr (a := 97) (p_73_24 _ _) isI_7_0 sh_96 (by decide +kernel) ?_
  refine h_aload (p_73_27 _ _) rfl ?_
  refine h_geti (x := (0 : Int32)) (p_73_28 _ _) isI_7_1 sh_96 (by decide +kernel) ?_
  refine h_iload (p_73_31 _ _) rfl ?_
  refine h_copy (s := sx_165) (e0 := 0) (e1 := 0) (e2 := 1) (p_73_32 _ _) sh_67 sh_97 (Nat.le_of_ble_eq_true rfl) (by decide) (by decide) (by decide) (by decide) (by decide) ?_
  refine h_aload (p_73_35 _ _) rfl ?_
  refine h_dup (p_73_36 _ _) ?_
  refine h_geti (x := (0 : Int32)) (p_73_37 _ _) isI_7_1 sh_96 (by decide +kernel) ?_
  refine h_iload (p_73_40 _ _) rfl ?_
  refine h_bin (w := (1 : Int32)) (p_73_41 _ _) (by decide) ?_
  refine h_puti (p_73_42 _ _) isI_7_1 sh_96 (by decide) ?_
  exact h_ret0 (p_73_45 _ _) h
theorem kc_158 {L : Nat} {xs : Nat → Int32} {d : Nat} {K : Option Int32 → Nat → Nat → sT → Prop} (h : K none 186 104467 sx_166) : tH L xs 186 104467 (d + 1) 75 0 [.ref 96, .ref 66] [] sx_164 K := by
  refine h_aload (p_75_0 _ _) rfl ?_
  refine h_call (z := 71) (i := 96) (as := []) (rest := []) (p_75_1 _ _) mK_71 mL_71 rfl rfl (Nat.le_of_ble_eq_true rfl) rfl (Nat.le_of_ble_eq_true rfl) sh_96 (kc_156 (d := d + 0) ⟨rfl, ?_⟩)
  refine h_aload (p_75_4 _ _) rfl ?_
  refine h_aload (p_75_5 _ _) rfl ?_
  refine h_call (z := 73) (i := 96) (as := [.ref 66]) (rest := []) (p_75_6 _ _) mK_73 mL_73 rfl rfl (Nat.le_of_ble_eq_true rfl) rfl (Nat.le_of_ble_eq_true rfl) sh_96 (kc_157 (d := d + 0) ⟨rfl, ?_⟩)
  exact h_ret0 (p_75_9 _ _) h
def sx_167 : sT := pV (sx_166) 98 1 (0 : Int32)
theorem kc_159 {L : Nat} {xs : Nat → Int32} {d : Nat} {K : Option Int32 → Nat → Nat → sT → Prop} (h : K none 186 104467 sx_167) : tH L xs 186 104467 (d + 0) 71 0 [.ref 98] [] sx_166 K := by
  refine h_aload (p_71_0 _ _) rfl ?_
  refine h_push (p_71_1 _ _) ?_
  refine h_puti (p_71_2 _ _) isI_7_1 sh_98 (by decide) ?_
  exact h_ret0 (p_71_5 _ _) h
def sx_168 : sT := pV (pA sx_167 99 (va_cpy (sx_167.1 67) (sx_167.1 99) 0 0 1)) 98 1 (1 : Int32)
theorem kc_160 {L : Nat} {xs : Nat → Int32} {d : Nat} {K : Option Int32 → Nat → Nat → sT → Prop} (h : K none 186 104467 sx_168) : tH L xs 186 104467 (d + 0) 73 0 [.ref 98, .ref 66, .null] [] sx_167 K := by
  refine h_aload (p_73_0 _ _) rfl ?_
  refine h_geti (x := (1 : Int32)) (p_73_1 _ _) isI_7_1 sh_66 (by decide +kernel) ?_
  refine h_aload (p_73_4 _ _) rfl ?_
  refine h_getr (a := 99) (p_73_5 _ _) isI_7_0 sh_98 (by decide +kernel) ?_
  refine h_alen (x := (30 : Int32)) (p_73_8 _ _) sh_99 (by decide) ?_
  refine h_aload (p_73_9 _ _) rfl ?_
  refine h_geti (x := (0 : Int32)) (p_73_10 _ _) isI_7_1 sh_98 (by decide +kernel) ?_
  refine h_bin (w := (30 : Int32)) (p_73_13 _ _) (by decide) ?_
  refine h_mm (w := (1 : Int32)) (p_73_14 _ _) (Nat.le_of_ble_eq_true rfl) (by decide) ?_
  refine h_istore (ls1 := [.ref 98, .ref 66, .int (1 : Int32)]) (p_73_17 _ _) (Nat.le_of_ble_eq_true rfl) rfl rfl ?_
  refine h_aload (p_73_18 _ _) rfl ?_
  refine h_getr (a := 67) (p_73_19 _ _) isI_7_0 sh_66 (by decide +kernel) ?_
  refine h_push (p_73_22 _ _) ?_
  refine h_aload (p_73_23 _ _) rfl ?_
  refine h_getr (a := 99) (p_73_24 _ _) isI_7_0 sh_98 (by decide +kernel) ?_
  refine h_aload (p_73_27 _ _) rfl ?_
  refine h_geti (x := (0 : Int32)) (p_73_28 _ _) isI_7_1 sh_98 (by decide +kernel) ?_
  refine h_iload (p_73_31 _ _) rfl ?_
  refine h_copy (s := sx_167) (e0 := 0) (e1 := 0) (e2 := 1) (p_73_32 _ _) sh_67 sh_99 (Nat.le_of_ble_eq_true rfl) (by decide) (by decide) (by decide) (by decide) (by decide) ?_
  refine h_aload (p_73_35 _ _) rfl ?_
  refine h_dup (p_73_36 _ _) ?_
  refine h_geti (x := (0 : Int32)) (p_73_37 _ _) isI_7_1 sh_98 (by decide +kernel) ?_
  refine h_iload (p_73_40 _ _) rfl ?_
  refine h_bin (w := (1 : Int32)) (p_73_41 _ _) (by decide) ?_
  refine h_puti (p_73_42 _ _) isI_7_1 sh_98 (by decide) ?_
  exact h_ret0 (p_73_45 _ _) h
theorem kc_161 {L : Nat} {xs : Nat → Int32} {d : Nat} {K : Option Int32 → Nat → Nat → sT → Prop} (h : K none 186 104467 sx_168) : tH L xs 186 104467 (d + 1) 75 0 [.ref 98, .ref 66] [] sx_166 K := by
  refine h_aload (p_75_0 _ _) rfl ?_
  refine h_call (z := 71) (i := 98) (as := []) (rest := []) (p_75_1 _ _) mK_71 mL_71 rfl rfl (Nat.le_of_ble_eq_true rfl) rfl (Nat.le_of_ble_eq_true rfl) sh_98 (kc_159 (d := d + 0) ⟨rfl, ?_⟩)
  refine h_aload (p_75_4 _ _) rfl ?_
  refine h_aload (p_75_5 _ _) rfl ?_
  refine h_call (z := 73) (i := 98) (as := [.ref 66]) (rest := []) (p_75_6 _ _) mK_73 mL_73 rfl rfl (Nat.le_of_ble_eq_true rfl) rfl (Nat.le_of_ble_eq_true rfl) sh_98 (kc_160 (d := d + 0) ⟨rfl, ?_⟩)
  exact h_ret0 (p_75_9 _ _) h
def sx_169 : sT := pV (sx_168) 100 1 (0 : Int32)
theorem kc_162 {L : Nat} {xs : Nat → Int32} {d : Nat} {K : Option Int32 → Nat → Nat → sT → Prop} (h : K none 186 104467 sx_169) : tH L xs 186 104467 (d + 0) 71 0 [.ref 100] [] sx_168 K := by
  refine h_aload (p_71_0 _ _) rfl ?_
  refine h_push (p_71_1 _ _) ?_
  refine h_puti (p_71_2 _ _) isI_7_1 sh_100 (by decide) ?_
  exact h_ret0 (p_71_5 _ _) h
def sx_170 : sT := pV (pA sx_169 101 (va_cpy (sx_169.1 67) (sx_169.1 101) 0 0 1)) 100 1 (1 : Int32)
theorem kc_163 {L : Nat} {xs : Nat → Int32} {d : Nat} {K : Option Int32 → Nat → Nat → sT → Prop} (h : K none 186 104467 sx_170) : tH L xs 186 104467 (d + 0) 73 0 [.ref 100, .ref 66, .null] [] sx_169 K := by
  refine h_aload (p_73_0 _ _) rfl ?_
  refine h_geti (x := (1 : Int32)) (p_73_1 _ _) isI_7_1 sh_66 (by decide +kernel) ?_
  refine h_aload (p_73_4 _ _) rfl ?_
  refine h_getr (a := 101) (p_73_5 _ _) isI_7_0 sh_100 (by decide +kernel) ?_
  refine h_alen (x := (30 : Int32)) (p_73_8 _ _) sh_101 (by decide) ?_
  refine h_aload (p_73_9 _ _) rfl ?_
  refine h_geti (x := (0 : Int32)) (p_73_10 _ _) isI_7_1 sh_100 (by decide +kernel) ?_
  refine h_bin (w := (30 : Int32)) (p_73_13 _ _) (by decide) ?_
  refine h_mm (w := (1 : Int32)) (p_73_14 _ _) (Nat.le_of_ble_eq_true rfl) (by decide) ?_
  refine h_istore (ls1 := [.ref 100, .ref 66, .int (1 : Int32)]) (p_73_17 _ _) (Nat.le_of_ble_eq_true rfl) rfl rfl ?_
  refine h_aload (p_73_18 _ _) rfl ?_
  refine h_getr (a := 67) (p_73_19 _ _) isI_7_0 sh_66 (by decide +kernel) ?_
  refine h_push (p_73_22 _ _) ?_
  refine h_aload (p_73_23 _ _) rfl ?_
  refine h_getr (a := 101) (p_73_24 _ _) isI_7_0 sh_100 (by decide +kernel) ?_
  refine h_aload (p_73_27 _ _) rfl ?_
  refine h_geti (x := (0 : Int32)) (p_73_28 _ _) isI_7_1 sh_100 (by decide +kernel) ?_
  refine h_iload (p_73_31 _ _) rfl ?_
  refine h_copy (s := sx_169) (e0 := 0) (e1 := 0) (e2 := 1) (p_73_32 _ _) sh_67 sh_101 (Nat.le_of_ble_eq_true rfl) (by decide) (by decide) (by decide) (by decide) (by decide) ?_
  refine h_aload (p_73_35 _ _) rfl ?_
  refine h_dup (p_73_36 _ _) ?_
  refine h_geti (x := (0 : Int32)) (p_73_37 _ _) isI_7_1 sh_100 (by decide +kernel) ?_
  refine h_iload (p_73_40 _ _) rfl ?_
  refine h_bin (w := (1 : Int32)) (p_73_41 _ _) (by decide) ?_
  refine h_puti (p_73_42 _ _) isI_7_1 sh_100 (by decide) ?_
  exact h_ret0 (p_73_45 _ _) h
theorem kc_164 {L : Nat} {xs : Nat → Int32} {d : Nat} {K : Option Int32 → Nat → Nat → sT → Prop} (h : K none 186 104467 sx_170) : tH L xs 186 104467 (d + 1) 75 0 [.ref 100, .ref 66] [] sx_168 K := by
  refine h_aload (p_75_0 _ _) rfl ?_
  refine h_call (z := 71) (i := 100) (as := []) (rest := []) (p_75_1 _ _) mK_71 mL_71 rfl rfl (Nat.le_of_ble_eq_true rfl) rfl (Nat.le_of_ble_eq_true rfl) sh_100 (kc_162 (d := d + 0) ⟨rfl, ?_⟩)
  refine h_aload (p_75_4 _ _) rfl ?_
  refine h_aload (p_75_5 _ _) rfl ?_
  refine h_call (z := 73) (i := 100) (as := [.ref 66]) (rest := []) (p_75_6 _ _) mK_73 mL_73 rfl rfl (Nat.le_of_ble_eq_true rfl) rfl (Nat.le_of_ble_eq_true rfl) sh_100 (kc_163 (d := d + 0) ⟨rfl, ?_⟩)
  exact h_ret0 (p_75_9 _ _) h
theorem kc_165 {L : Nat} {xs : Nat → Int32} {d : Nat} {K : Option Int32 → Nat → Nat → sT → Prop} (h : K none 186 104467 sx_170) : tH L xs 1 11 (d + 5) 113 0 [.ref 0, .null, .null] [] sx_0 K := by
  refine h_aload (p_113_0 _ _) rfl ?_
  refine h_init (p_113_1 _ _) (Nat.le_of_ble_eq_true rfl) ?_
  refine h_new (n1 := 2) (m1 := 21) (p_113_4 _ _) sh_1 fl_8 rfl rfl ?_
  refine h_dup (p_113_7 _ _) ?_
  refine h_call (z := 79) (i := 1) (as := []) (rest := [.ref 1]) (p_113_8 _ _) mK_79 mL_79 rfl rfl (Nat.le_of_ble_eq_true rfl) rfl (Nat.le_of_ble_eq_true rfl) sh_1 (kc_1 (d := d + 4) ⟨rfl, ?_⟩)
  refine h_astore (ls1 := [.ref 0, .ref 1, .null]) (p_113_11 _ _) (Nat.le_of_ble_eq_true rfl) rfl rfl ?_
  refine h_aload (p_113_12 _ _) rfl ?_
  refine h_new (n1 := 10) (m1 := 3007) (p_113_13 _ _) sh_9 fl_7 rfl rfl ?_
  refine h_dup (p_113_16 _ _) ?_
  refine h_push (p_113_17 _ _) ?_
  refine h_call (z := 70) (i := 9) (as := [.int (68 : Int32)]) (rest := [.ref 9, .ref 0]) (p_113_19 _ _) mK_70 mL_70 rfl rfl (Nat.le_of_ble_eq_true rfl) rfl (Nat.le_of_ble_eq_true rfl) sh_9 (kc_2 (d := d + 4) ⟨rfl, ?_⟩)
  refine h_putr (p_113_22 _ _) isI_10_5 sh_0 (by decide) ?_
  refine h_aload (p_113_25 _ _) rfl ?_
  refine h_new (n1 := 12) (m1 := 3080) (p_113_26 _ _) sh_11 fl_2 rfl rfl ?_
  refine h_dup (p_113_29 _ _) ?_
  refine h_aload (p_113_30 _ _) rfl ?_
  refine h_aload (p_113_31 _ _) rfl ?_
  refine h_getr (a := 9) (p_113_32 _ _) isI_10_5 sh_0 (by decide +kernel) ?_
  refine h_call (z := 21) (i := 11) (as := [.ref 1, .ref 9]) (rest := [.ref 11, .ref 0]) (p_113_35 _ _) mK_21 mL_21 rfl rfl (Nat.le_of_ble_eq_true rfl) rfl (Nat.le_of_ble_eq_true rfl) sh_11 (kc_3 (d := d + 4) ⟨rfl, ?_⟩)
  refine h_putr (p_113_38 _ _) isI_10_0 sh_0 (by decide) ?_
  refine h_aload (p_113_41 _ _) rfl ?_
  refine h_new (n1 := 13) (m1 := 3088) (p_113_42 _ _) sh_12 fl_6 rfl rfl ?_
  refine h_dup (p_113_45 _ _) ?_
  refine h_aload (p_113_46 _ _) rfl ?_
  refine h_call (z := 59) (i := 12) (as := [.ref 1]) (rest := [.ref 12, .ref 0]) (p_113_47 _ _) mK_59 mL_59 rfl rfl (Nat.le_of_ble_eq_true rfl) rfl (Nat.le_of_ble_eq_true rfl) sh_12 (kc_5 (d := d + 3) ⟨rfl, ?_⟩)
  refine h_putr (p_113_50 _ _) isI_10_1 sh_0 (by decide) ?_
  refine h_aload (p_113_53 _ _) rfl ?_
  refine h_push (p_113_54 _ _) ?_
  refine h_anew (k := 2) (n1 := 19) (m1 := 5367) (p_113_55 _ _) sh_18 (by decide) (by decide) rfl rfl ?_
  refine h_dup (p_113_58 _ _) ?_
  refine h_push (p_113_59 _ _) ?_
  refine h_new (n1 := 20) (m1 := 5378) (p_113_60 _ _) sh_19 fl_5 rfl rfl ?_
  refine h_dup (p_113_63 _ _) ?_
  refine h_call (z := 38) (i := 19) (as := []) (rest := [.ref 19, .int (0 : Int32), .ref 18, .ref 18, .ref 0]) (p_113_64 _ _) mK_38 mL_38 rfl rfl (Nat.le_of_ble_eq_true rfl) rfl (Nat.le_of_ble_eq_true rfl) sh_19 (kc_8 (d := d + 3) ⟨rfl, ?_⟩)
  refine h_aast (k := 0) (p_113_67 _ _) sh_18 sh_19 (by decide) (by decide) (by decide) ?_
  refine h_dup (p_113_68 _ _) ?_
  refine h_push (p_113_69 _ _) ?_
  refine h_new (n1 := 29) (m1 := 11562) (p_113_70 _ _) sh_28 fl_5 rfl rfl ?_
  refine h_dup (p_113_73 _ _) ?_
  refine h_call (z := 38) (i := 28) (as := []) (rest := [.ref 28, .int (1 : Int32), .ref 18, .ref 18, .ref 0]) (p_113_74 _ _) mK_38 mL_38 rfl rfl (Nat.le_of_ble_eq_true rfl) rfl (Nat.le_of_ble_eq_true rfl) sh_28 (kc_11 (d := d + 3) ⟨rfl, ?_⟩)
  refine h_aast (k := 1) (p_113_77 _ _) sh_18 sh_28 (by decide) (by decide) (by decide) ?_
  refine h_putr (p_113_78 _ _) isI_10_6 sh_0 (by decide) ?_
  refine h_aload (p_113_81 _ _) rfl ?_
  refine h_new (n1 := 38) (m1 := 17747) (p_113_82 _ _) sh_37 fl_1 rfl rfl ?_
  refine h_dup (p_113_85 _ _) ?_
  refine h_call (z := 8) (i := 37) (as := []) (rest := [.ref 37, .ref 0]) (p_113_86 _ _) mK_8 mL_8 rfl rfl (Nat.le_of_ble_eq_true rfl) rfl (Nat.le_of_ble_eq_true rfl) sh_37 (kc_13 (d := d + 3) ⟨rfl, ?_⟩)
  refine h_putr (p_113_89 _ _) isI_10_7 sh_0 (by decide) ?_
  refine h_aload (p_113_92 _ _) rfl ?_
  refine h_new (n1 := 48) (m1 := 29159) (p_113_93 _ _) sh_47 fl_4 rfl rfl ?_
  refine h_dup (p_113_96 _ _) ?_
  refine h_aload (p_113_97 _ _) rfl ?_
  refine h_getr (a := 18) (p_113_98 _ _) isI_10_6 sh_0 (by decide +kernel) ?_
  refine h_push (p_113_101 _ _) ?_
  refine h_aald (k := 0) (a := 19) (p_113_102 _ _) sh_18 (by decide) (by decide) (by decide +kernel) ?_
  refine h_aload (p_113_103 _ _) rfl ?_
  refine h_getr (a := 18) (p_113_104 _ _) isI_10_6 sh_0 (by decide +kernel) ?_
  refine h_push (p_113_107 _ _) ?_
  refine h_aald (k := 1) (a := 28) (p_113_108 _ _) sh_18 (by decide) (by decide) (by decide +kernel) ?_
  refine h_aload (p_113_109 _ _) rfl ?_
  refine h_getr (a := 37) (p_113_110 _ _) isI_10_7 sh_0 (by decide +kernel) ?_
  refine h_call (z := 31) (i := 47) (as := [.ref 19, .ref 28, .ref 37]) (rest := [.ref 47, .ref 0]) (p_113_113 _ _) mK_31 mL_31 rfl rfl (Nat.le_of_ble_eq_true rfl) rfl (Nat.le_of_ble_eq_true rfl) sh_47 (kc_14 (d := d + 4) ⟨rfl, ?_⟩)
  refine h_putr (p_113_116 _ _) isI_10_2 sh_0 (by decide) ?_
  refine h_aload (p_113_119 _ _) rfl ?_
  refine h_new (n1 := 56) (m1 := 30459) (p_113_120 _ _) sh_55 fl_0 rfl rfl ?_
  refine h_dup (p_113_123 _ _) ?_
  refine h_aload (p_113_124 _ _) rfl ?_
  refine h_getr (a := 18) (p_113_125 _ _) isI_10_6 sh_0 (by decide +kernel) ?_
  refine h_push (p_113_128 _ _) ?_
  refine h_aald (k := 0) (a := 19) (p_113_129 _ _) sh_18 (by decide) (by decide) (by decide +kernel) ?_
  refine h_aload (p_113_130 _ _) rfl ?_
  refine h_getr (a := 18) (p_113_131 _ _) isI_10_6 sh_0 (by decide +kernel) ?_
  refine h_push (p_113_134 _ _) ?_
  refine h_aald (k := 1) (a := 28) (p_113_135 _ _) sh_18 (by decide) (by decide) (by decide +kernel) ?_
  refine h_aload (p_113_136 _ _) rfl ?_
  refine h_getr (a := 37) (p_113_137 _ _) isI_10_7 sh_0 (by decide +kernel) ?_
  refine h_call (z := 0) (i := 55) (as := [.ref 19, .ref 28, .ref 37]) (rest := [.ref 55, .ref 0]) (p_113_140 _ _) mK_0 mL_0 rfl rfl (Nat.le_of_ble_eq_true rfl) rfl (Nat.le_of_ble_eq_true rfl) sh_55 (kc_15 (d := d + 4) ⟨rfl, ?_⟩)
  refine h_putr (p_113_143 _ _) isI_10_3 sh_0 (by decide) ?_
  refine h_aload (p_113_146 _ _) rfl ?_
  refine h_new (n1 := 57) (m1 := 30466) (p_113_147 _ _) sh_56 fl_9 rfl rfl ?_
  refine h_dup (p_113_150 _ _) ?_
  refine h_aload (p_113_151 _ _) rfl ?_
  refine h_getr (a := 18) (p_113_152 _ _) isI_10_6 sh_0 (by decide +kernel) ?_
  refine h_push (p_113_155 _ _) ?_
  refine h_aald (k := 0) (a := 19) (p_113_156 _ _) sh_18 (by decide) (by decide) (by decide +kernel) ?_
  refine h_aload (p_113_157 _ _) rfl ?_
  refine h_getr (a := 18) (p_113_158 _ _) isI_10_6 sh_0 (by decide +kernel) ?_
  refine h_push (p_113_161 _ _) ?_
  refine h_aald (k := 1) (a := 28) (p_113_162 _ _) sh_18 (by decide) (by decide) (by decide +kernel) ?_
  refine h_call (z := 102) (i := 56) (as := [.ref 19, .ref 28]) (rest := [.ref 56, .ref 0]) (p_113_163 _ _) mK_102 mL_102 rfl rfl (Nat.le_of_ble_eq_true rfl) rfl (Nat.le_of_ble_eq_true rfl) sh_56 (kc_16 (d := d + 4) ⟨rfl, ?_⟩)
  refine h_putr (p_113_166 _ _) isI_10_4 sh_0 (by decide) ?_
  refine h_aload (p_113_169 _ _) rfl ?_
  refine h_new (n1 := 62) (m1 := 32519) (p_113_170 _ _) sh_61 fl_3 rfl rfl ?_
  refine h_dup (p_113_173 _ _) ?_
  refine h_call (z := 29) (i := 61) (as := []) (rest := [.ref 61, .ref 0]) (p_113_174 _ _) mK_29 mL_29 rfl rfl (Nat.le_of_ble_eq_true rfl) rfl (Nat.le_of_ble_eq_true rfl) sh_61 (kc_30 (d := d + 2) ⟨rfl, ?_⟩)
  refine h_putr (p_113_177 _ _) isI_10_8 sh_0 (by decide) ?_
  refine h_aload (p_113_180 _ _) rfl ?_
  refine h_push (p_113_181 _ _) ?_
  refine h_anew (k := 2) (n1 := 103) (m1 := 56499) (p_113_182 _ _) sh_102 (by decide) (by decide) rfl rfl ?_
  refine h_dup (p_113_185 _ _) ?_
  refine h_push (p_113_186 _ _) ?_
  refine h_new (n1 := 104) (m1 := 56504) (p_113_187 _ _) sh_103 fl_3 rfl rfl ?_
  refine h_dup (p_113_190 _ _) ?_
  refine h_call (z := 29) (i := 103) (as := []) (rest := [.ref 103, .int (0 : Int32), .ref 102, .ref 102, .ref 0]) (p_113_191 _ _) mK_29 mL_29 rfl rfl (Nat.le_of_ble_eq_true rfl) rfl (Nat.le_of_ble_eq_true rfl) sh_103 (kc_44 (d := d + 2) ⟨rfl, ?_⟩)
  refine h_aast (k := 0) (p_113_194 _ _) sh_102 sh_103 (by decide) (by decide) (by decide) ?_
  refine h_dup (p_113_195 _ _) ?_
  refine h_push (p_113_196 _ _) ?_
  refine h_new (n1 := 145) (m1 := 80487) (p_113_197 _ _) sh_144 fl_3 rfl rfl ?_
  refine h_dup (p_113_200 _ _) ?_
  refine h_call (z := 29) (i := 144) (as := []) (rest := [.ref 144, .int (1 : Int32), .ref 102, .ref 102, .ref 0]) (p_113_201 _ _) mK_29 mL_29 rfl rfl (Nat.le_of_ble_eq_true rfl) rfl (Nat.le_of_ble_eq_true rfl) sh_144 (kc_58 (d := d + 2) ⟨rfl, ?_⟩)
  refine h_aast (k := 1) (p_113_204 _ _) sh_102 sh_144 (by decide) (by decide) (by decide) ?_
  refine h_putr (p_113_205 _ _) isI_10_9 sh_0 (by decide) ?_
  refine h_aload (p_113_208 _ _) rfl ?_
  refine h_push (p_113_209 _ _) ?_
  refine h_newa (k := 2) (n1 := 186) (m1 := 104467) (p_113_210 _ _) sh_185 (by decide) (by decide) rfl rfl ?_
  refine h_putr (p_113_212 _ _) isI_10_10 sh_0 (by decide) ?_
  refine h_push (p_113_215 _ _) ?_
  refine h_istore (ls1 := [.ref 0, .ref 1, .int (0 : Int32)]) (p_113_216 _ _) (Nat.le_of_ble_eq_true rfl) rfl rfl ?_
  refine h_iload (p_113_217 _ _) rfl ?_
  refine h_push (p_113_218 _ _) ?_
  refine h_cmpF (p_113_219 _ _) (by decide) ?_
  refine h_aload (p_113_222 _ _) rfl ?_
  refine h_getr (a := 12) (p_113_223 _ _) isI_10_1 sh_0 (by decide +kernel) ?_
  refine h_push (p_113_226 _ _) ?_
  refine h_aload (p_113_227 _ _) rfl ?_
  refine h_getr (a := 61) (p_113_228 _ _) isI_10_8 sh_0 (by decide +kernel) ?_
  refine h_getr (a := 64) (p_113_231 _ _) isI_3_1 sh_61 (by decide +kernel) ?_
  refine h_iload (p_113_234 _ _) rfl ?_
  refine h_aald (k := 0) (a := 65) (p_113_235 _ _) sh_64 (by decide) (by decide) (by decide +kernel) ?_
  refine h_call (z := 61) (i := 12) (as := [.int (0 : Int32), .ref 65]) (rest := []) (p_113_236 _ _) mK_61 mL_61 rfl rfl (Nat.le_of_ble_eq_true rfl) rfl (Nat.le_of_ble_eq_true rfl) sh_12 (kc_105 (d := d + 0) ⟨rfl, ?_⟩)
  refine h_iinc (x1 := (1 : Int32)) (ls1 := [.ref 0, .ref 1, .int (1 : Int32)]) (p_113_239 _ _) rfl rfl (by decide) rfl ?_
  refine h_goto (p_113_242 _ _) ?_
  refine h_iload (p_113_217 _ _) rfl ?_
  refine h_push (p_113_218 _ _) ?_
  refine h_cmpF (p_113_219 _ _) (by decide) ?_
  refine h_aload (p_113_222 _ _) rfl ?_
  refine h_getr (a := 12) (p_113_223 _ _) isI_10_1 sh_0 (by decide +kernel) ?_
  refine h_push (p_113_226 _ _) ?_
  refine h_aload (p_113_227 _ _) rfl ?_
  refine h_getr (a := 61) (p_113_228 _ _) isI_10_8 sh_0 (by decide +kernel) ?_
  refine h_getr (a := 64) (p_113_231 _ _) isI_3_1 sh_61 (by decide +kernel) ?_
  refine h_iload (p_113_234 _ _) rfl ?_
  refine h_aald (k := 1) (a := 74) (p_113_235 _ _) sh_64 (by decide) (by decide) (by decide +kernel) ?_
  refine h_call (z := 61) (i := 12) (as := [.int (0 : Int32), .ref 74]) (rest := []) (p_113_236 _ _) mK_61 mL_61 rfl rfl (Nat.le_of_ble_eq_true rfl) rfl (Nat.le_of_ble_eq_true rfl) sh_12 (kc_152 (d := d + 0) ⟨rfl, ?_⟩)
  refine h_iinc (x1 := (2 : Int32)) (ls1 := [.ref 0, .ref 1, .int (2 : Int32)]) (p_113_239 _ _) rfl rfl (by decide) rfl ?_
  refine h_goto (p_113_242 _ _) ?_
  refine h_iload (p_113_217 _ _) rfl ?_
  refine h_push (p_113_218 _ _) ?_
  refine h_cmpT (p_113_219 _ _) (by decide) ?_
  refine h_push (p_113_245 _ _) ?_
  refine h_istore (ls1 := [.ref 0, .ref 1, .int (0 : Int32)]) (p_113_246 _ _) (Nat.le_of_ble_eq_true rfl) rfl rfl ?_
  refine h_iload (p_113_247 _ _) rfl ?_
  refine h_push (p_113_248 _ _) ?_
  refine h_cmpF (p_113_249 _ _) (by decide) ?_
  refine h_aload (p_113_252 _ _) rfl ?_
  refine h_getr (a := 61) (p_113_253 _ _) isI_10_8 sh_0 (by decide +kernel) ?_
  refine h_getr (a := 83) (p_113_256 _ _) isI_3_2 sh_61 (by decide +kernel) ?_
  refine h_iload (p_113_259 _ _) rfl ?_
  refine h_aald (k := 0) (a := 94) (p_113_260 _ _) sh_83 (by decide) (by decide) (by decide +kernel) ?_
  refine h_aload (p_113_261 _ _) rfl ?_
  refine h_getr (a := 61) (p_113_262 _ _) isI_10_8 sh_0 (by decide +kernel) ?_
  refine h_getr (a := 64) (p_113_265 _ _) isI_3_1 sh_61 (by decide +kernel) ?_
  refine h_push (p_113_268 _ _) ?_
  refine h_aald (k := 0) (a := 65) (p_113_269 _ _) sh_64 (by decide) (by decide) (by decide +kernel) ?_
  refine h_getr (a := 66) (p_113_270 _ _) isI_5_0 sh_65 (by decide +kernel) ?_
  refine h_call (z := 75) (i := 94) (as := [.ref 66]) (rest := []) (p_113_273 _ _) mK_75 mL_75 rfl rfl (Nat.le_of_ble_eq_true rfl) rfl (Nat.le_of_ble_eq_true rfl) sh_94 (kc_155 (d := d + 3) ⟨rfl, ?_⟩)
  refine h_iinc (x1 := (1 : Int32)) (ls1 := [.ref 0, .ref 1, .int (1 : Int32)]) (p_113_276 _ _) rfl rfl (by decide) rfl ?_
  refine h_goto (p_113_279 _ _) ?_
  refine h_iload (p_113_247 _ _) rfl ?_
  refine h_push (p_113_248 _ _) ?_
  refine h_cmpF (p_113_249 _ _) (by decide) ?_
  refine h_aload (p_113_252 _ _) rfl ?_
  refine h_getr (a := 61) (p_113_253 _ _) isI_10_8 sh_0 (by decide +kernel) ?_
  refine h_getr (a := 83) (p_113_256 _ _) isI_3_2 sh_61 (by decide +kernel) ?_
  refine h_iload (p_113_259 _ _) rfl ?_
  refine h_aald (k := 1) (a := 96) (p_113_260 _ _) sh_83 (by decide) (by decide) (by decide +kernel) ?_
  refine h_aload (p_113_261 _ _) rfl ?_
  refine h_getr (a := 61) (p_113_262 _ _) isI_10_8 sh_0 (by decide +kernel) ?_
  refine h_getr (a := 64) (p_113_265 _ _) isI_3_1 sh_61 (by decide +kernel) ?_
  refine h_push (p_113_268 _ _) ?_
  refine h_aald (k := 0) (a := 65) (p_113_269 _ _) sh_64 (by decide) (by decide) (by decide +kernel) ?_
  refine h_getr (a := 66) (p_113_270 _ _) isI_5_0 sh_65 (by decide +kernel) ?_
  refine h_call (z := 75) (i := 96) (as := [.ref 66]) (rest := []) (p_113_273 _ _) mK_75 mL_75 rfl rfl (Nat.le_of_ble_eq_true rfl) rfl (Nat.le_of_ble_eq_true rfl) sh_96 (kc_158 (d := d + 3) ⟨rfl, ?_⟩)
  refine h_iinc (x1 := (2 : Int32)) (ls1 := [.ref 0, .ref 1, .int (2 : Int32)]) (p_113_276 _ _) rfl rfl (by decide) rfl ?_
  refine h_goto (p_113_279 _ _) ?_
  refine h_iload (p_113_247 _ _) rfl ?_
  refine h_push (p_113_248 _ _) ?_
  refine h_cmpF (p_113_249 _ _) (by decide) ?_
  refine h_aload (p_113_252 _ _) rfl ?_
  refine h_getr (a := 61) (p_113_253 _ _) isI_10_8 sh_0 (by decide +kernel) ?_
  refine h_getr (a := 83) (p_113_256 _ _) isI_3_2 sh_61 (by decide +kernel) ?_
  refine h_iload (p_113_259 _ _) rfl ?_
  refine h_aald (k := 2) (a := 98) (p_113_260 _ _) sh_83 (by decide) (by decide) (by decide +kernel) ?_
  refine h_aload (p_113_261 _ _) rfl ?_
  refine h_getr (a := 61) (p_113_262 _ _) isI_10_8 sh_0 (by decide +kernel) ?_
  refine h_getr (a := 64) (p_113_265 _ _) isI_3_1 sh_61 (by decide +kernel) ?_
  refine h_push (p_113_268 _ _) ?_
  refine h_aald (k := 0) (a := 65) (p_113_269 _ _) sh_64 (by decide) (by decide) (by decide +kernel) ?_
  refine h_getr (a := 66) (p_113_270 _ _) isI_5_0 sh_65 (by decide +kernel) ?_
  refine h_call (z := 75) (i := 98) (as := [.ref 66]) (rest := []) (p_113_273 _ _) mK_75 mL_75 rfl rfl (Nat.le_of_ble_eq_true rfl) rfl (Nat.le_of_ble_eq_true rfl) sh_98 (kc_161 (d := d + 3) ⟨rfl, ?_⟩)
  refine h_iinc (x1 := (3 : Int32)) (ls1 := [.ref 0, .ref 1, .int (3 : Int32)]) (p_113_276 _ _) rfl rfl (by decide) rfl ?_
  refine h_goto (p_113_279 _ _) ?_
  refine h_iload (p_113_247 _ _) rfl ?_
  refine h_push (p_113_248 _ _) ?_
  refine h_cmpF (p_113_249 _ _) (by decide) ?_
  refine h_aload (p_113_252 _ _) rfl ?_
  refine h_getr (a := 61) (p_113_253 _ _) isI_10_8 sh_0 (by decide +kernel) ?_
  refine h_getr (a := 83) (p_113_256 _ _) isI_3_2 sh_61 (by decide +kernel) ?_
  refine h_iload (p_113_259 _ _) rfl ?_
  refine h_aald (k := 3) (a := 100) (p_113_260 _ _) sh_83 (by decide) (by decide) (by decide +kernel) ?_
  refine h_aload (p_113_261 _ _) rfl ?_
  refine h_getr (a := 61) (p_113_262 _ _) isI_10_8 sh_0 (by decide +kernel) ?_
  refine h_getr (a := 64) (p_113_265 _ _) isI_3_1 sh_61 (by decide +kernel) ?_
  refine h_push (p_113_268 _ _) ?_
  refine h_aald (k := 0) (a := 65) (p_113_269 _ _) sh_64 (by decide) (by decide) (by decide +kernel) ?_
  refine h_getr (a := 66) (p_113_270 _ _) isI_5_0 sh_65 (by decide +kernel) ?_
  refine h_call (z := 75) (i := 100) (as := [.ref 66]) (rest := []) (p_113_273 _ _) mK_75 mL_75 rfl rfl (Nat.le_of_ble_eq_true rfl) rfl (Nat.le_of_ble_eq_true rfl) sh_100 (kc_164 (d := d + 3) ⟨rfl, ?_⟩)
  refine h_iinc (x1 := (4 : Int32)) (ls1 := [.ref 0, .ref 1, .int (4 : Int32)]) (p_113_276 _ _) rfl rfl (by decide) rfl ?_
  refine h_goto (p_113_279 _ _) ?_
  refine h_iload (p_113_247 _ _) rfl ?_
  refine h_push (p_113_248 _ _) ?_
  refine h_cmpT (p_113_249 _ _) (by decide) ?_
  exact h_ret0 (p_113_282 _ _) h
def sx_171 : sT := pR (pR (pR (pR (pR (pR (pR (pR (pR (pR (pR (pR (pR (pR (pR (pR (pR (pR (pR (pR (pR (pR (pR (pR (pR (pR (pR (pR (pR (pV (pR (pR (pR (sx_170) 186 0 (some 187)) 186 1 (some 188)) 186 2 (some 189)) 186 4 (-1 : Int32)) 186 5 (some 190)) 186 6 (some 191)) 186 7 (some 192)) 186 8 (some 193)) 186 9 (some 194)) 186 10 (some 195)) 186 11 (some 196)) 186 14 (some 197)) 186 15 (some 198)) 186 16 (some 199)) 186 18 (some 200)) 186 20 (some 201)) 186 21 (some 202)) 186 22 (some 203)) 186 23 (some 204)) 186 24 (some 205)) 186 27 (some 206)) 186 28 (some 207)) 186 31 (some 208)) 186 32 (some 209)) 186 34 (some 210)) 186 35 (some 211)) 186 36 (some 212)) 186 37 (some 213)) 186 38 (some 214)) 186 39 (some 215)) 186 40 (some 216)) 186 41 (some 217)) 186 45 (some 218)
def sx_172 : sT := pV (pV (sx_171) 187 0 (1 : Int32)) 187 1 (48 : Int32)
theorem kc_166 {L : Nat} {xs : Nat → Int32} {d : Nat} {K : Option Int32 → Nat → Nat → sT → Prop} (h : K none 219 251654 sx_172) : tH L xs 219 251654 (d + 0) 150 0 [.ref 186, .int (0 : Int32)] [] sx_171 K := by
  refine h_aload (p_150_0 _ _) rfl ?_
  refine h_getr (a := 187) (p_150_1 _ _) isI_11_0 sh_186 (by decide +kernel) ?_
  refine h_iload (p_150_4 _ _) rfl ?_
  refine h_push (p_150_5 _ _) ?_
  refine h_ast (k := 0) (p_150_6 _ _) sh_187 (by decide) (by decide) (by decide) ?_
  refine h_aload (p_150_7 _ _) rfl ?_
  refine h_getr (a := 187) (p_150_8 _ _) isI_11_0 sh_186 (by decide +kernel) ?_
  refine h_iload (p_150_11 _ _) rfl ?_
  refine h_push (p_150_12 _ _) ?_
  refine h_bin (w := (1 : Int32)) (p_150_13 _ _) (by decide) ?_
  refine h_push (p_150_14 _ _) ?_
  refine h_ast (k := 1) (p_150_16 _ _) sh_187 (by decide) (by decide) (by decide) ?_
  exact h_ret0 (p_150_17 _ _) h
def sx_173 : sT := pV (pV (sx_172) 187 31 (1 : Int32)) 187 32 (48 : Int32)
theorem kc_167 {L : Nat} {xs : Nat → Int32} {d : Nat} {K : Option Int32 → Nat → Nat → sT → Prop} (h : K none 219 251654 sx_173) : tH L xs 219 251654 (d + 0) 150 0 [.ref 186, .int (31 : Int32)] [] sx_172 K := by
  refine h_aload (p_150_0 _ _) rfl ?_
  refine h_getr (a := 187) (p_150_1 _ _) isI_11_0 sh_186 (by decide +kernel) ?_
  refine h_iload (p_150_4 _ _) rfl ?_
  refine h_push (p_150_5 _ _) ?_
  refine h_ast (k := 31) (p_150_6 _ _) sh_187 (by decide) (by decide) (by decide) ?_
  refine h_aload (p_150_7 _ _) rfl ?_
  refine h_getr (a := 187) (p_150_8 _ _) isI_11_0 sh_186 (by decide +kernel) ?_
  refine h_iload (p_150_11 _ _) rfl ?_
  refine h_push (p_150_12 _ _) ?_
  refine h_bin (w := (32 : Int32)) (p_150_13 _ _) (by decide) ?_
  refine h_push (p_150_14 _ _) ?_
  refine h_ast (k := 32) (p_150_16 _ _) sh_187 (by decide) (by decide) (by decide) ?_
  exact h_ret0 (p_150_17 _ _) h
def sx_174 : sT := pV (pV (sx_173) 187 62 (1 : Int32)) 187 63 (48 : Int32)
theorem kc_168 {L : Nat} {xs : Nat → Int32} {d : Nat} {K : Option Int32 → Nat → Nat → sT → Prop} (h : K none 219 251654 sx_174) : tH L xs 219 251654 (d + 0) 150 0 [.ref 186, .int (62 : Int32)] [] sx_173 K := by
  refine h_aload (p_150_0 _ _) rfl ?_
  refine h_getr (a := 187) (p_150_1 _ _) isI_11_0 sh_186 (by decide +kernel) ?_
  refine h_iload (p_150_4 _ _) rfl ?_
  refine h_push (p_150_5 _ _) ?_
  refine h_ast (k := 62) (p_150_6 _ _) sh_187 (by decide) (by decide) (by decide) ?_
  refine h_aload (p_150_7 _ _) rfl ?_
  refine h_getr (a := 187) (p_150_8 _ _) isI_11_0 sh_186 (by decide +kernel) ?_
  refine h_iload (p_150_11 _ _) rfl ?_
  refine h_push (p_150_12 _ _) ?_
  refine h_bin (w := (63 : Int32)) (p_150_13 _ _) (by decide) ?_
  refine h_push (p_150_14 _ _) ?_
  refine h_ast (k := 63) (p_150_16 _ _) sh_187 (by decide) (by decide) (by decide) ?_
  exact h_ret0 (p_150_17 _ _) h
def sx_175 : sT := pV (pV (sx_174) 187 93 (1 : Int32)) 187 94 (48 : Int32)
theorem kc_169 {L : Nat} {xs : Nat → Int32} {d : Nat} {K : Option Int32 → Nat → Nat → sT → Prop} (h : K none 219 251654 sx_175) : tH L xs 219 251654 (d + 0) 150 0 [.ref 186, .int (93 : Int32)] [] sx_174 K := by
  refine h_aload (p_150_0 _ _) rfl ?_
  refine h_getr (a := 187) (p_150_1 _ _) isI_11_0 sh_186 (by decide +kernel) ?_
  refine h_iload (p_150_4 _ _) rfl ?_
  refine h_push (p_150_5 _ _) ?_
  refine h_ast (k := 93) (p_150_6 _ _) sh_187 (by decide) (by decide) (by decide) ?_
  refine h_aload (p_150_7 _ _) rfl ?_
  refine h_getr (a := 187) (p_150_8 _ _) isI_11_0 sh_186 (by decide +kernel) ?_
  refine h_iload (p_150_11 _ _) rfl ?_
  refine h_push (p_150_12 _ _) ?_
  refine h_bin (w := (94 : Int32)) (p_150_13 _ _) (by decide) ?_
  refine h_push (p_150_14 _ _) ?_
  refine h_ast (k := 94) (p_150_16 _ _) sh_187 (by decide) (by decide) (by decide) ?_
  exact h_ret0 (p_150_17 _ _) h
def sx_176 : sT := pV (pV (sx_175) 187 124 (1 : Int32)) 187 125 (48 : Int32)
theorem kc_170 {L : Nat} {xs : Nat → Int32} {d : Nat} {K : Option Int32 → Nat → Nat → sT → Prop} (h : K none 219 251654 sx_176) : tH L xs 219 251654 (d + 0) 150 0 [.ref 186, .int (124 : Int32)] [] sx_175 K := by
  refine h_aload (p_150_0 _ _) rfl ?_
  refine h_getr (a := 187) (p_150_1 _ _) isI_11_0 sh_186 (by decide +kernel) ?_
  refine h_iload (p_150_4 _ _) rfl ?_
  refine h_push (p_150_5 _ _) ?_
  refine h_ast (k := 124) (p_150_6 _ _) sh_187 (by decide) (by decide) (by decide) ?_
  refine h_aload (p_150_7 _ _) rfl ?_
  refine h_getr (a := 187) (p_150_8 _ _) isI_11_0 sh_186 (by decide +kernel) ?_
  refine h_iload (p_150_11 _ _) rfl ?_
  refine h_push (p_150_12 _ _) ?_
  refine h_bin (w := (125 : Int32)) (p_150_13 _ _) (by decide) ?_
  refine h_push (p_150_14 _ _) ?_
  refine h_ast (k := 125) (p_150_16 _ _) sh_187 (by decide) (by decide) (by decide) ?_
  exact h_ret0 (p_150_17 _ _) h
def sx_177 : sT := pV (pV (sx_176) 187 155 (1 : Int32)) 187 156 (48 : Int32)
theorem kc_171 {L : Nat} {xs : Nat → Int32} {d : Nat} {K : Option Int32 → Nat → Nat → sT → Prop} (h : K none 219 251654 sx_177) : tH L xs 219 251654 (d + 0) 150 0 [.ref 186, .int (155 : Int32)] [] sx_176 K := by
  refine h_aload (p_150_0 _ _) rfl ?_
  refine h_getr (a := 187) (p_150_1 _ _) isI_11_0 sh_186 (by decide +kernel) ?_
  refine h_iload (p_150_4 _ _) rfl ?_
  refine h_push (p_150_5 _ _) ?_
  refine h_ast (k := 155) (p_150_6 _ _) sh_187 (by decide) (by decide) (by decide) ?_
  refine h_aload (p_150_7 _ _) rfl ?_
  refine h_getr (a := 187) (p_150_8 _ _) isI_11_0 sh_186 (by decide +kernel) ?_
  refine h_iload (p_150_11 _ _) rfl ?_
  refine h_push (p_150_12 _ _) ?_
  refine h_bin (w := (156 : Int32)) (p_150_13 _ _) (by decide) ?_
  refine h_push (p_150_14 _ _) ?_
  refine h_ast (k := 156) (p_150_16 _ _) sh_187 (by decide) (by decide) (by decide) ?_
  exact h_ret0 (p_150_17 _ _) h
def sx_178 : sT := pV (sx_177) 187 10388 (-1 : Int32)
theorem kc_172 {L : Nat} {xs : Nat → Int32} {d : Nat} {K : Option Int32 → Nat → Nat → sT → Prop} (h : K none 219 251654 sx_178) : tH L xs 187 104513 (d + 1) 149 0 [.ref 186, .null] [] sx_170 K := by
  refine h_aload (p_149_0 _ _) rfl ?_
  refine h_init (p_149_1 _ _) (Nat.le_of_ble_eq_true rfl) ?_
  refine h_aload (p_149_4 _ _) rfl ?_
  refine h_push (p_149_5 _ _) ?_
  refine h_newa (k := 42882) (n1 := 188) (m1 := 147395) (p_149_7 _ _) sh_187 (by decide) (by decide) rfl rfl ?_
  refine h_putr (p_149_9 _ _) isI_11_0 sh_186 (by decide) ?_
  refine h_aload (p_149_12 _ _) rfl ?_
  refine h_push (p_149_13 _ _) ?_
  refine h_newa (k := 60) (n1 := 189) (m1 := 147455) (p_149_15 _ _) sh_188 (by decide) (by decide) rfl rfl ?_
  refine h_putr (p_149_17 _ _) isI_11_1 sh_186 (by decide) ?_
  refine h_aload (p_149_20 _ _) rfl ?_
  refine h_push (p_149_21 _ _) ?_
  refine h_newa (k := 2) (n1 := 190) (m1 := 147457) (p_149_22 _ _) sh_189 (by decide) (by decide) rfl rfl ?_
  refine h_putr (p_149_24 _ _) isI_11_2 sh_186 (by decide) ?_
  refine h_aload (p_149_27 _ _) rfl ?_
  refine h_push (p_149_28 _ _) ?_
  refine h_puti (p_149_29 _ _) isI_11_4 sh_186 (by decide) ?_
  refine h_aload (p_149_32 _ _) rfl ?_
  refine h_push (p_149_33 _ _) ?_
  refine h_newa (k := 1500) (n1 := 191) (m1 := 148957) (p_149_36 _ _) sh_190 (by decide) (by decide) rfl rfl ?_
  refine h_putr (p_149_38 _ _) isI_11_5 sh_186 (by decide) ?_
  refine h_aload (p_149_41 _ _) rfl ?_
  refine h_push (p_149_42 _ _) ?_
  refine h_newa (k := 1500) (n1 := 192) (m1 := 150457) (p_149_45 _ _) sh_191 (by decide) (by decide) rfl rfl ?_
  refine h_putr (p_149_47 _ _) isI_11_6 sh_186 (by decide) ?_
  refine h_aload (p_149_50 _ _) rfl ?_
  refine h_push (p_149_51 _ _) ?_
  refine h_newa (k := 1500) (n1 := 193) (m1 := 151957) (p_149_54 _ _) sh_192 (by decide) (by decide) rfl rfl ?_
  refine h_putr (p_149_56 _ _) isI_11_7 sh_186 (by decide) ?_
  refine h_aload (p_149_59 _ _) rfl ?_
  refine h_push (p_149_60 _ _) ?_
  refine h_newa (k := 1500) (n1 := 194) (m1 := 153457) (p_149_63 _ _) sh_193 (by decide) (by decide) rfl rfl ?_
  refine h_putr (p_149_65 _ _) isI_11_8 sh_186 (by decide) ?_
  refine h_aload (p_149_68 _ _) rfl ?_
  refine h_push (p_149_69 _ _) ?_
  refine h_newa (k := 1500) (n1 := 195) (m1 := 154957) (p_149_72 _ _) sh_194 (by decide) (by decide) rfl rfl ?_
  refine h_putr (p_149_74 _ _) isI_11_9 sh_186 (by decide) ?_
  refine h_aload (p_149_77 _ _) rfl ?_
  refine h_push (p_149_78 _ _) ?_
  refine h_newa (k := 24000) (n1 := 196) (m1 := 178957) (p_149_81 _ _) sh_195 (by decide) (by decide) rfl rfl ?_
  refine h_putr (p_149_83 _ _) isI_11_10 sh_186 (by decide) ?_
  refine h_aload (p_149_86 _ _) rfl ?_
  refine h_push (p_149_87 _ _) ?_
  refine h_newa (k := 1500) (n1 := 197) (m1 := 180457) (p_149_90 _ _) sh_196 (by decide) (by decide) rfl rfl ?_
  refine h_putr (p_149_92 _ _) isI_11_11 sh_186 (by decide) ?_
  refine h_aload (p_149_95 _ _) rfl ?_
  refine h_push (p_149_96 _ _) ?_
  refine h_newa (k := 4500) (n1 := 198) (m1 := 184957) (p_149_99 _ _) sh_197 (by decide) (by decide) rfl rfl ?_
  refine h_putr (p_149_101 _ _) isI_11_14 sh_186 (by decide) ?_
  refine h_aload (p_149_104 _ _) rfl ?_
  refine h_push (p_149_105 _ _) ?_
  refine h_newa (k := 4500) (n1 := 199) (m1 := 189457) (p_149_108 _ _) sh_198 (by decide) (by decide) rfl rfl ?_
  refine h_putr (p_149_110 _ _) isI_11_15 sh_186 (by decide) ?_
  refine h_aload (p_149_113 _ _) rfl ?_
  refine h_push (p_149_114 _ _) ?_
  refine h_newa (k := 48000) (n1 := 200) (m1 := 237457) (p_149_116 _ _) sh_199 (by decide) (by decide) rfl rfl ?_
  refine h_putr (p_149_118 _ _) isI_11_16 sh_186 (by decide) ?_
  refine h_aload (p_149_121 _ _) rfl ?_
  refine h_push (p_149_122 _ _) ?_
  refine h_newa (k := 400) (n1 := 201) (m1 := 237857) (p_149_125 _ _) sh_200 (by decide) (by decide) rfl rfl ?_
  refine h_putr (p_149_127 _ _) isI_11_18 sh_186 (by decide) ?_
  refine h_aload (p_149_130 _ _) rfl ?_
  refine h_push (p_149_131 _ _) ?_
  refine h_newa (k := 400) (n1 := 202) (m1 := 238257) (p_149_134 _ _) sh_201 (by decide) (by decide) rfl rfl ?_
  refine h_putr (p_149_136 _ _) isI_11_20 sh_186 (by decide) ?_
  refine h_aload (p_149_139 _ _) rfl ?_
  refine h_push (p_149_140 _ _) ?_
  refine h_newa (k := 960) (n1 := 203) (m1 := 239217) (p_149_143 _ _) sh_202 (by decide) (by decide) rfl rfl ?_
  refine h_putr (p_149_145 _ _) isI_11_21 sh_186 (by decide) ?_
  refine h_aload (p_149_148 _ _) rfl ?_
  refine h_push (p_149_149 _ _) ?_
  refine h_newa (k := 960) (n1 := 204) (m1 := 240177) (p_149_152 _ _) sh_203 (by decide) (by decide) rfl rfl ?_
  refine h_putr (p_149_154 _ _) isI_11_22 sh_186 (by decide) ?_
  refine h_aload (p_149_157 _ _) rfl ?_
  refine h_push (p_149_158 _ _) ?_
  refine h_newa (k := 32) (n1 := 205) (m1 := 240209) (p_149_160 _ _) sh_204 (by decide) (by decide) rfl rfl ?_
  refine h_putr (p_149_162 _ _) isI_11_23 sh_186 (by decide) ?_
  refine h_aload (p_149_165 _ _) rfl ?_
  refine h_push (p_149_166 _ _) ?_
  refine h_newa (k := 32) (n1 := 206) (m1 := 240241) (p_149_168 _ _) sh_205 (by decide) (by decide) rfl rfl ?_
  refine h_putr (p_149_170 _ _) isI_11_24 sh_186 (by decide) ?_
  refine h_aload (p_149_173 _ _) rfl ?_
  refine h_push (p_149_174 _ _) ?_
  refine h_newa (k := 2000) (n1 := 207) (m1 := 242241) (p_149_177 _ _) sh_206 (by decide) (by decide) rfl rfl ?_
  refine h_putr (p_149_179 _ _) isI_11_27 sh_186 (by decide) ?_
  refine h_aload (p_149_182 _ _) rfl ?_
  refine h_push (p_149_183 _ _) ?_
  refine h_newa (k := 600) (n1 := 208) (m1 := 242841) (p_149_186 _ _) sh_207 (by decide) (by decide) rfl rfl ?_
  refine h_putr (p_149_188 _ _) isI_11_28 sh_186 (by decide) ?_
  refine h_aload (p_149_191 _ _) rfl ?_
  refine h_push (p_149_192 _ _) ?_
  refine h_newa (k := 1500) (n1 := 209) (m1 := 244341) (p_149_195 _ _) sh_208 (by decide) (by decide) rfl rfl ?_
  refine h_putr (p_149_197 _ _) isI_11_31 sh_186 (by decide) ?_
  refine h_aload (p_149_200 _ _) rfl ?_
  refine h_push (p_149_201 _ _) ?_
  refine h_newa (k := 200) (n1 := 210) (m1 := 244541) (p_149_204 _ _) sh_209 (by decide) (by decide) rfl rfl ?_
  refine h_putr (p_149_206 _ _) isI_11_32 sh_186 (by decide) ?_
  refine h_aload (p_149_209 _ _) rfl ?_
  refine h_push (p_149_210 _ _) ?_
  refine h_newa (k := 62) (n1 := 211) (m1 := 244603) (p_149_212 _ _) sh_210 (by decide) (by decide) rfl rfl ?_
  refine h_putr (p_149_214 _ _) isI_11_34 sh_186 (by decide) ?_
  refine h_aload (p_149_217 _ _) rfl ?_
  refine h_push (p_149_218 _ _) ?_
  refine h_newa (k := 2) (n1 := 212) (m1 := 244605) (p_149_219 _ _) sh_211 (by decide) (by decide) rfl rfl ?_
  refine h_putr (p_149_221 _ _) isI_11_35 sh_186 (by decide) ?_
  refine h_aload (p_149_224 _ _) rfl ?_
  refine h_push (p_149_225 _ _) ?_
  refine h_newa (k := 186) (n1 := 213) (m1 := 244791) (p_149_228 _ _) sh_212 (by decide) (by decide) rfl rfl ?_
  refine h_putr (p_149_230 _ _) isI_11_36 sh_186 (by decide) ?_
  refine h_aload (p_149_233 _ _) rfl ?_
  refine h_push (p_149_234 _ _) ?_
  refine h_newa (k := 5766) (n1 := 214) (m1 := 250557) (p_149_237 _ _) sh_213 (by decide) (by decide) rfl rfl ?_
  refine h_putr (p_149_239 _ _) isI_11_37 sh_186 (by decide) ?_
  refine h_aload (p_149_242 _ _) rfl ?_
  refine h_push (p_149_243 _ _) ?_
  refine h_newa (k := 186) (n1 := 215) (m1 := 250743) (p_149_246 _ _) sh_214 (by decide) (by decide) rfl rfl ?_
  refine h_putr (p_149_248 _ _) isI_11_38 sh_186 (by decide) ?_
  refine h_aload (p_149_251 _ _) rfl ?_
  refine h_push (p_149_252 _ _) ?_
  refine h_newa (k := 301) (n1 := 216) (m1 := 251044) (p_149_255 _ _) sh_215 (by decide) (by decide) rfl rfl ?_
  refine h_putr (p_149_257 _ _) isI_11_39 sh_186 (by decide) ?_
  refine h_aload (p_149_260 _ _) rfl ?_
  refine h_push (p_149_261 _ _) ?_
  refine h_newa (k := 301) (n1 := 217) (m1 := 251345) (p_149_264 _ _) sh_216 (by decide) (by decide) rfl rfl ?_
  refine h_putr (p_149_266 _ _) isI_11_40 sh_186 (by decide) ?_
  refine h_aload (p_149_269 _ _) rfl ?_
  refine h_push (p_149_270 _ _) ?_
  refine h_newa (k := 301) (n1 := 218) (m1 := 251646) (p_149_273 _ _) sh_217 (by decide) (by decide) rfl rfl ?_
  refine h_putr (p_149_275 _ _) isI_11_41 sh_186 (by decide) ?_
  refine h_aload (p_149_278 _ _) rfl ?_
  refine h_push (p_149_279 _ _) ?_
  refine h_newa (k := 8) (n1 := 219) (m1 := 251654) (p_149_281 _ _) sh_218 (by decide) (by decide) rfl rfl ?_
  refine h_putr (p_149_283 _ _) isI_11_45 sh_186 (by decide) ?_
  refine h_push (p_149_286 _ _) ?_
  refine h_istore (ls1 := [.ref 186, .int (0 : Int32)]) (p_149_287 _ _) (Nat.le_of_ble_eq_true rfl) rfl rfl ?_
  refine h_iload (p_149_288 _ _) rfl ?_
  refine h_push (p_149_289 _ _) ?_
  refine h_cmpF (p_149_291 _ _) (by decide) ?_
  refine h_aload (p_149_294 _ _) rfl ?_
  refine h_push (p_149_295 _ _) ?_
  refine h_iload (p_149_297 _ _) rfl ?_
  refine h_bin (w := (0 : Int32)) (p_149_298 _ _) (by decide) ?_
  refine h_call (z := 150) (i := 186) (as := [.int (0 : Int32)]) (rest := []) (p_149_299 _ _) mK_150 mL_150 rfl rfl (Nat.le_of_ble_eq_true rfl) rfl (Nat.le_of_ble_eq_true rfl) sh_186 (kc_166 (d := d + 0) ⟨rfl, ?_⟩)
  refine h_iinc (x1 := (1 : Int32)) (ls1 := [.ref 186, .int (1 : Int32)]) (p_149_302 _ _) rfl rfl (by decide) rfl ?_
  refine h_goto (p_149_305 _ _) ?_
  refine h_iload (p_149_288 _ _) rfl ?_
  refine h_push (p_149_289 _ _) ?_
  refine h_cmpF (p_149_291 _ _) (by decide) ?_
  refine h_aload (p_149_294 _ _) rfl ?_
  refine h_push (p_149_295 _ _) ?_
  refine h_iload (p_149_297 _ _) rfl ?_
  refine h_bin (w := (31 : Int32)) (p_149_298 _ _) (by decide) ?_
  refine h_call (z := 150) (i := 186) (as := [.int (31 : Int32)]) (rest := []) (p_149_299 _ _) mK_150 mL_150 rfl rfl (Nat.le_of_ble_eq_true rfl) rfl (Nat.le_of_ble_eq_true rfl) sh_186 (kc_167 (d := d + 0) ⟨rfl, ?_⟩)
  refine h_iinc (x1 := (2 : Int32)) (ls1 := [.ref 186, .int (2 : Int32)]) (p_149_302 _ _) rfl rfl (by decide) rfl ?_
  refine h_goto (p_149_305 _ _) ?_
  refine h_iload (p_149_288 _ _) rfl ?_
  refine h_push (p_149_289 _ _) ?_
  refine h_cmpF (p_149_291 _ _) (by decide) ?_
  refine h_aload (p_149_294 _ _) rfl ?_
  refine h_push (p_149_295 _ _) ?_
  refine h_iload (p_149_297 _ _) rfl ?_
  refine h_bin (w := (62 : Int32)) (p_149_298 _ _) (by decide) ?_
  refine h_call (z := 150) (i := 186) (as := [.int (62 : Int32)]) (rest := []) (p_149_299 _ _) mK_150 mL_150 rfl rfl (Nat.le_of_ble_eq_true rfl) rfl (Nat.le_of_ble_eq_true rfl) sh_186 (kc_168 (d := d + 0) ⟨rfl, ?_⟩)
  refine h_iinc (x1 := (3 : Int32)) (ls1 := [.ref 186, .int (3 : Int32)]) (p_149_302 _ _) rfl rfl (by decide) rfl ?_
  refine h_goto (p_149_305 _ _) ?_
  refine h_iload (p_149_288 _ _) rfl ?_
  refine h_push (p_149_289 _ _) ?_
  refine h_cmpF (p_149_291 _ _) (by decide) ?_
  refine h_aload (p_149_294 _ _) rfl ?_
  refine h_push (p_149_295 _ _) ?_
  refine h_iload (p_149_297 _ _) rfl ?_
  refine h_bin (w := (93 : Int32)) (p_149_298 _ _) (by decide) ?_
  refine h_call (z := 150) (i := 186) (as := [.int (93 : Int32)]) (rest := []) (p_149_299 _ _) mK_150 mL_150 rfl rfl (Nat.le_of_ble_eq_true rfl) rfl (Nat.le_of_ble_eq_true rfl) sh_186 (kc_169 (d := d + 0) ⟨rfl, ?_⟩)
  refine h_iinc (x1 := (4 : Int32)) (ls1 := [.ref 186, .int (4 : Int32)]) (p_149_302 _ _) rfl rfl (by decide) rfl ?_
  refine h_goto (p_149_305 _ _) ?_
  refine h_iload (p_149_288 _ _) rfl ?_
  refine h_push (p_149_289 _ _) ?_
  refine h_cmpF (p_149_291 _ _) (by decide) ?_
  refine h_aload (p_149_294 _ _) rfl ?_
  refine h_push (p_149_295 _ _) ?_
  refine h_iload (p_149_297 _ _) rfl ?_
  refine h_bin (w := (124 : Int32)) (p_149_298 _ _) (by decide) ?_
  refine h_call (z := 150) (i := 186) (as := [.int (124 : Int32)]) (rest := []) (p_149_299 _ _) mK_150 mL_150 rfl rfl (Nat.le_of_ble_eq_true rfl) rfl (Nat.le_of_ble_eq_true rfl) sh_186 (kc_170 (d := d + 0) ⟨rfl, ?_⟩)
  refine h_iinc (x1 := (5 : Int32)) (ls1 := [.ref 186, .int (5 : Int32)]) (p_149_302 _ _) rfl rfl (by decide) rfl ?_
  refine h_goto (p_149_305 _ _) ?_
  refine h_iload (p_149_288 _ _) rfl ?_
  refine h_push (p_149_289 _ _) ?_
  refine h_cmpF (p_149_291 _ _) (by decide) ?_
  refine h_aload (p_149_294 _ _) rfl ?_
  refine h_push (p_149_295 _ _) ?_
  refine h_iload (p_149_297 _ _) rfl ?_
  refine h_bin (w := (155 : Int32)) (p_149_298 _ _) (by decide) ?_
  refine h_call (z := 150) (i := 186) (as := [.int (155 : Int32)]) (rest := []) (p_149_299 _ _) mK_150 mL_150 rfl rfl (Nat.le_of_ble_eq_true rfl) rfl (Nat.le_of_ble_eq_true rfl) sh_186 (kc_171 (d := d + 0) ⟨rfl, ?_⟩)
  refine h_iinc (x1 := (6 : Int32)) (ls1 := [.ref 186, .int (6 : Int32)]) (p_149_302 _ _) rfl rfl (by decide) rfl ?_
  refine h_goto (p_149_305 _ _) ?_
  refine h_iload (p_149_288 _ _) rfl ?_
  refine h_push (p_149_289 _ _) ?_
  refine h_cmpT (p_149_291 _ _) (by decide) ?_
  refine h_aload (p_149_308 _ _) rfl ?_
  refine h_getr (a := 187) (p_149_309 _ _) isI_11_0 sh_186 (by decide +kernel) ?_
  refine h_push (p_149_312 _ _) ?_
  refine h_push (p_149_315 _ _) ?_
  refine h_ast (k := 10388) (p_149_316 _ _) sh_187 (by decide) (by decide) (by decide) ?_
  exact h_ret0 (p_149_317 _ _) h
theorem law_ctor {L : Nat} {xs : Nat → Int32} {d : Nat} {r : Option Int32} {σ' : ll_S} (h : ll_E L xs (d + 6) 232 18 [.float 0, .ref 0, .ref 186, .int 0] [] (sS shX sx_178) r σ') : ll_E L xs (d + 6) 232 0 [.float 0, .null, .null, .null] [] (sS (gX 0 0) sx_0) r σ' := by
  have z0 : zZ 1 sx_0 := fun i _ => ⟨rfl, rfl⟩
  obtain ⟨r1, n1, m1, s1, e1, z1, hr1, hn1, hm1, hs1⟩ := (kc_165 (L := L) (xs := xs) (d := d + 0) (K := fun r n m s => r = none ∧ n = 186 ∧ m = 104467 ∧ s = sx_170) ⟨rfl, rfl, rfl, rfl⟩) z0
  subst hr1 hn1 hm1 hs1
  obtain ⟨r2, n2, m2, s2, e2, z2, hr2, hn2, hm2, hs2⟩ := (kc_172 (L := L) (xs := xs) (d := d + 4) (K := fun r n m s => r = none ∧ n = 219 ∧ m = 251654 ∧ s = sx_178) ⟨rfl, rfl, rfl, rfl⟩) (zZ_mono z1 (by decide))
  subst hr2 hn2 hm2 hs2
  refine (le_to (pc1 := 3) (ls1 := [.float 0, .null, .null, .null]) (st1 := [.ref 0]) (σ1 := sS (gX 1 11) sx_0) (p_232_0 _ _) ?_).mpr ?_
  · simp only [lo_new]
    rw [sS_add (n1 := 1) (m1 := 11) rfl rfl (by rw [sh_0, sC_o]; rw [fl_10]; rfl)]
    rfl
  refine (le_to (pc1 := 4) (ls1 := [.float 0, .null, .null, .null]) (st1 := [.ref 0, .ref 0]) (σ1 := sS (gX 1 11) sx_0) (p_232_3 _ _) rfl).mpr ?_
  refine (le_call (p_232_4 _ _)).mpr ⟨?_, none, sS (gX 186 104467) sx_170, ?_, ?_⟩
  · rw [mK_113, mL_113]
    exact t2_okc (X := gX 1 11) (as := [.ref 0]) (rest := [.ref 0]) rfl rfl (Nat.le_of_ble_eq_true rfl) (Nat.le_of_ble_eq_true rfl) ⟨[], rfl⟩ (show (shX.2.2 0).1 = 3 ∧ (shX.2.2 0).2.1 = 10 from ⟨rfl, rfl⟩)
  · rw [mL_113]; exact e1
  refine (le_to (pc1 := 8) (ls1 := [.float 0, .ref 0, .null, .null]) (st1 := []) (σ1 := sS (gX 186 104467) sx_170) (p_232_7 _ _) rfl).mpr ?_
  refine (le_to (pc1 := 11) (ls1 := [.float 0, .ref 0, .null, .null]) (st1 := [.ref 186]) (σ1 := sS (gX 187 104513) sx_170) (p_232_8 _ _) ?_).mpr ?_
  · simp only [lo_new]
    rw [sS_add (n1 := 187) (m1 := 104513) rfl rfl (by rw [sh_186, sC_o, (z1 186 (Nat.le_refl _)).1, (z1 186 (Nat.le_refl _)).2]; rw [fl_11])]
    rfl
  refine (le_to (pc1 := 12) (ls1 := [.float 0, .ref 0, .null, .null]) (st1 := [.ref 186, .ref 186]) (σ1 := sS (gX 187 104513) sx_170) (p_232_11 _ _) rfl).mpr ?_
  refine (le_call (p_232_12 _ _)).mpr ⟨?_, none, sS (gX 219 251654) sx_178, ?_, ?_⟩
  · rw [mK_149, mL_149]
    exact t2_okc (X := gX 187 104513) (as := [.ref 186]) (rest := [.ref 186]) rfl rfl (Nat.le_of_ble_eq_true rfl) (Nat.le_of_ble_eq_true rfl) ⟨[], rfl⟩ (show (shX.2.2 186).1 = 3 ∧ (shX.2.2 186).2.1 = 11 from ⟨rfl, rfl⟩)
  · rw [mL_149]; exact e2
  refine (le_to (pc1 := 16) (ls1 := [.float 0, .ref 0, .ref 186, .null]) (st1 := []) (σ1 := sS (gX 219 251654) sx_178) (p_232_15 _ _) rfl).mpr ?_
  refine (le_to (pc1 := 17) (ls1 := [.float 0, .ref 0, .ref 186, .null]) (st1 := [.int 0]) (σ1 := sS (gX 219 251654) sx_178) (p_232_16 _ _) rfl).mpr ?_
  refine (le_to (pc1 := 18) (ls1 := [.float 0, .ref 0, .ref 186, .int 0]) (st1 := []) (σ1 := sS (gX 219 251654) sx_178) (p_232_17 _ _) rfl).mpr ?_
  exact h
def sxE : sT := sx_178
theorem sxE_eq : sxE = sx_178 := rfl
