/-! PAIRS OF CALLS: image, again -/
section ST
variable {L : Nat} {xs : Nat → Int32} {ρ : Nat → Nat → Option Nat}
theorem sk_19 (h : rP ρ) : sdK (yY L xs) ρ 19 := ⟨so_19, ⟨rp_19_0 h, rp_19_1 h, rp_19_2 h, rp_19_3 h, rp_19_4 h, rp_19_5 h⟩, ⟨so_20, sa_21, rp_20_0 h, by decide⟩, ⟨so_22, sa_23, rp_22_0 h, by decide⟩, sa_24, sa_25, sa_26, sa_27⟩
theorem sk_28 (h : rP ρ) : sdK (yY L xs) ρ 28 := ⟨so_28, ⟨rp_28_0 h, rp_28_1 h, rp_28_2 h, rp_28_3 h, rp_28_4 h, rp_28_5 h⟩, ⟨so_29, sa_30, rp_29_0 h, by decide⟩, ⟨so_31, sa_32, rp_31_0 h, by decide⟩, sa_33, sa_34, sa_35, sa_36⟩
theorem sk_65 (h : rP ρ) : sdK (yY L xs) ρ 65 := ⟨so_65, ⟨rp_65_0 h, rp_65_1 h, rp_65_2 h, rp_65_3 h, rp_65_4 h, rp_65_5 h⟩, ⟨so_66, sa_67, rp_66_0 h, by decide⟩, ⟨so_68, sa_69, rp_68_0 h, by decide⟩, sa_70, sa_71, sa_72, sa_73⟩
theorem sk_74 (h : rP ρ) : sdK (yY L xs) ρ 74 := ⟨so_74, ⟨rp_74_0 h, rp_74_1 h, rp_74_2 h, rp_74_3 h, rp_74_4 h, rp_74_5 h⟩, ⟨so_75, sa_76, rp_75_0 h, by decide⟩, ⟨so_77, sa_78, rp_77_0 h, by decide⟩, sa_79, sa_80, sa_81, sa_82⟩
theorem sk_107 (h : rP ρ) : sdK (yY L xs) ρ 107 := ⟨so_107, ⟨rp_107_0 h, rp_107_1 h, rp_107_2 h, rp_107_3 h, rp_107_4 h, rp_107_5 h⟩, ⟨so_108, sa_109, rp_108_0 h, by decide⟩, ⟨so_110, sa_111, rp_110_0 h, by decide⟩, sa_112, sa_113, sa_114, sa_115⟩
theorem sk_116 (h : rP ρ) : sdK (yY L xs) ρ 116 := ⟨so_116, ⟨rp_116_0 h, rp_116_1 h, rp_116_2 h, rp_116_3 h, rp_116_4 h, rp_116_5 h⟩, ⟨so_117, sa_118, rp_117_0 h, by decide⟩, ⟨so_119, sa_120, rp_119_0 h, by decide⟩, sa_121, sa_122, sa_123, sa_124⟩
theorem sk_148 (h : rP ρ) : sdK (yY L xs) ρ 148 := ⟨so_148, ⟨rp_148_0 h, rp_148_1 h, rp_148_2 h, rp_148_3 h, rp_148_4 h, rp_148_5 h⟩, ⟨so_149, sa_150, rp_149_0 h, by decide⟩, ⟨so_151, sa_152, rp_151_0 h, by decide⟩, sa_153, sa_154, sa_155, sa_156⟩
theorem sk_157 (h : rP ρ) : sdK (yY L xs) ρ 157 := ⟨so_157, ⟨rp_157_0 h, rp_157_1 h, rp_157_2 h, rp_157_3 h, rp_157_4 h, rp_157_5 h⟩, ⟨so_158, sa_159, rp_158_0 h, by decide⟩, ⟨so_160, sa_161, rp_160_0 h, by decide⟩, sa_162, sa_163, sa_164, sa_165⟩
theorem lk_37 (h : rP ρ) : lnK (yY L xs) ρ 37 := ⟨so_37, ⟨rp_37_0 h, rp_37_1 h, rp_37_2 h, rp_37_3 h, rp_37_4 h, rp_37_5 h, rp_37_6 h⟩, sa_38, sa_39, sa_40, sa_41, sa_42, sa_43, ⟨so_44, sa_45, rp_44_0 h, by decide⟩⟩
theorem lk_84 (h : rP ρ) : lnK (yY L xs) ρ 84 := ⟨so_84, ⟨rp_84_0 h, rp_84_1 h, rp_84_2 h, rp_84_3 h, rp_84_4 h, rp_84_5 h, rp_84_6 h⟩, sa_85, sa_86, sa_87, sa_88, sa_89, sa_90, ⟨so_91, sa_92, rp_91_0 h, by decide⟩⟩
theorem lk_126 (h : rP ρ) : lnK (yY L xs) ρ 126 := ⟨so_126, ⟨rp_126_0 h, rp_126_1 h, rp_126_2 h, rp_126_3 h, rp_126_4 h, rp_126_5 h, rp_126_6 h⟩, sa_127, sa_128, sa_129, sa_130, sa_131, sa_132, ⟨so_133, sa_134, rp_133_0 h, by decide⟩⟩
theorem lk_167 (h : rP ρ) : lnK (yY L xs) ρ 167 := ⟨so_167, ⟨rp_167_0 h, rp_167_1 h, rp_167_2 h, rp_167_3 h, rp_167_4 h, rp_167_5 h, rp_167_6 h⟩, sa_168, sa_169, sa_170, sa_171, sa_172, sa_173, ⟨so_174, sa_175, rp_174_0 h, by decide⟩⟩
theorem rk_61 (h : rP ρ) {c0 c1 : Nat} (hc : cSides ρ c0 c1) : rmK (yY L xs) ρ 61 c0 c1 := by
  obtain ⟨h0, h1, h2⟩ := hc
  refine ⟨so_61, ⟨rp_61_0 h, rp_61_1 h, rp_61_2 h, rp_61_3 h⟩, ⟨so_62, sa_63, rp_62_0 h, by decide⟩, ⟨sq_64, h0, h1⟩, ⟨sq_83, fun k hk => by
    rcases (show k = 0 ∨ k = 1 ∨ k = 2 ∨ k = 3 by omega) with rfl | rfl | rfl | rfl
    · exact ⟨rp_83_0 h, so_94, sa_95, rp_94_0 h, by decide⟩
    · exact ⟨rp_83_1 h, so_96, sa_97, rp_96_0 h, by decide⟩
    · exact ⟨rp_83_2 h, so_98, sa_99, rp_98_0 h, by decide⟩
    · exact ⟨rp_83_3 h, so_100, sa_101, rp_100_0 h, by decide⟩
    ⟩, ?_, ?_, lk_84 h, h2⟩
  · rcases h2 with ⟨rfl, rfl⟩ | ⟨rfl, rfl⟩
    · exact sk_65 h
    · exact sk_74 h
  · rcases h2 with ⟨rfl, rfl⟩ | ⟨rfl, rfl⟩
    · exact sk_74 h
    · exact sk_65 h
theorem rk_103 (h : rP ρ) : rmK (yY L xs) ρ 103 107 116 := by
  refine ⟨so_103, ⟨rp_103_0 h, rp_103_1 h, rp_103_2 h, rp_103_3 h⟩, ⟨so_104, sa_105, rp_104_0 h, by decide⟩, ⟨sq_106, rp_106_0 h, rp_106_1 h⟩, ⟨sq_125, fun k hk => by
    rcases (show k = 0 ∨ k = 1 ∨ k = 2 ∨ k = 3 by omega) with rfl | rfl | rfl | rfl
    · exact ⟨rp_125_0 h, so_136, sa_137, rp_136_0 h, by decide⟩
    · exact ⟨rp_125_1 h, so_138, sa_139, rp_138_0 h, by decide⟩
    · exact ⟨rp_125_2 h, so_140, sa_141, rp_140_0 h, by decide⟩
    · exact ⟨rp_125_3 h, so_142, sa_143, rp_142_0 h, by decide⟩
    ⟩, sk_107 h, sk_116 h, lk_126 h, Or.inl ⟨rfl, rfl⟩⟩
theorem rk_144 (h : rP ρ) : rmK (yY L xs) ρ 144 148 157 := by
  refine ⟨so_144, ⟨rp_144_0 h, rp_144_1 h, rp_144_2 h, rp_144_3 h⟩, ⟨so_145, sa_146, rp_145_0 h, by decide⟩, ⟨sq_147, rp_147_0 h, rp_147_1 h⟩, ⟨sq_166, fun k hk => by
    rcases (show k = 0 ∨ k = 1 ∨ k = 2 ∨ k = 3 by omega) with rfl | rfl | rfl | rfl
    · exact ⟨rp_166_0 h, so_177, sa_178, rp_177_0 h, by decide⟩
    · exact ⟨rp_166_1 h, so_179, sa_180, rp_179_0 h, by decide⟩
    · exact ⟨rp_166_2 h, so_181, sa_182, rp_181_0 h, by decide⟩
    · exact ⟨rp_166_3 h, so_183, sa_184, rp_183_0 h, by decide⟩
    ⟩, sk_148 h, sk_157 h, lk_167 h, Or.inl ⟨rfl, rfl⟩⟩
theorem rk_im (h : rP ρ) {k : Nat} (hk : k < 2) : rmK (yY L xs) ρ (103 + 41 * k) (103 + 41 * k + 4) (103 + 41 * k + 13) ∧ ρ 102 k = some (103 + 41 * k) := by
  rcases (show k = 0 ∨ k = 1 by omega) with rfl | rfl
  · exact ⟨rk_103 h, rp_102_0 h⟩
  · exact ⟨rk_144 h, rp_102_1 h⟩
end ST
section H6
variable {GD : sdT → Prop} {L : Nat} {xs : Nat → Int32} {D : Nat}
theorem rmN_of {R : rmT} (hGD : ∀ D, GD D → sdB D) (h : rmB GD R) : rmN R := ⟨h.1.1, hGD _ h.2.1, hGD _ h.2.2.1, fun k hk => (hGD _ (h.2.2.2.1 k hk)).1, h.2.2.2.2⟩
theorem c_image (hGD : ∀ D, GD D → sdB D) {s : sT} {R : rmT} {I : Nat → Option rmT} (hC : simC s R I) (hB : rmB GD R) {k : Nat} (hk : k < 2) : doC (yY L xs) (D + 4) 136 [.ref 0, .int (nI k)] s R I (some 1) R (ll_up I k (some R)) := by
  intro K kk
  obtain ⟨hP, ⟨c0, c1, hc, hr⟩, q3⟩ := hC
  obtain ⟨hK, h102⟩ := rk_im (L := L) (xs := xs) hP hk
  have hcc := hc.2.2
  refine b_136_0 ?_
  rw [if_neg (nI_nn (by omega)), if_pos (by rw [nI_lit 2, nJ_lt (by omega) (by omega)]; exact hk), nI_cl (by omega)]
  refine ⟨102, ⟨so_0, rp_0_9 hP⟩, 3, 2, 103 + 41 * k, ⟨sq_102, inR_nI hk (by decide), h102⟩, 61, ⟨so_0, rp_0_8 hP⟩, hK.1, ?_⟩
  refine rm_become (d := D) hK (rk_61 hP hc) hr (rmN_of hGD hB) (by omega) (fun s1 e2 e1 eR => ?_)
  rw [rt_none]
  refine b_136_24 ⟨185, ⟨so_0, by rw [e2]; exact rp_0_10 hP⟩, 2, ⟨sa_185, inR_nI hk (by decide), Or.inr rfl⟩, ?_⟩
  rw [nI_cl (by omega)]
  have o185 : ∀ i, i ≠ 185 → (pV s1 185 k 1).1 i = s1.1 i := fun i hi => by funext j; rw [pV_1, if_neg (fun z => hi z.1)]
  refine kk _ ⟨by show rP s1.2; rw [e2]; exact hP, ⟨c0, c1, by show cSides s1.2 c0 c1; rw [e2]; exact hc, ?_⟩, fun j hj => ?_⟩ (fun i hi => ⟨?_, by show s1.2 i = s.2 i; rw [e2]⟩)
  · exact rmC_off hr ⟨by omega, by omega⟩ ⟨by omega, by omega⟩ (fun i _ _ => by rw [o185 i (by omega), e1 i (by omega)])
  · unfold ll_up
    by_cases e : j = k
    · subst e
      rw [if_pos rfl]
      simp only
      refine ⟨by rw [pV_1, if_pos ⟨rfl, rfl⟩], ?_⟩
      exact rmC_off eR ⟨by omega, by omega⟩ ⟨by omega, by omega⟩ (fun i _ _ => o185 i (by omega))
    · rw [if_neg e]
      have := q3 j hj
      cases hI : I j with
      | none => rw [hI] at this; simp only at this ⊢; rw [pV_1, if_neg (by omega), e1 185 (by omega)]; exact this
      | some R' =>
        rw [hI] at this
        simp only at this ⊢
        refine ⟨by rw [pV_1, if_neg (by omega), e1 185 (by omega)]; exact this.1, rmC_off this.2 ⟨by omega, by omega⟩ ⟨by omega, by omega⟩ (fun i _ _ => by rw [o185 i (by omega), e1 i (by omega)])⟩
  · rw [o185 i (by omega), e1 i (by omega)]
theorem c_image_no {s : sT} {R : rmT} {I : Nat → Option rmT} (hC : simC s R I) {a : Int32} (h : ∀ k, k < 2 → ¬ a = nI k) : doC (yY L xs) (D + 1) 136 [.ref 0, .int a] s R I (some 0) R I := by
  intro K kk
  have k0 := kk s hC (fun i _ => ⟨rfl, rfl⟩)
  refine b_136_0 ?_
  split
  · exact k0
  · rename_i h0
    obtain ⟨n, hn, rfl⟩ := i32_ex h0
    rw [if_neg (by rw [nI_lit 2, nJ_lt hn (by omega)]; exact fun h2 => h n h2 rfl)]
    exact k0
theorem c_again (hGD : ∀ D, GD D → sdB D) {s : sT} {R : rmT} {I : Nat → Option rmT} (hC : simC s R I) {R' : rmT} {k : Nat} (hk : k < 2) (hIk : I k = some R') (hB : rmB GD R') : doC (yY L xs) (D + 4) 137 [.ref 0, .int (nI k)] s R I (some 1) R' I := by
  intro K kk
  obtain ⟨hP, ⟨c0, c1, hc, hr⟩, q3⟩ := hC
  obtain ⟨hK, h102⟩ := rk_im (L := L) (xs := xs) hP hk
  have hcc := hc.2.2
  have hi := q3 k hk
  rw [hIk] at hi
  simp only at hi
  refine b_137_0 ?_
  rw [if_neg (nI_nn (by omega)), if_neg (by rw [nI_lit 2, nJ_le (by omega) (by omega)]; omega), nI_cl (by omega)]
  refine ⟨185, ⟨so_0, rp_0_10 hP⟩, 2, ⟨sa_185, inR_nI hk (by decide)⟩, ?_⟩
  rw [hi.1, if_pos (by decide)]
  refine ⟨61, ⟨so_0, rp_0_8 hP⟩, 102, ⟨so_0, rp_0_9 hP⟩, 3, 2, 103 + 41 * k, ⟨sq_102, inR_nI hk (by decide), h102⟩, so_61, ?_⟩
  refine rm_become (d := D) (rk_61 hP hc) hK hi.2 (rmN_of hGD hB) (by omega) (fun s1 e2 e1 eR => ?_)
  rw [rt_none]
  refine b_137_33 (kk s1 ⟨by rw [e2]; exact hP, ⟨c0, c1, by rw [e2]; exact hc, eR⟩, fun j hj => ?_⟩ (fun i hi => ⟨e1 i (by omega), by rw [e2]⟩))
  have := q3 j hj
  cases hI : I j with
  | none => rw [hI] at this; simp only at this ⊢; rw [e1 185 (by omega)]; exact this
  | some R'' =>
    rw [hI] at this
    simp only at this ⊢
    exact ⟨by rw [e1 185 (by omega)]; exact this.1, rmC_off this.2 ⟨by omega, by omega⟩ ⟨by omega, by omega⟩ (fun i _ _ => e1 i (by omega))⟩
theorem c_again_no {s : sT} {R : rmT} {I : Nat → Option rmT} (hC : simC s R I) {a : Int32} (h : ∀ k, k < 2 → a = nI k → I k = none) : doC (yY L xs) (D + 1) 137 [.ref 0, .int a] s R I (some 0) R I := by
  intro K kk
  have k0 := kk s hC (fun i _ => ⟨rfl, rfl⟩)
  have hP := hC.1
  refine b_137_0 ?_
  split
  · exact k0
  · rename_i h0
    obtain ⟨n, hn, rfl⟩ := i32_ex h0
    split
    · exact k0
    · rename_i h1
      rw [nI_lit 2, nJ_le (by omega) hn] at h1
      refine ⟨185, ⟨so_0, rp_0_10 hP⟩, 2, ⟨sa_185, inR_nI (by omega) (by decide)⟩, ?_⟩
      have := hC.2.2 n (by omega)
      rw [h n (by omega) rfl] at this
      rw [nI_cl hn, this, if_neg (by decide)]
      exact k0
end H6
