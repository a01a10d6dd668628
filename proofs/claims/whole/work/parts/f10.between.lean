/-! BETWEEN -/
section BW
variable {L : Nat} {xs : Nat → Int32} {d : Nat} {s : sT} {K : Option Int32 → sT → Prop} {R : rmT} {I : Nat → Option rmT} {A B : Cond}
theorem c_readSlot {k : Nat} (hC : simC s R I) (hA : tA s.1) (hk : k < 4) (e : R.2.2.2.2.1 k = sdOf A) (cA : cn A) (zA : z0 A ≤ 30)
    (hK : ∀ s' T p j, tc s' T p → T[j]? = some A → (∀ z, z ≠ 11 → s'.2 z = s.2 z) → (∀ z, 8 < z → z ≠ 11 → s'.1 z = s.1 z) → K (some (nI j)) s') : tT (yY L xs) (d + 174) 146 0 [.ref 0, .int (nI k), .null, .null] [] s K := by
  have hP := hC.1
  obtain ⟨-, ⟨c0, c1, hcs, hrm⟩, -⟩ := hC
  obtain ⟨-, -, -, -, ⟨-, hq⟩, -⟩ := rk_61 (L := L) (xs := xs) hP hcs
  obtain ⟨q1, q2⟩ := hq k hk
  have hslot := hrm.2.2.2.2.1 k hk
  rw [e] at hslot
  have hlen : (sp A 0).length ≤ 30 := zA
  have q1 : s.2 83 k = some (94 + 2 * k) := q1
  have q2 : tX (yY L xs) s.2 (94 + 2 * k) 30 := q2
  have e1 : s.1 (94 + 2 * k) 1 = nI (sp A 0).length := hslot.1
  refine b_146_0 ⟨61, ⟨so_0, rp_0_8 hP⟩, 83, ⟨so_61, rp_61_2 hP⟩, 7, 4, 94 + 2 * k, ⟨sq_83, inR_nI hk (by decide), by rw [nI_cl (by omega)]; exact q1⟩, 11, ⟨so_0, rp_0_0 hP⟩, q2.1, so_11, ?_⟩
  rw [e1]
  refine c_read (L := L) (xs := xs) (d := d) (t := 94 + 2 * k) (txt := sp A 0) (cap := 30) (size := (sp A 0).length) hP hA (by omega) (by omega) q2 e1 (Nat.le_refl _) hlen (fun i c hc => ?_) (sp_n1 cA 0) (by have := List.count_le_length (a := (40 : Int32)) (l := sp A 0); omega) (Or.inl hlen) (fun s' f T p g1 => ?_) (fun s' T p j x g1 g2 g3 g4 g5 g6 g7 g8 => ?_)
  · have hi := (List.getElem?_eq_some_iff.mp hc).1
    rw [show s.1 (94 + 2 * k + 1) i = (txL (sp A 0)).2 i from hslot.2 i hi]
    exact txL_at hc
  · rw [rd_back cA] at g1; cases g1
  · rw [rd_back cA] at g1
    cases g1
    have hjl := tc_lt g4 g5
    rw [rt_some]
    refine b_146_22 ?_
    rw [if_pos (nI_ne_neg (by omega))]
    exact hK s' T p j g4 g5 (fun z hz => by rw [g6]; funext u; rw [pR_2, if_neg (by omega)]) (fun z a b => g7 z (Or.inr a) b)
theorem sd_70 {v : Nat → Nat → Int32} {c : Nat} {X : Cond} (h : sdC v c (sdOf X)) : v (c + 7) 0 = 0 := h.2.2.2.2.2.1 0 (Nat.zero_le _)
theorem c_between {i j : Nat} (hC : simC s R I) (hA : tA s.1) (hi : i < 4) (hj : j < 4) (eA : R.2.2.2.2.1 i = sdOf A) (cA : cn A) (zA : z0 A ≤ 30) (eB : R.2.2.2.2.1 j = sdOf B) (cB : cn B) (zB : z0 B ≤ 30) : doC2 (yY L xs) (d + 175) 135 [.ref 0, .int (nI i), .int (nI j)] s R I (some (srR A B).1) R I := by
  intro K kk
  have hP := hC.1
  refine b_135_0 (c_isSlot (fun _ _ _ => ?_) (fun h => absurd rfl (h i hi)))
  rw [rt_some]
  refine b_135_4 ?_
  rw [if_neg (by decide)]
  refine c_isSlot (fun _ _ _ => ?_) (fun h => absurd rfl (h j hj))
  rw [rt_some]
  refine b_135_11 ?_
  rw [if_pos (by decide)]
  refine ⟨12, ⟨so_0, rp_0_1 hP⟩, so_0, c_readSlot (d := d) hC hA hi eA cA zA (fun s1 T1 p1 j1 t1 k1 e12 e11 => ?_)⟩
  rw [rt_some]
  have hP1 := t1.1
  refine b_135_25 ⟨18, ⟨so_0, rp_0_6 hP1⟩, 5, 2, 19, ⟨sq_18, inR_nI (k := 0) (by decide) (by decide), rp_18_0 hP1⟩, so_12, tt_mono (c_findTerms (d := d) (c := 19) (by decide) t1 (sk_19 hP1) (by rw [e11 26 (by decide) (by decide)]; exact hA.2.1) k1 zA (fun s2 t2 d2 e22 e21 => ?_)) (by omega) (fun _ _ q => q)⟩
  rw [rt_none]
  have hP2 := t2.1
  have o2 : ∀ z, 36 < z → s2.1 z = s.1 z := fun z hz => by rw [e21 z (by omega) (by omega)]; exact e11 z (by omega) (by omega)
  have r2 : ∀ z, z ≠ 11 → s2.2 z = s.2 z := fun z hz => by rw [e22]; exact e12 z hz
  have hC2 : simC s2 R I := simC_low hC hP2 (r2 64 (by decide)) (fun z a b => o2 z (by omega))
  have hA2 : tA s2.1 := ⟨tA_tc t2, sd_70 d2, by rw [e21 35 (by decide) (by decide), e11 35 (by decide) (by decide)]; exact hA.2.2⟩
  refine b_135_34 ⟨12, ⟨so_0, rp_0_1 hP2⟩, so_0, c_readSlot (d := d) hC2 hA2 hj eB cB zB (fun s3 T3 p3 j3 t3 k3 e32 e31 => ?_)⟩
  rw [rt_some]
  have hP3 := t3.1
  refine b_135_43 ⟨18, ⟨so_0, rp_0_6 hP3⟩, 5, 2, 28, ⟨sq_18, inR_nI (k := 1) (by decide) (by decide), rp_18_1 hP3⟩, so_12, tt_mono (c_findTerms (d := d) (c := 28) (by decide) t3 (sk_28 hP3) (by rw [e31 35 (by decide) (by decide)]; exact hA2.2.2) k3 zB (fun s4 t4 d4 e42 e41 => ?_)) (by omega) (fun _ _ q => q)⟩
  rw [rt_none]
  have hP4 := t4.1
  have o4 : ∀ z, 36 < z → s4.1 z = s.1 z := fun z hz => by rw [e41 z (by omega) (by omega), e31 z (by omega) (by omega)]; exact o2 z hz
  have r4 : ∀ z, z ≠ 11 → s4.2 z = s.2 z := fun z hz => by rw [e42, e32 z hz]; exact r2 z hz
  have hC4 : simC s4 R I := simC_low hC hP4 (r4 64 (by decide)) (fun z a b => o4 z (by omega))
  have dA : sdC s4.1 19 (sdOf A) := sdC_off d2 (fun z a b => by rw [e41 z (by omega) (by omega)]; exact e31 z (by omega) (by omega))
  refine b_135_52 ⟨47, ⟨so_0, rp_0_2 hP4⟩, 18, ⟨so_0, rp_0_6 hP4⟩, 5, 2, 19, ⟨sq_18, inR_nI (k := 0) (by decide) (by decide), rp_18_0 hP4⟩, 18, ⟨so_0, rp_0_6 hP4⟩, 5, 2, 28, ⟨sq_18, inR_nI (k := 1) (by decide) (by decide), rp_18_1 hP4⟩, 37, ⟨so_0, rp_0_7 hP4⟩, so_47, tt_mono (c_trial (d := d) hC4 ⟨sk_19 hP4, dA, cA, zA⟩ ⟨sk_28 hP4, d4, cB, zB⟩ (by decide) (by decide) (fun s5 hC5 a5 b5 => ?_)) (by omega) (fun _ _ q => q)⟩
  rw [rt_some]
  refine b_135_75 (kk s5 hC5 ?_ (fun z hz => ⟨(b5 z (by omega)).trans (o4 z (by omega)), (a5 z (by omega)).trans (r4 z (by omega))⟩))
  exact tA_off ⟨tA_tc t4, sd_70 dA, sd_70 d4⟩ (fun z hz => b5 z (by omega))
theorem c_between_no {a b : Int32} (hC : simC s R I) (hA : tA s.1) (h : ¬ ((∃ i, i < 4 ∧ a = nI i) ∧ ∃ j, j < 4 ∧ b = nI j)) : doC2 (yY L xs) (d + 1) 135 [.ref 0, .int a, .int b] s R I (some (-1)) R I := by
  intro K kk
  have fin := kk s hC hA (fun _ _ => ⟨rfl, rfl⟩)
  refine b_135_0 (c_isSlot (fun i hi ea => ?_) (fun _ => ?_))
  · rw [rt_some]
    refine b_135_4 ?_
    rw [if_neg (by decide)]
    refine c_isSlot (fun j hj eb => absurd ⟨⟨i, hi, ea⟩, j, hj, eb⟩ h) (fun _ => ?_)
    rw [rt_some]
    refine b_135_11 ?_
    rw [if_neg (fun q => q rfl)]
    exact fin
  · rw [rt_some]
    refine b_135_4 ?_
    rw [if_pos rfl]
    exact fin
theorem r_between {i j : Nat} (hR : simR s R I) (hI : ∀ k R', k < 2 → I k = some R' → rmB gD R') (hB : rmB gD R) (hi : i < 4) (hj : j < 4) (eA : R.2.2.2.2.1 i = sdOf A) (cA : cn A) (zA : z0 A ≤ 30) (eB : R.2.2.2.2.1 j = sdOf B) (cB : cn B) (zB : z0 B ≤ 30) : doR (yY L xs) (d + 11) 195 [.ref 186, .int (nI i), .int (nI j)] s R I (some (srR A B).1) R I := by
  intro K kk
  have tA' : txR (s.1 187) (62 + 31 * i) (txL (sp A 0)) := by have := hR.2.1.2.2.1 i hi; rw [eA, Nat.zero_add] at this; exact this
  have tB' : txR (s.1 187) (62 + 31 * j) (txL (sp B 0)) := by have := hR.2.1.2.2.1 j hj; rw [eB, Nat.zero_add] at this; exact this
  refine b_195_0 (r_isSlot (fun _ _ _ => ?_) (fun h => absurd rfl (h i hi)))
  rw [rt_some]
  refine b_195_4 ?_
  rw [if_neg (by decide)]
  refine r_isSlot (fun _ _ _ => ?_) (fun h => absurd rfl (h j hj))
  rw [rt_some]
  refine b_195_11 ?_
  rw [if_neg (by decide), nI_lit 62, nI_lit 31, nJ_mul, nJ_mul, nJ_add, nJ_add]
  refine ⟨so_186, r_tried (d := d) hR hI hB ⟨cA, zA⟩ ⟨cB, zB⟩ tA' tB' (by omega) (by omega) (fun s1 hR1 f1 => ?_)⟩
  rw [rt_some]
  exact b_195_32 (kk s1 hR1 f1)
theorem r_between_no {a b : Int32} (hR : simR s R I) (h : ¬ ((∃ i, i < 4 ∧ a = nI i) ∧ ∃ j, j < 4 ∧ b = nI j)) : doR (yY L xs) (d + 2) 195 [.ref 186, .int a, .int b] s R I (some (-1)) R I := by
  intro K kk
  have fin := kk s hR (fun _ _ => ⟨rfl, rfl⟩)
  refine b_195_0 (r_isSlot (fun i hi ea => ?_) (fun _ => ?_))
  · rw [rt_some]
    refine b_195_4 ?_
    rw [if_neg (by decide)]
    refine r_isSlot (fun j hj eb => absurd ⟨⟨i, hi, ea⟩, j, hj, eb⟩ h) (fun _ => ?_)
    rw [rt_some]
    refine b_195_11 ?_
    rw [if_pos rfl]
    exact fin
  · rw [rt_some]
    refine b_195_4 ?_
    rw [if_pos rfl]
    exact fin
theorem pr_between (a b : Int32) : pairOK (yY L xs) (Sim gD) (d + 175) 135 195 [.ref 0, .int a, .int b] [.ref 186, .int a, .int b] true := by
  refine pair_of2 fun s R I hC hR hA hB hI => ?_
  by_cases h : (∃ i, i < 4 ∧ a = nI i) ∧ ∃ j, j < 4 ∧ b = nI j
  · obtain ⟨⟨i, hi, rfl⟩, j, hj, rfl⟩ := h
    obtain ⟨A, cA, zA, eA⟩ := hB.2.2.2.1 i hi
    obtain ⟨B, cB, zB, eB⟩ := hB.2.2.2.1 j hj
    exact ⟨_, R, I, rfl, hB, hI, c_between hC hA hi hj eA cA zA eB cB zB, fun _ hR1 => r_between (d := d + 164) hR1 hI hB hi hj eA cA zA eB cB zB⟩
  · exact ⟨some (-1), R, I, rfl, hB, hI, c_between_no (d := d + 174) hC hA h, fun _ hR1 => r_between_no (d := d + 173) hR1 h⟩
end BW
