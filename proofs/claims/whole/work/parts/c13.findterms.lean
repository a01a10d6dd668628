section TF
variable {L : Nat} {xs : Nat → Int32} {d : Nat} {s : sT} {K : Option Int32 → sT → Prop} {T : List Cond} {p c : Nat} {F A : List Cond}
theorem c_findParts {k l : Nat} {y : Cond} (hc : 19 ≤ c) (hl : l < 3) (h : tc s T p) (ht : tfO s.1 T A) (hK : sdK (yY L xs) s.2 c) (hk : A[k]? = some y) (hrow : rowP F (k * 3 + l) = pt y l) (hb : sb s.1 c F (k + 1) (k * 3 + l)) (h6 : s.1 c 6 = nI k) (h31 : k < 31) (hFn : F.Nodup) (hF31 : F.length ≤ 31) (hFc : ∀ z ∈ F, cn z ∧ (prodL z).length ≤ 64) (hcap : psum (lenR F) (k * 3 + l) ≤ 930) (hfac : (∀ f ∈ prodL y, dth f ≤ 40) ∧ (prodL y).length ≤ 30 ∧ z1 y ≤ 136) (hF : ∃ e, F = ddp A (pt y l) ++ e)
    (hh : ∀ s', tc s' T p → tfO s'.1 T (ddp A (pt y l)) → sb s'.1 c F (k + 1) (k * 3 + l + 1) → s'.1 c 6 = nI k → s'.2 = s.2 → (∀ z, (z < 12 ∨ 15 < z) → z ≠ c → z ≠ c + 6 → z ≠ c + 7 → z ≠ c + 8 → s'.1 z = s.1 z) → (∀ i, i ≠ 10 → s'.1 c i = s.1 c i) → K none s') : tT (yY L xs) (d + 85) 63 0 [.ref 12, .int (nI k), .int (nI l), .ref c, .null] [] s K := by
  have hP := h.1
  have cy := ht.2.2.2.1 y (List.mem_of_getElem? hk)
  obtain ⟨n1, n2, n3⟩ := ht.2.2.2.2 k y hk
  have eR : gF l (prodL y) [] = rwp y l := gF_term cy
  have eA : ddp A (pt y l) = ddp A (rwp y l) := by rw [pt_rwp, ddp_ddp]
  rw [eA] at hF hh
  refine b_63_0 ⟨so_12, hK.1, ?_⟩
  rw [nI_lit 2, nJ_add]
  generalize hs1 : pV s 12 7 (nI (2 + l)) = s1
  have o1 : ∀ z t, (z ≠ 12 ∨ t ≠ 7) → s1.1 z t = s.1 z t := fun z t hz => by rw [← hs1, pV_1, if_neg (by omega)]
  have e2 : s1.2 = s.2 := by rw [← hs1]; rfl
  have of1 : ∀ z, z ≠ 12 → s1.1 z = s.1 z := fun z hz => by funext t; exact o1 z t (Or.inl hz)
  have e7 : s1.1 12 7 = nI (2 + l) := by rw [← hs1, pV_1, if_pos ⟨rfl, rfl⟩]
  refine c_openParts (k := k) (x := l) (by rw [e2]; exact hK) (sb_off hb (o1 _ _ (by omega)) (of1 _ (by omega)) (of1 _ (by omega)) (of1 _ (by omega)) (fun i _ => o1 _ _ (by omega)) (fun i _ => o1 _ _ (by omega)) (fun i _ => o1 _ _ (by omega))) (by rw [o1 c 6 (by omega)]; exact h6) (by omega) (by omega) (fun s2 q1 q2 q3 q4 q5 q6 => ?_)
  rw [rt_none]
  have hP2 : rP s2.2 := by rw [q4, e2]; exact hP
  have of2 : ∀ z, z < 19 → s2.1 z = s1.1 z := fun z hz => q5 z (by omega) (by omega) (by omega)
  have t2 : tc s2 T p := tc_off h (q4.trans e2) (by rw [of2 1 (by decide), o1 1 7 (by decide)]) (by rw [of2 1 (by decide), o1 1 8 (by decide)]) (fun z _ _ => by rw [of2 z (by omega), of1 z (by omega)])
  have tf2 : tfO s2.1 T A := tfO_off ht (by rw [of2 12 (by decide), o1 12 6 (by decide)]) (by rw [of2 13 (by decide), of1 13 (by decide)]) (by rw [of2 14 (by decide), of1 14 (by decide)])
  -- everything pushed: the parts are gathered
  have gath : ∀ (s3 : sT) (x4 : Int32), x4 < 0 → fB s2 s3 0 → bhO s3.1 T (prodL y) → tT (yY L xs) (d + 85) 63 27 [.ref 12, .int (nI k), .int (nI l), .ref c, .int x4] [] s3 K := by
    intro s3 x4 hx4 f1 f2
    have e3 : ∀ z, z ≠ 12 → z ≠ 15 → s3.1 z = s2.1 z := fun z a b => f1.2.1 z a b
    have g3 : gS L xs T p l c F (k + 1) (k * 3 + l) s3 A [] (prodL y ++ []) := by
      rw [List.append_nil]
      refine ⟨tc_fB t2 f1, f2, tfO_off tf2 (f1.2.2.1 6 (by decide)) (e3 13 (by decide) (by decide)) (e3 14 (by decide) (by decide)), by rw [f1.1, q4, e2]; exact hK, sb_off q1 (by rw [e3 c (by omega) (by omega)]) (e3 _ (by omega) (by omega)) (e3 _ (by omega) (by omega)) (e3 _ (by omega) (by omega)) (fun i _ => by rw [e3 _ (by omega) (by omega)]) (fun i _ => by rw [e3 _ (by omega) (by omega)]) (fun i _ => by rw [e3 _ (by omega) (by omega)]), ?_, by rw [f1.2.2.1 7 (by decide), of2 12 (by decide)]; exact e7, (fun w hw => by cases hw), List.nodup_nil⟩
      obtain ⟨r1, r2, r3, r4⟩ := q2
      exact ⟨by rw [e3 c (by omega) (by omega)]; exact r1, by rw [e3 _ (by omega) (by omega)]; exact r2, by rw [e3 _ (by omega) (by omega)]; exact r3, fun i z hz => by cases hz⟩
    refine b_63_27 ?_
    rw [if_pos hx4]
    refine ⟨so_12, b_64_0 ⟨so_12, ?_⟩⟩
    rw [f2.1]
    have zy := zs_prodL cy
    have hG := c_gatherNode (L := L) (xs := xs) (d := d) (T := T) (p := p) (a := k + 1) hc hFn hF31 hFc (show k * 3 + l < 93 by omega) hcap hl 40
    have hgo := c_factors (d := d + 81) (dep := 0) (R := []) hc hG (by omega) (fun f hf => by cases hf) (prodL y) s3 (fun r s4 => tT (yY L xs) (d + 84 + 1) 63 61 [.ref 12, .int (nI k), .int (nI l), .ref c, .int x4] ((r.map Value.int).toList ++ []) s4 K) A [] .null g3 (fun g hg => by
      have hg' := List.mem_of_mem_tail hg
      by_cases h0 : y = S0
      · rw [h0, prodL_S0] at hg; cases hg
      · exact cn_prodL cy h0 g hg') hfac.1 (by rw [List.length_nil]; omega) (by rw [eR]; exact hF) (fun s4 w1 w2 => by
      rw [rt_none]
      rw [eR] at w1
      have er : ddp [] (rwp y l) = rowP F (k * 3 + l) := by rw [hrow, pt_rwp]
      rw [er] at w1
      refine b_63_61 (hh s4 w1.1 w1.2.2.1 (sb_row w1.2.2.2.2.1 w1.2.2.2.2.2.1) ?_ (w2.1.trans (f1.1.trans (q4.trans e2))) (fun z h1 h2 h3 h4 h5 => ?_) (fun i hi => ?_))
      · rw [w2.2 c (by omega) (by omega) (by omega) (by omega), e3 c (by omega) (by omega)]; exact q3
      · rw [w2.2 z h1 h3 h4 h5, e3 z (by omega) (by omega), q5 z h2 h3 h4, of1 z (by omega)]
      · rw [w2.2 c (by omega) (by omega) (by omega) (by omega), e3 c (by omega) (by omega), q6 i hi, o1 c i (by omega)])
    rw [List.append_nil] at hgo
    exact hgo
  have loop : ∀ i (s3 : sT), i < (prodL y).length → fB s2 s3 0 → bhO s3.1 T ((prodL y).drop (i + 1)) → tT (yY L xs) (d + 85) 63 27 [.ref 12, .int (nI k), .int (nI l), .ref c, .int (nI i)] [] s3 K := by
    intro i
    induction i with
    | zero =>
      intro s3 hi f1 f2
      have ed := List.drop_eq_getElem_cons (l := prodL y) (i := 0) hi
      rw [List.drop_zero] at ed
      obtain ⟨j, j1, j2⟩ := n3 0 _ (List.getElem?_eq_getElem hi)
      have hld : ((prodL y).drop (0 + 1)).length = (prodL y).length - 1 := List.length_drop
      have e13 : s3.1 13 (k * 64 + 0) = nI j := by rw [f1.2.1 13 (by decide) (by decide), of2 13 (by decide), of1 13 (by decide)]; exact j2
      have hP3 : rP s3.2 := by rw [f1.1]; exact hP2
      refine b_63_27 ?_
      rw [if_neg (show ¬ nI 0 < 0 by decide)]
      refine ⟨13, ⟨so_12, rp_12_1 hP3⟩, 1984, ?_⟩
      rw [nI_lit 64, nJ_mul, nJ_add, nI_cl (show k * 64 + 0 < 2147483648 by omega), e13]
      refine ⟨⟨sa_13, inR_nI (by omega) (by decide)⟩, so_12, c_fpush hP3 f2 (by omega) j1 (fun s4 w1 w2 => ?_)⟩
      rw [rt_none]
      refine b_63_48 (gath s4 _ (by decide) (fB_trans f1 (fB_mono w2 (by omega))) ?_)
      rw [ed]; exact w1
    | succ i ih =>
      intro s3 hi f1 f2
      have ed := List.drop_eq_getElem_cons (l := prodL y) (i := i + 1) hi
      obtain ⟨j, j1, j2⟩ := n3 (i + 1) _ (List.getElem?_eq_getElem hi)
      have hld : ((prodL y).drop (i + 1 + 1)).length = (prodL y).length - (i + 1 + 1) := List.length_drop
      have e13 : s3.1 13 (k * 64 + (i + 1)) = nI j := by rw [f1.2.1 13 (by decide) (by decide), of2 13 (by decide), of1 13 (by decide)]; exact j2
      have hP3 : rP s3.2 := by rw [f1.1]; exact hP2
      refine b_63_27 ?_
      rw [if_neg (nI_nn (by omega))]
      refine ⟨13, ⟨so_12, rp_12_1 hP3⟩, 1984, ?_⟩
      rw [nI_lit 64, nJ_mul, nJ_add, nI_cl (show k * 64 + (i + 1) < 2147483648 by omega), e13]
      refine ⟨⟨sa_13, inR_nI (by omega) (by decide)⟩, so_12, c_fpush hP3 f2 (by omega) j1 (fun s4 w1 w2 => ?_)⟩
      rw [rt_none]
      refine b_63_48 ?_
      rw [nI_dec]
      exact ih s4 (by omega) (fB_trans f1 (fB_mono w2 (by omega))) (by rw [ed]; exact w1)
  refine b_63_12 ⟨so_12, 14, ⟨so_12, rp_12_2 hP2⟩, 31, ⟨sa_14, inR_nI h31 (by decide)⟩, ?_⟩
  have f0 : fB s2 (pV s2 12 5 0) 0 := ⟨rfl, fun z h1 _ => by funext t; rw [pV_1, if_neg (by omega)], fun i hi => by rw [pV_1, if_neg (by omega)], fun t ht => absurd ht (Nat.not_lt_zero _)⟩
  have b0 : bhO (pV s2 12 5 0).1 T [] := ⟨by rw [pV_1, if_pos ⟨rfl, rfl⟩]; rfl, by decide, fun i c' hc' => by cases hc'⟩
  have e14 : (pV s2 12 5 0).1 14 k = nI (prodL y).length := by rw [pV_1, if_neg (by omega), of2 14 (by decide), of1 14 (by decide)]; exact n1
  rw [nI_cl (by omega), e14]
  by_cases hn : (prodL y).length = 0
  · have e1 : prodL y = [] := List.length_eq_zero_iff.mp hn
    rw [hn]
    exact gath _ _ (by decide) f0 (by rw [e1]; exact b0)
  · obtain ⟨q, hq⟩ : ∃ q, (prodL y).length = q + 1 := ⟨(prodL y).length - 1, by omega⟩
    rw [hq, nI_pred]
    exact loop q _ (by omega) f0 (by rw [List.drop_eq_nil_of_le (by omega)]; exact b0)
theorem txC_of {v : Nat → Nat → Int32} {t : Nat} {o : List Int32} (h : txO v t o) : txC v t (txL o) := by
  refine ⟨h.1, fun j hj => ?_⟩
  have hj' : j < o.length := hj
  rw [h.2 j _ (List.getElem?_eq_getElem hj')]
  exact (txL_at (List.getElem?_eq_getElem hj')).symm
theorem rowP_at {k l : Nat} {y : Cond} (hl : l < 3) (hk : F[k]? = some y) : rowP F (k * 3 + l) = pt y l := by
  unfold rowP
  rw [show (k * 3 + l) / 3 = k by omega, show (k * 3 + l) % 3 = l by omega, List.getD_eq_getElem?_getD, hk]; rfl
/-- what is known of the rows of parts -/
theorem rows_cap {X : Cond} (cX : cn X) (hX : z0 X ≤ 30) {k l : Nat} (hk : k < (tms X).length) (hl : l < 3) : psum (lenR (tms X)) (k * 3 + l) ≤ 930 := by
  have hlt := lts_30 hX
  have h31 := tms_31 cX hX
  have hT := tms_all cX (by omega)
  have h1 := rows_le cX hT.2.1 (k + 1) (by omega)
  have h2 := psum_mono (lenR (tms X)) (i := k * 3 + l) (j := 3 * (k + 1)) (by omega)
  have h3 : (k + 1) * lts X ≤ 31 * 30 := Nat.mul_le_mul (by omega) hlt
  omega
/-- THE TERMS, told on a side -/
theorem c_findTerms {k : Nat} {X : Cond} (hc : 19 ≤ c) (h : tc s T p) (hK : sdK (yY L xs) s.2 c) (h70 : s.1 (c + 7) 0 = 0) (hk : T[k]? = some X) (hX : z0 X ≤ 30)
    (hh : ∀ s', tc s' T p → sdC s'.1 c (sdOf X) → s'.2 = s.2 → (∀ z, (z < 12 ∨ 15 < z) → (z < c ∨ c + 8 < z) → s'.1 z = s.1 z) → K none s') : tT (yY L xs) (d + 86) 61 0 [.ref 12, .int (nI k), .ref c, .null, .null] [] s K := by
  have hP := h.1
  have cX := tc_cn h hk
  have hlt := lts_30 hX
  have h31 := tms_31 cX hX
  have hall := tms_all cX (by omega)
  have hFn := hall.1
  have hdX := dth_z cX
  have hcatF : (catT (tms X)).length ≤ 4960 := by
    have := catT_le (m := 136) (fun y hy => tms_136 cX hX hy)
    omega
  have hFc : ∀ z ∈ tms X, cn z ∧ (prodL z).length ≤ 64 := fun z hz => by
    have := tms_fac cX hX hz
    exact ⟨this.1, by omega⟩
  have hFk : ∀ {k y}, (tms X)[k]? = some y → (∀ f ∈ prodL y, dth f ≤ 40) ∧ (prodL y).length ≤ 30 ∧ z1 y ≤ 136 := fun hy => (tms_fac cX hX (List.mem_of_getElem? hy)).2
  -- what stays over the loop
  have loop : ∀ (f k' : Nat) (A : List Cond) (s1 : sT) (u4 : Value), lts X + 1 ≤ f + k' → k' ≤ A.length → tmI X k' A → tmG f k' A = tms X → tc s1 T p → tfO s1.1 T A → s1.2 = s.2 → sb s1.1 c (tms X) k' (3 * k') → s1.1 c 6 = nI k' → (txO s1.1 (c + 1) (sp X 0) ∧ s1.1 c 7 = sh X ∧ s1.1 c 8 = nI (ns X)) → (∀ z, (z < 12 ∨ 15 < z) → (z < c ∨ c + 8 < z) → s1.1 z = s.1 z) → tT (yY L xs) (d + 86) 61 63 [.ref 12, .int (nI k), .ref c, .int (nI k'), u4] [] s1 K := by
    intro f
    -- the end
    have fin : ∀ (k' : Nat) (A : List Cond) (s1 : sT), A = tms X → A.length ≤ k' → tmI X k' A → tc s1 T p → s1.2 = s.2 → sb s1.1 c (tms X) k' (3 * k') → k' ≤ A.length → s1.1 c 6 = nI k' → (txO s1.1 (c + 1) (sp X 0) ∧ s1.1 c 7 = sh X ∧ s1.1 c 8 = nI (ns X)) → (∀ z, (z < 12 ∨ 15 < z) → (z < c ∨ c + 8 < z) → s1.1 z = s.1 z) → K none s1 := by
      intro k' A s1 hA hle hI g1 g2 g3 g4 g5 g6 g7
      have ek : k' = (tms X).length := by rw [← hA]; omega
      subst ek
      obtain ⟨a1, a2, a4, a5, a6, a7⟩ := g3
      refine hh s1 g1 ⟨txC_of g6.1, ⟨g5, g6.2.1, g6.2.2, a1⟩, ?_, fun i hi => a4 i hi, fun i hi => a5 i hi, fun i hi => a6 i hi, fun i hi => a7 i hi⟩ g2 g7
      rw [List.take_length] at a2
      exact txC_of a2
    induction f with
    | zero =>
      intro k' A s1 u4 hf hk31 hI hG g1 g2 g3 g4 g5 g6 g7
      have hl := tmI_len hI
      have e : A = tms X := hG
      have hAk : A.length = k' := by omega
      refine b_61_63 ?_
      have fi := fin k' A s1 e (by omega) hI g1 g3 g4 (by omega) g5 g6 g7
      by_cases h3 : 31 ≤ k'
      · rw [if_pos (by rw [nI_lit 31, nJ_le (by omega) (by omega)]; exact h3)]; exact fi
      · rw [if_neg (by rw [nI_lit 31, nJ_le (by omega) (by omega)]; exact h3)]
        refine ⟨so_12, ?_⟩
        rw [g2.1, if_pos (by rw [nJ_le (by omega) (by omega)]; omega)]
        exact fi
    | succ f ih =>
      intro k' A s1 u4 hf hk31 hI hG g1 g2 g3 g4 g5 g6 g7
      have hl := tmI_len hI
      by_cases hkA : k' < A.length
      · refine b_61_63 ?_
        rw [if_neg (by rw [nI_lit 31, nJ_le (by omega) (by omega)]; omega)]
        refine ⟨so_12, ?_⟩
        rw [g2.1, if_neg (by rw [nJ_le (by omega) (by omega)]; omega)]
        have hy := List.getElem?_eq_getElem hkA
        generalize A[k'] = y at hy
        have hG' : tmG f (k' + 1) (tst A y) = tms X := by
          rw [← hG]
          show _ = (match A[k']? with | none => A | some y => tmG f (k' + 1) (tst A y))
          rw [hy]
        have hI' := tmI_step cX hI hy
        have hl' := tmI_len hI'
        have hlen1 : k' + 1 ≤ (tst A y).length := by
          obtain ⟨e1, he1⟩ := tst_pre A y
          rw [he1, List.length_append]; omega
        obtain ⟨eT, heT⟩ := tmG_pre f (k' + 1) (tst A y)
        rw [hG'] at heT
        have hyF : (tms X)[k']? = some y := by
          obtain ⟨e1, he1⟩ := tst_pre A y
          rw [heT, he1]
          exact app_at (app_at hy)
        have hkF := (List.getElem?_eq_some_iff.mp hyF).1
        have hfy := hFk hyF
        have hK1 : sdK (yY L xs) s1.2 c := by rw [g3]; exact hK
        refine ⟨so_12, c_tellTerm hc g1 g2 hK1 hy hyF g4 g5 (by omega) hfy ?_ (fun s2 a1 a2 a3 a4 => ?_)⟩
        · have e := catT_app ((tms X).take (k' + 1)) ((tms X).drop (k' + 1))
          rw [List.take_append_drop] at e
          rw [e, List.length_append] at hcatF
          omega
        rw [rt_none]
        refine b_61_83 ?_
        have t2 : tc s2 T p := tc_off g1 a2 (by rw [a3 1 (by omega) (by omega) (by omega) (by omega)]) (by rw [a3 1 (by omega) (by omega) (by omega) (by omega)]) (fun z _ _ => a3 z (by omega) (by omega) (by omega) (by omega))
        have tf2 : tfO s2.1 T A := tfO_off g2 (by rw [a3 12 (by omega) (by omega) (by omega) (by omega)]) (a3 13 (by omega) (by omega) (by omega) (by omega)) (a3 14 (by omega) (by omega) (by omega) (by omega))
        have e62 : s2.1 c 6 = nI k' := (a4 6 (by decide)).trans g5
        have p2 : txO s2.1 (c + 1) (sp X 0) ∧ s2.1 c 7 = sh X ∧ s2.1 c 8 = nI (ns X) := by
          refine ⟨⟨by rw [a3 (c + 1) (by omega) (by omega) (by omega) (by omega)]; exact g6.1.1, fun i x hx => by rw [a3 (c + 1 + 1) (by omega) (by omega) (by omega) (by omega)]; exact g6.1.2 i x hx⟩, (a4 7 (by decide)).trans g6.2.1, (a4 8 (by decide)).trans g6.2.2⟩
        have f2 : ∀ z, (z < 12 ∨ 15 < z) → (z < c ∨ c + 8 < z) → s2.1 z = s.1 z := fun z h1 h2 => by rw [a3 z (by omega) (by omega) (by omega) (by omega)]; exact g7 z h1 h2
        -- one letter
        have one : ∀ (l : Nat) (A1 : List Cond) (s3 : sT), l < 3 → tc s3 T p → tfO s3.1 T A1 → A1[k']? = some y → (∃ e, tms X = ddp A1 (pt y l) ++ e) → s3.2 = s.2 → sb s3.1 c (tms X) (k' + 1) (k' * 3 + l) → s3.1 c 6 = nI k' → (txO s3.1 (c + 1) (sp X 0) ∧ s3.1 c 7 = sh X ∧ s3.1 c 8 = nI (ns X)) → (∀ z, (z < 12 ∨ 15 < z) → (z < c ∨ c + 8 < z) → s3.1 z = s.1 z) →
            (∀ s4, tc s4 T p → tfO s4.1 T (ddp A1 (pt y l)) → s4.2 = s.2 → sb s4.1 c (tms X) (k' + 1) (k' * 3 + l + 1) → s4.1 c 6 = nI k' → (txO s4.1 (c + 1) (sp X 0) ∧ s4.1 c 7 = sh X ∧ s4.1 c 8 = nI (ns X)) → (∀ z, (z < 12 ∨ 15 < z) → (z < c ∨ c + 8 < z) → s4.1 z = s.1 z) → tT (yY L xs) (d + 86) 61 86 [.ref 12, .int (nI k), .ref c, .int (nI k'), .int (nI (l + 1))] [] s4 K) → tT (yY L xs) (d + 86) 61 86 [.ref 12, .int (nI k), .ref c, .int (nI k'), .int (nI l)] [] s3 K := by
          intro l A1 s3 hl3 b1 b2 b3 b4 b5 b6 b7 b8 b9 hK4
          refine b_61_86 ?_
          rw [if_neg (by rw [nI_lit 3, nJ_le (by omega) (by omega)]; omega)]
          refine ⟨so_12, c_findParts hc hl3 b1 b2 (by rw [b5]; exact hK) b3 (rowP_at hl3 hyF) b6 b7 (by omega) hFn h31 hFc (rows_cap cX hX hkF hl3) hfy b4 (fun s4 w1 w2 w3 w4 w5 w6 w7 => ?_)⟩
          rw [rt_none]
          refine b_61_100 ?_
          rw [← nI_succ]
          refine hK4 s4 w1 w2 (w5.trans b5) w3 w4 ⟨⟨by rw [w6 (c + 1) (by omega) (by omega) (by omega) (by omega) (by omega)]; exact b8.1.1, fun i x hx => by rw [w6 (c + 1 + 1) (by omega) (by omega) (by omega) (by omega) (by omega)]; exact b8.1.2 i x hx⟩, (w7 7 (by decide)).trans b8.2.1, (w7 8 (by decide)).trans b8.2.2⟩ (fun z h1 h2 => by rw [w6 z h1 (by omega) (by omega) (by omega) (by omega)]; exact b9 z h1 h2)
        have eTst : tst A y = ddp (ddp (ddp A (pt y 0)) (pt y 1)) (pt y 2) := rfl
        obtain ⟨e2, he2⟩ := ddp_pre (ddp (ddp A (pt y 0)) (pt y 1)) (pt y 2)
        obtain ⟨e1, he1⟩ := ddp_pre (ddp A (pt y 0)) (pt y 1)
        obtain ⟨e0, he0⟩ := ddp_pre A (pt y 0)
        have pr2 : ∃ e, tms X = ddp (ddp (ddp A (pt y 0)) (pt y 1)) (pt y 2) ++ e := ⟨eT, by rw [heT, eTst]⟩
        have pr1 : ∃ e, tms X = ddp (ddp A (pt y 0)) (pt y 1) ++ e := ⟨e2 ++ eT, by rw [heT, eTst, he2, List.append_assoc]⟩
        have pr0 : ∃ e, tms X = ddp A (pt y 0) ++ e := ⟨e1 ++ (e2 ++ eT), by rw [heT, eTst, he2, he1, List.append_assoc, List.append_assoc]⟩
        have y1 : (ddp A (pt y 0))[k']? = some y := by rw [he0]; exact app_at hy
        have y2 : (ddp (ddp A (pt y 0)) (pt y 1))[k']? = some y := by rw [he1]; exact app_at y1
        have eb : 3 * k' = k' * 3 + 0 := by omega
        rw [eb] at a1
        refine one 0 A s2 (by decide) t2 tf2 hy pr0 (a2.trans g3) a1 e62 p2 f2 (fun s3 b1 b2 b3 b4 b5 b6 b7 => ?_)
        refine one 1 _ s3 (by decide) b1 b2 y1 pr1 b3 b4 b5 b6 b7 (fun s4 c1 c2 c3 c4 c5 c6 c7 => ?_)
        refine one 2 _ s4 (by decide) c1 c2 y2 pr2 c3 c4 c5 c6 c7 (fun s5 d1 d2 d3 d4 d5 d6 d7 => ?_)
        refine b_61_86 ?_
        rw [if_pos (by decide)]
        refine ⟨hK.1, b_43_0 ⟨hK.1, hK.1, ?_⟩⟩
        rw [rt_none, d5, ← nI_succ]
        refine b_61_110 ?_
        rw [← nI_succ]
        have o6 : ∀ z t, (z ≠ c ∨ t ≠ 6) → (pV s5 c 6 (nI (k' + 1))).1 z t = s5.1 z t := fun z t hz => by rw [pV_1, if_neg (by omega)]
        have of6 : ∀ z, z ≠ c → (pV s5 c 6 (nI (k' + 1))).1 z = s5.1 z := fun z hz => by funext t; exact o6 z t (Or.inl hz)
        have eb2 : k' * 3 + 2 + 1 = 3 * (k' + 1) := by omega
        rw [eb2] at d4
        refine ih (k' + 1) (tst A y) _ _ (by omega) (by omega) hI' hG' (tc_off d1 rfl (o6 1 7 (by omega)) (o6 1 8 (by omega)) (fun z _ _ => of6 z (by omega))) (tfO_off d2 (o6 12 6 (by omega)) (of6 13 (by omega)) (of6 14 (by omega))) d3 (sb_off d4 (o6 _ _ (by omega)) (of6 _ (by omega)) (of6 _ (by omega)) (of6 _ (by omega)) (fun i _ => o6 _ _ (by omega)) (fun i _ => o6 _ _ (by omega)) (fun i _ => o6 _ _ (by omega))) (by rw [pV_1, if_pos ⟨rfl, rfl⟩]) ⟨⟨by rw [o6 _ _ (by omega)]; exact d6.1.1, fun i x hx => by rw [o6 _ _ (by omega)]; exact d6.1.2 i x hx⟩, by rw [o6 _ _ (by omega)]; exact d6.2.1, by rw [o6 _ _ (by omega)]; exact d6.2.2⟩ (fun z h1 h2 => by rw [of6 z (by omega)]; exact d7 z h1 h2)
      · have e : A = tms X := by
          rw [← hG]
          show _ = (match A[k']? with | none => A | some y => tmG f (k' + 1) (tst A y))
          rw [List.getElem?_eq_none (by omega)]
        have fi := fin k' A s1 e (by omega) hI g1 g3 g4 hk31 g5 g6 g7
        refine b_61_63 ?_
        by_cases h3 : 31 ≤ k'
        · rw [if_pos (by rw [nI_lit 31, nJ_le (by omega) (by omega)]; exact h3)]; exact fi
        · rw [if_neg (by rw [nI_lit 31, nJ_le (by omega) (by omega)]; exact h3)]
          refine ⟨so_12, ?_⟩
          rw [g2.1, if_pos (by rw [nJ_le (by omega) (by omega)]; omega)]
          exact fi
  obtain ⟨k1, ⟨k2, k3, -, -, -, -⟩, kx1, kx3, -⟩ := hK
  refine b_61_0 ⟨k1, b_39_0 ⟨c + 1, ⟨k1, k2⟩, kx1.1, x_clear kx1.1 ?_⟩⟩
  rw [rt_none]
  refine b_39_7 ⟨c + 3, ⟨k1, k3⟩, kx3.1, x_clear kx3.1 ?_⟩
  rw [rt_none]
  refine b_39_14 ⟨k1, k1, k1, k1, k1, ?_⟩
  rw [rt_none]
  generalize hs1 : pV (pV (pV (pV (pV (pV (pV s (c + 1) 1 0) (c + 3) 1 0) c 6 0) c 7 (-1)) c 8 0) c 9 0) c 10 0 = s1
  have r1 : ∀ z t, s1.1 z t = if z = c ∧ t = 10 then 0 else if z = c ∧ t = 9 then 0 else if z = c ∧ t = 8 then 0 else if z = c ∧ t = 7 then -1 else if z = c ∧ t = 6 then 0 else if z = c + 3 ∧ t = 1 then 0 else if z = c + 1 ∧ t = 1 then 0 else s.1 z t := fun z t => by rw [← hs1, pV_1, pV_1, pV_1, pV_1, pV_1, pV_1, pV_1]
  have e21 : s1.2 = s.2 := by rw [← hs1]; rfl
  have of1 : ∀ z, z ≠ c → z ≠ c + 1 → z ≠ c + 3 → s1.1 z = s.1 z := fun z h1 h2 h3 => by funext t; rw [r1, if_neg (by omega), if_neg (by omega), if_neg (by omega), if_neg (by omega), if_neg (by omega), if_neg (by omega), if_neg (by omega)]
  have t1 : tc s1 T p := tc_off h e21 (by rw [of1 1 (by omega) (by omega) (by omega)]) (by rw [of1 1 (by omega) (by omega) (by omega)]) (fun z _ _ => of1 z (by omega) (by omega) (by omega))
  have c6 : s1.1 c 6 = 0 := by rw [r1, if_neg (by omega), if_neg (by omega), if_neg (by omega), if_neg (by omega), if_pos ⟨rfl, rfl⟩]
  have c9 : s1.1 c 9 = 0 := by rw [r1, if_neg (by omega), if_pos ⟨rfl, rfl⟩]
  have x1 : txO s1.1 (c + 1) [] := ⟨by rw [r1, if_neg (by omega), if_neg (by omega), if_neg (by omega), if_neg (by omega), if_neg (by omega), if_neg (by omega), if_pos ⟨rfl, rfl⟩]; rfl, fun i x hx => by cases hx⟩
  have x3 : s1.1 (c + 3) 1 = 0 := by rw [r1, if_neg (by omega), if_neg (by omega), if_neg (by omega), if_neg (by omega), if_neg (by omega), if_pos ⟨rfl, rfl⟩]
  refine b_61_4 ⟨1, ⟨so_12, rp_12_0 (by rw [e21]; exact hP)⟩, c + 1, ⟨k1, by rw [e21]; exact k2⟩, so_1, c_spell (d := d + 1) (pl := 0) (o := []) (cap := 30) (by omega) t1 (by rw [e21]; exact kx1) x1 hk (by omega) (by decide) (show 0 + z0 X ≤ 30 by omega) (fun s2 w1 w2 => ?_)⟩
  rw [rt_none]
  rw [List.nil_append] at w1
  have t2 := tc_fX t1 w2 (by omega)
  have e22 : s2.2 = s.2 := w2.1.trans e21
  refine b_61_17 ⟨1, ⟨so_12, rp_12_0 t2.1⟩, so_1, c_shortestOf t2 hk ?_⟩
  rw [rt_some]
  refine b_61_26 ⟨k1, 1, ⟨so_12, rp_12_0 (show rP s2.2 from t2.1)⟩, so_1, ?_⟩
  have t3 : tc (pV s2 c 7 (sh X)) T p := tc_off t2 rfl (by rw [pV_1, if_neg (by omega)]) (by rw [pV_1, if_neg (by omega)]) (fun z _ _ => by funext t; rw [pV_1, if_neg (by omega)])
  refine c_nestOf t3 hk ?_
  rw [rt_some]
  refine b_61_38 ⟨k1, so_12, so_12, so_12, ?_⟩
  generalize hs3 : pV (pV (pV (pV s2 c 7 (sh X)) c 8 (nI (ns X))) 12 6 0) 12 5 0 = s3
  have r3 : ∀ z t, s3.1 z t = if z = 12 ∧ t = 5 then 0 else if z = 12 ∧ t = 6 then 0 else if z = c ∧ t = 8 then nI (ns X) else if z = c ∧ t = 7 then sh X else s2.1 z t := fun z t => by rw [← hs3, pV_1, pV_1, pV_1, pV_1]
  have e23 : s3.2 = s.2 := by rw [← hs3]; exact e22
  have of3 : ∀ z, z ≠ 12 → z ≠ c → s3.1 z = s2.1 z := fun z h1 h2 => by funext t; rw [r3, if_neg (by omega), if_neg (by omega), if_neg (by omega), if_neg (by omega)]
  have t4 : tc s3 T p := tc_off t2 (by rw [e23, e22]) (by rw [of3 1 (by omega) (by omega)]) (by rw [of3 1 (by omega) (by omega)]) (fun z _ _ => of3 z (by omega) (by omega))
  have b3 : bhO s3.1 T [] := ⟨by rw [r3, if_pos ⟨rfl, rfl⟩]; rfl, by decide, fun i c' hc' => by cases hc'⟩
  have tf3 : tfO s3.1 T [] := ⟨by rw [r3, if_neg (by omega), if_pos ⟨rfl, rfl⟩]; rfl, by decide, List.nodup_nil, (fun z hz => by cases hz), fun k y hk => by cases hk⟩
  have hpl := (sh_z cX).2.2.2
  refine c_pushFactors (d := d + 84) t4 b3 (by rw [List.length_nil]; omega) hk (fun s4 q1 q2 => ?_)
  rw [rt_none]
  rw [List.append_nil] at q1
  have t5 := tc_fB t4 q2
  refine b_61_56 ⟨so_12, c_numberOfTerm (d := d + 84) (A := []) (z := X) t5 q1 (tfO_off tf3 (q2.2.2.1 6 (by decide)) (q2.2.1 13 (by decide) (by decide)) (q2.2.1 14 (by decide) (by decide))) rfl cX (fun _ => by decide) (by omega) (fun s5 v1 v2 => ?_)⟩
  rw [rt_some]
  refine b_61_60 ?_
  have eA : ddp [] [X] = [X] := rfl
  rw [eA] at v1
  have of5 : ∀ z, (z < 12 ∨ 15 < z) → s5.1 z = s3.1 z := fun z hz => by rw [v2.2.1 z (by omega) (by omega) (by omega), q2.2.1 z (by omega) (by omega)]
  have hI0 : tmI X 0 [X] := ⟨nd_one _, fun z hz => Or.inl (List.mem_singleton.mp hz), fun j y hj => absurd hj (Nat.not_lt_zero _), rfl⟩
  have cc : ∀ t, t ≠ 7 → t ≠ 8 → s5.1 c t = s1.1 c t := fun t h7 h8 => by rw [of5 c (by omega), r3, if_neg (by omega), if_neg (by omega), if_neg (by omega), if_neg (by omega), w2.2.1 c (by omega) (by omega)]
  have of5' : ∀ z, (z < 12 ∨ 15 < z) → z ≠ c → z ≠ c + 1 → z ≠ c + 2 → z ≠ c + 3 → s5.1 z = s.1 z := fun z h1 h2 h3 h4 h5 => by rw [of5 z h1, of3 z (by omega) h2, w2.2.1 z h3 h4, of1 z h2 h3 h5]
  refine loop 32 0 [X] s5 .null (by omega) (Nat.zero_le _) hI0 rfl ?_ v1 (by rw [v2.1, q2.1, e23]) ⟨?_, ⟨?_, fun i x hx => by cases hx⟩, fun i hi => absurd hi (Nat.not_lt_zero _), fun i hi => absurd hi (Nat.not_lt_zero _), fun i hi => ?_, fun i hi => absurd hi (Nat.not_lt_zero _)⟩ ?_ ⟨⟨?_, fun i x hx => ?_⟩, ?_, ?_⟩ (fun z h1 h2 => of5' z h1 (by omega) (by omega) (by omega) (by omega))
  · exact tc_off t5 v2.1 (by rw [v2.2.1 1 (by decide) (by decide) (by decide)]) (by rw [v2.2.1 1 (by decide) (by decide) (by decide)]) (fun z _ _ => v2.2.1 z (by omega) (by omega) (by omega))
  · rw [cc 9 (by decide) (by decide), c9]; rfl
  · rw [of5 (c + 3) (by omega), of3 (c + 3) (by omega) (by omega), w2.2.1 (c + 3) (by omega) (by omega), x3]; rfl
  · have : i = 0 := by omega
    subst this
    rw [of5' (c + 7) (by omega) (by omega) (by omega) (by omega) (by omega), h70]; rfl
  · rw [cc 6 (by decide) (by decide), c6]; rfl
  · rw [of5 (c + 1) (by omega), of3 (c + 1) (by omega) (by omega)]; exact w1.1
  · rw [of5 (c + 1 + 1) (by omega), of3 (c + 1 + 1) (by omega) (by omega)]; exact w1.2 i x hx
  · rw [of5 c (by omega), r3, if_neg (by omega), if_neg (by omega), if_neg (by omega), if_pos ⟨rfl, rfl⟩]
  · rw [of5 c (by omega), r3, if_neg (by omega), if_neg (by omega), if_pos ⟨rfl, rfl⟩]
end TF
