section LC
variable {L : Nat} {xs : Nat → Int32} {d : Nat} {s : sT} {K : Option Int32 → sT → Prop}
theorem lin_laid {s1 : sT} {T T1 U : List Cond} {P x j : Nat} {c : Cond} (h : lin s T c x) (hg : gl s s1 T T1) (hA : am s1 T1 U P) (hx : x < 3) (hj : T1[j]? = some c) : laidO s1.1 T1 P j c x := by
  obtain ⟨j0, h1, h2⟩ := h
  have hl := (List.getElem?_eq_some_iff.mp h1).1
  obtain ⟨e, he⟩ := hg.2.2.2.1
  have h1' : T1[j0]? = some c := by rw [he]; exact app_at h1
  have hje : j = j0 := (List.getElem?_inj (List.getElem?_eq_some_iff.mp hj).1 (tb_nd hA.1)).mp (hj.trans h1'.symm)
  subst hje
  rcases hA.2.2.2.2 j c x hj hx with q | q
  · exact absurd (by rw [← hg.2.2.2.2.1 _ (by omega)]; exact q) h2
  · exact q
theorem take_flat_pre {f : Cond → List Cond} {l : List Cond} {i : Nat} (hi : i < l.length) (i' : Nat) : ∃ r, l.flatMap f = ((l.take i).flatMap f ++ (f l[i]).take i') ++ r := by
  refine ⟨(f l[i]).drop i' ++ (l.drop (i + 1)).flatMap f, ?_⟩
  have e : l.flatMap f = (l.take (i + 1)).flatMap f ++ (l.drop (i + 1)).flatMap f := by rw [← List.flatMap_append, List.take_append_drop]
  rw [e, take_flat hi, List.append_assoc, List.append_assoc, ← List.append_assoc ((f l[i]).take i'), List.take_append_drop]
theorem r_laysParts {T U : List Cond} {P k x : Nat} {y : Cond} {W : Cond → Prop} (hA : am s T U P) (hU : uO U) (hW : clW U W) (hk : T[k]? = some y) (hx : x < 3) (hy : W y) (hrd : rdy s T y x) (hnot : s.1 198 (3 * k + x) = -1)
    (h : ∀ s' T' P', am s' T' U P' → gp s s' T T' → s'.1 198 (3 * k + x) ≠ -1 → (∀ t, t < 3 * T.length → t ≠ 3 * k + x → s'.1 198 t = s.1 198 t) → K none s') : tT (yY L xs) (d + 5) 174 0 [.ref 186, .int (nI k), .int (nI x), .null, .null, .null] [] s K := by
  have hWy := hW.1 y hy
  have cy := hWy.2.1
  have h30 := hWy.2.2.2
  have hkl := (List.getElem?_eq_some_iff.mp hk).1
  have hlen := am_len hA hU
  have hkd := kd_le y
  have ck : (nI k).toNatClampNeg = k := nI_cl (by omega)
  have ink : inR (nI k) 1500 := inR_nI (by omega) (by decide)
  have hpt := pt_pt3 y hx
  have bnd : ∀ A B : List Cond, pt y x = ddp [] (A ++ B) → (ddp [] A).length < 31 := fun A B e => by
    have := ddp_le A B
    rw [← e] at this
    omega
  have kT : ∀ {s1 : sT} {T1 : List Cond}, gl s s1 T T1 → T1[k]? = some y := fun g => by
    obtain ⟨e, he⟩ := g.2.2.2.1
    rw [he]; exact app_at hk
  -- what a node says, in any of the states
  have nd : ∀ {s1 : sT} {T1 : List Cond}, am s1 T1 U P → gl s s1 T T1 → ∃ off, off + nch y ≤ 24000 ∧ s1.1 190 k = nI (kd y) ∧ s1.1 191 k = nI off ∧ s1.1 192 k = nI (nch y) ∧ (∀ a, y = .count (2 + a) → s1.1 195 off = nI a) ∧ ∀ i c, (chl y)[i]? = some c → ∃ j, T1[j]? = some c ∧ s1.1 195 (off + i) = nI j := fun g1 g2 => by
    obtain ⟨off, hN⟩ := g1.1.2.1
    have hl1 := am_len g1 hU
    obtain ⟨⟨n1, n2, n3, -, -, -, n7, n8⟩, n9⟩ := hN.2.2.2.2.2 k y (kT g2)
    exact ⟨off k, by omega, n1, n2, n3, n7, n8⟩
  have fin : ∀ (s1 : sT) (T1 : List Cond) (js : List Nat) (u3 u4 u5 : Value), gl s s1 T T1 → am s1 T1 U P → lyO s1.1 js → rwT T1 js (pt y x) → tT (yY L xs) (d + 5) 174 272 [.ref 186, .int (nI k), .int (nI x), u3, u4, u5] [] s1 K := by
    intro s1 T1 js u3 u4 u5 g1 g2 g3 g4
    exact r_laysEnd g2 hU (kT g1) hx h30 (by rw [g1.2.2.2.2.1 _ (by omega)]; exact hnot) g3 g4 (fun s' P' q1 q2 q3 q4 => h s' T1 P' q1 (gp_trans (gp_gl g1) q2) q3 (fun t ht hne => (q4 t hne).trans (g1.2.2.2.2.1 t ht)))
  have sums : kd y = 3 → ∀ q i (s1 : sT) (js : List Nat) (u4 u5 : Value), q + i = (chl y).length → gl s s1 T T → am s1 T U P → lyO s1.1 js → rwT T js (ddp [] (((chl y).take i).flatMap fun z => pt z x)) → tT (yY L xs) (d + 5) 174 47 [.ref 186, .int (nI k), .int (nI x), .int (nI i), u4, u5] [] s1 K := by
    intro h3 q
    have hn3 := nch_3 (y := y) (by omega)
    have e0 : y ≠ S0 := fun e => by rw [e] at h3; exact absurd h3 (by decide)
    have ept : pt y x = ddp [] ((chl y).flatMap fun z => pt z x) := by rw [pt_sumL cy e0, sumL_3 h3]
    induction q with
    | zero =>
      intro i s1 js u4 u5 hi g1 g2 g3 g4
      have e : i = (chl y).length := by omega
      subst e
      rw [List.take_length, ← ept] at g4
      obtain ⟨off, n0, n1, n2, n3, -, -⟩ := nd g2 g1
      refine b_174_47 ⟨192, ⟨so_186, rm_186_7 g2.1.1⟩, 1500, ⟨sa_192, ink⟩, ?_⟩
      rw [ck, n3, hn3, if_pos (Int32.le_refl _)]
      refine b_174_116 ⟨190, ⟨so_186, rm_186_5 g2.1.1⟩, 1500, ⟨sa_190, ink⟩, ?_⟩
      rw [ck, n1, h3, if_pos (by decide)]
      exact fin s1 T js _ _ _ g1 g2 g3 g4
    | succ q ih =>
      intro i s1 js u4 u5 hi g1 g2 g3 g4
      have hi' : i < (chl y).length := by omega
      obtain ⟨off, n0, n1, n2, n3, -, n8⟩ := nd g2 g1
      rw [hn3] at n0
      obtain ⟨j, j1, j2⟩ := n8 i _ (List.getElem?_eq_getElem hi')
      have hjl := (List.getElem?_eq_some_iff.mp j1).1
      have hcm : (chl y)[i]'hi' ∈ chl y := List.getElem_mem _
      generalize hc : (chl y)[i]'hi' = c at j1 hcm
      have hl0 : lin s T c x := by
        cases y with
        | or a b => exact hrd c hcm
        | count q => have := kd_atom q; omega
        | _ => cases h3
      refine b_174_47 ⟨192, ⟨so_186, rm_186_7 g2.1.1⟩, 1500, ⟨sa_192, ink⟩, ?_⟩
      rw [ck, n3, hn3, if_neg (by rw [nJ_le (by omega) (by omega)]; omega)]
      refine ⟨195, ⟨so_186, rm_186_10 g2.1.1⟩, 191, ⟨so_186, rm_186_6 g2.1.1⟩, 1500, ⟨sa_191, ink⟩, 24000, ?_⟩
      rw [n2, nJ_add, nI_cl (show off + i < 2147483648 by omega), j2]
      refine ⟨⟨sa_195, inR_nI (by omega) (by decide)⟩, ?_⟩
      have inner : ∀ q' i' (s2 : sT) (js2 : List Nat), q' + i' = (pt c x).length → gl s s2 T T → am s2 T U P → lyO s2.1 js2 → rwT T js2 (ddp [] (((chl y).take i).flatMap (fun z => pt z x) ++ (pt c x).take i')) → tT (yY L xs) (d + 5) 174 75 [.ref 186, .int (nI k), .int (nI x), .int (nI i), .int (nI j), .int (nI i')] [] s2 K := by
        intro q'
        induction q' with
        | zero =>
          intro i' s2 js2 hi2 f1 f2 f3 f4
          have hla := lin_laid hl0 f1 f2 hx j1
          have hp3 := hla.1
          have hpc := pt_pt3 c hx
          refine b_174_75 ⟨198, ⟨so_186, rm_186_15 f2.1.1⟩, 4500, ?_⟩
          rw [nI_lit 3, nJ_mul, nJ_add, nI_cl (show 3 * j + x < 2147483648 by omega), hla.2.1]
          refine ⟨⟨sa_198, inR_nI (by omega) (by decide)⟩, ?_⟩
          rw [if_pos (by rw [nJ_le (by omega) (by omega)]; omega)]
          have e' : i' = (pt c x).length := by omega
          rw [e', List.take_length] at f4
          have := ih (i + 1) s2 js2 (.int (nI j)) (.int (nI i')) (by omega) f1 f2 f3 (by rw [take_flat hi', hc]; exact f4)
          rw [nI_succ] at this
          exact this
        | succ q' ih2 =>
          intro i' s2 js2 hi2 f1 f2 f3 f4
          have hla := lin_laid hl0 f1 f2 hx j1
          have hp3 := hla.1
          have hpc := pt_pt3 c hx
          have hi2' : i' < (pt c x).length := by omega
          have hP := plO_le f2.2.2
          refine b_174_75 ⟨198, ⟨so_186, rm_186_15 f2.1.1⟩, 4500, ?_⟩
          rw [nI_lit 3, nJ_mul, nJ_add, nI_cl (show 3 * j + x < 2147483648 by omega), hla.2.1]
          refine ⟨⟨sa_198, inR_nI (by omega) (by decide)⟩, ?_⟩
          rw [if_neg (by rw [nJ_le (by omega) (by omega)]; omega)]
          refine ⟨so_186, r_partOf f2.1.1 (by omega) hx (by omega) hla hi2' (fun jp hjp => ?_)⟩
          rw [rt_some]
          obtain ⟨rr, hrr⟩ := take_flat_pre (f := fun z => pt z x) hi' i'
          rw [hc] at hrr
          have hb := bnd (((chl y).take i).flatMap (fun z => pt z x) ++ (pt c x).take i') rr (by
            rw [ept]
            exact congrArg (ddp []) hrr)
          refine b_174_101 ⟨so_186, r_lays f2.1.1 f3 f4 (tb_nd f2.1) (by omega) hjp (by rw [f4.1]; omega) (fun s3 js3 r1 r2 r3 => ?_)⟩
          rw [rt_none]
          refine b_174_104 ?_
          have := ih2 (i' + 1) s3 js3 (by omega) (gl_trans f1 (gl_frL r3)) (am_frL r3 f2) r1 (by
            rw [List.take_succ_eq_append_getElem hi2', ← List.append_assoc, ddp_app]; exact r2)
          rw [nI_succ] at this
          exact this
      exact inner _ 0 s1 js rfl g1 g2 g3 (by rw [List.take_zero, List.append_nil]; exact g4)
  have rests : ∀ (a b : Cond) (T1 : List Cond) (jb : Nat), y = .and a b → full a = true → T1[jb]? = some b → (∃ e, T1 = T ++ e) → ∀ q i (s1 : sT) (js : List Nat) (x3 : Int32), q + i = (pt b x).length → gl s s1 T T1 → am s1 T1 U P → lyO s1.1 js → rwT T1 js (ddp [] ((pt a x).map (fun u => pj u b) ++ (pt b x).take i)) → tT (yY L xs) (d + 5) 174 237 [.ref 186, .int (nI k), .int (nI x), .int x3, .int (nI jb), .int (nI i)] [] s1 K := by
    intro a b T1 jb hab hfa hjb heT q
    have hl0 : lin s T b x := by subst hab; exact hrd.2 hfa
    have hjl := (List.getElem?_eq_some_iff.mp hjb).1
    have ept : pt y x = ddp [] ((pt a x).map (fun u => pj u b) ++ pt b x) := by
      subst hab
      show ddp [] ((pt a x).map (fun u => pj u b) ++ if full a = true then pt b x else []) = _
      rw [if_pos hfa]
    induction q with
    | zero =>
      intro i s1 js x3 hi g1 g2 g3 g4
      have hla := lin_laid hl0 g1 g2 hx hjb
      have hp3 := hla.1
      have hpc := pt_pt3 b hx
      have hl1 := am_len g2 hU
      refine b_174_237 ⟨198, ⟨so_186, rm_186_15 g2.1.1⟩, 4500, ?_⟩
      rw [nI_lit 3, nJ_mul, nJ_add, nI_cl (show 3 * jb + x < 2147483648 by omega), hla.2.1]
      refine ⟨⟨sa_198, inR_nI (by omega) (by decide)⟩, ?_⟩
      rw [if_pos (by rw [nJ_le (by omega) (by omega)]; omega)]
      have e' : i = (pt b x).length := by omega
      rw [e', List.take_length, ← ept] at g4
      exact fin s1 T1 js _ _ _ g1 g2 g3 g4
    | succ q ih =>
      intro i s1 js x3 hi g1 g2 g3 g4
      have hla := lin_laid hl0 g1 g2 hx hjb
      have hp3 := hla.1
      have hpc := pt_pt3 b hx
      have hl1 := am_len g2 hU
      have hP := plO_le g2.2.2
      have hi' : i < (pt b x).length := by omega
      refine b_174_237 ⟨198, ⟨so_186, rm_186_15 g2.1.1⟩, 4500, ?_⟩
      rw [nI_lit 3, nJ_mul, nJ_add, nI_cl (show 3 * jb + x < 2147483648 by omega), hla.2.1]
      refine ⟨⟨sa_198, inR_nI (by omega) (by decide)⟩, ?_⟩
      rw [if_neg (by rw [nJ_le (by omega) (by omega)]; omega)]
      refine ⟨so_186, r_partOf g2.1.1 (by omega) hx (by omega) hla hi' (fun jp hjp => ?_)⟩
      rw [rt_some]
      have hb := bnd ((pt a x).map (fun u => pj u b) ++ (pt b x).take i) ((pt b x).drop i) (by rw [List.append_assoc, List.take_append_drop]; exact ept)
      refine b_174_263 ⟨so_186, r_lays g2.1.1 g3 g4 (tb_nd g2.1) (by omega) hjp (by rw [g4.1]; omega) (fun s3 js3 r1 r2 r3 => ?_)⟩
      rw [rt_none]
      refine b_174_266 ?_
      have := ih (i + 1) s3 js3 x3 (by omega) (gl_trans g1 (gl_frL r3)) (am_frL r3 g2) r1 (by
        rw [List.take_succ_eq_append_getElem hi', ← List.append_assoc, ddp_app]; exact r2)
      rw [nI_succ] at this
      exact this
  have firsts : ∀ (a b : Cond) (j : Nat), ((y = .and a b) ∨ (y = .not a ∧ b = .not a)) → T[j]? = some a → ∀ q i (s1 : sT) (T1 : List Cond) (js : List Nat) (u5 : Value), q + i = (pt a x).length → gl s s1 T T1 → am s1 T1 U P → lyO s1.1 js → rwT T1 js (ddp [] (((pt a x).take i).map fun u => pj u b)) → tT (yY L xs) (d + 5) 174 141 [.ref 186, .int (nI k), .int (nI x), .int (nI j), .int (nI i), u5] [] s1 K := by
    intro a b j hab hj q
    have hjl := (List.getElem?_eq_some_iff.mp hj).1
    have hl0 : lin s T a x := by
      rcases hab with rfl | ⟨rfl, -⟩
      · exact hrd.1
      · exact hrd
    have hkd45 : (kd y = 4 ∧ y = .and a b) ∨ (kd y = 5 ∧ y = .not a ∧ b = .not a) := by
      rcases hab with rfl | ⟨rfl, rfl⟩
      · exact Or.inl ⟨rfl, rfl⟩
      · exact Or.inr ⟨rfl, rfl, rfl⟩
    have ept : ∃ R, pt y x = ddp [] ((pt a x).map (fun u => pj u b) ++ R) ∧ ((y = .and a b ∧ R = if full a = true then pt b x else []) ∨ (y = .not a ∧ R = [])) := by
      rcases hab with rfl | ⟨rfl, rfl⟩
      · exact ⟨_, rfl, Or.inl ⟨rfl, rfl⟩⟩
      · exact ⟨[], by rw [List.append_nil]; rfl, Or.inr ⟨rfl, rfl⟩⟩
    obtain ⟨R, ept, hR⟩ := ept
    have jT : ∀ {s1 : sT} {T1 : List Cond}, gl s s1 T T1 → T1[j]? = some a := fun g => by
      obtain ⟨e, he⟩ := g.2.2.2.1
      rw [he]; exact app_at hj
    have Wp : ∀ u ∈ pt a x, W (pj u b) := fun u hu => by
      refine hW.2.2.2 y x _ hy ?_
      rw [ept]
      exact mem_ddp0.mpr (List.mem_append_left _ (List.mem_map.mpr ⟨u, hu, rfl⟩))
    induction q with
    | zero =>
      intro i s1 T1 js u5 hi g1 g2 g3 g4
      have hla := lin_laid hl0 g1 g2 hx (jT g1)
      have hp3 := hla.1
      have hpc := pt_pt3 a hx
      have hl1 := am_len g2 hU
      obtain ⟨off, n0, n1, n2, n3, -, n8⟩ := nd g2 g1
      refine b_174_141 ⟨198, ⟨so_186, rm_186_15 g2.1.1⟩, 4500, ?_⟩
      rw [nI_lit 3, nJ_mul, nJ_add, nI_cl (show 3 * j + x < 2147483648 by omega), hla.2.1]
      refine ⟨⟨sa_198, inR_nI (by omega) (by decide)⟩, ?_⟩
      rw [if_pos (by rw [nJ_le (by omega) (by omega)]; omega)]
      have e' : i = (pt a x).length := by omega
      rw [e', List.take_length] at g4
      refine ⟨190, ⟨so_186, rm_186_5 g2.1.1⟩, 1500, ⟨sa_190, ink⟩, ?_⟩
      rw [ck, n1]
      rcases hkd45 with ⟨h4, hyab⟩ | ⟨h5, hyn, -⟩
      · rw [if_neg (by rw [h4]; exact fun q => q rfl)]
        have hRe : R = if full a = true then pt b x else [] := by
          rcases hR with ⟨-, e⟩ | ⟨e, -⟩
          · exact e
          · rw [hyab] at e; cases e
        obtain ⟨off1, hN1⟩ := g2.1.2.1
        have hfa := (hN1.2.2.2.2.2 j a (jT g1)).1.2.2.2.2.2.1
        refine ⟨196, ⟨so_186, rm_186_11 g2.1.1⟩, 1500, ⟨sa_196, inR_nI (by omega) (by decide)⟩, ?_⟩
        rw [nI_cl (show j < 2147483648 by omega), hfa]
        cases hf : full a with
        | false =>
          rw [if_pos (show bz false = 0 by decide)]
          rw [hRe, if_neg (by rw [hf]; decide), List.append_nil] at ept
          rw [← ept] at g4
          exact fin s1 T1 js _ _ _ g1 g2 g3 g4
        | true =>
          rw [if_neg (show ¬ bz true = 0 by decide)]
          rw [hyab] at cy hy
          have cb : cn b := cy.2.2.2.2.1
          have hb0 : b ≠ S0 := cy.2.2.2.2.2.1
          have eP := pj_1l cb hb0
          have Wb := hW.2.2.1 a b hy
          have hWb := hW.1 b Wb
          refine ⟨so_186, r_behind (a := a) (b := b) (u := S1) (k := k) (j := 1) g2.1 hl1.1 hl1.2 (by rw [kT g1, hyab]) (tbA5 g2.1 1 (by decide)) (by rw [eP]; exact hWb.2.2.1) (fun s' T' ib q1 q2 q3 q4 => ?_)⟩
          rw [eP] at q3 q4
          rw [rt_some]
          have gg := gl_trans g1 (gl_gz q2)
          have hA' := am_ad g2 (gl_gz q2) q1 q3 hWb.1
          obtain ⟨e2, he2⟩ := q2.2.2.2.1
          refine b_174_232 (rests a b T' ib hyab hf q4 gg.2.2.2.1 _ 0 s' js _ rfl gg hA' ⟨?_, fun i hi => ?_⟩ ?_)
          · rw [q2.2.2.1 33 (by decide) (by decide) (by decide)]; exact g3.1
          · rw [q2.2.1 209 (by decide) (by decide) (by decide) (by decide) (by decide)]; exact g3.2 i hi
          · rw [List.take_zero, List.append_nil, he2]; exact rwT_app g4
      · rw [if_pos (by rw [h5]; decide)]
        have hRe : R = [] := by
          rcases hR with ⟨e, -⟩ | ⟨-, e⟩
          · rw [hyn] at e; cases e
          · exact e
        rw [hRe, List.append_nil] at ept
        rw [← ept] at g4
        exact fin s1 T1 js _ _ _ g1 g2 g3 g4
    | succ q ih =>
      intro i s1 T1 js u5 hi g1 g2 g3 g4
      have hla := lin_laid hl0 g1 g2 hx (jT g1)
      have hp3 := hla.1
      have hpc := pt_pt3 a hx
      have hl1 := am_len g2 hU
      have hP := plO_le g2.2.2
      have hi' : i < (pt a x).length := by omega
      obtain ⟨off, n0, n1, n2, n3, -, n8⟩ := nd g2 g1
      refine b_174_141 ⟨198, ⟨so_186, rm_186_15 g2.1.1⟩, 4500, ?_⟩
      rw [nI_lit 3, nJ_mul, nJ_add, nI_cl (show 3 * j + x < 2147483648 by omega), hla.2.1]
      refine ⟨⟨sa_198, inR_nI (by omega) (by decide)⟩, ?_⟩
      rw [if_neg (by rw [nJ_le (by omega) (by omega)]; omega)]
      refine ⟨190, ⟨so_186, rm_186_5 g2.1.1⟩, 1500, ⟨sa_190, ink⟩, ?_⟩
      rw [ck, n1]
      have hum : (pt a x)[i]'hi' ∈ pt a x := List.getElem_mem _
      have hWp := hW.1 _ (Wp _ hum)
      -- what is made is gathered
      have aft : ∀ (s2 : sT) (T2 : List Cond) (ip : Nat), tb s2 T2 → gz s1 s2 T1 T2 → ad T1 (pj ((pt a x)[i]'hi') b) T2 → T2[ip]? = some (pj ((pt a x)[i]'hi') b) → tT (yY L xs) (d + 5) 174 197 [.ref 186, .int (nI k), .int (nI x), .int (nI j), .int (nI i), u5] [.int (nI ip), .ref 186] s2 K := by
        intro s2 T2 ip q1 q2 q3 q4
        have gg := gl_trans g1 (gl_gz q2)
        have hA' := am_ad g2 (gl_gz q2) q1 q3 hWp.1
        have hl2 := am_len hA' hU
        obtain ⟨e2, he2⟩ := q2.2.2.2.1
        have f3 : lyO s2.1 js := ⟨by rw [q2.2.2.1 33 (by decide) (by decide) (by decide)]; exact g3.1, fun i hi => by rw [q2.2.1 209 (by decide) (by decide) (by decide) (by decide) (by decide)]; exact g3.2 i hi⟩
        have f4 : rwT T2 js (ddp [] (((pt a x).take i).map fun u => pj u b)) := by rw [he2]; exact rwT_app g4
        have hb := bnd (((pt a x).take i).map fun u => pj u b) (((pt a x).drop i).map (fun u => pj u b) ++ R) (by rw [← List.append_assoc, ← List.map_append, List.take_append_drop]; exact ept)
        refine b_174_197 ⟨so_186, r_lays q1.1 f3 f4 (tb_nd q1) (by omega) q4 (by rw [f4.1]; omega) (fun s3 js3 r1 r2 r3 => ?_)⟩
        rw [rt_none]
        refine b_174_200 ?_
        have := ih (i + 1) s3 T2 js3 u5 (by omega) (gl_trans gg (gl_frL r3)) (am_frL r3 hA') r1 (by
          rw [List.take_succ_eq_append_getElem hi', List.map_append, ddp_app]; exact r2)
        rw [nI_succ] at this
        exact this
      rcases hkd45 with ⟨h4, hyab⟩ | ⟨h5, hyn, hbn⟩
      · rw [if_pos (show ¬ nI (kd y) = 5 from by rw [h4]; decide)]
        refine ⟨so_186, r_partOf g2.1.1 (by omega) hx (by omega) hla hi' (fun jp hjp => ?_)⟩
        rw [rt_some]
        refine b_174_192 ⟨so_186, r_behind (a := a) (b := b) (k := k) (j := jp) g2.1 hl1.1 hl1.2 (by rw [kT g1, hyab]) hjp hWp.2.2.1 (fun s2 T2 ip q1 q2 q3 q4 => ?_)⟩
        rw [rt_some]
        exact aft s2 T2 ip q1 q2 q3 q4
      · rw [if_neg (show ¬ ¬ nI (kd y) = 5 from by rw [h5]; decide)]
        refine ⟨so_186, r_partOf g2.1.1 (by omega) hx (by omega) hla hi' (fun jp hjp => ?_)⟩
        rw [rt_some]
        subst hbn
        refine b_174_176 ⟨so_186, r_withStar (a := a) (k := k) (j := jp) g2.1 hl1.1 hl1.2 (by rw [kT g1, hyn]) hjp hWp.2.2.1 (fun s2 T2 ip q1 q2 q3 q4 => ?_)⟩
        rw [rt_some]
        exact b_174_180 (aft s2 T2 ip q1 q2 q3 q4)
  -- the start
  have f0 : frL s (pV s 186 33 0) := ⟨rfl, fun z h1 _ => by funext t; rw [pV_1, if_neg (fun q => h1 q.1)], fun z hz => by rw [pV_1, if_neg (fun q => hz q.2)]⟩
  have g0 := gl_frL (T := T) f0
  have A0 := am_frL f0 hA
  have l0 : lyO (pV s 186 33 0).1 [] := ⟨by rw [pV_1, if_pos ⟨rfl, rfl⟩]; rfl, fun i hi => absurd hi (Nat.not_lt_zero _)⟩
  have at35 : kd y ≠ 2 → tT (yY L xs) (d + 5) 174 35 [.ref 186, .int (nI k), .int (nI x), .null, .null, .null] [] (pV s 186 33 0) K := by
    intro h2
    obtain ⟨off, n0, n1, n2, n3, -, n8⟩ := nd A0 g0
    refine b_174_35 ⟨190, ⟨so_186, rm_186_5 A0.1.1⟩, 1500, ⟨sa_190, ink⟩, ?_⟩
    rw [ck, n1]
    by_cases h3 : kd y = 3
    · rw [if_neg (by rw [h3]; exact fun q => q rfl)]
      exact sums h3 _ 0 _ [] .null .null rfl g0 A0 l0 (by rw [List.take_zero]; exact rwT_nil T)
    · rw [if_pos (show ¬ nI (kd y) = 3 from fun e => h3 ((nJ_eq (by omega) (by decide)).mp e))]
      refine b_174_116 ⟨190, ⟨so_186, rm_186_5 A0.1.1⟩, 1500, ⟨sa_190, ink⟩, ?_⟩
      rw [ck, n1]
      by_cases h4 : kd y ≤ 3
      · rw [if_pos (by rw [nI_lit 3, nJ_le (by omega) (by omega)]; exact h4)]
        refine fin _ T [] _ _ _ g0 A0 l0 ?_
        have : pt y x = [] := by
          rcases kd_01 cy (by omega) with e | e
          · rw [e]; show (if 0 = 2 + x then _ else _) = _; rw [if_neg (by omega)]
          · rw [e]; show (if 1 = 2 + x then _ else _) = _; rw [if_neg (by omega)]
        rw [this]
        exact rwT_nil T
      · rw [if_neg (by rw [nI_lit 3, nJ_le (by omega) (by omega)]; exact h4)]
        refine ⟨195, ⟨so_186, rm_186_10 A0.1.1⟩, 191, ⟨so_186, rm_186_6 A0.1.1⟩, 1500, ⟨sa_191, ink⟩, 24000, ?_⟩
        rw [n2, nI_cl (show off < 2147483648 by omega)]
        have hnc : 1 ≤ nch y := by
          cases y with
          | and a b => show 1 ≤ (prodL b).length + 1; omega
          | not a => exact Nat.le_refl _
          | count q => have := kd_atom q; omega
          | or a b => exact absurd rfl h3
          | _ => exact cy.elim
        refine ⟨⟨sa_195, inR_nI (by omega) (by decide)⟩, ?_⟩
        cases y with
        | and a b =>
          obtain ⟨j, j1, j2⟩ := n8 0 a rfl
          rw [Nat.add_zero] at j2
          rw [j2]
          exact firsts a b j (Or.inl rfl) j1 _ 0 _ T [] .null rfl g0 A0 l0 (by rw [List.take_zero]; exact rwT_nil T)
        | not a =>
          obtain ⟨j, j1, j2⟩ := n8 0 a rfl
          rw [Nat.add_zero] at j2
          rw [j2]
          exact firsts a (.not a) j (Or.inr ⟨rfl, rfl⟩) j1 _ 0 _ T [] .null rfl g0 A0 l0 (by rw [List.take_zero]; exact rwT_nil T)
        | count q => have := kd_atom q; omega
        | or a b => exact absurd rfl h3
        | _ => exact cy.elim
  obtain ⟨off, n0, n1, n2, n3, n7, -⟩ := nd A0 g0
  refine b_174_0 ⟨so_186, 190, ⟨so_186, rm_186_5 A0.1.1⟩, 1500, ⟨sa_190, ink⟩, ?_⟩
  rw [ck, n1]
  by_cases h2 : kd y = 2
  · rw [if_neg (by rw [h2]; exact fun q => q rfl)]
    obtain ⟨a0, rfl⟩ : ∃ a0, y = .count (2 + a0) := by
      cases y with
      | count q =>
        have h2' : (if q = 0 then 0 else if q = 1 then 1 else 2) = 2 := h2
        refine ⟨q - 2, ?_⟩
        by_cases q0 : q = 0
        · rw [if_pos q0] at h2'; cases h2'
        · by_cases q1 : q = 1
          · rw [if_neg q0, if_pos q1] at h2'; cases h2'
          · rw [show 2 + (q - 2) = q by omega]
      | _ => first | cases h2 | exact cy.elim
    have hnc : nch (.count (2 + a0)) = 1 := by unfold nch; rw [if_pos h2]
    rw [hnc] at n0
    have ha5 : 2 + a0 < 5 := cy
    refine ⟨195, ⟨so_186, rm_186_10 A0.1.1⟩, 191, ⟨so_186, rm_186_6 A0.1.1⟩, 1500, ⟨sa_191, ink⟩, 24000, ?_⟩
    rw [n2, nI_cl (show off < 2147483648 by omega), n7 a0 rfl]
    refine ⟨⟨sa_195, inR_nI (by omega) (by decide)⟩, ?_⟩
    have end272 : ∀ (s1 : sT) (js : List Nat), gl s s1 T T → am s1 T U P → lyO s1.1 js → rwT T js (pt (.count (2 + a0)) x) → tT (yY L xs) (d + 5) 174 35 [.ref 186, .int (nI k), .int (nI x), .null, .null, .null] [] s1 K := by
      intro s1 js g1 g2 g3 g4
      obtain ⟨off', m0, m1, -⟩ := nd g2 g1
      refine b_174_35 ⟨190, ⟨so_186, rm_186_5 g2.1.1⟩, 1500, ⟨sa_190, ink⟩, ?_⟩
      rw [ck, m1, h2, if_pos (by decide)]
      refine b_174_116 ⟨190, ⟨so_186, rm_186_5 g2.1.1⟩, 1500, ⟨sa_190, ink⟩, ?_⟩
      rw [ck, m1, h2, if_pos (by decide)]
      exact fin s1 T js _ _ _ g1 g2 g3 g4
    by_cases hax : a0 = x
    · rw [if_neg (by rw [hax]; exact fun q => q rfl)]
      refine ⟨so_186, r_lays (j := 1) (cs := []) A0.1.1 l0 (rwT_nil T) (tb_nd A0.1) (by omega) (tbA5 A0.1 1 (by decide)) (by decide) (fun s3 js3 r1 r2 r3 => ?_)⟩
      rw [rt_none]
      refine end272 s3 js3 (gl_trans g0 (gl_frL r3)) (am_frL r3 A0) r1 ?_
      have : pt (.count (2 + a0)) x = [S1] := by show (if 2 + a0 = 2 + x then _ else _) = _; rw [if_pos (by omega)]
      rw [this]
      exact r2
    · rw [if_pos (show ¬ nI a0 = nI x from fun e => hax ((nJ_eq (by omega) (by omega)).mp e))]
      refine end272 _ [] g0 A0 l0 ?_
      have : pt (.count (2 + a0)) x = [] := by show (if 2 + a0 = 2 + x then _ else _) = _; rw [if_neg (by omega)]
      rw [this]
      exact rwT_nil T
  · rw [if_pos (show ¬ nI (kd y) = 2 from fun e => h2 ((nJ_eq (by omega) (by decide)).mp e))]
    exact at35 h2
end LC
