section MB
variable {L : Nat} {xs : Nat → Int32} {d : Nat} {s : sT} {K : Option Int32 → sT → Prop} {R : rmT} {I : Nat → Option rmT}
theorem r_make {σ w k1 k2 : Nat} {x4 : Int32} {A B : Cond} (hR : simR s R I) (hB : rmB gD R) (hI : ∀ k R', k < 2 → I k = some R' → rmB gD R') (hσ : σ < 2) (hw : w < 4) (h1 : k1 < 4) (h2 : k2 < 4) (hx4 : (w = 1 ∨ w = 2) → x4 = nI k2) (cA : cn A) (zA : z0 A ≤ 30) (cB : cn B) (zB : z0 B ≤ 30) (eA : R.2.2.2.2.1 k1 = sdOf A) (eB : R.2.2.2.2.1 k2 = sdOf B) : doR (yY L xs) (d + 11) 215 [.ref 186, .int (nI σ), .int (nI w), .int (nI k1), .int x4, .null, .null, .null] s R I (some (mkAns w A B)) (mkNew R σ w A B) I := by
  intro K kk
  have hM := hR.1
  obtain ⟨p1, p2, p3⟩ := hR.2.2.1
  have lA : (sp A 0).length ≤ 30 := zA
  have lB : (sp B 0).length ≤ 30 := zB
  have ta : txR (s.1 187) (62 + 31 * k1) (txL (sp A 0)) := by
    have := hR.2.1.2.2.1 k1 h1
    rw [eA, Nat.zero_add] at this
    exact this
  have tb' : txR (s.1 187) (62 + 31 * k2) (txL (sp B 0)) := by
    have := hR.2.1.2.2.1 k2 h2
    rw [eB, Nat.zero_add] at this
    exact this
  have hX := mkX_cn (w := w) cA cB zA zB
  have z12X := z12 hX.1
  have z12A := z12 cA
  -- the end
  have fin : ∀ (s1 : sT) (T1 : List Cond) (j : Nat) (x5 x6 : Int32), tb s1 T1 → T1.length ≤ 200 → pn T1 ≤ 5000 → fk s s1 → T1[j]? = some (mkX w A B) → tT (yY L xs) (d + 11) 215 192 [.ref 186, .int (nI σ), .int (nI w), .int (nI k1), .int x4, .int x5, .int x6, .null] [.int (nI j)] s1 K := by
    intro s1 T1 j x5 x6 g1 g2 g3 g4 g5
    have hR1 : simR s1 R I := simR_mk hR hI g4.1 (fun t ht => by rw [g4.2.1 188 (by decide) (by decide)]; exact p2 t ht) (g4.2.1 189 (by decide) (by decide)) (by rw [g4.2.2 3 (by decide)]; exact p1) (by rw [g4.2.2 4 (by decide)]; exact p3) (fun t _ => by rw [g4.2.1 187 (by decide) (by decide)]) (by rw [g4.2.1 187 (by decide) (by decide)]; exact hR.2.1)
    refine b_215_192 ⟨so_186, r_becomes hR1 hB hI g1 (by omega) (by omega) g5 hσ (fun hz s2 v1 v2 => ?_) (fun hz s2 v1 v2 => ?_)⟩
    · rw [rt_some]
      have e1 : mkAns w A B = -1 := if_neg (by omega)
      have e2 : mkNew R σ w A B = R := if_neg (by omega)
      rw [e1, e2] at kk
      exact b_215_201 (kk s2 v1 (fun i hi => ⟨((v2 i hi).1).trans (g4.2.1 i (by omega) (by omega)), ((v2 i hi).2).trans (by rw [g4.1])⟩))
    · rw [rt_some]
      have e1 : mkAns w A B = nI (tms (mkX w A B)).length := if_pos hz
      have e2 : mkNew R σ w A B = rmPut R σ (sdOf (mkX w A B)) := if_pos hz
      rw [e1, e2] at kk
      exact b_215_201 (kk s2 v1 (fun i hi => ⟨((v2 i hi).1).trans (g4.2.1 i (by omega) (by omega)), ((v2 i hi).2).trans (by rw [g4.1])⟩))
  have l5 : T5.length = 5 := rfl
  have p5 : pn T5 = 3 := rfl
  -- both are told
  have at43 : tT (yY L xs) (d + 11) 215 43 [.ref 186, .int (nI σ), .int (nI w), .int (nI k1), .int x4, .null, .null, .null] [] s K := by
    refine b_215_43 ⟨so_186, tt_mono (r_clears (d := d) hM (fun s1 a1 a2 a3 a4 => ?_)) (by omega) (fun _ _ q => q)⟩
    rw [rt_none]
    have e187 : s1.1 187 = s.1 187 := a2.2.1 187 (by decide) (by decide)
    refine b_215_47 ⟨187, ⟨so_186, rm_186_0 a1.1⟩, 187, ⟨so_186, rm_186_0 a1.1⟩, 42882, ?_⟩
    rw [nI_lit 31, nI_lit 62, nJ_mul, nJ_add, nI_cl (show 62 + 31 * k1 < 2147483648 by omega), e187, ta.1, ← nI_succ]
    refine ⟨⟨sa_187, inR_nI (by omega) (by decide)⟩, so_186, ?_⟩
    refine tt_mono (r_told (d := d) (T := T5) (txt := sp A 0) (m := 42882) a1 (by rw [l5]; omega) (by rw [p5]; omega) lA sa_187 (by omega) (by decide) (Or.inl rfl) (fun i c hc => ?_) (fun f s' T' e => ?_) (fun x s2 T2 j1 e b1 b2 b3 b4 b5 b6 b7 b8 => ?_)) (by omega) (fun _ _ q => q)
    · have hi := (List.getElem?_eq_some_iff.mp hc).1
      rw [e187, ta.2 i hi, txL_at hc]
    · rw [rd_back cA] at e; cases e
    rw [rd_back cA] at e
    cases e
    rw [rt_some]
    rw [l5] at b5
    rw [p5] at b6
    have f2 := fk_trans a2 b4.1
    -- behind both
    have at123 : ∀ (s3 : sT) (T3 : List Cond) (j2 : Nat), tb s3 T3 → T3.length ≤ 150 → pn T3 ≤ 4100 → fk s s3 → (∃ e, T3 = T2 ++ e) → ((w = 1 ∨ w = 2) → T3[j2]? = some B) → tT (yY L xs) (d + 11) 215 123 [.ref 186, .int (nI σ), .int (nI w), .int (nI k1), .int x4, .int (nI j1), .null, .null] [.int (nI j2)] s3 K := by
      intro s3 T3 j2 g1 g2 g3 g4 g5 g6
      obtain ⟨e3, he3⟩ := g5
      have hj1 : T3[j1]? = some A := by rw [he3]; exact app_at b8
      refine b_215_123 ⟨201, ⟨so_186, rm_186_20 g1.1⟩, 400, ⟨sa_201, inR_nI (k := 0) (by decide) (by decide)⟩, 201, ⟨so_186, rm_186_20 (show rM s3.2 from g1.1)⟩, 400, ⟨sa_201, inR_nI (k := 1) (by decide) (by decide)⟩, ?_⟩
      generalize hs4 : pV (pV s3 201 (0 : Int32).toNatClampNeg (nI j1)) 201 (1 : Int32).toNatClampNeg (nI j2) = s4
      have fp : frP s3 s4 := by rw [← hs4]; exact frP_put (frP_put (frP_refl s3))
      have t4 := tb_frP fp g1
      have f4 : fk s s4 := fk_trans g4 (fk_gz (gz_frP (T := T3) fp))
      have c0 : s4.1 201 0 = nI j1 := by rw [← hs4, pV_1, if_neg (by decide), pV_1, if_pos ⟨rfl, rfl⟩]
      have c1 : s4.1 201 1 = nI j2 := by rw [← hs4, pV_1, if_pos ⟨rfl, rfl⟩]
      by_cases w0 : w = 0
      · rw [if_neg (show ¬ ¬ nI w = 0 from fun q => q (by rw [w0]; rfl))]
        refine fin s4 T3 j1 _ _ t4 (by omega) (by omega) f4 ?_
        subst w0; exact hj1
      · rw [if_pos (show ¬ nI w = 0 from fun e => w0 ((nJ_eq (b := 0) (by omega) (by decide)).mp e))]
        have row : (w = 1 ∨ w = 2) → rwT T3 [j1, j2] [A, B] ∧ ∀ i, i < 2 → s4.1 201 (0 + i) = nI ([j1, j2].getD i 0) := fun hb => by
          refine ⟨⟨rfl, fun i hi => ?_⟩, fun i hi => ?_⟩
          · have hi' : i < 2 := hi
            rcases (show i = 0 ∨ i = 1 by omega) with rfl | rfl
            · exact hj1
            · exact g6 hb
          · rcases (show i = 0 ∨ i = 1 by omega) with rfl | rfl
            · exact c0
            · exact c1
        have fl2 : ∀ f : Cond → List Cond, ([A, B].flatMap f).length = (f A).length + (f B).length := fun f => by
          rw [List.flatMap_cons, List.flatMap_cons, List.flatMap_nil, List.append_nil, List.length_append]
        have sA := sh_z cA
        have sB := sh_z cB
        by_cases w1 : w = 1
        · rw [if_neg (show ¬ ¬ nI w = 1 from fun q => q (by rw [w1]; rfl))]
          have ex : mkX w A B = sSum [A, B] := by unfold mkX; rw [if_neg w0, if_pos w1]
          rw [ex] at hX z12X
          refine ⟨201, ⟨so_186, rm_186_20 t4.1⟩, so_186, tt_mono (r_sum (d := d) (T := T3) (l := [A, B]) (a := 0) (js0 := [j1, j2]) t4 (by omega) (by omega) sa_201 (show 0 + 2 ≤ 400 by decide) (by decide) (by decide) (row (Or.inl w1)).1 (row (Or.inl w1)).2 (by rw [fl2]; omega) (by omega) (fun s5 T5' j v1 v2 v3 v4 => ?_)) (by omega) (fun _ _ q => q)⟩
          rw [rt_some]
          have := ad_len v3
          have hp := ad_pn v3
          have hnc := nch_z hX.1
          refine b_215_165 (fin s5 T5' j _ _ v1 (by omega) (by omega) (fk_trans f4 (fk_gz (gz_gw v2))) ?_)
          rw [ex]; exact v4
        · rw [if_pos (show ¬ nI w = 1 from fun e => w1 ((nJ_eq (b := 1) (by omega) (by decide)).mp e))]
          by_cases w2 : w = 2
          · rw [if_neg (show ¬ ¬ nI w = 2 from fun q => q (by rw [w2]; rfl))]
            have ex : mkX w A B = sProd [A, B] := by unfold mkX; rw [if_neg w0, if_neg w1, if_pos w2]
            rw [ex] at hX z12X
            refine ⟨201, ⟨so_186, rm_186_20 t4.1⟩, so_186, tt_mono (r_prod (d := d) (T := T3) (l := [A, B]) (a := 0) (js0 := [j1, j2]) t4 (by omega) (by omega) sa_201 (show 0 + 2 ≤ 400 by decide) (by decide) (by decide) (row (Or.inr w2)).1 (row (Or.inr w2)).2 (by rw [fl2]; omega) (by omega) (fun s5 T5' j v1 v2 v3 v4 => ?_)) (by omega) (fun _ _ q => q)⟩
            rw [rt_some]
            have := ad_len v3
            have hp := ad_pn v3
            have hnc := nch_z hX.1
            refine b_215_183 (fin s5 T5' j _ _ v1 (by omega) (by omega) (fk_trans f4 (fk_gz (gz_gw v2))) ?_)
            rw [ex]; exact v4
          · rw [if_pos (show ¬ nI w = 2 from fun e => w2 ((nJ_eq (b := 2) (by omega) (by decide)).mp e))]
            have ex : mkX w A B = sStar A := by unfold mkX; rw [if_neg w0, if_neg w1, if_neg w2]
            rw [ex] at hX z12X
            refine ⟨so_186, tt_mono (r_starB (d := d) (T := T3) t4 (by omega) (by omega) hj1 (by omega) (fun s5 T5' j v1 v2 v3 v4 => ?_)) (by omega) (fun _ _ q => q)⟩
            rw [rt_some]
            have := ad_len v3
            have hp := ad_pn v3
            have hnc := nch_z hX.1
            refine fin s5 T5' j _ _ v1 (by omega) (by omega) (fk_trans f4 (fk_gz (gz_gw v2))) ?_
            rw [ex]; exact v4
    -- the other slot
    have at88 : (w = 1 ∨ w = 2) → tT (yY L xs) (d + 11) 215 88 [.ref 186, .int (nI σ), .int (nI w), .int (nI k1), .int x4, .int (nI j1), .null, .null] [] s2 K := by
      intro hb
      have e187' : s2.1 187 = s.1 187 := f2.2.1 187 (by decide) (by decide)
      have ex4 := hx4 hb
      subst ex4
      refine b_215_88 ⟨187, ⟨so_186, rm_186_0 b3.1⟩, 187, ⟨so_186, rm_186_0 b3.1⟩, 42882, ?_⟩
      rw [nI_lit 31, nI_lit 62, nJ_mul, nJ_add, nI_cl (show 62 + 31 * k2 < 2147483648 by omega), e187', tb'.1, ← nI_succ]
      refine ⟨⟨sa_187, inR_nI (by omega) (by decide)⟩, so_186, ?_⟩
      refine tt_mono (r_told (d := d) (T := T2) (txt := sp B 0) (m := 42882) b3 (by omega) (by omega) lB sa_187 (by omega) (by decide) (Or.inl rfl) (fun i c hc => ?_) (fun f s' T' e => ?_) (fun x s3 T3 j2 e c1 c2 c3 c4 c5 c6 c7 c8 => ?_)) (by omega) (fun _ _ q => q)
      · have hi := (List.getElem?_eq_some_iff.mp hc).1
        rw [e187', tb'.2 i hi, txL_at hc]
      · rw [rd_back cB] at e; cases e
      rw [rd_back cB] at e
      cases e
      rw [rt_some]
      exact b_215_119 (at123 s3 T3 j2 c3 (by omega) (by omega) (fk_trans f2 c4.1) c4.2.2.1 (fun _ => c8))
    refine b_215_76 ?_
    by_cases w1 : w = 1
    · rw [if_pos (show nI w = 1 by rw [w1]; rfl)]
      exact at88 (Or.inl w1)
    · rw [if_neg (show ¬ nI w = 1 from fun e => w1 ((nJ_eq (b := 1) (by omega) (by decide)).mp e))]
      by_cases w2 : w = 2
      · rw [if_neg (show ¬ ¬ nI w = 2 from fun q => q (by rw [w2]; rfl))]
        exact at88 (Or.inr w2)
      · rw [if_pos (show ¬ nI w = 2 from fun e => w2 ((nJ_eq (b := 2) (by omega) (by decide)).mp e))]
        exact at123 s2 T2 0 b3 (by omega) (by omega) f2 ⟨[], (List.append_nil _).symm⟩ (fun q => absurd q (fun q => q.elim w1 w2))
  refine b_215_0 (r_isSide (fun _ _ _ => ?_) (fun hn => absurd rfl (hn σ hσ)))
  rw [rt_some]
  refine b_215_4 ?_
  rw [if_neg (by decide)]
  refine m_isIn (fun _ _ => ?_) (fun q => ?_)
  · rw [rt_some]
    refine b_215_13 ?_
    rw [if_neg (by decide)]
    refine r_isSlot (fun _ _ _ => ?_) (fun hn => absurd rfl (hn k1 h1))
    rw [rt_some]
    refine b_215_20 ?_
    rw [if_neg (by decide)]
    have at33 : (w = 1 ∨ w = 2) → tT (yY L xs) (d + 11) 215 33 [.ref 186, .int (nI σ), .int (nI w), .int (nI k1), .int x4, .null, .null, .null] [] s K := fun hb => by
      refine b_215_33 (r_isSlot (fun _ _ _ => ?_) (fun hn => absurd (hx4 hb) (hn k2 h2)))
      rw [rt_some]
      refine b_215_38 ?_
      rw [if_pos (by decide)]
      exact at43
    by_cases w1 : w = 1
    · rw [if_pos (show nI w = 1 by rw [w1]; rfl)]
      exact at33 (Or.inl w1)
    · rw [if_neg (show ¬ nI w = 1 from fun e => w1 ((nJ_eq (b := 1) (by omega) (by decide)).mp e))]
      by_cases w2 : w = 2
      · rw [if_neg (show ¬ ¬ nI w = 2 from fun q => q (by rw [w2]; rfl))]
        exact at33 (Or.inr w2)
      · rw [if_pos (show ¬ nI w = 2 from fun e => w2 ((nJ_eq (b := 2) (by omega) (by decide)).mp e))]
        exact at43
  · exfalso
    rcases q with q | q
    · exact nI_nn (by omega) q
    · rw [nI_lit 3, nJ_lt (by omega) (by omega)] at q; omega
theorem r_make_no {a1 a2 a3 a4 : Int32} (hR : simR s R I) (h : mkNo a1 a2 a3 a4) : doR (yY L xs) (d + 2) 215 [.ref 186, .int a1, .int a2, .int a3, .int a4, .null, .null, .null] s R I (some (-1)) R I := by
  intro K kk
  have fin : K (some (-1)) s := kk s hR (fun _ _ => ⟨rfl, rfl⟩)
  refine b_215_0 (r_isSide (fun k hk e => ?_) (fun _ => ?_))
  · rw [rt_some]
    refine b_215_4 ?_
    rw [if_neg (by decide)]
    refine m_isIn (fun h1 h2 => ?_) (fun _ => ?_)
    · rw [rt_some]
      obtain ⟨q, hq, eq⟩ := in4 h1 h2
      refine b_215_13 ?_
      rw [if_neg (by decide)]
      refine r_isSlot (fun k3 hk3 e3 => ?_) (fun _ => ?_)
      · rw [rt_some]
        refine b_215_20 ?_
        rw [if_neg (by decide)]
        rcases h with h | h | h | ⟨h, h'⟩
        · exact absurd e (h k hk)
        · exact absurd eq (h q hq)
        · exact absurd e3 (h k3 hk3)
        · have at33 : tT (yY L xs) (d + 2) 215 33 [.ref 186, .int a1, .int a2, .int a3, .int a4, .null, .null, .null] [] s K := by
            refine b_215_33 (r_isSlot (fun k4 hk4 e4 => absurd e4 (h' k4 hk4)) (fun _ => ?_))
            rw [rt_some]
            refine b_215_38 ?_
            rw [if_neg (fun q => q rfl)]; exact fin
          by_cases w1 : a2 = 1
          · rw [if_pos w1]; exact at33
          · rw [if_neg w1, if_neg (fun q => q (h.resolve_left w1))]; exact at33
      · rw [rt_some]
        refine b_215_20 ?_
        rw [if_pos rfl]; exact fin
    · rw [rt_some]
      refine b_215_13 ?_
      rw [if_pos rfl]; exact fin
  · rw [rt_some]
    refine b_215_4 ?_
    rw [if_pos rfl]; exact fin
theorem mkNew_B {σ w : Nat} {A B : Cond} (h : rmB gD R) (cA : cn A) (zA : z0 A ≤ 30) (cB : cn B) (zB : z0 B ≤ 30) : rmB gD (mkNew R σ w A B) := by
  unfold mkNew
  split
  · rename_i hz
    exact rmB_put h ⟨_, (mkX_cn (w := w) cA cB zA zB).1, hz, rfl⟩
  · exact h
theorem pr_make (a1 a2 a3 a4 : Int32) : pairOK (yY L xs) (Sim gD) (d + 174) 119 215 [.ref 0, .int a1, .int a2, .int a3, .int a4, .null, .null] [.ref 186, .int a1, .int a2, .int a3, .int a4, .null, .null, .null] true := by
  refine pair_of2 fun s R I hC hR hA hB hI => ?_
  have no : mkNo a1 a2 a3 a4 → _ := fun h => (⟨some (-1), R, I, rfl, hB, hI, c_make_no (d := d + 173) hC hA h, fun _ hR1 => r_make_no (d := d + 172) hR1 h⟩ : ∃ x R' I', x.isSome = true ∧ rmB gD R' ∧ (∀ k R'', k < 2 → I' k = some R'' → rmB gD R'') ∧ doC2 (yY L xs) (d + 174) 119 [.ref 0, .int a1, .int a2, .int a3, .int a4, .null, .null] s R I x R' I' ∧ ∀ s1, simR s1 R I → doR (yY L xs) (d + 174) 215 [.ref 186, .int a1, .int a2, .int a3, .int a4, .null, .null, .null] s1 R I x R' I')
  rcases ex_or 2 a1 with ⟨σ, hσ, e1⟩ | h
  case inr => exact no (Or.inl h)
  rcases ex_or 4 a2 with ⟨w, hw, e2⟩ | h
  case inr => exact no (Or.inr (Or.inl h))
  rcases ex_or 4 a3 with ⟨k1, hk1, e3⟩ | h
  case inr => exact no (Or.inr (Or.inr (Or.inl h)))
  have ok : ∀ k2, k2 < 4 → ((w = 1 ∨ w = 2) → a4 = nI k2) → (¬ (w = 1 ∨ w = 2) → k2 = k1) → ∃ x R' I', x.isSome = true ∧ rmB gD R' ∧ (∀ k R'', k < 2 → I' k = some R'' → rmB gD R'') ∧ doC2 (yY L xs) (d + 174) 119 [.ref 0, .int a1, .int a2, .int a3, .int a4, .null, .null] s R I x R' I' ∧ ∀ s1, simR s1 R I → doR (yY L xs) (d + 174) 215 [.ref 186, .int a1, .int a2, .int a3, .int a4, .null, .null, .null] s1 R I x R' I' := by
    intro k2 hk2 q1 q2
    obtain ⟨A, cA, zA, eA⟩ := hB.2.2.2.1 k1 hk1
    obtain ⟨B, cB, zB, eB⟩ := hB.2.2.2.1 k2 hk2
    subst e1 e2 e3
    exact ⟨some (mkAns w A B), mkNew R σ w A B, I, rfl, mkNew_B hB cA zA cB zB, hI, c_make hC hA hB hσ hw hk1 hk2 q1 q2 cA zA cB zB eA eB, fun _ hR1 => r_make (d := d + 163) hR1 hB hI hσ hw hk1 hk2 q1 cA zA cB zB eA eB⟩
  by_cases hb : w = 1 ∨ w = 2
  · rcases ex_or 4 a4 with ⟨k2, hk2, e4⟩ | h
    · exact ok k2 hk2 (fun _ => e4) (fun q => absurd hb q)
    · refine no (Or.inr (Or.inr (Or.inr ⟨?_, h⟩)))
      rcases hb with rfl | rfl
      · exact Or.inl e2
      · exact Or.inr e2
  · exact ok k1 hk1 (fun q => absurd q hb) (fun _ => rfl)
end MB
