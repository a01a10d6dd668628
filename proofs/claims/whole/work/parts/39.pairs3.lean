/-! PAIRS OF CALLS: alter, apart -/
section H4
variable {GD : sdT → Prop} {L : Nat} {xs : Nat → Int32} {D : Nat}
theorem c_replace {Y : sY} {d : Nat} {s : sT} {K : Option Int32 → sT → Prop} {a m q : Nat} {x : Int32} (ha : isA Y a 0 m) (hm : m < 2147483648) (hq : q < m) (h : K (some (s.1 a q)) (pV s a q x)) : tT Y d 143 0 [.ref a, .int (nI q), .int x, .null] [] s K := by
  refine b_143_0 ?_
  rw [if_neg (nI_nn (by omega))]
  refine ⟨0, m, ha, ?_⟩
  rw [ofNat_nI, if_pos (by rw [nJ_lt (by omega) hm]; exact hq)]
  refine ⟨m, ⟨ha, inR_nI hq hm⟩, m, ⟨ha, inR_nI hq hm⟩, ?_⟩
  rw [nI_cl (by omega)]
  exact h
def altAns (N : lnT) (i w : Int32) : Int32 := if i < 0 ∨ nI N.1.1 ≤ i then -2 else if w = 0 then N.1.2.1 i.toNatClampNeg else if w = 1 then N.1.2.2.1 i.toNatClampNeg else if w = 2 then N.1.2.2.2 i.toNatClampNeg else
  if w < 10 ∨ nI (N.2.1 i.toNatClampNeg) ≤ w - 10 then -2 else N.2.2.1 i.toNatClampNeg (w - 10).toNatClampNeg
def altN (N : lnT) (i w x : Int32) : lnT := if i < 0 ∨ nI N.1.1 ≤ i then N else if w = 0 then lnG N i.toNatClampNeg x else if w = 1 then lnS N i.toNatClampNeg x else if w = 2 then lnU N i.toNatClampNeg x else
  if w < 10 ∨ nI (N.2.1 i.toNatClampNeg) ≤ w - 10 then N else lnQ N i.toNatClampNeg (w - 10).toNatClampNeg x
theorem alt_in {N : lnT} {k : Nat} {w x : Int32} (hk : k < N.1.1) (hm : N.1.1 ≤ 300) : altAns N (nI k) w = (if w = 0 then N.1.2.1 k else if w = 1 then N.1.2.2.1 k else if w = 2 then N.1.2.2.2 k else if w < 10 ∨ nI (N.2.1 k) ≤ w - 10 then -2 else N.2.2.1 k (w - 10).toNatClampNeg) ∧
    altN N (nI k) w x = (if w = 0 then lnG N k x else if w = 1 then lnS N k x else if w = 2 then lnU N k x else if w < 10 ∨ nI (N.2.1 k) ≤ w - 10 then N else lnQ N k (w - 10).toNatClampNeg x) := by
  have hn : ¬ (nI k < 0 ∨ nI N.1.1 ≤ nI k) := by
    intro h
    rcases h with h | h
    · exact nI_nn (by omega) h
    · rw [nJ_le (by omega) (by omega)] at h; omega
  unfold altAns altN
  rw [if_neg hn, if_neg hn, nI_cl (by omega)]
  exact ⟨rfl, rfl⟩
theorem c_alter {s : sT} {R : rmT} {I : Nat → Option rmT} (hC : simC s R I) (hB : lnB R.2.2.2.2.2) (i w x : Int32) : doC (yY L xs) (D + 2) 130 [.ref 0, .int i, .int w, .int x, .null] s R I (some (altAns R.2.2.2.2.2 i w)) (rmL R (altN R.2.2.2.2.2 i w x)) I := by
  intro K k
  have hC0 := hC
  obtain ⟨c0, c1, hc, hr⟩ := hC.2.1
  have hl := hr.2.2.2.2.2
  obtain ⟨⟨l1, l2, l3⟩, l4, l5, l6, l7, l8, l9, l10, l11⟩ := hr.2.2.2.2.2
  obtain ⟨b1, b2, b3⟩ := hB
  have hP := hC.1
  have put : ∀ (c q : Nat) (N' : lnT), 84 ≤ c → c < 94 → lnC (pV s c q x).1 84 N' → (∀ s', simC s' (rmL R N') I → (∀ i, (186 ≤ i ∨ i < 9 ∨ i = 26 ∨ i = 35) → s'.1 i = s.1 i ∧ s'.2 i = s.2 i) → K (some (s.1 c q)) s') → K (some (s.1 c q)) (pV s c q x) := by
    intro c q N' hc1 hc2 hN kk
    refine kk _ (simC_lines hC0 rfl (fun i hi hni => ?_) hN) (fun i hi => ⟨?_, rfl⟩)
    · funext j; rw [pV_1, if_neg (by omega)]
    · funext j; rw [pV_1, if_neg (by omega)]
  refine b_130_0 ⟨61, ⟨so_0, rp_0_8 hP⟩, 84, ⟨so_61, rp_61_3 hP⟩, so_84, ?_⟩
  refine c_isLine so_84 l1 (by omega) (fun j hj hjm => ?_) (fun hout => ?_)
  · subst hj
    obtain ⟨e1, e2⟩ := alt_in (N := R.2.2.2.2.2) (w := w) (x := x) hjm b1
    rw [e1, e2] at k
    rw [rt_some]
    refine b_130_15 ?_
    rw [if_pos (by decide)]
    have hin : inR (nI j) 300 := inR_nI (by omega) (by omega)
    refine ⟨fun e => ?_, fun e => ?_, fun e => ?_, fun e => ?_⟩
    · rw [if_pos e, if_pos e] at k
      refine ⟨85, ⟨so_84, rp_84_0 hP⟩, c_replace sa_85 (by decide) (by omega) ?_⟩
      rw [rt_some]
      refine b_130_58 (put 85 j _ (by decide) (by decide) (lnC_put hl (pV_1 s 85 j x) (Or.inl ⟨rfl, rfl⟩)) ?_)
      rw [l4 j hjm]; exact k
    · rw [if_neg (by rw [e]; decide), if_pos e, if_neg (by rw [e]; decide), if_pos e] at k
      refine ⟨86, ⟨so_84, rp_84_1 hP⟩, c_replace sa_86 (by decide) (by omega) ?_⟩
      rw [rt_some]
      refine b_130_69 (put 86 j _ (by decide) (by decide) (lnC_put hl (pV_1 s 86 j x) (Or.inr (Or.inl ⟨rfl, rfl⟩))) ?_)
      rw [l5 j hjm]; exact k
    · rw [if_neg (by rw [e]; decide), if_neg (by rw [e]; decide), if_pos e, if_neg (by rw [e]; decide), if_neg (by rw [e]; decide), if_pos e] at k
      refine ⟨87, ⟨so_84, rp_84_2 hP⟩, c_replace sa_87 (by decide) (by omega) ?_⟩
      rw [rt_some]
      refine b_130_80 (put 87 j _ (by decide) (by decide) (lnC_put hl (pV_1 s 87 j x) (Or.inr (Or.inr (Or.inl ⟨rfl, rfl⟩)))) ?_)
      rw [l6 j hjm]; exact k
    · rw [if_neg e.1, if_neg e.2.1, if_neg e.2.2, if_neg e.1, if_neg e.2.1, if_neg e.2.2] at k
      refine ⟨so_84, b_11_0 ⟨so_84, c_isLine so_84 l1 (by omega) (fun j' hj' hjm' => ?_) (fun hout => ?_)⟩⟩
      · rw [nJ_eq (by omega) (by omega)] at hj'
        subst hj'
        rw [rt_some]
        refine b_11_5 ?_
        rw [if_neg (by decide)]
        split
        · rename_i hw
          rw [if_pos (Or.inl hw), if_pos (Or.inl hw)] at k
          rw [rt_some]
          refine b_130_88 ?_
          rw [if_pos rfl]
          exact k s hC0 (fun i _ => ⟨rfl, rfl⟩)
        · rename_i hw
          obtain ⟨q, hq, rfl, hq2⟩ := w10 hw
          refine ⟨89, ⟨so_84, rp_84_4 hP⟩, 300, ⟨sa_89, hin⟩, ?_⟩
          rw [nI_cl (by omega), l7 j hjm, hq2]
          have hb := b2 j hjm
          split
          · rename_i hle
            have hcond : nI (q + 10) < 10 ∨ nI (R.2.2.2.2.2.2.1 j) ≤ nI (q + 10) - 10 := Or.inr (by rw [hq2]; exact hle)
            rw [if_pos hcond, if_pos hcond] at k
            rw [rt_some]
            refine b_130_88 ?_
            rw [if_pos rfl]
            exact k s hC0 (fun i _ => ⟨rfl, rfl⟩)
          · rename_i hle
            have hcond : ¬ (nI (q + 10) < 10 ∨ nI (R.2.2.2.2.2.2.1 j) ≤ nI (q + 10) - 10) := by intro h; rcases h with h | h; exact hw h; rw [hq2] at h; exact hle h
            rw [if_neg hcond, if_neg hcond, hq2, nI_cl (by omega)] at k
            rw [nJ_le (by omega) (by omega)] at hle
            rw [rt_some]
            refine b_130_88 ?_
            rw [if_neg (by decide)]
            have hsum := psum_in (f := R.2.2.2.2.2.2.1) hjm
            have htot := psum_le (f := R.2.2.2.2.2.2.1) R.2.2.2.2.2.1.1 b2
            refine ⟨90, ⟨so_84, rp_84_5 hP⟩, 88, ⟨so_84, rp_84_3 hP⟩, 300, ⟨sa_88, hin⟩, ?_⟩
            rw [nI_cl (by omega), l8 j hjm (by omega), nJ_add, nI_lit 10, nJ_sub (by omega), show psum R.2.2.2.2.2.2.1 j + (q + 10) - 10 = psum R.2.2.2.2.2.2.1 j + q by omega]
            refine c_replace sa_90 (by decide) (by omega) ?_
            rw [rt_some]
            refine b_130_112 (put 90 _ _ (by decide) (by decide) (lnC_put hl (pV_1 s 90 _ x) (Or.inr (Or.inr (Or.inr ⟨j, q, rfl, hjm, by omega, rfl, rfl⟩)))) ?_)
            rw [l9 j hjm q (by omega)]; exact k
      · exact absurd hout (by intro h; rcases h with h | h; exact nI_nn (by omega) h; rw [nJ_le (by omega) (by omega)] at h; omega)
  · rw [show altAns R.2.2.2.2.2 i w = -2 from if_pos hout, show altN R.2.2.2.2.2 i w x = R.2.2.2.2.2 from if_pos hout] at k
    rw [rt_some]
    refine b_130_15 ?_
    rw [if_neg (by decide)]
    exact k s hC0 (fun i _ => ⟨rfl, rfl⟩)
theorem m_place {Y : sY} {d : Nat} {s : sT} {K : Option Int32 → sT → Prop} {j : Nat} {w : Int32} (h0 : w = 0 → K (some (nI (187 + j))) s) (h1 : w = 1 → K (some (nI (487 + j))) s) (h2 : w = 2 → K (some (nI (787 + j))) s) (h3 : ¬ w = 0 → ¬ w = 1 → ¬ w = 2 → K (some ((((1387 : Int32) + ((30 : Int32) * nI j)) + w) - (10 : Int32))) s) : tT Y d 198 0 [.int (nI j), .int w] [] s K := by
  refine b_198_0 ?_
  split
  · rename_i e0
    split
    · rename_i e1
      split
      · rename_i e2; exact h3 e0 e1 e2
      · rename_i e2; rw [nI_lit 787, nJ_add]; exact h2 (Classical.byContradiction e2)
    · rename_i e1; rw [nI_lit 487, nJ_add]; exact h1 (Classical.byContradiction e1)
  · rename_i e0; rw [nI_lit 187, nJ_add]; exact h0 (Classical.byContradiction e0)
theorem r_alter (hGD : ∀ D, GD D → sdB D) {s : sT} {R : rmT} {I : Nat → Option rmT} (hR : simR s R I) (hB : rmB GD R) (hI : ∀ k R', k < 2 → I k = some R' → rmB GD R') (i w x : Int32) : doR (yY L xs) (D + 1) 199 [.ref 186, .int i, .int w, .int x, .null, .null] s R I (some (altAns R.2.2.2.2.2 i w)) (rmL R (altN R.2.2.2.2.2 i w x)) I := by
  intro K k
  have hR0 := hR
  have hl := hR.2.1.2.2.2
  obtain ⟨hM, ⟨_, _, _, l1, l4, l5, l6, l7, l9, l3, l11⟩, -, -⟩ := hR
  simp only [Nat.zero_add] at l1 l4 l5 l6 l7 l9 l3
  have hBl := hB.2.2.2.2
  obtain ⟨b1, b2, b3⟩ := hB.2.2.2.2
  have put : ∀ (q : Nat) (N' : lnT), 186 ≤ q → q < 10387 → lnR ((pV s 187 q x).1 187) 0 N' → (∀ s', simR s' (rmL R N') I → (∀ i, i < 186 → s'.1 i = s.1 i ∧ s'.2 i = s.2 i) → K (some (s.1 187 q)) s') → tT (yY L xs) (D + 1) 199 58 [.ref 186, .int i, .int w, .int x, .null, .null] [.int (nI q)] s K := by
    intro q N' hq1 hq2 hN kk
    refine b_199_58 ⟨187, ⟨so_186, rm_186_0 hM⟩, 42882, ⟨sa_187, inR_nI (by omega) (by omega)⟩, 187, ⟨so_186, rm_186_0 hM⟩, 42882, ⟨sa_187, inR_nI (by omega) (by omega)⟩, ?_⟩
    rw [nI_cl (by omega)]
    refine kk _ (simR_lines hGD hR0 hB hI rfl (fun i _ hi => by funext j; rw [pV_1, if_neg (by omega)]) (fun j hj => by rw [pV_1, if_neg (by omega)]) hN) (fun i hi => ⟨by funext j; rw [pV_1, if_neg (by omega)], rfl⟩)
  have hv : ∀ q j, (pV s 187 q x).1 187 j = if j = q then x else s.1 187 j := by
    intro q j
    rw [pV_1]
    by_cases e : j = q
    · rw [if_pos ⟨rfl, e⟩, if_pos e]
    · rw [if_neg (fun z => e z.2), if_neg e]
  refine b_199_0 ⟨187, ⟨so_186, rm_186_0 hM⟩, 42882, ⟨sa_187, inR_nI (k := 186) (by decide) (by decide)⟩, ?_⟩
  rw [nI_lit 186, nI_cl (by decide), l1]
  refine m_isIn0 (by omega) (fun j hj hjm => ?_) (fun hout => ?_)
  · subst hj
    obtain ⟨e1, e2⟩ := alt_in (N := R.2.2.2.2.2) (w := w) (x := x) hjm b1
    rw [e1, e2] at k
    have hb := b2 j hjm
    rw [rt_some]
    refine b_199_15 ?_
    rw [if_neg (by decide)]
    -- which place
    have hplace : (w = 0 ∨ w = 1 ∨ w = 2 ∨ ((¬ w = 0 ∧ ¬ w = 1 ∧ ¬ w = 2) ∧ ∃ q, q < R.2.2.2.2.2.2.1 j ∧ w = nI (q + 10) ∧ w - 10 = nI q)) → tT (yY L xs) (D + 1) 199 53 [.ref 186, .int (nI j), .int w, .int x, .null, .null] [] s K := by
      intro hw
      refine b_199_53 (m_place (fun e => ?_) (fun e => ?_) (fun e => ?_) (fun e e' e'' => ?_)) <;> rw [rt_some]
      · rw [if_pos e, if_pos e] at k
        refine put _ _ (by omega) (by omega) (lnR_put hl hBl (hv _) (Or.inl ⟨j, hjm, rfl, rfl⟩)) ?_
        rw [l4 j hjm]; exact k
      · rw [if_neg (by rw [e]; decide), if_pos e, if_neg (by rw [e]; decide), if_pos e] at k
        refine put _ _ (by omega) (by omega) (lnR_put hl hBl (hv _) (Or.inr (Or.inl ⟨j, hjm, rfl, rfl⟩))) ?_
        rw [l5 j hjm]; exact k
      · rw [if_neg (by rw [e]; decide), if_neg (by rw [e]; decide), if_pos e, if_neg (by rw [e]; decide), if_neg (by rw [e]; decide), if_pos e] at k
        refine put _ _ (by omega) (by omega) (lnR_put hl hBl (hv _) (Or.inr (Or.inr (Or.inl ⟨j, hjm, rfl, rfl⟩)))) ?_
        rw [l6 j hjm]; exact k
      · rcases hw with h | h | h | ⟨-, q, hq, hw, hq2⟩
        · exact absurd h e
        · exact absurd h e'
        · exact absurd h e''
        · have hcond : ¬ (w < 10 ∨ nI (R.2.2.2.2.2.2.1 j) ≤ w - 10) := by
            intro h
            rcases h with h | h
            · rw [hw, nI_lit 10, nJ_lt (by omega) (by omega)] at h; omega
            · rw [hq2, nJ_le (by omega) (by omega)] at h; omega
          rw [if_neg e, if_neg e', if_neg e'', if_neg hcond, if_neg e, if_neg e', if_neg e'', if_neg hcond, hq2, nI_cl (by omega)] at k
          have e3 : (1387 : Int32) + (30 : Int32) * nI j + w - (10 : Int32) = nI (1387 + 30 * j + q) := by
            rw [hw, nI_lit 1387, nI_lit 30, nI_lit 10, nJ_mul, nJ_add, nJ_add, nJ_sub (by omega)]
            congr 1
          rw [e3]
          refine put _ _ (by omega) (by omega) (lnR_put hl hBl (hv _) (Or.inr (Or.inr (Or.inr ⟨j, q, hjm, hq, rfl, rfl⟩)))) ?_
          rw [l9 j hjm q hq]; exact k
    refine m_isIn (fun hw1 hw2 => ?_) (fun hw => ?_)
    · rw [rt_some]
      refine b_199_24 ?_
      rw [if_pos (by decide)]
      refine hplace ?_
      obtain ⟨q, hq, rfl⟩ := i32_ex hw1
      rw [nI_lit 2, nJ_lt (by omega) hq] at hw2
      rcases (show q = 0 ∨ q = 1 ∨ q = 2 by omega) with rfl | rfl | rfl
      · exact Or.inl rfl
      · exact Or.inr (Or.inl rfl)
      · exact Or.inr (Or.inr (Or.inl rfl))
    · have hne : ¬ w = 0 ∧ ¬ w = 1 ∧ ¬ w = 2 := by
        refine ⟨?_, ?_, ?_⟩ <;> (intro e; rw [e] at hw; revert hw; decide)
      rw [rt_some]
      refine b_199_24 ?_
      rw [if_neg (by decide)]
      refine ⟨187, ⟨so_186, rm_186_0 hM⟩, 42882, ?_⟩
      rw [nI_lit 1087, nJ_add, nI_cl (by omega), l7 j hjm]
      refine ⟨⟨sa_187, inR_nI (by omega) (by omega)⟩, ?_⟩
      refine m_isIn0 (by omega) (fun q hq hqn => ?_) (fun hout => ?_)
      · rw [rt_some]
        refine b_199_47 ?_
        rw [if_pos (by decide)]
        refine hplace (Or.inr (Or.inr (Or.inr ⟨hne, q, hqn, ?_, hq⟩)))
        have := congrArg (· + (10 : Int32)) hq
        simp only [Int32.sub_add_cancel] at this
        rw [this, nI_lit 10, nJ_add]
      · have hcond : w < 10 ∨ nI (R.2.2.2.2.2.2.1 j) ≤ w - 10 := by
          rcases hout with h | h
          · refine Classical.byContradiction fun hn => ?_
            have hw' : ¬ w < 10 := fun q => hn (Or.inl q)
            obtain ⟨q, hq, rfl, hq2⟩ := w10 hw'
            rw [hq2] at h
            exact nI_nn (by omega) h
          · exact Or.inr h
        rw [if_neg hne.1, if_neg hne.2.1, if_neg hne.2.2, if_pos hcond, if_neg hne.1, if_neg hne.2.1, if_neg hne.2.2, if_pos hcond] at k
        rw [rt_some]
        refine b_199_47 ?_
        rw [if_neg (by decide)]
        exact k s hR0 (fun i _ => ⟨rfl, rfl⟩)
  · rw [show altAns R.2.2.2.2.2 i w = -2 from if_pos hout, show altN R.2.2.2.2.2 i w x = R.2.2.2.2.2 from if_pos hout] at k
    rw [rt_some]
    refine b_199_15 ?_
    rw [if_pos rfl]
    exact k s hR0 (fun i _ => ⟨rfl, rfl⟩)
theorem lnB_alt {N : lnT} (h : lnB N) (i w x : Int32) : lnB (altN N i w x) := by
  unfold altN
  repeat' split
  all_goals exact h
theorem pr_alter (hGD : ∀ D, GD D → sdB D) (a1 a2 a3 : Int32) : pairOK (yY L xs) (Sim GD) (D + 2) 130 199 [.ref 0, .int a1, .int a2, .int a3, .null] [.ref 186, .int a1, .int a2, .int a3, .null, .null] true :=
  pair_of fun _ _ I hC _ hB hI => ⟨_, _, I, rfl, rmB_L hB (lnB_alt hB.2.2.2.2 a1 a2 a3), hI, c_alter hC hB.2.2.2.2 a1 a2 a3, fun _ hR1 => r_alter (D := D + 1) hGD hR1 hB hI a1 a2 a3⟩
/-! apart -/
def apAns (x : Option txT) (w : Int32) : Int32 := match x with
  | none => -1
  | some q => if w < 0 then -1 else if w = 0 then nI q.1 else if nI q.1 ≤ w - 1 then -1 else q.2 (w - 1).toNatClampNeg
theorem c_apart {s : sT} {R : rmT} {I : Nat → Option rmT} (hC : simC s R I) (hB : lnB R.2.2.2.2.2) (w : Int32) : doC (yY L xs) (D + 1) 127 [.ref 0, .int w, .null] s R I (some (apAns R.2.2.2.2.2.2.2.2.2 w)) R I := by
  intro K k
  have kk := k s hC (fun i _ => ⟨rfl, rfl⟩)
  obtain ⟨c0, c1, hc, hr⟩ := hC.2.1
  obtain ⟨⟨l1, l2, l3⟩, l4, l5, l6, l7, l8, l9, l10, l11⟩ := hr.2.2.2.2.2
  obtain ⟨b1, b2, b3⟩ := hB
  have hP := hC.1
  refine b_127_0 ⟨61, ⟨so_0, rp_0_8 hP⟩, 84, ⟨so_61, rp_61_3 hP⟩, so_84, ?_⟩
  cases hx : R.2.2.2.2.2.2.2.2.2 with
  | none =>
    rw [hx] at l11 kk
    rw [show s.1 84 11 = 0 from l11, if_pos rfl]
    exact kk
  | some q =>
    rw [hx] at l11 kk
    obtain ⟨e1, e2, e3⟩ := l11
    have hq := b3 q hx
    rw [show s.1 84 11 = 1 from e1, if_neg (by decide)]
    unfold apAns at kk
    simp only at kk
    have hle : 0 ≤ w ↔ ¬ w < 0 := by
      rw [Int32.le_iff_toInt_le, Int32.lt_iff_toInt_lt]; omega
    by_cases hw : w < 0
    · rw [if_neg (by rw [hle]; exact fun h => h hw)]
      rw [if_pos hw] at kk; exact kk
    · rw [if_pos (hle.mpr hw)]
      rw [if_neg hw] at kk
      have htx : tX (yY L xs) s.2 91 300 := ⟨so_91, sa_92, rp_91_0 hP, by decide⟩
      by_cases hw0 : w = 0
      · rw [if_neg (fun h => h hw0)]
        rw [if_pos hw0] at kk
        refine ⟨91, ⟨so_84, rp_84_6 hP⟩, so_91, ?_⟩
        rw [show s.1 91 1 = nI q.1 from e2]
        exact b_127_45 kk
      · rw [if_pos hw0]
        rw [if_neg hw0] at kk
        refine ⟨91, ⟨so_84, rp_84_6 hP⟩, so_91, ?_⟩
        obtain ⟨n, hn, rfl⟩ := i32_ex hw
        have hn0 : n ≠ 0 := fun h => hw0 (by rw [h]; rfl)
        rw [nI_lit 1, nJ_sub (by omega)] at kk ⊢
        refine x_at (n := q.1) htx e2 hq (fun j hj hjm => ?_) (fun hout => ?_)
        · rw [nJ_eq (by omega) (by omega)] at hj
          rw [if_neg (by rw [nJ_le (by omega) (by omega)]; omega), nI_cl (by omega)] at kk
          rw [e3 j hjm, rt_some, ← hj]
          exact b_127_45 kk
        · rw [rt_some]
          refine b_127_45 ?_
          rcases hout with h | h
          · exact absurd h (nI_nn (by omega))
          · rw [if_pos h] at kk; exact kk
theorem r_apart {s : sT} {R : rmT} {I : Nat → Option rmT} (hR : simR s R I) (hB : lnB R.2.2.2.2.2) (w : Int32) : doR (yY L xs) (D + 1) 196 [.ref 186, .int w] s R I (some (apAns R.2.2.2.2.2.2.2.2.2 w)) R I := by
  intro K k
  have kk := k s hR (fun i _ => ⟨rfl, rfl⟩)
  obtain ⟨hM, ⟨_, _, _, l1, l4, l5, l6, l7, l9, l3, l11⟩, -, -⟩ := hR
  obtain ⟨b1, b2, b3⟩ := hB
  refine b_196_0 ⟨187, ⟨so_186, rm_186_0 hM⟩, 42882, ⟨sa_187, inR_nI (k := 10388) (by decide) (by decide)⟩, ?_⟩
  rw [nI_lit 10388, nI_cl (by decide)]
  cases hx : R.2.2.2.2.2.2.2.2.2 with
  | none =>
    rw [hx] at l11 kk
    unfold apR at l11
    simp only [Nat.zero_add] at l11
    rw [l11, if_neg (by decide)]
    exact kk
  | some q =>
    rw [hx] at l11 kk
    unfold apR at l11
    simp only [Nat.zero_add] at l11
    obtain ⟨e2, e3⟩ := l11
    have hq := b3 q hx
    rw [e2, if_pos (nI_ne_neg (by omega))]
    unfold apAns at kk
    simp only at kk
    by_cases hw0 : w = 0
    · rw [if_neg (fun h => h hw0)]
      refine ⟨187, ⟨so_186, rm_186_0 hM⟩, 42882, ⟨sa_187, inR_nI (k := 10388) (by decide) (by decide)⟩, ?_⟩
      rw [if_neg (by rw [hw0]; decide), if_pos hw0] at kk
      rw [e2]; exact kk
    · rw [if_pos hw0]
      refine ⟨187, ⟨so_186, rm_186_0 hM⟩, 42882, ⟨sa_187, inR_nI (k := 10388) (by decide) (by decide)⟩, ?_⟩
      rw [e2]
      refine m_isIn0 (by omega) (fun j hj hjm => ?_) (fun hout => ?_)
      · have hw : w = nI (j + 1) := by
          have := congrArg (· + (1 : Int32)) hj
          simp only [Int32.sub_add_cancel] at this
          rw [this, nI_lit 1, nJ_add]
        subst hw
        rw [if_neg (nI_nn (by omega)), if_neg hw0, hj, if_neg (by rw [nJ_le (by omega) (by omega)]; omega), nI_cl (by omega)] at kk
        rw [rt_some]
        refine b_196_46 ?_
        rw [if_neg (by decide)]
        refine ⟨187, ⟨so_186, rm_186_0 hM⟩, 42882, ?_⟩
        rw [nI_lit 10388, nJ_add, nI_cl (by omega), show 10388 + (j + 1) = 10389 + j by omega, e3 j hjm]
        exact ⟨⟨sa_187, inR_nI (by omega) (by omega)⟩, kk⟩
      · rw [rt_some]
        refine b_196_46 ?_
        rw [if_pos rfl]
        by_cases hw : w < 0
        · rw [if_pos hw] at kk; exact kk
        · obtain ⟨n, hn, rfl⟩ := i32_ex hw
          have hn0 : n ≠ 0 := fun h => hw0 (by rw [h]; rfl)
          rw [if_neg hw, if_neg hw0] at kk
          rw [nI_lit 1, nJ_sub (by omega)] at hout kk
          rcases hout with h | h
          · exact absurd h (nI_nn (by omega))
          · rw [if_pos h] at kk; exact kk
theorem pr_apart (a1 : Int32) : pairOK (yY L xs) (Sim GD) (D + 1) 127 196 [.ref 0, .int a1, .null] [.ref 186, .int a1] true :=
  pair_of fun _ R I hC _ hB hI => ⟨_, R, I, rfl, hB, hI, c_apart hC hB.2.2.2.2 a1, fun _ hR1 => r_apart hR1 hB.2.2.2.2 a1⟩
end H4
