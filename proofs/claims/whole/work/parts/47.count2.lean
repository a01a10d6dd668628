/-! THE REFERENCE'S count -/
section H9
variable {GD : sdT → Prop} {L : Nat} {xs : Nat → Int32} {D : Nat}
theorem r_isTold {d : Nat} {s : sT} {K : Option Int32 → sT → Prop} {N : lnT} (hM : rM s.2) (hN : lnR (s.1 187) 0 N) (hB : lnB N) {k : Nat} (h : K (some (tld N k)) s) : tT (yY L xs) d 201 0 [.ref 186, .int (nI k), .null, .null] [] s K := by
  obtain ⟨l1, l4, l5, l6, l7, l9, l3, l11⟩ := hN
  simp only [Nat.zero_add] at l1 l7 l9
  obtain ⟨b1, b2, b3⟩ := hB
  have outer : ∀ q i (u : Value), q + i = N.1.1 → (∀ i' j', i' < i → j' < N.2.1 i' → ¬ N.2.2.1 i' j' = nI k) → tT (yY L xs) d 201 2 [.ref 186, .int (nI k), .int (nI i), u] [] s K := by
    intro q
    induction q with
    | zero =>
      intro i u hi hno
      refine b_201_2 ⟨187, ⟨so_186, rm_186_0 hM⟩, 42882, ⟨sa_187, inR_nI (k := 186) (by decide) (by decide)⟩, ?_⟩
      rw [nI_lit 186, nI_cl (by decide), l1, if_pos (by rw [nJ_le (by omega) (by omega)]; omega)]
      have : tld N k = 0 := tld_0.mpr (fun ⟨i', j', h1, h2, h3⟩ => hno i' j' (by omega) h2 h3)
      rw [this] at h
      exact h
    | succ q ih =>
      intro i u hi hno
      refine b_201_2 ⟨187, ⟨so_186, rm_186_0 hM⟩, 42882, ⟨sa_187, inR_nI (k := 186) (by decide) (by decide)⟩, ?_⟩
      rw [nI_lit 186, nI_cl (by decide), l1, if_neg (by rw [nJ_le (by omega) (by omega)]; omega)]
      have hi' : i < N.1.1 := by omega
      have hb := b2 i hi'
      have inner : ∀ p j, p + j = N.2.1 i → (∀ j', j' < j → ¬ N.2.2.1 i j' = nI k) → tT (yY L xs) d 201 16 [.ref 186, .int (nI k), .int (nI i), .int (nI j)] [] s K := by
        intro p
        induction p with
        | zero =>
          intro j hj hnj
          refine b_201_16 ⟨187, ⟨so_186, rm_186_0 hM⟩, 42882, ?_⟩
          rw [nI_lit 1087, nJ_add, nI_cl (by omega), l7 i hi', if_pos (by rw [nJ_le (by omega) (by omega)]; omega)]
          refine ⟨⟨sa_187, inR_nI (by omega) (by omega)⟩, ?_⟩
          have := ih (i + 1) (.int (nI j)) (by omega) (fun i' j' h1 h2 => ?_)
          · rw [nI_succ] at this; exact this
          · by_cases e : i' = i
            · subst e; exact hnj j' (by omega)
            · exact hno i' j' (by omega) h2
        | succ p ihp =>
          intro j hj hnj
          refine b_201_16 ⟨187, ⟨so_186, rm_186_0 hM⟩, 42882, ?_⟩
          rw [nI_lit 1087, nJ_add, nI_cl (by omega), l7 i hi', if_neg (by rw [nJ_le (by omega) (by omega)]; omega)]
          refine ⟨⟨sa_187, inR_nI (by omega) (by omega)⟩, 187, ⟨so_186, rm_186_0 hM⟩, 42882, ?_⟩
          have e3 : (1387 : Int32) + (30 : Int32) * nI i + nI j = nI (1387 + 30 * i + j) := by rw [nI_lit 1387, nI_lit 30, nJ_mul, nJ_add, nJ_add]
          rw [e3, nI_cl (by omega), l9 i hi' j (by omega)]
          refine ⟨⟨sa_187, inR_nI (by omega) (by omega)⟩, ?_⟩
          split
          · rename_i hne
            have := ihp (j + 1) (by omega) (fun j' hj' => ?_)
            · rw [nI_succ] at this; exact this
            · by_cases e : j' = j
              · subst e; exact hne
              · exact hnj j' (by omega)
          · rename_i heq
            have ht : told N k := ⟨i, j, hi', by omega, Classical.byContradiction heq⟩
            have : tld N k = 1 := by
              rcases tld_01 N k with e | e
              · exact absurd ht (tld_0.mp e)
              · exact e
            rw [this] at h
            exact h
      exact inner (N.2.1 i) 0 (by omega) (fun j' hj' => absurd hj' (Nat.not_lt_zero j'))
  exact b_201_0 (outer N.1.1 0 .null (by omega) (fun i' _ hi' => absurd hi' (Nat.not_lt_zero i')))
theorem r_cntLoop {d : Nat} {s : sT} {K : Option Int32 → sT → Prop} {N : lnT} (hM : rM s.2) (hN : lnR (s.1 187) 0 N) (hB : lnB N) {w : Int32} (hw : ¬ w < 1 ∧ ¬ 5 < w) (F : Nat → Int32) (h0 : F 0 = 0) (hs : ∀ k, k < N.1.1 → tT (yY L xs) (d + 1) 202 4 [.ref 186, .int w, .int (F (k + 1)), .int (nI (k + 1))] [] s K → tT (yY L xs) (d + 1) 202 22 [.ref 186, .int w, .int (F k), .int (nI k)] [.int 1] s K) (h : ∀ x3, tT (yY L xs) (d + 1) 202 94 [.ref 186, .int w, .int (F N.1.1), .int x3] [] s K) : tT (yY L xs) (d + 1) 202 0 [.ref 186, .int w, .null, .null] [] s K := by
  have l1 := hN.1
  rw [Nat.zero_add] at l1
  have b1 := hB.1
  have loop : ∀ q k, q + k = N.1.1 → tT (yY L xs) (d + 1) 202 4 [.ref 186, .int w, .int (F k), .int (nI k)] [] s K := by
    intro q
    induction q with
    | zero =>
      intro k hk
      refine b_202_4 ⟨187, ⟨so_186, rm_186_0 hM⟩, 42882, ⟨sa_187, inR_nI (k := 186) (by decide) (by decide)⟩, ?_⟩
      rw [nI_lit 186, nI_cl (by decide), l1, if_pos (by rw [nJ_le (by omega) (by omega)]; omega), show k = N.1.1 by omega]
      exact h _
    | succ q ih =>
      intro k hk
      refine b_202_4 ⟨187, ⟨so_186, rm_186_0 hM⟩, 42882, ⟨sa_187, inR_nI (k := 186) (by decide) (by decide)⟩, ?_⟩
      rw [nI_lit 186, nI_cl (by decide), l1, if_neg (by rw [nJ_le (by omega) (by omega)]; omega)]
      refine m_isIn (fun _ _ => ?_) (fun hx => ?_)
      · rw [rt_some]; exact hs k (by omega) (ih (k + 1) (by omega))
      · rcases hx with hx | hx
        · exact absurd hx hw.1
        · exact absurd hx hw.2
  have := loop N.1.1 0 (by omega)
  rw [h0] at this
  exact b_202_0 this
theorem r_count {s : sT} {R : rmT} {I : Nat → Option rmT} (hR : simR s R I) (hB : lnB R.2.2.2.2.2) (w : Int32) : doR (yY L xs) (D + 1) 202 [.ref 186, .int w, .null, .null] s R I (some (cntAns R w)) R I := by
  intro K k
  have kk := k s hR (fun i _ => ⟨rfl, rfl⟩)
  obtain ⟨hM, ⟨_, _, _, hl⟩, ⟨p1, _, _⟩, -⟩ := hR
  have hl0 := hl
  obtain ⟨l1, l4, l5, l6, l7, l9, l3, l11⟩ := hl
  simp only [Nat.zero_add] at l1 l6 l7 l3
  obtain ⟨b1, b2, b3⟩ := hB
  unfold cntAns at kk
  -- the end
  have fin : ∀ (x : Int32), (¬ w < 1 ∧ ¬ 5 < w → ¬ w = 4 → K (some x) s) → ∀ x3, tT (yY L xs) (D + 1) 202 94 [.ref 186, .int w, .int x, .int x3] [] s K := by
    intro x hx x3
    refine b_202_94 ?_
    by_cases e0 : w = 0
    · rw [if_neg (fun z => z e0)]
      rw [if_pos e0] at kk
      refine ⟨187, ⟨so_186, rm_186_0 hM⟩, 42882, ⟨sa_187, inR_nI (k := 186) (by decide) (by decide)⟩, ?_⟩
      rw [nI_lit 186, nI_cl (by decide), l1]; exact kk
    · rw [if_pos e0]
      by_cases e4 : w = 4
      · rw [if_neg (fun z => z e4)]
        rw [if_neg e0, if_neg (by rw [e4]; decide), if_neg (by rw [e4]; decide), if_neg (by rw [e4]; decide), if_pos e4] at kk
        refine ⟨187, ⟨so_186, rm_186_0 hM⟩, 42882, ⟨sa_187, inR_nI (k := 10387) (by decide) (by decide)⟩, ?_⟩
        rw [nI_lit 10387, nI_cl (by decide), l3]; exact kk
      · rw [if_pos e4]
        by_cases e6 : w = 6
        · rw [if_neg (fun z => z e6)]
          rw [if_neg e0, if_neg (by rw [e6]; decide), if_neg (by rw [e6]; decide), if_neg (by rw [e6]; decide), if_neg e4, if_neg (by rw [e6]; decide), if_pos e6] at kk
          exact ⟨so_186, by rw [p1]; exact kk⟩
        · rw [if_pos e6]
          refine m_isIn (fun h1 h2 => ?_) (fun h12 => ?_) <;> rw [rt_some]
          · refine b_202_140 ?_
            rw [if_neg (by decide)]
            exact hx ⟨h1, h2⟩ e4
          · refine b_202_140 ?_
            rw [if_pos rfl]
            have n1 : ¬ w = 1 := by intro e; rw [e] at h12; revert h12; decide
            have n2 : ¬ w = 2 := by intro e; rw [e] at h12; revert h12; decide
            have n3 : ¬ w = 3 := by intro e; rw [e] at h12; revert h12; decide
            have n5 : ¬ w = 5 := by intro e; rw [e] at h12; revert h12; decide
            rw [if_neg e0, if_neg n1, if_neg n2, if_neg n3, if_neg e4, if_neg n5, if_neg e6] at kk
            exact kk
  by_cases hin : ¬ w < 1 ∧ ¬ 5 < w
  · by_cases e3 : w = 3
    · refine r_cntLoop hM hl0 ⟨b1, b2, b3⟩ hin (fun k => nI (psum R.2.2.2.2.2.2.1 k)) rfl (fun k hk hnext => ?_) (fin _ (fun _ _ => ?_))
      · refine b_202_22 ?_
        rw [if_neg (by decide), if_neg (fun z => z e3)]
        refine ⟨187, ⟨so_186, rm_186_0 hM⟩, 42882, ?_⟩
        rw [nI_lit 1087, nJ_add, nI_cl (by omega), l7 k hk]
        refine ⟨⟨sa_187, inR_nI (by omega) (by omega)⟩, b_202_86 ?_⟩
        rw [nJ_add]
        have e : psum R.2.2.2.2.2.2.1 (k + 1) = psum R.2.2.2.2.2.2.1 k + R.2.2.2.2.2.2.1 k := rfl
        rw [nI_succ k] at hnext
        exact hnext
      · rw [if_neg (by rw [e3]; decide), if_neg (by rw [e3]; decide), if_neg (by rw [e3]; decide), if_pos e3] at kk
        exact kk
    · by_cases e5 : w = 5
      · refine r_cntLoop hM hl0 ⟨b1, b2, b3⟩ hin (fun k => nI (cnt (tld R.2.2.2.2.2) 0 k)) rfl (fun k hk hnext => ?_) (fin _ (fun _ _ => ?_))
        · refine b_202_22 ?_
          rw [if_neg (by decide), if_pos e3, if_neg (fun z => z e5)]
          refine ⟨so_186, r_isTold hM hl0 ⟨b1, b2, b3⟩ ?_⟩
          rw [rt_some]
          refine b_202_54 ?_
          rw [nI_succ k] at hnext
          unfold cnt at hnext
          split
          · rename_i h0
            rw [if_pos h0, nI_succ] at hnext
            exact b_202_86 hnext
          · rename_i h0
            rw [if_neg h0, Nat.add_zero] at hnext
            refine b_202_86 ?_
            rw [Int32.add_zero]; exact hnext
        · rw [if_neg (by rw [e5]; decide), if_neg (by rw [e5]; decide), if_neg (by rw [e5]; decide), if_neg e3, if_neg (by rw [e5]; decide), if_pos e5] at kk
          exact kk
      · refine r_cntLoop hM hl0 ⟨b1, b2, b3⟩ hin (fun k => nI (cnt R.2.2.2.2.2.1.2.2.2 (w - 1) k)) rfl (fun k hk hnext => ?_) (fin _ (fun hh n4 => ?_))
        · refine b_202_22 ?_
          rw [if_neg (by decide), if_pos e3, if_pos e5]
          refine ⟨187, ⟨so_186, rm_186_0 hM⟩, 42882, ?_⟩
          rw [nI_lit 787, nJ_add, nI_cl (by omega), l6 k hk]
          refine ⟨⟨sa_187, inR_nI (by omega) (by omega)⟩, ?_⟩
          rw [nI_succ k] at hnext
          unfold cnt at hnext
          split
          · rename_i h0
            rw [if_neg h0, Nat.add_zero] at hnext
            refine b_202_86 ?_
            rw [Int32.add_zero]; exact hnext
          · rename_i h0
            rw [if_pos (Classical.byContradiction h0), nI_succ] at hnext
            exact b_202_86 hnext
        · have hw : w = 1 ∨ w = 2 := by
            have hx : ¬ w < 0 := by
              intro h
              apply hin.1
              rw [Int32.lt_iff_toInt_lt] at h ⊢
              have z0 : (0 : Int32).toInt = 0 := rfl
              have z1 : (1 : Int32).toInt = 1 := rfl
              omega
            obtain ⟨n, hn, rfl⟩ := i32_ex hx
            obtain ⟨h1, h2⟩ := hin
            rw [nI_lit 1, nJ_lt hn (by omega)] at h1
            rw [nI_lit 5, nJ_lt (by omega) hn] at h2
            rw [nI_lit 3, nJ_eq hn (by omega)] at e3
            rw [nI_lit 4, nJ_eq hn (by omega)] at n4
            rw [nI_lit 5, nJ_eq hn (by omega)] at e5
            rcases (show n = 1 ∨ n = 2 by omega) with rfl | rfl
            · exact Or.inl rfl
            · exact Or.inr rfl
          rcases hw with rfl | rfl
          · rw [if_neg (by decide), if_pos rfl] at kk; exact kk
          · rw [if_neg (by decide), if_neg (by decide), if_pos rfl] at kk; exact kk
  · -- none of 1 .. 5
    have hout : w < 1 ∨ 5 < w := by
      refine Classical.byContradiction fun hn => hin ⟨fun z => hn (Or.inl z), fun z => hn (Or.inr z)⟩
    have f94 := fin 0 (fun h => absurd h hin)
    refine b_202_0 (b_202_4 ⟨187, ⟨so_186, rm_186_0 hM⟩, 42882, ⟨sa_187, inR_nI (k := 186) (by decide) (by decide)⟩, ?_⟩)
    split
    · exact f94 _
    · refine m_isIn (fun h1 h2 => absurd ⟨h1, h2⟩ hin) (fun _ => ?_)
      rw [rt_some]
      refine b_202_22 ?_
      rw [if_pos rfl]
      exact f94 _
theorem pr_count (a1 : Int32) : pairOK (yY L xs) (Sim GD) (D + 2) 128 202 [.ref 0, .int a1, .null] [.ref 186, .int a1, .null, .null] true :=
  pair_of fun _ R I hC _ hB hI => ⟨_, R, I, rfl, hB, hI, c_count hC hB a1, fun _ hR1 => r_count (D := D + 1) hR1 hB.2.2.2.2 a1⟩
end H9
