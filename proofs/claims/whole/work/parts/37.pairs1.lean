/-! PAIRS OF CALLS, the plain ones -/
section H1
variable {Y : sY} {d : Nat} {s : sT} {K : Option Int32 → sT → Prop}
theorem nI_m1 {m : Nat} (hm : m < 2147483648) (x : Int32) : nI m - 1 < x ↔ (¬ x < 0 ∧ nI m ≤ x) ∨ (m = 0 ∧ ¬ x < 0) := by
  have e0 : (0 : Int32).toInt = 0 := rfl
  by_cases h : m = 0
  · subst h
    have e : (nI 0 - 1).toInt = -1 := rfl
    rw [Int32.lt_iff_toInt_lt, Int32.lt_iff_toInt_lt, Int32.le_iff_toInt_le, e, nI_int (by omega), e0]
    omega
  · rw [nI_lit 1, nJ_sub (by omega), Int32.lt_iff_toInt_lt, Int32.lt_iff_toInt_lt, Int32.le_iff_toInt_le, nI_int (by omega), nI_int hm, e0]
    omega
/-- is x one of 0 .. m - 1? -/
theorem m_isIn0 {m : Nat} (hm : m < 2147483648) {x : Int32} (h1 : ∀ k, x = nI k → k < m → K (some 1) s) (h0 : (x < 0 ∨ nI m ≤ x) → K (some 0) s) : tT Y d 151 0 [.int x, .int 0, .int (nI m - 1)] [] s K := by
  refine b_151_0 ?_
  split
  · rename_i hx; exact h0 (Or.inl hx)
  · rename_i hx
    obtain ⟨k, hk, rfl⟩ := i32_ex hx
    split
    · rename_i h2
      rw [nI_m1 hm] at h2
      rcases h2 with h2 | h2
      · exact h0 (Or.inr h2.2)
      · refine h0 (Or.inr ?_)
        rw [nJ_le hm hk]; omega
    · rename_i h2
      rw [nI_m1 hm, nJ_le hm hk] at h2
      refine h1 k rfl ?_
      by_cases hmk : m ≤ k
      · exact absurd (Or.inl ⟨hx, hmk⟩) h2
      · omega
theorem m_isIn {x lo hi : Int32} (h1 : ¬ x < lo → ¬ hi < x → K (some 1) s) (h0 : (x < lo ∨ hi < x) → K (some 0) s) : tT Y d 151 0 [.int x, .int lo, .int hi] [] s K := by
  refine b_151_0 ?_
  split
  · rename_i hx; exact h0 (Or.inl hx)
  · rename_i hx
    split
    · rename_i h2; exact h0 (Or.inr h2)
    · rename_i h2; exact h1 hx h2
/-- the class's isLine -/
theorem c_isLine {l m : Nat} (ho : isO Y l 1) (hs : s.1 l 8 = nI m) (hm : m < 2147483648) {x : Int32} (h1 : ∀ k, x = nI k → k < m → K (some 1) s) (h0 : (x < 0 ∨ nI m ≤ x) → K (some 0) s) : tT Y d 10 0 [.ref l, .int x] [] s K := by
  refine b_10_0 ?_
  split
  · rename_i hx; exact h0 (Or.inl hx)
  · rename_i hx
    refine ⟨ho, ?_⟩
    obtain ⟨k, hk, rfl⟩ := i32_ex hx
    rw [hs]
    split
    · rename_i h2; exact h0 (Or.inr h2)
    · rename_i h2
      rw [nJ_le hm hk] at h2
      exact h1 k rfl (by omega)
theorem psum_mono (f : Nat → Nat) {i j : Nat} (h : i ≤ j) : psum f i ≤ psum f j := by
  induction j with
  | zero => have : i = 0 := by omega
            subst this; exact Nat.le_refl _
  | succ j ih =>
    by_cases hij : i = j + 1
    · subst hij; exact Nat.le_refl _
    · have := ih (by omega)
      show psum f i ≤ psum f j + f j
      omega
theorem psum_le {f : Nat → Nat} {b : Nat} : ∀ n, (∀ i, i < n → f i ≤ b) → psum f n ≤ n * b
  | 0, _ => by unfold psum; omega
  | n + 1, h => by
    have h1 := psum_le n (fun i hi => h i (by omega))
    have h2 := h n (by omega)
    unfold psum
    rw [Nat.succ_mul]
    omega
theorem psum_in {f : Nat → Nat} {m i : Nat} (hi : i < m) : psum f i + f i ≤ psum f m := psum_mono f (i := i + 1) (j := m) hi
end H1
section H2
variable {GD : sdT → Prop} {L : Nat} {xs : Nat → Int32} {D : Nat}
theorem pr_fault : pairOK (yY L xs) (Sim GD) D 116 212 [.ref 0] [.ref 186] true := by
  refine pair_of fun s R I hC hR hB hI => ⟨some R.2.1, R, I, rfl, hB, hI, fun K k => ?_, fun s1 hR1 K k => ?_⟩
  · obtain ⟨c0, c1, hc, hr⟩ := hC.2.1
    refine b_116_0 ⟨61, ⟨so_0, rp_0_8 hC.1⟩, so_61, ?_⟩
    rw [hr.2.1]
    exact k s hC (fun i _ => ⟨rfl, rfl⟩)
  · refine b_212_0 ⟨so_186, ?_⟩
    rw [hR1.2.2.1.2.2]
    exact k s1 hR1 (fun i _ => ⟨rfl, rfl⟩)
/-- what line(i, w) answers -/
def lnAns (N : lnT) (i w : Int32) : Int32 := if i < 0 ∨ nI N.1.1 ≤ i then -2 else if w = 0 then N.1.2.1 i.toNatClampNeg else if w = 1 then N.1.2.2.1 i.toNatClampNeg else if w = 2 then N.1.2.2.2 i.toNatClampNeg else if w = 3 then nI (N.2.1 i.toNatClampNeg) else
  if w < 10 ∨ nI (N.2.1 i.toNatClampNeg) ≤ w - 10 then -2 else N.2.2.1 i.toNatClampNeg (w - 10).toNatClampNeg
theorem lnAns_out {N : lnT} {i w : Int32} (h : i < 0 ∨ nI N.1.1 ≤ i) : lnAns N i w = -2 := if_pos h
theorem lnAns_in {N : lnT} {k : Nat} {w : Int32} (hk : k < N.1.1) (hm : N.1.1 ≤ 300) : lnAns N (nI k) w = if w = 0 then N.1.2.1 k else if w = 1 then N.1.2.2.1 k else if w = 2 then N.1.2.2.2 k else if w = 3 then nI (N.2.1 k) else if w < 10 ∨ nI (N.2.1 k) ≤ w - 10 then -2 else N.2.2.1 k (w - 10).toNatClampNeg := by
  unfold lnAns
  rw [if_neg, nI_cl (by omega)]
  intro h
  rcases h with h | h
  · exact nI_nn (by omega) h
  · rw [nJ_le (by omega) (by omega)] at h; omega
theorem w10 {w : Int32} (h : ¬ w < 10) : ∃ q, q < 2147483638 ∧ w = nI (q + 10) ∧ w - 10 = nI q := by
  have h0 : ¬ w < 0 := by
    intro hw
    apply h
    rw [Int32.lt_iff_toInt_lt] at hw ⊢
    have e0 : (0 : Int32).toInt = 0 := rfl
    have e1 : (10 : Int32).toInt = 10 := rfl
    omega
  obtain ⟨k, hk, rfl⟩ := i32_ex h0
  rw [nI_lit 10, nJ_lt hk (by omega)] at h
  refine ⟨k - 10, by omega, by rw [show k - 10 + 10 = k by omega], ?_⟩
  rw [nI_lit 10, nJ_sub (by omega)]
/-- the class's line -/
theorem c_line {s : sT} {R : rmT} {I : Nat → Option rmT} (hC : simC s R I) (hB : lnB R.2.2.2.2.2) (i w : Int32) : doC (yY L xs) (D + 2) 129 [.ref 0, .int i, .int w, .null] s R I (some (lnAns R.2.2.2.2.2 i w)) R I := by
  intro K k
  have kk := k s hC (fun i _ => ⟨rfl, rfl⟩)
  obtain ⟨c0, c1, hc, hr⟩ := hC.2.1
  obtain ⟨⟨l1, l2, l3⟩, l4, l5, l6, l7, l8, l9, l10, l11⟩ := hr.2.2.2.2.2
  obtain ⟨b1, b2, b3⟩ := hB
  have hP := hC.1
  refine b_129_0 ⟨61, ⟨so_0, rp_0_8 hP⟩, 84, ⟨so_61, rp_61_3 hP⟩, so_84, ?_⟩
  refine c_isLine so_84 l1 (by omega) (fun j hj hjm => ?_) (fun hout => ?_)
  · subst hj
    rw [lnAns_in hjm b1] at kk
    rw [rt_some]
    refine b_129_13 ?_
    rw [if_pos (by decide)]
    have hin : inR (nI j) 300 := inR_nI (by omega) (by omega)
    refine ⟨fun e => ?_, fun e => ?_, fun e => ?_, fun e => ?_, fun e => ?_⟩
    · refine ⟨85, ⟨so_84, rp_84_0 hP⟩, 300, ⟨sa_85, hin⟩, ?_⟩
      rw [nI_cl (by omega), l4 j hjm]
      rw [if_pos e] at kk; exact kk
    · refine ⟨86, ⟨so_84, rp_84_1 hP⟩, 300, ⟨sa_86, hin⟩, ?_⟩
      rw [nI_cl (by omega), l5 j hjm]
      rw [if_neg (by rw [e]; decide), if_pos e] at kk; exact kk
    · refine ⟨87, ⟨so_84, rp_84_2 hP⟩, 300, ⟨sa_87, hin⟩, ?_⟩
      rw [nI_cl (by omega), l6 j hjm]
      rw [if_neg (by rw [e]; decide), if_neg (by rw [e]; decide), if_pos e] at kk; exact kk
    · refine ⟨89, ⟨so_84, rp_84_4 hP⟩, 300, ⟨sa_89, hin⟩, ?_⟩
      rw [nI_cl (by omega), l7 j hjm]
      rw [if_neg (by rw [e]; decide), if_neg (by rw [e]; decide), if_neg (by rw [e]; decide), if_pos e] at kk; exact kk
    · rw [if_neg e.1, if_neg e.2.1, if_neg e.2.2.1, if_neg e.2.2.2] at kk
      refine ⟨so_84, b_11_0 ⟨so_84, c_isLine so_84 l1 (by omega) (fun j' hj' hjm' => ?_) (fun hout => ?_)⟩⟩
      · rw [nJ_eq (by omega) (by omega)] at hj'
        subst hj'
        rw [rt_some]
        refine b_11_5 ?_
        rw [if_neg (by decide)]
        split
        · rename_i hw
          rw [if_pos (Or.inl hw)] at kk
          rw [rt_some]
          refine b_129_86 ?_
          rw [if_pos rfl]; exact kk
        · rename_i hw
          obtain ⟨q, hq, rfl, hq2⟩ := w10 hw
          refine ⟨89, ⟨so_84, rp_84_4 hP⟩, 300, ⟨sa_89, hin⟩, ?_⟩
          rw [nI_cl (by omega), l7 j hjm, hq2]
          have hb := b2 j hjm
          split
          · rename_i hle
            rw [if_pos (Or.inr (by rw [hq2]; exact hle))] at kk
            rw [rt_some]
            refine b_129_86 ?_
            rw [if_pos rfl]; exact kk
          · rename_i hle
            rw [if_neg (by intro h; rcases h with h | h; exact hw h; rw [hq2] at h; exact hle h), hq2, nI_cl (by omega)] at kk
            rw [nJ_le (by omega) (by omega)] at hle
            rw [rt_some]
            refine b_129_86 ?_
            rw [if_neg (by decide)]
            have hsum := psum_in (f := R.2.2.2.2.2.2.1) hjm
            have htot := psum_le (f := R.2.2.2.2.2.2.1) R.2.2.2.2.2.1.1 b2
            refine ⟨so_84, b_12_0 ⟨so_84, c_isLine so_84 l1 (by omega) (fun j' hj' hjm' => ?_) (fun hout => ?_)⟩⟩
            · rw [nJ_eq (by omega) (by omega)] at hj'
              subst hj'
              rw [rt_some]
              refine b_12_5 ?_
              rw [if_neg (by decide), hq2, if_neg (nI_nn (by omega))]
              refine ⟨89, ⟨so_84, rp_84_4 hP⟩, 300, ⟨sa_89, hin⟩, ?_⟩
              rw [nI_cl (by omega), l7 j hjm, if_neg (by rw [nJ_le (by omega) (by omega)]; omega)]
              refine ⟨90, ⟨so_84, rp_84_5 hP⟩, 88, ⟨so_84, rp_84_3 hP⟩, 300, ⟨sa_88, hin⟩, 9300, ?_⟩
              rw [l8 j hjm (by omega), nJ_add, nI_cl (by omega)]
              refine ⟨⟨sa_90, inR_nI (by omega) (by omega)⟩, ?_⟩
              rw [l9 j hjm q (by omega), rt_some]
              exact b_129_98 kk
            · exact absurd hout (by intro h; rcases h with h | h; exact nI_nn (by omega) h; rw [nJ_le (by omega) (by omega)] at h; omega)
      · exact absurd hout (by intro h; rcases h with h | h; exact nI_nn (by omega) h; rw [nJ_le (by omega) (by omega)] at h; omega)
  · rw [lnAns_out hout] at kk
    rw [rt_some]
    refine b_129_13 ?_
    rw [if_neg (by decide)]
    exact kk
/-- the reference's line -/
theorem r_line {s : sT} {R : rmT} {I : Nat → Option rmT} (hR : simR s R I) (hB : lnB R.2.2.2.2.2) (i w : Int32) : doR (yY L xs) (D + 1) 197 [.ref 186, .int i, .int w] s R I (some (lnAns R.2.2.2.2.2 i w)) R I := by
  intro K k
  have kk := k s hR (fun i _ => ⟨rfl, rfl⟩)
  obtain ⟨hM, ⟨_, _, _, l1, l4, l5, l6, l7, l9, l3, l11⟩, -, -⟩ := hR
  simp only [Nat.zero_add] at l1 l4 l5 l6 l7 l9 l3
  obtain ⟨b1, b2, b3⟩ := hB
  refine b_197_0 ⟨187, ⟨so_186, rm_186_0 hM⟩, 42882, ⟨sa_187, inR_nI (k := 186) (by decide) (by decide)⟩, ?_⟩
  rw [nI_lit 186, nI_cl (by decide), l1]
  refine m_isIn0 (by omega) (fun j hj hjm => ?_) (fun hout => ?_)
  · subst hj
    rw [lnAns_in hjm b1] at kk
    rw [rt_some]
    refine b_197_15 ?_
    rw [if_pos (by decide)]
    refine ⟨fun e => ?_, fun e => ?_, fun e => ?_, fun e => ?_, fun e => ?_⟩
    · refine ⟨187, ⟨so_186, rm_186_0 hM⟩, 42882, ?_⟩
      rw [nI_lit 187, nJ_add, nI_cl (by omega), l4 j hjm]
      rw [if_pos e] at kk; exact ⟨⟨sa_187, inR_nI (by omega) (by omega)⟩, kk⟩
    · refine ⟨187, ⟨so_186, rm_186_0 hM⟩, 42882, ?_⟩
      rw [nI_lit 487, nJ_add, nI_cl (by omega), l5 j hjm]
      rw [if_neg (by rw [e]; decide), if_pos e] at kk; exact ⟨⟨sa_187, inR_nI (by omega) (by omega)⟩, kk⟩
    · refine ⟨187, ⟨so_186, rm_186_0 hM⟩, 42882, ?_⟩
      rw [nI_lit 787, nJ_add, nI_cl (by omega), l6 j hjm]
      rw [if_neg (by rw [e]; decide), if_neg (by rw [e]; decide), if_pos e] at kk; exact ⟨⟨sa_187, inR_nI (by omega) (by omega)⟩, kk⟩
    · refine ⟨187, ⟨so_186, rm_186_0 hM⟩, 42882, ?_⟩
      rw [nI_lit 1087, nJ_add, nI_cl (by omega), l7 j hjm]
      rw [if_neg (by rw [e]; decide), if_neg (by rw [e]; decide), if_neg (by rw [e]; decide), if_pos e] at kk; exact ⟨⟨sa_187, inR_nI (by omega) (by omega)⟩, kk⟩
    · rw [if_neg e.1, if_neg e.2.1, if_neg e.2.2.1, if_neg e.2.2.2] at kk
      refine ⟨187, ⟨so_186, rm_186_0 hM⟩, 42882, ?_⟩
      rw [nI_lit 1087, nJ_add, nI_cl (by omega), l7 j hjm]
      refine ⟨⟨sa_187, inR_nI (by omega) (by omega)⟩, ?_⟩
      have hb := b2 j hjm
      refine m_isIn0 (by omega) (fun q hq hqn => ?_) (fun hout => ?_)
      · have hw : w = nI (q + 10) := by
          have := congrArg (· + (10 : Int32)) hq
          simp only [Int32.sub_add_cancel] at this
          rw [this, nI_lit 10, nJ_add]
        subst hw
        rw [if_neg, hq, nI_cl (by omega)] at kk
        · rw [rt_some]
          refine b_197_116 ?_
          rw [if_neg (by decide)]
          refine ⟨187, ⟨so_186, rm_186_0 hM⟩, 42882, ?_⟩
          have e3 : (1387 : Int32) + (30 : Int32) * nI j + nI (q + 10) - (10 : Int32) = nI (1387 + 30 * j + q) := by
            rw [nI_lit 1387, nI_lit 30, nI_lit 10, nJ_mul, nJ_add, nJ_add, nJ_sub (by omega)]
            congr 1
          rw [e3, nI_cl (by omega), l9 j hjm q hqn]
          exact ⟨⟨sa_187, inR_nI (by omega) (by omega)⟩, kk⟩
        · intro h
          rcases h with h | h
          · rw [nI_lit 10, nJ_lt (by omega) (by omega)] at h; omega
          · rw [hq, nJ_le (by omega) (by omega)] at h; omega
      · rw [if_pos] at kk
        · rw [rt_some]
          refine b_197_116 ?_
          rw [if_pos rfl]; exact kk
        · rcases hout with h | h
          · refine Classical.byContradiction fun hn => ?_
            have hw : ¬ w < 10 := fun q => hn (Or.inl q)
            obtain ⟨q, hq, rfl, hq2⟩ := w10 hw
            rw [hq2] at h
            exact nI_nn (by omega) h
          · exact Or.inr h
  · rw [lnAns_out hout] at kk
    rw [rt_some]
    refine b_197_15 ?_
    rw [if_neg (by decide)]
    exact kk
theorem pr_line (a1 a2 : Int32) : pairOK (yY L xs) (Sim GD) (D + 2) 129 197 [.ref 0, .int a1, .int a2, .null] [.ref 186, .int a1, .int a2] true :=
  pair_of fun _ R I hC hR hB hI => ⟨some (lnAns R.2.2.2.2.2 a1 a2), R, I, rfl, hB, hI, c_line hC hB.2.2.2.2 a1 a2, fun _ hR1 => r_line (D := D + 1) hR1 hB.2.2.2.2 a1 a2⟩
end H2
