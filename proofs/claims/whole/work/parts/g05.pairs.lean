/-! WORDS, WORD: the pairs -/
section WP
variable {L : Nat} {xs : Nat → Int32} {d : Nat} {s : sT} {K : Option Int32 → sT → Prop} {R : rmT} {I : Nat → Option rmT} {X0 X1 : Cond} {w n : Nat}
theorem r_listed_no {a b x3 : Int32} (hR : simR s R I) (h : ¬ ((∃ w, w < 6 ∧ a = nI w) ∧ ∃ n, n < 9 ∧ b = nI n)) (hK : K (some (-1)) s) : tT (yY L xs) (d + 1) 226 0 [.ref 186, .int a, .int b, .int x3, .null, .null] [] s K := by
  refine b_226_0 (m_isIn (fun a1 a2 => ?_) (fun q => ?_))
  · rw [rt_some]
    refine b_226_6 ?_
    rw [if_neg (by decide)]
    refine m_isIn (fun b1 b2 => absurd ?_ h) (fun q => ?_)
    · obtain ⟨w, hw, rfl⟩ := i32_ex a1
      obtain ⟨n, hn, rfl⟩ := i32_ex b1
      rw [nI_lit 5, nJ_lt (by omega) hw] at a2
      rw [nI_lit 8, nJ_lt (by omega) hn] at b2
      exact ⟨⟨w, by omega, rfl⟩, n, by omega, rfl⟩
    · rw [rt_some]
      refine b_226_16 ?_
      rw [if_neg (fun q => q rfl)]
      exact hK
  · rw [rt_some]
    refine b_226_6 ?_
    rw [if_pos rfl]
    exact hK
theorem c_canCount {a b : Int32} (h1 : ((∃ w, w < 6 ∧ a = nI w) ∧ ∃ n, n < 9 ∧ b = nI n) → K (some 1) s) (h0 : ¬ ((∃ w, w < 6 ∧ a = nI w) ∧ ∃ n, n < 9 ∧ b = nI n) → K (some 0) s) : tT (yY L xs) d 140 0 [.int a, .int b] [] s K := by
  refine b_140_0 ?_
  by_cases a0 : a < 0
  · rw [if_pos a0]
    exact h0 (by rintro ⟨⟨w, hw, rfl⟩, -⟩; exact nI_nn (by omega) a0)
  rw [if_neg a0]
  by_cases a6 : (6 : Int32) ≤ a
  · rw [if_pos a6]
    refine h0 ?_
    rintro ⟨⟨w, hw, rfl⟩, -⟩
    rw [nI_lit 6, nJ_le (by omega) (by omega)] at a6; omega
  rw [if_neg a6]
  by_cases b0 : b < 0
  · rw [if_pos b0]
    exact h0 (by rintro ⟨-, n, hn, rfl⟩; exact nI_nn (by omega) b0)
  rw [if_neg b0]
  by_cases b8 : (8 : Int32) < b
  · rw [if_pos b8]
    refine h0 ?_
    rintro ⟨-, n, hn, rfl⟩
    rw [nI_lit 8, nJ_lt (by omega) (by omega)] at b8; omega
  rw [if_neg b8]
  obtain ⟨w, hw, rfl⟩ := i32_ex a0
  obtain ⟨n, hn, rfl⟩ := i32_ex b0
  rw [nI_lit 6, nJ_le (by omega) hw] at a6
  rw [nI_lit 8, nJ_lt (by omega) hn] at b8
  exact h1 ⟨⟨w, by omega, rfl⟩, n, by omega, rfl⟩
theorem simC_Z {s' : sT} (hC : simC s R I) (f : fZ s s') (hP : rP s'.2) : simC s' R I ∧ ∀ i, (186 ≤ i ∨ i < 9 ∨ i = 26 ∨ i = 35) → s'.1 i = s.1 i ∧ s'.2 i = s.2 i :=
  ⟨simC_low hC hP (f.1 64 (by decide)) (fun i a b => f.2 i (by omega)), fun i hi => ⟨f.2 i (by omega), f.1 i (by omega)⟩⟩
theorem c_words (hw : w < 6) (hn : n ≤ 8) (hC : simC s R I) (h0 : cn X0 ∧ z0 X0 ≤ 30 ∧ R.2.2.1 = sdOf X0) (h1 : cn X1 ∧ z0 X1 ≤ 30 ∧ R.2.2.2.1 = sdOf X1) : doC (yY L xs) (d + 20) 124 [.ref 0, .int (nI w), .int (nI n)] s R I (some (nI (cw (tms X0) (tms X1) w n 1 1))) R I := by
  intro K kk
  have hP := hC.1
  obtain ⟨c0, hc0, hx0, hs0⟩ := now_side2 (L := L) (xs := xs) (σ := 0) hC (by decide) (show sideOf R 0 = _ from h0.2.2) h0.1 h0.2.1
  obtain ⟨c1, hc1, hx1, hs1⟩ := now_side2 (L := L) (xs := xs) (σ := 1) hC (by decide) (show sideOf R 1 = _ from h1.2.2) h1.1 h1.2.1
  refine b_124_0 (c_canCount (fun _ => ?_) (fun h => absurd ⟨⟨w, hw, rfl⟩, n, by omega, rfl⟩ h))
  rw [rt_some]
  refine b_124_5 ?_
  rw [if_pos (by decide)]
  refine ⟨56, ⟨so_0, rp_0_4 hP⟩, 61, ⟨so_0, rp_0_8 hP⟩, 64, ⟨so_61, rp_61_1 hP⟩, 5, 2, c0, ⟨sq_64, inR_nI (k := 0) (by decide) (by decide), hc0⟩, 61, ⟨so_0, rp_0_8 hP⟩, 64, ⟨so_61, rp_61_1 hP⟩, 5, 2, c1, ⟨sq_64, inR_nI (k := 1) (by decide) (by decide), hc1⟩, so_56, c_howMany (d := d) hw hn hP hx0 hx1 hs0 hs1 (fun s' f hQ => ?_)⟩
  rw [rt_some]
  obtain ⟨z1, z2⟩ := simC_Z hC f hQ.1
  exact b_124_37 (kk s' z1 z2)
def wrA (F0 F1 : List Cond) (w n : Nat) (x : Int32) : Int32 := if x < 0 then -1 else if x.toNatClampNeg < cw F0 F1 w n 1 1 then nI (kth F0 F1 w n 1 1 x.toNatClampNeg 0) else -1
theorem c_word (hw : w < 6) (hn : n ≤ 8) (x : Int32) (hC : simC s R I) (h0 : cn X0 ∧ z0 X0 ≤ 30 ∧ R.2.2.1 = sdOf X0) (h1 : cn X1 ∧ z0 X1 ≤ 30 ∧ R.2.2.2.1 = sdOf X1) : doC (yY L xs) (d + 21) 125 [.ref 0, .int (nI w), .int (nI n), .int x] s R I (some (wrA (tms X0) (tms X1) w n x)) R I := by
  intro K kk
  have hP := hC.1
  obtain ⟨c0, hc0, hx0, hs0⟩ := now_side2 (L := L) (xs := xs) (σ := 0) hC (by decide) (show sideOf R 0 = _ from h0.2.2) h0.1 h0.2.1
  obtain ⟨c1, hc1, hx1, hs1⟩ := now_side2 (L := L) (xs := xs) (σ := 1) hC (by decide) (show sideOf R 1 = _ from h1.2.2) h1.1 h1.2.1
  unfold wrA at kk
  refine b_125_0 (c_canCount (fun _ => ?_) (fun h => absurd ⟨⟨w, hw, rfl⟩, n, by omega, rfl⟩ h))
  rw [rt_some]
  refine b_125_5 ?_
  rw [if_neg (by decide)]
  by_cases hx : x < 0
  · rw [if_neg (Int32.not_le.mpr hx)]
    rw [if_pos hx] at kk
    exact kk s hC (fun _ _ => ⟨rfl, rfl⟩)
  rw [if_pos (Int32.not_lt.mp hx)]
  rw [if_neg hx] at kk
  obtain ⟨k, hk, rfl⟩ := i32_ex hx
  rw [nI_cl hk] at kk
  refine ⟨56, ⟨so_0, rp_0_4 hP⟩, 61, ⟨so_0, rp_0_8 hP⟩, 64, ⟨so_61, rp_61_1 hP⟩, 5, 2, c0, ⟨sq_64, inR_nI (k := 0) (by decide) (by decide), hc0⟩, 61, ⟨so_0, rp_0_8 hP⟩, 64, ⟨so_61, rp_61_1 hP⟩, 5, 2, c1, ⟨sq_64, inR_nI (k := 1) (by decide) (by decide), hc1⟩, so_56, c_nth (d := d) hw hn hk hP hx0 hx1 hs0 hs1 (fun hlt s' f hP' => ?_) (fun hlt s' f hP' => ?_)⟩
  · rw [rt_some]
    rw [if_pos hlt] at kk
    obtain ⟨z1, z2⟩ := simC_Z hC f hP'
    exact b_125_42 (kk s' z1 z2)
  · rw [rt_some]
    rw [if_neg hlt] at kk
    obtain ⟨z1, z2⟩ := simC_Z hC f hP'
    exact b_125_42 (kk s' z1 z2)
end WP
